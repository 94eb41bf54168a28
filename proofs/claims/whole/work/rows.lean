section
-- ===== PART A: goes FIRST, ahead of the names: the tables' words, and 'selects' of the private methods out of them =====
/-- a private method of a class that the tables say can be made, by its rows of tables_1 -/
def lw_okq (q : MethodName × Nat) : Prop := (q.1.cls ≠ "java/lang/invoke/MethodHandle" ∧ q.1.cls ≠ "java/lang/invoke/VarHandle") ∧ Cond.instantiable q.1.cls q.2 ∈ tables_1 ∧ Cond.privateMethod q.1 ∈ tables_1 ∧ Cond.instanceMethod q.1 ∈ tables_1
theorem lw_p0 : lw_okq (⟨"BoardPress$TextReader", "readToken", "()Z"⟩, 9) := ⟨⟨by decide +kernel, by decide +kernel⟩, List.mem_of_getElem? (i := 27) (by decide +kernel), List.mem_of_getElem? (i := 306) (by decide +kernel), List.mem_of_getElem? (i := 307) (by decide +kernel)⟩
theorem lw_p1 : lw_okq (⟨"BoardPress$TextReader", "refuse", "(II)Z"⟩, 9) := ⟨⟨by decide +kernel, by decide +kernel⟩, List.mem_of_getElem? (i := 27) (by decide +kernel), List.mem_of_getElem? (i := 321) (by decide +kernel), List.mem_of_getElem? (i := 322) (by decide +kernel)⟩
theorem lw_p2 : lw_okq (⟨"BoardPress$TextReader", "readLine", "()Z"⟩, 9) := ⟨⟨by decide +kernel, by decide +kernel⟩, List.mem_of_getElem? (i := 27) (by decide +kernel), List.mem_of_getElem? (i := 325) (by decide +kernel), List.mem_of_getElem? (i := 326) (by decide +kernel)⟩
theorem lw_p3 : lw_okq (⟨"BoardPress$TextReader", "lineNamed", "()I"⟩, 9) := ⟨⟨by decide +kernel, by decide +kernel⟩, List.mem_of_getElem? (i := 27) (by decide +kernel), List.mem_of_getElem? (i := 329) (by decide +kernel), List.mem_of_getElem? (i := 330) (by decide +kernel)⟩
theorem lw_p4 : lw_okq (⟨"BoardPress$TextReader", "isNamed", "(Ljava/lang/String;)Z"⟩, 9) := ⟨⟨by decide +kernel, by decide +kernel⟩, List.mem_of_getElem? (i := 27) (by decide +kernel), List.mem_of_getElem? (i := 334) (by decide +kernel), List.mem_of_getElem? (i := 335) (by decide +kernel)⟩
theorem lw_p5 : lw_okq (⟨"BoardPress$TextReader", "readMan", "(I)Z"⟩, 9) := ⟨⟨by decide +kernel, by decide +kernel⟩, List.mem_of_getElem? (i := 27) (by decide +kernel), List.mem_of_getElem? (i := 392) (by decide +kernel), List.mem_of_getElem? (i := 393) (by decide +kernel)⟩
theorem lw_p6 : lw_okq (⟨"BoardPress$TextReader", "takeNumber", "(II)Z"⟩, 9) := ⟨⟨by decide +kernel, by decide +kernel⟩, List.mem_of_getElem? (i := 27) (by decide +kernel), List.mem_of_getElem? (i := 400) (by decide +kernel), List.mem_of_getElem? (i := 401) (by decide +kernel)⟩
theorem lw_p7 : lw_okq (⟨"BoardPress$TextReader", "readRestOfWalk", "(LBoardPress$Man;)Z"⟩, 9) := ⟨⟨by decide +kernel, by decide +kernel⟩, List.mem_of_getElem? (i := 27) (by decide +kernel), List.mem_of_getElem? (i := 408) (by decide +kernel), List.mem_of_getElem? (i := 409) (by decide +kernel)⟩
theorem lw_p8 : lw_okq (⟨"BoardPress$TextReader", "readStreet", "()Z"⟩, 9) := ⟨⟨by decide +kernel, by decide +kernel⟩, List.mem_of_getElem? (i := 27) (by decide +kernel), List.mem_of_getElem? (i := 415) (by decide +kernel), List.mem_of_getElem? (i := 416) (by decide +kernel)⟩
theorem lw_p9 : lw_okq (⟨"BoardPress$TextReader", "takeSemicolon", "()Z"⟩, 9) := ⟨⟨by decide +kernel, by decide +kernel⟩, List.mem_of_getElem? (i := 27) (by decide +kernel), List.mem_of_getElem? (i := 423) (by decide +kernel), List.mem_of_getElem? (i := 424) (by decide +kernel)⟩
theorem lw_p10 : lw_okq (⟨"BoardPress$TextReader", "readReader", "()Z"⟩, 9) := ⟨⟨by decide +kernel, by decide +kernel⟩, List.mem_of_getElem? (i := 27) (by decide +kernel), List.mem_of_getElem? (i := 427) (by decide +kernel), List.mem_of_getElem? (i := 428) (by decide +kernel)⟩
theorem lw_p11 : lw_okq (⟨"BoardPress$TextReader", "readRain", "()Z"⟩, 9) := ⟨⟨by decide +kernel, by decide +kernel⟩, List.mem_of_getElem? (i := 27) (by decide +kernel), List.mem_of_getElem? (i := 435) (by decide +kernel), List.mem_of_getElem? (i := 436) (by decide +kernel)⟩
theorem lw_p12 : lw_okq (⟨"BoardPress$Town", "hasStreet", "(II)Z"⟩, 9) := ⟨⟨by decide +kernel, by decide +kernel⟩, List.mem_of_getElem? (i := 49) (by decide +kernel), List.mem_of_getElem? (i := 448) (by decide +kernel), List.mem_of_getElem? (i := 449) (by decide +kernel)⟩
theorem lw_p13 : lw_okq (⟨"BoardPress$Town", "minutesOf", "(LBoardPress$Reader;)J"⟩, 9) := ⟨⟨by decide +kernel, by decide +kernel⟩, List.mem_of_getElem? (i := 49) (by decide +kernel), List.mem_of_getElem? (i := 485) (by decide +kernel), List.mem_of_getElem? (i := 486) (by decide +kernel)⟩
theorem lw_p14 : lw_okq (⟨"BoardPress$Man", "turnByOne", "()V"⟩, 4) := ⟨⟨by decide +kernel, by decide +kernel⟩, List.mem_of_getElem? (i := 58) (by decide +kernel), List.mem_of_getElem? (i := 571) (by decide +kernel), List.mem_of_getElem? (i := 572) (by decide +kernel)⟩
theorem lw_p15 : lw_okq (⟨"BoardPress", "possibleKinds", "(I)I"⟩, 11) := ⟨⟨by decide +kernel, by decide +kernel⟩, List.mem_of_getElem? (i := 19) (by decide +kernel), List.mem_of_getElem? (i := 751) (by decide +kernel), List.mem_of_getElem? (i := 752) (by decide +kernel)⟩
def lw_privs_1 : List (MethodName × Nat) := [(⟨"BoardPress$TextReader", "readToken", "()Z"⟩, 9), (⟨"BoardPress$TextReader", "refuse", "(II)Z"⟩, 9), (⟨"BoardPress$TextReader", "readLine", "()Z"⟩, 9), (⟨"BoardPress$TextReader", "lineNamed", "()I"⟩, 9), (⟨"BoardPress$TextReader", "isNamed", "(Ljava/lang/String;)Z"⟩, 9), (⟨"BoardPress$TextReader", "readMan", "(I)Z"⟩, 9), (⟨"BoardPress$TextReader", "takeNumber", "(II)Z"⟩, 9), (⟨"BoardPress$TextReader", "readRestOfWalk", "(LBoardPress$Man;)Z"⟩, 9), (⟨"BoardPress$TextReader", "readStreet", "()Z"⟩, 9), (⟨"BoardPress$TextReader", "takeSemicolon", "()Z"⟩, 9), (⟨"BoardPress$TextReader", "readReader", "()Z"⟩, 9), (⟨"BoardPress$TextReader", "readRain", "()Z"⟩, 9), (⟨"BoardPress$Town", "hasStreet", "(II)Z"⟩, 9), (⟨"BoardPress$Town", "minutesOf", "(LBoardPress$Reader;)J"⟩, 9), (⟨"BoardPress$Man", "turnByOne", "()V"⟩, 4), (⟨"BoardPress", "possibleKinds", "(I)I"⟩, 11)]
theorem lw_r1 : ∀ q ∈ lw_privs_1, lw_okq q := List.forall_mem_cons.mpr ⟨lw_p0, List.forall_mem_cons.mpr ⟨lw_p1, List.forall_mem_cons.mpr ⟨lw_p2, List.forall_mem_cons.mpr ⟨lw_p3, List.forall_mem_cons.mpr ⟨lw_p4, List.forall_mem_cons.mpr ⟨lw_p5, List.forall_mem_cons.mpr ⟨lw_p6, List.forall_mem_cons.mpr ⟨lw_p7, List.forall_mem_cons.mpr ⟨lw_p8, List.forall_mem_cons.mpr ⟨lw_p9, List.forall_mem_cons.mpr ⟨lw_p10, List.forall_mem_cons.mpr ⟨lw_p11, List.forall_mem_cons.mpr ⟨lw_p12, List.forall_mem_cons.mpr ⟨lw_p13, List.forall_mem_cons.mpr ⟨lw_p14, List.forall_mem_cons.mpr ⟨lw_p15, fun _ h => absurd h List.not_mem_nil⟩⟩⟩⟩⟩⟩⟩⟩⟩⟩⟩⟩⟩⟩⟩⟩
theorem lw_p16 : lw_okq (⟨"BoardPress", "noteWhenKnown", "(II)V"⟩, 11) := ⟨⟨by decide +kernel, by decide +kernel⟩, List.mem_of_getElem? (i := 19) (by decide +kernel), List.mem_of_getElem? (i := 770) (by decide +kernel), List.mem_of_getElem? (i := 771) (by decide +kernel)⟩
theorem lw_p17 : lw_okq (⟨"BoardPress", "kindsKnownBy", "(II)I"⟩, 11) := ⟨⟨by decide +kernel, by decide +kernel⟩, List.mem_of_getElem? (i := 19) (by decide +kernel), List.mem_of_getElem? (i := 774) (by decide +kernel), List.mem_of_getElem? (i := 775) (by decide +kernel)⟩
theorem lw_p18 : lw_okq (⟨"BoardPress$Sheet", "hasCell", "(I)Z"⟩, 3) := ⟨⟨by decide +kernel, by decide +kernel⟩, List.mem_of_getElem? (i := 223) (by decide +kernel), List.mem_of_getElem? (i := 819) (by decide +kernel), List.mem_of_getElem? (i := 820) (by decide +kernel)⟩
theorem lw_p19 : lw_okq (⟨"BoardPress", "canStand", "(LBoardPress$Sheet;I)Z"⟩, 11) := ⟨⟨by decide +kernel, by decide +kernel⟩, List.mem_of_getElem? (i := 19) (by decide +kernel), List.mem_of_getElem? (i := 836) (by decide +kernel), List.mem_of_getElem? (i := 837) (by decide +kernel)⟩
theorem lw_p20 : lw_okq (⟨"BoardPressModel", "step", "()V"⟩, 31) := ⟨⟨by decide +kernel, by decide +kernel⟩, List.mem_of_getElem? (i := 861) (by decide +kernel), List.mem_of_getElem? (i := 977) (by decide +kernel), List.mem_of_getElem? (i := 978) (by decide +kernel)⟩
theorem lw_p21 : lw_okq (⟨"BoardPressModel", "byteAt", "(I)I"⟩, 31) := ⟨⟨by decide +kernel, by decide +kernel⟩, List.mem_of_getElem? (i := 861) (by decide +kernel), List.mem_of_getElem? (i := 981) (by decide +kernel), List.mem_of_getElem? (i := 982) (by decide +kernel)⟩
theorem lw_p22 : lw_okq (⟨"BoardPressModel", "fails", "(I)V"⟩, 31) := ⟨⟨by decide +kernel, by decide +kernel⟩, List.mem_of_getElem? (i := 861) (by decide +kernel), List.mem_of_getElem? (i := 989) (by decide +kernel), List.mem_of_getElem? (i := 990) (by decide +kernel)⟩
theorem lw_p23 : lw_okq (⟨"BoardPressModel", "readLine", "()V"⟩, 31) := ⟨⟨by decide +kernel, by decide +kernel⟩, List.mem_of_getElem? (i := 861) (by decide +kernel), List.mem_of_getElem? (i := 993) (by decide +kernel), List.mem_of_getElem? (i := 994) (by decide +kernel)⟩
theorem lw_p24 : lw_okq (⟨"BoardPressModel", "nameHere", "()I"⟩, 31) := ⟨⟨by decide +kernel, by decide +kernel⟩, List.mem_of_getElem? (i := 861) (by decide +kernel), List.mem_of_getElem? (i := 997) (by decide +kernel), List.mem_of_getElem? (i := 998) (by decide +kernel)⟩
theorem lw_p25 : lw_okq (⟨"BoardPressModel", "isFull", "(I)Z"⟩, 31) := ⟨⟨by decide +kernel, by decide +kernel⟩, List.mem_of_getElem? (i := 861) (by decide +kernel), List.mem_of_getElem? (i := 1002) (by decide +kernel), List.mem_of_getElem? (i := 1003) (by decide +kernel)⟩
theorem lw_p26 : lw_okq (⟨"BoardPressModel", "readMore", "(I)V"⟩, 31) := ⟨⟨by decide +kernel, by decide +kernel⟩, List.mem_of_getElem? (i := 861) (by decide +kernel), List.mem_of_getElem? (i := 1006) (by decide +kernel), List.mem_of_getElem? (i := 1007) (by decide +kernel)⟩
theorem lw_p27 : lw_okq (⟨"BoardPressModel", "readMan", "(I)V"⟩, 31) := ⟨⟨by decide +kernel, by decide +kernel⟩, List.mem_of_getElem? (i := 861) (by decide +kernel), List.mem_of_getElem? (i := 1010) (by decide +kernel), List.mem_of_getElem? (i := 1011) (by decide +kernel)⟩
theorem lw_p28 : lw_okq (⟨"BoardPressModel", "number", "(II)I"⟩, 31) := ⟨⟨by decide +kernel, by decide +kernel⟩, List.mem_of_getElem? (i := 861) (by decide +kernel), List.mem_of_getElem? (i := 1014) (by decide +kernel), List.mem_of_getElem? (i := 1015) (by decide +kernel)⟩
theorem lw_p29 : lw_okq (⟨"BoardPressModel", "readStreet", "()V"⟩, 31) := ⟨⟨by decide +kernel, by decide +kernel⟩, List.mem_of_getElem? (i := 861) (by decide +kernel), List.mem_of_getElem? (i := 1018) (by decide +kernel), List.mem_of_getElem? (i := 1019) (by decide +kernel)⟩
theorem lw_p30 : lw_okq (⟨"BoardPressModel", "readReader", "()V"⟩, 31) := ⟨⟨by decide +kernel, by decide +kernel⟩, List.mem_of_getElem? (i := 861) (by decide +kernel), List.mem_of_getElem? (i := 1022) (by decide +kernel), List.mem_of_getElem? (i := 1023) (by decide +kernel)⟩
theorem lw_p31 : lw_okq (⟨"BoardPressModel", "areWalks", "()Z"⟩, 31) := ⟨⟨by decide +kernel, by decide +kernel⟩, List.mem_of_getElem? (i := 861) (by decide +kernel), List.mem_of_getElem? (i := 1026) (by decide +kernel), List.mem_of_getElem? (i := 1027) (by decide +kernel)⟩
def lw_privs_2 : List (MethodName × Nat) := [(⟨"BoardPress", "noteWhenKnown", "(II)V"⟩, 11), (⟨"BoardPress", "kindsKnownBy", "(II)I"⟩, 11), (⟨"BoardPress$Sheet", "hasCell", "(I)Z"⟩, 3), (⟨"BoardPress", "canStand", "(LBoardPress$Sheet;I)Z"⟩, 11), (⟨"BoardPressModel", "step", "()V"⟩, 31), (⟨"BoardPressModel", "byteAt", "(I)I"⟩, 31), (⟨"BoardPressModel", "fails", "(I)V"⟩, 31), (⟨"BoardPressModel", "readLine", "()V"⟩, 31), (⟨"BoardPressModel", "nameHere", "()I"⟩, 31), (⟨"BoardPressModel", "isFull", "(I)Z"⟩, 31), (⟨"BoardPressModel", "readMore", "(I)V"⟩, 31), (⟨"BoardPressModel", "readMan", "(I)V"⟩, 31), (⟨"BoardPressModel", "number", "(II)I"⟩, 31), (⟨"BoardPressModel", "readStreet", "()V"⟩, 31), (⟨"BoardPressModel", "readReader", "()V"⟩, 31), (⟨"BoardPressModel", "areWalks", "()Z"⟩, 31)]
theorem lw_r2 : ∀ q ∈ lw_privs_2, lw_okq q := List.forall_mem_cons.mpr ⟨lw_p16, List.forall_mem_cons.mpr ⟨lw_p17, List.forall_mem_cons.mpr ⟨lw_p18, List.forall_mem_cons.mpr ⟨lw_p19, List.forall_mem_cons.mpr ⟨lw_p20, List.forall_mem_cons.mpr ⟨lw_p21, List.forall_mem_cons.mpr ⟨lw_p22, List.forall_mem_cons.mpr ⟨lw_p23, List.forall_mem_cons.mpr ⟨lw_p24, List.forall_mem_cons.mpr ⟨lw_p25, List.forall_mem_cons.mpr ⟨lw_p26, List.forall_mem_cons.mpr ⟨lw_p27, List.forall_mem_cons.mpr ⟨lw_p28, List.forall_mem_cons.mpr ⟨lw_p29, List.forall_mem_cons.mpr ⟨lw_p30, List.forall_mem_cons.mpr ⟨lw_p31, fun _ h => absurd h List.not_mem_nil⟩⟩⟩⟩⟩⟩⟩⟩⟩⟩⟩⟩⟩⟩⟩⟩
theorem lw_p32 : lw_okq (⟨"BoardPressModel", "isWalkOn", "(II)Z"⟩, 31) := ⟨⟨by decide +kernel, by decide +kernel⟩, List.mem_of_getElem? (i := 861) (by decide +kernel), List.mem_of_getElem? (i := 1030) (by decide +kernel), List.mem_of_getElem? (i := 1031) (by decide +kernel)⟩
theorem lw_p33 : lw_okq (⟨"BoardPressModel", "isStreetOn", "(III)Z"⟩, 31) := ⟨⟨by decide +kernel, by decide +kernel⟩, List.mem_of_getElem? (i := 861) (by decide +kernel), List.mem_of_getElem? (i := 1034) (by decide +kernel), List.mem_of_getElem? (i := 1035) (by decide +kernel)⟩
theorem lw_p34 : lw_okq (⟨"BoardPressModel", "pairsOn", "(I)I"⟩, 31) := ⟨⟨by decide +kernel, by decide +kernel⟩, List.mem_of_getElem? (i := 861) (by decide +kernel), List.mem_of_getElem? (i := 1046) (by decide +kernel), List.mem_of_getElem? (i := 1047) (by decide +kernel)⟩
theorem lw_p35 : lw_okq (⟨"BoardPressModel", "learnsOn", "(I)V"⟩, 31) := ⟨⟨by decide +kernel, by decide +kernel⟩, List.mem_of_getElem? (i := 861) (by decide +kernel), List.mem_of_getElem? (i := 1050) (by decide +kernel), List.mem_of_getElem? (i := 1051) (by decide +kernel)⟩
theorem lw_p36 : lw_okq (⟨"BoardPressModel", "readsOn", "(IIIIZ)Z"⟩, 31) := ⟨⟨by decide +kernel, by decide +kernel⟩, List.mem_of_getElem? (i := 861) (by decide +kernel), List.mem_of_getElem? (i := 1054) (by decide +kernel), List.mem_of_getElem? (i := 1055) (by decide +kernel)⟩
theorem lw_p37 : lw_okq (⟨"BoardPressModel", "isWetOn", "(II)Z"⟩, 31) := ⟨⟨by decide +kernel, by decide +kernel⟩, List.mem_of_getElem? (i := 861) (by decide +kernel), List.mem_of_getElem? (i := 1058) (by decide +kernel), List.mem_of_getElem? (i := 1059) (by decide +kernel)⟩
theorem lw_p38 : lw_okq (⟨"BoardPressModel", "atOn", "(IIIZ)I"⟩, 31) := ⟨⟨by decide +kernel, by decide +kernel⟩, List.mem_of_getElem? (i := 861) (by decide +kernel), List.mem_of_getElem? (i := 1062) (by decide +kernel), List.mem_of_getElem? (i := 1063) (by decide +kernel)⟩
theorem lw_p39 : lw_okq (⟨"BoardPressModel", "paceOn", "(II)I"⟩, 31) := ⟨⟨by decide +kernel, by decide +kernel⟩, List.mem_of_getElem? (i := 861) (by decide +kernel), List.mem_of_getElem? (i := 1066) (by decide +kernel), List.mem_of_getElem? (i := 1067) (by decide +kernel)⟩
theorem lw_p40 : lw_okq (⟨"BoardPressModel", "knownOf", "(I)I"⟩, 31) := ⟨⟨by decide +kernel, by decide +kernel⟩, List.mem_of_getElem? (i := 861) (by decide +kernel), List.mem_of_getElem? (i := 1070) (by decide +kernel), List.mem_of_getElem? (i := 1071) (by decide +kernel)⟩
theorem lw_p41 : lw_okq (⟨"BoardPressModel", "wholeOf", "(II)I"⟩, 31) := ⟨⟨by decide +kernel, by decide +kernel⟩, List.mem_of_getElem? (i := 861) (by decide +kernel), List.mem_of_getElem? (i := 1074) (by decide +kernel), List.mem_of_getElem? (i := 1075) (by decide +kernel)⟩
theorem lw_p42 : lw_okq (⟨"BoardPressModel", "isMan", "(I)Z"⟩, 31) := ⟨⟨by decide +kernel, by decide +kernel⟩, List.mem_of_getElem? (i := 861) (by decide +kernel), List.mem_of_getElem? (i := 1082) (by decide +kernel), List.mem_of_getElem? (i := 1083) (by decide +kernel)⟩
theorem lw_p43 : lw_okq (⟨"BoardPressModel", "isPlace", "(II)Z"⟩, 31) := ⟨⟨by decide +kernel, by decide +kernel⟩, List.mem_of_getElem? (i := 861) (by decide +kernel), List.mem_of_getElem? (i := 1090) (by decide +kernel), List.mem_of_getElem? (i := 1091) (by decide +kernel)⟩
theorem lw_p44 : lw_okq (⟨"BoardPressModel", "isReader", "(I)Z"⟩, 31) := ⟨⟨by decide +kernel, by decide +kernel⟩, List.mem_of_getElem? (i := 861) (by decide +kernel), List.mem_of_getElem? (i := 1102) (by decide +kernel), List.mem_of_getElem? (i := 1103) (by decide +kernel)⟩
theorem lw_p45 : lw_okq (⟨"BoardPressModel", "puts", "(ZII)I"⟩, 31) := ⟨⟨by decide +kernel, by decide +kernel⟩, List.mem_of_getElem? (i := 861) (by decide +kernel), List.mem_of_getElem? (i := 1113) (by decide +kernel), List.mem_of_getElem? (i := 1114) (by decide +kernel)⟩
theorem lw_p46 : lw_okq (⟨"BoardPressModel", "shiftsOn", "(III)V"⟩, 31) := ⟨⟨by decide +kernel, by decide +kernel⟩, List.mem_of_getElem? (i := 861) (by decide +kernel), List.mem_of_getElem? (i := 1129) (by decide +kernel), List.mem_of_getElem? (i := 1130) (by decide +kernel)⟩
theorem lw_p47 : lw_okq (⟨"BoardPressModel", "stands", "(III)I"⟩, 31) := ⟨⟨by decide +kernel, by decide +kernel⟩, List.mem_of_getElem? (i := 861) (by decide +kernel), List.mem_of_getElem? (i := 1137) (by decide +kernel), List.mem_of_getElem? (i := 1138) (by decide +kernel)⟩
def lw_privs_3 : List (MethodName × Nat) := [(⟨"BoardPressModel", "isWalkOn", "(II)Z"⟩, 31), (⟨"BoardPressModel", "isStreetOn", "(III)Z"⟩, 31), (⟨"BoardPressModel", "pairsOn", "(I)I"⟩, 31), (⟨"BoardPressModel", "learnsOn", "(I)V"⟩, 31), (⟨"BoardPressModel", "readsOn", "(IIIIZ)Z"⟩, 31), (⟨"BoardPressModel", "isWetOn", "(II)Z"⟩, 31), (⟨"BoardPressModel", "atOn", "(IIIZ)I"⟩, 31), (⟨"BoardPressModel", "paceOn", "(II)I"⟩, 31), (⟨"BoardPressModel", "knownOf", "(I)I"⟩, 31), (⟨"BoardPressModel", "wholeOf", "(II)I"⟩, 31), (⟨"BoardPressModel", "isMan", "(I)Z"⟩, 31), (⟨"BoardPressModel", "isPlace", "(II)Z"⟩, 31), (⟨"BoardPressModel", "isReader", "(I)Z"⟩, 31), (⟨"BoardPressModel", "puts", "(ZII)I"⟩, 31), (⟨"BoardPressModel", "shiftsOn", "(III)V"⟩, 31), (⟨"BoardPressModel", "stands", "(III)I"⟩, 31)]
theorem lw_r3 : ∀ q ∈ lw_privs_3, lw_okq q := List.forall_mem_cons.mpr ⟨lw_p32, List.forall_mem_cons.mpr ⟨lw_p33, List.forall_mem_cons.mpr ⟨lw_p34, List.forall_mem_cons.mpr ⟨lw_p35, List.forall_mem_cons.mpr ⟨lw_p36, List.forall_mem_cons.mpr ⟨lw_p37, List.forall_mem_cons.mpr ⟨lw_p38, List.forall_mem_cons.mpr ⟨lw_p39, List.forall_mem_cons.mpr ⟨lw_p40, List.forall_mem_cons.mpr ⟨lw_p41, List.forall_mem_cons.mpr ⟨lw_p42, List.forall_mem_cons.mpr ⟨lw_p43, List.forall_mem_cons.mpr ⟨lw_p44, List.forall_mem_cons.mpr ⟨lw_p45, List.forall_mem_cons.mpr ⟨lw_p46, List.forall_mem_cons.mpr ⟨lw_p47, fun _ h => absurd h List.not_mem_nil⟩⟩⟩⟩⟩⟩⟩⟩⟩⟩⟩⟩⟩⟩⟩⟩
theorem lw_p48 : lw_okq (⟨"BoardPressModel", "copies", "(II)V"⟩, 31) := ⟨⟨by decide +kernel, by decide +kernel⟩, List.mem_of_getElem? (i := 861) (by decide +kernel), List.mem_of_getElem? (i := 1184) (by decide +kernel), List.mem_of_getElem? (i := 1185) (by decide +kernel)⟩
theorem lw_p49 : lw_okq (⟨"BoardPressModel", "isMore", "(I)Z"⟩, 31) := ⟨⟨by decide +kernel, by decide +kernel⟩, List.mem_of_getElem? (i := 861) (by decide +kernel), List.mem_of_getElem? (i := 1188) (by decide +kernel), List.mem_of_getElem? (i := 1189) (by decide +kernel)⟩
theorem lw_p50 : lw_okq (⟨"BoardPressModel", "byHomes", "(IIII)J"⟩, 31) := ⟨⟨by decide +kernel, by decide +kernel⟩, List.mem_of_getElem? (i := 861) (by decide +kernel), List.mem_of_getElem? (i := 1221) (by decide +kernel), List.mem_of_getElem? (i := 1222) (by decide +kernel)⟩
theorem lw_p51 : lw_okq (⟨"BoardPressModel", "kindsOf", "(I)I"⟩, 31) := ⟨⟨by decide +kernel, by decide +kernel⟩, List.mem_of_getElem? (i := 861) (by decide +kernel), List.mem_of_getElem? (i := 1245) (by decide +kernel), List.mem_of_getElem? (i := 1246) (by decide +kernel)⟩
theorem lw_p52 : lw_okq (⟨"BoardPressModel", "isAsSeen", "(I)Z"⟩, 31) := ⟨⟨by decide +kernel, by decide +kernel⟩, List.mem_of_getElem? (i := 861) (by decide +kernel), List.mem_of_getElem? (i := 1249) (by decide +kernel), List.mem_of_getElem? (i := 1250) (by decide +kernel)⟩
def lw_privs_4 : List (MethodName × Nat) := [(⟨"BoardPressModel", "copies", "(II)V"⟩, 31), (⟨"BoardPressModel", "isMore", "(I)Z"⟩, 31), (⟨"BoardPressModel", "byHomes", "(IIII)J"⟩, 31), (⟨"BoardPressModel", "kindsOf", "(I)I"⟩, 31), (⟨"BoardPressModel", "isAsSeen", "(I)Z"⟩, 31)]
theorem lw_r4 : ∀ q ∈ lw_privs_4, lw_okq q := List.forall_mem_cons.mpr ⟨lw_p48, List.forall_mem_cons.mpr ⟨lw_p49, List.forall_mem_cons.mpr ⟨lw_p50, List.forall_mem_cons.mpr ⟨lw_p51, List.forall_mem_cons.mpr ⟨lw_p52, fun _ h => absurd h List.not_mem_nil⟩⟩⟩⟩⟩
def lw_privs : List (MethodName × Nat) := lw_privs_1 ++ (lw_privs_2 ++ (lw_privs_3 ++ (lw_privs_4)))
def lw_tbl : List Cond := k2_sels lw_privs ++ tables_1
theorem lw_privs_ok : ∀ q ∈ lw_privs, lw_okq q := by
  show ∀ q ∈ lw_privs_1 ++ (lw_privs_2 ++ (lw_privs_3 ++ (lw_privs_4))), lw_okq q
  exact List.forall_mem_append.mpr ⟨lw_r1, List.forall_mem_append.mpr ⟨lw_r2, List.forall_mem_append.mpr ⟨lw_r3, lw_r4⟩⟩⟩
end
section
def RX0 : String := "BoardPress$Man"
def TX0 : u_T := fun k => match k with
  | 0 => ("BoardPress$Man", "kind", "I", false)
  | 1 => ("BoardPress$Man", "news", "I", false)
  | 2 => ("BoardPress$Man", "corners", "I", false)
  | _ => ("BoardPress$Man", "path", "[I", true)
def tyX0 : Nat → FieldType := fun k => match k with
  | 0 => .int
  | 1 => .int
  | 2 => .int
  | _ => .array .int
abbrev wsX00 : List Cond := u_ws RX0 TX0 4
theorem nmX0 : ∀ a, a < 4 → ∀ b, b < 4 → a ≠ b → (TX0 a).2.1 ≠ (TX0 b).2.1 := by decide +kernel
theorem tyX0_ok : ∀ k, k < 4 → parseFieldDescriptor (TX0 k).2.2.1 = some (tyX0 k) := by decide +kernel
abbrev cX0_init : ByteArray := prog_2_method_1_code
def yX0_init : MethodName := ⟨RX0, "<init>", "()V"⟩
abbrev cX0_copyFrom : ByteArray := prog_2_method_2_code
def yX0_copyFrom : MethodName := ⟨RX0, "copyFrom", "(LBoardPress$Man;)V"⟩
abbrev cX0_hasPlace : ByteArray := prog_2_method_3_code
def yX0_hasPlace : MethodName := ⟨RX0, "hasPlace", "(I)Z"⟩
abbrev cX0_addCorner : ByteArray := prog_2_method_4_code
def yX0_addCorner : MethodName := ⟨RX0, "addCorner", "(I)Z"⟩
abbrev cX0_pace : ByteArray := prog_2_method_5_code
def yX0_pace : MethodName := ⟨RX0, "pace", "()I"⟩
abbrev cX0_cornerIn : ByteArray := prog_2_method_6_code
def yX0_cornerIn : MethodName := ⟨RX0, "cornerIn", "(I)I"⟩
abbrev cX0_minutesShown : ByteArray := prog_2_method_7_code
def yX0_minutesShown : MethodName := ⟨RX0, "minutesShown", "(II)J"⟩
abbrev cX0_turnTo : ByteArray := prog_2_method_8_code
def yX0_turnTo : MethodName := ⟨RX0, "turnTo", "(I)V"⟩
abbrev cX0_turnByOne : ByteArray := prog_2_method_9_code
def yX0_turnByOne : MethodName := ⟨RX0, "turnByOne", "()V"⟩
def RX1 : String := "BoardPress$Memory"
def TX1 : u_T := fun k => match k with
  | 0 => ("BoardPress$Memory", "size", "I", false)
  | 1 => ("BoardPress$Memory", "readers", "[I", true)
  | 2 => ("BoardPress$Memory", "news", "[I", true)
  | 3 => ("BoardPress$Memory", "minutes", "[I", true)
  | _ => ("BoardPress$Memory", "known", "[Z", true)
def tyX1 : Nat → FieldType := fun k => match k with
  | 0 => .int
  | 1 => .array .int
  | 2 => .array .int
  | 3 => .array .int
  | _ => .array .boolean
abbrev wsX10 : List Cond := u_ws RX1 TX1 5
theorem nmX1 : ∀ a, a < 5 → ∀ b, b < 5 → a ≠ b → (TX1 a).2.1 ≠ (TX1 b).2.1 := by decide +kernel
theorem tyX1_ok : ∀ k, k < 5 → parseFieldDescriptor (TX1 k).2.2.1 = some (tyX1 k) := by decide +kernel
abbrev cX1_init : ByteArray := prog_3_method_1_code
def yX1_init : MethodName := ⟨RX1, "<init>", "()V"⟩
abbrev cX1_add : ByteArray := prog_3_method_2_code
def yX1_add : MethodName := ⟨RX1, "add", "(IIIZ)Z"⟩
abbrev cX1_agreesWith : ByteArray := prog_3_method_3_code
def yX1_agreesWith : MethodName := ⟨RX1, "agreesWith", "(LBoardPress$Town;)Z"⟩
def RX2 : String := "BoardPress$Pick"
def TX2 : u_T := fun k => match k with
  | 0 => ("BoardPress$Pick", "choice", "I", false)
  | _ => ("BoardPress$Pick", "worth", "I", false)
def tyX2 : Nat → FieldType := fun k => match k with
  | 0 => .int
  | _ => .int
abbrev wsX20 : List Cond := u_ws RX2 TX2 2
theorem nmX2 : ∀ a, a < 2 → ∀ b, b < 2 → a ≠ b → (TX2 a).2.1 ≠ (TX2 b).2.1 := by decide +kernel
theorem tyX2_ok : ∀ k, k < 2 → parseFieldDescriptor (TX2 k).2.2.1 = some (tyX2 k) := by decide +kernel
abbrev cX2_init : ByteArray := prog_4_method_1_code
def yX2_init : MethodName := ⟨RX2, "<init>", "()V"⟩
abbrev cX2_restart : ByteArray := prog_4_method_2_code
def yX2_restart : MethodName := ⟨RX2, "restart", "(I)V"⟩
abbrev cX2_offer : ByteArray := prog_4_method_3_code
def yX2_offer : MethodName := ⟨RX2, "offer", "(II)V"⟩
abbrev cX2_told : ByteArray := prog_4_method_4_code
def yX2_told : MethodName := ⟨RX2, "told", "(I)I"⟩
abbrev cX2_toldOfFewest : ByteArray := prog_4_method_5_code
def yX2_toldOfFewest : MethodName := ⟨RX2, "toldOfFewest", "(I)I"⟩
def RX3 : String := "BoardPress$Reader"
def TX3 : u_T := fun k => match k with
  | 0 => ("BoardPress$Reader", "corner", "I", false)
  | 1 => ("BoardPress$Reader", "from", "I", false)
  | _ => ("BoardPress$Reader", "until", "I", false)
def tyX3 : Nat → FieldType := fun k => match k with
  | 0 => .int
  | 1 => .int
  | _ => .int
abbrev wsX30 : List Cond := u_ws RX3 TX3 3
theorem nmX3 : ∀ a, a < 3 → ∀ b, b < 3 → a ≠ b → (TX3 a).2.1 ≠ (TX3 b).2.1 := by decide +kernel
theorem tyX3_ok : ∀ k, k < 3 → parseFieldDescriptor (TX3 k).2.2.1 = some (tyX3 k) := by decide +kernel
abbrev cX3_init : ByteArray := prog_5_method_1_code
def yX3_init : MethodName := ⟨RX3, "<init>", "()V"⟩
abbrev cX3_copyFrom : ByteArray := prog_5_method_2_code
def yX3_copyFrom : MethodName := ⟨RX3, "copyFrom", "(LBoardPress$Reader;)V"⟩
abbrev cX3_setCorner : ByteArray := prog_5_method_3_code
def yX3_setCorner : MethodName := ⟨RX3, "setCorner", "(I)I"⟩
abbrev cX3_setFrom : ByteArray := prog_5_method_4_code
def yX3_setFrom : MethodName := ⟨RX3, "setFrom", "(I)I"⟩
abbrev cX3_setUntil : ByteArray := prog_5_method_5_code
def yX3_setUntil : MethodName := ⟨RX3, "setUntil", "(I)I"⟩
def RX4 : String := "BoardPress$Sheet"
def TX4 : u_T := fun k => match k with
  | 0 => ("BoardPress$Sheet", "lane", "I", false)
  | 1 => ("BoardPress$Sheet", "cells", "I", false)
  | _ => ("BoardPress$Sheet", "row", "[I", true)
def tyX4 : Nat → FieldType := fun k => match k with
  | 0 => .int
  | 1 => .int
  | _ => .array .int
abbrev wsX40 : List Cond := u_ws RX4 TX4 3
theorem nmX4 : ∀ a, a < 3 → ∀ b, b < 3 → a ≠ b → (TX4 a).2.1 ≠ (TX4 b).2.1 := by decide +kernel
theorem tyX4_ok : ∀ k, k < 3 → parseFieldDescriptor (TX4 k).2.2.1 = some (tyX4 k) := by decide +kernel
abbrev cX4_init : ByteArray := prog_6_method_1_code
def yX4_init : MethodName := ⟨RX4, "<init>", "()V"⟩
abbrev cX4_renew : ByteArray := prog_6_method_2_code
def yX4_renew : MethodName := ⟨RX4, "renew", "(II)V"⟩
abbrev cX4_faultAt : ByteArray := prog_6_method_3_code
def yX4_faultAt : MethodName := ⟨RX4, "faultAt", "(II)I"⟩
abbrev cX4_faultOfPair : ByteArray := prog_6_method_4_code
def yX4_faultOfPair : MethodName := ⟨RX4, "faultOfPair", "(II)I"⟩
abbrev cX4_hasCell : ByteArray := prog_6_method_5_code
def yX4_hasCell : MethodName := ⟨RX4, "hasCell", "(I)Z"⟩
abbrev cX4_cellAt : ByteArray := prog_6_method_6_code
def yX4_cellAt : MethodName := ⟨RX4, "cellAt", "(I)I"⟩
abbrev cX4_put : ByteArray := prog_6_method_7_code
def yX4_put : MethodName := ⟨RX4, "put", "(II)V"⟩
def RX5 : String := "BoardPress$Tape"
def TX5 : u_T := fun k => match k with
  | 0 => ("BoardPress$Tape", "length", "I", false)
  | _ => ("BoardPress$Tape", "bytes", "[B", true)
def tyX5 : Nat → FieldType := fun k => match k with
  | 0 => .int
  | _ => .array .byte
abbrev wsX50 : List Cond := u_ws RX5 TX5 2
theorem nmX5 : ∀ a, a < 2 → ∀ b, b < 2 → a ≠ b → (TX5 a).2.1 ≠ (TX5 b).2.1 := by decide +kernel
theorem tyX5_ok : ∀ k, k < 2 → parseFieldDescriptor (TX5 k).2.2.1 = some (tyX5 k) := by decide +kernel
abbrev cX5_init : ByteArray := prog_7_method_1_code
def yX5_init : MethodName := ⟨RX5, "<init>", "()V"⟩
abbrev cX5_append : ByteArray := prog_7_method_2_code
def yX5_append : MethodName := ⟨RX5, "append", "(I)Z"⟩
abbrev cX5_byteAt : ByteArray := prog_7_method_3_code
def yX5_byteAt : MethodName := ⟨RX5, "byteAt", "(I)I"⟩
def RX6 : String := "BoardPress$TextReader"
def TX6 : u_T := fun k => match k with
  | 0 => ("BoardPress$TextReader", "tape", "LBoardPress$Tape;", true)
  | 1 => ("BoardPress$TextReader", "draft", "LBoardPress$Town;", true)
  | 2 => ("BoardPress$TextReader", "next", "I", false)
  | 3 => ("BoardPress$TextReader", "token", "I", false)
  | 4 => ("BoardPress$TextReader", "tokenPlace", "I", false)
  | 5 => ("BoardPress$TextReader", "value", "I", false)
  | 6 => ("BoardPress$TextReader", "rained", "Z", false)
  | 7 => ("BoardPress$TextReader", "fault", "I", false)
  | _ => ("BoardPress$TextReader", "faultPlace", "I", false)
def tyX6 : Nat → FieldType := fun k => match k with
  | 0 => .object "BoardPress$Tape"
  | 1 => .object "BoardPress$Town"
  | 2 => .int
  | 3 => .int
  | 4 => .int
  | 5 => .int
  | 6 => .boolean
  | 7 => .int
  | _ => .int
abbrev wsX60 : List Cond := u_ws RX6 TX6 9
theorem nmX6 : ∀ a, a < 9 → ∀ b, b < 9 → a ≠ b → (TX6 a).2.1 ≠ (TX6 b).2.1 := by decide +kernel
theorem tyX6_ok : ∀ k, k < 9 → parseFieldDescriptor (TX6 k).2.2.1 = some (tyX6 k) := by decide +kernel
abbrev cX6_init : ByteArray := prog_8_method_1_code
def yX6_init : MethodName := ⟨RX6, "<init>", "()V"⟩
abbrev cX6_readAll : ByteArray := prog_8_method_2_code
def yX6_readAll : MethodName := ⟨RX6, "readAll", "()I"⟩
abbrev cX6_refuse : ByteArray := prog_8_method_3_code
def yX6_refuse : MethodName := ⟨RX6, "refuse", "(II)Z"⟩
abbrev cX6_readLine : ByteArray := prog_8_method_4_code
def yX6_readLine : MethodName := ⟨RX6, "readLine", "()Z"⟩
abbrev cX6_readMan : ByteArray := prog_8_method_5_code
def yX6_readMan : MethodName := ⟨RX6, "readMan", "(I)Z"⟩
abbrev cX6_readRestOfWalk : ByteArray := prog_8_method_6_code
def yX6_readRestOfWalk : MethodName := ⟨RX6, "readRestOfWalk", "(LBoardPress$Man;)Z"⟩
abbrev cX6_readStreet : ByteArray := prog_8_method_7_code
def yX6_readStreet : MethodName := ⟨RX6, "readStreet", "()Z"⟩
abbrev cX6_readReader : ByteArray := prog_8_method_8_code
def yX6_readReader : MethodName := ⟨RX6, "readReader", "()Z"⟩
abbrev cX6_readRain : ByteArray := prog_8_method_9_code
def yX6_readRain : MethodName := ⟨RX6, "readRain", "()Z"⟩
abbrev cX6_takeNumber : ByteArray := prog_8_method_10_code
def yX6_takeNumber : MethodName := ⟨RX6, "takeNumber", "(II)Z"⟩
abbrev cX6_takeSemicolon : ByteArray := prog_8_method_11_code
def yX6_takeSemicolon : MethodName := ⟨RX6, "takeSemicolon", "()Z"⟩
abbrev cX6_readToken : ByteArray := prog_8_method_12_code
def yX6_readToken : MethodName := ⟨RX6, "readToken", "()Z"⟩
abbrev cX6_lineNamed : ByteArray := prog_8_method_13_code
def yX6_lineNamed : MethodName := ⟨RX6, "lineNamed", "()I"⟩
abbrev cX6_isNamed : ByteArray := prog_8_method_14_code
def yX6_isNamed : MethodName := ⟨RX6, "isNamed", "(Ljava/lang/String;)Z"⟩
abbrev cX6_isLetter : ByteArray := prog_8_method_15_code
def yX6_isLetter : MethodName := ⟨RX6, "isLetter", "(I)Z"⟩
abbrev cX6_isFigure : ByteArray := prog_8_method_16_code
def yX6_isFigure : MethodName := ⟨RX6, "isFigure", "(I)Z"⟩
def RX7 : String := "BoardPress$Town"
def TX7 : u_T := fun k => match k with
  | 0 => ("BoardPress$Town", "manCount", "I", false)
  | 1 => ("BoardPress$Town", "streetCount", "I", false)
  | 2 => ("BoardPress$Town", "readerCount", "I", false)
  | 3 => ("BoardPress$Town", "rainFrom", "I", false)
  | 4 => ("BoardPress$Town", "rainFor", "I", false)
  | 5 => ("BoardPress$Town", "men", "[LBoardPress$Man;", true)
  | 6 => ("BoardPress$Town", "readers", "[LBoardPress$Reader;", true)
  | 7 => ("BoardPress$Town", "streetFrom", "[I", true)
  | _ => ("BoardPress$Town", "streetTo", "[I", true)
def tyX7 : Nat → FieldType := fun k => match k with
  | 0 => .int
  | 1 => .int
  | 2 => .int
  | 3 => .int
  | 4 => .int
  | 5 => .array (.object "BoardPress$Man")
  | 6 => .array (.object "BoardPress$Reader")
  | 7 => .array .int
  | _ => .array .int
abbrev wsX70 : List Cond := u_ws RX7 TX7 9
theorem nmX7 : ∀ a, a < 9 → ∀ b, b < 9 → a ≠ b → (TX7 a).2.1 ≠ (TX7 b).2.1 := by decide +kernel
theorem tyX7_ok : ∀ k, k < 9 → parseFieldDescriptor (TX7 k).2.2.1 = some (tyX7 k) := by decide +kernel
abbrev cX7_init : ByteArray := prog_9_method_1_code
def yX7_init : MethodName := ⟨RX7, "<init>", "()V"⟩
abbrev cX7_clear : ByteArray := prog_9_method_2_code
def yX7_clear : MethodName := ⟨RX7, "clear", "()V"⟩
abbrev cX7_copyFrom : ByteArray := prog_9_method_3_code
def yX7_copyFrom : MethodName := ⟨RX7, "copyFrom", "(LBoardPress$Town;)V"⟩
abbrev cX7_manAt : ByteArray := prog_9_method_4_code
def yX7_manAt : MethodName := ⟨RX7, "manAt", "(I)LBoardPress$Man;"⟩
abbrev cX7_readerAt : ByteArray := prog_9_method_5_code
def yX7_readerAt : MethodName := ⟨RX7, "readerAt", "(I)LBoardPress$Reader;"⟩
abbrev cX7_addMan : ByteArray := prog_9_method_6_code
def yX7_addMan : MethodName := ⟨RX7, "addMan", "(I)LBoardPress$Man;"⟩
abbrev cX7_addReader : ByteArray := prog_9_method_7_code
def yX7_addReader : MethodName := ⟨RX7, "addReader", "()LBoardPress$Reader;"⟩
abbrev cX7_addStreet : ByteArray := prog_9_method_8_code
def yX7_addStreet : MethodName := ⟨RX7, "addStreet", "(II)Z"⟩
abbrev cX7_setRain : ByteArray := prog_9_method_9_code
def yX7_setRain : MethodName := ⟨RX7, "setRain", "(II)V"⟩
abbrev cX7_hasStreet : ByteArray := prog_9_method_10_code
def yX7_hasStreet : MethodName := ⟨RX7, "hasStreet", "(II)Z"⟩
abbrev cX7_canWalk : ByteArray := prog_9_method_11_code
def yX7_canWalk : MethodName := ⟨RX7, "canWalk", "(LBoardPress$Man;)Z"⟩
abbrev cX7_canAllWalk : ByteArray := prog_9_method_12_code
def yX7_canAllWalk : MethodName := ⟨RX7, "canAllWalk", "()Z"⟩
abbrev cX7_minutesOf : ByteArray := prog_9_method_13_code
def yX7_minutesOf : MethodName := ⟨RX7, "minutesOf", "(LBoardPress$Reader;)J"⟩
abbrev cX7_menRead : ByteArray := prog_9_method_14_code
def yX7_menRead : MethodName := ⟨RX7, "menRead", "(LBoardPress$Reader;II)I"⟩
abbrev cX7_newsRead : ByteArray := prog_9_method_15_code
def yX7_newsRead : MethodName := ⟨RX7, "newsRead", "(LBoardPress$Reader;IJI)I"⟩
abbrev cX7_wholeNews : ByteArray := prog_9_method_16_code
def yX7_wholeNews : MethodName := ⟨RX7, "wholeNews", "(LBoardPress$Reader;JI)I"⟩
abbrev cX7_pairs : ByteArray := prog_9_method_17_code
def yX7_pairs : MethodName := ⟨RX7, "pairs", "(I)I"⟩
abbrev cX7_minutesRead : ByteArray := prog_9_method_18_code
def yX7_minutesRead : MethodName := ⟨RX7, "minutesRead", "(LBoardPress$Reader;II)J"⟩
abbrev cX7_firstWhole : ByteArray := prog_9_method_19_code
def yX7_firstWhole : MethodName := ⟨RX7, "firstWhole", "(LBoardPress$Reader;I)I"⟩
abbrev cX7_changePlanks : ByteArray := prog_9_method_20_code
def yX7_changePlanks : MethodName := ⟨RX7, "changePlanks", "(II)V"⟩
abbrev cX7_weight : ByteArray := prog_9_method_21_code
def yX7_weight : MethodName := ⟨RX7, "weight", "(II)J"⟩
abbrev cX7_weightOfAll : ByteArray := prog_9_method_22_code
def yX7_weightOfAll : MethodName := ⟨RX7, "weightOfAll", "()J"⟩
abbrev cX7_driftBy : ByteArray := prog_9_method_23_code
def yX7_driftBy : MethodName := ⟨RX7, "driftBy", "(I)V"⟩
abbrev cX7_cornersOfAllWalks : ByteArray := prog_9_method_24_code
def yX7_cornersOfAllWalks : MethodName := ⟨RX7, "cornersOfAllWalks", "()I"⟩
abbrev cX7_minutesOfAllReaders : ByteArray := prog_9_method_25_code
def yX7_minutesOfAllReaders : MethodName := ⟨RX7, "minutesOfAllReaders", "()I"⟩
def RX8 : String := "BoardPress"
def TX8 : u_T := fun k => match k with
  | 0 => ("BoardPress", "textReader", "LBoardPress$TextReader;", true)
  | 1 => ("BoardPress", "town", "LBoardPress$Town;", true)
  | 2 => ("BoardPress", "trial", "LBoardPress$Town;", true)
  | 3 => ("BoardPress", "images", "[LBoardPress$Town;", true)
  | 4 => ("BoardPress", "kept", "[Z", true)
  | 5 => ("BoardPress", "memory", "LBoardPress$Memory;", true)
  | 6 => ("BoardPress", "sheets", "[LBoardPress$Sheet;", true)
  | 7 => ("BoardPress", "guest", "LBoardPress$Reader;", true)
  | 8 => ("BoardPress", "pick", "LBoardPress$Pick;", true)
  | 9 => ("BoardPress", "knownBy", "[I", true)
  | _ => ("BoardPress", "readFault", "I", false)
def tyX8 : Nat → FieldType := fun k => match k with
  | 0 => .object "BoardPress$TextReader"
  | 1 => .object "BoardPress$Town"
  | 2 => .object "BoardPress$Town"
  | 3 => .array (.object "BoardPress$Town")
  | 4 => .array .boolean
  | 5 => .object "BoardPress$Memory"
  | 6 => .array (.object "BoardPress$Sheet")
  | 7 => .object "BoardPress$Reader"
  | 8 => .object "BoardPress$Pick"
  | 9 => .array .int
  | _ => .int
abbrev wsX80 : List Cond := u_ws RX8 TX8 11
theorem nmX8 : ∀ a, a < 11 → ∀ b, b < 11 → a ≠ b → (TX8 a).2.1 ≠ (TX8 b).2.1 := by decide +kernel
theorem tyX8_ok : ∀ k, k < 11 → parseFieldDescriptor (TX8 k).2.2.1 = some (tyX8 k) := by decide +kernel
abbrev cX8_init : ByteArray := prog_1_method_1_code
def yX8_init : MethodName := ⟨RX8, "<init>", "()V"⟩
abbrev cX8_feed : ByteArray := prog_1_method_2_code
def yX8_feed : MethodName := ⟨RX8, "feed", "(I)I"⟩
abbrev cX8_end : ByteArray := prog_1_method_3_code
def yX8_end : MethodName := ⟨RX8, "end", "(I)I"⟩
abbrev cX8_text : ByteArray := prog_1_method_4_code
def yX8_text : MethodName := ⟨RX8, "text", "()I"⟩
abbrev cX8_fault : ByteArray := prog_1_method_5_code
def yX8_fault : MethodName := ⟨RX8, "fault", "()I"⟩
abbrev cX8_rule : ByteArray := prog_1_method_6_code
def yX8_rule : MethodName := ⟨RX8, "rule", "(I)I"⟩
abbrev cX8_man : ByteArray := prog_1_method_7_code
def yX8_man : MethodName := ⟨RX8, "man", "(II)I"⟩
abbrev cX8_walk : ByteArray := prog_1_method_8_code
def yX8_walk : MethodName := ⟨RX8, "walk", "(II)I"⟩
abbrev cX8_street : ByteArray := prog_1_method_9_code
def yX8_street : MethodName := ⟨RX8, "street", "(II)I"⟩
abbrev cX8_reader : ByteArray := prog_1_method_10_code
def yX8_reader : MethodName := ⟨RX8, "reader", "(II)I"⟩
abbrev cX8_alter : ByteArray := prog_1_method_11_code
def yX8_alter : MethodName := ⟨RX8, "alter", "(III)I"⟩
abbrev cX8_detour : ByteArray := prog_1_method_12_code
def yX8_detour : MethodName := ⟨RX8, "detour", "(III)I"⟩
abbrev cX8_shift : ByteArray := prog_1_method_13_code
def yX8_shift : MethodName := ⟨RX8, "shift", "(II)I"⟩
abbrev cX8_stand : ByteArray := prog_1_method_14_code
def yX8_stand : MethodName := ⟨RX8, "stand", "(III)I"⟩
abbrev cX8_rain : ByteArray := prog_1_method_15_code
def yX8_rain : MethodName := ⟨RX8, "rain", "(II)I"⟩
abbrev cX8_pave : ByteArray := prog_1_method_16_code
def yX8_pave : MethodName := ⟨RX8, "pave", "(II)I"⟩
abbrev cX8_at : ByteArray := prog_1_method_17_code
def yX8_at : MethodName := ⟨RX8, "at", "(II)I"⟩
abbrev cX8_reads : ByteArray := prog_1_method_18_code
def yX8_reads : MethodName := ⟨RX8, "reads", "(III)I"⟩
abbrev cX8_knows : ByteArray := prog_1_method_19_code
def yX8_knows : MethodName := ⟨RX8, "knows", "(III)I"⟩
abbrev cX8_first : ByteArray := prog_1_method_20_code
def yX8_first : MethodName := ⟨RX8, "first", "(II)I"⟩
abbrev cX8_all : ByteArray := prog_1_method_21_code
def yX8_all : MethodName := ⟨RX8, "all", "(I)I"⟩
abbrev cX8_meet : ByteArray := prog_1_method_22_code
def yX8_meet : MethodName := ⟨RX8, "meet", "(II)I"⟩
abbrev cX8_best : ByteArray := prog_1_method_23_code
def yX8_best : MethodName := ⟨RX8, "best", "(II)I"⟩
abbrev cX8_late : ByteArray := prog_1_method_24_code
def yX8_late : MethodName := ⟨RX8, "late", "(II)I"⟩
abbrev cX8_soon : ByteArray := prog_1_method_25_code
def yX8_soon : MethodName := ⟨RX8, "soon", "(II)I"⟩
abbrev cX8_begin : ByteArray := prog_1_method_26_code
def yX8_begin : MethodName := ⟨RX8, "begin", "(II)I"⟩
abbrev cX8_kind : ByteArray := prog_1_method_27_code
def yX8_kind : MethodName := ⟨RX8, "kind", "(II)I"⟩
abbrev cX8_swap : ByteArray := prog_1_method_28_code
def yX8_swap : MethodName := ⟨RX8, "swap", "(I)I"⟩
abbrev cX8_spoil : ByteArray := prog_1_method_29_code
def yX8_spoil : MethodName := ⟨RX8, "spoil", "(II)I"⟩
abbrev cX8_luck : ByteArray := prog_1_method_30_code
def yX8_luck : MethodName := ⟨RX8, "luck", "(IIII)J"⟩
abbrev cX8_mean : ByteArray := prog_1_method_31_code
def yX8_mean : MethodName := ⟨RX8, "mean", "(II)J"⟩
abbrev cX8_see : ByteArray := prog_1_method_32_code
def yX8_see : MethodName := ⟨RX8, "see", "(IIIZ)I"⟩
abbrev cX8_forget : ByteArray := prog_1_method_33_code
def yX8_forget : MethodName := ⟨RX8, "forget", "(I)I"⟩
abbrev cX8_kinds : ByteArray := prog_1_method_34_code
def yX8_kinds : MethodName := ⟨RX8, "kinds", "(I)I"⟩
abbrev cX8_news : ByteArray := prog_1_method_35_code
def yX8_news : MethodName := ⟨RX8, "news", "(I)I"⟩
abbrev cX8_ask : ByteArray := prog_1_method_36_code
def yX8_ask : MethodName := ⟨RX8, "ask", "(II)I"⟩
abbrev cX8_drift : ByteArray := prog_1_method_37_code
def yX8_drift : MethodName := ⟨RX8, "drift", "(III)I"⟩
abbrev cX8_keep : ByteArray := prog_1_method_38_code
def yX8_keep : MethodName := ⟨RX8, "keep", "(I)I"⟩
abbrev cX8_back : ByteArray := prog_1_method_39_code
def yX8_back : MethodName := ⟨RX8, "back", "(I)I"⟩
abbrev cX8_sheet : ByteArray := prog_1_method_40_code
def yX8_sheet : MethodName := ⟨RX8, "sheet", "(III)I"⟩
abbrev cX8_lay : ByteArray := prog_1_method_41_code
def yX8_lay : MethodName := ⟨RX8, "lay", "(III)I"⟩
abbrev cX8_read : ByteArray := prog_1_method_42_code
def yX8_read : MethodName := ⟨RX8, "read", "(IIII)I"⟩
abbrev cX8_torn : ByteArray := prog_1_method_43_code
def yX8_torn : MethodName := ⟨RX8, "torn", "()I"⟩
abbrev cX8_count : ByteArray := prog_1_method_44_code
def yX8_count : MethodName := ⟨RX8, "count", "(I)I"⟩
abbrev cX8_possibleKinds : ByteArray := prog_1_method_45_code
def yX8_possibleKinds : MethodName := ⟨RX8, "possibleKinds", "(I)I"⟩
abbrev cX8_noteWhenKnown : ByteArray := prog_1_method_46_code
def yX8_noteWhenKnown : MethodName := ⟨RX8, "noteWhenKnown", "(II)V"⟩
abbrev cX8_kindsKnownBy : ByteArray := prog_1_method_47_code
def yX8_kindsKnownBy : MethodName := ⟨RX8, "kindsKnownBy", "(II)I"⟩
abbrev cX8_canStand : ByteArray := prog_1_method_48_code
def yX8_canStand : MethodName := ⟨RX8, "canStand", "(LBoardPress$Sheet;I)Z"⟩
abbrev cX8_isWithin : ByteArray := prog_1_method_49_code
def yX8_isWithin : MethodName := ⟨RX8, "isWithin", "(III)Z"⟩
abbrev cX8_isCorner : ByteArray := prog_1_method_50_code
def yX8_isCorner : MethodName := ⟨RX8, "isCorner", "(I)Z"⟩
abbrev cX8_isMinute : ByteArray := prog_1_method_51_code
def yX8_isMinute : MethodName := ⟨RX8, "isMinute", "(I)Z"⟩
abbrev cX8_isNews : ByteArray := prog_1_method_52_code
def yX8_isNews : MethodName := ⟨RX8, "isNews", "(I)Z"⟩
abbrev cX8_isEither : ByteArray := prog_1_method_53_code
def yX8_isEither : MethodName := ⟨RX8, "isEither", "(I)Z"⟩
abbrev cX8_isSheet : ByteArray := prog_1_method_54_code
def yX8_isSheet : MethodName := ⟨RX8, "isSheet", "(I)Z"⟩
abbrev cX8_isLane : ByteArray := prog_1_method_55_code
def yX8_isLane : MethodName := ⟨RX8, "isLane", "(I)Z"⟩
abbrev cX8_span : ByteArray := prog_1_method_56_code
def yX8_span : MethodName := ⟨RX8, "span", "(II)J"⟩
abbrev cX8_repeated : ByteArray := prog_1_method_57_code
def yX8_repeated : MethodName := ⟨RX8, "repeated", "(JI)J"⟩
abbrev cX8_firstMinute : ByteArray := prog_1_method_58_code
def yX8_firstMinute : MethodName := ⟨RX8, "firstMinute", "(J)I"⟩
abbrev cX8_lastMinute : ByteArray := prog_1_method_59_code
def yX8_lastMinute : MethodName := ⟨RX8, "lastMinute", "(J)I"⟩
abbrev cX8_partOfFraction : ByteArray := prog_1_method_60_code
def yX8_partOfFraction : MethodName := ⟨RX8, "partOfFraction", "(JJI)J"⟩
abbrev cX8_greatestDivisor : ByteArray := prog_1_method_61_code
def yX8_greatestDivisor : MethodName := ⟨RX8, "greatestDivisor", "(JJ)J"⟩
def RX9 : String := "BoardPressModel"
def TX9 : u_T := fun k => match k with
  | 0 => ("BoardPressModel", "state", "[I", true)
  | 1 => ("BoardPressModel", "manMany", "I", false)
  | 2 => ("BoardPressModel", "readerMany", "I", false)
  | 3 => ("BoardPressModel", "readPage", "[I", true)
  | 4 => ("BoardPressModel", "readMen", "I", false)
  | 5 => ("BoardPressModel", "readReaders", "I", false)
  | 6 => ("BoardPressModel", "isRainTold", "Z", false)
  | 7 => ("BoardPressModel", "tape", "[I", true)
  | 8 => ("BoardPressModel", "taped", "I", false)
  | 9 => ("BoardPressModel", "fault", "I", false)
  | 10 => ("BoardPressModel", "broken", "I", false)
  | 11 => ("BoardPressModel", "brokenAt", "I", false)
  | 12 => ("BoardPressModel", "spot", "I", false)
  | 13 => ("BoardPressModel", "here", "I", false)
  | 14 => ("BoardPressModel", "token", "I", false)
  | 15 => ("BoardPressModel", "value", "I", false)
  | 16 => ("BoardPressModel", "cuts", "[I", true)
  | 17 => ("BoardPressModel", "letters", "[I", true)
  | 18 => ("BoardPressModel", "atHome", "I", false)
  | 19 => ("BoardPressModel", "front", "[I", true)
  | 20 => ("BoardPressModel", "rear", "[I", true)
  | 21 => ("BoardPressModel", "turned", "[I", true)
  | 22 => ("BoardPressModel", "most", "I", false)
  | 23 => ("BoardPressModel", "seen", "[I", true)
  | 24 => ("BoardPressModel", "seenMany", "I", false)
  | 25 => ("BoardPressModel", "wholeBy", "[I", true)
  | 26 => ("BoardPressModel", "isKept", "[Z", true)
  | 27 => ("BoardPressModel", "lanes", "[I", true)
  | 28 => ("BoardPressModel", "lengths", "[I", true)
  | 29 => ("BoardPressModel", "cells", "[I", true)
  | _ => ("BoardPressModel", "torn", "I", false)
def tyX9 : Nat → FieldType := fun k => match k with
  | 0 => .array .int
  | 1 => .int
  | 2 => .int
  | 3 => .array .int
  | 4 => .int
  | 5 => .int
  | 6 => .boolean
  | 7 => .array .int
  | 8 => .int
  | 9 => .int
  | 10 => .int
  | 11 => .int
  | 12 => .int
  | 13 => .int
  | 14 => .int
  | 15 => .int
  | 16 => .array .int
  | 17 => .array .int
  | 18 => .int
  | 19 => .array .int
  | 20 => .array .int
  | 21 => .array .int
  | 22 => .int
  | 23 => .array .int
  | 24 => .int
  | 25 => .array .int
  | 26 => .array .boolean
  | 27 => .array .int
  | 28 => .array .int
  | 29 => .array .int
  | _ => .int
abbrev wsX90 : List Cond := u_ws RX9 TX9 31
theorem nmX9 : ∀ a, a < 31 → ∀ b, b < 31 → a ≠ b → (TX9 a).2.1 ≠ (TX9 b).2.1 := by decide +kernel
theorem tyX9_ok : ∀ k, k < 31 → parseFieldDescriptor (TX9 k).2.2.1 = some (tyX9 k) := by decide +kernel
abbrev cX9_init : ByteArray := prog_11_method_1_code
def yX9_init : MethodName := ⟨RX9, "<init>", "()V"⟩
abbrev cX9_in : ByteArray := prog_11_method_3_code
def yX9_in : MethodName := ⟨RX9, "in", "(JJJ)Z"⟩
abbrev cX9_feed : ByteArray := prog_11_method_4_code
def yX9_feed : MethodName := ⟨RX9, "feed", "(I)I"⟩
abbrev cX9_end : ByteArray := prog_11_method_5_code
def yX9_end : MethodName := ⟨RX9, "end", "(I)I"⟩
abbrev cX9_byteAt : ByteArray := prog_11_method_6_code
def yX9_byteAt : MethodName := ⟨RX9, "byteAt", "(I)I"⟩
abbrev cX9_fails : ByteArray := prog_11_method_7_code
def yX9_fails : MethodName := ⟨RX9, "fails", "(I)V"⟩
abbrev cX9_nameHere : ByteArray := prog_11_method_8_code
def yX9_nameHere : MethodName := ⟨RX9, "nameHere", "()I"⟩
abbrev cX9_step : ByteArray := prog_11_method_9_code
def yX9_step : MethodName := ⟨RX9, "step", "()V"⟩
abbrev cX9_number : ByteArray := prog_11_method_10_code
def yX9_number : MethodName := ⟨RX9, "number", "(II)I"⟩
abbrev cX9_readMan : ByteArray := prog_11_method_11_code
def yX9_readMan : MethodName := ⟨RX9, "readMan", "(I)V"⟩
abbrev cX9_readStreet : ByteArray := prog_11_method_12_code
def yX9_readStreet : MethodName := ⟨RX9, "readStreet", "()V"⟩
abbrev cX9_readReader : ByteArray := prog_11_method_13_code
def yX9_readReader : MethodName := ⟨RX9, "readReader", "()V"⟩
abbrev cX9_readMore : ByteArray := prog_11_method_14_code
def yX9_readMore : MethodName := ⟨RX9, "readMore", "(I)V"⟩
abbrev cX9_isFull : ByteArray := prog_11_method_15_code
def yX9_isFull : MethodName := ⟨RX9, "isFull", "(I)Z"⟩
abbrev cX9_readLine : ByteArray := prog_11_method_16_code
def yX9_readLine : MethodName := ⟨RX9, "readLine", "()V"⟩
abbrev cX9_areWalks : ByteArray := prog_11_method_17_code
def yX9_areWalks : MethodName := ⟨RX9, "areWalks", "()Z"⟩
abbrev cX9_text : ByteArray := prog_11_method_18_code
def yX9_text : MethodName := ⟨RX9, "text", "()I"⟩
abbrev cX9_fault : ByteArray := prog_11_method_19_code
def yX9_fault : MethodName := ⟨RX9, "fault", "()I"⟩
abbrev cX9_isMan : ByteArray := prog_11_method_20_code
def yX9_isMan : MethodName := ⟨RX9, "isMan", "(I)Z"⟩
abbrev cX9_isReader : ByteArray := prog_11_method_21_code
def yX9_isReader : MethodName := ⟨RX9, "isReader", "(I)Z"⟩
abbrev cX9_isCorner : ByteArray := prog_11_method_22_code
def yX9_isCorner : MethodName := ⟨RX9, "isCorner", "(I)Z"⟩
abbrev cX9_isMinute : ByteArray := prog_11_method_23_code
def yX9_isMinute : MethodName := ⟨RX9, "isMinute", "(I)Z"⟩
abbrev cX9_isNews : ByteArray := prog_11_method_24_code
def yX9_isNews : MethodName := ⟨RX9, "isNews", "(I)Z"⟩
abbrev cX9_isStreetOn : ByteArray := prog_11_method_25_code
def yX9_isStreetOn : MethodName := ⟨RX9, "isStreetOn", "(III)Z"⟩
abbrev cX9_isWalkOn : ByteArray := prog_11_method_26_code
def yX9_isWalkOn : MethodName := ⟨RX9, "isWalkOn", "(II)Z"⟩
abbrev cX9_paceOn : ByteArray := prog_11_method_27_code
def yX9_paceOn : MethodName := ⟨RX9, "paceOn", "(II)I"⟩
abbrev cX9_atOn : ByteArray := prog_11_method_28_code
def yX9_atOn : MethodName := ⟨RX9, "atOn", "(IIIZ)I"⟩
abbrev cX9_isWetOn : ByteArray := prog_11_method_29_code
def yX9_isWetOn : MethodName := ⟨RX9, "isWetOn", "(II)Z"⟩
abbrev cX9_readsOn : ByteArray := prog_11_method_30_code
def yX9_readsOn : MethodName := ⟨RX9, "readsOn", "(IIIIZ)Z"⟩
abbrev cX9_learnsOn : ByteArray := prog_11_method_31_code
def yX9_learnsOn : MethodName := ⟨RX9, "learnsOn", "(I)V"⟩
abbrev cX9_wholeOf : ByteArray := prog_11_method_32_code
def yX9_wholeOf : MethodName := ⟨RX9, "wholeOf", "(II)I"⟩
abbrev cX9_knownOf : ByteArray := prog_11_method_33_code
def yX9_knownOf : MethodName := ⟨RX9, "knownOf", "(I)I"⟩
abbrev cX9_pairsOn : ByteArray := prog_11_method_34_code
def yX9_pairsOn : MethodName := ⟨RX9, "pairsOn", "(I)I"⟩
abbrev cX9_rule : ByteArray := prog_11_method_35_code
def yX9_rule : MethodName := ⟨RX9, "rule", "(I)I"⟩
abbrev cX9_man : ByteArray := prog_11_method_36_code
def yX9_man : MethodName := ⟨RX9, "man", "(II)I"⟩
abbrev cX9_isPlace : ByteArray := prog_11_method_37_code
def yX9_isPlace : MethodName := ⟨RX9, "isPlace", "(II)Z"⟩
abbrev cX9_walk : ByteArray := prog_11_method_38_code
def yX9_walk : MethodName := ⟨RX9, "walk", "(II)I"⟩
abbrev cX9_street : ByteArray := prog_11_method_39_code
def yX9_street : MethodName := ⟨RX9, "street", "(II)I"⟩
abbrev cX9_reader : ByteArray := prog_11_method_40_code
def yX9_reader : MethodName := ⟨RX9, "reader", "(II)I"⟩
abbrev cX9_puts : ByteArray := prog_11_method_41_code
def yX9_puts : MethodName := ⟨RX9, "puts", "(ZII)I"⟩
abbrev cX9_alter : ByteArray := prog_11_method_42_code
def yX9_alter : MethodName := ⟨RX9, "alter", "(III)I"⟩
abbrev cX9_detour : ByteArray := prog_11_method_43_code
def yX9_detour : MethodName := ⟨RX9, "detour", "(III)I"⟩
abbrev cX9_shiftsOn : ByteArray := prog_11_method_44_code
def yX9_shiftsOn : MethodName := ⟨RX9, "shiftsOn", "(III)V"⟩
abbrev cX9_shift : ByteArray := prog_11_method_45_code
def yX9_shift : MethodName := ⟨RX9, "shift", "(II)I"⟩
abbrev cX9_stands : ByteArray := prog_11_method_46_code
def yX9_stands : MethodName := ⟨RX9, "stands", "(III)I"⟩
abbrev cX9_stand : ByteArray := prog_11_method_47_code
def yX9_stand : MethodName := ⟨RX9, "stand", "(III)I"⟩
abbrev cX9_rain : ByteArray := prog_11_method_48_code
def yX9_rain : MethodName := ⟨RX9, "rain", "(II)I"⟩
abbrev cX9_pave : ByteArray := prog_11_method_49_code
def yX9_pave : MethodName := ⟨RX9, "pave", "(II)I"⟩
abbrev cX9_at : ByteArray := prog_11_method_50_code
def yX9_at : MethodName := ⟨RX9, "at", "(II)I"⟩
abbrev cX9_reads : ByteArray := prog_11_method_51_code
def yX9_reads : MethodName := ⟨RX9, "reads", "(III)I"⟩
abbrev cX9_knows : ByteArray := prog_11_method_52_code
def yX9_knows : MethodName := ⟨RX9, "knows", "(III)I"⟩
abbrev cX9_first : ByteArray := prog_11_method_53_code
def yX9_first : MethodName := ⟨RX9, "first", "(II)I"⟩
abbrev cX9_all : ByteArray := prog_11_method_54_code
def yX9_all : MethodName := ⟨RX9, "all", "(I)I"⟩
abbrev cX9_meet : ByteArray := prog_11_method_55_code
def yX9_meet : MethodName := ⟨RX9, "meet", "(II)I"⟩
abbrev cX9_copies : ByteArray := prog_11_method_56_code
def yX9_copies : MethodName := ⟨RX9, "copies", "(II)V"⟩
abbrev cX9_isMore : ByteArray := prog_11_method_57_code
def yX9_isMore : MethodName := ⟨RX9, "isMore", "(I)Z"⟩
abbrev cX9_best : ByteArray := prog_11_method_58_code
def yX9_best : MethodName := ⟨RX9, "best", "(II)I"⟩
abbrev cX9_late : ByteArray := prog_11_method_59_code
def yX9_late : MethodName := ⟨RX9, "late", "(II)I"⟩
abbrev cX9_soon : ByteArray := prog_11_method_60_code
def yX9_soon : MethodName := ⟨RX9, "soon", "(II)I"⟩
abbrev cX9_begin : ByteArray := prog_11_method_61_code
def yX9_begin : MethodName := ⟨RX9, "begin", "(II)I"⟩
abbrev cX9_kind : ByteArray := prog_11_method_62_code
def yX9_kind : MethodName := ⟨RX9, "kind", "(II)I"⟩
abbrev cX9_swap : ByteArray := prog_11_method_63_code
def yX9_swap : MethodName := ⟨RX9, "swap", "(I)I"⟩
abbrev cX9_spoil : ByteArray := prog_11_method_64_code
def yX9_spoil : MethodName := ⟨RX9, "spoil", "(II)I"⟩
abbrev cX9_lowest : ByteArray := prog_11_method_65_code
def yX9_lowest : MethodName := ⟨RX9, "lowest", "(JJI)J"⟩
abbrev cX9_byHomes : ByteArray := prog_11_method_66_code
def yX9_byHomes : MethodName := ⟨RX9, "byHomes", "(IIII)J"⟩
abbrev cX9_luck : ByteArray := prog_11_method_67_code
def yX9_luck : MethodName := ⟨RX9, "luck", "(IIII)J"⟩
abbrev cX9_mean : ByteArray := prog_11_method_68_code
def yX9_mean : MethodName := ⟨RX9, "mean", "(II)J"⟩
abbrev cX9_see : ByteArray := prog_11_method_69_code
def yX9_see : MethodName := ⟨RX9, "see", "(IIIZ)I"⟩
abbrev cX9_forget : ByteArray := prog_11_method_70_code
def yX9_forget : MethodName := ⟨RX9, "forget", "(I)I"⟩
abbrev cX9_isAsSeen : ByteArray := prog_11_method_71_code
def yX9_isAsSeen : MethodName := ⟨RX9, "isAsSeen", "(I)Z"⟩
abbrev cX9_kindsOf : ByteArray := prog_11_method_72_code
def yX9_kindsOf : MethodName := ⟨RX9, "kindsOf", "(I)I"⟩
abbrev cX9_kinds : ByteArray := prog_11_method_73_code
def yX9_kinds : MethodName := ⟨RX9, "kinds", "(I)I"⟩
abbrev cX9_news : ByteArray := prog_11_method_74_code
def yX9_news : MethodName := ⟨RX9, "news", "(I)I"⟩
abbrev cX9_ask : ByteArray := prog_11_method_75_code
def yX9_ask : MethodName := ⟨RX9, "ask", "(II)I"⟩
abbrev cX9_drift : ByteArray := prog_11_method_76_code
def yX9_drift : MethodName := ⟨RX9, "drift", "(III)I"⟩
abbrev cX9_keep : ByteArray := prog_11_method_77_code
def yX9_keep : MethodName := ⟨RX9, "keep", "(I)I"⟩
abbrev cX9_back : ByteArray := prog_11_method_78_code
def yX9_back : MethodName := ⟨RX9, "back", "(I)I"⟩
abbrev cX9_sheet : ByteArray := prog_11_method_79_code
def yX9_sheet : MethodName := ⟨RX9, "sheet", "(III)I"⟩
abbrev cX9_lay : ByteArray := prog_11_method_80_code
def yX9_lay : MethodName := ⟨RX9, "lay", "(III)I"⟩
abbrev cX9_read : ByteArray := prog_11_method_81_code
def yX9_read : MethodName := ⟨RX9, "read", "(IIII)I"⟩
abbrev cX9_torn : ByteArray := prog_11_method_82_code
def yX9_torn : MethodName := ⟨RX9, "torn", "()I"⟩
abbrev cX9_count : ByteArray := prog_11_method_83_code
def yX9_count : MethodName := ⟨RX9, "count", "(I)I"⟩
def RJ6 : String := "java/lang/Integer"
def TJ6 : u_T := fun k => match k with
  | _ => ("", "", "", false)
def tyJ6 : Nat → FieldType := fun k => match k with
  | _ => .int
abbrev wsJ60 : List Cond := u_ws RJ6 TJ6 0
theorem nmJ6 : ∀ a, a < 0 → ∀ b, b < 0 → a ≠ b → (TJ6 a).2.1 ≠ (TJ6 b).2.1 := by decide +kernel
theorem tyJ6_ok : ∀ k, k < 0 → parseFieldDescriptor (TJ6 k).2.2.1 = some (tyJ6 k) := by decide +kernel
abbrev cJ6_bitCount_0f7a4 : ByteArray := prog_12_method_49_code
def yJ6_bitCount_0f7a4 : MethodName := ⟨RJ6, "bitCount", "(I)I"⟩
def RJ13 : String := "java/lang/Long"
def TJ13 : u_T := fun k => match k with
  | _ => ("", "", "", false)
def tyJ13 : Nat → FieldType := fun k => match k with
  | _ => .int
abbrev wsJ130 : List Cond := u_ws RJ13 TJ13 0
theorem nmJ13 : ∀ a, a < 0 → ∀ b, b < 0 → a ≠ b → (TJ13 a).2.1 ≠ (TJ13 b).2.1 := by decide +kernel
theorem tyJ13_ok : ∀ k, k < 0 → parseFieldDescriptor (TJ13 k).2.2.1 = some (tyJ13 k) := by decide +kernel
abbrev cJ13_bitCount_95d88 : ByteArray := prog_13_method_50_code
def yJ13_bitCount_95d88 : MethodName := ⟨RJ13, "bitCount", "(J)I"⟩
def RJ9 : String := "java/lang/Math"
def TJ9 : u_T := fun k => match k with
  | _ => ("", "", "", false)
def tyJ9 : Nat → FieldType := fun k => match k with
  | _ => .int
abbrev wsJ90 : List Cond := u_ws RJ9 TJ9 0
theorem nmJ9 : ∀ a, a < 0 → ∀ b, b < 0 → a ≠ b → (TJ9 a).2.1 ≠ (TJ9 b).2.1 := by decide +kernel
theorem tyJ9_ok : ∀ k, k < 0 → parseFieldDescriptor (TJ9 k).2.2.1 = some (tyJ9 k) := by decide +kernel
abbrev cJ9_max_7cf53 : ByteArray := prog_14_method_65_code
def yJ9_max_7cf53 : MethodName := ⟨RJ9, "max", "(II)I"⟩
abbrev cJ9_min_7cf53 : ByteArray := prog_14_method_69_code
def yJ9_min_7cf53 : MethodName := ⟨RJ9, "min", "(II)I"⟩
def RJ0 : String := "java/lang/String"
def TJ0 : u_T := fun k => match k with
  | _ => ("", "", "", false)
def tyJ0 : Nat → FieldType := fun k => match k with
  | _ => .int
abbrev wsJ00 : List Cond := u_ws RJ0 TJ0 0
theorem nmJ0 : ∀ a, a < 0 → ∀ b, b < 0 → a ≠ b → (TJ0 a).2.1 ≠ (TJ0 b).2.1 := by decide +kernel
theorem tyJ0_ok : ∀ k, k < 0 → parseFieldDescriptor (TJ0 k).2.2.1 = some (tyJ0 k) := by decide +kernel
abbrev cJ0_length_8abf5 : ByteArray := prog_15_method_54_code
def yJ0_length_8abf5 : MethodName := ⟨RJ0, "length", "()I"⟩
abbrev cJ0_charAt_5068e : ByteArray := prog_15_method_56_code
def yJ0_charAt_5068e : MethodName := ⟨RJ0, "charAt", "(I)C"⟩
abbrev cJ0_coder_7d493 : ByteArray := prog_15_method_152_code
def yJ0_coder_7d493 : MethodName := ⟨RJ0, "coder", "()B"⟩
abbrev cJ0_isLatin1_aae02 : ByteArray := prog_15_method_154_code
def yJ0_isLatin1_aae02 : MethodName := ⟨RJ0, "isLatin1", "()Z"⟩
abbrev cJ0_checkIndex_df160 : ByteArray := prog_15_method_155_code
def yJ0_checkIndex_df160 : MethodName := ⟨RJ0, "checkIndex", "(II)V"⟩
def RJ1 : String := "java/lang/StringLatin1"
def TJ1 : u_T := fun k => match k with
  | _ => ("", "", "", false)
def tyJ1 : Nat → FieldType := fun k => match k with
  | _ => .int
abbrev wsJ10 : List Cond := u_ws RJ1 TJ1 0
theorem nmJ1 : ∀ a, a < 0 → ∀ b, b < 0 → a ≠ b → (TJ1 a).2.1 ≠ (TJ1 b).2.1 := by decide +kernel
theorem tyJ1_ok : ∀ k, k < 0 → parseFieldDescriptor (TJ1 k).2.2.1 = some (tyJ1 k) := by decide +kernel
abbrev cJ1_charAt_3b067 : ByteArray := prog_16_method_2_code
def yJ1_charAt_3b067 : MethodName := ⟨RJ1, "charAt", "([BI)C"⟩
def RJ2 : String := "java/lang/StringUTF16"
def TJ2 : u_T := fun k => match k with
  | _ => ("", "", "", false)
def tyJ2 : Nat → FieldType := fun k => match k with
  | _ => .int
abbrev wsJ20 : List Cond := u_ws RJ2 TJ2 0
theorem nmJ2 : ∀ a, a < 0 → ∀ b, b < 0 → a ≠ b → (TJ2 a).2.1 ≠ (TJ2 b).2.1 := by decide +kernel
theorem tyJ2_ok : ∀ k, k < 0 → parseFieldDescriptor (TJ2 k).2.2.1 = some (tyJ2 k) := by decide +kernel
abbrev cJ2_getChar_3b067 : ByteArray := prog_17_method_5_code
def yJ2_getChar_3b067 : MethodName := ⟨RJ2, "getChar", "([BI)C"⟩
abbrev cJ2_length_9d52b : ByteArray := prog_17_method_6_code
def yJ2_length_9d52b : MethodName := ⟨RJ2, "length", "([B)I"⟩
abbrev cJ2_charAt_3b067 : ByteArray := prog_17_method_83_code
def yJ2_charAt_3b067 : MethodName := ⟨RJ2, "charAt", "([BI)C"⟩
abbrev cJ2_checkIndex_2214a : ByteArray := prog_17_method_91_code
def yJ2_checkIndex_2214a : MethodName := ⟨RJ2, "checkIndex", "(I[B)V"⟩
def RJ3 : String := "jdk/internal/util/Preconditions"
def TJ3 : u_T := fun k => match k with
  | _ => ("", "", "", false)
def tyJ3 : Nat → FieldType := fun k => match k with
  | _ => .int
abbrev wsJ30 : List Cond := u_ws RJ3 TJ3 0
theorem nmJ3 : ∀ a, a < 0 → ∀ b, b < 0 → a ≠ b → (TJ3 a).2.1 ≠ (TJ3 b).2.1 := by decide +kernel
theorem tyJ3_ok : ∀ k, k < 0 → parseFieldDescriptor (TJ3 k).2.2.1 = some (tyJ3 k) := by decide +kernel
abbrev cJ3_checkIndex_8e157 : ByteArray := prog_18_method_11_code
def yJ3_checkIndex_8e157 : MethodName := ⟨RJ3, "checkIndex", "(IILjava/util/function/BiFunction;)I"⟩
def RL : String := "BoardPressLaw"
abbrev cL_law : ByteArray := code
def yL_law : MethodName := ⟨RL, "law", "([I)Z"⟩
abbrev vwCl : List vw_C := [(RX0, TX0, 4), (RX1, TX1, 5), (RX2, TX2, 2), (RX3, TX3, 3), (RX4, TX4, 3), (RX5, TX5, 2), (RX6, TX6, 9), (RX7, TX7, 9), (RX8, TX8, 11), (RX9, TX9, 31)]
theorem inX0 : ∀ w ∈ wsX00, w ∈ lw_tbl := by decide +kernel
theorem inX1 : ∀ w ∈ wsX10, w ∈ lw_tbl := by decide +kernel
theorem inX2 : ∀ w ∈ wsX20, w ∈ lw_tbl := by decide +kernel
theorem inX3 : ∀ w ∈ wsX30, w ∈ lw_tbl := by decide +kernel
theorem inX4 : ∀ w ∈ wsX40, w ∈ lw_tbl := by decide +kernel
theorem inX5 : ∀ w ∈ wsX50, w ∈ lw_tbl := by decide +kernel
theorem inX6 : ∀ w ∈ wsX60, w ∈ lw_tbl := by decide +kernel
theorem inX7 : ∀ w ∈ wsX70, w ∈ lw_tbl := by decide +kernel
theorem inX8 : ∀ w ∈ wsX80, w ∈ lw_tbl := by decide +kernel
theorem inX9 : ∀ w ∈ wsX90, w ∈ lw_tbl := by decide +kernel
end
section
theorem dX0_init_0 : decode cX0_init 0 = .ok (.aload_n 0, 1) := by decide +kernel
theorem dX0_init_1 : decode cX0_init 1 = .ok (.invokespecial 3, 3) := by decide +kernel
theorem dX0_init_4 : decode cX0_init 4 = .ok (.aload_n 0, 1) := by decide +kernel
theorem dX0_init_5 : decode cX0_init 5 = .ok (.iconst 4, 1) := by decide +kernel
theorem dX0_init_6 : decode cX0_init 6 = .ok (.newarray .int, 2) := by decide +kernel
theorem dX0_init_8 : decode cX0_init 8 = .ok (.putfield 9, 3) := by decide +kernel
theorem dX0_init_11 : decode cX0_init 11 = .ok (.return_, 1) := by decide +kernel
theorem dX0_copyFrom_0 : decode cX0_copyFrom 0 = .ok (.aload_n 0, 1) := by decide +kernel
theorem dX0_copyFrom_1 : decode cX0_copyFrom 1 = .ok (.aload_n 1, 1) := by decide +kernel
theorem dX0_copyFrom_2 : decode cX0_copyFrom 2 = .ok (.getfield 15, 3) := by decide +kernel
theorem dX0_copyFrom_5 : decode cX0_copyFrom 5 = .ok (.putfield 15, 3) := by decide +kernel
theorem dX0_copyFrom_8 : decode cX0_copyFrom 8 = .ok (.aload_n 0, 1) := by decide +kernel
theorem dX0_copyFrom_9 : decode cX0_copyFrom 9 = .ok (.aload_n 1, 1) := by decide +kernel
theorem dX0_copyFrom_10 : decode cX0_copyFrom 10 = .ok (.getfield 19, 3) := by decide +kernel
theorem dX0_copyFrom_13 : decode cX0_copyFrom 13 = .ok (.putfield 19, 3) := by decide +kernel
theorem dX0_copyFrom_16 : decode cX0_copyFrom 16 = .ok (.aload_n 0, 1) := by decide +kernel
theorem dX0_copyFrom_17 : decode cX0_copyFrom 17 = .ok (.aload_n 1, 1) := by decide +kernel
theorem dX0_copyFrom_18 : decode cX0_copyFrom 18 = .ok (.getfield 22, 3) := by decide +kernel
theorem dX0_copyFrom_21 : decode cX0_copyFrom 21 = .ok (.putfield 22, 3) := by decide +kernel
theorem dX0_copyFrom_24 : decode cX0_copyFrom 24 = .ok (.iconst 0, 1) := by decide +kernel
theorem dX0_copyFrom_25 : decode cX0_copyFrom 25 = .ok (.istore_n 2, 1) := by decide +kernel
theorem dX0_copyFrom_26 : decode cX0_copyFrom 26 = .ok (.iload_n 2, 1) := by decide +kernel
theorem dX0_copyFrom_27 : decode cX0_copyFrom 27 = .ok (.aload_n 0, 1) := by decide +kernel
theorem dX0_copyFrom_28 : decode cX0_copyFrom 28 = .ok (.getfield 22, 3) := by decide +kernel
theorem dX0_copyFrom_31 : decode cX0_copyFrom 31 = .ok (.if_icmp .ge 21, 3) := by decide +kernel
theorem dX0_copyFrom_34 : decode cX0_copyFrom 34 = .ok (.aload_n 0, 1) := by decide +kernel
theorem dX0_copyFrom_35 : decode cX0_copyFrom 35 = .ok (.getfield 9, 3) := by decide +kernel
theorem dX0_copyFrom_38 : decode cX0_copyFrom 38 = .ok (.iload_n 2, 1) := by decide +kernel
theorem dX0_copyFrom_39 : decode cX0_copyFrom 39 = .ok (.aload_n 1, 1) := by decide +kernel
theorem dX0_copyFrom_40 : decode cX0_copyFrom 40 = .ok (.getfield 9, 3) := by decide +kernel
theorem dX0_copyFrom_43 : decode cX0_copyFrom 43 = .ok (.iload_n 2, 1) := by decide +kernel
theorem dX0_copyFrom_44 : decode cX0_copyFrom 44 = .ok (.iaload, 1) := by decide +kernel
theorem dX0_copyFrom_45 : decode cX0_copyFrom 45 = .ok (.iastore, 1) := by decide +kernel
theorem dX0_copyFrom_46 : decode cX0_copyFrom 46 = .ok (.iinc 2 1, 3) := by decide +kernel
theorem dX0_copyFrom_49 : decode cX0_copyFrom 49 = .ok (.goto (-23), 3) := by decide +kernel
theorem dX0_copyFrom_52 : decode cX0_copyFrom 52 = .ok (.return_, 1) := by decide +kernel
theorem dX0_hasPlace_0 : decode cX0_hasPlace 0 = .ok (.iload_n 1, 1) := by decide +kernel
theorem dX0_hasPlace_1 : decode cX0_hasPlace 1 = .ok (.ifCond .lt 15, 3) := by decide +kernel
theorem dX0_hasPlace_4 : decode cX0_hasPlace 4 = .ok (.iload_n 1, 1) := by decide +kernel
theorem dX0_hasPlace_5 : decode cX0_hasPlace 5 = .ok (.aload_n 0, 1) := by decide +kernel
theorem dX0_hasPlace_6 : decode cX0_hasPlace 6 = .ok (.getfield 22, 3) := by decide +kernel
theorem dX0_hasPlace_9 : decode cX0_hasPlace 9 = .ok (.if_icmp .ge 7, 3) := by decide +kernel
theorem dX0_hasPlace_12 : decode cX0_hasPlace 12 = .ok (.iconst 1, 1) := by decide +kernel
theorem dX0_hasPlace_13 : decode cX0_hasPlace 13 = .ok (.goto 4, 3) := by decide +kernel
theorem dX0_hasPlace_16 : decode cX0_hasPlace 16 = .ok (.iconst 0, 1) := by decide +kernel
theorem dX0_hasPlace_17 : decode cX0_hasPlace 17 = .ok (.ireturn, 1) := by decide +kernel
theorem dX0_addCorner_0 : decode cX0_addCorner 0 = .ok (.aload_n 0, 1) := by decide +kernel
theorem dX0_addCorner_1 : decode cX0_addCorner 1 = .ok (.getfield 22, 3) := by decide +kernel
theorem dX0_addCorner_4 : decode cX0_addCorner 4 = .ok (.iconst 4, 1) := by decide +kernel
theorem dX0_addCorner_5 : decode cX0_addCorner 5 = .ok (.if_icmp .lt 5, 3) := by decide +kernel
theorem dX0_addCorner_8 : decode cX0_addCorner 8 = .ok (.iconst 0, 1) := by decide +kernel
theorem dX0_addCorner_9 : decode cX0_addCorner 9 = .ok (.ireturn, 1) := by decide +kernel
theorem dX0_addCorner_10 : decode cX0_addCorner 10 = .ok (.aload_n 0, 1) := by decide +kernel
theorem dX0_addCorner_11 : decode cX0_addCorner 11 = .ok (.getfield 9, 3) := by decide +kernel
theorem dX0_addCorner_14 : decode cX0_addCorner 14 = .ok (.aload_n 0, 1) := by decide +kernel
theorem dX0_addCorner_15 : decode cX0_addCorner 15 = .ok (.getfield 22, 3) := by decide +kernel
theorem dX0_addCorner_18 : decode cX0_addCorner 18 = .ok (.iload_n 1, 1) := by decide +kernel
theorem dX0_addCorner_19 : decode cX0_addCorner 19 = .ok (.iastore, 1) := by decide +kernel
theorem dX0_addCorner_20 : decode cX0_addCorner 20 = .ok (.aload_n 0, 1) := by decide +kernel
theorem dX0_addCorner_21 : decode cX0_addCorner 21 = .ok (.dup, 1) := by decide +kernel
theorem dX0_addCorner_22 : decode cX0_addCorner 22 = .ok (.getfield 22, 3) := by decide +kernel
theorem dX0_addCorner_25 : decode cX0_addCorner 25 = .ok (.iconst 1, 1) := by decide +kernel
theorem dX0_addCorner_26 : decode cX0_addCorner 26 = .ok (.iadd, 1) := by decide +kernel
theorem dX0_addCorner_27 : decode cX0_addCorner 27 = .ok (.putfield 22, 3) := by decide +kernel
theorem dX0_addCorner_30 : decode cX0_addCorner 30 = .ok (.iconst 1, 1) := by decide +kernel
theorem dX0_addCorner_31 : decode cX0_addCorner 31 = .ok (.ireturn, 1) := by decide +kernel
theorem dX0_pace_0 : decode cX0_pace 0 = .ok (.aload_n 0, 1) := by decide +kernel
theorem dX0_pace_1 : decode cX0_pace 1 = .ok (.getfield 15, 3) := by decide +kernel
theorem dX0_pace_4 : decode cX0_pace 4 = .ok (.tableswitch 35 1 3 #[28, 30, 32], 28) := by decide +kernel
theorem dX0_pace_32 : decode cX0_pace 32 = .ok (.iconst 1, 1) := by decide +kernel
theorem dX0_pace_33 : decode cX0_pace 33 = .ok (.ireturn, 1) := by decide +kernel
theorem dX0_pace_34 : decode cX0_pace 34 = .ok (.iconst 3, 1) := by decide +kernel
theorem dX0_pace_35 : decode cX0_pace 35 = .ok (.ireturn, 1) := by decide +kernel
theorem dX0_pace_36 : decode cX0_pace 36 = .ok (.bipush 6, 2) := by decide +kernel
theorem dX0_pace_38 : decode cX0_pace 38 = .ok (.ireturn, 1) := by decide +kernel
theorem dX0_pace_39 : decode cX0_pace 39 = .ok (.iconst 2, 1) := by decide +kernel
theorem dX0_pace_40 : decode cX0_pace 40 = .ok (.ireturn, 1) := by decide +kernel
theorem dX0_cornerIn_0 : decode cX0_cornerIn 0 = .ok (.aload_n 0, 1) := by decide +kernel
theorem dX0_cornerIn_1 : decode cX0_cornerIn 1 = .ok (.invokevirtual 25, 3) := by decide +kernel
theorem dX0_cornerIn_4 : decode cX0_cornerIn 4 = .ok (.istore_n 2, 1) := by decide +kernel
theorem dX0_cornerIn_5 : decode cX0_cornerIn 5 = .ok (.aload_n 0, 1) := by decide +kernel
theorem dX0_cornerIn_6 : decode cX0_cornerIn 6 = .ok (.getfield 22, 3) := by decide +kernel
theorem dX0_cornerIn_9 : decode cX0_cornerIn 9 = .ok (.iconst 1, 1) := by decide +kernel
theorem dX0_cornerIn_10 : decode cX0_cornerIn 10 = .ok (.if_icmp .lt 9, 3) := by decide +kernel
theorem dX0_cornerIn_13 : decode cX0_cornerIn 13 = .ok (.iload_n 1, 1) := by decide +kernel
theorem dX0_cornerIn_14 : decode cX0_cornerIn 14 = .ok (.iload_n 2, 1) := by decide +kernel
theorem dX0_cornerIn_15 : decode cX0_cornerIn 15 = .ok (.irem, 1) := by decide +kernel
theorem dX0_cornerIn_16 : decode cX0_cornerIn 16 = .ok (.ifCond .eq 6, 3) := by decide +kernel
theorem dX0_cornerIn_19 : decode cX0_cornerIn 19 = .ok (.bipush (-4), 2) := by decide +kernel
theorem dX0_cornerIn_21 : decode cX0_cornerIn 21 = .ok (.ireturn, 1) := by decide +kernel
theorem dX0_cornerIn_22 : decode cX0_cornerIn 22 = .ok (.aload_n 0, 1) := by decide +kernel
theorem dX0_cornerIn_23 : decode cX0_cornerIn 23 = .ok (.getfield 9, 3) := by decide +kernel
theorem dX0_cornerIn_26 : decode cX0_cornerIn 26 = .ok (.iload_n 1, 1) := by decide +kernel
theorem dX0_cornerIn_27 : decode cX0_cornerIn 27 = .ok (.iload_n 2, 1) := by decide +kernel
theorem dX0_cornerIn_28 : decode cX0_cornerIn 28 = .ok (.idiv, 1) := by decide +kernel
theorem dX0_cornerIn_29 : decode cX0_cornerIn 29 = .ok (.aload_n 0, 1) := by decide +kernel
theorem dX0_cornerIn_30 : decode cX0_cornerIn 30 = .ok (.getfield 22, 3) := by decide +kernel
theorem dX0_cornerIn_33 : decode cX0_cornerIn 33 = .ok (.irem, 1) := by decide +kernel
theorem dX0_cornerIn_34 : decode cX0_cornerIn 34 = .ok (.iaload, 1) := by decide +kernel
theorem dX0_cornerIn_35 : decode cX0_cornerIn 35 = .ok (.ireturn, 1) := by decide +kernel
theorem dX0_minutesShown_0 : decode cX0_minutesShown 0 = .ok (.iload_n 2, 1) := by decide +kernel
theorem dX0_minutesShown_1 : decode cX0_minutesShown 1 = .ok (.iconst 1, 1) := by decide +kernel
theorem dX0_minutesShown_2 : decode cX0_minutesShown 2 = .ok (.if_icmp .ne 13, 3) := by decide +kernel
theorem dX0_minutesShown_5 : decode cX0_minutesShown 5 = .ok (.aload_n 0, 1) := by decide +kernel
theorem dX0_minutesShown_6 : decode cX0_minutesShown 6 = .ok (.getfield 22, 3) := by decide +kernel
theorem dX0_minutesShown_9 : decode cX0_minutesShown 9 = .ok (.iconst 2, 1) := by decide +kernel
theorem dX0_minutesShown_10 : decode cX0_minutesShown 10 = .ok (.if_icmp .ge 5, 3) := by decide +kernel
theorem dX0_minutesShown_13 : decode cX0_minutesShown 13 = .ok (.lconst 0, 1) := by decide +kernel
theorem dX0_minutesShown_14 : decode cX0_minutesShown 14 = .ok (.lreturn, 1) := by decide +kernel
theorem dX0_minutesShown_15 : decode cX0_minutesShown 15 = .ok (.aload_n 0, 1) := by decide +kernel
theorem dX0_minutesShown_16 : decode cX0_minutesShown 16 = .ok (.invokevirtual 25, 3) := by decide +kernel
theorem dX0_minutesShown_19 : decode cX0_minutesShown 19 = .ok (.istore_n 3, 1) := by decide +kernel
theorem dX0_minutesShown_20 : decode cX0_minutesShown 20 = .ok (.iload_n 2, 1) := by decide +kernel
theorem dX0_minutesShown_21 : decode cX0_minutesShown 21 = .ok (.iconst 1, 1) := by decide +kernel
theorem dX0_minutesShown_22 : decode cX0_minutesShown 22 = .ok (.if_icmp .ne 7, 3) := by decide +kernel
theorem dX0_minutesShown_25 : decode cX0_minutesShown 25 = .ok (.iconst 1, 1) := by decide +kernel
theorem dX0_minutesShown_26 : decode cX0_minutesShown 26 = .ok (.goto 4, 3) := by decide +kernel
theorem dX0_minutesShown_29 : decode cX0_minutesShown 29 = .ok (.iconst 0, 1) := by decide +kernel
theorem dX0_minutesShown_30 : decode cX0_minutesShown 30 = .ok (.istore 4, 2) := by decide +kernel
theorem dX0_minutesShown_32 : decode cX0_minutesShown 32 = .ok (.lconst 0, 1) := by decide +kernel
theorem dX0_minutesShown_33 : decode cX0_minutesShown 33 = .ok (.lstore 5, 2) := by decide +kernel
theorem dX0_minutesShown_35 : decode cX0_minutesShown 35 = .ok (.iconst 0, 1) := by decide +kernel
theorem dX0_minutesShown_36 : decode cX0_minutesShown 36 = .ok (.istore 7, 2) := by decide +kernel
theorem dX0_minutesShown_38 : decode cX0_minutesShown 38 = .ok (.iload 7, 2) := by decide +kernel
theorem dX0_minutesShown_40 : decode cX0_minutesShown 40 = .ok (.aload_n 0, 1) := by decide +kernel
theorem dX0_minutesShown_41 : decode cX0_minutesShown 41 = .ok (.getfield 22, 3) := by decide +kernel
theorem dX0_minutesShown_44 : decode cX0_minutesShown 44 = .ok (.if_icmp .ge 34, 3) := by decide +kernel
theorem dX0_minutesShown_47 : decode cX0_minutesShown 47 = .ok (.aload_n 0, 1) := by decide +kernel
theorem dX0_minutesShown_48 : decode cX0_minutesShown 48 = .ok (.getfield 9, 3) := by decide +kernel
theorem dX0_minutesShown_51 : decode cX0_minutesShown 51 = .ok (.iload 7, 2) := by decide +kernel
theorem dX0_minutesShown_53 : decode cX0_minutesShown 53 = .ok (.iaload, 1) := by decide +kernel
theorem dX0_minutesShown_54 : decode cX0_minutesShown 54 = .ok (.iload_n 1, 1) := by decide +kernel
theorem dX0_minutesShown_55 : decode cX0_minutesShown 55 = .ok (.if_icmp .ne 17, 3) := by decide +kernel
theorem dX0_minutesShown_58 : decode cX0_minutesShown 58 = .ok (.lload 5, 2) := by decide +kernel
theorem dX0_minutesShown_60 : decode cX0_minutesShown 60 = .ok (.lconst 1, 1) := by decide +kernel
theorem dX0_minutesShown_61 : decode cX0_minutesShown 61 = .ok (.iload_n 3, 1) := by decide +kernel
theorem dX0_minutesShown_62 : decode cX0_minutesShown 62 = .ok (.iload 7, 2) := by decide +kernel
theorem dX0_minutesShown_64 : decode cX0_minutesShown 64 = .ok (.iload 4, 2) := by decide +kernel
theorem dX0_minutesShown_66 : decode cX0_minutesShown 66 = .ok (.iadd, 1) := by decide +kernel
theorem dX0_minutesShown_67 : decode cX0_minutesShown 67 = .ok (.imul, 1) := by decide +kernel
theorem dX0_minutesShown_68 : decode cX0_minutesShown 68 = .ok (.lshl, 1) := by decide +kernel
theorem dX0_minutesShown_69 : decode cX0_minutesShown 69 = .ok (.lor, 1) := by decide +kernel
theorem dX0_minutesShown_70 : decode cX0_minutesShown 70 = .ok (.lstore 5, 2) := by decide +kernel
theorem dX0_minutesShown_72 : decode cX0_minutesShown 72 = .ok (.iinc 7 1, 3) := by decide +kernel
theorem dX0_minutesShown_75 : decode cX0_minutesShown 75 = .ok (.goto (-37), 3) := by decide +kernel
theorem dX0_minutesShown_78 : decode cX0_minutesShown 78 = .ok (.lload 5, 2) := by decide +kernel
theorem dX0_minutesShown_80 : decode cX0_minutesShown 80 = .ok (.lconst 0, 1) := by decide +kernel
theorem dX0_minutesShown_81 : decode cX0_minutesShown 81 = .ok (.lcmp, 1) := by decide +kernel
theorem dX0_minutesShown_82 : decode cX0_minutesShown 82 = .ok (.ifCond .ne 7, 3) := by decide +kernel
theorem dX0_minutesShown_85 : decode cX0_minutesShown 85 = .ok (.lconst 0, 1) := by decide +kernel
theorem dX0_minutesShown_86 : decode cX0_minutesShown 86 = .ok (.goto 14, 3) := by decide +kernel
theorem dX0_minutesShown_89 : decode cX0_minutesShown 89 = .ok (.lload 5, 2) := by decide +kernel
theorem dX0_minutesShown_91 : decode cX0_minutesShown 91 = .ok (.iload_n 3, 1) := by decide +kernel
theorem dX0_minutesShown_92 : decode cX0_minutesShown 92 = .ok (.aload_n 0, 1) := by decide +kernel
theorem dX0_minutesShown_93 : decode cX0_minutesShown 93 = .ok (.getfield 22, 3) := by decide +kernel
theorem dX0_minutesShown_96 : decode cX0_minutesShown 96 = .ok (.imul, 1) := by decide +kernel
theorem dX0_minutesShown_97 : decode cX0_minutesShown 97 = .ok (.invokestatic 29, 3) := by decide +kernel
theorem dX0_minutesShown_100 : decode cX0_minutesShown 100 = .ok (.lreturn, 1) := by decide +kernel
theorem dX0_turnTo_0 : decode cX0_turnTo 0 = .ok (.iconst 0, 1) := by decide +kernel
theorem dX0_turnTo_1 : decode cX0_turnTo 1 = .ok (.istore_n 2, 1) := by decide +kernel
theorem dX0_turnTo_2 : decode cX0_turnTo 2 = .ok (.iload_n 2, 1) := by decide +kernel
theorem dX0_turnTo_3 : decode cX0_turnTo 3 = .ok (.iload_n 1, 1) := by decide +kernel
theorem dX0_turnTo_4 : decode cX0_turnTo 4 = .ok (.if_icmp .ge 13, 3) := by decide +kernel
theorem dX0_turnTo_7 : decode cX0_turnTo 7 = .ok (.aload_n 0, 1) := by decide +kernel
theorem dX0_turnTo_8 : decode cX0_turnTo 8 = .ok (.invokevirtual 33, 3) := by decide +kernel
theorem dX0_turnTo_11 : decode cX0_turnTo 11 = .ok (.iinc 2 1, 3) := by decide +kernel
theorem dX0_turnTo_14 : decode cX0_turnTo 14 = .ok (.goto (-12), 3) := by decide +kernel
theorem dX0_turnTo_17 : decode cX0_turnTo 17 = .ok (.return_, 1) := by decide +kernel
theorem dX0_turnByOne_0 : decode cX0_turnByOne 0 = .ok (.aload_n 0, 1) := by decide +kernel
theorem dX0_turnByOne_1 : decode cX0_turnByOne 1 = .ok (.getfield 9, 3) := by decide +kernel
theorem dX0_turnByOne_4 : decode cX0_turnByOne 4 = .ok (.iconst 0, 1) := by decide +kernel
theorem dX0_turnByOne_5 : decode cX0_turnByOne 5 = .ok (.iaload, 1) := by decide +kernel
theorem dX0_turnByOne_6 : decode cX0_turnByOne 6 = .ok (.istore_n 1, 1) := by decide +kernel
theorem dX0_turnByOne_7 : decode cX0_turnByOne 7 = .ok (.iconst 1, 1) := by decide +kernel
theorem dX0_turnByOne_8 : decode cX0_turnByOne 8 = .ok (.istore_n 2, 1) := by decide +kernel
theorem dX0_turnByOne_9 : decode cX0_turnByOne 9 = .ok (.iload_n 2, 1) := by decide +kernel
theorem dX0_turnByOne_10 : decode cX0_turnByOne 10 = .ok (.aload_n 0, 1) := by decide +kernel
theorem dX0_turnByOne_11 : decode cX0_turnByOne 11 = .ok (.getfield 22, 3) := by decide +kernel
theorem dX0_turnByOne_14 : decode cX0_turnByOne 14 = .ok (.if_icmp .ge 30, 3) := by decide +kernel
theorem dX0_turnByOne_17 : decode cX0_turnByOne 17 = .ok (.aload_n 0, 1) := by decide +kernel
theorem dX0_turnByOne_18 : decode cX0_turnByOne 18 = .ok (.getfield 9, 3) := by decide +kernel
theorem dX0_turnByOne_21 : decode cX0_turnByOne 21 = .ok (.iload_n 2, 1) := by decide +kernel
theorem dX0_turnByOne_22 : decode cX0_turnByOne 22 = .ok (.iconst 1, 1) := by decide +kernel
theorem dX0_turnByOne_23 : decode cX0_turnByOne 23 = .ok (.isub, 1) := by decide +kernel
theorem dX0_turnByOne_24 : decode cX0_turnByOne 24 = .ok (.aload_n 0, 1) := by decide +kernel
theorem dX0_turnByOne_25 : decode cX0_turnByOne 25 = .ok (.getfield 9, 3) := by decide +kernel
theorem dX0_turnByOne_28 : decode cX0_turnByOne 28 = .ok (.iload_n 2, 1) := by decide +kernel
theorem dX0_turnByOne_29 : decode cX0_turnByOne 29 = .ok (.iaload, 1) := by decide +kernel
theorem dX0_turnByOne_30 : decode cX0_turnByOne 30 = .ok (.iastore, 1) := by decide +kernel
theorem dX0_turnByOne_31 : decode cX0_turnByOne 31 = .ok (.aload_n 0, 1) := by decide +kernel
theorem dX0_turnByOne_32 : decode cX0_turnByOne 32 = .ok (.getfield 9, 3) := by decide +kernel
theorem dX0_turnByOne_35 : decode cX0_turnByOne 35 = .ok (.iload_n 2, 1) := by decide +kernel
theorem dX0_turnByOne_36 : decode cX0_turnByOne 36 = .ok (.iload_n 1, 1) := by decide +kernel
theorem dX0_turnByOne_37 : decode cX0_turnByOne 37 = .ok (.iastore, 1) := by decide +kernel
theorem dX0_turnByOne_38 : decode cX0_turnByOne 38 = .ok (.iinc 2 1, 3) := by decide +kernel
theorem dX0_turnByOne_41 : decode cX0_turnByOne 41 = .ok (.goto (-32), 3) := by decide +kernel
theorem dX0_turnByOne_44 : decode cX0_turnByOne 44 = .ok (.return_, 1) := by decide +kernel
theorem dX1_init_0 : decode cX1_init 0 = .ok (.aload_n 0, 1) := by decide +kernel
theorem dX1_init_1 : decode cX1_init 1 = .ok (.invokespecial 3, 3) := by decide +kernel
theorem dX1_init_4 : decode cX1_init 4 = .ok (.aload_n 0, 1) := by decide +kernel
theorem dX1_init_5 : decode cX1_init 5 = .ok (.bipush 6, 2) := by decide +kernel
theorem dX1_init_7 : decode cX1_init 7 = .ok (.newarray .int, 2) := by decide +kernel
theorem dX1_init_9 : decode cX1_init 9 = .ok (.putfield 9, 3) := by decide +kernel
theorem dX1_init_12 : decode cX1_init 12 = .ok (.aload_n 0, 1) := by decide +kernel
theorem dX1_init_13 : decode cX1_init 13 = .ok (.bipush 6, 2) := by decide +kernel
theorem dX1_init_15 : decode cX1_init 15 = .ok (.newarray .int, 2) := by decide +kernel
theorem dX1_init_17 : decode cX1_init 17 = .ok (.putfield 15, 3) := by decide +kernel
theorem dX1_init_20 : decode cX1_init 20 = .ok (.aload_n 0, 1) := by decide +kernel
theorem dX1_init_21 : decode cX1_init 21 = .ok (.bipush 6, 2) := by decide +kernel
theorem dX1_init_23 : decode cX1_init 23 = .ok (.newarray .int, 2) := by decide +kernel
theorem dX1_init_25 : decode cX1_init 25 = .ok (.putfield 18, 3) := by decide +kernel
theorem dX1_init_28 : decode cX1_init 28 = .ok (.aload_n 0, 1) := by decide +kernel
theorem dX1_init_29 : decode cX1_init 29 = .ok (.bipush 6, 2) := by decide +kernel
theorem dX1_init_31 : decode cX1_init 31 = .ok (.newarray .boolean, 2) := by decide +kernel
theorem dX1_init_33 : decode cX1_init 33 = .ok (.putfield 21, 3) := by decide +kernel
theorem dX1_init_36 : decode cX1_init 36 = .ok (.return_, 1) := by decide +kernel
theorem dX1_add_0 : decode cX1_add 0 = .ok (.aload_n 0, 1) := by decide +kernel
theorem dX1_add_1 : decode cX1_add 1 = .ok (.getfield 25, 3) := by decide +kernel
theorem dX1_add_4 : decode cX1_add 4 = .ok (.bipush 6, 2) := by decide +kernel
theorem dX1_add_6 : decode cX1_add 6 = .ok (.if_icmp .lt 5, 3) := by decide +kernel
theorem dX1_add_9 : decode cX1_add 9 = .ok (.iconst 0, 1) := by decide +kernel
theorem dX1_add_10 : decode cX1_add 10 = .ok (.ireturn, 1) := by decide +kernel
theorem dX1_add_11 : decode cX1_add 11 = .ok (.aload_n 0, 1) := by decide +kernel
theorem dX1_add_12 : decode cX1_add 12 = .ok (.getfield 9, 3) := by decide +kernel
theorem dX1_add_15 : decode cX1_add 15 = .ok (.aload_n 0, 1) := by decide +kernel
theorem dX1_add_16 : decode cX1_add 16 = .ok (.getfield 25, 3) := by decide +kernel
theorem dX1_add_19 : decode cX1_add 19 = .ok (.iload_n 1, 1) := by decide +kernel
theorem dX1_add_20 : decode cX1_add 20 = .ok (.iastore, 1) := by decide +kernel
theorem dX1_add_21 : decode cX1_add 21 = .ok (.aload_n 0, 1) := by decide +kernel
theorem dX1_add_22 : decode cX1_add 22 = .ok (.getfield 15, 3) := by decide +kernel
theorem dX1_add_25 : decode cX1_add 25 = .ok (.aload_n 0, 1) := by decide +kernel
theorem dX1_add_26 : decode cX1_add 26 = .ok (.getfield 25, 3) := by decide +kernel
theorem dX1_add_29 : decode cX1_add 29 = .ok (.iload_n 2, 1) := by decide +kernel
theorem dX1_add_30 : decode cX1_add 30 = .ok (.iastore, 1) := by decide +kernel
theorem dX1_add_31 : decode cX1_add 31 = .ok (.aload_n 0, 1) := by decide +kernel
theorem dX1_add_32 : decode cX1_add 32 = .ok (.getfield 18, 3) := by decide +kernel
theorem dX1_add_35 : decode cX1_add 35 = .ok (.aload_n 0, 1) := by decide +kernel
theorem dX1_add_36 : decode cX1_add 36 = .ok (.getfield 25, 3) := by decide +kernel
theorem dX1_add_39 : decode cX1_add 39 = .ok (.iload_n 3, 1) := by decide +kernel
theorem dX1_add_40 : decode cX1_add 40 = .ok (.iastore, 1) := by decide +kernel
theorem dX1_add_41 : decode cX1_add 41 = .ok (.aload_n 0, 1) := by decide +kernel
theorem dX1_add_42 : decode cX1_add 42 = .ok (.getfield 21, 3) := by decide +kernel
theorem dX1_add_45 : decode cX1_add 45 = .ok (.aload_n 0, 1) := by decide +kernel
theorem dX1_add_46 : decode cX1_add 46 = .ok (.getfield 25, 3) := by decide +kernel
theorem dX1_add_49 : decode cX1_add 49 = .ok (.iload 4, 2) := by decide +kernel
theorem dX1_add_51 : decode cX1_add 51 = .ok (.bastore, 1) := by decide +kernel
theorem dX1_add_52 : decode cX1_add 52 = .ok (.aload_n 0, 1) := by decide +kernel
theorem dX1_add_53 : decode cX1_add 53 = .ok (.dup, 1) := by decide +kernel
theorem dX1_add_54 : decode cX1_add 54 = .ok (.getfield 25, 3) := by decide +kernel
theorem dX1_add_57 : decode cX1_add 57 = .ok (.iconst 1, 1) := by decide +kernel
theorem dX1_add_58 : decode cX1_add 58 = .ok (.iadd, 1) := by decide +kernel
theorem dX1_add_59 : decode cX1_add 59 = .ok (.putfield 25, 3) := by decide +kernel
theorem dX1_add_62 : decode cX1_add 62 = .ok (.iconst 1, 1) := by decide +kernel
theorem dX1_add_63 : decode cX1_add 63 = .ok (.ireturn, 1) := by decide +kernel
theorem dX1_agreesWith_0 : decode cX1_agreesWith 0 = .ok (.iconst 0, 1) := by decide +kernel
theorem dX1_agreesWith_1 : decode cX1_agreesWith 1 = .ok (.istore_n 2, 1) := by decide +kernel
theorem dX1_agreesWith_2 : decode cX1_agreesWith 2 = .ok (.iload_n 2, 1) := by decide +kernel
theorem dX1_agreesWith_3 : decode cX1_agreesWith 3 = .ok (.aload_n 0, 1) := by decide +kernel
theorem dX1_agreesWith_4 : decode cX1_agreesWith 4 = .ok (.getfield 25, 3) := by decide +kernel
theorem dX1_agreesWith_7 : decode cX1_agreesWith 7 = .ok (.if_icmp .ge 80, 3) := by decide +kernel
theorem dX1_agreesWith_10 : decode cX1_agreesWith 10 = .ok (.aload_n 1, 1) := by decide +kernel
theorem dX1_agreesWith_11 : decode cX1_agreesWith 11 = .ok (.aload_n 0, 1) := by decide +kernel
theorem dX1_agreesWith_12 : decode cX1_agreesWith 12 = .ok (.getfield 9, 3) := by decide +kernel
theorem dX1_agreesWith_15 : decode cX1_agreesWith 15 = .ok (.iload_n 2, 1) := by decide +kernel
theorem dX1_agreesWith_16 : decode cX1_agreesWith 16 = .ok (.iaload, 1) := by decide +kernel
theorem dX1_agreesWith_17 : decode cX1_agreesWith 17 = .ok (.invokevirtual 29, 3) := by decide +kernel
theorem dX1_agreesWith_20 : decode cX1_agreesWith 20 = .ok (.astore_n 3, 1) := by decide +kernel
theorem dX1_agreesWith_21 : decode cX1_agreesWith 21 = .ok (.aload_n 3, 1) := by decide +kernel
theorem dX1_agreesWith_22 : decode cX1_agreesWith 22 = .ok (.ifnonnull 5, 3) := by decide +kernel
theorem dX1_agreesWith_25 : decode cX1_agreesWith 25 = .ok (.iconst 0, 1) := by decide +kernel
theorem dX1_agreesWith_26 : decode cX1_agreesWith 26 = .ok (.ireturn, 1) := by decide +kernel
theorem dX1_agreesWith_27 : decode cX1_agreesWith 27 = .ok (.aload_n 1, 1) := by decide +kernel
theorem dX1_agreesWith_28 : decode cX1_agreesWith 28 = .ok (.aload_n 3, 1) := by decide +kernel
theorem dX1_agreesWith_29 : decode cX1_agreesWith 29 = .ok (.iconst 0, 1) := by decide +kernel
theorem dX1_agreesWith_30 : decode cX1_agreesWith 30 = .ok (.aload_n 0, 1) := by decide +kernel
theorem dX1_agreesWith_31 : decode cX1_agreesWith 31 = .ok (.getfield 18, 3) := by decide +kernel
theorem dX1_agreesWith_34 : decode cX1_agreesWith 34 = .ok (.iload_n 2, 1) := by decide +kernel
theorem dX1_agreesWith_35 : decode cX1_agreesWith 35 = .ok (.iaload, 1) := by decide +kernel
theorem dX1_agreesWith_36 : decode cX1_agreesWith 36 = .ok (.invokestatic 35, 3) := by decide +kernel
theorem dX1_agreesWith_39 : decode cX1_agreesWith 39 = .ok (.bipush 15, 2) := by decide +kernel
theorem dX1_agreesWith_41 : decode cX1_agreesWith 41 = .ok (.invokevirtual 39, 3) := by decide +kernel
theorem dX1_agreesWith_44 : decode cX1_agreesWith 44 = .ok (.istore 4, 2) := by decide +kernel
theorem dX1_agreesWith_46 : decode cX1_agreesWith 46 = .ok (.iload 4, 2) := by decide +kernel
theorem dX1_agreesWith_48 : decode cX1_agreesWith 48 = .ok (.aload_n 0, 1) := by decide +kernel
theorem dX1_agreesWith_49 : decode cX1_agreesWith 49 = .ok (.getfield 15, 3) := by decide +kernel
theorem dX1_agreesWith_52 : decode cX1_agreesWith 52 = .ok (.iload_n 2, 1) := by decide +kernel
theorem dX1_agreesWith_53 : decode cX1_agreesWith 53 = .ok (.iaload, 1) := by decide +kernel
theorem dX1_agreesWith_54 : decode cX1_agreesWith 54 = .ok (.ishr, 1) := by decide +kernel
theorem dX1_agreesWith_55 : decode cX1_agreesWith 55 = .ok (.iconst 1, 1) := by decide +kernel
theorem dX1_agreesWith_56 : decode cX1_agreesWith 56 = .ok (.iand, 1) := by decide +kernel
theorem dX1_agreesWith_57 : decode cX1_agreesWith 57 = .ok (.iconst 1, 1) := by decide +kernel
theorem dX1_agreesWith_58 : decode cX1_agreesWith 58 = .ok (.if_icmp .ne 7, 3) := by decide +kernel
theorem dX1_agreesWith_61 : decode cX1_agreesWith 61 = .ok (.iconst 1, 1) := by decide +kernel
theorem dX1_agreesWith_62 : decode cX1_agreesWith 62 = .ok (.goto 4, 3) := by decide +kernel
theorem dX1_agreesWith_65 : decode cX1_agreesWith 65 = .ok (.iconst 0, 1) := by decide +kernel
theorem dX1_agreesWith_66 : decode cX1_agreesWith 66 = .ok (.istore 5, 2) := by decide +kernel
theorem dX1_agreesWith_68 : decode cX1_agreesWith 68 = .ok (.iload 5, 2) := by decide +kernel
theorem dX1_agreesWith_70 : decode cX1_agreesWith 70 = .ok (.aload_n 0, 1) := by decide +kernel
theorem dX1_agreesWith_71 : decode cX1_agreesWith 71 = .ok (.getfield 21, 3) := by decide +kernel
theorem dX1_agreesWith_74 : decode cX1_agreesWith 74 = .ok (.iload_n 2, 1) := by decide +kernel
theorem dX1_agreesWith_75 : decode cX1_agreesWith 75 = .ok (.baload, 1) := by decide +kernel
theorem dX1_agreesWith_76 : decode cX1_agreesWith 76 = .ok (.if_icmp .eq 5, 3) := by decide +kernel
theorem dX1_agreesWith_79 : decode cX1_agreesWith 79 = .ok (.iconst 0, 1) := by decide +kernel
theorem dX1_agreesWith_80 : decode cX1_agreesWith 80 = .ok (.ireturn, 1) := by decide +kernel
theorem dX1_agreesWith_81 : decode cX1_agreesWith 81 = .ok (.iinc 2 1, 3) := by decide +kernel
theorem dX1_agreesWith_84 : decode cX1_agreesWith 84 = .ok (.goto (-82), 3) := by decide +kernel
theorem dX1_agreesWith_87 : decode cX1_agreesWith 87 = .ok (.iconst 1, 1) := by decide +kernel
theorem dX1_agreesWith_88 : decode cX1_agreesWith 88 = .ok (.ireturn, 1) := by decide +kernel
theorem dX2_init_0 : decode cX2_init 0 = .ok (.aload_n 0, 1) := by decide +kernel
theorem dX2_init_1 : decode cX2_init 1 = .ok (.invokespecial 3, 3) := by decide +kernel
theorem dX2_init_4 : decode cX2_init 4 = .ok (.aload_n 0, 1) := by decide +kernel
theorem dX2_init_5 : decode cX2_init 5 = .ok (.bipush (-4), 2) := by decide +kernel
theorem dX2_init_7 : decode cX2_init 7 = .ok (.putfield 9, 3) := by decide +kernel
theorem dX2_init_10 : decode cX2_init 10 = .ok (.return_, 1) := by decide +kernel
theorem dX2_restart_0 : decode cX2_restart 0 = .ok (.aload_n 0, 1) := by decide +kernel
theorem dX2_restart_1 : decode cX2_restart 1 = .ok (.bipush (-4), 2) := by decide +kernel
theorem dX2_restart_3 : decode cX2_restart 3 = .ok (.putfield 9, 3) := by decide +kernel
theorem dX2_restart_6 : decode cX2_restart 6 = .ok (.aload_n 0, 1) := by decide +kernel
theorem dX2_restart_7 : decode cX2_restart 7 = .ok (.iload_n 1, 1) := by decide +kernel
theorem dX2_restart_8 : decode cX2_restart 8 = .ok (.putfield 15, 3) := by decide +kernel
theorem dX2_restart_11 : decode cX2_restart 11 = .ok (.return_, 1) := by decide +kernel
theorem dX2_offer_0 : decode cX2_offer 0 = .ok (.iload_n 2, 1) := by decide +kernel
theorem dX2_offer_1 : decode cX2_offer 1 = .ok (.aload_n 0, 1) := by decide +kernel
theorem dX2_offer_2 : decode cX2_offer 2 = .ok (.getfield 15, 3) := by decide +kernel
theorem dX2_offer_5 : decode cX2_offer 5 = .ok (.if_icmp .le 13, 3) := by decide +kernel
theorem dX2_offer_8 : decode cX2_offer 8 = .ok (.aload_n 0, 1) := by decide +kernel
theorem dX2_offer_9 : decode cX2_offer 9 = .ok (.iload_n 1, 1) := by decide +kernel
theorem dX2_offer_10 : decode cX2_offer 10 = .ok (.putfield 9, 3) := by decide +kernel
theorem dX2_offer_13 : decode cX2_offer 13 = .ok (.aload_n 0, 1) := by decide +kernel
theorem dX2_offer_14 : decode cX2_offer 14 = .ok (.iload_n 2, 1) := by decide +kernel
theorem dX2_offer_15 : decode cX2_offer 15 = .ok (.putfield 15, 3) := by decide +kernel
theorem dX2_offer_18 : decode cX2_offer 18 = .ok (.return_, 1) := by decide +kernel
theorem dX2_told_0 : decode cX2_told 0 = .ok (.aload_n 0, 1) := by decide +kernel
theorem dX2_told_1 : decode cX2_told 1 = .ok (.getfield 9, 3) := by decide +kernel
theorem dX2_told_4 : decode cX2_told 4 = .ok (.bipush (-4), 2) := by decide +kernel
theorem dX2_told_6 : decode cX2_told 6 = .ok (.if_icmp .eq 7, 3) := by decide +kernel
theorem dX2_told_9 : decode cX2_told 9 = .ok (.iload_n 1, 1) := by decide +kernel
theorem dX2_told_10 : decode cX2_told 10 = .ok (.ifCond .ne 10, 3) := by decide +kernel
theorem dX2_told_13 : decode cX2_told 13 = .ok (.aload_n 0, 1) := by decide +kernel
theorem dX2_told_14 : decode cX2_told 14 = .ok (.getfield 9, 3) := by decide +kernel
theorem dX2_told_17 : decode cX2_told 17 = .ok (.goto 7, 3) := by decide +kernel
theorem dX2_told_20 : decode cX2_told 20 = .ok (.aload_n 0, 1) := by decide +kernel
theorem dX2_told_21 : decode cX2_told 21 = .ok (.getfield 15, 3) := by decide +kernel
theorem dX2_told_24 : decode cX2_told 24 = .ok (.ireturn, 1) := by decide +kernel
theorem dX2_toldOfFewest_0 : decode cX2_toldOfFewest 0 = .ok (.aload_n 0, 1) := by decide +kernel
theorem dX2_toldOfFewest_1 : decode cX2_toldOfFewest 1 = .ok (.getfield 9, 3) := by decide +kernel
theorem dX2_toldOfFewest_4 : decode cX2_toldOfFewest 4 = .ok (.bipush (-4), 2) := by decide +kernel
theorem dX2_toldOfFewest_6 : decode cX2_toldOfFewest 6 = .ok (.if_icmp .eq 7, 3) := by decide +kernel
theorem dX2_toldOfFewest_9 : decode cX2_toldOfFewest 9 = .ok (.iload_n 1, 1) := by decide +kernel
theorem dX2_toldOfFewest_10 : decode cX2_toldOfFewest 10 = .ok (.ifCond .ne 10, 3) := by decide +kernel
theorem dX2_toldOfFewest_13 : decode cX2_toldOfFewest 13 = .ok (.aload_n 0, 1) := by decide +kernel
theorem dX2_toldOfFewest_14 : decode cX2_toldOfFewest 14 = .ok (.getfield 9, 3) := by decide +kernel
theorem dX2_toldOfFewest_17 : decode cX2_toldOfFewest 17 = .ok (.goto 8, 3) := by decide +kernel
theorem dX2_toldOfFewest_20 : decode cX2_toldOfFewest 20 = .ok (.aload_n 0, 1) := by decide +kernel
theorem dX2_toldOfFewest_21 : decode cX2_toldOfFewest 21 = .ok (.getfield 15, 3) := by decide +kernel
theorem dX2_toldOfFewest_24 : decode cX2_toldOfFewest 24 = .ok (.ineg, 1) := by decide +kernel
theorem dX2_toldOfFewest_25 : decode cX2_toldOfFewest 25 = .ok (.ireturn, 1) := by decide +kernel
theorem dX3_init_0 : decode cX3_init 0 = .ok (.aload_n 0, 1) := by decide +kernel
theorem dX3_init_1 : decode cX3_init 1 = .ok (.invokespecial 1, 3) := by decide +kernel
theorem dX3_init_4 : decode cX3_init 4 = .ok (.return_, 1) := by decide +kernel
theorem dX3_copyFrom_0 : decode cX3_copyFrom 0 = .ok (.aload_n 0, 1) := by decide +kernel
theorem dX3_copyFrom_1 : decode cX3_copyFrom 1 = .ok (.aload_n 1, 1) := by decide +kernel
theorem dX3_copyFrom_2 : decode cX3_copyFrom 2 = .ok (.getfield 7, 3) := by decide +kernel
theorem dX3_copyFrom_5 : decode cX3_copyFrom 5 = .ok (.putfield 7, 3) := by decide +kernel
theorem dX3_copyFrom_8 : decode cX3_copyFrom 8 = .ok (.aload_n 0, 1) := by decide +kernel
theorem dX3_copyFrom_9 : decode cX3_copyFrom 9 = .ok (.aload_n 1, 1) := by decide +kernel
theorem dX3_copyFrom_10 : decode cX3_copyFrom 10 = .ok (.getfield 13, 3) := by decide +kernel
theorem dX3_copyFrom_13 : decode cX3_copyFrom 13 = .ok (.putfield 13, 3) := by decide +kernel
theorem dX3_copyFrom_16 : decode cX3_copyFrom 16 = .ok (.aload_n 0, 1) := by decide +kernel
theorem dX3_copyFrom_17 : decode cX3_copyFrom 17 = .ok (.aload_n 1, 1) := by decide +kernel
theorem dX3_copyFrom_18 : decode cX3_copyFrom 18 = .ok (.getfield 16, 3) := by decide +kernel
theorem dX3_copyFrom_21 : decode cX3_copyFrom 21 = .ok (.putfield 16, 3) := by decide +kernel
theorem dX3_copyFrom_24 : decode cX3_copyFrom 24 = .ok (.return_, 1) := by decide +kernel
theorem dX3_setCorner_0 : decode cX3_setCorner 0 = .ok (.aload_n 0, 1) := by decide +kernel
theorem dX3_setCorner_1 : decode cX3_setCorner 1 = .ok (.getfield 7, 3) := by decide +kernel
theorem dX3_setCorner_4 : decode cX3_setCorner 4 = .ok (.istore_n 2, 1) := by decide +kernel
theorem dX3_setCorner_5 : decode cX3_setCorner 5 = .ok (.aload_n 0, 1) := by decide +kernel
theorem dX3_setCorner_6 : decode cX3_setCorner 6 = .ok (.iload_n 1, 1) := by decide +kernel
theorem dX3_setCorner_7 : decode cX3_setCorner 7 = .ok (.putfield 7, 3) := by decide +kernel
theorem dX3_setCorner_10 : decode cX3_setCorner 10 = .ok (.iload_n 2, 1) := by decide +kernel
theorem dX3_setCorner_11 : decode cX3_setCorner 11 = .ok (.ireturn, 1) := by decide +kernel
theorem dX3_setFrom_0 : decode cX3_setFrom 0 = .ok (.aload_n 0, 1) := by decide +kernel
theorem dX3_setFrom_1 : decode cX3_setFrom 1 = .ok (.getfield 13, 3) := by decide +kernel
theorem dX3_setFrom_4 : decode cX3_setFrom 4 = .ok (.istore_n 2, 1) := by decide +kernel
theorem dX3_setFrom_5 : decode cX3_setFrom 5 = .ok (.aload_n 0, 1) := by decide +kernel
theorem dX3_setFrom_6 : decode cX3_setFrom 6 = .ok (.iload_n 1, 1) := by decide +kernel
theorem dX3_setFrom_7 : decode cX3_setFrom 7 = .ok (.putfield 13, 3) := by decide +kernel
theorem dX3_setFrom_10 : decode cX3_setFrom 10 = .ok (.iload_n 2, 1) := by decide +kernel
theorem dX3_setFrom_11 : decode cX3_setFrom 11 = .ok (.ireturn, 1) := by decide +kernel
theorem dX3_setUntil_0 : decode cX3_setUntil 0 = .ok (.aload_n 0, 1) := by decide +kernel
theorem dX3_setUntil_1 : decode cX3_setUntil 1 = .ok (.getfield 16, 3) := by decide +kernel
theorem dX3_setUntil_4 : decode cX3_setUntil 4 = .ok (.istore_n 2, 1) := by decide +kernel
theorem dX3_setUntil_5 : decode cX3_setUntil 5 = .ok (.aload_n 0, 1) := by decide +kernel
theorem dX3_setUntil_6 : decode cX3_setUntil 6 = .ok (.iload_n 1, 1) := by decide +kernel
theorem dX3_setUntil_7 : decode cX3_setUntil 7 = .ok (.putfield 16, 3) := by decide +kernel
theorem dX3_setUntil_10 : decode cX3_setUntil 10 = .ok (.iload_n 2, 1) := by decide +kernel
theorem dX3_setUntil_11 : decode cX3_setUntil 11 = .ok (.ireturn, 1) := by decide +kernel
theorem dX4_init_0 : decode cX4_init 0 = .ok (.aload_n 0, 1) := by decide +kernel
theorem dX4_init_1 : decode cX4_init 1 = .ok (.invokespecial 3, 3) := by decide +kernel
theorem dX4_init_4 : decode cX4_init 4 = .ok (.aload_n 0, 1) := by decide +kernel
theorem dX4_init_5 : decode cX4_init 5 = .ok (.bipush (-4), 2) := by decide +kernel
theorem dX4_init_7 : decode cX4_init 7 = .ok (.putfield 9, 3) := by decide +kernel
theorem dX4_init_10 : decode cX4_init 10 = .ok (.aload_n 0, 1) := by decide +kernel
theorem dX4_init_11 : decode cX4_init 11 = .ok (.bipush 40, 2) := by decide +kernel
theorem dX4_init_13 : decode cX4_init 13 = .ok (.newarray .int, 2) := by decide +kernel
theorem dX4_init_15 : decode cX4_init 15 = .ok (.putfield 15, 3) := by decide +kernel
theorem dX4_init_18 : decode cX4_init 18 = .ok (.return_, 1) := by decide +kernel
theorem dX4_renew_0 : decode cX4_renew 0 = .ok (.aload_n 0, 1) := by decide +kernel
theorem dX4_renew_1 : decode cX4_renew 1 = .ok (.iload_n 1, 1) := by decide +kernel
theorem dX4_renew_2 : decode cX4_renew 2 = .ok (.putfield 9, 3) := by decide +kernel
theorem dX4_renew_5 : decode cX4_renew 5 = .ok (.aload_n 0, 1) := by decide +kernel
theorem dX4_renew_6 : decode cX4_renew 6 = .ok (.iload_n 2, 1) := by decide +kernel
theorem dX4_renew_7 : decode cX4_renew 7 = .ok (.putfield 19, 3) := by decide +kernel
theorem dX4_renew_10 : decode cX4_renew 10 = .ok (.iconst 0, 1) := by decide +kernel
theorem dX4_renew_11 : decode cX4_renew 11 = .ok (.istore_n 3, 1) := by decide +kernel
theorem dX4_renew_12 : decode cX4_renew 12 = .ok (.iload_n 3, 1) := by decide +kernel
theorem dX4_renew_13 : decode cX4_renew 13 = .ok (.bipush 40, 2) := by decide +kernel
theorem dX4_renew_15 : decode cX4_renew 15 = .ok (.if_icmp .ge 16, 3) := by decide +kernel
theorem dX4_renew_18 : decode cX4_renew 18 = .ok (.aload_n 0, 1) := by decide +kernel
theorem dX4_renew_19 : decode cX4_renew 19 = .ok (.getfield 15, 3) := by decide +kernel
theorem dX4_renew_22 : decode cX4_renew 22 = .ok (.iload_n 3, 1) := by decide +kernel
theorem dX4_renew_23 : decode cX4_renew 23 = .ok (.iconst 0, 1) := by decide +kernel
theorem dX4_renew_24 : decode cX4_renew 24 = .ok (.iastore, 1) := by decide +kernel
theorem dX4_renew_25 : decode cX4_renew 25 = .ok (.iinc 3 1, 3) := by decide +kernel
theorem dX4_renew_28 : decode cX4_renew 28 = .ok (.goto (-16), 3) := by decide +kernel
theorem dX4_renew_31 : decode cX4_renew 31 = .ok (.return_, 1) := by decide +kernel
theorem dX4_faultAt_0 : decode cX4_faultAt 0 = .ok (.aload_n 0, 1) := by decide +kernel
theorem dX4_faultAt_1 : decode cX4_faultAt 1 = .ok (.getfield 9, 3) := by decide +kernel
theorem dX4_faultAt_4 : decode cX4_faultAt 4 = .ok (.bipush (-4), 2) := by decide +kernel
theorem dX4_faultAt_6 : decode cX4_faultAt 6 = .ok (.if_icmp .ne 5, 3) := by decide +kernel
theorem dX4_faultAt_9 : decode cX4_faultAt 9 = .ok (.iconst 1, 1) := by decide +kernel
theorem dX4_faultAt_10 : decode cX4_faultAt 10 = .ok (.ireturn, 1) := by decide +kernel
theorem dX4_faultAt_11 : decode cX4_faultAt 11 = .ok (.aload_n 0, 1) := by decide +kernel
theorem dX4_faultAt_12 : decode cX4_faultAt 12 = .ok (.getfield 9, 3) := by decide +kernel
theorem dX4_faultAt_15 : decode cX4_faultAt 15 = .ok (.iload_n 1, 1) := by decide +kernel
theorem dX4_faultAt_16 : decode cX4_faultAt 16 = .ok (.if_icmp .eq 5, 3) := by decide +kernel
theorem dX4_faultAt_19 : decode cX4_faultAt 19 = .ok (.iconst 3, 1) := by decide +kernel
theorem dX4_faultAt_20 : decode cX4_faultAt 20 = .ok (.ireturn, 1) := by decide +kernel
theorem dX4_faultAt_21 : decode cX4_faultAt 21 = .ok (.aload_n 0, 1) := by decide +kernel
theorem dX4_faultAt_22 : decode cX4_faultAt 22 = .ok (.iload_n 2, 1) := by decide +kernel
theorem dX4_faultAt_23 : decode cX4_faultAt 23 = .ok (.invokevirtual 22, 3) := by decide +kernel
theorem dX4_faultAt_26 : decode cX4_faultAt 26 = .ok (.ifCond .eq 7, 3) := by decide +kernel
theorem dX4_faultAt_29 : decode cX4_faultAt 29 = .ok (.iconst 0, 1) := by decide +kernel
theorem dX4_faultAt_30 : decode cX4_faultAt 30 = .ok (.goto 4, 3) := by decide +kernel
theorem dX4_faultAt_33 : decode cX4_faultAt 33 = .ok (.iconst 2, 1) := by decide +kernel
theorem dX4_faultAt_34 : decode cX4_faultAt 34 = .ok (.ireturn, 1) := by decide +kernel
theorem dX4_faultOfPair_0 : decode cX4_faultOfPair 0 = .ok (.aload_n 0, 1) := by decide +kernel
theorem dX4_faultOfPair_1 : decode cX4_faultOfPair 1 = .ok (.iload_n 1, 1) := by decide +kernel
theorem dX4_faultOfPair_2 : decode cX4_faultOfPair 2 = .ok (.iload_n 2, 1) := by decide +kernel
theorem dX4_faultOfPair_3 : decode cX4_faultOfPair 3 = .ok (.invokevirtual 26, 3) := by decide +kernel
theorem dX4_faultOfPair_6 : decode cX4_faultOfPair 6 = .ok (.istore_n 3, 1) := by decide +kernel
theorem dX4_faultOfPair_7 : decode cX4_faultOfPair 7 = .ok (.iload_n 3, 1) := by decide +kernel
theorem dX4_faultOfPair_8 : decode cX4_faultOfPair 8 = .ok (.ifCond .ne 14, 3) := by decide +kernel
theorem dX4_faultOfPair_11 : decode cX4_faultOfPair 11 = .ok (.aload_n 0, 1) := by decide +kernel
theorem dX4_faultOfPair_12 : decode cX4_faultOfPair 12 = .ok (.iload_n 1, 1) := by decide +kernel
theorem dX4_faultOfPair_13 : decode cX4_faultOfPair 13 = .ok (.iload_n 2, 1) := by decide +kernel
theorem dX4_faultOfPair_14 : decode cX4_faultOfPair 14 = .ok (.iconst 1, 1) := by decide +kernel
theorem dX4_faultOfPair_15 : decode cX4_faultOfPair 15 = .ok (.iadd, 1) := by decide +kernel
theorem dX4_faultOfPair_16 : decode cX4_faultOfPair 16 = .ok (.invokevirtual 26, 3) := by decide +kernel
theorem dX4_faultOfPair_19 : decode cX4_faultOfPair 19 = .ok (.goto 4, 3) := by decide +kernel
theorem dX4_faultOfPair_22 : decode cX4_faultOfPair 22 = .ok (.iload_n 3, 1) := by decide +kernel
theorem dX4_faultOfPair_23 : decode cX4_faultOfPair 23 = .ok (.ireturn, 1) := by decide +kernel
theorem dX4_hasCell_0 : decode cX4_hasCell 0 = .ok (.iload_n 1, 1) := by decide +kernel
theorem dX4_hasCell_1 : decode cX4_hasCell 1 = .ok (.ifCond .lt 15, 3) := by decide +kernel
theorem dX4_hasCell_4 : decode cX4_hasCell 4 = .ok (.iload_n 1, 1) := by decide +kernel
theorem dX4_hasCell_5 : decode cX4_hasCell 5 = .ok (.aload_n 0, 1) := by decide +kernel
theorem dX4_hasCell_6 : decode cX4_hasCell 6 = .ok (.getfield 19, 3) := by decide +kernel
theorem dX4_hasCell_9 : decode cX4_hasCell 9 = .ok (.if_icmp .ge 7, 3) := by decide +kernel
theorem dX4_hasCell_12 : decode cX4_hasCell 12 = .ok (.iconst 1, 1) := by decide +kernel
theorem dX4_hasCell_13 : decode cX4_hasCell 13 = .ok (.goto 4, 3) := by decide +kernel
theorem dX4_hasCell_16 : decode cX4_hasCell 16 = .ok (.iconst 0, 1) := by decide +kernel
theorem dX4_hasCell_17 : decode cX4_hasCell 17 = .ok (.ireturn, 1) := by decide +kernel
theorem dX4_cellAt_0 : decode cX4_cellAt 0 = .ok (.aload_n 0, 1) := by decide +kernel
theorem dX4_cellAt_1 : decode cX4_cellAt 1 = .ok (.iload_n 1, 1) := by decide +kernel
theorem dX4_cellAt_2 : decode cX4_cellAt 2 = .ok (.invokevirtual 22, 3) := by decide +kernel
theorem dX4_cellAt_5 : decode cX4_cellAt 5 = .ok (.ifCond .eq 12, 3) := by decide +kernel
theorem dX4_cellAt_8 : decode cX4_cellAt 8 = .ok (.aload_n 0, 1) := by decide +kernel
theorem dX4_cellAt_9 : decode cX4_cellAt 9 = .ok (.getfield 15, 3) := by decide +kernel
theorem dX4_cellAt_12 : decode cX4_cellAt 12 = .ok (.iload_n 1, 1) := by decide +kernel
theorem dX4_cellAt_13 : decode cX4_cellAt 13 = .ok (.iaload, 1) := by decide +kernel
theorem dX4_cellAt_14 : decode cX4_cellAt 14 = .ok (.goto 5, 3) := by decide +kernel
theorem dX4_cellAt_17 : decode cX4_cellAt 17 = .ok (.bipush (-4), 2) := by decide +kernel
theorem dX4_cellAt_19 : decode cX4_cellAt 19 = .ok (.ireturn, 1) := by decide +kernel
theorem dX4_put_0 : decode cX4_put 0 = .ok (.aload_n 0, 1) := by decide +kernel
theorem dX4_put_1 : decode cX4_put 1 = .ok (.iload_n 1, 1) := by decide +kernel
theorem dX4_put_2 : decode cX4_put 2 = .ok (.invokevirtual 22, 3) := by decide +kernel
theorem dX4_put_5 : decode cX4_put 5 = .ok (.ifCond .eq 35, 3) := by decide +kernel
theorem dX4_put_8 : decode cX4_put 8 = .ok (.aload_n 0, 1) := by decide +kernel
theorem dX4_put_9 : decode cX4_put 9 = .ok (.getfield 15, 3) := by decide +kernel
theorem dX4_put_12 : decode cX4_put 12 = .ok (.iload_n 1, 1) := by decide +kernel
theorem dX4_put_13 : decode cX4_put 13 = .ok (.aload_n 0, 1) := by decide +kernel
theorem dX4_put_14 : decode cX4_put 14 = .ok (.getfield 9, 3) := by decide +kernel
theorem dX4_put_17 : decode cX4_put 17 = .ok (.ifCond .ne 8, 3) := by decide +kernel
theorem dX4_put_20 : decode cX4_put 20 = .ok (.iload_n 2, 1) := by decide +kernel
theorem dX4_put_21 : decode cX4_put 21 = .ok (.i2b, 1) := by decide +kernel
theorem dX4_put_22 : decode cX4_put 22 = .ok (.goto 17, 3) := by decide +kernel
theorem dX4_put_25 : decode cX4_put 25 = .ok (.aload_n 0, 1) := by decide +kernel
theorem dX4_put_26 : decode cX4_put 26 = .ok (.getfield 9, 3) := by decide +kernel
theorem dX4_put_29 : decode cX4_put 29 = .ok (.iconst 1, 1) := by decide +kernel
theorem dX4_put_30 : decode cX4_put 30 = .ok (.if_icmp .ne 8, 3) := by decide +kernel
theorem dX4_put_33 : decode cX4_put 33 = .ok (.iload_n 2, 1) := by decide +kernel
theorem dX4_put_34 : decode cX4_put 34 = .ok (.i2s, 1) := by decide +kernel
theorem dX4_put_35 : decode cX4_put 35 = .ok (.goto 4, 3) := by decide +kernel
theorem dX4_put_38 : decode cX4_put 38 = .ok (.iload_n 2, 1) := by decide +kernel
theorem dX4_put_39 : decode cX4_put 39 = .ok (.iastore, 1) := by decide +kernel
theorem dX4_put_40 : decode cX4_put 40 = .ok (.return_, 1) := by decide +kernel
theorem dX5_init_0 : decode cX5_init 0 = .ok (.aload_n 0, 1) := by decide +kernel
theorem dX5_init_1 : decode cX5_init 1 = .ok (.invokespecial 3, 3) := by decide +kernel
theorem dX5_init_4 : decode cX5_init 4 = .ok (.aload_n 0, 1) := by decide +kernel
theorem dX5_init_5 : decode cX5_init 5 = .ok (.sipush 160, 3) := by decide +kernel
theorem dX5_init_8 : decode cX5_init 8 = .ok (.newarray .byte, 2) := by decide +kernel
theorem dX5_init_10 : decode cX5_init 10 = .ok (.putfield 9, 3) := by decide +kernel
theorem dX5_init_13 : decode cX5_init 13 = .ok (.return_, 1) := by decide +kernel
theorem dX5_append_0 : decode cX5_append 0 = .ok (.aload_n 0, 1) := by decide +kernel
theorem dX5_append_1 : decode cX5_append 1 = .ok (.getfield 15, 3) := by decide +kernel
theorem dX5_append_4 : decode cX5_append 4 = .ok (.sipush 160, 3) := by decide +kernel
theorem dX5_append_7 : decode cX5_append 7 = .ok (.if_icmp .lt 5, 3) := by decide +kernel
theorem dX5_append_10 : decode cX5_append 10 = .ok (.iconst 0, 1) := by decide +kernel
theorem dX5_append_11 : decode cX5_append 11 = .ok (.ireturn, 1) := by decide +kernel
theorem dX5_append_12 : decode cX5_append 12 = .ok (.aload_n 0, 1) := by decide +kernel
theorem dX5_append_13 : decode cX5_append 13 = .ok (.getfield 9, 3) := by decide +kernel
theorem dX5_append_16 : decode cX5_append 16 = .ok (.aload_n 0, 1) := by decide +kernel
theorem dX5_append_17 : decode cX5_append 17 = .ok (.getfield 15, 3) := by decide +kernel
theorem dX5_append_20 : decode cX5_append 20 = .ok (.iload_n 1, 1) := by decide +kernel
theorem dX5_append_21 : decode cX5_append 21 = .ok (.i2b, 1) := by decide +kernel
theorem dX5_append_22 : decode cX5_append 22 = .ok (.bastore, 1) := by decide +kernel
theorem dX5_append_23 : decode cX5_append 23 = .ok (.aload_n 0, 1) := by decide +kernel
theorem dX5_append_24 : decode cX5_append 24 = .ok (.dup, 1) := by decide +kernel
theorem dX5_append_25 : decode cX5_append 25 = .ok (.getfield 15, 3) := by decide +kernel
theorem dX5_append_28 : decode cX5_append 28 = .ok (.iconst 1, 1) := by decide +kernel
theorem dX5_append_29 : decode cX5_append 29 = .ok (.iadd, 1) := by decide +kernel
theorem dX5_append_30 : decode cX5_append 30 = .ok (.putfield 15, 3) := by decide +kernel
theorem dX5_append_33 : decode cX5_append 33 = .ok (.iconst 1, 1) := by decide +kernel
theorem dX5_append_34 : decode cX5_append 34 = .ok (.ireturn, 1) := by decide +kernel
theorem dX5_byteAt_0 : decode cX5_byteAt 0 = .ok (.iload_n 1, 1) := by decide +kernel
theorem dX5_byteAt_1 : decode cX5_byteAt 1 = .ok (.ifCond .lt 20, 3) := by decide +kernel
theorem dX5_byteAt_4 : decode cX5_byteAt 4 = .ok (.iload_n 1, 1) := by decide +kernel
theorem dX5_byteAt_5 : decode cX5_byteAt 5 = .ok (.aload_n 0, 1) := by decide +kernel
theorem dX5_byteAt_6 : decode cX5_byteAt 6 = .ok (.getfield 15, 3) := by decide +kernel
theorem dX5_byteAt_9 : decode cX5_byteAt 9 = .ok (.if_icmp .ge 12, 3) := by decide +kernel
theorem dX5_byteAt_12 : decode cX5_byteAt 12 = .ok (.aload_n 0, 1) := by decide +kernel
theorem dX5_byteAt_13 : decode cX5_byteAt 13 = .ok (.getfield 9, 3) := by decide +kernel
theorem dX5_byteAt_16 : decode cX5_byteAt 16 = .ok (.iload_n 1, 1) := by decide +kernel
theorem dX5_byteAt_17 : decode cX5_byteAt 17 = .ok (.baload, 1) := by decide +kernel
theorem dX5_byteAt_18 : decode cX5_byteAt 18 = .ok (.goto 5, 3) := by decide +kernel
theorem dX5_byteAt_21 : decode cX5_byteAt 21 = .ok (.bipush (-4), 2) := by decide +kernel
theorem dX5_byteAt_23 : decode cX5_byteAt 23 = .ok (.ireturn, 1) := by decide +kernel
theorem dX6_init_0 : decode cX6_init 0 = .ok (.aload_n 0, 1) := by decide +kernel
theorem dX6_init_1 : decode cX6_init 1 = .ok (.invokespecial 3, 3) := by decide +kernel
theorem dX6_init_4 : decode cX6_init 4 = .ok (.aload_n 0, 1) := by decide +kernel
theorem dX6_init_5 : decode cX6_init 5 = .ok (.new 9, 3) := by decide +kernel
theorem dX6_init_8 : decode cX6_init 8 = .ok (.dup, 1) := by decide +kernel
theorem dX6_init_9 : decode cX6_init 9 = .ok (.invokespecial 11, 3) := by decide +kernel
theorem dX6_init_12 : decode cX6_init 12 = .ok (.putfield 12, 3) := by decide +kernel
theorem dX6_init_15 : decode cX6_init 15 = .ok (.aload_n 0, 1) := by decide +kernel
theorem dX6_init_16 : decode cX6_init 16 = .ok (.new 18, 3) := by decide +kernel
theorem dX6_init_19 : decode cX6_init 19 = .ok (.dup, 1) := by decide +kernel
theorem dX6_init_20 : decode cX6_init 20 = .ok (.invokespecial 20, 3) := by decide +kernel
theorem dX6_init_23 : decode cX6_init 23 = .ok (.putfield 21, 3) := by decide +kernel
theorem dX6_init_26 : decode cX6_init 26 = .ok (.aload_n 0, 1) := by decide +kernel
theorem dX6_init_27 : decode cX6_init 27 = .ok (.iconst 0, 1) := by decide +kernel
theorem dX6_init_28 : decode cX6_init 28 = .ok (.putfield 25, 3) := by decide +kernel
theorem dX6_init_31 : decode cX6_init 31 = .ok (.return_, 1) := by decide +kernel
theorem dX6_readAll_0 : decode cX6_readAll 0 = .ok (.aload_n 0, 1) := by decide +kernel
theorem dX6_readAll_1 : decode cX6_readAll 1 = .ok (.iconst 0, 1) := by decide +kernel
theorem dX6_readAll_2 : decode cX6_readAll 2 = .ok (.putfield 25, 3) := by decide +kernel
theorem dX6_readAll_5 : decode cX6_readAll 5 = .ok (.aload_n 0, 1) := by decide +kernel
theorem dX6_readAll_6 : decode cX6_readAll 6 = .ok (.iconst 0, 1) := by decide +kernel
theorem dX6_readAll_7 : decode cX6_readAll 7 = .ok (.putfield 29, 3) := by decide +kernel
theorem dX6_readAll_10 : decode cX6_readAll 10 = .ok (.aload_n 0, 1) := by decide +kernel
theorem dX6_readAll_11 : decode cX6_readAll 11 = .ok (.iconst 0, 1) := by decide +kernel
theorem dX6_readAll_12 : decode cX6_readAll 12 = .ok (.putfield 32, 3) := by decide +kernel
theorem dX6_readAll_15 : decode cX6_readAll 15 = .ok (.aload_n 0, 1) := by decide +kernel
theorem dX6_readAll_16 : decode cX6_readAll 16 = .ok (.getfield 21, 3) := by decide +kernel
theorem dX6_readAll_19 : decode cX6_readAll 19 = .ok (.invokevirtual 36, 3) := by decide +kernel
theorem dX6_readAll_22 : decode cX6_readAll 22 = .ok (.iconst 0, 1) := by decide +kernel
theorem dX6_readAll_23 : decode cX6_readAll 23 = .ok (.istore_n 1, 1) := by decide +kernel
theorem dX6_readAll_24 : decode cX6_readAll 24 = .ok (.aload_n 0, 1) := by decide +kernel
theorem dX6_readAll_25 : decode cX6_readAll 25 = .ok (.invokevirtual 39, 3) := by decide +kernel
theorem dX6_readAll_28 : decode cX6_readAll 28 = .ok (.istore_n 2, 1) := by decide +kernel
theorem dX6_readAll_29 : decode cX6_readAll 29 = .ok (.iload_n 2, 1) := by decide +kernel
theorem dX6_readAll_30 : decode cX6_readAll 30 = .ok (.ifCond .eq 43, 3) := by decide +kernel
theorem dX6_readAll_33 : decode cX6_readAll 33 = .ok (.aload_n 0, 1) := by decide +kernel
theorem dX6_readAll_34 : decode cX6_readAll 34 = .ok (.getfield 43, 3) := by decide +kernel
theorem dX6_readAll_37 : decode cX6_readAll 37 = .ok (.ifCond .eq 36, 3) := by decide +kernel
theorem dX6_readAll_40 : decode cX6_readAll 40 = .ok (.iload_n 1, 1) := by decide +kernel
theorem dX6_readAll_41 : decode cX6_readAll 41 = .ok (.sipush 160, 3) := by decide +kernel
theorem dX6_readAll_44 : decode cX6_readAll 44 = .ok (.if_icmp .ge 29, 3) := by decide +kernel
theorem dX6_readAll_47 : decode cX6_readAll 47 = .ok (.iinc 1 1, 3) := by decide +kernel
theorem dX6_readAll_50 : decode cX6_readAll 50 = .ok (.aload_n 0, 1) := by decide +kernel
theorem dX6_readAll_51 : decode cX6_readAll 51 = .ok (.invokevirtual 46, 3) := by decide +kernel
theorem dX6_readAll_54 : decode cX6_readAll 54 = .ok (.ifCond .eq 14, 3) := by decide +kernel
theorem dX6_readAll_57 : decode cX6_readAll 57 = .ok (.aload_n 0, 1) := by decide +kernel
theorem dX6_readAll_58 : decode cX6_readAll 58 = .ok (.invokevirtual 39, 3) := by decide +kernel
theorem dX6_readAll_61 : decode cX6_readAll 61 = .ok (.ifCond .eq 7, 3) := by decide +kernel
theorem dX6_readAll_64 : decode cX6_readAll 64 = .ok (.iconst 1, 1) := by decide +kernel
theorem dX6_readAll_65 : decode cX6_readAll 65 = .ok (.goto 4, 3) := by decide +kernel
theorem dX6_readAll_68 : decode cX6_readAll 68 = .ok (.iconst 0, 1) := by decide +kernel
theorem dX6_readAll_69 : decode cX6_readAll 69 = .ok (.istore_n 2, 1) := by decide +kernel
theorem dX6_readAll_70 : decode cX6_readAll 70 = .ok (.goto (-41), 3) := by decide +kernel
theorem dX6_readAll_73 : decode cX6_readAll 73 = .ok (.iload_n 2, 1) := by decide +kernel
theorem dX6_readAll_74 : decode cX6_readAll 74 = .ok (.ifCond .eq 27, 3) := by decide +kernel
theorem dX6_readAll_77 : decode cX6_readAll 77 = .ok (.aload_n 0, 1) := by decide +kernel
theorem dX6_readAll_78 : decode cX6_readAll 78 = .ok (.getfield 21, 3) := by decide +kernel
theorem dX6_readAll_81 : decode cX6_readAll 81 = .ok (.invokevirtual 49, 3) := by decide +kernel
theorem dX6_readAll_84 : decode cX6_readAll 84 = .ok (.ifCond .ne 17, 3) := by decide +kernel
theorem dX6_readAll_87 : decode cX6_readAll 87 = .ok (.aload_n 0, 1) := by decide +kernel
theorem dX6_readAll_88 : decode cX6_readAll 88 = .ok (.bipush 6, 2) := by decide +kernel
theorem dX6_readAll_90 : decode cX6_readAll 90 = .ok (.aload_n 0, 1) := by decide +kernel
theorem dX6_readAll_91 : decode cX6_readAll 91 = .ok (.getfield 12, 3) := by decide +kernel
theorem dX6_readAll_94 : decode cX6_readAll 94 = .ok (.getfield 52, 3) := by decide +kernel
theorem dX6_readAll_97 : decode cX6_readAll 97 = .ok (.invokevirtual 55, 3) := by decide +kernel
theorem dX6_readAll_100 : decode cX6_readAll 100 = .ok (.istore_n 2, 1) := by decide +kernel
theorem dX6_readAll_101 : decode cX6_readAll 101 = .ok (.iload_n 2, 1) := by decide +kernel
theorem dX6_readAll_102 : decode cX6_readAll 102 = .ok (.ifCond .eq 7, 3) := by decide +kernel
theorem dX6_readAll_105 : decode cX6_readAll 105 = .ok (.iload_n 1, 1) := by decide +kernel
theorem dX6_readAll_106 : decode cX6_readAll 106 = .ok (.goto 5, 3) := by decide +kernel
theorem dX6_readAll_109 : decode cX6_readAll 109 = .ok (.bipush (-4), 2) := by decide +kernel
theorem dX6_readAll_111 : decode cX6_readAll 111 = .ok (.ireturn, 1) := by decide +kernel
theorem dX6_refuse_0 : decode cX6_refuse 0 = .ok (.aload_n 0, 1) := by decide +kernel
theorem dX6_refuse_1 : decode cX6_refuse 1 = .ok (.iload_n 1, 1) := by decide +kernel
theorem dX6_refuse_2 : decode cX6_refuse 2 = .ok (.putfield 25, 3) := by decide +kernel
theorem dX6_refuse_5 : decode cX6_refuse 5 = .ok (.aload_n 0, 1) := by decide +kernel
theorem dX6_refuse_6 : decode cX6_refuse 6 = .ok (.iload_n 2, 1) := by decide +kernel
theorem dX6_refuse_7 : decode cX6_refuse 7 = .ok (.putfield 59, 3) := by decide +kernel
theorem dX6_refuse_10 : decode cX6_refuse 10 = .ok (.iconst 0, 1) := by decide +kernel
theorem dX6_refuse_11 : decode cX6_refuse 11 = .ok (.ireturn, 1) := by decide +kernel
theorem dX6_readLine_0 : decode cX6_readLine 0 = .ok (.aload_n 0, 1) := by decide +kernel
theorem dX6_readLine_1 : decode cX6_readLine 1 = .ok (.getfield 43, 3) := by decide +kernel
theorem dX6_readLine_4 : decode cX6_readLine 4 = .ok (.iconst 1, 1) := by decide +kernel
theorem dX6_readLine_5 : decode cX6_readLine 5 = .ok (.if_icmp .eq 13, 3) := by decide +kernel
theorem dX6_readLine_8 : decode cX6_readLine 8 = .ok (.aload_n 0, 1) := by decide +kernel
theorem dX6_readLine_9 : decode cX6_readLine 9 = .ok (.iconst 2, 1) := by decide +kernel
theorem dX6_readLine_10 : decode cX6_readLine 10 = .ok (.aload_n 0, 1) := by decide +kernel
theorem dX6_readLine_11 : decode cX6_readLine 11 = .ok (.getfield 62, 3) := by decide +kernel
theorem dX6_readLine_14 : decode cX6_readLine 14 = .ok (.invokevirtual 55, 3) := by decide +kernel
theorem dX6_readLine_17 : decode cX6_readLine 17 = .ok (.ireturn, 1) := by decide +kernel
theorem dX6_readLine_18 : decode cX6_readLine 18 = .ok (.aload_n 0, 1) := by decide +kernel
theorem dX6_readLine_19 : decode cX6_readLine 19 = .ok (.invokevirtual 65, 3) := by decide +kernel
theorem dX6_readLine_22 : decode cX6_readLine 22 = .ok (.istore_n 1, 1) := by decide +kernel
theorem dX6_readLine_23 : decode cX6_readLine 23 = .ok (.iload_n 1, 1) := by decide +kernel
theorem dX6_readLine_24 : decode cX6_readLine 24 = .ok (.tableswitch 65 0 6 #[44, 44, 44, 44, 50, 55, 60], 44) := by decide +kernel
theorem dX6_readLine_68 : decode cX6_readLine 68 = .ok (.aload_n 0, 1) := by decide +kernel
theorem dX6_readLine_69 : decode cX6_readLine 69 = .ok (.iload_n 1, 1) := by decide +kernel
theorem dX6_readLine_70 : decode cX6_readLine 70 = .ok (.invokevirtual 69, 3) := by decide +kernel
theorem dX6_readLine_73 : decode cX6_readLine 73 = .ok (.ireturn, 1) := by decide +kernel
theorem dX6_readLine_74 : decode cX6_readLine 74 = .ok (.aload_n 0, 1) := by decide +kernel
theorem dX6_readLine_75 : decode cX6_readLine 75 = .ok (.invokevirtual 73, 3) := by decide +kernel
theorem dX6_readLine_78 : decode cX6_readLine 78 = .ok (.ireturn, 1) := by decide +kernel
theorem dX6_readLine_79 : decode cX6_readLine 79 = .ok (.aload_n 0, 1) := by decide +kernel
theorem dX6_readLine_80 : decode cX6_readLine 80 = .ok (.invokevirtual 76, 3) := by decide +kernel
theorem dX6_readLine_83 : decode cX6_readLine 83 = .ok (.ireturn, 1) := by decide +kernel
theorem dX6_readLine_84 : decode cX6_readLine 84 = .ok (.aload_n 0, 1) := by decide +kernel
theorem dX6_readLine_85 : decode cX6_readLine 85 = .ok (.invokevirtual 79, 3) := by decide +kernel
theorem dX6_readLine_88 : decode cX6_readLine 88 = .ok (.ireturn, 1) := by decide +kernel
theorem dX6_readLine_89 : decode cX6_readLine 89 = .ok (.aload_n 0, 1) := by decide +kernel
theorem dX6_readLine_90 : decode cX6_readLine 90 = .ok (.iconst 2, 1) := by decide +kernel
theorem dX6_readLine_91 : decode cX6_readLine 91 = .ok (.aload_n 0, 1) := by decide +kernel
theorem dX6_readLine_92 : decode cX6_readLine 92 = .ok (.getfield 62, 3) := by decide +kernel
theorem dX6_readLine_95 : decode cX6_readLine 95 = .ok (.invokevirtual 55, 3) := by decide +kernel
theorem dX6_readLine_98 : decode cX6_readLine 98 = .ok (.ireturn, 1) := by decide +kernel
theorem dX6_readMan_0 : decode cX6_readMan 0 = .ok (.aload_n 0, 1) := by decide +kernel
theorem dX6_readMan_1 : decode cX6_readMan 1 = .ok (.getfield 21, 3) := by decide +kernel
theorem dX6_readMan_4 : decode cX6_readMan 4 = .ok (.iload_n 1, 1) := by decide +kernel
theorem dX6_readMan_5 : decode cX6_readMan 5 = .ok (.invokevirtual 82, 3) := by decide +kernel
theorem dX6_readMan_8 : decode cX6_readMan 8 = .ok (.astore_n 2, 1) := by decide +kernel
theorem dX6_readMan_9 : decode cX6_readMan 9 = .ok (.aload_n 2, 1) := by decide +kernel
theorem dX6_readMan_10 : decode cX6_readMan 10 = .ok (.ifnonnull 13, 3) := by decide +kernel
theorem dX6_readMan_13 : decode cX6_readMan 13 = .ok (.aload_n 0, 1) := by decide +kernel
theorem dX6_readMan_14 : decode cX6_readMan 14 = .ok (.iconst 5, 1) := by decide +kernel
theorem dX6_readMan_15 : decode cX6_readMan 15 = .ok (.aload_n 0, 1) := by decide +kernel
theorem dX6_readMan_16 : decode cX6_readMan 16 = .ok (.getfield 62, 3) := by decide +kernel
theorem dX6_readMan_19 : decode cX6_readMan 19 = .ok (.invokevirtual 55, 3) := by decide +kernel
theorem dX6_readMan_22 : decode cX6_readMan 22 = .ok (.ireturn, 1) := by decide +kernel
theorem dX6_readMan_23 : decode cX6_readMan 23 = .ok (.aload_n 0, 1) := by decide +kernel
theorem dX6_readMan_24 : decode cX6_readMan 24 = .ok (.iconst 0, 1) := by decide +kernel
theorem dX6_readMan_25 : decode cX6_readMan 25 = .ok (.bipush 9, 2) := by decide +kernel
theorem dX6_readMan_27 : decode cX6_readMan 27 = .ok (.invokevirtual 86, 3) := by decide +kernel
theorem dX6_readMan_30 : decode cX6_readMan 30 = .ok (.ifCond .ne 5, 3) := by decide +kernel
theorem dX6_readMan_33 : decode cX6_readMan 33 = .ok (.iconst 0, 1) := by decide +kernel
theorem dX6_readMan_34 : decode cX6_readMan 34 = .ok (.ireturn, 1) := by decide +kernel
theorem dX6_readMan_35 : decode cX6_readMan 35 = .ok (.aload_n 2, 1) := by decide +kernel
theorem dX6_readMan_36 : decode cX6_readMan 36 = .ok (.aload_n 0, 1) := by decide +kernel
theorem dX6_readMan_37 : decode cX6_readMan 37 = .ok (.getfield 89, 3) := by decide +kernel
theorem dX6_readMan_40 : decode cX6_readMan 40 = .ok (.putfield 92, 3) := by decide +kernel
theorem dX6_readMan_43 : decode cX6_readMan 43 = .ok (.aload_n 0, 1) := by decide +kernel
theorem dX6_readMan_44 : decode cX6_readMan 44 = .ok (.iconst 0, 1) := by decide +kernel
theorem dX6_readMan_45 : decode cX6_readMan 45 = .ok (.bipush 7, 2) := by decide +kernel
theorem dX6_readMan_47 : decode cX6_readMan 47 = .ok (.invokevirtual 86, 3) := by decide +kernel
theorem dX6_readMan_50 : decode cX6_readMan 50 = .ok (.ifCond .ne 5, 3) := by decide +kernel
theorem dX6_readMan_53 : decode cX6_readMan 53 = .ok (.iconst 0, 1) := by decide +kernel
theorem dX6_readMan_54 : decode cX6_readMan 54 = .ok (.ireturn, 1) := by decide +kernel
theorem dX6_readMan_55 : decode cX6_readMan 55 = .ok (.aload_n 2, 1) := by decide +kernel
theorem dX6_readMan_56 : decode cX6_readMan 56 = .ok (.aload_n 0, 1) := by decide +kernel
theorem dX6_readMan_57 : decode cX6_readMan 57 = .ok (.getfield 89, 3) := by decide +kernel
theorem dX6_readMan_60 : decode cX6_readMan 60 = .ok (.invokevirtual 97, 3) := by decide +kernel
theorem dX6_readMan_63 : decode cX6_readMan 63 = .ok (.pop, 1) := by decide +kernel
theorem dX6_readMan_64 : decode cX6_readMan 64 = .ok (.aload_n 0, 1) := by decide +kernel
theorem dX6_readMan_65 : decode cX6_readMan 65 = .ok (.aload_n 2, 1) := by decide +kernel
theorem dX6_readMan_66 : decode cX6_readMan 66 = .ok (.invokevirtual 100, 3) := by decide +kernel
theorem dX6_readMan_69 : decode cX6_readMan 69 = .ok (.ireturn, 1) := by decide +kernel
theorem dX6_readRestOfWalk_0 : decode cX6_readRestOfWalk 0 = .ok (.iconst 1, 1) := by decide +kernel
theorem dX6_readRestOfWalk_1 : decode cX6_readRestOfWalk 1 = .ok (.istore_n 2, 1) := by decide +kernel
theorem dX6_readRestOfWalk_2 : decode cX6_readRestOfWalk 2 = .ok (.iload_n 2, 1) := by decide +kernel
theorem dX6_readRestOfWalk_3 : decode cX6_readRestOfWalk 3 = .ok (.iconst 4, 1) := by decide +kernel
theorem dX6_readRestOfWalk_4 : decode cX6_readRestOfWalk 4 = .ok (.if_icmp .gt 87, 3) := by decide +kernel
theorem dX6_readRestOfWalk_7 : decode cX6_readRestOfWalk 7 = .ok (.aload_n 0, 1) := by decide +kernel
theorem dX6_readRestOfWalk_8 : decode cX6_readRestOfWalk 8 = .ok (.invokevirtual 39, 3) := by decide +kernel
theorem dX6_readRestOfWalk_11 : decode cX6_readRestOfWalk 11 = .ok (.ifCond .ne 5, 3) := by decide +kernel
theorem dX6_readRestOfWalk_14 : decode cX6_readRestOfWalk 14 = .ok (.iconst 0, 1) := by decide +kernel
theorem dX6_readRestOfWalk_15 : decode cX6_readRestOfWalk 15 = .ok (.ireturn, 1) := by decide +kernel
theorem dX6_readRestOfWalk_16 : decode cX6_readRestOfWalk 16 = .ok (.aload_n 0, 1) := by decide +kernel
theorem dX6_readRestOfWalk_17 : decode cX6_readRestOfWalk 17 = .ok (.getfield 43, 3) := by decide +kernel
theorem dX6_readRestOfWalk_20 : decode cX6_readRestOfWalk 20 = .ok (.iconst 3, 1) := by decide +kernel
theorem dX6_readRestOfWalk_21 : decode cX6_readRestOfWalk 21 = .ok (.if_icmp .ne 5, 3) := by decide +kernel
theorem dX6_readRestOfWalk_24 : decode cX6_readRestOfWalk 24 = .ok (.iconst 1, 1) := by decide +kernel
theorem dX6_readRestOfWalk_25 : decode cX6_readRestOfWalk 25 = .ok (.ireturn, 1) := by decide +kernel
theorem dX6_readRestOfWalk_26 : decode cX6_readRestOfWalk 26 = .ok (.aload_n 0, 1) := by decide +kernel
theorem dX6_readRestOfWalk_27 : decode cX6_readRestOfWalk 27 = .ok (.getfield 43, 3) := by decide +kernel
theorem dX6_readRestOfWalk_30 : decode cX6_readRestOfWalk 30 = .ok (.iconst 2, 1) := by decide +kernel
theorem dX6_readRestOfWalk_31 : decode cX6_readRestOfWalk 31 = .ok (.if_icmp .eq 13, 3) := by decide +kernel
theorem dX6_readRestOfWalk_34 : decode cX6_readRestOfWalk 34 = .ok (.aload_n 0, 1) := by decide +kernel
theorem dX6_readRestOfWalk_35 : decode cX6_readRestOfWalk 35 = .ok (.iconst 2, 1) := by decide +kernel
theorem dX6_readRestOfWalk_36 : decode cX6_readRestOfWalk 36 = .ok (.aload_n 0, 1) := by decide +kernel
theorem dX6_readRestOfWalk_37 : decode cX6_readRestOfWalk 37 = .ok (.getfield 62, 3) := by decide +kernel
theorem dX6_readRestOfWalk_40 : decode cX6_readRestOfWalk 40 = .ok (.invokevirtual 55, 3) := by decide +kernel
theorem dX6_readRestOfWalk_43 : decode cX6_readRestOfWalk 43 = .ok (.ireturn, 1) := by decide +kernel
theorem dX6_readRestOfWalk_44 : decode cX6_readRestOfWalk 44 = .ok (.aload_n 1, 1) := by decide +kernel
theorem dX6_readRestOfWalk_45 : decode cX6_readRestOfWalk 45 = .ok (.aload_n 0, 1) := by decide +kernel
theorem dX6_readRestOfWalk_46 : decode cX6_readRestOfWalk 46 = .ok (.getfield 89, 3) := by decide +kernel
theorem dX6_readRestOfWalk_49 : decode cX6_readRestOfWalk 49 = .ok (.invokevirtual 97, 3) := by decide +kernel
theorem dX6_readRestOfWalk_52 : decode cX6_readRestOfWalk 52 = .ok (.ifCond .ne 13, 3) := by decide +kernel
theorem dX6_readRestOfWalk_55 : decode cX6_readRestOfWalk 55 = .ok (.aload_n 0, 1) := by decide +kernel
theorem dX6_readRestOfWalk_56 : decode cX6_readRestOfWalk 56 = .ok (.iconst 5, 1) := by decide +kernel
theorem dX6_readRestOfWalk_57 : decode cX6_readRestOfWalk 57 = .ok (.aload_n 0, 1) := by decide +kernel
theorem dX6_readRestOfWalk_58 : decode cX6_readRestOfWalk 58 = .ok (.getfield 62, 3) := by decide +kernel
theorem dX6_readRestOfWalk_61 : decode cX6_readRestOfWalk 61 = .ok (.invokevirtual 55, 3) := by decide +kernel
theorem dX6_readRestOfWalk_64 : decode cX6_readRestOfWalk 64 = .ok (.ireturn, 1) := by decide +kernel
theorem dX6_readRestOfWalk_65 : decode cX6_readRestOfWalk 65 = .ok (.aload_n 0, 1) := by decide +kernel
theorem dX6_readRestOfWalk_66 : decode cX6_readRestOfWalk 66 = .ok (.getfield 89, 3) := by decide +kernel
theorem dX6_readRestOfWalk_69 : decode cX6_readRestOfWalk 69 = .ok (.invokestatic 104, 3) := by decide +kernel
theorem dX6_readRestOfWalk_72 : decode cX6_readRestOfWalk 72 = .ok (.ifCond .ne 13, 3) := by decide +kernel
theorem dX6_readRestOfWalk_75 : decode cX6_readRestOfWalk 75 = .ok (.aload_n 0, 1) := by decide +kernel
theorem dX6_readRestOfWalk_76 : decode cX6_readRestOfWalk 76 = .ok (.iconst 3, 1) := by decide +kernel
theorem dX6_readRestOfWalk_77 : decode cX6_readRestOfWalk 77 = .ok (.aload_n 0, 1) := by decide +kernel
theorem dX6_readRestOfWalk_78 : decode cX6_readRestOfWalk 78 = .ok (.getfield 62, 3) := by decide +kernel
theorem dX6_readRestOfWalk_81 : decode cX6_readRestOfWalk 81 = .ok (.invokevirtual 55, 3) := by decide +kernel
theorem dX6_readRestOfWalk_84 : decode cX6_readRestOfWalk 84 = .ok (.ireturn, 1) := by decide +kernel
theorem dX6_readRestOfWalk_85 : decode cX6_readRestOfWalk 85 = .ok (.iinc 2 1, 3) := by decide +kernel
theorem dX6_readRestOfWalk_88 : decode cX6_readRestOfWalk 88 = .ok (.goto (-86), 3) := by decide +kernel
theorem dX6_readRestOfWalk_91 : decode cX6_readRestOfWalk 91 = .ok (.iconst 0, 1) := by decide +kernel
theorem dX6_readRestOfWalk_92 : decode cX6_readRestOfWalk 92 = .ok (.ireturn, 1) := by decide +kernel
theorem dX6_readStreet_0 : decode cX6_readStreet 0 = .ok (.aload_n 0, 1) := by decide +kernel
theorem dX6_readStreet_1 : decode cX6_readStreet 1 = .ok (.getfield 21, 3) := by decide +kernel
theorem dX6_readStreet_4 : decode cX6_readStreet 4 = .ok (.getfield 107, 3) := by decide +kernel
theorem dX6_readStreet_7 : decode cX6_readStreet 7 = .ok (.bipush 9, 2) := by decide +kernel
theorem dX6_readStreet_9 : decode cX6_readStreet 9 = .ok (.if_icmp .lt 13, 3) := by decide +kernel
theorem dX6_readStreet_12 : decode cX6_readStreet 12 = .ok (.aload_n 0, 1) := by decide +kernel
theorem dX6_readStreet_13 : decode cX6_readStreet 13 = .ok (.iconst 5, 1) := by decide +kernel
theorem dX6_readStreet_14 : decode cX6_readStreet 14 = .ok (.aload_n 0, 1) := by decide +kernel
theorem dX6_readStreet_15 : decode cX6_readStreet 15 = .ok (.getfield 62, 3) := by decide +kernel
theorem dX6_readStreet_18 : decode cX6_readStreet 18 = .ok (.invokevirtual 55, 3) := by decide +kernel
theorem dX6_readStreet_21 : decode cX6_readStreet 21 = .ok (.ireturn, 1) := by decide +kernel
theorem dX6_readStreet_22 : decode cX6_readStreet 22 = .ok (.aload_n 0, 1) := by decide +kernel
theorem dX6_readStreet_23 : decode cX6_readStreet 23 = .ok (.iconst 0, 1) := by decide +kernel
theorem dX6_readStreet_24 : decode cX6_readStreet 24 = .ok (.bipush 7, 2) := by decide +kernel
theorem dX6_readStreet_26 : decode cX6_readStreet 26 = .ok (.invokevirtual 86, 3) := by decide +kernel
theorem dX6_readStreet_29 : decode cX6_readStreet 29 = .ok (.ifCond .ne 5, 3) := by decide +kernel
theorem dX6_readStreet_32 : decode cX6_readStreet 32 = .ok (.iconst 0, 1) := by decide +kernel
theorem dX6_readStreet_33 : decode cX6_readStreet 33 = .ok (.ireturn, 1) := by decide +kernel
theorem dX6_readStreet_34 : decode cX6_readStreet 34 = .ok (.aload_n 0, 1) := by decide +kernel
theorem dX6_readStreet_35 : decode cX6_readStreet 35 = .ok (.getfield 89, 3) := by decide +kernel
theorem dX6_readStreet_38 : decode cX6_readStreet 38 = .ok (.istore_n 1, 1) := by decide +kernel
theorem dX6_readStreet_39 : decode cX6_readStreet 39 = .ok (.aload_n 0, 1) := by decide +kernel
theorem dX6_readStreet_40 : decode cX6_readStreet 40 = .ok (.iconst 0, 1) := by decide +kernel
theorem dX6_readStreet_41 : decode cX6_readStreet 41 = .ok (.bipush 7, 2) := by decide +kernel
theorem dX6_readStreet_43 : decode cX6_readStreet 43 = .ok (.invokevirtual 86, 3) := by decide +kernel
theorem dX6_readStreet_46 : decode cX6_readStreet 46 = .ok (.ifCond .ne 5, 3) := by decide +kernel
theorem dX6_readStreet_49 : decode cX6_readStreet 49 = .ok (.iconst 0, 1) := by decide +kernel
theorem dX6_readStreet_50 : decode cX6_readStreet 50 = .ok (.ireturn, 1) := by decide +kernel
theorem dX6_readStreet_51 : decode cX6_readStreet 51 = .ok (.aload_n 0, 1) := by decide +kernel
theorem dX6_readStreet_52 : decode cX6_readStreet 52 = .ok (.getfield 89, 3) := by decide +kernel
theorem dX6_readStreet_55 : decode cX6_readStreet 55 = .ok (.iload_n 1, 1) := by decide +kernel
theorem dX6_readStreet_56 : decode cX6_readStreet 56 = .ok (.if_icmp .ne 13, 3) := by decide +kernel
theorem dX6_readStreet_59 : decode cX6_readStreet 59 = .ok (.aload_n 0, 1) := by decide +kernel
theorem dX6_readStreet_60 : decode cX6_readStreet 60 = .ok (.iconst 3, 1) := by decide +kernel
theorem dX6_readStreet_61 : decode cX6_readStreet 61 = .ok (.aload_n 0, 1) := by decide +kernel
theorem dX6_readStreet_62 : decode cX6_readStreet 62 = .ok (.getfield 62, 3) := by decide +kernel
theorem dX6_readStreet_65 : decode cX6_readStreet 65 = .ok (.invokevirtual 55, 3) := by decide +kernel
theorem dX6_readStreet_68 : decode cX6_readStreet 68 = .ok (.ireturn, 1) := by decide +kernel
theorem dX6_readStreet_69 : decode cX6_readStreet 69 = .ok (.aload_n 0, 1) := by decide +kernel
theorem dX6_readStreet_70 : decode cX6_readStreet 70 = .ok (.getfield 21, 3) := by decide +kernel
theorem dX6_readStreet_73 : decode cX6_readStreet 73 = .ok (.iload_n 1, 1) := by decide +kernel
theorem dX6_readStreet_74 : decode cX6_readStreet 74 = .ok (.aload_n 0, 1) := by decide +kernel
theorem dX6_readStreet_75 : decode cX6_readStreet 75 = .ok (.getfield 89, 3) := by decide +kernel
theorem dX6_readStreet_78 : decode cX6_readStreet 78 = .ok (.invokevirtual 110, 3) := by decide +kernel
theorem dX6_readStreet_81 : decode cX6_readStreet 81 = .ok (.pop, 1) := by decide +kernel
theorem dX6_readStreet_82 : decode cX6_readStreet 82 = .ok (.aload_n 0, 1) := by decide +kernel
theorem dX6_readStreet_83 : decode cX6_readStreet 83 = .ok (.invokevirtual 113, 3) := by decide +kernel
theorem dX6_readStreet_86 : decode cX6_readStreet 86 = .ok (.ireturn, 1) := by decide +kernel
theorem dX6_readReader_0 : decode cX6_readReader 0 = .ok (.aload_n 0, 1) := by decide +kernel
theorem dX6_readReader_1 : decode cX6_readReader 1 = .ok (.getfield 21, 3) := by decide +kernel
theorem dX6_readReader_4 : decode cX6_readReader 4 = .ok (.invokevirtual 116, 3) := by decide +kernel
theorem dX6_readReader_7 : decode cX6_readReader 7 = .ok (.astore_n 1, 1) := by decide +kernel
theorem dX6_readReader_8 : decode cX6_readReader 8 = .ok (.aload_n 1, 1) := by decide +kernel
theorem dX6_readReader_9 : decode cX6_readReader 9 = .ok (.ifnonnull 13, 3) := by decide +kernel
theorem dX6_readReader_12 : decode cX6_readReader 12 = .ok (.aload_n 0, 1) := by decide +kernel
theorem dX6_readReader_13 : decode cX6_readReader 13 = .ok (.iconst 5, 1) := by decide +kernel
theorem dX6_readReader_14 : decode cX6_readReader 14 = .ok (.aload_n 0, 1) := by decide +kernel
theorem dX6_readReader_15 : decode cX6_readReader 15 = .ok (.getfield 62, 3) := by decide +kernel
theorem dX6_readReader_18 : decode cX6_readReader 18 = .ok (.invokevirtual 55, 3) := by decide +kernel
theorem dX6_readReader_21 : decode cX6_readReader 21 = .ok (.ireturn, 1) := by decide +kernel
theorem dX6_readReader_22 : decode cX6_readReader 22 = .ok (.aload_n 0, 1) := by decide +kernel
theorem dX6_readReader_23 : decode cX6_readReader 23 = .ok (.iconst 0, 1) := by decide +kernel
theorem dX6_readReader_24 : decode cX6_readReader 24 = .ok (.bipush 7, 2) := by decide +kernel
theorem dX6_readReader_26 : decode cX6_readReader 26 = .ok (.invokevirtual 86, 3) := by decide +kernel
theorem dX6_readReader_29 : decode cX6_readReader 29 = .ok (.ifCond .ne 5, 3) := by decide +kernel
theorem dX6_readReader_32 : decode cX6_readReader 32 = .ok (.iconst 0, 1) := by decide +kernel
theorem dX6_readReader_33 : decode cX6_readReader 33 = .ok (.ireturn, 1) := by decide +kernel
theorem dX6_readReader_34 : decode cX6_readReader 34 = .ok (.aload_n 1, 1) := by decide +kernel
theorem dX6_readReader_35 : decode cX6_readReader 35 = .ok (.aload_n 0, 1) := by decide +kernel
theorem dX6_readReader_36 : decode cX6_readReader 36 = .ok (.getfield 89, 3) := by decide +kernel
theorem dX6_readReader_39 : decode cX6_readReader 39 = .ok (.putfield 120, 3) := by decide +kernel
theorem dX6_readReader_42 : decode cX6_readReader 42 = .ok (.aload_n 0, 1) := by decide +kernel
theorem dX6_readReader_43 : decode cX6_readReader 43 = .ok (.iconst 0, 1) := by decide +kernel
theorem dX6_readReader_44 : decode cX6_readReader 44 = .ok (.bipush 59, 2) := by decide +kernel
theorem dX6_readReader_46 : decode cX6_readReader 46 = .ok (.invokevirtual 86, 3) := by decide +kernel
theorem dX6_readReader_49 : decode cX6_readReader 49 = .ok (.ifCond .ne 5, 3) := by decide +kernel
theorem dX6_readReader_52 : decode cX6_readReader 52 = .ok (.iconst 0, 1) := by decide +kernel
theorem dX6_readReader_53 : decode cX6_readReader 53 = .ok (.ireturn, 1) := by decide +kernel
theorem dX6_readReader_54 : decode cX6_readReader 54 = .ok (.aload_n 1, 1) := by decide +kernel
theorem dX6_readReader_55 : decode cX6_readReader 55 = .ok (.aload_n 0, 1) := by decide +kernel
theorem dX6_readReader_56 : decode cX6_readReader 56 = .ok (.getfield 89, 3) := by decide +kernel
theorem dX6_readReader_59 : decode cX6_readReader 59 = .ok (.putfield 125, 3) := by decide +kernel
theorem dX6_readReader_62 : decode cX6_readReader 62 = .ok (.aload_n 0, 1) := by decide +kernel
theorem dX6_readReader_63 : decode cX6_readReader 63 = .ok (.aload_n 1, 1) := by decide +kernel
theorem dX6_readReader_64 : decode cX6_readReader 64 = .ok (.getfield 125, 3) := by decide +kernel
theorem dX6_readReader_67 : decode cX6_readReader 67 = .ok (.bipush 59, 2) := by decide +kernel
theorem dX6_readReader_69 : decode cX6_readReader 69 = .ok (.invokevirtual 86, 3) := by decide +kernel
theorem dX6_readReader_72 : decode cX6_readReader 72 = .ok (.ifCond .ne 5, 3) := by decide +kernel
theorem dX6_readReader_75 : decode cX6_readReader 75 = .ok (.iconst 0, 1) := by decide +kernel
theorem dX6_readReader_76 : decode cX6_readReader 76 = .ok (.ireturn, 1) := by decide +kernel
theorem dX6_readReader_77 : decode cX6_readReader 77 = .ok (.aload_n 1, 1) := by decide +kernel
theorem dX6_readReader_78 : decode cX6_readReader 78 = .ok (.aload_n 0, 1) := by decide +kernel
theorem dX6_readReader_79 : decode cX6_readReader 79 = .ok (.getfield 89, 3) := by decide +kernel
theorem dX6_readReader_82 : decode cX6_readReader 82 = .ok (.putfield 128, 3) := by decide +kernel
theorem dX6_readReader_85 : decode cX6_readReader 85 = .ok (.aload_n 0, 1) := by decide +kernel
theorem dX6_readReader_86 : decode cX6_readReader 86 = .ok (.invokevirtual 113, 3) := by decide +kernel
theorem dX6_readReader_89 : decode cX6_readReader 89 = .ok (.ireturn, 1) := by decide +kernel
theorem dX6_readRain_0 : decode cX6_readRain 0 = .ok (.aload_n 0, 1) := by decide +kernel
theorem dX6_readRain_1 : decode cX6_readRain 1 = .ok (.getfield 32, 3) := by decide +kernel
theorem dX6_readRain_4 : decode cX6_readRain 4 = .ok (.ifCond .eq 13, 3) := by decide +kernel
theorem dX6_readRain_7 : decode cX6_readRain 7 = .ok (.aload_n 0, 1) := by decide +kernel
theorem dX6_readRain_8 : decode cX6_readRain 8 = .ok (.iconst 4, 1) := by decide +kernel
theorem dX6_readRain_9 : decode cX6_readRain 9 = .ok (.aload_n 0, 1) := by decide +kernel
theorem dX6_readRain_10 : decode cX6_readRain 10 = .ok (.getfield 62, 3) := by decide +kernel
theorem dX6_readRain_13 : decode cX6_readRain 13 = .ok (.invokevirtual 55, 3) := by decide +kernel
theorem dX6_readRain_16 : decode cX6_readRain 16 = .ok (.ireturn, 1) := by decide +kernel
theorem dX6_readRain_17 : decode cX6_readRain 17 = .ok (.aload_n 0, 1) := by decide +kernel
theorem dX6_readRain_18 : decode cX6_readRain 18 = .ok (.iconst 1, 1) := by decide +kernel
theorem dX6_readRain_19 : decode cX6_readRain 19 = .ok (.putfield 32, 3) := by decide +kernel
theorem dX6_readRain_22 : decode cX6_readRain 22 = .ok (.aload_n 0, 1) := by decide +kernel
theorem dX6_readRain_23 : decode cX6_readRain 23 = .ok (.iconst 0, 1) := by decide +kernel
theorem dX6_readRain_24 : decode cX6_readRain 24 = .ok (.bipush 59, 2) := by decide +kernel
theorem dX6_readRain_26 : decode cX6_readRain 26 = .ok (.invokevirtual 86, 3) := by decide +kernel
theorem dX6_readRain_29 : decode cX6_readRain 29 = .ok (.ifCond .ne 5, 3) := by decide +kernel
theorem dX6_readRain_32 : decode cX6_readRain 32 = .ok (.iconst 0, 1) := by decide +kernel
theorem dX6_readRain_33 : decode cX6_readRain 33 = .ok (.ireturn, 1) := by decide +kernel
theorem dX6_readRain_34 : decode cX6_readRain 34 = .ok (.aload_n 0, 1) := by decide +kernel
theorem dX6_readRain_35 : decode cX6_readRain 35 = .ok (.getfield 89, 3) := by decide +kernel
theorem dX6_readRain_38 : decode cX6_readRain 38 = .ok (.istore_n 1, 1) := by decide +kernel
theorem dX6_readRain_39 : decode cX6_readRain 39 = .ok (.aload_n 0, 1) := by decide +kernel
theorem dX6_readRain_40 : decode cX6_readRain 40 = .ok (.iconst 0, 1) := by decide +kernel
theorem dX6_readRain_41 : decode cX6_readRain 41 = .ok (.bipush 59, 2) := by decide +kernel
theorem dX6_readRain_43 : decode cX6_readRain 43 = .ok (.invokevirtual 86, 3) := by decide +kernel
theorem dX6_readRain_46 : decode cX6_readRain 46 = .ok (.ifCond .ne 5, 3) := by decide +kernel
theorem dX6_readRain_49 : decode cX6_readRain 49 = .ok (.iconst 0, 1) := by decide +kernel
theorem dX6_readRain_50 : decode cX6_readRain 50 = .ok (.ireturn, 1) := by decide +kernel
theorem dX6_readRain_51 : decode cX6_readRain 51 = .ok (.aload_n 0, 1) := by decide +kernel
theorem dX6_readRain_52 : decode cX6_readRain 52 = .ok (.getfield 21, 3) := by decide +kernel
theorem dX6_readRain_55 : decode cX6_readRain 55 = .ok (.iload_n 1, 1) := by decide +kernel
theorem dX6_readRain_56 : decode cX6_readRain 56 = .ok (.aload_n 0, 1) := by decide +kernel
theorem dX6_readRain_57 : decode cX6_readRain 57 = .ok (.getfield 89, 3) := by decide +kernel
theorem dX6_readRain_60 : decode cX6_readRain 60 = .ok (.invokevirtual 131, 3) := by decide +kernel
theorem dX6_readRain_63 : decode cX6_readRain 63 = .ok (.aload_n 0, 1) := by decide +kernel
theorem dX6_readRain_64 : decode cX6_readRain 64 = .ok (.invokevirtual 113, 3) := by decide +kernel
theorem dX6_readRain_67 : decode cX6_readRain 67 = .ok (.ireturn, 1) := by decide +kernel
theorem dX6_takeNumber_0 : decode cX6_takeNumber 0 = .ok (.aload_n 0, 1) := by decide +kernel
theorem dX6_takeNumber_1 : decode cX6_takeNumber 1 = .ok (.invokevirtual 39, 3) := by decide +kernel
theorem dX6_takeNumber_4 : decode cX6_takeNumber 4 = .ok (.ifCond .ne 5, 3) := by decide +kernel
theorem dX6_takeNumber_7 : decode cX6_takeNumber 7 = .ok (.iconst 0, 1) := by decide +kernel
theorem dX6_takeNumber_8 : decode cX6_takeNumber 8 = .ok (.ireturn, 1) := by decide +kernel
theorem dX6_takeNumber_9 : decode cX6_takeNumber 9 = .ok (.aload_n 0, 1) := by decide +kernel
theorem dX6_takeNumber_10 : decode cX6_takeNumber 10 = .ok (.getfield 43, 3) := by decide +kernel
theorem dX6_takeNumber_13 : decode cX6_takeNumber 13 = .ok (.iconst 2, 1) := by decide +kernel
theorem dX6_takeNumber_14 : decode cX6_takeNumber 14 = .ok (.if_icmp .eq 13, 3) := by decide +kernel
theorem dX6_takeNumber_17 : decode cX6_takeNumber 17 = .ok (.aload_n 0, 1) := by decide +kernel
theorem dX6_takeNumber_18 : decode cX6_takeNumber 18 = .ok (.iconst 2, 1) := by decide +kernel
theorem dX6_takeNumber_19 : decode cX6_takeNumber 19 = .ok (.aload_n 0, 1) := by decide +kernel
theorem dX6_takeNumber_20 : decode cX6_takeNumber 20 = .ok (.getfield 62, 3) := by decide +kernel
theorem dX6_takeNumber_23 : decode cX6_takeNumber 23 = .ok (.invokevirtual 55, 3) := by decide +kernel
theorem dX6_takeNumber_26 : decode cX6_takeNumber 26 = .ok (.ireturn, 1) := by decide +kernel
theorem dX6_takeNumber_27 : decode cX6_takeNumber 27 = .ok (.aload_n 0, 1) := by decide +kernel
theorem dX6_takeNumber_28 : decode cX6_takeNumber 28 = .ok (.getfield 89, 3) := by decide +kernel
theorem dX6_takeNumber_31 : decode cX6_takeNumber 31 = .ok (.iload_n 1, 1) := by decide +kernel
theorem dX6_takeNumber_32 : decode cX6_takeNumber 32 = .ok (.iload_n 2, 1) := by decide +kernel
theorem dX6_takeNumber_33 : decode cX6_takeNumber 33 = .ok (.invokestatic 135, 3) := by decide +kernel
theorem dX6_takeNumber_36 : decode cX6_takeNumber 36 = .ok (.ifCond .ne 15, 3) := by decide +kernel
theorem dX6_takeNumber_39 : decode cX6_takeNumber 39 = .ok (.aload_n 0, 1) := by decide +kernel
theorem dX6_takeNumber_40 : decode cX6_takeNumber 40 = .ok (.iconst 3, 1) := by decide +kernel
theorem dX6_takeNumber_41 : decode cX6_takeNumber 41 = .ok (.aload_n 0, 1) := by decide +kernel
theorem dX6_takeNumber_42 : decode cX6_takeNumber 42 = .ok (.getfield 62, 3) := by decide +kernel
theorem dX6_takeNumber_45 : decode cX6_takeNumber 45 = .ok (.invokevirtual 55, 3) := by decide +kernel
theorem dX6_takeNumber_48 : decode cX6_takeNumber 48 = .ok (.ifCond .eq 7, 3) := by decide +kernel
theorem dX6_takeNumber_51 : decode cX6_takeNumber 51 = .ok (.iconst 1, 1) := by decide +kernel
theorem dX6_takeNumber_52 : decode cX6_takeNumber 52 = .ok (.goto 4, 3) := by decide +kernel
theorem dX6_takeNumber_55 : decode cX6_takeNumber 55 = .ok (.iconst 0, 1) := by decide +kernel
theorem dX6_takeNumber_56 : decode cX6_takeNumber 56 = .ok (.ireturn, 1) := by decide +kernel
theorem dX6_takeSemicolon_0 : decode cX6_takeSemicolon 0 = .ok (.aload_n 0, 1) := by decide +kernel
theorem dX6_takeSemicolon_1 : decode cX6_takeSemicolon 1 = .ok (.invokevirtual 39, 3) := by decide +kernel
theorem dX6_takeSemicolon_4 : decode cX6_takeSemicolon 4 = .ok (.ifCond .eq 27, 3) := by decide +kernel
theorem dX6_takeSemicolon_7 : decode cX6_takeSemicolon 7 = .ok (.aload_n 0, 1) := by decide +kernel
theorem dX6_takeSemicolon_8 : decode cX6_takeSemicolon 8 = .ok (.getfield 43, 3) := by decide +kernel
theorem dX6_takeSemicolon_11 : decode cX6_takeSemicolon 11 = .ok (.iconst 3, 1) := by decide +kernel
theorem dX6_takeSemicolon_12 : decode cX6_takeSemicolon 12 = .ok (.if_icmp .eq 15, 3) := by decide +kernel
theorem dX6_takeSemicolon_15 : decode cX6_takeSemicolon 15 = .ok (.aload_n 0, 1) := by decide +kernel
theorem dX6_takeSemicolon_16 : decode cX6_takeSemicolon 16 = .ok (.iconst 2, 1) := by decide +kernel
theorem dX6_takeSemicolon_17 : decode cX6_takeSemicolon 17 = .ok (.aload_n 0, 1) := by decide +kernel
theorem dX6_takeSemicolon_18 : decode cX6_takeSemicolon 18 = .ok (.getfield 62, 3) := by decide +kernel
theorem dX6_takeSemicolon_21 : decode cX6_takeSemicolon 21 = .ok (.invokevirtual 55, 3) := by decide +kernel
theorem dX6_takeSemicolon_24 : decode cX6_takeSemicolon 24 = .ok (.ifCond .eq 7, 3) := by decide +kernel
theorem dX6_takeSemicolon_27 : decode cX6_takeSemicolon 27 = .ok (.iconst 1, 1) := by decide +kernel
theorem dX6_takeSemicolon_28 : decode cX6_takeSemicolon 28 = .ok (.goto 4, 3) := by decide +kernel
theorem dX6_takeSemicolon_31 : decode cX6_takeSemicolon 31 = .ok (.iconst 0, 1) := by decide +kernel
theorem dX6_takeSemicolon_32 : decode cX6_takeSemicolon 32 = .ok (.ireturn, 1) := by decide +kernel
theorem dX6_readToken_0 : decode cX6_readToken 0 = .ok (.aload_n 0, 1) := by decide +kernel
theorem dX6_readToken_1 : decode cX6_readToken 1 = .ok (.getfield 29, 3) := by decide +kernel
theorem dX6_readToken_4 : decode cX6_readToken 4 = .ok (.aload_n 0, 1) := by decide +kernel
theorem dX6_readToken_5 : decode cX6_readToken 5 = .ok (.getfield 12, 3) := by decide +kernel
theorem dX6_readToken_8 : decode cX6_readToken 8 = .ok (.getfield 52, 3) := by decide +kernel
theorem dX6_readToken_11 : decode cX6_readToken 11 = .ok (.if_icmp .ge 32, 3) := by decide +kernel
theorem dX6_readToken_14 : decode cX6_readToken 14 = .ok (.aload_n 0, 1) := by decide +kernel
theorem dX6_readToken_15 : decode cX6_readToken 15 = .ok (.getfield 12, 3) := by decide +kernel
theorem dX6_readToken_18 : decode cX6_readToken 18 = .ok (.aload_n 0, 1) := by decide +kernel
theorem dX6_readToken_19 : decode cX6_readToken 19 = .ok (.getfield 29, 3) := by decide +kernel
theorem dX6_readToken_22 : decode cX6_readToken 22 = .ok (.invokevirtual 139, 3) := by decide +kernel
theorem dX6_readToken_25 : decode cX6_readToken 25 = .ok (.bipush 32, 2) := by decide +kernel
theorem dX6_readToken_27 : decode cX6_readToken 27 = .ok (.if_icmp .ne 16, 3) := by decide +kernel
theorem dX6_readToken_30 : decode cX6_readToken 30 = .ok (.aload_n 0, 1) := by decide +kernel
theorem dX6_readToken_31 : decode cX6_readToken 31 = .ok (.dup, 1) := by decide +kernel
theorem dX6_readToken_32 : decode cX6_readToken 32 = .ok (.getfield 29, 3) := by decide +kernel
theorem dX6_readToken_35 : decode cX6_readToken 35 = .ok (.iconst 1, 1) := by decide +kernel
theorem dX6_readToken_36 : decode cX6_readToken 36 = .ok (.iadd, 1) := by decide +kernel
theorem dX6_readToken_37 : decode cX6_readToken 37 = .ok (.putfield 29, 3) := by decide +kernel
theorem dX6_readToken_40 : decode cX6_readToken 40 = .ok (.goto (-40), 3) := by decide +kernel
theorem dX6_readToken_43 : decode cX6_readToken 43 = .ok (.aload_n 0, 1) := by decide +kernel
theorem dX6_readToken_44 : decode cX6_readToken 44 = .ok (.aload_n 0, 1) := by decide +kernel
theorem dX6_readToken_45 : decode cX6_readToken 45 = .ok (.getfield 29, 3) := by decide +kernel
theorem dX6_readToken_48 : decode cX6_readToken 48 = .ok (.putfield 62, 3) := by decide +kernel
theorem dX6_readToken_51 : decode cX6_readToken 51 = .ok (.aload_n 0, 1) := by decide +kernel
theorem dX6_readToken_52 : decode cX6_readToken 52 = .ok (.getfield 12, 3) := by decide +kernel
theorem dX6_readToken_55 : decode cX6_readToken 55 = .ok (.aload_n 0, 1) := by decide +kernel
theorem dX6_readToken_56 : decode cX6_readToken 56 = .ok (.getfield 29, 3) := by decide +kernel
theorem dX6_readToken_59 : decode cX6_readToken 59 = .ok (.invokevirtual 139, 3) := by decide +kernel
theorem dX6_readToken_62 : decode cX6_readToken 62 = .ok (.istore_n 1, 1) := by decide +kernel
theorem dX6_readToken_63 : decode cX6_readToken 63 = .ok (.iload_n 1, 1) := by decide +kernel
theorem dX6_readToken_64 : decode cX6_readToken 64 = .ok (.bipush (-4), 2) := by decide +kernel
theorem dX6_readToken_66 : decode cX6_readToken 66 = .ok (.if_icmp .ne 10, 3) := by decide +kernel
theorem dX6_readToken_69 : decode cX6_readToken 69 = .ok (.aload_n 0, 1) := by decide +kernel
theorem dX6_readToken_70 : decode cX6_readToken 70 = .ok (.iconst 0, 1) := by decide +kernel
theorem dX6_readToken_71 : decode cX6_readToken 71 = .ok (.putfield 43, 3) := by decide +kernel
theorem dX6_readToken_74 : decode cX6_readToken 74 = .ok (.iconst 1, 1) := by decide +kernel
theorem dX6_readToken_75 : decode cX6_readToken 75 = .ok (.ireturn, 1) := by decide +kernel
theorem dX6_readToken_76 : decode cX6_readToken 76 = .ok (.iload_n 1, 1) := by decide +kernel
theorem dX6_readToken_77 : decode cX6_readToken 77 = .ok (.bipush 59, 2) := by decide +kernel
theorem dX6_readToken_79 : decode cX6_readToken 79 = .ok (.if_icmp .ne 20, 3) := by decide +kernel
theorem dX6_readToken_82 : decode cX6_readToken 82 = .ok (.aload_n 0, 1) := by decide +kernel
theorem dX6_readToken_83 : decode cX6_readToken 83 = .ok (.iconst 3, 1) := by decide +kernel
theorem dX6_readToken_84 : decode cX6_readToken 84 = .ok (.putfield 43, 3) := by decide +kernel
theorem dX6_readToken_87 : decode cX6_readToken 87 = .ok (.aload_n 0, 1) := by decide +kernel
theorem dX6_readToken_88 : decode cX6_readToken 88 = .ok (.dup, 1) := by decide +kernel
theorem dX6_readToken_89 : decode cX6_readToken 89 = .ok (.getfield 29, 3) := by decide +kernel
theorem dX6_readToken_92 : decode cX6_readToken 92 = .ok (.iconst 1, 1) := by decide +kernel
theorem dX6_readToken_93 : decode cX6_readToken 93 = .ok (.iadd, 1) := by decide +kernel
theorem dX6_readToken_94 : decode cX6_readToken 94 = .ok (.putfield 29, 3) := by decide +kernel
theorem dX6_readToken_97 : decode cX6_readToken 97 = .ok (.iconst 1, 1) := by decide +kernel
theorem dX6_readToken_98 : decode cX6_readToken 98 = .ok (.ireturn, 1) := by decide +kernel
theorem dX6_readToken_99 : decode cX6_readToken 99 = .ok (.iload_n 1, 1) := by decide +kernel
theorem dX6_readToken_100 : decode cX6_readToken 100 = .ok (.invokestatic 143, 3) := by decide +kernel
theorem dX6_readToken_103 : decode cX6_readToken 103 = .ok (.ifCond .eq 54, 3) := by decide +kernel
theorem dX6_readToken_106 : decode cX6_readToken 106 = .ok (.aload_n 0, 1) := by decide +kernel
theorem dX6_readToken_107 : decode cX6_readToken 107 = .ok (.iconst 1, 1) := by decide +kernel
theorem dX6_readToken_108 : decode cX6_readToken 108 = .ok (.putfield 43, 3) := by decide +kernel
theorem dX6_readToken_111 : decode cX6_readToken 111 = .ok (.aload_n 0, 1) := by decide +kernel
theorem dX6_readToken_112 : decode cX6_readToken 112 = .ok (.getfield 29, 3) := by decide +kernel
theorem dX6_readToken_115 : decode cX6_readToken 115 = .ok (.aload_n 0, 1) := by decide +kernel
theorem dX6_readToken_116 : decode cX6_readToken 116 = .ok (.getfield 12, 3) := by decide +kernel
theorem dX6_readToken_119 : decode cX6_readToken 119 = .ok (.getfield 52, 3) := by decide +kernel
theorem dX6_readToken_122 : decode cX6_readToken 122 = .ok (.if_icmp .ge 33, 3) := by decide +kernel
theorem dX6_readToken_125 : decode cX6_readToken 125 = .ok (.aload_n 0, 1) := by decide +kernel
theorem dX6_readToken_126 : decode cX6_readToken 126 = .ok (.getfield 12, 3) := by decide +kernel
theorem dX6_readToken_129 : decode cX6_readToken 129 = .ok (.aload_n 0, 1) := by decide +kernel
theorem dX6_readToken_130 : decode cX6_readToken 130 = .ok (.getfield 29, 3) := by decide +kernel
theorem dX6_readToken_133 : decode cX6_readToken 133 = .ok (.invokevirtual 139, 3) := by decide +kernel
theorem dX6_readToken_136 : decode cX6_readToken 136 = .ok (.invokestatic 143, 3) := by decide +kernel
theorem dX6_readToken_139 : decode cX6_readToken 139 = .ok (.ifCond .eq 16, 3) := by decide +kernel
theorem dX6_readToken_142 : decode cX6_readToken 142 = .ok (.aload_n 0, 1) := by decide +kernel
theorem dX6_readToken_143 : decode cX6_readToken 143 = .ok (.dup, 1) := by decide +kernel
theorem dX6_readToken_144 : decode cX6_readToken 144 = .ok (.getfield 29, 3) := by decide +kernel
theorem dX6_readToken_147 : decode cX6_readToken 147 = .ok (.iconst 1, 1) := by decide +kernel
theorem dX6_readToken_148 : decode cX6_readToken 148 = .ok (.iadd, 1) := by decide +kernel
theorem dX6_readToken_149 : decode cX6_readToken 149 = .ok (.putfield 29, 3) := by decide +kernel
theorem dX6_readToken_152 : decode cX6_readToken 152 = .ok (.goto (-41), 3) := by decide +kernel
theorem dX6_readToken_155 : decode cX6_readToken 155 = .ok (.iconst 1, 1) := by decide +kernel
theorem dX6_readToken_156 : decode cX6_readToken 156 = .ok (.ireturn, 1) := by decide +kernel
theorem dX6_readToken_157 : decode cX6_readToken 157 = .ok (.aload_n 0, 1) := by decide +kernel
theorem dX6_readToken_158 : decode cX6_readToken 158 = .ok (.iconst 2, 1) := by decide +kernel
theorem dX6_readToken_159 : decode cX6_readToken 159 = .ok (.putfield 43, 3) := by decide +kernel
theorem dX6_readToken_162 : decode cX6_readToken 162 = .ok (.aload_n 0, 1) := by decide +kernel
theorem dX6_readToken_163 : decode cX6_readToken 163 = .ok (.iconst 0, 1) := by decide +kernel
theorem dX6_readToken_164 : decode cX6_readToken 164 = .ok (.putfield 89, 3) := by decide +kernel
theorem dX6_readToken_167 : decode cX6_readToken 167 = .ok (.aload_n 0, 1) := by decide +kernel
theorem dX6_readToken_168 : decode cX6_readToken 168 = .ok (.getfield 29, 3) := by decide +kernel
theorem dX6_readToken_171 : decode cX6_readToken 171 = .ok (.aload_n 0, 1) := by decide +kernel
theorem dX6_readToken_172 : decode cX6_readToken 172 = .ok (.getfield 12, 3) := by decide +kernel
theorem dX6_readToken_175 : decode cX6_readToken 175 = .ok (.getfield 52, 3) := by decide +kernel
theorem dX6_readToken_178 : decode cX6_readToken 178 = .ok (.if_icmp .ge 59, 3) := by decide +kernel
theorem dX6_readToken_181 : decode cX6_readToken 181 = .ok (.aload_n 0, 1) := by decide +kernel
theorem dX6_readToken_182 : decode cX6_readToken 182 = .ok (.getfield 12, 3) := by decide +kernel
theorem dX6_readToken_185 : decode cX6_readToken 185 = .ok (.aload_n 0, 1) := by decide +kernel
theorem dX6_readToken_186 : decode cX6_readToken 186 = .ok (.getfield 29, 3) := by decide +kernel
theorem dX6_readToken_189 : decode cX6_readToken 189 = .ok (.invokevirtual 139, 3) := by decide +kernel
theorem dX6_readToken_192 : decode cX6_readToken 192 = .ok (.invokestatic 146, 3) := by decide +kernel
theorem dX6_readToken_195 : decode cX6_readToken 195 = .ok (.ifCond .eq 42, 3) := by decide +kernel
theorem dX6_readToken_198 : decode cX6_readToken 198 = .ok (.aload_n 0, 1) := by decide +kernel
theorem dX6_readToken_199 : decode cX6_readToken 199 = .ok (.bipush 10, 2) := by decide +kernel
theorem dX6_readToken_201 : decode cX6_readToken 201 = .ok (.aload_n 0, 1) := by decide +kernel
theorem dX6_readToken_202 : decode cX6_readToken 202 = .ok (.getfield 89, 3) := by decide +kernel
theorem dX6_readToken_205 : decode cX6_readToken 205 = .ok (.imul, 1) := by decide +kernel
theorem dX6_readToken_206 : decode cX6_readToken 206 = .ok (.aload_n 0, 1) := by decide +kernel
theorem dX6_readToken_207 : decode cX6_readToken 207 = .ok (.getfield 12, 3) := by decide +kernel
theorem dX6_readToken_210 : decode cX6_readToken 210 = .ok (.aload_n 0, 1) := by decide +kernel
theorem dX6_readToken_211 : decode cX6_readToken 211 = .ok (.getfield 29, 3) := by decide +kernel
theorem dX6_readToken_214 : decode cX6_readToken 214 = .ok (.invokevirtual 139, 3) := by decide +kernel
theorem dX6_readToken_217 : decode cX6_readToken 217 = .ok (.iadd, 1) := by decide +kernel
theorem dX6_readToken_218 : decode cX6_readToken 218 = .ok (.bipush 48, 2) := by decide +kernel
theorem dX6_readToken_220 : decode cX6_readToken 220 = .ok (.isub, 1) := by decide +kernel
theorem dX6_readToken_221 : decode cX6_readToken 221 = .ok (.putfield 89, 3) := by decide +kernel
theorem dX6_readToken_224 : decode cX6_readToken 224 = .ok (.aload_n 0, 1) := by decide +kernel
theorem dX6_readToken_225 : decode cX6_readToken 225 = .ok (.dup, 1) := by decide +kernel
theorem dX6_readToken_226 : decode cX6_readToken 226 = .ok (.getfield 29, 3) := by decide +kernel
theorem dX6_readToken_229 : decode cX6_readToken 229 = .ok (.iconst 1, 1) := by decide +kernel
theorem dX6_readToken_230 : decode cX6_readToken 230 = .ok (.iadd, 1) := by decide +kernel
theorem dX6_readToken_231 : decode cX6_readToken 231 = .ok (.putfield 29, 3) := by decide +kernel
theorem dX6_readToken_234 : decode cX6_readToken 234 = .ok (.goto (-67), 3) := by decide +kernel
theorem dX6_readToken_237 : decode cX6_readToken 237 = .ok (.aload_n 0, 1) := by decide +kernel
theorem dX6_readToken_238 : decode cX6_readToken 238 = .ok (.getfield 29, 3) := by decide +kernel
theorem dX6_readToken_241 : decode cX6_readToken 241 = .ok (.aload_n 0, 1) := by decide +kernel
theorem dX6_readToken_242 : decode cX6_readToken 242 = .ok (.getfield 62, 3) := by decide +kernel
theorem dX6_readToken_245 : decode cX6_readToken 245 = .ok (.isub, 1) := by decide +kernel
theorem dX6_readToken_246 : decode cX6_readToken 246 = .ok (.istore_n 2, 1) := by decide +kernel
theorem dX6_readToken_247 : decode cX6_readToken 247 = .ok (.iload_n 2, 1) := by decide +kernel
theorem dX6_readToken_248 : decode cX6_readToken 248 = .ok (.iconst 1, 1) := by decide +kernel
theorem dX6_readToken_249 : decode cX6_readToken 249 = .ok (.iconst 2, 1) := by decide +kernel
theorem dX6_readToken_250 : decode cX6_readToken 250 = .ok (.invokestatic 135, 3) := by decide +kernel
theorem dX6_readToken_253 : decode cX6_readToken 253 = .ok (.ifCond .ne 15, 3) := by decide +kernel
theorem dX6_readToken_256 : decode cX6_readToken 256 = .ok (.aload_n 0, 1) := by decide +kernel
theorem dX6_readToken_257 : decode cX6_readToken 257 = .ok (.iconst 1, 1) := by decide +kernel
theorem dX6_readToken_258 : decode cX6_readToken 258 = .ok (.aload_n 0, 1) := by decide +kernel
theorem dX6_readToken_259 : decode cX6_readToken 259 = .ok (.getfield 62, 3) := by decide +kernel
theorem dX6_readToken_262 : decode cX6_readToken 262 = .ok (.invokevirtual 55, 3) := by decide +kernel
theorem dX6_readToken_265 : decode cX6_readToken 265 = .ok (.ifCond .eq 7, 3) := by decide +kernel
theorem dX6_readToken_268 : decode cX6_readToken 268 = .ok (.iconst 1, 1) := by decide +kernel
theorem dX6_readToken_269 : decode cX6_readToken 269 = .ok (.goto 4, 3) := by decide +kernel
theorem dX6_readToken_272 : decode cX6_readToken 272 = .ok (.iconst 0, 1) := by decide +kernel
theorem dX6_readToken_273 : decode cX6_readToken 273 = .ok (.ireturn, 1) := by decide +kernel
theorem dX6_lineNamed_0 : decode cX6_lineNamed 0 = .ok (.aload_n 0, 1) := by decide +kernel
theorem dX6_lineNamed_1 : decode cX6_lineNamed 1 = .ok (.ldc 149, 2) := by decide +kernel
theorem dX6_lineNamed_3 : decode cX6_lineNamed 3 = .ok (.invokevirtual 151, 3) := by decide +kernel
theorem dX6_lineNamed_6 : decode cX6_lineNamed 6 = .ok (.ifCond .eq 5, 3) := by decide +kernel
theorem dX6_lineNamed_9 : decode cX6_lineNamed 9 = .ok (.iconst 0, 1) := by decide +kernel
theorem dX6_lineNamed_10 : decode cX6_lineNamed 10 = .ok (.ireturn, 1) := by decide +kernel
theorem dX6_lineNamed_11 : decode cX6_lineNamed 11 = .ok (.aload_n 0, 1) := by decide +kernel
theorem dX6_lineNamed_12 : decode cX6_lineNamed 12 = .ok (.ldc 155, 2) := by decide +kernel
theorem dX6_lineNamed_14 : decode cX6_lineNamed 14 = .ok (.invokevirtual 151, 3) := by decide +kernel
theorem dX6_lineNamed_17 : decode cX6_lineNamed 17 = .ok (.ifCond .eq 5, 3) := by decide +kernel
theorem dX6_lineNamed_20 : decode cX6_lineNamed 20 = .ok (.iconst 1, 1) := by decide +kernel
theorem dX6_lineNamed_21 : decode cX6_lineNamed 21 = .ok (.ireturn, 1) := by decide +kernel
theorem dX6_lineNamed_22 : decode cX6_lineNamed 22 = .ok (.aload_n 0, 1) := by decide +kernel
theorem dX6_lineNamed_23 : decode cX6_lineNamed 23 = .ok (.ldc 157, 2) := by decide +kernel
theorem dX6_lineNamed_25 : decode cX6_lineNamed 25 = .ok (.invokevirtual 151, 3) := by decide +kernel
theorem dX6_lineNamed_28 : decode cX6_lineNamed 28 = .ok (.ifCond .eq 5, 3) := by decide +kernel
theorem dX6_lineNamed_31 : decode cX6_lineNamed 31 = .ok (.iconst 2, 1) := by decide +kernel
theorem dX6_lineNamed_32 : decode cX6_lineNamed 32 = .ok (.ireturn, 1) := by decide +kernel
theorem dX6_lineNamed_33 : decode cX6_lineNamed 33 = .ok (.aload_n 0, 1) := by decide +kernel
theorem dX6_lineNamed_34 : decode cX6_lineNamed 34 = .ok (.ldc 159, 2) := by decide +kernel
theorem dX6_lineNamed_36 : decode cX6_lineNamed 36 = .ok (.invokevirtual 151, 3) := by decide +kernel
theorem dX6_lineNamed_39 : decode cX6_lineNamed 39 = .ok (.ifCond .eq 5, 3) := by decide +kernel
theorem dX6_lineNamed_42 : decode cX6_lineNamed 42 = .ok (.iconst 3, 1) := by decide +kernel
theorem dX6_lineNamed_43 : decode cX6_lineNamed 43 = .ok (.ireturn, 1) := by decide +kernel
theorem dX6_lineNamed_44 : decode cX6_lineNamed 44 = .ok (.aload_n 0, 1) := by decide +kernel
theorem dX6_lineNamed_45 : decode cX6_lineNamed 45 = .ok (.ldc 161, 2) := by decide +kernel
theorem dX6_lineNamed_47 : decode cX6_lineNamed 47 = .ok (.invokevirtual 151, 3) := by decide +kernel
theorem dX6_lineNamed_50 : decode cX6_lineNamed 50 = .ok (.ifCond .eq 5, 3) := by decide +kernel
theorem dX6_lineNamed_53 : decode cX6_lineNamed 53 = .ok (.iconst 4, 1) := by decide +kernel
theorem dX6_lineNamed_54 : decode cX6_lineNamed 54 = .ok (.ireturn, 1) := by decide +kernel
theorem dX6_lineNamed_55 : decode cX6_lineNamed 55 = .ok (.aload_n 0, 1) := by decide +kernel
theorem dX6_lineNamed_56 : decode cX6_lineNamed 56 = .ok (.ldc 163, 2) := by decide +kernel
theorem dX6_lineNamed_58 : decode cX6_lineNamed 58 = .ok (.invokevirtual 151, 3) := by decide +kernel
theorem dX6_lineNamed_61 : decode cX6_lineNamed 61 = .ok (.ifCond .eq 5, 3) := by decide +kernel
theorem dX6_lineNamed_64 : decode cX6_lineNamed 64 = .ok (.iconst 5, 1) := by decide +kernel
theorem dX6_lineNamed_65 : decode cX6_lineNamed 65 = .ok (.ireturn, 1) := by decide +kernel
theorem dX6_lineNamed_66 : decode cX6_lineNamed 66 = .ok (.aload_n 0, 1) := by decide +kernel
theorem dX6_lineNamed_67 : decode cX6_lineNamed 67 = .ok (.ldc 165, 2) := by decide +kernel
theorem dX6_lineNamed_69 : decode cX6_lineNamed 69 = .ok (.invokevirtual 151, 3) := by decide +kernel
theorem dX6_lineNamed_72 : decode cX6_lineNamed 72 = .ok (.ifCond .eq 8, 3) := by decide +kernel
theorem dX6_lineNamed_75 : decode cX6_lineNamed 75 = .ok (.bipush 6, 2) := by decide +kernel
theorem dX6_lineNamed_77 : decode cX6_lineNamed 77 = .ok (.goto 5, 3) := by decide +kernel
theorem dX6_lineNamed_80 : decode cX6_lineNamed 80 = .ok (.bipush (-4), 2) := by decide +kernel
theorem dX6_lineNamed_82 : decode cX6_lineNamed 82 = .ok (.ireturn, 1) := by decide +kernel
theorem dX6_isNamed_0 : decode cX6_isNamed 0 = .ok (.aload_n 0, 1) := by decide +kernel
theorem dX6_isNamed_1 : decode cX6_isNamed 1 = .ok (.getfield 29, 3) := by decide +kernel
theorem dX6_isNamed_4 : decode cX6_isNamed 4 = .ok (.aload_n 0, 1) := by decide +kernel
theorem dX6_isNamed_5 : decode cX6_isNamed 5 = .ok (.getfield 62, 3) := by decide +kernel
theorem dX6_isNamed_8 : decode cX6_isNamed 8 = .ok (.isub, 1) := by decide +kernel
theorem dX6_isNamed_9 : decode cX6_isNamed 9 = .ok (.aload_n 1, 1) := by decide +kernel
theorem dX6_isNamed_10 : decode cX6_isNamed 10 = .ok (.invokevirtual 167, 3) := by decide +kernel
theorem dX6_isNamed_13 : decode cX6_isNamed 13 = .ok (.if_icmp .eq 5, 3) := by decide +kernel
theorem dX6_isNamed_16 : decode cX6_isNamed 16 = .ok (.iconst 0, 1) := by decide +kernel
theorem dX6_isNamed_17 : decode cX6_isNamed 17 = .ok (.ireturn, 1) := by decide +kernel
theorem dX6_isNamed_18 : decode cX6_isNamed 18 = .ok (.iconst 0, 1) := by decide +kernel
theorem dX6_isNamed_19 : decode cX6_isNamed 19 = .ok (.istore_n 2, 1) := by decide +kernel
theorem dX6_isNamed_20 : decode cX6_isNamed 20 = .ok (.iload_n 2, 1) := by decide +kernel
theorem dX6_isNamed_21 : decode cX6_isNamed 21 = .ok (.aload_n 1, 1) := by decide +kernel
theorem dX6_isNamed_22 : decode cX6_isNamed 22 = .ok (.invokevirtual 167, 3) := by decide +kernel
theorem dX6_isNamed_25 : decode cX6_isNamed 25 = .ok (.if_icmp .ge 32, 3) := by decide +kernel
theorem dX6_isNamed_28 : decode cX6_isNamed 28 = .ok (.aload_n 0, 1) := by decide +kernel
theorem dX6_isNamed_29 : decode cX6_isNamed 29 = .ok (.getfield 12, 3) := by decide +kernel
theorem dX6_isNamed_32 : decode cX6_isNamed 32 = .ok (.aload_n 0, 1) := by decide +kernel
theorem dX6_isNamed_33 : decode cX6_isNamed 33 = .ok (.getfield 62, 3) := by decide +kernel
theorem dX6_isNamed_36 : decode cX6_isNamed 36 = .ok (.iload_n 2, 1) := by decide +kernel
theorem dX6_isNamed_37 : decode cX6_isNamed 37 = .ok (.iadd, 1) := by decide +kernel
theorem dX6_isNamed_38 : decode cX6_isNamed 38 = .ok (.invokevirtual 139, 3) := by decide +kernel
theorem dX6_isNamed_41 : decode cX6_isNamed 41 = .ok (.aload_n 1, 1) := by decide +kernel
theorem dX6_isNamed_42 : decode cX6_isNamed 42 = .ok (.iload_n 2, 1) := by decide +kernel
theorem dX6_isNamed_43 : decode cX6_isNamed 43 = .ok (.invokevirtual 171, 3) := by decide +kernel
theorem dX6_isNamed_46 : decode cX6_isNamed 46 = .ok (.if_icmp .eq 5, 3) := by decide +kernel
theorem dX6_isNamed_49 : decode cX6_isNamed 49 = .ok (.iconst 0, 1) := by decide +kernel
theorem dX6_isNamed_50 : decode cX6_isNamed 50 = .ok (.ireturn, 1) := by decide +kernel
theorem dX6_isNamed_51 : decode cX6_isNamed 51 = .ok (.iinc 2 1, 3) := by decide +kernel
theorem dX6_isNamed_54 : decode cX6_isNamed 54 = .ok (.goto (-34), 3) := by decide +kernel
theorem dX6_isNamed_57 : decode cX6_isNamed 57 = .ok (.iconst 1, 1) := by decide +kernel
theorem dX6_isNamed_58 : decode cX6_isNamed 58 = .ok (.ireturn, 1) := by decide +kernel
theorem dX6_isLetter_0 : decode cX6_isLetter 0 = .ok (.iload_n 0, 1) := by decide +kernel
theorem dX6_isLetter_1 : decode cX6_isLetter 1 = .ok (.bipush 97, 2) := by decide +kernel
theorem dX6_isLetter_3 : decode cX6_isLetter 3 = .ok (.if_icmp .lt 13, 3) := by decide +kernel
theorem dX6_isLetter_6 : decode cX6_isLetter 6 = .ok (.iload_n 0, 1) := by decide +kernel
theorem dX6_isLetter_7 : decode cX6_isLetter 7 = .ok (.bipush 122, 2) := by decide +kernel
theorem dX6_isLetter_9 : decode cX6_isLetter 9 = .ok (.if_icmp .gt 7, 3) := by decide +kernel
theorem dX6_isLetter_12 : decode cX6_isLetter 12 = .ok (.iconst 1, 1) := by decide +kernel
theorem dX6_isLetter_13 : decode cX6_isLetter 13 = .ok (.goto 4, 3) := by decide +kernel
theorem dX6_isLetter_16 : decode cX6_isLetter 16 = .ok (.iconst 0, 1) := by decide +kernel
theorem dX6_isLetter_17 : decode cX6_isLetter 17 = .ok (.ireturn, 1) := by decide +kernel
theorem dX6_isFigure_0 : decode cX6_isFigure 0 = .ok (.iload_n 0, 1) := by decide +kernel
theorem dX6_isFigure_1 : decode cX6_isFigure 1 = .ok (.bipush 48, 2) := by decide +kernel
theorem dX6_isFigure_3 : decode cX6_isFigure 3 = .ok (.if_icmp .lt 13, 3) := by decide +kernel
theorem dX6_isFigure_6 : decode cX6_isFigure 6 = .ok (.iload_n 0, 1) := by decide +kernel
theorem dX6_isFigure_7 : decode cX6_isFigure 7 = .ok (.bipush 57, 2) := by decide +kernel
theorem dX6_isFigure_9 : decode cX6_isFigure 9 = .ok (.if_icmp .gt 7, 3) := by decide +kernel
theorem dX6_isFigure_12 : decode cX6_isFigure 12 = .ok (.iconst 1, 1) := by decide +kernel
theorem dX6_isFigure_13 : decode cX6_isFigure 13 = .ok (.goto 4, 3) := by decide +kernel
theorem dX6_isFigure_16 : decode cX6_isFigure 16 = .ok (.iconst 0, 1) := by decide +kernel
theorem dX6_isFigure_17 : decode cX6_isFigure 17 = .ok (.ireturn, 1) := by decide +kernel
theorem dX7_init_0 : decode cX7_init 0 = .ok (.aload_n 0, 1) := by decide +kernel
theorem dX7_init_1 : decode cX7_init 1 = .ok (.invokespecial 3, 3) := by decide +kernel
theorem dX7_init_4 : decode cX7_init 4 = .ok (.aload_n 0, 1) := by decide +kernel
theorem dX7_init_5 : decode cX7_init 5 = .ok (.iconst 4, 1) := by decide +kernel
theorem dX7_init_6 : decode cX7_init 6 = .ok (.anewarray 9, 3) := by decide +kernel
theorem dX7_init_9 : decode cX7_init 9 = .ok (.putfield 11, 3) := by decide +kernel
theorem dX7_init_12 : decode cX7_init 12 = .ok (.aload_n 0, 1) := by decide +kernel
theorem dX7_init_13 : decode cX7_init 13 = .ok (.iconst 4, 1) := by decide +kernel
theorem dX7_init_14 : decode cX7_init 14 = .ok (.anewarray 17, 3) := by decide +kernel
theorem dX7_init_17 : decode cX7_init 17 = .ok (.putfield 19, 3) := by decide +kernel
theorem dX7_init_20 : decode cX7_init 20 = .ok (.aload_n 0, 1) := by decide +kernel
theorem dX7_init_21 : decode cX7_init 21 = .ok (.bipush 9, 2) := by decide +kernel
theorem dX7_init_23 : decode cX7_init 23 = .ok (.newarray .int, 2) := by decide +kernel
theorem dX7_init_25 : decode cX7_init 25 = .ok (.putfield 23, 3) := by decide +kernel
theorem dX7_init_28 : decode cX7_init 28 = .ok (.aload_n 0, 1) := by decide +kernel
theorem dX7_init_29 : decode cX7_init 29 = .ok (.bipush 9, 2) := by decide +kernel
theorem dX7_init_31 : decode cX7_init 31 = .ok (.newarray .int, 2) := by decide +kernel
theorem dX7_init_33 : decode cX7_init 33 = .ok (.putfield 27, 3) := by decide +kernel
theorem dX7_init_36 : decode cX7_init 36 = .ok (.iconst 0, 1) := by decide +kernel
theorem dX7_init_37 : decode cX7_init 37 = .ok (.istore_n 1, 1) := by decide +kernel
theorem dX7_init_38 : decode cX7_init 38 = .ok (.iload_n 1, 1) := by decide +kernel
theorem dX7_init_39 : decode cX7_init 39 = .ok (.iconst 4, 1) := by decide +kernel
theorem dX7_init_40 : decode cX7_init 40 = .ok (.if_icmp .ge 22, 3) := by decide +kernel
theorem dX7_init_43 : decode cX7_init 43 = .ok (.aload_n 0, 1) := by decide +kernel
theorem dX7_init_44 : decode cX7_init 44 = .ok (.getfield 11, 3) := by decide +kernel
theorem dX7_init_47 : decode cX7_init 47 = .ok (.iload_n 1, 1) := by decide +kernel
theorem dX7_init_48 : decode cX7_init 48 = .ok (.new 9, 3) := by decide +kernel
end
section
theorem dX7_init_51 : decode cX7_init 51 = .ok (.dup, 1) := by decide +kernel
theorem dX7_init_52 : decode cX7_init 52 = .ok (.invokespecial 30, 3) := by decide +kernel
theorem dX7_init_55 : decode cX7_init 55 = .ok (.aastore, 1) := by decide +kernel
theorem dX7_init_56 : decode cX7_init 56 = .ok (.iinc 1 1, 3) := by decide +kernel
theorem dX7_init_59 : decode cX7_init 59 = .ok (.goto (-21), 3) := by decide +kernel
theorem dX7_init_62 : decode cX7_init 62 = .ok (.iconst 0, 1) := by decide +kernel
theorem dX7_init_63 : decode cX7_init 63 = .ok (.istore_n 1, 1) := by decide +kernel
theorem dX7_init_64 : decode cX7_init 64 = .ok (.iload_n 1, 1) := by decide +kernel
theorem dX7_init_65 : decode cX7_init 65 = .ok (.iconst 4, 1) := by decide +kernel
theorem dX7_init_66 : decode cX7_init 66 = .ok (.if_icmp .ge 22, 3) := by decide +kernel
theorem dX7_init_69 : decode cX7_init 69 = .ok (.aload_n 0, 1) := by decide +kernel
theorem dX7_init_70 : decode cX7_init 70 = .ok (.getfield 19, 3) := by decide +kernel
theorem dX7_init_73 : decode cX7_init 73 = .ok (.iload_n 1, 1) := by decide +kernel
theorem dX7_init_74 : decode cX7_init 74 = .ok (.new 17, 3) := by decide +kernel
theorem dX7_init_77 : decode cX7_init 77 = .ok (.dup, 1) := by decide +kernel
theorem dX7_init_78 : decode cX7_init 78 = .ok (.invokespecial 31, 3) := by decide +kernel
theorem dX7_init_81 : decode cX7_init 81 = .ok (.aastore, 1) := by decide +kernel
theorem dX7_init_82 : decode cX7_init 82 = .ok (.iinc 1 1, 3) := by decide +kernel
theorem dX7_init_85 : decode cX7_init 85 = .ok (.goto (-21), 3) := by decide +kernel
theorem dX7_init_88 : decode cX7_init 88 = .ok (.return_, 1) := by decide +kernel
theorem dX7_clear_0 : decode cX7_clear 0 = .ok (.aload_n 0, 1) := by decide +kernel
theorem dX7_clear_1 : decode cX7_clear 1 = .ok (.iconst 0, 1) := by decide +kernel
theorem dX7_clear_2 : decode cX7_clear 2 = .ok (.putfield 32, 3) := by decide +kernel
theorem dX7_clear_5 : decode cX7_clear 5 = .ok (.aload_n 0, 1) := by decide +kernel
theorem dX7_clear_6 : decode cX7_clear 6 = .ok (.iconst 0, 1) := by decide +kernel
theorem dX7_clear_7 : decode cX7_clear 7 = .ok (.putfield 36, 3) := by decide +kernel
theorem dX7_clear_10 : decode cX7_clear 10 = .ok (.aload_n 0, 1) := by decide +kernel
theorem dX7_clear_11 : decode cX7_clear 11 = .ok (.iconst 0, 1) := by decide +kernel
theorem dX7_clear_12 : decode cX7_clear 12 = .ok (.putfield 39, 3) := by decide +kernel
theorem dX7_clear_15 : decode cX7_clear 15 = .ok (.aload_n 0, 1) := by decide +kernel
theorem dX7_clear_16 : decode cX7_clear 16 = .ok (.iconst 0, 1) := by decide +kernel
theorem dX7_clear_17 : decode cX7_clear 17 = .ok (.iconst 0, 1) := by decide +kernel
theorem dX7_clear_18 : decode cX7_clear 18 = .ok (.invokevirtual 42, 3) := by decide +kernel
theorem dX7_clear_21 : decode cX7_clear 21 = .ok (.return_, 1) := by decide +kernel
theorem dX7_copyFrom_0 : decode cX7_copyFrom 0 = .ok (.aload_n 0, 1) := by decide +kernel
theorem dX7_copyFrom_1 : decode cX7_copyFrom 1 = .ok (.aload_n 1, 1) := by decide +kernel
theorem dX7_copyFrom_2 : decode cX7_copyFrom 2 = .ok (.getfield 32, 3) := by decide +kernel
theorem dX7_copyFrom_5 : decode cX7_copyFrom 5 = .ok (.putfield 32, 3) := by decide +kernel
theorem dX7_copyFrom_8 : decode cX7_copyFrom 8 = .ok (.aload_n 0, 1) := by decide +kernel
theorem dX7_copyFrom_9 : decode cX7_copyFrom 9 = .ok (.aload_n 1, 1) := by decide +kernel
theorem dX7_copyFrom_10 : decode cX7_copyFrom 10 = .ok (.getfield 36, 3) := by decide +kernel
theorem dX7_copyFrom_13 : decode cX7_copyFrom 13 = .ok (.putfield 36, 3) := by decide +kernel
theorem dX7_copyFrom_16 : decode cX7_copyFrom 16 = .ok (.aload_n 0, 1) := by decide +kernel
theorem dX7_copyFrom_17 : decode cX7_copyFrom 17 = .ok (.aload_n 1, 1) := by decide +kernel
theorem dX7_copyFrom_18 : decode cX7_copyFrom 18 = .ok (.getfield 39, 3) := by decide +kernel
theorem dX7_copyFrom_21 : decode cX7_copyFrom 21 = .ok (.putfield 39, 3) := by decide +kernel
theorem dX7_copyFrom_24 : decode cX7_copyFrom 24 = .ok (.aload_n 0, 1) := by decide +kernel
theorem dX7_copyFrom_25 : decode cX7_copyFrom 25 = .ok (.aload_n 1, 1) := by decide +kernel
theorem dX7_copyFrom_26 : decode cX7_copyFrom 26 = .ok (.getfield 46, 3) := by decide +kernel
theorem dX7_copyFrom_29 : decode cX7_copyFrom 29 = .ok (.aload_n 1, 1) := by decide +kernel
theorem dX7_copyFrom_30 : decode cX7_copyFrom 30 = .ok (.getfield 49, 3) := by decide +kernel
theorem dX7_copyFrom_33 : decode cX7_copyFrom 33 = .ok (.invokevirtual 42, 3) := by decide +kernel
theorem dX7_copyFrom_36 : decode cX7_copyFrom 36 = .ok (.iconst 0, 1) := by decide +kernel
theorem dX7_copyFrom_37 : decode cX7_copyFrom 37 = .ok (.istore_n 2, 1) := by decide +kernel
theorem dX7_copyFrom_38 : decode cX7_copyFrom 38 = .ok (.iload_n 2, 1) := by decide +kernel
theorem dX7_copyFrom_39 : decode cX7_copyFrom 39 = .ok (.aload_n 0, 1) := by decide +kernel
theorem dX7_copyFrom_40 : decode cX7_copyFrom 40 = .ok (.getfield 32, 3) := by decide +kernel
theorem dX7_copyFrom_43 : decode cX7_copyFrom 43 = .ok (.if_icmp .ge 24, 3) := by decide +kernel
theorem dX7_copyFrom_46 : decode cX7_copyFrom 46 = .ok (.aload_n 0, 1) := by decide +kernel
theorem dX7_copyFrom_47 : decode cX7_copyFrom 47 = .ok (.getfield 11, 3) := by decide +kernel
theorem dX7_copyFrom_50 : decode cX7_copyFrom 50 = .ok (.iload_n 2, 1) := by decide +kernel
theorem dX7_copyFrom_51 : decode cX7_copyFrom 51 = .ok (.aaload, 1) := by decide +kernel
theorem dX7_copyFrom_52 : decode cX7_copyFrom 52 = .ok (.aload_n 1, 1) := by decide +kernel
theorem dX7_copyFrom_53 : decode cX7_copyFrom 53 = .ok (.getfield 11, 3) := by decide +kernel
theorem dX7_copyFrom_56 : decode cX7_copyFrom 56 = .ok (.iload_n 2, 1) := by decide +kernel
theorem dX7_copyFrom_57 : decode cX7_copyFrom 57 = .ok (.aaload, 1) := by decide +kernel
theorem dX7_copyFrom_58 : decode cX7_copyFrom 58 = .ok (.invokevirtual 52, 3) := by decide +kernel
theorem dX7_copyFrom_61 : decode cX7_copyFrom 61 = .ok (.iinc 2 1, 3) := by decide +kernel
theorem dX7_copyFrom_64 : decode cX7_copyFrom 64 = .ok (.goto (-26), 3) := by decide +kernel
theorem dX7_copyFrom_67 : decode cX7_copyFrom 67 = .ok (.iconst 0, 1) := by decide +kernel
theorem dX7_copyFrom_68 : decode cX7_copyFrom 68 = .ok (.istore_n 2, 1) := by decide +kernel
theorem dX7_copyFrom_69 : decode cX7_copyFrom 69 = .ok (.iload_n 2, 1) := by decide +kernel
theorem dX7_copyFrom_70 : decode cX7_copyFrom 70 = .ok (.aload_n 0, 1) := by decide +kernel
theorem dX7_copyFrom_71 : decode cX7_copyFrom 71 = .ok (.getfield 39, 3) := by decide +kernel
theorem dX7_copyFrom_74 : decode cX7_copyFrom 74 = .ok (.if_icmp .ge 24, 3) := by decide +kernel
theorem dX7_copyFrom_77 : decode cX7_copyFrom 77 = .ok (.aload_n 0, 1) := by decide +kernel
theorem dX7_copyFrom_78 : decode cX7_copyFrom 78 = .ok (.getfield 19, 3) := by decide +kernel
theorem dX7_copyFrom_81 : decode cX7_copyFrom 81 = .ok (.iload_n 2, 1) := by decide +kernel
theorem dX7_copyFrom_82 : decode cX7_copyFrom 82 = .ok (.aaload, 1) := by decide +kernel
theorem dX7_copyFrom_83 : decode cX7_copyFrom 83 = .ok (.aload_n 1, 1) := by decide +kernel
theorem dX7_copyFrom_84 : decode cX7_copyFrom 84 = .ok (.getfield 19, 3) := by decide +kernel
theorem dX7_copyFrom_87 : decode cX7_copyFrom 87 = .ok (.iload_n 2, 1) := by decide +kernel
theorem dX7_copyFrom_88 : decode cX7_copyFrom 88 = .ok (.aaload, 1) := by decide +kernel
theorem dX7_copyFrom_89 : decode cX7_copyFrom 89 = .ok (.invokevirtual 56, 3) := by decide +kernel
theorem dX7_copyFrom_92 : decode cX7_copyFrom 92 = .ok (.iinc 2 1, 3) := by decide +kernel
theorem dX7_copyFrom_95 : decode cX7_copyFrom 95 = .ok (.goto (-26), 3) := by decide +kernel
theorem dX7_copyFrom_98 : decode cX7_copyFrom 98 = .ok (.iconst 0, 1) := by decide +kernel
theorem dX7_copyFrom_99 : decode cX7_copyFrom 99 = .ok (.istore_n 2, 1) := by decide +kernel
theorem dX7_copyFrom_100 : decode cX7_copyFrom 100 = .ok (.iload_n 2, 1) := by decide +kernel
theorem dX7_copyFrom_101 : decode cX7_copyFrom 101 = .ok (.aload_n 0, 1) := by decide +kernel
theorem dX7_copyFrom_102 : decode cX7_copyFrom 102 = .ok (.getfield 36, 3) := by decide +kernel
theorem dX7_copyFrom_105 : decode cX7_copyFrom 105 = .ok (.if_icmp .ge 33, 3) := by decide +kernel
theorem dX7_copyFrom_108 : decode cX7_copyFrom 108 = .ok (.aload_n 0, 1) := by decide +kernel
theorem dX7_copyFrom_109 : decode cX7_copyFrom 109 = .ok (.getfield 23, 3) := by decide +kernel
theorem dX7_copyFrom_112 : decode cX7_copyFrom 112 = .ok (.iload_n 2, 1) := by decide +kernel
theorem dX7_copyFrom_113 : decode cX7_copyFrom 113 = .ok (.aload_n 1, 1) := by decide +kernel
theorem dX7_copyFrom_114 : decode cX7_copyFrom 114 = .ok (.getfield 23, 3) := by decide +kernel
theorem dX7_copyFrom_117 : decode cX7_copyFrom 117 = .ok (.iload_n 2, 1) := by decide +kernel
theorem dX7_copyFrom_118 : decode cX7_copyFrom 118 = .ok (.iaload, 1) := by decide +kernel
theorem dX7_copyFrom_119 : decode cX7_copyFrom 119 = .ok (.iastore, 1) := by decide +kernel
theorem dX7_copyFrom_120 : decode cX7_copyFrom 120 = .ok (.aload_n 0, 1) := by decide +kernel
theorem dX7_copyFrom_121 : decode cX7_copyFrom 121 = .ok (.getfield 27, 3) := by decide +kernel
theorem dX7_copyFrom_124 : decode cX7_copyFrom 124 = .ok (.iload_n 2, 1) := by decide +kernel
theorem dX7_copyFrom_125 : decode cX7_copyFrom 125 = .ok (.aload_n 1, 1) := by decide +kernel
theorem dX7_copyFrom_126 : decode cX7_copyFrom 126 = .ok (.getfield 27, 3) := by decide +kernel
theorem dX7_copyFrom_129 : decode cX7_copyFrom 129 = .ok (.iload_n 2, 1) := by decide +kernel
theorem dX7_copyFrom_130 : decode cX7_copyFrom 130 = .ok (.iaload, 1) := by decide +kernel
theorem dX7_copyFrom_131 : decode cX7_copyFrom 131 = .ok (.iastore, 1) := by decide +kernel
theorem dX7_copyFrom_132 : decode cX7_copyFrom 132 = .ok (.iinc 2 1, 3) := by decide +kernel
theorem dX7_copyFrom_135 : decode cX7_copyFrom 135 = .ok (.goto (-35), 3) := by decide +kernel
theorem dX7_copyFrom_138 : decode cX7_copyFrom 138 = .ok (.return_, 1) := by decide +kernel
theorem dX7_manAt_0 : decode cX7_manAt 0 = .ok (.iload_n 1, 1) := by decide +kernel
theorem dX7_manAt_1 : decode cX7_manAt 1 = .ok (.ifCond .lt 20, 3) := by decide +kernel
theorem dX7_manAt_4 : decode cX7_manAt 4 = .ok (.iload_n 1, 1) := by decide +kernel
theorem dX7_manAt_5 : decode cX7_manAt 5 = .ok (.aload_n 0, 1) := by decide +kernel
theorem dX7_manAt_6 : decode cX7_manAt 6 = .ok (.getfield 32, 3) := by decide +kernel
theorem dX7_manAt_9 : decode cX7_manAt 9 = .ok (.if_icmp .ge 12, 3) := by decide +kernel
theorem dX7_manAt_12 : decode cX7_manAt 12 = .ok (.aload_n 0, 1) := by decide +kernel
theorem dX7_manAt_13 : decode cX7_manAt 13 = .ok (.getfield 11, 3) := by decide +kernel
theorem dX7_manAt_16 : decode cX7_manAt 16 = .ok (.iload_n 1, 1) := by decide +kernel
theorem dX7_manAt_17 : decode cX7_manAt 17 = .ok (.aaload, 1) := by decide +kernel
theorem dX7_manAt_18 : decode cX7_manAt 18 = .ok (.goto 4, 3) := by decide +kernel
theorem dX7_manAt_21 : decode cX7_manAt 21 = .ok (.aconst_null, 1) := by decide +kernel
theorem dX7_manAt_22 : decode cX7_manAt 22 = .ok (.areturn, 1) := by decide +kernel
theorem dX7_readerAt_0 : decode cX7_readerAt 0 = .ok (.iload_n 1, 1) := by decide +kernel
theorem dX7_readerAt_1 : decode cX7_readerAt 1 = .ok (.ifCond .lt 20, 3) := by decide +kernel
theorem dX7_readerAt_4 : decode cX7_readerAt 4 = .ok (.iload_n 1, 1) := by decide +kernel
theorem dX7_readerAt_5 : decode cX7_readerAt 5 = .ok (.aload_n 0, 1) := by decide +kernel
theorem dX7_readerAt_6 : decode cX7_readerAt 6 = .ok (.getfield 39, 3) := by decide +kernel
theorem dX7_readerAt_9 : decode cX7_readerAt 9 = .ok (.if_icmp .ge 12, 3) := by decide +kernel
theorem dX7_readerAt_12 : decode cX7_readerAt 12 = .ok (.aload_n 0, 1) := by decide +kernel
theorem dX7_readerAt_13 : decode cX7_readerAt 13 = .ok (.getfield 19, 3) := by decide +kernel
theorem dX7_readerAt_16 : decode cX7_readerAt 16 = .ok (.iload_n 1, 1) := by decide +kernel
theorem dX7_readerAt_17 : decode cX7_readerAt 17 = .ok (.aaload, 1) := by decide +kernel
theorem dX7_readerAt_18 : decode cX7_readerAt 18 = .ok (.goto 4, 3) := by decide +kernel
theorem dX7_readerAt_21 : decode cX7_readerAt 21 = .ok (.aconst_null, 1) := by decide +kernel
theorem dX7_readerAt_22 : decode cX7_readerAt 22 = .ok (.areturn, 1) := by decide +kernel
theorem dX7_addMan_0 : decode cX7_addMan 0 = .ok (.aload_n 0, 1) := by decide +kernel
theorem dX7_addMan_1 : decode cX7_addMan 1 = .ok (.getfield 32, 3) := by decide +kernel
theorem dX7_addMan_4 : decode cX7_addMan 4 = .ok (.iconst 4, 1) := by decide +kernel
theorem dX7_addMan_5 : decode cX7_addMan 5 = .ok (.if_icmp .lt 5, 3) := by decide +kernel
theorem dX7_addMan_8 : decode cX7_addMan 8 = .ok (.aconst_null, 1) := by decide +kernel
theorem dX7_addMan_9 : decode cX7_addMan 9 = .ok (.areturn, 1) := by decide +kernel
theorem dX7_addMan_10 : decode cX7_addMan 10 = .ok (.aload_n 0, 1) := by decide +kernel
theorem dX7_addMan_11 : decode cX7_addMan 11 = .ok (.getfield 11, 3) := by decide +kernel
theorem dX7_addMan_14 : decode cX7_addMan 14 = .ok (.aload_n 0, 1) := by decide +kernel
theorem dX7_addMan_15 : decode cX7_addMan 15 = .ok (.getfield 32, 3) := by decide +kernel
theorem dX7_addMan_18 : decode cX7_addMan 18 = .ok (.aaload, 1) := by decide +kernel
theorem dX7_addMan_19 : decode cX7_addMan 19 = .ok (.astore_n 2, 1) := by decide +kernel
theorem dX7_addMan_20 : decode cX7_addMan 20 = .ok (.aload_n 2, 1) := by decide +kernel
theorem dX7_addMan_21 : decode cX7_addMan 21 = .ok (.iload_n 1, 1) := by decide +kernel
theorem dX7_addMan_22 : decode cX7_addMan 22 = .ok (.putfield 59, 3) := by decide +kernel
theorem dX7_addMan_25 : decode cX7_addMan 25 = .ok (.aload_n 2, 1) := by decide +kernel
theorem dX7_addMan_26 : decode cX7_addMan 26 = .ok (.iconst 0, 1) := by decide +kernel
theorem dX7_addMan_27 : decode cX7_addMan 27 = .ok (.putfield 62, 3) := by decide +kernel
theorem dX7_addMan_30 : decode cX7_addMan 30 = .ok (.aload_n 0, 1) := by decide +kernel
theorem dX7_addMan_31 : decode cX7_addMan 31 = .ok (.dup, 1) := by decide +kernel
theorem dX7_addMan_32 : decode cX7_addMan 32 = .ok (.getfield 32, 3) := by decide +kernel
theorem dX7_addMan_35 : decode cX7_addMan 35 = .ok (.iconst 1, 1) := by decide +kernel
theorem dX7_addMan_36 : decode cX7_addMan 36 = .ok (.iadd, 1) := by decide +kernel
theorem dX7_addMan_37 : decode cX7_addMan 37 = .ok (.putfield 32, 3) := by decide +kernel
theorem dX7_addMan_40 : decode cX7_addMan 40 = .ok (.aload_n 2, 1) := by decide +kernel
theorem dX7_addMan_41 : decode cX7_addMan 41 = .ok (.areturn, 1) := by decide +kernel
theorem dX7_addReader_0 : decode cX7_addReader 0 = .ok (.aload_n 0, 1) := by decide +kernel
theorem dX7_addReader_1 : decode cX7_addReader 1 = .ok (.getfield 39, 3) := by decide +kernel
theorem dX7_addReader_4 : decode cX7_addReader 4 = .ok (.iconst 4, 1) := by decide +kernel
theorem dX7_addReader_5 : decode cX7_addReader 5 = .ok (.if_icmp .lt 5, 3) := by decide +kernel
theorem dX7_addReader_8 : decode cX7_addReader 8 = .ok (.aconst_null, 1) := by decide +kernel
theorem dX7_addReader_9 : decode cX7_addReader 9 = .ok (.areturn, 1) := by decide +kernel
theorem dX7_addReader_10 : decode cX7_addReader 10 = .ok (.aload_n 0, 1) := by decide +kernel
theorem dX7_addReader_11 : decode cX7_addReader 11 = .ok (.dup, 1) := by decide +kernel
theorem dX7_addReader_12 : decode cX7_addReader 12 = .ok (.getfield 39, 3) := by decide +kernel
theorem dX7_addReader_15 : decode cX7_addReader 15 = .ok (.iconst 1, 1) := by decide +kernel
theorem dX7_addReader_16 : decode cX7_addReader 16 = .ok (.iadd, 1) := by decide +kernel
theorem dX7_addReader_17 : decode cX7_addReader 17 = .ok (.putfield 39, 3) := by decide +kernel
theorem dX7_addReader_20 : decode cX7_addReader 20 = .ok (.aload_n 0, 1) := by decide +kernel
theorem dX7_addReader_21 : decode cX7_addReader 21 = .ok (.getfield 19, 3) := by decide +kernel
theorem dX7_addReader_24 : decode cX7_addReader 24 = .ok (.aload_n 0, 1) := by decide +kernel
theorem dX7_addReader_25 : decode cX7_addReader 25 = .ok (.getfield 39, 3) := by decide +kernel
theorem dX7_addReader_28 : decode cX7_addReader 28 = .ok (.iconst 1, 1) := by decide +kernel
theorem dX7_addReader_29 : decode cX7_addReader 29 = .ok (.isub, 1) := by decide +kernel
theorem dX7_addReader_30 : decode cX7_addReader 30 = .ok (.aaload, 1) := by decide +kernel
theorem dX7_addReader_31 : decode cX7_addReader 31 = .ok (.areturn, 1) := by decide +kernel
theorem dX7_addStreet_0 : decode cX7_addStreet 0 = .ok (.aload_n 0, 1) := by decide +kernel
theorem dX7_addStreet_1 : decode cX7_addStreet 1 = .ok (.getfield 36, 3) := by decide +kernel
theorem dX7_addStreet_4 : decode cX7_addStreet 4 = .ok (.bipush 9, 2) := by decide +kernel
theorem dX7_addStreet_6 : decode cX7_addStreet 6 = .ok (.if_icmp .lt 5, 3) := by decide +kernel
theorem dX7_addStreet_9 : decode cX7_addStreet 9 = .ok (.iconst 0, 1) := by decide +kernel
theorem dX7_addStreet_10 : decode cX7_addStreet 10 = .ok (.ireturn, 1) := by decide +kernel
theorem dX7_addStreet_11 : decode cX7_addStreet 11 = .ok (.aload_n 0, 1) := by decide +kernel
theorem dX7_addStreet_12 : decode cX7_addStreet 12 = .ok (.getfield 23, 3) := by decide +kernel
theorem dX7_addStreet_15 : decode cX7_addStreet 15 = .ok (.aload_n 0, 1) := by decide +kernel
theorem dX7_addStreet_16 : decode cX7_addStreet 16 = .ok (.getfield 36, 3) := by decide +kernel
theorem dX7_addStreet_19 : decode cX7_addStreet 19 = .ok (.iload_n 1, 1) := by decide +kernel
theorem dX7_addStreet_20 : decode cX7_addStreet 20 = .ok (.iastore, 1) := by decide +kernel
theorem dX7_addStreet_21 : decode cX7_addStreet 21 = .ok (.aload_n 0, 1) := by decide +kernel
theorem dX7_addStreet_22 : decode cX7_addStreet 22 = .ok (.getfield 27, 3) := by decide +kernel
theorem dX7_addStreet_25 : decode cX7_addStreet 25 = .ok (.aload_n 0, 1) := by decide +kernel
theorem dX7_addStreet_26 : decode cX7_addStreet 26 = .ok (.getfield 36, 3) := by decide +kernel
theorem dX7_addStreet_29 : decode cX7_addStreet 29 = .ok (.iload_n 2, 1) := by decide +kernel
theorem dX7_addStreet_30 : decode cX7_addStreet 30 = .ok (.iastore, 1) := by decide +kernel
theorem dX7_addStreet_31 : decode cX7_addStreet 31 = .ok (.aload_n 0, 1) := by decide +kernel
theorem dX7_addStreet_32 : decode cX7_addStreet 32 = .ok (.dup, 1) := by decide +kernel
theorem dX7_addStreet_33 : decode cX7_addStreet 33 = .ok (.getfield 36, 3) := by decide +kernel
theorem dX7_addStreet_36 : decode cX7_addStreet 36 = .ok (.iconst 1, 1) := by decide +kernel
theorem dX7_addStreet_37 : decode cX7_addStreet 37 = .ok (.iadd, 1) := by decide +kernel
theorem dX7_addStreet_38 : decode cX7_addStreet 38 = .ok (.putfield 36, 3) := by decide +kernel
theorem dX7_addStreet_41 : decode cX7_addStreet 41 = .ok (.iconst 1, 1) := by decide +kernel
theorem dX7_addStreet_42 : decode cX7_addStreet 42 = .ok (.ireturn, 1) := by decide +kernel
theorem dX7_setRain_0 : decode cX7_setRain 0 = .ok (.aload_n 0, 1) := by decide +kernel
theorem dX7_setRain_1 : decode cX7_setRain 1 = .ok (.iload_n 1, 1) := by decide +kernel
theorem dX7_setRain_2 : decode cX7_setRain 2 = .ok (.putfield 46, 3) := by decide +kernel
theorem dX7_setRain_5 : decode cX7_setRain 5 = .ok (.aload_n 0, 1) := by decide +kernel
theorem dX7_setRain_6 : decode cX7_setRain 6 = .ok (.iload_n 2, 1) := by decide +kernel
theorem dX7_setRain_7 : decode cX7_setRain 7 = .ok (.putfield 49, 3) := by decide +kernel
theorem dX7_setRain_10 : decode cX7_setRain 10 = .ok (.return_, 1) := by decide +kernel
theorem dX7_hasStreet_0 : decode cX7_hasStreet 0 = .ok (.iconst 0, 1) := by decide +kernel
theorem dX7_hasStreet_1 : decode cX7_hasStreet 1 = .ok (.istore_n 3, 1) := by decide +kernel
theorem dX7_hasStreet_2 : decode cX7_hasStreet 2 = .ok (.iload_n 3, 1) := by decide +kernel
theorem dX7_hasStreet_3 : decode cX7_hasStreet 3 = .ok (.aload_n 0, 1) := by decide +kernel
theorem dX7_hasStreet_4 : decode cX7_hasStreet 4 = .ok (.getfield 36, 3) := by decide +kernel
theorem dX7_hasStreet_7 : decode cX7_hasStreet 7 = .ok (.if_icmp .ge 51, 3) := by decide +kernel
theorem dX7_hasStreet_10 : decode cX7_hasStreet 10 = .ok (.aload_n 0, 1) := by decide +kernel
theorem dX7_hasStreet_11 : decode cX7_hasStreet 11 = .ok (.getfield 23, 3) := by decide +kernel
theorem dX7_hasStreet_14 : decode cX7_hasStreet 14 = .ok (.iload_n 3, 1) := by decide +kernel
theorem dX7_hasStreet_15 : decode cX7_hasStreet 15 = .ok (.iaload, 1) := by decide +kernel
theorem dX7_hasStreet_16 : decode cX7_hasStreet 16 = .ok (.iload_n 1, 1) := by decide +kernel
theorem dX7_hasStreet_17 : decode cX7_hasStreet 17 = .ok (.if_icmp .ne 13, 3) := by decide +kernel
theorem dX7_hasStreet_20 : decode cX7_hasStreet 20 = .ok (.aload_n 0, 1) := by decide +kernel
theorem dX7_hasStreet_21 : decode cX7_hasStreet 21 = .ok (.getfield 27, 3) := by decide +kernel
theorem dX7_hasStreet_24 : decode cX7_hasStreet 24 = .ok (.iload_n 3, 1) := by decide +kernel
theorem dX7_hasStreet_25 : decode cX7_hasStreet 25 = .ok (.iaload, 1) := by decide +kernel
theorem dX7_hasStreet_26 : decode cX7_hasStreet 26 = .ok (.iload_n 2, 1) := by decide +kernel
theorem dX7_hasStreet_27 : decode cX7_hasStreet 27 = .ok (.if_icmp .eq 23, 3) := by decide +kernel
theorem dX7_hasStreet_30 : decode cX7_hasStreet 30 = .ok (.aload_n 0, 1) := by decide +kernel
theorem dX7_hasStreet_31 : decode cX7_hasStreet 31 = .ok (.getfield 23, 3) := by decide +kernel
theorem dX7_hasStreet_34 : decode cX7_hasStreet 34 = .ok (.iload_n 3, 1) := by decide +kernel
theorem dX7_hasStreet_35 : decode cX7_hasStreet 35 = .ok (.iaload, 1) := by decide +kernel
theorem dX7_hasStreet_36 : decode cX7_hasStreet 36 = .ok (.iload_n 2, 1) := by decide +kernel
theorem dX7_hasStreet_37 : decode cX7_hasStreet 37 = .ok (.if_icmp .ne 15, 3) := by decide +kernel
theorem dX7_hasStreet_40 : decode cX7_hasStreet 40 = .ok (.aload_n 0, 1) := by decide +kernel
theorem dX7_hasStreet_41 : decode cX7_hasStreet 41 = .ok (.getfield 27, 3) := by decide +kernel
theorem dX7_hasStreet_44 : decode cX7_hasStreet 44 = .ok (.iload_n 3, 1) := by decide +kernel
theorem dX7_hasStreet_45 : decode cX7_hasStreet 45 = .ok (.iaload, 1) := by decide +kernel
theorem dX7_hasStreet_46 : decode cX7_hasStreet 46 = .ok (.iload_n 1, 1) := by decide +kernel
theorem dX7_hasStreet_47 : decode cX7_hasStreet 47 = .ok (.if_icmp .ne 5, 3) := by decide +kernel
theorem dX7_hasStreet_50 : decode cX7_hasStreet 50 = .ok (.iconst 1, 1) := by decide +kernel
theorem dX7_hasStreet_51 : decode cX7_hasStreet 51 = .ok (.ireturn, 1) := by decide +kernel
theorem dX7_hasStreet_52 : decode cX7_hasStreet 52 = .ok (.iinc 3 1, 3) := by decide +kernel
theorem dX7_hasStreet_55 : decode cX7_hasStreet 55 = .ok (.goto (-53), 3) := by decide +kernel
theorem dX7_hasStreet_58 : decode cX7_hasStreet 58 = .ok (.iconst 0, 1) := by decide +kernel
theorem dX7_hasStreet_59 : decode cX7_hasStreet 59 = .ok (.ireturn, 1) := by decide +kernel
theorem dX7_canWalk_0 : decode cX7_canWalk 0 = .ok (.iconst 0, 1) := by decide +kernel
theorem dX7_canWalk_1 : decode cX7_canWalk 1 = .ok (.istore_n 2, 1) := by decide +kernel
theorem dX7_canWalk_2 : decode cX7_canWalk 2 = .ok (.aload_n 1, 1) := by decide +kernel
theorem dX7_canWalk_3 : decode cX7_canWalk 3 = .ok (.getfield 62, 3) := by decide +kernel
theorem dX7_canWalk_6 : decode cX7_canWalk 6 = .ok (.iconst 1, 1) := by decide +kernel
theorem dX7_canWalk_7 : decode cX7_canWalk 7 = .ok (.if_icmp .le 56, 3) := by decide +kernel
theorem dX7_canWalk_10 : decode cX7_canWalk 10 = .ok (.iload_n 2, 1) := by decide +kernel
theorem dX7_canWalk_11 : decode cX7_canWalk 11 = .ok (.aload_n 1, 1) := by decide +kernel
theorem dX7_canWalk_12 : decode cX7_canWalk 12 = .ok (.getfield 62, 3) := by decide +kernel
theorem dX7_canWalk_15 : decode cX7_canWalk 15 = .ok (.if_icmp .ge 48, 3) := by decide +kernel
theorem dX7_canWalk_18 : decode cX7_canWalk 18 = .ok (.iload_n 2, 1) := by decide +kernel
theorem dX7_canWalk_19 : decode cX7_canWalk 19 = .ok (.iconst 1, 1) := by decide +kernel
theorem dX7_canWalk_20 : decode cX7_canWalk 20 = .ok (.iadd, 1) := by decide +kernel
theorem dX7_canWalk_21 : decode cX7_canWalk 21 = .ok (.aload_n 1, 1) := by decide +kernel
theorem dX7_canWalk_22 : decode cX7_canWalk 22 = .ok (.getfield 62, 3) := by decide +kernel
theorem dX7_canWalk_25 : decode cX7_canWalk 25 = .ok (.if_icmp .ge 9, 3) := by decide +kernel
theorem dX7_canWalk_28 : decode cX7_canWalk 28 = .ok (.iload_n 2, 1) := by decide +kernel
theorem dX7_canWalk_29 : decode cX7_canWalk 29 = .ok (.iconst 1, 1) := by decide +kernel
theorem dX7_canWalk_30 : decode cX7_canWalk 30 = .ok (.iadd, 1) := by decide +kernel
theorem dX7_canWalk_31 : decode cX7_canWalk 31 = .ok (.goto 4, 3) := by decide +kernel
theorem dX7_canWalk_34 : decode cX7_canWalk 34 = .ok (.iconst 0, 1) := by decide +kernel
theorem dX7_canWalk_35 : decode cX7_canWalk 35 = .ok (.istore_n 3, 1) := by decide +kernel
theorem dX7_canWalk_36 : decode cX7_canWalk 36 = .ok (.aload_n 0, 1) := by decide +kernel
theorem dX7_canWalk_37 : decode cX7_canWalk 37 = .ok (.aload_n 1, 1) := by decide +kernel
theorem dX7_canWalk_38 : decode cX7_canWalk 38 = .ok (.getfield 65, 3) := by decide +kernel
theorem dX7_canWalk_41 : decode cX7_canWalk 41 = .ok (.iload_n 2, 1) := by decide +kernel
theorem dX7_canWalk_42 : decode cX7_canWalk 42 = .ok (.iaload, 1) := by decide +kernel
theorem dX7_canWalk_43 : decode cX7_canWalk 43 = .ok (.aload_n 1, 1) := by decide +kernel
theorem dX7_canWalk_44 : decode cX7_canWalk 44 = .ok (.getfield 65, 3) := by decide +kernel
theorem dX7_canWalk_47 : decode cX7_canWalk 47 = .ok (.iload_n 3, 1) := by decide +kernel
theorem dX7_canWalk_48 : decode cX7_canWalk 48 = .ok (.iaload, 1) := by decide +kernel
theorem dX7_canWalk_49 : decode cX7_canWalk 49 = .ok (.invokevirtual 68, 3) := by decide +kernel
theorem dX7_canWalk_52 : decode cX7_canWalk 52 = .ok (.ifCond .ne 5, 3) := by decide +kernel
theorem dX7_canWalk_55 : decode cX7_canWalk 55 = .ok (.iconst 0, 1) := by decide +kernel
theorem dX7_canWalk_56 : decode cX7_canWalk 56 = .ok (.ireturn, 1) := by decide +kernel
theorem dX7_canWalk_57 : decode cX7_canWalk 57 = .ok (.iinc 2 1, 3) := by decide +kernel
theorem dX7_canWalk_60 : decode cX7_canWalk 60 = .ok (.goto (-58), 3) := by decide +kernel
theorem dX7_canWalk_63 : decode cX7_canWalk 63 = .ok (.iconst 1, 1) := by decide +kernel
theorem dX7_canWalk_64 : decode cX7_canWalk 64 = .ok (.ireturn, 1) := by decide +kernel
theorem dX7_canAllWalk_0 : decode cX7_canAllWalk 0 = .ok (.iconst 0, 1) := by decide +kernel
theorem dX7_canAllWalk_1 : decode cX7_canAllWalk 1 = .ok (.istore_n 1, 1) := by decide +kernel
theorem dX7_canAllWalk_2 : decode cX7_canAllWalk 2 = .ok (.iload_n 1, 1) := by decide +kernel
theorem dX7_canAllWalk_3 : decode cX7_canAllWalk 3 = .ok (.aload_n 0, 1) := by decide +kernel
theorem dX7_canAllWalk_4 : decode cX7_canAllWalk 4 = .ok (.getfield 32, 3) := by decide +kernel
theorem dX7_canAllWalk_7 : decode cX7_canAllWalk 7 = .ok (.if_icmp .ge 24, 3) := by decide +kernel
theorem dX7_canAllWalk_10 : decode cX7_canAllWalk 10 = .ok (.aload_n 0, 1) := by decide +kernel
theorem dX7_canAllWalk_11 : decode cX7_canAllWalk 11 = .ok (.aload_n 0, 1) := by decide +kernel
theorem dX7_canAllWalk_12 : decode cX7_canAllWalk 12 = .ok (.getfield 11, 3) := by decide +kernel
theorem dX7_canAllWalk_15 : decode cX7_canAllWalk 15 = .ok (.iload_n 1, 1) := by decide +kernel
theorem dX7_canAllWalk_16 : decode cX7_canAllWalk 16 = .ok (.aaload, 1) := by decide +kernel
theorem dX7_canAllWalk_17 : decode cX7_canAllWalk 17 = .ok (.invokevirtual 72, 3) := by decide +kernel
theorem dX7_canAllWalk_20 : decode cX7_canAllWalk 20 = .ok (.ifCond .ne 5, 3) := by decide +kernel
theorem dX7_canAllWalk_23 : decode cX7_canAllWalk 23 = .ok (.iconst 0, 1) := by decide +kernel
theorem dX7_canAllWalk_24 : decode cX7_canAllWalk 24 = .ok (.ireturn, 1) := by decide +kernel
theorem dX7_canAllWalk_25 : decode cX7_canAllWalk 25 = .ok (.iinc 1 1, 3) := by decide +kernel
theorem dX7_canAllWalk_28 : decode cX7_canAllWalk 28 = .ok (.goto (-26), 3) := by decide +kernel
theorem dX7_canAllWalk_31 : decode cX7_canAllWalk 31 = .ok (.iconst 1, 1) := by decide +kernel
theorem dX7_canAllWalk_32 : decode cX7_canAllWalk 32 = .ok (.ireturn, 1) := by decide +kernel
theorem dX7_minutesOf_0 : decode cX7_minutesOf 0 = .ok (.lconst 1, 1) := by decide +kernel
theorem dX7_minutesOf_1 : decode cX7_minutesOf 1 = .ok (.aload_n 0, 1) := by decide +kernel
theorem dX7_minutesOf_2 : decode cX7_minutesOf 2 = .ok (.getfield 49, 3) := by decide +kernel
theorem dX7_minutesOf_5 : decode cX7_minutesOf 5 = .ok (.lshl, 1) := by decide +kernel
theorem dX7_minutesOf_6 : decode cX7_minutesOf 6 = .ok (.lconst 1, 1) := by decide +kernel
theorem dX7_minutesOf_7 : decode cX7_minutesOf 7 = .ok (.lsub, 1) := by decide +kernel
theorem dX7_minutesOf_8 : decode cX7_minutesOf 8 = .ok (.aload_n 0, 1) := by decide +kernel
theorem dX7_minutesOf_9 : decode cX7_minutesOf 9 = .ok (.getfield 46, 3) := by decide +kernel
theorem dX7_minutesOf_12 : decode cX7_minutesOf 12 = .ok (.lshl, 1) := by decide +kernel
theorem dX7_minutesOf_13 : decode cX7_minutesOf 13 = .ok (.lstore_n 2, 1) := by decide +kernel
theorem dX7_minutesOf_14 : decode cX7_minutesOf 14 = .ok (.aload_n 1, 1) := by decide +kernel
theorem dX7_minutesOf_15 : decode cX7_minutesOf 15 = .ok (.getfield 76, 3) := by decide +kernel
theorem dX7_minutesOf_18 : decode cX7_minutesOf 18 = .ok (.aload_n 1, 1) := by decide +kernel
theorem dX7_minutesOf_19 : decode cX7_minutesOf 19 = .ok (.getfield 79, 3) := by decide +kernel
theorem dX7_minutesOf_22 : decode cX7_minutesOf 22 = .ok (.invokestatic 82, 3) := by decide +kernel
theorem dX7_minutesOf_25 : decode cX7_minutesOf 25 = .ok (.lload_n 2, 1) := by decide +kernel
theorem dX7_minutesOf_26 : decode cX7_minutesOf 26 = .ok (.ldc2_w 86, 3) := by decide +kernel
theorem dX7_minutesOf_29 : decode cX7_minutesOf 29 = .ok (.lxor, 1) := by decide +kernel
theorem dX7_minutesOf_30 : decode cX7_minutesOf 30 = .ok (.land, 1) := by decide +kernel
theorem dX7_minutesOf_31 : decode cX7_minutesOf 31 = .ok (.lreturn, 1) := by decide +kernel
theorem dX7_menRead_0 : decode cX7_menRead 0 = .ok (.aload_n 0, 1) := by decide +kernel
theorem dX7_menRead_1 : decode cX7_menRead 1 = .ok (.aload_n 1, 1) := by decide +kernel
theorem dX7_menRead_2 : decode cX7_menRead 2 = .ok (.invokevirtual 88, 3) := by decide +kernel
theorem dX7_menRead_5 : decode cX7_menRead 5 = .ok (.iload_n 2, 1) := by decide +kernel
theorem dX7_menRead_6 : decode cX7_menRead 6 = .ok (.iload_n 2, 1) := by decide +kernel
theorem dX7_menRead_7 : decode cX7_menRead 7 = .ok (.invokestatic 82, 3) := by decide +kernel
theorem dX7_menRead_10 : decode cX7_menRead 10 = .ok (.land, 1) := by decide +kernel
theorem dX7_menRead_11 : decode cX7_menRead 11 = .ok (.lstore 4, 2) := by decide +kernel
theorem dX7_menRead_13 : decode cX7_menRead 13 = .ok (.iconst 0, 1) := by decide +kernel
theorem dX7_menRead_14 : decode cX7_menRead 14 = .ok (.istore 6, 2) := by decide +kernel
theorem dX7_menRead_16 : decode cX7_menRead 16 = .ok (.iconst 0, 1) := by decide +kernel
theorem dX7_menRead_17 : decode cX7_menRead 17 = .ok (.istore 7, 2) := by decide +kernel
theorem dX7_menRead_19 : decode cX7_menRead 19 = .ok (.iload 7, 2) := by decide +kernel
theorem dX7_menRead_21 : decode cX7_menRead 21 = .ok (.aload_n 0, 1) := by decide +kernel
theorem dX7_menRead_22 : decode cX7_menRead 22 = .ok (.getfield 32, 3) := by decide +kernel
theorem dX7_menRead_25 : decode cX7_menRead 25 = .ok (.if_icmp .ge 41, 3) := by decide +kernel
theorem dX7_menRead_28 : decode cX7_menRead 28 = .ok (.aload_n 0, 1) := by decide +kernel
theorem dX7_menRead_29 : decode cX7_menRead 29 = .ok (.getfield 11, 3) := by decide +kernel
theorem dX7_menRead_32 : decode cX7_menRead 32 = .ok (.iload 7, 2) := by decide +kernel
theorem dX7_menRead_34 : decode cX7_menRead 34 = .ok (.aaload, 1) := by decide +kernel
theorem dX7_menRead_35 : decode cX7_menRead 35 = .ok (.aload_n 1, 1) := by decide +kernel
theorem dX7_menRead_36 : decode cX7_menRead 36 = .ok (.getfield 92, 3) := by decide +kernel
theorem dX7_menRead_39 : decode cX7_menRead 39 = .ok (.iload_n 3, 1) := by decide +kernel
theorem dX7_menRead_40 : decode cX7_menRead 40 = .ok (.invokevirtual 95, 3) := by decide +kernel
theorem dX7_menRead_43 : decode cX7_menRead 43 = .ok (.lload 4, 2) := by decide +kernel
theorem dX7_menRead_45 : decode cX7_menRead 45 = .ok (.land, 1) := by decide +kernel
theorem dX7_menRead_46 : decode cX7_menRead 46 = .ok (.lconst 0, 1) := by decide +kernel
theorem dX7_menRead_47 : decode cX7_menRead 47 = .ok (.lcmp, 1) := by decide +kernel
theorem dX7_menRead_48 : decode cX7_menRead 48 = .ok (.ifCond .eq 12, 3) := by decide +kernel
theorem dX7_menRead_51 : decode cX7_menRead 51 = .ok (.iload 6, 2) := by decide +kernel
theorem dX7_menRead_53 : decode cX7_menRead 53 = .ok (.iconst 1, 1) := by decide +kernel
theorem dX7_menRead_54 : decode cX7_menRead 54 = .ok (.iload 7, 2) := by decide +kernel
theorem dX7_menRead_56 : decode cX7_menRead 56 = .ok (.ishl, 1) := by decide +kernel
theorem dX7_menRead_57 : decode cX7_menRead 57 = .ok (.ior, 1) := by decide +kernel
theorem dX7_menRead_58 : decode cX7_menRead 58 = .ok (.istore 6, 2) := by decide +kernel
theorem dX7_menRead_60 : decode cX7_menRead 60 = .ok (.iinc 7 1, 3) := by decide +kernel
theorem dX7_menRead_63 : decode cX7_menRead 63 = .ok (.goto (-44), 3) := by decide +kernel
theorem dX7_menRead_66 : decode cX7_menRead 66 = .ok (.iload 6, 2) := by decide +kernel
theorem dX7_menRead_68 : decode cX7_menRead 68 = .ok (.ireturn, 1) := by decide +kernel
theorem dX7_newsRead_0 : decode cX7_newsRead 0 = .ok (.aload_n 0, 1) := by decide +kernel
theorem dX7_newsRead_1 : decode cX7_newsRead 1 = .ok (.aload_n 1, 1) := by decide +kernel
theorem dX7_newsRead_2 : decode cX7_newsRead 2 = .ok (.invokevirtual 88, 3) := by decide +kernel
theorem dX7_newsRead_5 : decode cX7_newsRead 5 = .ok (.lload_n 3, 1) := by decide +kernel
theorem dX7_newsRead_6 : decode cX7_newsRead 6 = .ok (.land, 1) := by decide +kernel
theorem dX7_newsRead_7 : decode cX7_newsRead 7 = .ok (.lstore 6, 2) := by decide +kernel
theorem dX7_newsRead_9 : decode cX7_newsRead 9 = .ok (.iconst 0, 1) := by decide +kernel
theorem dX7_newsRead_10 : decode cX7_newsRead 10 = .ok (.istore 8, 2) := by decide +kernel
theorem dX7_newsRead_12 : decode cX7_newsRead 12 = .ok (.iconst 0, 1) := by decide +kernel
theorem dX7_newsRead_13 : decode cX7_newsRead 13 = .ok (.istore 9, 2) := by decide +kernel
theorem dX7_newsRead_15 : decode cX7_newsRead 15 = .ok (.iload 9, 2) := by decide +kernel
theorem dX7_newsRead_17 : decode cX7_newsRead 17 = .ok (.aload_n 0, 1) := by decide +kernel
theorem dX7_newsRead_18 : decode cX7_newsRead 18 = .ok (.getfield 32, 3) := by decide +kernel
theorem dX7_newsRead_21 : decode cX7_newsRead 21 = .ok (.if_icmp .ge 72, 3) := by decide +kernel
theorem dX7_newsRead_24 : decode cX7_newsRead 24 = .ok (.iload 5, 2) := by decide +kernel
theorem dX7_newsRead_26 : decode cX7_newsRead 26 = .ok (.iload 9, 2) := by decide +kernel
theorem dX7_newsRead_28 : decode cX7_newsRead 28 = .ok (.ishr, 1) := by decide +kernel
theorem dX7_newsRead_29 : decode cX7_newsRead 29 = .ok (.iconst 1, 1) := by decide +kernel
theorem dX7_newsRead_30 : decode cX7_newsRead 30 = .ok (.iand, 1) := by decide +kernel
theorem dX7_newsRead_31 : decode cX7_newsRead 31 = .ok (.iconst 1, 1) := by decide +kernel
theorem dX7_newsRead_32 : decode cX7_newsRead 32 = .ok (.if_icmp .ne 7, 3) := by decide +kernel
theorem dX7_newsRead_35 : decode cX7_newsRead 35 = .ok (.iconst 1, 1) := by decide +kernel
theorem dX7_newsRead_36 : decode cX7_newsRead 36 = .ok (.goto 4, 3) := by decide +kernel
theorem dX7_newsRead_39 : decode cX7_newsRead 39 = .ok (.iconst 0, 1) := by decide +kernel
theorem dX7_newsRead_40 : decode cX7_newsRead 40 = .ok (.istore 10, 2) := by decide +kernel
theorem dX7_newsRead_42 : decode cX7_newsRead 42 = .ok (.iload 10, 2) := by decide +kernel
theorem dX7_newsRead_44 : decode cX7_newsRead 44 = .ok (.ifCond .eq 43, 3) := by decide +kernel
theorem dX7_newsRead_47 : decode cX7_newsRead 47 = .ok (.aload_n 0, 1) := by decide +kernel
theorem dX7_newsRead_48 : decode cX7_newsRead 48 = .ok (.getfield 11, 3) := by decide +kernel
theorem dX7_newsRead_51 : decode cX7_newsRead 51 = .ok (.iload 9, 2) := by decide +kernel
theorem dX7_newsRead_53 : decode cX7_newsRead 53 = .ok (.aaload, 1) := by decide +kernel
theorem dX7_newsRead_54 : decode cX7_newsRead 54 = .ok (.aload_n 1, 1) := by decide +kernel
theorem dX7_newsRead_55 : decode cX7_newsRead 55 = .ok (.getfield 92, 3) := by decide +kernel
theorem dX7_newsRead_58 : decode cX7_newsRead 58 = .ok (.iload_n 2, 1) := by decide +kernel
theorem dX7_newsRead_59 : decode cX7_newsRead 59 = .ok (.invokevirtual 95, 3) := by decide +kernel
theorem dX7_newsRead_62 : decode cX7_newsRead 62 = .ok (.lload 6, 2) := by decide +kernel
theorem dX7_newsRead_64 : decode cX7_newsRead 64 = .ok (.land, 1) := by decide +kernel
theorem dX7_newsRead_65 : decode cX7_newsRead 65 = .ok (.lconst 0, 1) := by decide +kernel
theorem dX7_newsRead_66 : decode cX7_newsRead 66 = .ok (.lcmp, 1) := by decide +kernel
theorem dX7_newsRead_67 : decode cX7_newsRead 67 = .ok (.ifCond .eq 20, 3) := by decide +kernel
theorem dX7_newsRead_70 : decode cX7_newsRead 70 = .ok (.iload 8, 2) := by decide +kernel
theorem dX7_newsRead_72 : decode cX7_newsRead 72 = .ok (.iconst 1, 1) := by decide +kernel
theorem dX7_newsRead_73 : decode cX7_newsRead 73 = .ok (.aload_n 0, 1) := by decide +kernel
theorem dX7_newsRead_74 : decode cX7_newsRead 74 = .ok (.getfield 11, 3) := by decide +kernel
theorem dX7_newsRead_77 : decode cX7_newsRead 77 = .ok (.iload 9, 2) := by decide +kernel
theorem dX7_newsRead_79 : decode cX7_newsRead 79 = .ok (.aaload, 1) := by decide +kernel
theorem dX7_newsRead_80 : decode cX7_newsRead 80 = .ok (.getfield 98, 3) := by decide +kernel
theorem dX7_newsRead_83 : decode cX7_newsRead 83 = .ok (.ishl, 1) := by decide +kernel
theorem dX7_newsRead_84 : decode cX7_newsRead 84 = .ok (.ior, 1) := by decide +kernel
theorem dX7_newsRead_85 : decode cX7_newsRead 85 = .ok (.istore 8, 2) := by decide +kernel
theorem dX7_newsRead_87 : decode cX7_newsRead 87 = .ok (.iinc 9 1, 3) := by decide +kernel
theorem dX7_newsRead_90 : decode cX7_newsRead 90 = .ok (.goto (-75), 3) := by decide +kernel
theorem dX7_newsRead_93 : decode cX7_newsRead 93 = .ok (.iload 8, 2) := by decide +kernel
theorem dX7_newsRead_95 : decode cX7_newsRead 95 = .ok (.ireturn, 1) := by decide +kernel
theorem dX7_wholeNews_0 : decode cX7_wholeNews 0 = .ok (.aload_n 0, 1) := by decide +kernel
theorem dX7_wholeNews_1 : decode cX7_wholeNews 1 = .ok (.aload_n 1, 1) := by decide +kernel
theorem dX7_wholeNews_2 : decode cX7_wholeNews 2 = .ok (.iconst 0, 1) := by decide +kernel
theorem dX7_wholeNews_3 : decode cX7_wholeNews 3 = .ok (.lload_n 2, 1) := by decide +kernel
theorem dX7_wholeNews_4 : decode cX7_wholeNews 4 = .ok (.iload 4, 2) := by decide +kernel
theorem dX7_wholeNews_6 : decode cX7_wholeNews 6 = .ok (.invokevirtual 101, 3) := by decide +kernel
theorem dX7_wholeNews_9 : decode cX7_wholeNews 9 = .ok (.aload_n 0, 1) := by decide +kernel
theorem dX7_wholeNews_10 : decode cX7_wholeNews 10 = .ok (.aload_n 1, 1) := by decide +kernel
theorem dX7_wholeNews_11 : decode cX7_wholeNews 11 = .ok (.iconst 1, 1) := by decide +kernel
theorem dX7_wholeNews_12 : decode cX7_wholeNews 12 = .ok (.lload_n 2, 1) := by decide +kernel
theorem dX7_wholeNews_13 : decode cX7_wholeNews 13 = .ok (.iload 4, 2) := by decide +kernel
theorem dX7_wholeNews_15 : decode cX7_wholeNews 15 = .ok (.invokevirtual 101, 3) := by decide +kernel
theorem dX7_wholeNews_18 : decode cX7_wholeNews 18 = .ok (.iand, 1) := by decide +kernel
theorem dX7_wholeNews_19 : decode cX7_wholeNews 19 = .ok (.ireturn, 1) := by decide +kernel
theorem dX7_pairs_0 : decode cX7_pairs 0 = .ok (.iconst 0, 1) := by decide +kernel
theorem dX7_pairs_1 : decode cX7_pairs 1 = .ok (.istore_n 2, 1) := by decide +kernel
theorem dX7_pairs_2 : decode cX7_pairs 2 = .ok (.iconst 0, 1) := by decide +kernel
theorem dX7_pairs_3 : decode cX7_pairs 3 = .ok (.istore_n 3, 1) := by decide +kernel
theorem dX7_pairs_4 : decode cX7_pairs 4 = .ok (.iload_n 3, 1) := by decide +kernel
theorem dX7_pairs_5 : decode cX7_pairs 5 = .ok (.aload_n 0, 1) := by decide +kernel
theorem dX7_pairs_6 : decode cX7_pairs 6 = .ok (.getfield 39, 3) := by decide +kernel
theorem dX7_pairs_9 : decode cX7_pairs 9 = .ok (.if_icmp .ge 29, 3) := by decide +kernel
theorem dX7_pairs_12 : decode cX7_pairs 12 = .ok (.iload_n 2, 1) := by decide +kernel
theorem dX7_pairs_13 : decode cX7_pairs 13 = .ok (.aload_n 0, 1) := by decide +kernel
theorem dX7_pairs_14 : decode cX7_pairs 14 = .ok (.aload_n 0, 1) := by decide +kernel
theorem dX7_pairs_15 : decode cX7_pairs 15 = .ok (.getfield 19, 3) := by decide +kernel
theorem dX7_pairs_18 : decode cX7_pairs 18 = .ok (.iload_n 3, 1) := by decide +kernel
theorem dX7_pairs_19 : decode cX7_pairs 19 = .ok (.aaload, 1) := by decide +kernel
theorem dX7_pairs_20 : decode cX7_pairs 20 = .ok (.ldc2_w 105, 3) := by decide +kernel
theorem dX7_pairs_23 : decode cX7_pairs 23 = .ok (.iload_n 1, 1) := by decide +kernel
theorem dX7_pairs_24 : decode cX7_pairs 24 = .ok (.invokevirtual 107, 3) := by decide +kernel
theorem dX7_pairs_27 : decode cX7_pairs 27 = .ok (.invokestatic 111, 3) := by decide +kernel
theorem dX7_pairs_30 : decode cX7_pairs 30 = .ok (.iadd, 1) := by decide +kernel
theorem dX7_pairs_31 : decode cX7_pairs 31 = .ok (.istore_n 2, 1) := by decide +kernel
theorem dX7_pairs_32 : decode cX7_pairs 32 = .ok (.iinc 3 1, 3) := by decide +kernel
theorem dX7_pairs_35 : decode cX7_pairs 35 = .ok (.goto (-31), 3) := by decide +kernel
theorem dX7_pairs_38 : decode cX7_pairs 38 = .ok (.iload_n 2, 1) := by decide +kernel
theorem dX7_pairs_39 : decode cX7_pairs 39 = .ok (.ireturn, 1) := by decide +kernel
theorem dX7_minutesRead_0 : decode cX7_minutesRead 0 = .ok (.lconst 0, 1) := by decide +kernel
theorem dX7_minutesRead_1 : decode cX7_minutesRead 1 = .ok (.lstore 4, 2) := by decide +kernel
theorem dX7_minutesRead_3 : decode cX7_minutesRead 3 = .ok (.iconst 0, 1) := by decide +kernel
theorem dX7_minutesRead_4 : decode cX7_minutesRead 4 = .ok (.istore 6, 2) := by decide +kernel
theorem dX7_minutesRead_6 : decode cX7_minutesRead 6 = .ok (.iload 6, 2) := by decide +kernel
theorem dX7_minutesRead_8 : decode cX7_minutesRead 8 = .ok (.aload_n 0, 1) := by decide +kernel
theorem dX7_minutesRead_9 : decode cX7_minutesRead 9 = .ok (.getfield 32, 3) := by decide +kernel
theorem dX7_minutesRead_12 : decode cX7_minutesRead 12 = .ok (.if_icmp .ge 43, 3) := by decide +kernel
theorem dX7_minutesRead_15 : decode cX7_minutesRead 15 = .ok (.aload_n 0, 1) := by decide +kernel
theorem dX7_minutesRead_16 : decode cX7_minutesRead 16 = .ok (.getfield 11, 3) := by decide +kernel
theorem dX7_minutesRead_19 : decode cX7_minutesRead 19 = .ok (.iload 6, 2) := by decide +kernel
theorem dX7_minutesRead_21 : decode cX7_minutesRead 21 = .ok (.aaload, 1) := by decide +kernel
theorem dX7_minutesRead_22 : decode cX7_minutesRead 22 = .ok (.getfield 98, 3) := by decide +kernel
theorem dX7_minutesRead_25 : decode cX7_minutesRead 25 = .ok (.iload_n 3, 1) := by decide +kernel
theorem dX7_minutesRead_26 : decode cX7_minutesRead 26 = .ok (.if_icmp .ne 23, 3) := by decide +kernel
theorem dX7_minutesRead_29 : decode cX7_minutesRead 29 = .ok (.lload 4, 2) := by decide +kernel
theorem dX7_minutesRead_31 : decode cX7_minutesRead 31 = .ok (.aload_n 0, 1) := by decide +kernel
theorem dX7_minutesRead_32 : decode cX7_minutesRead 32 = .ok (.getfield 11, 3) := by decide +kernel
theorem dX7_minutesRead_35 : decode cX7_minutesRead 35 = .ok (.iload 6, 2) := by decide +kernel
theorem dX7_minutesRead_37 : decode cX7_minutesRead 37 = .ok (.aaload, 1) := by decide +kernel
theorem dX7_minutesRead_38 : decode cX7_minutesRead 38 = .ok (.aload_n 1, 1) := by decide +kernel
theorem dX7_minutesRead_39 : decode cX7_minutesRead 39 = .ok (.getfield 92, 3) := by decide +kernel
theorem dX7_minutesRead_42 : decode cX7_minutesRead 42 = .ok (.iload_n 2, 1) := by decide +kernel
theorem dX7_minutesRead_43 : decode cX7_minutesRead 43 = .ok (.invokevirtual 95, 3) := by decide +kernel
theorem dX7_minutesRead_46 : decode cX7_minutesRead 46 = .ok (.lor, 1) := by decide +kernel
theorem dX7_minutesRead_47 : decode cX7_minutesRead 47 = .ok (.lstore 4, 2) := by decide +kernel
theorem dX7_minutesRead_49 : decode cX7_minutesRead 49 = .ok (.iinc 6 1, 3) := by decide +kernel
theorem dX7_minutesRead_52 : decode cX7_minutesRead 52 = .ok (.goto (-46), 3) := by decide +kernel
theorem dX7_minutesRead_55 : decode cX7_minutesRead 55 = .ok (.lload 4, 2) := by decide +kernel
theorem dX7_minutesRead_57 : decode cX7_minutesRead 57 = .ok (.aload_n 0, 1) := by decide +kernel
theorem dX7_minutesRead_58 : decode cX7_minutesRead 58 = .ok (.aload_n 1, 1) := by decide +kernel
theorem dX7_minutesRead_59 : decode cX7_minutesRead 59 = .ok (.invokevirtual 88, 3) := by decide +kernel
theorem dX7_minutesRead_62 : decode cX7_minutesRead 62 = .ok (.land, 1) := by decide +kernel
theorem dX7_minutesRead_63 : decode cX7_minutesRead 63 = .ok (.lreturn, 1) := by decide +kernel
theorem dX7_firstWhole_0 : decode cX7_firstWhole 0 = .ok (.aload_n 0, 1) := by decide +kernel
theorem dX7_firstWhole_1 : decode cX7_firstWhole 1 = .ok (.aload_n 1, 1) := by decide +kernel
theorem dX7_firstWhole_2 : decode cX7_firstWhole 2 = .ok (.iconst 0, 1) := by decide +kernel
theorem dX7_firstWhole_3 : decode cX7_firstWhole 3 = .ok (.iload_n 2, 1) := by decide +kernel
theorem dX7_firstWhole_4 : decode cX7_firstWhole 4 = .ok (.invokevirtual 117, 3) := by decide +kernel
theorem dX7_firstWhole_7 : decode cX7_firstWhole 7 = .ok (.invokestatic 121, 3) := by decide +kernel
theorem dX7_firstWhole_10 : decode cX7_firstWhole 10 = .ok (.istore_n 3, 1) := by decide +kernel
theorem dX7_firstWhole_11 : decode cX7_firstWhole 11 = .ok (.aload_n 0, 1) := by decide +kernel
theorem dX7_firstWhole_12 : decode cX7_firstWhole 12 = .ok (.aload_n 1, 1) := by decide +kernel
theorem dX7_firstWhole_13 : decode cX7_firstWhole 13 = .ok (.iconst 1, 1) := by decide +kernel
theorem dX7_firstWhole_14 : decode cX7_firstWhole 14 = .ok (.iload_n 2, 1) := by decide +kernel
theorem dX7_firstWhole_15 : decode cX7_firstWhole 15 = .ok (.invokevirtual 117, 3) := by decide +kernel
theorem dX7_firstWhole_18 : decode cX7_firstWhole 18 = .ok (.invokestatic 121, 3) := by decide +kernel
theorem dX7_firstWhole_21 : decode cX7_firstWhole 21 = .ok (.istore 4, 2) := by decide +kernel
theorem dX7_firstWhole_23 : decode cX7_firstWhole 23 = .ok (.iload_n 3, 1) := by decide +kernel
theorem dX7_firstWhole_24 : decode cX7_firstWhole 24 = .ok (.bipush (-4), 2) := by decide +kernel
theorem dX7_firstWhole_26 : decode cX7_firstWhole 26 = .ok (.if_icmp .eq 10, 3) := by decide +kernel
theorem dX7_firstWhole_29 : decode cX7_firstWhole 29 = .ok (.iload 4, 2) := by decide +kernel
theorem dX7_firstWhole_31 : decode cX7_firstWhole 31 = .ok (.bipush (-4), 2) := by decide +kernel
theorem dX7_firstWhole_33 : decode cX7_firstWhole 33 = .ok (.if_icmp .ne 8, 3) := by decide +kernel
theorem dX7_firstWhole_36 : decode cX7_firstWhole 36 = .ok (.bipush (-4), 2) := by decide +kernel
theorem dX7_firstWhole_38 : decode cX7_firstWhole 38 = .ok (.goto 9, 3) := by decide +kernel
theorem dX7_firstWhole_41 : decode cX7_firstWhole 41 = .ok (.iload_n 3, 1) := by decide +kernel
theorem dX7_firstWhole_42 : decode cX7_firstWhole 42 = .ok (.iload 4, 2) := by decide +kernel
theorem dX7_firstWhole_44 : decode cX7_firstWhole 44 = .ok (.invokestatic 125, 3) := by decide +kernel
theorem dX7_firstWhole_47 : decode cX7_firstWhole 47 = .ok (.ireturn, 1) := by decide +kernel
theorem dX7_changePlanks_0 : decode cX7_changePlanks 0 = .ok (.aload_n 0, 1) := by decide +kernel
theorem dX7_changePlanks_1 : decode cX7_changePlanks 1 = .ok (.iload_n 1, 1) := by decide +kernel
theorem dX7_changePlanks_2 : decode cX7_changePlanks 2 = .ok (.invokevirtual 131, 3) := by decide +kernel
theorem dX7_changePlanks_5 : decode cX7_changePlanks 5 = .ok (.astore_n 3, 1) := by decide +kernel
theorem dX7_changePlanks_6 : decode cX7_changePlanks 6 = .ok (.aload_n 0, 1) := by decide +kernel
theorem dX7_changePlanks_7 : decode cX7_changePlanks 7 = .ok (.iload_n 2, 1) := by decide +kernel
theorem dX7_changePlanks_8 : decode cX7_changePlanks 8 = .ok (.invokevirtual 131, 3) := by decide +kernel
theorem dX7_changePlanks_11 : decode cX7_changePlanks 11 = .ok (.astore 4, 2) := by decide +kernel
theorem dX7_changePlanks_13 : decode cX7_changePlanks 13 = .ok (.aload_n 3, 1) := by decide +kernel
theorem dX7_changePlanks_14 : decode cX7_changePlanks 14 = .ok (.ifnull 30, 3) := by decide +kernel
theorem dX7_changePlanks_17 : decode cX7_changePlanks 17 = .ok (.aload 4, 2) := by decide +kernel
theorem dX7_changePlanks_19 : decode cX7_changePlanks 19 = .ok (.ifnull 25, 3) := by decide +kernel
theorem dX7_changePlanks_22 : decode cX7_changePlanks 22 = .ok (.aload_n 3, 1) := by decide +kernel
theorem dX7_changePlanks_23 : decode cX7_changePlanks 23 = .ok (.getfield 98, 3) := by decide +kernel
theorem dX7_changePlanks_26 : decode cX7_changePlanks 26 = .ok (.istore 5, 2) := by decide +kernel
theorem dX7_changePlanks_28 : decode cX7_changePlanks 28 = .ok (.aload_n 3, 1) := by decide +kernel
theorem dX7_changePlanks_29 : decode cX7_changePlanks 29 = .ok (.aload 4, 2) := by decide +kernel
theorem dX7_changePlanks_31 : decode cX7_changePlanks 31 = .ok (.getfield 98, 3) := by decide +kernel
theorem dX7_changePlanks_34 : decode cX7_changePlanks 34 = .ok (.putfield 98, 3) := by decide +kernel
theorem dX7_changePlanks_37 : decode cX7_changePlanks 37 = .ok (.aload 4, 2) := by decide +kernel
theorem dX7_changePlanks_39 : decode cX7_changePlanks 39 = .ok (.iload 5, 2) := by decide +kernel
theorem dX7_changePlanks_41 : decode cX7_changePlanks 41 = .ok (.putfield 98, 3) := by decide +kernel
theorem dX7_changePlanks_44 : decode cX7_changePlanks 44 = .ok (.return_, 1) := by decide +kernel
theorem dX7_weight_0 : decode cX7_weight 0 = .ok (.lconst 1, 1) := by decide +kernel
theorem dX7_weight_1 : decode cX7_weight 1 = .ok (.lstore_n 3, 1) := by decide +kernel
theorem dX7_weight_2 : decode cX7_weight 2 = .ok (.iconst 0, 1) := by decide +kernel
theorem dX7_weight_3 : decode cX7_weight 3 = .ok (.istore 5, 2) := by decide +kernel
theorem dX7_weight_5 : decode cX7_weight 5 = .ok (.iload 5, 2) := by decide +kernel
theorem dX7_weight_7 : decode cX7_weight 7 = .ok (.aload_n 0, 1) := by decide +kernel
theorem dX7_weight_8 : decode cX7_weight 8 = .ok (.getfield 32, 3) := by decide +kernel
theorem dX7_weight_11 : decode cX7_weight 11 = .ok (.if_icmp .ge 32, 3) := by decide +kernel
theorem dX7_weight_14 : decode cX7_weight 14 = .ok (.lload_n 3, 1) := by decide +kernel
theorem dX7_weight_15 : decode cX7_weight 15 = .ok (.iload_n 2, 1) := by decide +kernel
theorem dX7_weight_16 : decode cX7_weight 16 = .ok (.iload 5, 2) := by decide +kernel
theorem dX7_weight_18 : decode cX7_weight 18 = .ok (.ishr, 1) := by decide +kernel
theorem dX7_weight_19 : decode cX7_weight 19 = .ok (.iconst 1, 1) := by decide +kernel
theorem dX7_weight_20 : decode cX7_weight 20 = .ok (.iand, 1) := by decide +kernel
theorem dX7_weight_21 : decode cX7_weight 21 = .ok (.iconst 1, 1) := by decide +kernel
theorem dX7_weight_22 : decode cX7_weight 22 = .ok (.if_icmp .ne 11, 3) := by decide +kernel
theorem dX7_weight_25 : decode cX7_weight 25 = .ok (.bipush 10, 2) := by decide +kernel
theorem dX7_weight_27 : decode cX7_weight 27 = .ok (.iload_n 1, 1) := by decide +kernel
theorem dX7_weight_28 : decode cX7_weight 28 = .ok (.isub, 1) := by decide +kernel
theorem dX7_weight_29 : decode cX7_weight 29 = .ok (.i2l, 1) := by decide +kernel
theorem dX7_weight_30 : decode cX7_weight 30 = .ok (.goto 5, 3) := by decide +kernel
theorem dX7_weight_33 : decode cX7_weight 33 = .ok (.iload_n 1, 1) := by decide +kernel
theorem dX7_weight_34 : decode cX7_weight 34 = .ok (.i2l, 1) := by decide +kernel
theorem dX7_weight_35 : decode cX7_weight 35 = .ok (.lmul, 1) := by decide +kernel
theorem dX7_weight_36 : decode cX7_weight 36 = .ok (.lstore_n 3, 1) := by decide +kernel
theorem dX7_weight_37 : decode cX7_weight 37 = .ok (.iinc 5 1, 3) := by decide +kernel
theorem dX7_weight_40 : decode cX7_weight 40 = .ok (.goto (-35), 3) := by decide +kernel
theorem dX7_weight_43 : decode cX7_weight 43 = .ok (.lload_n 3, 1) := by decide +kernel
theorem dX7_weight_44 : decode cX7_weight 44 = .ok (.lreturn, 1) := by decide +kernel
theorem dX7_weightOfAll_0 : decode cX7_weightOfAll 0 = .ok (.lconst 1, 1) := by decide +kernel
theorem dX7_weightOfAll_1 : decode cX7_weightOfAll 1 = .ok (.lstore_n 1, 1) := by decide +kernel
theorem dX7_weightOfAll_2 : decode cX7_weightOfAll 2 = .ok (.iconst 0, 1) := by decide +kernel
theorem dX7_weightOfAll_3 : decode cX7_weightOfAll 3 = .ok (.istore_n 3, 1) := by decide +kernel
theorem dX7_weightOfAll_4 : decode cX7_weightOfAll 4 = .ok (.iload_n 3, 1) := by decide +kernel
theorem dX7_weightOfAll_5 : decode cX7_weightOfAll 5 = .ok (.aload_n 0, 1) := by decide +kernel
theorem dX7_weightOfAll_6 : decode cX7_weightOfAll 6 = .ok (.getfield 32, 3) := by decide +kernel
theorem dX7_weightOfAll_9 : decode cX7_weightOfAll 9 = .ok (.if_icmp .ge 15, 3) := by decide +kernel
theorem dX7_weightOfAll_12 : decode cX7_weightOfAll 12 = .ok (.lload_n 1, 1) := by decide +kernel
theorem dX7_weightOfAll_13 : decode cX7_weightOfAll 13 = .ok (.ldc2_w 135, 3) := by decide +kernel
theorem dX7_weightOfAll_16 : decode cX7_weightOfAll 16 = .ok (.lmul, 1) := by decide +kernel
theorem dX7_weightOfAll_17 : decode cX7_weightOfAll 17 = .ok (.lstore_n 1, 1) := by decide +kernel
theorem dX7_weightOfAll_18 : decode cX7_weightOfAll 18 = .ok (.iinc 3 1, 3) := by decide +kernel
theorem dX7_weightOfAll_21 : decode cX7_weightOfAll 21 = .ok (.goto (-17), 3) := by decide +kernel
theorem dX7_weightOfAll_24 : decode cX7_weightOfAll 24 = .ok (.lload_n 1, 1) := by decide +kernel
theorem dX7_weightOfAll_25 : decode cX7_weightOfAll 25 = .ok (.lreturn, 1) := by decide +kernel
theorem dX7_driftBy_0 : decode cX7_driftBy 0 = .ok (.aload_n 0, 1) := by decide +kernel
theorem dX7_driftBy_1 : decode cX7_driftBy 1 = .ok (.getfield 32, 3) := by decide +kernel
theorem dX7_driftBy_4 : decode cX7_driftBy 4 = .ok (.iconst 1, 1) := by decide +kernel
theorem dX7_driftBy_5 : decode cX7_driftBy 5 = .ok (.if_icmp .ge 7, 3) := by decide +kernel
theorem dX7_driftBy_8 : decode cX7_driftBy 8 = .ok (.aconst_null, 1) := by decide +kernel
theorem dX7_driftBy_9 : decode cX7_driftBy 9 = .ok (.goto 13, 3) := by decide +kernel
theorem dX7_driftBy_12 : decode cX7_driftBy 12 = .ok (.aload_n 0, 1) := by decide +kernel
theorem dX7_driftBy_13 : decode cX7_driftBy 13 = .ok (.iload_n 1, 1) := by decide +kernel
theorem dX7_driftBy_14 : decode cX7_driftBy 14 = .ok (.aload_n 0, 1) := by decide +kernel
theorem dX7_driftBy_15 : decode cX7_driftBy 15 = .ok (.getfield 32, 3) := by decide +kernel
theorem dX7_driftBy_18 : decode cX7_driftBy 18 = .ok (.irem, 1) := by decide +kernel
theorem dX7_driftBy_19 : decode cX7_driftBy 19 = .ok (.invokevirtual 131, 3) := by decide +kernel
theorem dX7_driftBy_22 : decode cX7_driftBy 22 = .ok (.astore_n 2, 1) := by decide +kernel
theorem dX7_driftBy_23 : decode cX7_driftBy 23 = .ok (.aload_n 2, 1) := by decide +kernel
theorem dX7_driftBy_24 : decode cX7_driftBy 24 = .ok (.ifnull 22, 3) := by decide +kernel
theorem dX7_driftBy_27 : decode cX7_driftBy 27 = .ok (.aload_n 2, 1) := by decide +kernel
theorem dX7_driftBy_28 : decode cX7_driftBy 28 = .ok (.getfield 62, 3) := by decide +kernel
theorem dX7_driftBy_31 : decode cX7_driftBy 31 = .ok (.ifCond .le 15, 3) := by decide +kernel
theorem dX7_driftBy_34 : decode cX7_driftBy 34 = .ok (.aload_n 2, 1) := by decide +kernel
theorem dX7_driftBy_35 : decode cX7_driftBy 35 = .ok (.iload_n 1, 1) := by decide +kernel
theorem dX7_driftBy_36 : decode cX7_driftBy 36 = .ok (.iconst 4, 1) := by decide +kernel
theorem dX7_driftBy_37 : decode cX7_driftBy 37 = .ok (.idiv, 1) := by decide +kernel
theorem dX7_driftBy_38 : decode cX7_driftBy 38 = .ok (.aload_n 2, 1) := by decide +kernel
theorem dX7_driftBy_39 : decode cX7_driftBy 39 = .ok (.getfield 62, 3) := by decide +kernel
theorem dX7_driftBy_42 : decode cX7_driftBy 42 = .ok (.irem, 1) := by decide +kernel
theorem dX7_driftBy_43 : decode cX7_driftBy 43 = .ok (.invokevirtual 137, 3) := by decide +kernel
theorem dX7_driftBy_46 : decode cX7_driftBy 46 = .ok (.aload_n 0, 1) := by decide +kernel
theorem dX7_driftBy_47 : decode cX7_driftBy 47 = .ok (.iload_n 1, 1) := by decide +kernel
theorem dX7_driftBy_48 : decode cX7_driftBy 48 = .ok (.bipush 16, 2) := by decide +kernel
theorem dX7_driftBy_50 : decode cX7_driftBy 50 = .ok (.idiv, 1) := by decide +kernel
theorem dX7_driftBy_51 : decode cX7_driftBy 51 = .ok (.bipush 60, 2) := by decide +kernel
theorem dX7_driftBy_53 : decode cX7_driftBy 53 = .ok (.irem, 1) := by decide +kernel
theorem dX7_driftBy_54 : decode cX7_driftBy 54 = .ok (.bipush 10, 2) := by decide +kernel
theorem dX7_driftBy_56 : decode cX7_driftBy 56 = .ok (.invokevirtual 42, 3) := by decide +kernel
theorem dX7_driftBy_59 : decode cX7_driftBy 59 = .ok (.return_, 1) := by decide +kernel
theorem dX7_cornersOfAllWalks_0 : decode cX7_cornersOfAllWalks 0 = .ok (.iconst 0, 1) := by decide +kernel
theorem dX7_cornersOfAllWalks_1 : decode cX7_cornersOfAllWalks 1 = .ok (.istore_n 1, 1) := by decide +kernel
theorem dX7_cornersOfAllWalks_2 : decode cX7_cornersOfAllWalks 2 = .ok (.iconst 0, 1) := by decide +kernel
theorem dX7_cornersOfAllWalks_3 : decode cX7_cornersOfAllWalks 3 = .ok (.istore_n 2, 1) := by decide +kernel
theorem dX7_cornersOfAllWalks_4 : decode cX7_cornersOfAllWalks 4 = .ok (.iload_n 2, 1) := by decide +kernel
theorem dX7_cornersOfAllWalks_5 : decode cX7_cornersOfAllWalks 5 = .ok (.aload_n 0, 1) := by decide +kernel
theorem dX7_cornersOfAllWalks_6 : decode cX7_cornersOfAllWalks 6 = .ok (.getfield 32, 3) := by decide +kernel
theorem dX7_cornersOfAllWalks_9 : decode cX7_cornersOfAllWalks 9 = .ok (.if_icmp .ge 21, 3) := by decide +kernel
theorem dX7_cornersOfAllWalks_12 : decode cX7_cornersOfAllWalks 12 = .ok (.iload_n 1, 1) := by decide +kernel
theorem dX7_cornersOfAllWalks_13 : decode cX7_cornersOfAllWalks 13 = .ok (.aload_n 0, 1) := by decide +kernel
theorem dX7_cornersOfAllWalks_14 : decode cX7_cornersOfAllWalks 14 = .ok (.getfield 11, 3) := by decide +kernel
theorem dX7_cornersOfAllWalks_17 : decode cX7_cornersOfAllWalks 17 = .ok (.iload_n 2, 1) := by decide +kernel
theorem dX7_cornersOfAllWalks_18 : decode cX7_cornersOfAllWalks 18 = .ok (.aaload, 1) := by decide +kernel
theorem dX7_cornersOfAllWalks_19 : decode cX7_cornersOfAllWalks 19 = .ok (.getfield 62, 3) := by decide +kernel
theorem dX7_cornersOfAllWalks_22 : decode cX7_cornersOfAllWalks 22 = .ok (.iadd, 1) := by decide +kernel
theorem dX7_cornersOfAllWalks_23 : decode cX7_cornersOfAllWalks 23 = .ok (.istore_n 1, 1) := by decide +kernel
theorem dX7_cornersOfAllWalks_24 : decode cX7_cornersOfAllWalks 24 = .ok (.iinc 2 1, 3) := by decide +kernel
theorem dX7_cornersOfAllWalks_27 : decode cX7_cornersOfAllWalks 27 = .ok (.goto (-23), 3) := by decide +kernel
theorem dX7_cornersOfAllWalks_30 : decode cX7_cornersOfAllWalks 30 = .ok (.iload_n 1, 1) := by decide +kernel
theorem dX7_cornersOfAllWalks_31 : decode cX7_cornersOfAllWalks 31 = .ok (.ireturn, 1) := by decide +kernel
theorem dX7_minutesOfAllReaders_0 : decode cX7_minutesOfAllReaders 0 = .ok (.iconst 0, 1) := by decide +kernel
theorem dX7_minutesOfAllReaders_1 : decode cX7_minutesOfAllReaders 1 = .ok (.istore_n 1, 1) := by decide +kernel
theorem dX7_minutesOfAllReaders_2 : decode cX7_minutesOfAllReaders 2 = .ok (.iconst 0, 1) := by decide +kernel
theorem dX7_minutesOfAllReaders_3 : decode cX7_minutesOfAllReaders 3 = .ok (.istore_n 2, 1) := by decide +kernel
theorem dX7_minutesOfAllReaders_4 : decode cX7_minutesOfAllReaders 4 = .ok (.iload_n 2, 1) := by decide +kernel
theorem dX7_minutesOfAllReaders_5 : decode cX7_minutesOfAllReaders 5 = .ok (.aload_n 0, 1) := by decide +kernel
theorem dX7_minutesOfAllReaders_6 : decode cX7_minutesOfAllReaders 6 = .ok (.getfield 39, 3) := by decide +kernel
theorem dX7_minutesOfAllReaders_9 : decode cX7_minutesOfAllReaders 9 = .ok (.if_icmp .ge 33, 3) := by decide +kernel
theorem dX7_minutesOfAllReaders_12 : decode cX7_minutesOfAllReaders 12 = .ok (.iload_n 1, 1) := by decide +kernel
theorem dX7_minutesOfAllReaders_13 : decode cX7_minutesOfAllReaders 13 = .ok (.aload_n 0, 1) := by decide +kernel
theorem dX7_minutesOfAllReaders_14 : decode cX7_minutesOfAllReaders 14 = .ok (.getfield 19, 3) := by decide +kernel
theorem dX7_minutesOfAllReaders_17 : decode cX7_minutesOfAllReaders 17 = .ok (.iload_n 2, 1) := by decide +kernel
theorem dX7_minutesOfAllReaders_18 : decode cX7_minutesOfAllReaders 18 = .ok (.aaload, 1) := by decide +kernel
theorem dX7_minutesOfAllReaders_19 : decode cX7_minutesOfAllReaders 19 = .ok (.getfield 79, 3) := by decide +kernel
theorem dX7_minutesOfAllReaders_22 : decode cX7_minutesOfAllReaders 22 = .ok (.aload_n 0, 1) := by decide +kernel
theorem dX7_minutesOfAllReaders_23 : decode cX7_minutesOfAllReaders 23 = .ok (.getfield 19, 3) := by decide +kernel
theorem dX7_minutesOfAllReaders_26 : decode cX7_minutesOfAllReaders 26 = .ok (.iload_n 2, 1) := by decide +kernel
theorem dX7_minutesOfAllReaders_27 : decode cX7_minutesOfAllReaders 27 = .ok (.aaload, 1) := by decide +kernel
theorem dX7_minutesOfAllReaders_28 : decode cX7_minutesOfAllReaders 28 = .ok (.getfield 76, 3) := by decide +kernel
theorem dX7_minutesOfAllReaders_31 : decode cX7_minutesOfAllReaders 31 = .ok (.isub, 1) := by decide +kernel
theorem dX7_minutesOfAllReaders_32 : decode cX7_minutesOfAllReaders 32 = .ok (.iconst 1, 1) := by decide +kernel
theorem dX7_minutesOfAllReaders_33 : decode cX7_minutesOfAllReaders 33 = .ok (.iadd, 1) := by decide +kernel
theorem dX7_minutesOfAllReaders_34 : decode cX7_minutesOfAllReaders 34 = .ok (.iadd, 1) := by decide +kernel
theorem dX7_minutesOfAllReaders_35 : decode cX7_minutesOfAllReaders 35 = .ok (.istore_n 1, 1) := by decide +kernel
theorem dX7_minutesOfAllReaders_36 : decode cX7_minutesOfAllReaders 36 = .ok (.iinc 2 1, 3) := by decide +kernel
theorem dX7_minutesOfAllReaders_39 : decode cX7_minutesOfAllReaders 39 = .ok (.goto (-35), 3) := by decide +kernel
theorem dX7_minutesOfAllReaders_42 : decode cX7_minutesOfAllReaders 42 = .ok (.iload_n 1, 1) := by decide +kernel
theorem dX7_minutesOfAllReaders_43 : decode cX7_minutesOfAllReaders 43 = .ok (.ireturn, 1) := by decide +kernel
theorem dX8_init_0 : decode cX8_init 0 = .ok (.aload_n 0, 1) := by decide +kernel
theorem dX8_init_1 : decode cX8_init 1 = .ok (.invokespecial 3, 3) := by decide +kernel
theorem dX8_init_4 : decode cX8_init 4 = .ok (.aload_n 0, 1) := by decide +kernel
theorem dX8_init_5 : decode cX8_init 5 = .ok (.new 9, 3) := by decide +kernel
theorem dX8_init_8 : decode cX8_init 8 = .ok (.dup, 1) := by decide +kernel
theorem dX8_init_9 : decode cX8_init 9 = .ok (.invokespecial 11, 3) := by decide +kernel
theorem dX8_init_12 : decode cX8_init 12 = .ok (.putfield 12, 3) := by decide +kernel
theorem dX8_init_15 : decode cX8_init 15 = .ok (.aload_n 0, 1) := by decide +kernel
theorem dX8_init_16 : decode cX8_init 16 = .ok (.new 16, 3) := by decide +kernel
theorem dX8_init_19 : decode cX8_init 19 = .ok (.dup, 1) := by decide +kernel
theorem dX8_init_20 : decode cX8_init 20 = .ok (.invokespecial 18, 3) := by decide +kernel
theorem dX8_init_23 : decode cX8_init 23 = .ok (.putfield 19, 3) := by decide +kernel
theorem dX8_init_26 : decode cX8_init 26 = .ok (.aload_n 0, 1) := by decide +kernel
theorem dX8_init_27 : decode cX8_init 27 = .ok (.new 16, 3) := by decide +kernel
theorem dX8_init_30 : decode cX8_init 30 = .ok (.dup, 1) := by decide +kernel
theorem dX8_init_31 : decode cX8_init 31 = .ok (.invokespecial 18, 3) := by decide +kernel
theorem dX8_init_34 : decode cX8_init 34 = .ok (.putfield 23, 3) := by decide +kernel
theorem dX8_init_37 : decode cX8_init 37 = .ok (.aload_n 0, 1) := by decide +kernel
theorem dX8_init_38 : decode cX8_init 38 = .ok (.iconst 2, 1) := by decide +kernel
theorem dX8_init_39 : decode cX8_init 39 = .ok (.anewarray 16, 3) := by decide +kernel
theorem dX8_init_42 : decode cX8_init 42 = .ok (.putfield 26, 3) := by decide +kernel
theorem dX8_init_45 : decode cX8_init 45 = .ok (.aload_n 0, 1) := by decide +kernel
theorem dX8_init_46 : decode cX8_init 46 = .ok (.iconst 2, 1) := by decide +kernel
theorem dX8_init_47 : decode cX8_init 47 = .ok (.newarray .boolean, 2) := by decide +kernel
theorem dX8_init_49 : decode cX8_init 49 = .ok (.putfield 30, 3) := by decide +kernel
theorem dX8_init_52 : decode cX8_init 52 = .ok (.aload_n 0, 1) := by decide +kernel
theorem dX8_init_53 : decode cX8_init 53 = .ok (.new 34, 3) := by decide +kernel
theorem dX8_init_56 : decode cX8_init 56 = .ok (.dup, 1) := by decide +kernel
theorem dX8_init_57 : decode cX8_init 57 = .ok (.invokespecial 36, 3) := by decide +kernel
theorem dX8_init_60 : decode cX8_init 60 = .ok (.putfield 37, 3) := by decide +kernel
theorem dX8_init_63 : decode cX8_init 63 = .ok (.aload_n 0, 1) := by decide +kernel
theorem dX8_init_64 : decode cX8_init 64 = .ok (.iconst 4, 1) := by decide +kernel
theorem dX8_init_65 : decode cX8_init 65 = .ok (.anewarray 41, 3) := by decide +kernel
theorem dX8_init_68 : decode cX8_init 68 = .ok (.putfield 43, 3) := by decide +kernel
theorem dX8_init_71 : decode cX8_init 71 = .ok (.aload_n 0, 1) := by decide +kernel
theorem dX8_init_72 : decode cX8_init 72 = .ok (.new 47, 3) := by decide +kernel
theorem dX8_init_75 : decode cX8_init 75 = .ok (.dup, 1) := by decide +kernel
theorem dX8_init_76 : decode cX8_init 76 = .ok (.invokespecial 49, 3) := by decide +kernel
theorem dX8_init_79 : decode cX8_init 79 = .ok (.putfield 50, 3) := by decide +kernel
theorem dX8_init_82 : decode cX8_init 82 = .ok (.aload_n 0, 1) := by decide +kernel
theorem dX8_init_83 : decode cX8_init 83 = .ok (.new 54, 3) := by decide +kernel
theorem dX8_init_86 : decode cX8_init 86 = .ok (.dup, 1) := by decide +kernel
theorem dX8_init_87 : decode cX8_init 87 = .ok (.invokespecial 56, 3) := by decide +kernel
theorem dX8_init_90 : decode cX8_init 90 = .ok (.putfield 57, 3) := by decide +kernel
theorem dX8_init_93 : decode cX8_init 93 = .ok (.aload_n 0, 1) := by decide +kernel
theorem dX8_init_94 : decode cX8_init 94 = .ok (.iconst 4, 1) := by decide +kernel
theorem dX8_init_95 : decode cX8_init 95 = .ok (.newarray .int, 2) := by decide +kernel
theorem dX8_init_97 : decode cX8_init 97 = .ok (.putfield 61, 3) := by decide +kernel
theorem dX8_init_100 : decode cX8_init 100 = .ok (.aload_n 0, 1) := by decide +kernel
theorem dX8_init_101 : decode cX8_init 101 = .ok (.iconst 0, 1) := by decide +kernel
theorem dX8_init_102 : decode cX8_init 102 = .ok (.putfield 65, 3) := by decide +kernel
theorem dX8_init_105 : decode cX8_init 105 = .ok (.iconst 0, 1) := by decide +kernel
theorem dX8_init_106 : decode cX8_init 106 = .ok (.istore_n 1, 1) := by decide +kernel
theorem dX8_init_107 : decode cX8_init 107 = .ok (.iload_n 1, 1) := by decide +kernel
theorem dX8_init_108 : decode cX8_init 108 = .ok (.iconst 2, 1) := by decide +kernel
theorem dX8_init_109 : decode cX8_init 109 = .ok (.if_icmp .ge 22, 3) := by decide +kernel
theorem dX8_init_112 : decode cX8_init 112 = .ok (.aload_n 0, 1) := by decide +kernel
theorem dX8_init_113 : decode cX8_init 113 = .ok (.getfield 26, 3) := by decide +kernel
theorem dX8_init_116 : decode cX8_init 116 = .ok (.iload_n 1, 1) := by decide +kernel
theorem dX8_init_117 : decode cX8_init 117 = .ok (.new 16, 3) := by decide +kernel
theorem dX8_init_120 : decode cX8_init 120 = .ok (.dup, 1) := by decide +kernel
theorem dX8_init_121 : decode cX8_init 121 = .ok (.invokespecial 18, 3) := by decide +kernel
theorem dX8_init_124 : decode cX8_init 124 = .ok (.aastore, 1) := by decide +kernel
theorem dX8_init_125 : decode cX8_init 125 = .ok (.iinc 1 1, 3) := by decide +kernel
theorem dX8_init_128 : decode cX8_init 128 = .ok (.goto (-21), 3) := by decide +kernel
theorem dX8_init_131 : decode cX8_init 131 = .ok (.iconst 0, 1) := by decide +kernel
theorem dX8_init_132 : decode cX8_init 132 = .ok (.istore_n 1, 1) := by decide +kernel
theorem dX8_init_133 : decode cX8_init 133 = .ok (.iload_n 1, 1) := by decide +kernel
theorem dX8_init_134 : decode cX8_init 134 = .ok (.iconst 4, 1) := by decide +kernel
theorem dX8_init_135 : decode cX8_init 135 = .ok (.if_icmp .ge 22, 3) := by decide +kernel
theorem dX8_init_138 : decode cX8_init 138 = .ok (.aload_n 0, 1) := by decide +kernel
theorem dX8_init_139 : decode cX8_init 139 = .ok (.getfield 43, 3) := by decide +kernel
theorem dX8_init_142 : decode cX8_init 142 = .ok (.iload_n 1, 1) := by decide +kernel
theorem dX8_init_143 : decode cX8_init 143 = .ok (.new 41, 3) := by decide +kernel
theorem dX8_init_146 : decode cX8_init 146 = .ok (.dup, 1) := by decide +kernel
theorem dX8_init_147 : decode cX8_init 147 = .ok (.invokespecial 69, 3) := by decide +kernel
theorem dX8_init_150 : decode cX8_init 150 = .ok (.aastore, 1) := by decide +kernel
theorem dX8_init_151 : decode cX8_init 151 = .ok (.iinc 1 1, 3) := by decide +kernel
theorem dX8_init_154 : decode cX8_init 154 = .ok (.goto (-21), 3) := by decide +kernel
theorem dX8_init_157 : decode cX8_init 157 = .ok (.return_, 1) := by decide +kernel
theorem dX8_feed_0 : decode cX8_feed 0 = .ok (.iload_n 1, 1) := by decide +kernel
theorem dX8_feed_1 : decode cX8_feed 1 = .ok (.iconst 0, 1) := by decide +kernel
theorem dX8_feed_2 : decode cX8_feed 2 = .ok (.bipush 127, 2) := by decide +kernel
theorem dX8_feed_4 : decode cX8_feed 4 = .ok (.invokestatic 70, 3) := by decide +kernel
theorem dX8_feed_7 : decode cX8_feed 7 = .ok (.ifCond .ne 5, 3) := by decide +kernel
theorem dX8_feed_10 : decode cX8_feed 10 = .ok (.iconst (-1), 1) := by decide +kernel
theorem dX8_feed_11 : decode cX8_feed 11 = .ok (.ireturn, 1) := by decide +kernel
theorem dX8_feed_12 : decode cX8_feed 12 = .ok (.aload_n 0, 1) := by decide +kernel
theorem dX8_feed_13 : decode cX8_feed 13 = .ok (.getfield 12, 3) := by decide +kernel
theorem dX8_feed_16 : decode cX8_feed 16 = .ok (.getfield 74, 3) := by decide +kernel
theorem dX8_feed_19 : decode cX8_feed 19 = .ok (.iload_n 1, 1) := by decide +kernel
theorem dX8_feed_20 : decode cX8_feed 20 = .ok (.invokevirtual 78, 3) := by decide +kernel
theorem dX8_feed_23 : decode cX8_feed 23 = .ok (.ifCond .eq 16, 3) := by decide +kernel
theorem dX8_feed_26 : decode cX8_feed 26 = .ok (.aload_n 0, 1) := by decide +kernel
theorem dX8_feed_27 : decode cX8_feed 27 = .ok (.getfield 12, 3) := by decide +kernel
theorem dX8_feed_30 : decode cX8_feed 30 = .ok (.getfield 74, 3) := by decide +kernel
theorem dX8_feed_33 : decode cX8_feed 33 = .ok (.getfield 84, 3) := by decide +kernel
theorem dX8_feed_36 : decode cX8_feed 36 = .ok (.goto 5, 3) := by decide +kernel
theorem dX8_feed_39 : decode cX8_feed 39 = .ok (.bipush (-3), 2) := by decide +kernel
theorem dX8_feed_41 : decode cX8_feed 41 = .ok (.ireturn, 1) := by decide +kernel
theorem dX8_end_0 : decode cX8_end 0 = .ok (.aload_n 0, 1) := by decide +kernel
theorem dX8_end_1 : decode cX8_end 1 = .ok (.getfield 12, 3) := by decide +kernel
theorem dX8_end_4 : decode cX8_end 4 = .ok (.getfield 74, 3) := by decide +kernel
theorem dX8_end_7 : decode cX8_end 7 = .ok (.getfield 84, 3) := by decide +kernel
theorem dX8_end_10 : decode cX8_end 10 = .ok (.istore_n 2, 1) := by decide +kernel
theorem dX8_end_11 : decode cX8_end 11 = .ok (.iload_n 1, 1) := by decide +kernel
theorem dX8_end_12 : decode cX8_end 12 = .ok (.iconst 0, 1) := by decide +kernel
theorem dX8_end_13 : decode cX8_end 13 = .ok (.iload_n 2, 1) := by decide +kernel
theorem dX8_end_14 : decode cX8_end 14 = .ok (.invokestatic 70, 3) := by decide +kernel
theorem dX8_end_17 : decode cX8_end 17 = .ok (.ifCond .ne 5, 3) := by decide +kernel
theorem dX8_end_20 : decode cX8_end 20 = .ok (.iconst (-1), 1) := by decide +kernel
theorem dX8_end_21 : decode cX8_end 21 = .ok (.ireturn, 1) := by decide +kernel
theorem dX8_end_22 : decode cX8_end 22 = .ok (.aload_n 0, 1) := by decide +kernel
theorem dX8_end_23 : decode cX8_end 23 = .ok (.getfield 12, 3) := by decide +kernel
theorem dX8_end_26 : decode cX8_end 26 = .ok (.getfield 74, 3) := by decide +kernel
theorem dX8_end_29 : decode cX8_end 29 = .ok (.iload_n 1, 1) := by decide +kernel
theorem dX8_end_30 : decode cX8_end 30 = .ok (.putfield 84, 3) := by decide +kernel
theorem dX8_end_33 : decode cX8_end 33 = .ok (.iload_n 2, 1) := by decide +kernel
theorem dX8_end_34 : decode cX8_end 34 = .ok (.ireturn, 1) := by decide +kernel
theorem dX8_text_0 : decode cX8_text 0 = .ok (.aload_n 0, 1) := by decide +kernel
theorem dX8_text_1 : decode cX8_text 1 = .ok (.getfield 12, 3) := by decide +kernel
theorem dX8_text_4 : decode cX8_text 4 = .ok (.invokevirtual 87, 3) := by decide +kernel
theorem dX8_text_7 : decode cX8_text 7 = .ok (.istore_n 1, 1) := by decide +kernel
theorem dX8_text_8 : decode cX8_text 8 = .ok (.aload_n 0, 1) := by decide +kernel
theorem dX8_text_9 : decode cX8_text 9 = .ok (.getfield 12, 3) := by decide +kernel
theorem dX8_text_12 : decode cX8_text 12 = .ok (.getfield 74, 3) := by decide +kernel
theorem dX8_text_15 : decode cX8_text 15 = .ok (.iconst 0, 1) := by decide +kernel
theorem dX8_text_16 : decode cX8_text 16 = .ok (.putfield 84, 3) := by decide +kernel
theorem dX8_text_19 : decode cX8_text 19 = .ok (.iload_n 1, 1) := by decide +kernel
theorem dX8_text_20 : decode cX8_text 20 = .ok (.bipush (-4), 2) := by decide +kernel
theorem dX8_text_22 : decode cX8_text 22 = .ok (.if_icmp .ne 14, 3) := by decide +kernel
theorem dX8_text_25 : decode cX8_text 25 = .ok (.bipush (-10), 2) := by decide +kernel
theorem dX8_text_27 : decode cX8_text 27 = .ok (.aload_n 0, 1) := by decide +kernel
theorem dX8_text_28 : decode cX8_text 28 = .ok (.getfield 12, 3) := by decide +kernel
theorem dX8_text_31 : decode cX8_text 31 = .ok (.getfield 91, 3) := by decide +kernel
theorem dX8_text_34 : decode cX8_text 34 = .ok (.isub, 1) := by decide +kernel
theorem dX8_text_35 : decode cX8_text 35 = .ok (.ireturn, 1) := by decide +kernel
theorem dX8_text_36 : decode cX8_text 36 = .ok (.aload_n 0, 1) := by decide +kernel
theorem dX8_text_37 : decode cX8_text 37 = .ok (.getfield 19, 3) := by decide +kernel
theorem dX8_text_40 : decode cX8_text 40 = .ok (.aload_n 0, 1) := by decide +kernel
theorem dX8_text_41 : decode cX8_text 41 = .ok (.getfield 12, 3) := by decide +kernel
theorem dX8_text_44 : decode cX8_text 44 = .ok (.getfield 94, 3) := by decide +kernel
theorem dX8_text_47 : decode cX8_text 47 = .ok (.invokevirtual 97, 3) := by decide +kernel
theorem dX8_text_50 : decode cX8_text 50 = .ok (.aload_n 0, 1) := by decide +kernel
theorem dX8_text_51 : decode cX8_text 51 = .ok (.getfield 37, 3) := by decide +kernel
theorem dX8_text_54 : decode cX8_text 54 = .ok (.iconst 0, 1) := by decide +kernel
theorem dX8_text_55 : decode cX8_text 55 = .ok (.putfield 101, 3) := by decide +kernel
theorem dX8_text_58 : decode cX8_text 58 = .ok (.iconst 0, 1) := by decide +kernel
theorem dX8_text_59 : decode cX8_text 59 = .ok (.istore_n 2, 1) := by decide +kernel
theorem dX8_text_60 : decode cX8_text 60 = .ok (.iload_n 2, 1) := by decide +kernel
theorem dX8_text_61 : decode cX8_text 61 = .ok (.iconst 2, 1) := by decide +kernel
theorem dX8_text_62 : decode cX8_text 62 = .ok (.if_icmp .ge 16, 3) := by decide +kernel
theorem dX8_text_65 : decode cX8_text 65 = .ok (.aload_n 0, 1) := by decide +kernel
theorem dX8_text_66 : decode cX8_text 66 = .ok (.getfield 30, 3) := by decide +kernel
theorem dX8_text_69 : decode cX8_text 69 = .ok (.iload_n 2, 1) := by decide +kernel
theorem dX8_text_70 : decode cX8_text 70 = .ok (.iconst 0, 1) := by decide +kernel
theorem dX8_text_71 : decode cX8_text 71 = .ok (.bastore, 1) := by decide +kernel
theorem dX8_text_72 : decode cX8_text 72 = .ok (.iinc 2 1, 3) := by decide +kernel
theorem dX8_text_75 : decode cX8_text 75 = .ok (.goto (-15), 3) := by decide +kernel
theorem dX8_text_78 : decode cX8_text 78 = .ok (.iload_n 1, 1) := by decide +kernel
theorem dX8_text_79 : decode cX8_text 79 = .ok (.ireturn, 1) := by decide +kernel
theorem dX8_fault_0 : decode cX8_fault 0 = .ok (.aload_n 0, 1) := by decide +kernel
theorem dX8_fault_1 : decode cX8_fault 1 = .ok (.getfield 12, 3) := by decide +kernel
theorem dX8_fault_4 : decode cX8_fault 4 = .ok (.getfield 104, 3) := by decide +kernel
theorem dX8_fault_7 : decode cX8_fault 7 = .ok (.ireturn, 1) := by decide +kernel
theorem dX8_rule_0 : decode cX8_rule 0 = .ok (.iload_n 1, 1) := by decide +kernel
theorem dX8_rule_1 : decode cX8_rule 1 = .ok (.tableswitch 89 0 5 #[39, 47, 55, 63, 71, 79], 39) := by decide +kernel
theorem dX8_rule_40 : decode cX8_rule 40 = .ok (.aload_n 0, 1) := by decide +kernel
theorem dX8_rule_41 : decode cX8_rule 41 = .ok (.getfield 19, 3) := by decide +kernel
theorem dX8_rule_44 : decode cX8_rule 44 = .ok (.getfield 107, 3) := by decide +kernel
theorem dX8_rule_47 : decode cX8_rule 47 = .ok (.ireturn, 1) := by decide +kernel
theorem dX8_rule_48 : decode cX8_rule 48 = .ok (.aload_n 0, 1) := by decide +kernel
theorem dX8_rule_49 : decode cX8_rule 49 = .ok (.getfield 19, 3) := by decide +kernel
theorem dX8_rule_52 : decode cX8_rule 52 = .ok (.getfield 110, 3) := by decide +kernel
theorem dX8_rule_55 : decode cX8_rule 55 = .ok (.ireturn, 1) := by decide +kernel
theorem dX8_rule_56 : decode cX8_rule 56 = .ok (.aload_n 0, 1) := by decide +kernel
theorem dX8_rule_57 : decode cX8_rule 57 = .ok (.getfield 19, 3) := by decide +kernel
theorem dX8_rule_60 : decode cX8_rule 60 = .ok (.getfield 113, 3) := by decide +kernel
theorem dX8_rule_63 : decode cX8_rule 63 = .ok (.ireturn, 1) := by decide +kernel
theorem dX8_rule_64 : decode cX8_rule 64 = .ok (.aload_n 0, 1) := by decide +kernel
theorem dX8_rule_65 : decode cX8_rule 65 = .ok (.getfield 19, 3) := by decide +kernel
theorem dX8_rule_68 : decode cX8_rule 68 = .ok (.getfield 116, 3) := by decide +kernel
theorem dX8_rule_71 : decode cX8_rule 71 = .ok (.ireturn, 1) := by decide +kernel
theorem dX8_rule_72 : decode cX8_rule 72 = .ok (.aload_n 0, 1) := by decide +kernel
theorem dX8_rule_73 : decode cX8_rule 73 = .ok (.getfield 19, 3) := by decide +kernel
theorem dX8_rule_76 : decode cX8_rule 76 = .ok (.getfield 119, 3) := by decide +kernel
theorem dX8_rule_79 : decode cX8_rule 79 = .ok (.ireturn, 1) := by decide +kernel
theorem dX8_rule_80 : decode cX8_rule 80 = .ok (.aload_n 0, 1) := by decide +kernel
theorem dX8_rule_81 : decode cX8_rule 81 = .ok (.getfield 19, 3) := by decide +kernel
theorem dX8_rule_84 : decode cX8_rule 84 = .ok (.bipush 15, 2) := by decide +kernel
theorem dX8_rule_86 : decode cX8_rule 86 = .ok (.invokevirtual 122, 3) := by decide +kernel
theorem dX8_rule_89 : decode cX8_rule 89 = .ok (.ireturn, 1) := by decide +kernel
theorem dX8_rule_90 : decode cX8_rule 90 = .ok (.iconst (-1), 1) := by decide +kernel
theorem dX8_rule_91 : decode cX8_rule 91 = .ok (.ireturn, 1) := by decide +kernel
theorem dX8_man_0 : decode cX8_man 0 = .ok (.aload_n 0, 1) := by decide +kernel
theorem dX8_man_1 : decode cX8_man 1 = .ok (.getfield 19, 3) := by decide +kernel
theorem dX8_man_4 : decode cX8_man 4 = .ok (.iload_n 1, 1) := by decide +kernel
theorem dX8_man_5 : decode cX8_man 5 = .ok (.invokevirtual 126, 3) := by decide +kernel
theorem dX8_man_8 : decode cX8_man 8 = .ok (.astore_n 3, 1) := by decide +kernel
theorem dX8_man_9 : decode cX8_man 9 = .ok (.aload_n 3, 1) := by decide +kernel
theorem dX8_man_10 : decode cX8_man 10 = .ok (.ifnonnull 5, 3) := by decide +kernel
theorem dX8_man_13 : decode cX8_man 13 = .ok (.iconst (-1), 1) := by decide +kernel
theorem dX8_man_14 : decode cX8_man 14 = .ok (.ireturn, 1) := by decide +kernel
theorem dX8_man_15 : decode cX8_man 15 = .ok (.iload_n 2, 1) := by decide +kernel
theorem dX8_man_16 : decode cX8_man 16 = .ok (.tableswitch 68 0 4 #[36, 41, 46, 51, 56], 36) := by decide +kernel
theorem dX8_man_52 : decode cX8_man 52 = .ok (.aload_n 3, 1) := by decide +kernel
theorem dX8_man_53 : decode cX8_man 53 = .ok (.getfield 130, 3) := by decide +kernel
theorem dX8_man_56 : decode cX8_man 56 = .ok (.ireturn, 1) := by decide +kernel
theorem dX8_man_57 : decode cX8_man 57 = .ok (.aload_n 3, 1) := by decide +kernel
theorem dX8_man_58 : decode cX8_man 58 = .ok (.getfield 135, 3) := by decide +kernel
theorem dX8_man_61 : decode cX8_man 61 = .ok (.ireturn, 1) := by decide +kernel
theorem dX8_man_62 : decode cX8_man 62 = .ok (.aload_n 3, 1) := by decide +kernel
theorem dX8_man_63 : decode cX8_man 63 = .ok (.invokevirtual 138, 3) := by decide +kernel
theorem dX8_man_66 : decode cX8_man 66 = .ok (.ireturn, 1) := by decide +kernel
theorem dX8_man_67 : decode cX8_man 67 = .ok (.aload_n 3, 1) := by decide +kernel
theorem dX8_man_68 : decode cX8_man 68 = .ok (.getfield 141, 3) := by decide +kernel
theorem dX8_man_71 : decode cX8_man 71 = .ok (.ireturn, 1) := by decide +kernel
theorem dX8_man_72 : decode cX8_man 72 = .ok (.lconst 1, 1) := by decide +kernel
theorem dX8_man_73 : decode cX8_man 73 = .ok (.aload_n 3, 1) := by decide +kernel
theorem dX8_man_74 : decode cX8_man 74 = .ok (.invokevirtual 138, 3) := by decide +kernel
theorem dX8_man_77 : decode cX8_man 77 = .ok (.invokestatic 144, 3) := by decide +kernel
theorem dX8_man_80 : decode cX8_man 80 = .ok (.invokestatic 148, 3) := by decide +kernel
theorem dX8_man_83 : decode cX8_man 83 = .ok (.ireturn, 1) := by decide +kernel
theorem dX8_man_84 : decode cX8_man 84 = .ok (.iconst (-1), 1) := by decide +kernel
theorem dX8_man_85 : decode cX8_man 85 = .ok (.ireturn, 1) := by decide +kernel
theorem dX8_walk_0 : decode cX8_walk 0 = .ok (.aload_n 0, 1) := by decide +kernel
theorem dX8_walk_1 : decode cX8_walk 1 = .ok (.getfield 19, 3) := by decide +kernel
theorem dX8_walk_4 : decode cX8_walk 4 = .ok (.iload_n 1, 1) := by decide +kernel
theorem dX8_walk_5 : decode cX8_walk 5 = .ok (.invokevirtual 126, 3) := by decide +kernel
theorem dX8_walk_8 : decode cX8_walk 8 = .ok (.astore_n 3, 1) := by decide +kernel
theorem dX8_walk_9 : decode cX8_walk 9 = .ok (.aload_n 3, 1) := by decide +kernel
theorem dX8_walk_10 : decode cX8_walk 10 = .ok (.ifnull 11, 3) := by decide +kernel
theorem dX8_walk_13 : decode cX8_walk 13 = .ok (.aload_n 3, 1) := by decide +kernel
theorem dX8_walk_14 : decode cX8_walk 14 = .ok (.iload_n 2, 1) := by decide +kernel
theorem dX8_walk_15 : decode cX8_walk 15 = .ok (.invokevirtual 154, 3) := by decide +kernel
theorem dX8_walk_18 : decode cX8_walk 18 = .ok (.ifCond .ne 7, 3) := by decide +kernel
theorem dX8_walk_21 : decode cX8_walk 21 = .ok (.iconst (-1), 1) := by decide +kernel
theorem dX8_walk_22 : decode cX8_walk 22 = .ok (.goto 9, 3) := by decide +kernel
theorem dX8_walk_25 : decode cX8_walk 25 = .ok (.aload_n 3, 1) := by decide +kernel
theorem dX8_walk_26 : decode cX8_walk 26 = .ok (.getfield 157, 3) := by decide +kernel
theorem dX8_walk_29 : decode cX8_walk 29 = .ok (.iload_n 2, 1) := by decide +kernel
theorem dX8_walk_30 : decode cX8_walk 30 = .ok (.iaload, 1) := by decide +kernel
theorem dX8_walk_31 : decode cX8_walk 31 = .ok (.ireturn, 1) := by decide +kernel
theorem dX8_street_0 : decode cX8_street 0 = .ok (.iload_n 1, 1) := by decide +kernel
theorem dX8_street_1 : decode cX8_street 1 = .ok (.iconst 0, 1) := by decide +kernel
theorem dX8_street_2 : decode cX8_street 2 = .ok (.aload_n 0, 1) := by decide +kernel
theorem dX8_street_3 : decode cX8_street 3 = .ok (.getfield 19, 3) := by decide +kernel
theorem dX8_street_6 : decode cX8_street 6 = .ok (.getfield 110, 3) := by decide +kernel
theorem dX8_street_9 : decode cX8_street 9 = .ok (.iconst 1, 1) := by decide +kernel
theorem dX8_street_10 : decode cX8_street 10 = .ok (.isub, 1) := by decide +kernel
theorem dX8_street_11 : decode cX8_street 11 = .ok (.invokestatic 70, 3) := by decide +kernel
theorem dX8_street_14 : decode cX8_street 14 = .ok (.ifCond .eq 10, 3) := by decide +kernel
theorem dX8_street_17 : decode cX8_street 17 = .ok (.iload_n 2, 1) := by decide +kernel
theorem dX8_street_18 : decode cX8_street 18 = .ok (.invokestatic 160, 3) := by decide +kernel
theorem dX8_street_21 : decode cX8_street 21 = .ok (.ifCond .ne 5, 3) := by decide +kernel
theorem dX8_street_24 : decode cX8_street 24 = .ok (.iconst (-1), 1) := by decide +kernel
theorem dX8_street_25 : decode cX8_street 25 = .ok (.ireturn, 1) := by decide +kernel
theorem dX8_street_26 : decode cX8_street 26 = .ok (.iload_n 2, 1) := by decide +kernel
theorem dX8_street_27 : decode cX8_street 27 = .ok (.ifCond .ne 15, 3) := by decide +kernel
theorem dX8_street_30 : decode cX8_street 30 = .ok (.aload_n 0, 1) := by decide +kernel
theorem dX8_street_31 : decode cX8_street 31 = .ok (.getfield 19, 3) := by decide +kernel
theorem dX8_street_34 : decode cX8_street 34 = .ok (.getfield 163, 3) := by decide +kernel
theorem dX8_street_37 : decode cX8_street 37 = .ok (.iload_n 1, 1) := by decide +kernel
theorem dX8_street_38 : decode cX8_street 38 = .ok (.iaload, 1) := by decide +kernel
theorem dX8_street_39 : decode cX8_street 39 = .ok (.goto 12, 3) := by decide +kernel
theorem dX8_street_42 : decode cX8_street 42 = .ok (.aload_n 0, 1) := by decide +kernel
theorem dX8_street_43 : decode cX8_street 43 = .ok (.getfield 19, 3) := by decide +kernel
theorem dX8_street_46 : decode cX8_street 46 = .ok (.getfield 166, 3) := by decide +kernel
theorem dX8_street_49 : decode cX8_street 49 = .ok (.iload_n 1, 1) := by decide +kernel
theorem dX8_street_50 : decode cX8_street 50 = .ok (.iaload, 1) := by decide +kernel
theorem dX8_street_51 : decode cX8_street 51 = .ok (.ireturn, 1) := by decide +kernel
theorem dX8_reader_0 : decode cX8_reader 0 = .ok (.aload_n 0, 1) := by decide +kernel
theorem dX8_reader_1 : decode cX8_reader 1 = .ok (.getfield 19, 3) := by decide +kernel
theorem dX8_reader_4 : decode cX8_reader 4 = .ok (.iload_n 1, 1) := by decide +kernel
theorem dX8_reader_5 : decode cX8_reader 5 = .ok (.invokevirtual 169, 3) := by decide +kernel
theorem dX8_reader_8 : decode cX8_reader 8 = .ok (.astore_n 3, 1) := by decide +kernel
theorem dX8_reader_9 : decode cX8_reader 9 = .ok (.aload_n 3, 1) := by decide +kernel
theorem dX8_reader_10 : decode cX8_reader 10 = .ok (.ifnonnull 5, 3) := by decide +kernel
theorem dX8_reader_13 : decode cX8_reader 13 = .ok (.iconst (-1), 1) := by decide +kernel
theorem dX8_reader_14 : decode cX8_reader 14 = .ok (.ireturn, 1) := by decide +kernel
theorem dX8_reader_15 : decode cX8_reader 15 = .ok (.iload_n 2, 1) := by decide +kernel
theorem dX8_reader_16 : decode cX8_reader 16 = .ok (.tableswitch 43 0 2 #[28, 33, 38], 28) := by decide +kernel
theorem dX8_reader_44 : decode cX8_reader 44 = .ok (.aload_n 3, 1) := by decide +kernel
theorem dX8_reader_45 : decode cX8_reader 45 = .ok (.getfield 173, 3) := by decide +kernel
theorem dX8_reader_48 : decode cX8_reader 48 = .ok (.ireturn, 1) := by decide +kernel
theorem dX8_reader_49 : decode cX8_reader 49 = .ok (.aload_n 3, 1) := by decide +kernel
theorem dX8_reader_50 : decode cX8_reader 50 = .ok (.getfield 176, 3) := by decide +kernel
theorem dX8_reader_53 : decode cX8_reader 53 = .ok (.ireturn, 1) := by decide +kernel
theorem dX8_reader_54 : decode cX8_reader 54 = .ok (.aload_n 3, 1) := by decide +kernel
theorem dX8_reader_55 : decode cX8_reader 55 = .ok (.getfield 179, 3) := by decide +kernel
theorem dX8_reader_58 : decode cX8_reader 58 = .ok (.ireturn, 1) := by decide +kernel
theorem dX8_reader_59 : decode cX8_reader 59 = .ok (.iconst (-1), 1) := by decide +kernel
theorem dX8_reader_60 : decode cX8_reader 60 = .ok (.ireturn, 1) := by decide +kernel
theorem dX8_alter_0 : decode cX8_alter 0 = .ok (.aload_n 0, 1) := by decide +kernel
theorem dX8_alter_1 : decode cX8_alter 1 = .ok (.getfield 19, 3) := by decide +kernel
theorem dX8_alter_4 : decode cX8_alter 4 = .ok (.iload_n 1, 1) := by decide +kernel
theorem dX8_alter_5 : decode cX8_alter 5 = .ok (.invokevirtual 126, 3) := by decide +kernel
theorem dX8_alter_8 : decode cX8_alter 8 = .ok (.astore 4, 2) := by decide +kernel
theorem dX8_alter_10 : decode cX8_alter 10 = .ok (.aload 4, 2) := by decide +kernel
theorem dX8_alter_12 : decode cX8_alter 12 = .ok (.ifnonnull 5, 3) := by decide +kernel
theorem dX8_alter_15 : decode cX8_alter 15 = .ok (.iconst (-1), 1) := by decide +kernel
theorem dX8_alter_16 : decode cX8_alter 16 = .ok (.ireturn, 1) := by decide +kernel
theorem dX8_alter_17 : decode cX8_alter 17 = .ok (.iload_n 2, 1) := by decide +kernel
theorem dX8_alter_18 : decode cX8_alter 18 = .ok (.ifCond .ne 28, 3) := by decide +kernel
theorem dX8_alter_21 : decode cX8_alter 21 = .ok (.iload_n 3, 1) := by decide +kernel
theorem dX8_alter_22 : decode cX8_alter 22 = .ok (.iconst 0, 1) := by decide +kernel
theorem dX8_alter_23 : decode cX8_alter 23 = .ok (.iconst 3, 1) := by decide +kernel
theorem dX8_alter_24 : decode cX8_alter 24 = .ok (.invokestatic 70, 3) := by decide +kernel
theorem dX8_alter_27 : decode cX8_alter 27 = .ok (.ifCond .eq 19, 3) := by decide +kernel
theorem dX8_alter_30 : decode cX8_alter 30 = .ok (.aload 4, 2) := by decide +kernel
theorem dX8_alter_32 : decode cX8_alter 32 = .ok (.getfield 130, 3) := by decide +kernel
theorem dX8_alter_35 : decode cX8_alter 35 = .ok (.istore 5, 2) := by decide +kernel
theorem dX8_alter_37 : decode cX8_alter 37 = .ok (.aload 4, 2) := by decide +kernel
theorem dX8_alter_39 : decode cX8_alter 39 = .ok (.iload_n 3, 1) := by decide +kernel
theorem dX8_alter_40 : decode cX8_alter 40 = .ok (.putfield 130, 3) := by decide +kernel
theorem dX8_alter_43 : decode cX8_alter 43 = .ok (.iload 5, 2) := by decide +kernel
theorem dX8_alter_45 : decode cX8_alter 45 = .ok (.ireturn, 1) := by decide +kernel
theorem dX8_alter_46 : decode cX8_alter 46 = .ok (.iload_n 2, 1) := by decide +kernel
theorem dX8_alter_47 : decode cX8_alter 47 = .ok (.iconst 1, 1) := by decide +kernel
theorem dX8_alter_48 : decode cX8_alter 48 = .ok (.if_icmp .ne 26, 3) := by decide +kernel
theorem dX8_alter_51 : decode cX8_alter 51 = .ok (.iload_n 3, 1) := by decide +kernel
theorem dX8_alter_52 : decode cX8_alter 52 = .ok (.invokestatic 182, 3) := by decide +kernel
theorem dX8_alter_55 : decode cX8_alter 55 = .ok (.ifCond .eq 19, 3) := by decide +kernel
theorem dX8_alter_58 : decode cX8_alter 58 = .ok (.aload 4, 2) := by decide +kernel
theorem dX8_alter_60 : decode cX8_alter 60 = .ok (.getfield 135, 3) := by decide +kernel
theorem dX8_alter_63 : decode cX8_alter 63 = .ok (.istore 5, 2) := by decide +kernel
theorem dX8_alter_65 : decode cX8_alter 65 = .ok (.aload 4, 2) := by decide +kernel
theorem dX8_alter_67 : decode cX8_alter 67 = .ok (.iload_n 3, 1) := by decide +kernel
theorem dX8_alter_68 : decode cX8_alter 68 = .ok (.putfield 135, 3) := by decide +kernel
theorem dX8_alter_71 : decode cX8_alter 71 = .ok (.iload 5, 2) := by decide +kernel
theorem dX8_alter_73 : decode cX8_alter 73 = .ok (.ireturn, 1) := by decide +kernel
theorem dX8_alter_74 : decode cX8_alter 74 = .ok (.iconst (-1), 1) := by decide +kernel
theorem dX8_alter_75 : decode cX8_alter 75 = .ok (.ireturn, 1) := by decide +kernel
theorem dX8_detour_0 : decode cX8_detour 0 = .ok (.aload_n 0, 1) := by decide +kernel
theorem dX8_detour_1 : decode cX8_detour 1 = .ok (.getfield 19, 3) := by decide +kernel
theorem dX8_detour_4 : decode cX8_detour 4 = .ok (.iload_n 1, 1) := by decide +kernel
theorem dX8_detour_5 : decode cX8_detour 5 = .ok (.invokevirtual 126, 3) := by decide +kernel
theorem dX8_detour_8 : decode cX8_detour 8 = .ok (.astore 4, 2) := by decide +kernel
theorem dX8_detour_10 : decode cX8_detour 10 = .ok (.aload 4, 2) := by decide +kernel
theorem dX8_detour_12 : decode cX8_detour 12 = .ok (.ifnull 19, 3) := by decide +kernel
theorem dX8_detour_15 : decode cX8_detour 15 = .ok (.aload 4, 2) := by decide +kernel
theorem dX8_detour_17 : decode cX8_detour 17 = .ok (.iload_n 2, 1) := by decide +kernel
theorem dX8_detour_18 : decode cX8_detour 18 = .ok (.invokevirtual 154, 3) := by decide +kernel
theorem dX8_detour_21 : decode cX8_detour 21 = .ok (.ifCond .eq 10, 3) := by decide +kernel
theorem dX8_detour_24 : decode cX8_detour 24 = .ok (.iload_n 3, 1) := by decide +kernel
theorem dX8_detour_25 : decode cX8_detour 25 = .ok (.invokestatic 185, 3) := by decide +kernel
theorem dX8_detour_28 : decode cX8_detour 28 = .ok (.ifCond .ne 5, 3) := by decide +kernel
theorem dX8_detour_31 : decode cX8_detour 31 = .ok (.iconst (-1), 1) := by decide +kernel
theorem dX8_detour_32 : decode cX8_detour 32 = .ok (.ireturn, 1) := by decide +kernel
theorem dX8_detour_33 : decode cX8_detour 33 = .ok (.aload 4, 2) := by decide +kernel
theorem dX8_detour_35 : decode cX8_detour 35 = .ok (.getfield 157, 3) := by decide +kernel
theorem dX8_detour_38 : decode cX8_detour 38 = .ok (.iload_n 2, 1) := by decide +kernel
theorem dX8_detour_39 : decode cX8_detour 39 = .ok (.iaload, 1) := by decide +kernel
theorem dX8_detour_40 : decode cX8_detour 40 = .ok (.istore 5, 2) := by decide +kernel
theorem dX8_detour_42 : decode cX8_detour 42 = .ok (.aload 4, 2) := by decide +kernel
theorem dX8_detour_44 : decode cX8_detour 44 = .ok (.getfield 157, 3) := by decide +kernel
theorem dX8_detour_47 : decode cX8_detour 47 = .ok (.iload_n 2, 1) := by decide +kernel
theorem dX8_detour_48 : decode cX8_detour 48 = .ok (.iload_n 3, 1) := by decide +kernel
theorem dX8_detour_49 : decode cX8_detour 49 = .ok (.iastore, 1) := by decide +kernel
theorem dX8_detour_50 : decode cX8_detour 50 = .ok (.aload_n 0, 1) := by decide +kernel
theorem dX8_detour_51 : decode cX8_detour 51 = .ok (.getfield 19, 3) := by decide +kernel
theorem dX8_detour_54 : decode cX8_detour 54 = .ok (.aload 4, 2) := by decide +kernel
theorem dX8_detour_56 : decode cX8_detour 56 = .ok (.invokevirtual 188, 3) := by decide +kernel
theorem dX8_detour_59 : decode cX8_detour 59 = .ok (.ifCond .ne 15, 3) := by decide +kernel
theorem dX8_detour_62 : decode cX8_detour 62 = .ok (.aload 4, 2) := by decide +kernel
theorem dX8_detour_64 : decode cX8_detour 64 = .ok (.getfield 157, 3) := by decide +kernel
theorem dX8_detour_67 : decode cX8_detour 67 = .ok (.iload_n 2, 1) := by decide +kernel
theorem dX8_detour_68 : decode cX8_detour 68 = .ok (.iload 5, 2) := by decide +kernel
theorem dX8_detour_70 : decode cX8_detour 70 = .ok (.iastore, 1) := by decide +kernel
theorem dX8_detour_71 : decode cX8_detour 71 = .ok (.bipush (-2), 2) := by decide +kernel
theorem dX8_detour_73 : decode cX8_detour 73 = .ok (.ireturn, 1) := by decide +kernel
theorem dX8_detour_74 : decode cX8_detour 74 = .ok (.iload 5, 2) := by decide +kernel
theorem dX8_detour_76 : decode cX8_detour 76 = .ok (.ireturn, 1) := by decide +kernel
theorem dX8_shift_0 : decode cX8_shift 0 = .ok (.aload_n 0, 1) := by decide +kernel
theorem dX8_shift_1 : decode cX8_shift 1 = .ok (.getfield 19, 3) := by decide +kernel
theorem dX8_shift_4 : decode cX8_shift 4 = .ok (.iload_n 1, 1) := by decide +kernel
theorem dX8_shift_5 : decode cX8_shift 5 = .ok (.invokevirtual 126, 3) := by decide +kernel
theorem dX8_shift_8 : decode cX8_shift 8 = .ok (.astore_n 3, 1) := by decide +kernel
theorem dX8_shift_9 : decode cX8_shift 9 = .ok (.aload_n 3, 1) := by decide +kernel
theorem dX8_shift_10 : decode cX8_shift 10 = .ok (.ifnull 11, 3) := by decide +kernel
theorem dX8_shift_13 : decode cX8_shift 13 = .ok (.aload_n 3, 1) := by decide +kernel
theorem dX8_shift_14 : decode cX8_shift 14 = .ok (.iload_n 2, 1) := by decide +kernel
theorem dX8_shift_15 : decode cX8_shift 15 = .ok (.invokevirtual 154, 3) := by decide +kernel
theorem dX8_shift_18 : decode cX8_shift 18 = .ok (.ifCond .ne 5, 3) := by decide +kernel
theorem dX8_shift_21 : decode cX8_shift 21 = .ok (.iconst (-1), 1) := by decide +kernel
theorem dX8_shift_22 : decode cX8_shift 22 = .ok (.ireturn, 1) := by decide +kernel
theorem dX8_shift_23 : decode cX8_shift 23 = .ok (.aload_n 3, 1) := by decide +kernel
theorem dX8_shift_24 : decode cX8_shift 24 = .ok (.getfield 157, 3) := by decide +kernel
theorem dX8_shift_27 : decode cX8_shift 27 = .ok (.iconst 0, 1) := by decide +kernel
theorem dX8_shift_28 : decode cX8_shift 28 = .ok (.iaload, 1) := by decide +kernel
theorem dX8_shift_29 : decode cX8_shift 29 = .ok (.istore 4, 2) := by decide +kernel
theorem dX8_shift_31 : decode cX8_shift 31 = .ok (.aload_n 3, 1) := by decide +kernel
theorem dX8_shift_32 : decode cX8_shift 32 = .ok (.iload_n 2, 1) := by decide +kernel
theorem dX8_shift_33 : decode cX8_shift 33 = .ok (.invokevirtual 192, 3) := by decide +kernel
theorem dX8_shift_36 : decode cX8_shift 36 = .ok (.iload 4, 2) := by decide +kernel
theorem dX8_shift_38 : decode cX8_shift 38 = .ok (.ireturn, 1) := by decide +kernel
theorem dX8_stand_0 : decode cX8_stand 0 = .ok (.aload_n 0, 1) := by decide +kernel
theorem dX8_stand_1 : decode cX8_stand 1 = .ok (.getfield 19, 3) := by decide +kernel
theorem dX8_stand_4 : decode cX8_stand 4 = .ok (.iload_n 1, 1) := by decide +kernel
theorem dX8_stand_5 : decode cX8_stand 5 = .ok (.invokevirtual 169, 3) := by decide +kernel
theorem dX8_stand_8 : decode cX8_stand 8 = .ok (.astore 4, 2) := by decide +kernel
theorem dX8_stand_10 : decode cX8_stand 10 = .ok (.aload 4, 2) := by decide +kernel
theorem dX8_stand_12 : decode cX8_stand 12 = .ok (.ifnonnull 5, 3) := by decide +kernel
theorem dX8_stand_15 : decode cX8_stand 15 = .ok (.iconst (-1), 1) := by decide +kernel
theorem dX8_stand_16 : decode cX8_stand 16 = .ok (.ireturn, 1) := by decide +kernel
theorem dX8_stand_17 : decode cX8_stand 17 = .ok (.iload_n 2, 1) := by decide +kernel
theorem dX8_stand_18 : decode cX8_stand 18 = .ok (.tableswitch 93 0 2 #[26, 44, 68], 26) := by decide +kernel
theorem dX8_stand_44 : decode cX8_stand 44 = .ok (.iload_n 3, 1) := by decide +kernel
theorem dX8_stand_45 : decode cX8_stand 45 = .ok (.invokestatic 185, 3) := by decide +kernel
theorem dX8_stand_48 : decode cX8_stand 48 = .ok (.ifCond .eq 12, 3) := by decide +kernel
theorem dX8_stand_51 : decode cX8_stand 51 = .ok (.aload 4, 2) := by decide +kernel
theorem dX8_stand_53 : decode cX8_stand 53 = .ok (.iload_n 3, 1) := by decide +kernel
theorem dX8_stand_54 : decode cX8_stand 54 = .ok (.invokevirtual 196, 3) := by decide +kernel
theorem dX8_stand_57 : decode cX8_stand 57 = .ok (.goto 4, 3) := by decide +kernel
theorem dX8_stand_60 : decode cX8_stand 60 = .ok (.iconst (-1), 1) := by decide +kernel
theorem dX8_stand_61 : decode cX8_stand 61 = .ok (.ireturn, 1) := by decide +kernel
theorem dX8_stand_62 : decode cX8_stand 62 = .ok (.iload_n 3, 1) := by decide +kernel
theorem dX8_stand_63 : decode cX8_stand 63 = .ok (.iconst 0, 1) := by decide +kernel
theorem dX8_stand_64 : decode cX8_stand 64 = .ok (.aload 4, 2) := by decide +kernel
theorem dX8_stand_66 : decode cX8_stand 66 = .ok (.getfield 179, 3) := by decide +kernel
theorem dX8_stand_69 : decode cX8_stand 69 = .ok (.invokestatic 70, 3) := by decide +kernel
theorem dX8_stand_72 : decode cX8_stand 72 = .ok (.ifCond .eq 12, 3) := by decide +kernel
theorem dX8_stand_75 : decode cX8_stand 75 = .ok (.aload 4, 2) := by decide +kernel
theorem dX8_stand_77 : decode cX8_stand 77 = .ok (.iload_n 3, 1) := by decide +kernel
theorem dX8_stand_78 : decode cX8_stand 78 = .ok (.invokevirtual 199, 3) := by decide +kernel
theorem dX8_stand_81 : decode cX8_stand 81 = .ok (.goto 4, 3) := by decide +kernel
theorem dX8_stand_84 : decode cX8_stand 84 = .ok (.iconst (-1), 1) := by decide +kernel
theorem dX8_stand_85 : decode cX8_stand 85 = .ok (.ireturn, 1) := by decide +kernel
theorem dX8_stand_86 : decode cX8_stand 86 = .ok (.iload_n 3, 1) := by decide +kernel
theorem dX8_stand_87 : decode cX8_stand 87 = .ok (.aload 4, 2) := by decide +kernel
theorem dX8_stand_89 : decode cX8_stand 89 = .ok (.getfield 176, 3) := by decide +kernel
theorem dX8_stand_92 : decode cX8_stand 92 = .ok (.bipush 59, 2) := by decide +kernel
theorem dX8_stand_94 : decode cX8_stand 94 = .ok (.invokestatic 70, 3) := by decide +kernel
theorem dX8_stand_97 : decode cX8_stand 97 = .ok (.ifCond .eq 12, 3) := by decide +kernel
theorem dX8_stand_100 : decode cX8_stand 100 = .ok (.aload 4, 2) := by decide +kernel
theorem dX8_stand_102 : decode cX8_stand 102 = .ok (.iload_n 3, 1) := by decide +kernel
theorem dX8_stand_103 : decode cX8_stand 103 = .ok (.invokevirtual 202, 3) := by decide +kernel
theorem dX8_stand_106 : decode cX8_stand 106 = .ok (.goto 4, 3) := by decide +kernel
theorem dX8_stand_109 : decode cX8_stand 109 = .ok (.iconst (-1), 1) := by decide +kernel
theorem dX8_stand_110 : decode cX8_stand 110 = .ok (.ireturn, 1) := by decide +kernel
theorem dX8_stand_111 : decode cX8_stand 111 = .ok (.iconst (-1), 1) := by decide +kernel
theorem dX8_stand_112 : decode cX8_stand 112 = .ok (.ireturn, 1) := by decide +kernel
theorem dX8_rain_0 : decode cX8_rain 0 = .ok (.iload_n 1, 1) := by decide +kernel
theorem dX8_rain_1 : decode cX8_rain 1 = .ok (.invokestatic 205, 3) := by decide +kernel
theorem dX8_rain_4 : decode cX8_rain 4 = .ok (.ifCond .eq 10, 3) := by decide +kernel
theorem dX8_rain_7 : decode cX8_rain 7 = .ok (.iload_n 2, 1) := by decide +kernel
theorem dX8_rain_8 : decode cX8_rain 8 = .ok (.invokestatic 205, 3) := by decide +kernel
theorem dX8_rain_11 : decode cX8_rain 11 = .ok (.ifCond .ne 5, 3) := by decide +kernel
theorem dX8_rain_14 : decode cX8_rain 14 = .ok (.iconst (-1), 1) := by decide +kernel
theorem dX8_rain_15 : decode cX8_rain 15 = .ok (.ireturn, 1) := by decide +kernel
theorem dX8_rain_16 : decode cX8_rain 16 = .ok (.aload_n 0, 1) := by decide +kernel
theorem dX8_rain_17 : decode cX8_rain 17 = .ok (.getfield 19, 3) := by decide +kernel
theorem dX8_rain_20 : decode cX8_rain 20 = .ok (.getfield 116, 3) := by decide +kernel
theorem dX8_rain_23 : decode cX8_rain 23 = .ok (.istore_n 3, 1) := by decide +kernel
theorem dX8_rain_24 : decode cX8_rain 24 = .ok (.aload_n 0, 1) := by decide +kernel
theorem dX8_rain_25 : decode cX8_rain 25 = .ok (.getfield 19, 3) := by decide +kernel
theorem dX8_rain_28 : decode cX8_rain 28 = .ok (.iload_n 1, 1) := by decide +kernel
theorem dX8_rain_29 : decode cX8_rain 29 = .ok (.iload_n 2, 1) := by decide +kernel
theorem dX8_rain_30 : decode cX8_rain 30 = .ok (.invokevirtual 208, 3) := by decide +kernel
theorem dX8_rain_33 : decode cX8_rain 33 = .ok (.iload_n 3, 1) := by decide +kernel
theorem dX8_rain_34 : decode cX8_rain 34 = .ok (.ireturn, 1) := by decide +kernel
theorem dX8_pave_0 : decode cX8_pave 0 = .ok (.iload_n 1, 1) := by decide +kernel
theorem dX8_pave_1 : decode cX8_pave 1 = .ok (.invokestatic 185, 3) := by decide +kernel
theorem dX8_pave_4 : decode cX8_pave 4 = .ok (.ifCond .eq 15, 3) := by decide +kernel
theorem dX8_pave_7 : decode cX8_pave 7 = .ok (.iload_n 2, 1) := by decide +kernel
theorem dX8_pave_8 : decode cX8_pave 8 = .ok (.invokestatic 185, 3) := by decide +kernel
theorem dX8_pave_11 : decode cX8_pave 11 = .ok (.ifCond .eq 8, 3) := by decide +kernel
theorem dX8_pave_14 : decode cX8_pave 14 = .ok (.iload_n 1, 1) := by decide +kernel
theorem dX8_pave_15 : decode cX8_pave 15 = .ok (.iload_n 2, 1) := by decide +kernel
theorem dX8_pave_16 : decode cX8_pave 16 = .ok (.if_icmp .ne 5, 3) := by decide +kernel
theorem dX8_pave_19 : decode cX8_pave 19 = .ok (.iconst (-1), 1) := by decide +kernel
theorem dX8_pave_20 : decode cX8_pave 20 = .ok (.ireturn, 1) := by decide +kernel
theorem dX8_pave_21 : decode cX8_pave 21 = .ok (.aload_n 0, 1) := by decide +kernel
theorem dX8_pave_22 : decode cX8_pave 22 = .ok (.getfield 19, 3) := by decide +kernel
theorem dX8_pave_25 : decode cX8_pave 25 = .ok (.iload_n 1, 1) := by decide +kernel
theorem dX8_pave_26 : decode cX8_pave 26 = .ok (.iload_n 2, 1) := by decide +kernel
theorem dX8_pave_27 : decode cX8_pave 27 = .ok (.invokevirtual 212, 3) := by decide +kernel
theorem dX8_pave_30 : decode cX8_pave 30 = .ok (.ifCond .eq 13, 3) := by decide +kernel
theorem dX8_pave_33 : decode cX8_pave 33 = .ok (.aload_n 0, 1) := by decide +kernel
theorem dX8_pave_34 : decode cX8_pave 34 = .ok (.getfield 19, 3) := by decide +kernel
theorem dX8_pave_37 : decode cX8_pave 37 = .ok (.getfield 110, 3) := by decide +kernel
theorem dX8_pave_40 : decode cX8_pave 40 = .ok (.goto 5, 3) := by decide +kernel
theorem dX8_pave_43 : decode cX8_pave 43 = .ok (.bipush (-3), 2) := by decide +kernel
theorem dX8_pave_45 : decode cX8_pave 45 = .ok (.ireturn, 1) := by decide +kernel
theorem dX8_at_0 : decode cX8_at 0 = .ok (.aload_n 0, 1) := by decide +kernel
theorem dX8_at_1 : decode cX8_at 1 = .ok (.getfield 19, 3) := by decide +kernel
theorem dX8_at_4 : decode cX8_at 4 = .ok (.iload_n 1, 1) := by decide +kernel
theorem dX8_at_5 : decode cX8_at 5 = .ok (.invokevirtual 126, 3) := by decide +kernel
theorem dX8_at_8 : decode cX8_at 8 = .ok (.astore_n 3, 1) := by decide +kernel
theorem dX8_at_9 : decode cX8_at 9 = .ok (.aload_n 3, 1) := by decide +kernel
theorem dX8_at_10 : decode cX8_at 10 = .ok (.ifnull 10, 3) := by decide +kernel
theorem dX8_at_13 : decode cX8_at 13 = .ok (.iload_n 2, 1) := by decide +kernel
theorem dX8_at_14 : decode cX8_at 14 = .ok (.invokestatic 205, 3) := by decide +kernel
theorem dX8_at_17 : decode cX8_at 17 = .ok (.ifCond .ne 7, 3) := by decide +kernel
theorem dX8_at_20 : decode cX8_at 20 = .ok (.iconst (-1), 1) := by decide +kernel
theorem dX8_at_21 : decode cX8_at 21 = .ok (.goto 8, 3) := by decide +kernel
theorem dX8_at_24 : decode cX8_at 24 = .ok (.aload_n 3, 1) := by decide +kernel
theorem dX8_at_25 : decode cX8_at 25 = .ok (.iload_n 2, 1) := by decide +kernel
theorem dX8_at_26 : decode cX8_at 26 = .ok (.invokevirtual 216, 3) := by decide +kernel
theorem dX8_at_29 : decode cX8_at 29 = .ok (.ireturn, 1) := by decide +kernel
theorem dX8_reads_0 : decode cX8_reads 0 = .ok (.aload_n 0, 1) := by decide +kernel
theorem dX8_reads_1 : decode cX8_reads 1 = .ok (.getfield 19, 3) := by decide +kernel
theorem dX8_reads_4 : decode cX8_reads 4 = .ok (.iload_n 1, 1) := by decide +kernel
theorem dX8_reads_5 : decode cX8_reads 5 = .ok (.invokevirtual 169, 3) := by decide +kernel
theorem dX8_reads_8 : decode cX8_reads 8 = .ok (.astore 4, 2) := by decide +kernel
theorem dX8_reads_10 : decode cX8_reads 10 = .ok (.aload 4, 2) := by decide +kernel
theorem dX8_reads_12 : decode cX8_reads 12 = .ok (.ifnull 17, 3) := by decide +kernel
theorem dX8_reads_15 : decode cX8_reads 15 = .ok (.iload_n 2, 1) := by decide +kernel
theorem dX8_reads_16 : decode cX8_reads 16 = .ok (.invokestatic 205, 3) := by decide +kernel
theorem dX8_reads_19 : decode cX8_reads 19 = .ok (.ifCond .eq 10, 3) := by decide +kernel
theorem dX8_reads_22 : decode cX8_reads 22 = .ok (.iload_n 3, 1) := by decide +kernel
theorem dX8_reads_23 : decode cX8_reads 23 = .ok (.invokestatic 160, 3) := by decide +kernel
theorem dX8_reads_26 : decode cX8_reads 26 = .ok (.ifCond .ne 5, 3) := by decide +kernel
theorem dX8_reads_29 : decode cX8_reads 29 = .ok (.iconst (-1), 1) := by decide +kernel
theorem dX8_reads_30 : decode cX8_reads 30 = .ok (.ireturn, 1) := by decide +kernel
theorem dX8_reads_31 : decode cX8_reads 31 = .ok (.aload_n 0, 1) := by decide +kernel
theorem dX8_reads_32 : decode cX8_reads 32 = .ok (.getfield 19, 3) := by decide +kernel
theorem dX8_reads_35 : decode cX8_reads 35 = .ok (.aload 4, 2) := by decide +kernel
theorem dX8_reads_37 : decode cX8_reads 37 = .ok (.iload_n 2, 1) := by decide +kernel
theorem dX8_reads_38 : decode cX8_reads 38 = .ok (.iload_n 3, 1) := by decide +kernel
theorem dX8_reads_39 : decode cX8_reads 39 = .ok (.invokevirtual 219, 3) := by decide +kernel
theorem dX8_reads_42 : decode cX8_reads 42 = .ok (.ireturn, 1) := by decide +kernel
theorem dX8_knows_0 : decode cX8_knows 0 = .ok (.aload_n 0, 1) := by decide +kernel
theorem dX8_knows_1 : decode cX8_knows 1 = .ok (.getfield 19, 3) := by decide +kernel
theorem dX8_knows_4 : decode cX8_knows 4 = .ok (.iload_n 1, 1) := by decide +kernel
theorem dX8_knows_5 : decode cX8_knows 5 = .ok (.invokevirtual 169, 3) := by decide +kernel
theorem dX8_knows_8 : decode cX8_knows 8 = .ok (.astore 4, 2) := by decide +kernel
theorem dX8_knows_10 : decode cX8_knows 10 = .ok (.aload 4, 2) := by decide +kernel
end
section
theorem dX8_knows_12 : decode cX8_knows 12 = .ok (.ifnull 10, 3) := by decide +kernel
theorem dX8_knows_15 : decode cX8_knows 15 = .ok (.iload_n 2, 1) := by decide +kernel
theorem dX8_knows_16 : decode cX8_knows 16 = .ok (.invokestatic 205, 3) := by decide +kernel
theorem dX8_knows_19 : decode cX8_knows 19 = .ok (.ifCond .ne 5, 3) := by decide +kernel
theorem dX8_knows_22 : decode cX8_knows 22 = .ok (.iconst (-1), 1) := by decide +kernel
theorem dX8_knows_23 : decode cX8_knows 23 = .ok (.ireturn, 1) := by decide +kernel
theorem dX8_knows_24 : decode cX8_knows 24 = .ok (.iconst 0, 1) := by decide +kernel
theorem dX8_knows_25 : decode cX8_knows 25 = .ok (.iload_n 2, 1) := by decide +kernel
theorem dX8_knows_26 : decode cX8_knows 26 = .ok (.invokestatic 223, 3) := by decide +kernel
theorem dX8_knows_29 : decode cX8_knows 29 = .ok (.lstore 5, 2) := by decide +kernel
theorem dX8_knows_31 : decode cX8_knows 31 = .ok (.iload_n 3, 1) := by decide +kernel
theorem dX8_knows_32 : decode cX8_knows 32 = .ok (.tableswitch 72 0 2 #[28, 43, 58], 28) := by decide +kernel
theorem dX8_knows_60 : decode cX8_knows 60 = .ok (.aload_n 0, 1) := by decide +kernel
theorem dX8_knows_61 : decode cX8_knows 61 = .ok (.getfield 19, 3) := by decide +kernel
theorem dX8_knows_64 : decode cX8_knows 64 = .ok (.aload 4, 2) := by decide +kernel
theorem dX8_knows_66 : decode cX8_knows 66 = .ok (.iconst 0, 1) := by decide +kernel
theorem dX8_knows_67 : decode cX8_knows 67 = .ok (.lload 5, 2) := by decide +kernel
theorem dX8_knows_69 : decode cX8_knows 69 = .ok (.bipush 15, 2) := by decide +kernel
theorem dX8_knows_71 : decode cX8_knows 71 = .ok (.invokevirtual 227, 3) := by decide +kernel
theorem dX8_knows_74 : decode cX8_knows 74 = .ok (.ireturn, 1) := by decide +kernel
theorem dX8_knows_75 : decode cX8_knows 75 = .ok (.aload_n 0, 1) := by decide +kernel
theorem dX8_knows_76 : decode cX8_knows 76 = .ok (.getfield 19, 3) := by decide +kernel
theorem dX8_knows_79 : decode cX8_knows 79 = .ok (.aload 4, 2) := by decide +kernel
theorem dX8_knows_81 : decode cX8_knows 81 = .ok (.iconst 1, 1) := by decide +kernel
theorem dX8_knows_82 : decode cX8_knows 82 = .ok (.lload 5, 2) := by decide +kernel
theorem dX8_knows_84 : decode cX8_knows 84 = .ok (.bipush 15, 2) := by decide +kernel
theorem dX8_knows_86 : decode cX8_knows 86 = .ok (.invokevirtual 227, 3) := by decide +kernel
theorem dX8_knows_89 : decode cX8_knows 89 = .ok (.ireturn, 1) := by decide +kernel
theorem dX8_knows_90 : decode cX8_knows 90 = .ok (.aload_n 0, 1) := by decide +kernel
theorem dX8_knows_91 : decode cX8_knows 91 = .ok (.getfield 19, 3) := by decide +kernel
theorem dX8_knows_94 : decode cX8_knows 94 = .ok (.aload 4, 2) := by decide +kernel
theorem dX8_knows_96 : decode cX8_knows 96 = .ok (.lload 5, 2) := by decide +kernel
theorem dX8_knows_98 : decode cX8_knows 98 = .ok (.bipush 15, 2) := by decide +kernel
theorem dX8_knows_100 : decode cX8_knows 100 = .ok (.invokevirtual 231, 3) := by decide +kernel
theorem dX8_knows_103 : decode cX8_knows 103 = .ok (.ireturn, 1) := by decide +kernel
theorem dX8_knows_104 : decode cX8_knows 104 = .ok (.iconst (-1), 1) := by decide +kernel
theorem dX8_knows_105 : decode cX8_knows 105 = .ok (.ireturn, 1) := by decide +kernel
theorem dX8_first_0 : decode cX8_first 0 = .ok (.aload_n 0, 1) := by decide +kernel
theorem dX8_first_1 : decode cX8_first 1 = .ok (.getfield 19, 3) := by decide +kernel
theorem dX8_first_4 : decode cX8_first 4 = .ok (.iload_n 1, 1) := by decide +kernel
theorem dX8_first_5 : decode cX8_first 5 = .ok (.invokevirtual 169, 3) := by decide +kernel
theorem dX8_first_8 : decode cX8_first 8 = .ok (.astore_n 3, 1) := by decide +kernel
theorem dX8_first_9 : decode cX8_first 9 = .ok (.aload_n 3, 1) := by decide +kernel
theorem dX8_first_10 : decode cX8_first 10 = .ok (.ifnull 10, 3) := by decide +kernel
theorem dX8_first_13 : decode cX8_first 13 = .ok (.iload_n 2, 1) := by decide +kernel
theorem dX8_first_14 : decode cX8_first 14 = .ok (.invokestatic 182, 3) := by decide +kernel
theorem dX8_first_17 : decode cX8_first 17 = .ok (.ifCond .ne 7, 3) := by decide +kernel
theorem dX8_first_20 : decode cX8_first 20 = .ok (.iconst (-1), 1) := by decide +kernel
theorem dX8_first_21 : decode cX8_first 21 = .ok (.goto 12, 3) := by decide +kernel
theorem dX8_first_24 : decode cX8_first 24 = .ok (.aload_n 0, 1) := by decide +kernel
theorem dX8_first_25 : decode cX8_first 25 = .ok (.getfield 19, 3) := by decide +kernel
theorem dX8_first_28 : decode cX8_first 28 = .ok (.aload_n 3, 1) := by decide +kernel
theorem dX8_first_29 : decode cX8_first 29 = .ok (.iload_n 2, 1) := by decide +kernel
theorem dX8_first_30 : decode cX8_first 30 = .ok (.invokevirtual 235, 3) := by decide +kernel
theorem dX8_first_33 : decode cX8_first 33 = .ok (.ireturn, 1) := by decide +kernel
theorem dX8_all_0 : decode cX8_all 0 = .ok (.iload_n 1, 1) := by decide +kernel
theorem dX8_all_1 : decode cX8_all 1 = .ok (.invokestatic 182, 3) := by decide +kernel
theorem dX8_all_4 : decode cX8_all 4 = .ok (.ifCond .ne 5, 3) := by decide +kernel
theorem dX8_all_7 : decode cX8_all 7 = .ok (.iconst (-1), 1) := by decide +kernel
theorem dX8_all_8 : decode cX8_all 8 = .ok (.ireturn, 1) := by decide +kernel
theorem dX8_all_9 : decode cX8_all 9 = .ok (.iconst 0, 1) := by decide +kernel
theorem dX8_all_10 : decode cX8_all 10 = .ok (.istore_n 2, 1) := by decide +kernel
theorem dX8_all_11 : decode cX8_all 11 = .ok (.iconst 0, 1) := by decide +kernel
theorem dX8_all_12 : decode cX8_all 12 = .ok (.istore_n 3, 1) := by decide +kernel
theorem dX8_all_13 : decode cX8_all 13 = .ok (.iload_n 3, 1) := by decide +kernel
theorem dX8_all_14 : decode cX8_all 14 = .ok (.aload_n 0, 1) := by decide +kernel
theorem dX8_all_15 : decode cX8_all 15 = .ok (.getfield 19, 3) := by decide +kernel
theorem dX8_all_18 : decode cX8_all 18 = .ok (.getfield 113, 3) := by decide +kernel
theorem dX8_all_21 : decode cX8_all 21 = .ok (.if_icmp .ge 37, 3) := by decide +kernel
theorem dX8_all_24 : decode cX8_all 24 = .ok (.aload_n 0, 1) := by decide +kernel
theorem dX8_all_25 : decode cX8_all 25 = .ok (.getfield 19, 3) := by decide +kernel
theorem dX8_all_28 : decode cX8_all 28 = .ok (.aload_n 0, 1) := by decide +kernel
theorem dX8_all_29 : decode cX8_all 29 = .ok (.getfield 19, 3) := by decide +kernel
theorem dX8_all_32 : decode cX8_all 32 = .ok (.getfield 239, 3) := by decide +kernel
theorem dX8_all_35 : decode cX8_all 35 = .ok (.iload_n 3, 1) := by decide +kernel
theorem dX8_all_36 : decode cX8_all 36 = .ok (.aaload, 1) := by decide +kernel
theorem dX8_all_37 : decode cX8_all 37 = .ok (.iload_n 1, 1) := by decide +kernel
theorem dX8_all_38 : decode cX8_all 38 = .ok (.invokevirtual 235, 3) := by decide +kernel
theorem dX8_all_41 : decode cX8_all 41 = .ok (.bipush (-4), 2) := by decide +kernel
theorem dX8_all_43 : decode cX8_all 43 = .ok (.if_icmp .eq 9, 3) := by decide +kernel
theorem dX8_all_46 : decode cX8_all 46 = .ok (.iload_n 2, 1) := by decide +kernel
theorem dX8_all_47 : decode cX8_all 47 = .ok (.iconst 1, 1) := by decide +kernel
theorem dX8_all_48 : decode cX8_all 48 = .ok (.iload_n 3, 1) := by decide +kernel
theorem dX8_all_49 : decode cX8_all 49 = .ok (.ishl, 1) := by decide +kernel
theorem dX8_all_50 : decode cX8_all 50 = .ok (.ior, 1) := by decide +kernel
theorem dX8_all_51 : decode cX8_all 51 = .ok (.istore_n 2, 1) := by decide +kernel
theorem dX8_all_52 : decode cX8_all 52 = .ok (.iinc 3 1, 3) := by decide +kernel
theorem dX8_all_55 : decode cX8_all 55 = .ok (.goto (-42), 3) := by decide +kernel
theorem dX8_all_58 : decode cX8_all 58 = .ok (.iload_n 2, 1) := by decide +kernel
theorem dX8_all_59 : decode cX8_all 59 = .ok (.ireturn, 1) := by decide +kernel
theorem dX8_meet_0 : decode cX8_meet 0 = .ok (.aload_n 0, 1) := by decide +kernel
theorem dX8_meet_1 : decode cX8_meet 1 = .ok (.getfield 19, 3) := by decide +kernel
theorem dX8_meet_4 : decode cX8_meet 4 = .ok (.iload_n 1, 1) := by decide +kernel
theorem dX8_meet_5 : decode cX8_meet 5 = .ok (.invokevirtual 126, 3) := by decide +kernel
theorem dX8_meet_8 : decode cX8_meet 8 = .ok (.astore_n 3, 1) := by decide +kernel
theorem dX8_meet_9 : decode cX8_meet 9 = .ok (.aload_n 0, 1) := by decide +kernel
theorem dX8_meet_10 : decode cX8_meet 10 = .ok (.getfield 19, 3) := by decide +kernel
theorem dX8_meet_13 : decode cX8_meet 13 = .ok (.iload_n 2, 1) := by decide +kernel
theorem dX8_meet_14 : decode cX8_meet 14 = .ok (.invokevirtual 126, 3) := by decide +kernel
theorem dX8_meet_17 : decode cX8_meet 17 = .ok (.astore 4, 2) := by decide +kernel
theorem dX8_meet_19 : decode cX8_meet 19 = .ok (.aload_n 3, 1) := by decide +kernel
theorem dX8_meet_20 : decode cX8_meet 20 = .ok (.ifnull 13, 3) := by decide +kernel
theorem dX8_meet_23 : decode cX8_meet 23 = .ok (.aload 4, 2) := by decide +kernel
theorem dX8_meet_25 : decode cX8_meet 25 = .ok (.ifnull 8, 3) := by decide +kernel
theorem dX8_meet_28 : decode cX8_meet 28 = .ok (.iload_n 1, 1) := by decide +kernel
theorem dX8_meet_29 : decode cX8_meet 29 = .ok (.iload_n 2, 1) := by decide +kernel
theorem dX8_meet_30 : decode cX8_meet 30 = .ok (.if_icmp .ne 5, 3) := by decide +kernel
theorem dX8_meet_33 : decode cX8_meet 33 = .ok (.iconst (-1), 1) := by decide +kernel
theorem dX8_meet_34 : decode cX8_meet 34 = .ok (.ireturn, 1) := by decide +kernel
theorem dX8_meet_35 : decode cX8_meet 35 = .ok (.iconst 0, 1) := by decide +kernel
theorem dX8_meet_36 : decode cX8_meet 36 = .ok (.istore 5, 2) := by decide +kernel
theorem dX8_meet_38 : decode cX8_meet 38 = .ok (.iload 5, 2) := by decide +kernel
theorem dX8_meet_40 : decode cX8_meet 40 = .ok (.bipush 60, 2) := by decide +kernel
theorem dX8_meet_42 : decode cX8_meet 42 = .ok (.if_icmp .ge 39, 3) := by decide +kernel
theorem dX8_meet_45 : decode cX8_meet 45 = .ok (.aload_n 3, 1) := by decide +kernel
theorem dX8_meet_46 : decode cX8_meet 46 = .ok (.iload 5, 2) := by decide +kernel
theorem dX8_meet_48 : decode cX8_meet 48 = .ok (.invokevirtual 216, 3) := by decide +kernel
theorem dX8_meet_51 : decode cX8_meet 51 = .ok (.istore 6, 2) := by decide +kernel
theorem dX8_meet_53 : decode cX8_meet 53 = .ok (.iload 6, 2) := by decide +kernel
theorem dX8_meet_55 : decode cX8_meet 55 = .ok (.bipush (-4), 2) := by decide +kernel
theorem dX8_meet_57 : decode cX8_meet 57 = .ok (.if_icmp .eq 18, 3) := by decide +kernel
theorem dX8_meet_60 : decode cX8_meet 60 = .ok (.iload 6, 2) := by decide +kernel
theorem dX8_meet_62 : decode cX8_meet 62 = .ok (.aload 4, 2) := by decide +kernel
theorem dX8_meet_64 : decode cX8_meet 64 = .ok (.iload 5, 2) := by decide +kernel
theorem dX8_meet_66 : decode cX8_meet 66 = .ok (.invokevirtual 216, 3) := by decide +kernel
theorem dX8_meet_69 : decode cX8_meet 69 = .ok (.if_icmp .ne 6, 3) := by decide +kernel
theorem dX8_meet_72 : decode cX8_meet 72 = .ok (.iload 5, 2) := by decide +kernel
theorem dX8_meet_74 : decode cX8_meet 74 = .ok (.ireturn, 1) := by decide +kernel
theorem dX8_meet_75 : decode cX8_meet 75 = .ok (.iinc 5 1, 3) := by decide +kernel
theorem dX8_meet_78 : decode cX8_meet 78 = .ok (.goto (-40), 3) := by decide +kernel
theorem dX8_meet_81 : decode cX8_meet 81 = .ok (.bipush (-4), 2) := by decide +kernel
theorem dX8_meet_83 : decode cX8_meet 83 = .ok (.ireturn, 1) := by decide +kernel
theorem dX8_best_0 : decode cX8_best 0 = .ok (.aload_n 0, 1) := by decide +kernel
theorem dX8_best_1 : decode cX8_best 1 = .ok (.getfield 19, 3) := by decide +kernel
theorem dX8_best_4 : decode cX8_best 4 = .ok (.iload_n 1, 1) := by decide +kernel
theorem dX8_best_5 : decode cX8_best 5 = .ok (.invokevirtual 169, 3) := by decide +kernel
theorem dX8_best_8 : decode cX8_best 8 = .ok (.astore_n 3, 1) := by decide +kernel
theorem dX8_best_9 : decode cX8_best 9 = .ok (.aload_n 3, 1) := by decide +kernel
theorem dX8_best_10 : decode cX8_best 10 = .ok (.ifnull 10, 3) := by decide +kernel
theorem dX8_best_13 : decode cX8_best 13 = .ok (.iload_n 2, 1) := by decide +kernel
theorem dX8_best_14 : decode cX8_best 14 = .ok (.invokestatic 160, 3) := by decide +kernel
theorem dX8_best_17 : decode cX8_best 17 = .ok (.ifCond .ne 5, 3) := by decide +kernel
theorem dX8_best_20 : decode cX8_best 20 = .ok (.iconst (-1), 1) := by decide +kernel
theorem dX8_best_21 : decode cX8_best 21 = .ok (.ireturn, 1) := by decide +kernel
theorem dX8_best_22 : decode cX8_best 22 = .ok (.aload_n 0, 1) := by decide +kernel
theorem dX8_best_23 : decode cX8_best 23 = .ok (.getfield 50, 3) := by decide +kernel
theorem dX8_best_26 : decode cX8_best 26 = .ok (.aload_n 3, 1) := by decide +kernel
theorem dX8_best_27 : decode cX8_best 27 = .ok (.invokevirtual 243, 3) := by decide +kernel
theorem dX8_best_30 : decode cX8_best 30 = .ok (.aload_n 0, 1) := by decide +kernel
theorem dX8_best_31 : decode cX8_best 31 = .ok (.getfield 57, 3) := by decide +kernel
theorem dX8_best_34 : decode cX8_best 34 = .ok (.sipush (-1000), 3) := by decide +kernel
theorem dX8_best_37 : decode cX8_best 37 = .ok (.invokevirtual 246, 3) := by decide +kernel
theorem dX8_best_40 : decode cX8_best 40 = .ok (.iconst 0, 1) := by decide +kernel
theorem dX8_best_41 : decode cX8_best 41 = .ok (.istore 4, 2) := by decide +kernel
theorem dX8_best_43 : decode cX8_best 43 = .ok (.iload 4, 2) := by decide +kernel
theorem dX8_best_45 : decode cX8_best 45 = .ok (.bipush 8, 2) := by decide +kernel
theorem dX8_best_47 : decode cX8_best 47 = .ok (.if_icmp .ge 46, 3) := by decide +kernel
theorem dX8_best_50 : decode cX8_best 50 = .ok (.aload_n 0, 1) := by decide +kernel
theorem dX8_best_51 : decode cX8_best 51 = .ok (.getfield 50, 3) := by decide +kernel
theorem dX8_best_54 : decode cX8_best 54 = .ok (.iload 4, 2) := by decide +kernel
theorem dX8_best_56 : decode cX8_best 56 = .ok (.putfield 173, 3) := by decide +kernel
theorem dX8_best_59 : decode cX8_best 59 = .ok (.aload_n 0, 1) := by decide +kernel
theorem dX8_best_60 : decode cX8_best 60 = .ok (.getfield 57, 3) := by decide +kernel
theorem dX8_best_63 : decode cX8_best 63 = .ok (.iload 4, 2) := by decide +kernel
theorem dX8_best_65 : decode cX8_best 65 = .ok (.aload_n 0, 1) := by decide +kernel
theorem dX8_best_66 : decode cX8_best 66 = .ok (.getfield 19, 3) := by decide +kernel
theorem dX8_best_69 : decode cX8_best 69 = .ok (.aload_n 0, 1) := by decide +kernel
theorem dX8_best_70 : decode cX8_best 70 = .ok (.getfield 50, 3) := by decide +kernel
theorem dX8_best_73 : decode cX8_best 73 = .ok (.ldc2_w 249, 3) := by decide +kernel
theorem dX8_best_76 : decode cX8_best 76 = .ok (.bipush 15, 2) := by decide +kernel
theorem dX8_best_78 : decode cX8_best 78 = .ok (.invokevirtual 231, 3) := by decide +kernel
theorem dX8_best_81 : decode cX8_best 81 = .ok (.invokestatic 251, 3) := by decide +kernel
theorem dX8_best_84 : decode cX8_best 84 = .ok (.invokevirtual 255, 3) := by decide +kernel
theorem dX8_best_87 : decode cX8_best 87 = .ok (.iinc 4 1, 3) := by decide +kernel
theorem dX8_best_90 : decode cX8_best 90 = .ok (.goto (-47), 3) := by decide +kernel
theorem dX8_best_93 : decode cX8_best 93 = .ok (.aload_n 0, 1) := by decide +kernel
theorem dX8_best_94 : decode cX8_best 94 = .ok (.getfield 57, 3) := by decide +kernel
theorem dX8_best_97 : decode cX8_best 97 = .ok (.iload_n 2, 1) := by decide +kernel
theorem dX8_best_98 : decode cX8_best 98 = .ok (.invokevirtual 258, 3) := by decide +kernel
theorem dX8_best_101 : decode cX8_best 101 = .ok (.ireturn, 1) := by decide +kernel
theorem dX8_late_0 : decode cX8_late 0 = .ok (.aload_n 0, 1) := by decide +kernel
theorem dX8_late_1 : decode cX8_late 1 = .ok (.getfield 19, 3) := by decide +kernel
theorem dX8_late_4 : decode cX8_late 4 = .ok (.iload_n 1, 1) := by decide +kernel
theorem dX8_late_5 : decode cX8_late 5 = .ok (.invokevirtual 169, 3) := by decide +kernel
theorem dX8_late_8 : decode cX8_late 8 = .ok (.astore_n 3, 1) := by decide +kernel
theorem dX8_late_9 : decode cX8_late 9 = .ok (.aload_n 3, 1) := by decide +kernel
theorem dX8_late_10 : decode cX8_late 10 = .ok (.ifnull 10, 3) := by decide +kernel
theorem dX8_late_13 : decode cX8_late 13 = .ok (.iload_n 2, 1) := by decide +kernel
theorem dX8_late_14 : decode cX8_late 14 = .ok (.invokestatic 182, 3) := by decide +kernel
theorem dX8_late_17 : decode cX8_late 17 = .ok (.ifCond .ne 5, 3) := by decide +kernel
theorem dX8_late_20 : decode cX8_late 20 = .ok (.iconst (-1), 1) := by decide +kernel
theorem dX8_late_21 : decode cX8_late 21 = .ok (.ireturn, 1) := by decide +kernel
theorem dX8_late_22 : decode cX8_late 22 = .ok (.aload_n 0, 1) := by decide +kernel
theorem dX8_late_23 : decode cX8_late 23 = .ok (.getfield 50, 3) := by decide +kernel
theorem dX8_late_26 : decode cX8_late 26 = .ok (.aload_n 3, 1) := by decide +kernel
theorem dX8_late_27 : decode cX8_late 27 = .ok (.invokevirtual 243, 3) := by decide +kernel
theorem dX8_late_30 : decode cX8_late 30 = .ok (.aload_n 0, 1) := by decide +kernel
theorem dX8_late_31 : decode cX8_late 31 = .ok (.getfield 50, 3) := by decide +kernel
theorem dX8_late_34 : decode cX8_late 34 = .ok (.iconst 0, 1) := by decide +kernel
theorem dX8_late_35 : decode cX8_late 35 = .ok (.putfield 176, 3) := by decide +kernel
theorem dX8_late_38 : decode cX8_late 38 = .ok (.aload_n 0, 1) := by decide +kernel
theorem dX8_late_39 : decode cX8_late 39 = .ok (.getfield 19, 3) := by decide +kernel
theorem dX8_late_42 : decode cX8_late 42 = .ok (.aload_n 0, 1) := by decide +kernel
theorem dX8_late_43 : decode cX8_late 43 = .ok (.getfield 50, 3) := by decide +kernel
theorem dX8_late_46 : decode cX8_late 46 = .ok (.iconst 0, 1) := by decide +kernel
theorem dX8_late_47 : decode cX8_late 47 = .ok (.iload_n 2, 1) := by decide +kernel
theorem dX8_late_48 : decode cX8_late 48 = .ok (.invokevirtual 261, 3) := by decide +kernel
theorem dX8_late_51 : decode cX8_late 51 = .ok (.invokestatic 265, 3) := by decide +kernel
theorem dX8_late_54 : decode cX8_late 54 = .ok (.istore 4, 2) := by decide +kernel
theorem dX8_late_56 : decode cX8_late 56 = .ok (.aload_n 0, 1) := by decide +kernel
theorem dX8_late_57 : decode cX8_late 57 = .ok (.getfield 19, 3) := by decide +kernel
theorem dX8_late_60 : decode cX8_late 60 = .ok (.aload_n 0, 1) := by decide +kernel
theorem dX8_late_61 : decode cX8_late 61 = .ok (.getfield 50, 3) := by decide +kernel
theorem dX8_late_64 : decode cX8_late 64 = .ok (.iconst 1, 1) := by decide +kernel
theorem dX8_late_65 : decode cX8_late 65 = .ok (.iload_n 2, 1) := by decide +kernel
theorem dX8_late_66 : decode cX8_late 66 = .ok (.invokevirtual 261, 3) := by decide +kernel
theorem dX8_late_69 : decode cX8_late 69 = .ok (.invokestatic 265, 3) := by decide +kernel
theorem dX8_late_72 : decode cX8_late 72 = .ok (.istore 5, 2) := by decide +kernel
theorem dX8_late_74 : decode cX8_late 74 = .ok (.iload 4, 2) := by decide +kernel
theorem dX8_late_76 : decode cX8_late 76 = .ok (.bipush (-4), 2) := by decide +kernel
theorem dX8_late_78 : decode cX8_late 78 = .ok (.if_icmp .eq 10, 3) := by decide +kernel
theorem dX8_late_81 : decode cX8_late 81 = .ok (.iload 5, 2) := by decide +kernel
theorem dX8_late_83 : decode cX8_late 83 = .ok (.bipush (-4), 2) := by decide +kernel
theorem dX8_late_85 : decode cX8_late 85 = .ok (.if_icmp .ne 8, 3) := by decide +kernel
theorem dX8_late_88 : decode cX8_late 88 = .ok (.bipush (-4), 2) := by decide +kernel
theorem dX8_late_90 : decode cX8_late 90 = .ok (.goto 10, 3) := by decide +kernel
theorem dX8_late_93 : decode cX8_late 93 = .ok (.iload 4, 2) := by decide +kernel
theorem dX8_late_95 : decode cX8_late 95 = .ok (.iload 5, 2) := by decide +kernel
theorem dX8_late_97 : decode cX8_late 97 = .ok (.invokestatic 268, 3) := by decide +kernel
theorem dX8_late_100 : decode cX8_late 100 = .ok (.ireturn, 1) := by decide +kernel
theorem dX8_soon_0 : decode cX8_soon 0 = .ok (.aload_n 0, 1) := by decide +kernel
theorem dX8_soon_1 : decode cX8_soon 1 = .ok (.getfield 19, 3) := by decide +kernel
theorem dX8_soon_4 : decode cX8_soon 4 = .ok (.iload_n 1, 1) := by decide +kernel
theorem dX8_soon_5 : decode cX8_soon 5 = .ok (.invokevirtual 169, 3) := by decide +kernel
theorem dX8_soon_8 : decode cX8_soon 8 = .ok (.astore_n 3, 1) := by decide +kernel
theorem dX8_soon_9 : decode cX8_soon 9 = .ok (.aload_n 3, 1) := by decide +kernel
theorem dX8_soon_10 : decode cX8_soon 10 = .ok (.ifnull 10, 3) := by decide +kernel
theorem dX8_soon_13 : decode cX8_soon 13 = .ok (.iload_n 2, 1) := by decide +kernel
theorem dX8_soon_14 : decode cX8_soon 14 = .ok (.invokestatic 182, 3) := by decide +kernel
theorem dX8_soon_17 : decode cX8_soon 17 = .ok (.ifCond .ne 5, 3) := by decide +kernel
theorem dX8_soon_20 : decode cX8_soon 20 = .ok (.iconst (-1), 1) := by decide +kernel
theorem dX8_soon_21 : decode cX8_soon 21 = .ok (.ireturn, 1) := by decide +kernel
theorem dX8_soon_22 : decode cX8_soon 22 = .ok (.aload_n 0, 1) := by decide +kernel
theorem dX8_soon_23 : decode cX8_soon 23 = .ok (.getfield 50, 3) := by decide +kernel
theorem dX8_soon_26 : decode cX8_soon 26 = .ok (.aload_n 3, 1) := by decide +kernel
theorem dX8_soon_27 : decode cX8_soon 27 = .ok (.invokevirtual 243, 3) := by decide +kernel
theorem dX8_soon_30 : decode cX8_soon 30 = .ok (.aload_n 0, 1) := by decide +kernel
theorem dX8_soon_31 : decode cX8_soon 31 = .ok (.getfield 50, 3) := by decide +kernel
theorem dX8_soon_34 : decode cX8_soon 34 = .ok (.bipush 59, 2) := by decide +kernel
theorem dX8_soon_36 : decode cX8_soon 36 = .ok (.putfield 179, 3) := by decide +kernel
theorem dX8_soon_39 : decode cX8_soon 39 = .ok (.aload_n 0, 1) := by decide +kernel
theorem dX8_soon_40 : decode cX8_soon 40 = .ok (.getfield 19, 3) := by decide +kernel
theorem dX8_soon_43 : decode cX8_soon 43 = .ok (.aload_n 0, 1) := by decide +kernel
theorem dX8_soon_44 : decode cX8_soon 44 = .ok (.getfield 50, 3) := by decide +kernel
theorem dX8_soon_47 : decode cX8_soon 47 = .ok (.iload_n 2, 1) := by decide +kernel
theorem dX8_soon_48 : decode cX8_soon 48 = .ok (.invokevirtual 235, 3) := by decide +kernel
theorem dX8_soon_51 : decode cX8_soon 51 = .ok (.ireturn, 1) := by decide +kernel
theorem dX8_begin_0 : decode cX8_begin 0 = .ok (.aload_n 0, 1) := by decide +kernel
theorem dX8_begin_1 : decode cX8_begin 1 = .ok (.getfield 23, 3) := by decide +kernel
theorem dX8_begin_4 : decode cX8_begin 4 = .ok (.aload_n 0, 1) := by decide +kernel
theorem dX8_begin_5 : decode cX8_begin 5 = .ok (.getfield 19, 3) := by decide +kernel
theorem dX8_begin_8 : decode cX8_begin 8 = .ok (.invokevirtual 97, 3) := by decide +kernel
theorem dX8_begin_11 : decode cX8_begin 11 = .ok (.aload_n 0, 1) := by decide +kernel
theorem dX8_begin_12 : decode cX8_begin 12 = .ok (.getfield 23, 3) := by decide +kernel
theorem dX8_begin_15 : decode cX8_begin 15 = .ok (.iload_n 1, 1) := by decide +kernel
theorem dX8_begin_16 : decode cX8_begin 16 = .ok (.invokevirtual 126, 3) := by decide +kernel
theorem dX8_begin_19 : decode cX8_begin 19 = .ok (.astore_n 3, 1) := by decide +kernel
theorem dX8_begin_20 : decode cX8_begin 20 = .ok (.aload_n 3, 1) := by decide +kernel
theorem dX8_begin_21 : decode cX8_begin 21 = .ok (.ifnull 10, 3) := by decide +kernel
theorem dX8_begin_24 : decode cX8_begin 24 = .ok (.iload_n 2, 1) := by decide +kernel
theorem dX8_begin_25 : decode cX8_begin 25 = .ok (.invokestatic 160, 3) := by decide +kernel
theorem dX8_begin_28 : decode cX8_begin 28 = .ok (.ifCond .ne 5, 3) := by decide +kernel
theorem dX8_begin_31 : decode cX8_begin 31 = .ok (.iconst (-1), 1) := by decide +kernel
theorem dX8_begin_32 : decode cX8_begin 32 = .ok (.ireturn, 1) := by decide +kernel
theorem dX8_begin_33 : decode cX8_begin 33 = .ok (.aload_n 0, 1) := by decide +kernel
theorem dX8_begin_34 : decode cX8_begin 34 = .ok (.getfield 57, 3) := by decide +kernel
theorem dX8_begin_37 : decode cX8_begin 37 = .ok (.sipush (-1000), 3) := by decide +kernel
theorem dX8_begin_40 : decode cX8_begin 40 = .ok (.invokevirtual 246, 3) := by decide +kernel
theorem dX8_begin_43 : decode cX8_begin 43 = .ok (.iconst 0, 1) := by decide +kernel
theorem dX8_begin_44 : decode cX8_begin 44 = .ok (.istore 4, 2) := by decide +kernel
theorem dX8_begin_46 : decode cX8_begin 46 = .ok (.iload 4, 2) := by decide +kernel
theorem dX8_begin_48 : decode cX8_begin 48 = .ok (.aload_n 3, 1) := by decide +kernel
theorem dX8_begin_49 : decode cX8_begin 49 = .ok (.getfield 141, 3) := by decide +kernel
theorem dX8_begin_52 : decode cX8_begin 52 = .ok (.if_icmp .ge 32, 3) := by decide +kernel
theorem dX8_begin_55 : decode cX8_begin 55 = .ok (.aload_n 0, 1) := by decide +kernel
theorem dX8_begin_56 : decode cX8_begin 56 = .ok (.getfield 57, 3) := by decide +kernel
theorem dX8_begin_59 : decode cX8_begin 59 = .ok (.iload 4, 2) := by decide +kernel
theorem dX8_begin_61 : decode cX8_begin 61 = .ok (.aload_n 0, 1) := by decide +kernel
theorem dX8_begin_62 : decode cX8_begin 62 = .ok (.getfield 23, 3) := by decide +kernel
theorem dX8_begin_65 : decode cX8_begin 65 = .ok (.bipush 15, 2) := by decide +kernel
theorem dX8_begin_67 : decode cX8_begin 67 = .ok (.invokevirtual 122, 3) := by decide +kernel
theorem dX8_begin_70 : decode cX8_begin 70 = .ok (.invokevirtual 255, 3) := by decide +kernel
theorem dX8_begin_73 : decode cX8_begin 73 = .ok (.aload_n 3, 1) := by decide +kernel
theorem dX8_begin_74 : decode cX8_begin 74 = .ok (.iconst 1, 1) := by decide +kernel
theorem dX8_begin_75 : decode cX8_begin 75 = .ok (.invokevirtual 192, 3) := by decide +kernel
theorem dX8_begin_78 : decode cX8_begin 78 = .ok (.iinc 4 1, 3) := by decide +kernel
theorem dX8_begin_81 : decode cX8_begin 81 = .ok (.goto (-35), 3) := by decide +kernel
theorem dX8_begin_84 : decode cX8_begin 84 = .ok (.aload_n 0, 1) := by decide +kernel
theorem dX8_begin_85 : decode cX8_begin 85 = .ok (.getfield 57, 3) := by decide +kernel
theorem dX8_begin_88 : decode cX8_begin 88 = .ok (.iload_n 2, 1) := by decide +kernel
theorem dX8_begin_89 : decode cX8_begin 89 = .ok (.invokevirtual 258, 3) := by decide +kernel
theorem dX8_begin_92 : decode cX8_begin 92 = .ok (.ireturn, 1) := by decide +kernel
theorem dX8_kind_0 : decode cX8_kind 0 = .ok (.aload_n 0, 1) := by decide +kernel
theorem dX8_kind_1 : decode cX8_kind 1 = .ok (.getfield 23, 3) := by decide +kernel
theorem dX8_kind_4 : decode cX8_kind 4 = .ok (.aload_n 0, 1) := by decide +kernel
theorem dX8_kind_5 : decode cX8_kind 5 = .ok (.getfield 19, 3) := by decide +kernel
theorem dX8_kind_8 : decode cX8_kind 8 = .ok (.invokevirtual 97, 3) := by decide +kernel
theorem dX8_kind_11 : decode cX8_kind 11 = .ok (.aload_n 0, 1) := by decide +kernel
theorem dX8_kind_12 : decode cX8_kind 12 = .ok (.getfield 23, 3) := by decide +kernel
theorem dX8_kind_15 : decode cX8_kind 15 = .ok (.iload_n 1, 1) := by decide +kernel
theorem dX8_kind_16 : decode cX8_kind 16 = .ok (.invokevirtual 126, 3) := by decide +kernel
theorem dX8_kind_19 : decode cX8_kind 19 = .ok (.astore_n 3, 1) := by decide +kernel
theorem dX8_kind_20 : decode cX8_kind 20 = .ok (.aload_n 3, 1) := by decide +kernel
theorem dX8_kind_21 : decode cX8_kind 21 = .ok (.ifnull 10, 3) := by decide +kernel
theorem dX8_kind_24 : decode cX8_kind 24 = .ok (.iload_n 2, 1) := by decide +kernel
theorem dX8_kind_25 : decode cX8_kind 25 = .ok (.invokestatic 160, 3) := by decide +kernel
theorem dX8_kind_28 : decode cX8_kind 28 = .ok (.ifCond .ne 5, 3) := by decide +kernel
theorem dX8_kind_31 : decode cX8_kind 31 = .ok (.iconst (-1), 1) := by decide +kernel
theorem dX8_kind_32 : decode cX8_kind 32 = .ok (.ireturn, 1) := by decide +kernel
theorem dX8_kind_33 : decode cX8_kind 33 = .ok (.aload_n 0, 1) := by decide +kernel
theorem dX8_kind_34 : decode cX8_kind 34 = .ok (.getfield 57, 3) := by decide +kernel
theorem dX8_kind_37 : decode cX8_kind 37 = .ok (.sipush (-1000), 3) := by decide +kernel
theorem dX8_kind_40 : decode cX8_kind 40 = .ok (.invokevirtual 246, 3) := by decide +kernel
theorem dX8_kind_43 : decode cX8_kind 43 = .ok (.iconst 0, 1) := by decide +kernel
theorem dX8_kind_44 : decode cX8_kind 44 = .ok (.istore 4, 2) := by decide +kernel
theorem dX8_kind_46 : decode cX8_kind 46 = .ok (.iload 4, 2) := by decide +kernel
theorem dX8_kind_48 : decode cX8_kind 48 = .ok (.iconst 4, 1) := by decide +kernel
theorem dX8_kind_49 : decode cX8_kind 49 = .ok (.if_icmp .ge 33, 3) := by decide +kernel
theorem dX8_kind_52 : decode cX8_kind 52 = .ok (.aload_n 3, 1) := by decide +kernel
theorem dX8_kind_53 : decode cX8_kind 53 = .ok (.iload 4, 2) := by decide +kernel
theorem dX8_kind_55 : decode cX8_kind 55 = .ok (.putfield 130, 3) := by decide +kernel
theorem dX8_kind_58 : decode cX8_kind 58 = .ok (.aload_n 0, 1) := by decide +kernel
theorem dX8_kind_59 : decode cX8_kind 59 = .ok (.getfield 57, 3) := by decide +kernel
theorem dX8_kind_62 : decode cX8_kind 62 = .ok (.iload 4, 2) := by decide +kernel
theorem dX8_kind_64 : decode cX8_kind 64 = .ok (.aload_n 0, 1) := by decide +kernel
theorem dX8_kind_65 : decode cX8_kind 65 = .ok (.getfield 23, 3) := by decide +kernel
theorem dX8_kind_68 : decode cX8_kind 68 = .ok (.bipush 15, 2) := by decide +kernel
theorem dX8_kind_70 : decode cX8_kind 70 = .ok (.invokevirtual 122, 3) := by decide +kernel
theorem dX8_kind_73 : decode cX8_kind 73 = .ok (.invokevirtual 255, 3) := by decide +kernel
theorem dX8_kind_76 : decode cX8_kind 76 = .ok (.iinc 4 1, 3) := by decide +kernel
theorem dX8_kind_79 : decode cX8_kind 79 = .ok (.goto (-33), 3) := by decide +kernel
theorem dX8_kind_82 : decode cX8_kind 82 = .ok (.aload_n 0, 1) := by decide +kernel
theorem dX8_kind_83 : decode cX8_kind 83 = .ok (.getfield 57, 3) := by decide +kernel
theorem dX8_kind_86 : decode cX8_kind 86 = .ok (.iload_n 2, 1) := by decide +kernel
theorem dX8_kind_87 : decode cX8_kind 87 = .ok (.invokevirtual 258, 3) := by decide +kernel
theorem dX8_kind_90 : decode cX8_kind 90 = .ok (.ireturn, 1) := by decide +kernel
theorem dX8_swap_0 : decode cX8_swap 0 = .ok (.iload_n 1, 1) := by decide +kernel
theorem dX8_swap_1 : decode cX8_swap 1 = .ok (.invokestatic 160, 3) := by decide +kernel
theorem dX8_swap_4 : decode cX8_swap 4 = .ok (.ifCond .ne 5, 3) := by decide +kernel
theorem dX8_swap_7 : decode cX8_swap 7 = .ok (.iconst (-1), 1) := by decide +kernel
theorem dX8_swap_8 : decode cX8_swap 8 = .ok (.ireturn, 1) := by decide +kernel
theorem dX8_swap_9 : decode cX8_swap 9 = .ok (.aload_n 0, 1) := by decide +kernel
theorem dX8_swap_10 : decode cX8_swap 10 = .ok (.getfield 23, 3) := by decide +kernel
theorem dX8_swap_13 : decode cX8_swap 13 = .ok (.aload_n 0, 1) := by decide +kernel
theorem dX8_swap_14 : decode cX8_swap 14 = .ok (.getfield 19, 3) := by decide +kernel
theorem dX8_swap_17 : decode cX8_swap 17 = .ok (.invokevirtual 97, 3) := by decide +kernel
theorem dX8_swap_20 : decode cX8_swap 20 = .ok (.aload_n 0, 1) := by decide +kernel
theorem dX8_swap_21 : decode cX8_swap 21 = .ok (.getfield 57, 3) := by decide +kernel
theorem dX8_swap_24 : decode cX8_swap 24 = .ok (.aload_n 0, 1) := by decide +kernel
theorem dX8_swap_25 : decode cX8_swap 25 = .ok (.getfield 19, 3) := by decide +kernel
theorem dX8_swap_28 : decode cX8_swap 28 = .ok (.bipush 15, 2) := by decide +kernel
theorem dX8_swap_30 : decode cX8_swap 30 = .ok (.invokevirtual 122, 3) := by decide +kernel
theorem dX8_swap_33 : decode cX8_swap 33 = .ok (.invokevirtual 246, 3) := by decide +kernel
theorem dX8_swap_36 : decode cX8_swap 36 = .ok (.iconst 0, 1) := by decide +kernel
theorem dX8_swap_37 : decode cX8_swap 37 = .ok (.istore_n 2, 1) := by decide +kernel
theorem dX8_swap_38 : decode cX8_swap 38 = .ok (.iload_n 2, 1) := by decide +kernel
theorem dX8_swap_39 : decode cX8_swap 39 = .ok (.aload_n 0, 1) := by decide +kernel
theorem dX8_swap_40 : decode cX8_swap 40 = .ok (.getfield 23, 3) := by decide +kernel
theorem dX8_swap_43 : decode cX8_swap 43 = .ok (.getfield 107, 3) := by decide +kernel
theorem dX8_swap_46 : decode cX8_swap 46 = .ok (.if_icmp .ge 70, 3) := by decide +kernel
theorem dX8_swap_49 : decode cX8_swap 49 = .ok (.iload_n 2, 1) := by decide +kernel
theorem dX8_swap_50 : decode cX8_swap 50 = .ok (.iconst 1, 1) := by decide +kernel
theorem dX8_swap_51 : decode cX8_swap 51 = .ok (.iadd, 1) := by decide +kernel
theorem dX8_swap_52 : decode cX8_swap 52 = .ok (.istore_n 3, 1) := by decide +kernel
theorem dX8_swap_53 : decode cX8_swap 53 = .ok (.iload_n 3, 1) := by decide +kernel
theorem dX8_swap_54 : decode cX8_swap 54 = .ok (.aload_n 0, 1) := by decide +kernel
theorem dX8_swap_55 : decode cX8_swap 55 = .ok (.getfield 23, 3) := by decide +kernel
theorem dX8_swap_58 : decode cX8_swap 58 = .ok (.getfield 107, 3) := by decide +kernel
theorem dX8_swap_61 : decode cX8_swap 61 = .ok (.if_icmp .ge 49, 3) := by decide +kernel
theorem dX8_swap_64 : decode cX8_swap 64 = .ok (.aload_n 0, 1) := by decide +kernel
theorem dX8_swap_65 : decode cX8_swap 65 = .ok (.getfield 23, 3) := by decide +kernel
theorem dX8_swap_68 : decode cX8_swap 68 = .ok (.iload_n 2, 1) := by decide +kernel
theorem dX8_swap_69 : decode cX8_swap 69 = .ok (.iload_n 3, 1) := by decide +kernel
theorem dX8_swap_70 : decode cX8_swap 70 = .ok (.invokevirtual 274, 3) := by decide +kernel
theorem dX8_swap_73 : decode cX8_swap 73 = .ok (.aload_n 0, 1) := by decide +kernel
theorem dX8_swap_74 : decode cX8_swap 74 = .ok (.getfield 57, 3) := by decide +kernel
theorem dX8_swap_77 : decode cX8_swap 77 = .ok (.bipush 10, 2) := by decide +kernel
theorem dX8_swap_79 : decode cX8_swap 79 = .ok (.iload_n 2, 1) := by decide +kernel
theorem dX8_swap_80 : decode cX8_swap 80 = .ok (.imul, 1) := by decide +kernel
theorem dX8_swap_81 : decode cX8_swap 81 = .ok (.iload_n 3, 1) := by decide +kernel
theorem dX8_swap_82 : decode cX8_swap 82 = .ok (.iadd, 1) := by decide +kernel
theorem dX8_swap_83 : decode cX8_swap 83 = .ok (.aload_n 0, 1) := by decide +kernel
theorem dX8_swap_84 : decode cX8_swap 84 = .ok (.getfield 23, 3) := by decide +kernel
theorem dX8_swap_87 : decode cX8_swap 87 = .ok (.bipush 15, 2) := by decide +kernel
theorem dX8_swap_89 : decode cX8_swap 89 = .ok (.invokevirtual 122, 3) := by decide +kernel
theorem dX8_swap_92 : decode cX8_swap 92 = .ok (.invokevirtual 255, 3) := by decide +kernel
theorem dX8_swap_95 : decode cX8_swap 95 = .ok (.aload_n 0, 1) := by decide +kernel
theorem dX8_swap_96 : decode cX8_swap 96 = .ok (.getfield 23, 3) := by decide +kernel
theorem dX8_swap_99 : decode cX8_swap 99 = .ok (.iload_n 2, 1) := by decide +kernel
theorem dX8_swap_100 : decode cX8_swap 100 = .ok (.iload_n 3, 1) := by decide +kernel
theorem dX8_swap_101 : decode cX8_swap 101 = .ok (.invokevirtual 274, 3) := by decide +kernel
theorem dX8_swap_104 : decode cX8_swap 104 = .ok (.iinc 3 1, 3) := by decide +kernel
theorem dX8_swap_107 : decode cX8_swap 107 = .ok (.goto (-54), 3) := by decide +kernel
theorem dX8_swap_110 : decode cX8_swap 110 = .ok (.iinc 2 1, 3) := by decide +kernel
theorem dX8_swap_113 : decode cX8_swap 113 = .ok (.goto (-75), 3) := by decide +kernel
theorem dX8_swap_116 : decode cX8_swap 116 = .ok (.aload_n 0, 1) := by decide +kernel
theorem dX8_swap_117 : decode cX8_swap 117 = .ok (.getfield 57, 3) := by decide +kernel
theorem dX8_swap_120 : decode cX8_swap 120 = .ok (.iload_n 1, 1) := by decide +kernel
theorem dX8_swap_121 : decode cX8_swap 121 = .ok (.invokevirtual 258, 3) := by decide +kernel
theorem dX8_swap_124 : decode cX8_swap 124 = .ok (.ireturn, 1) := by decide +kernel
theorem dX8_spoil_0 : decode cX8_spoil 0 = .ok (.iload_n 1, 1) := by decide +kernel
theorem dX8_spoil_1 : decode cX8_spoil 1 = .ok (.iconst 1, 1) := by decide +kernel
theorem dX8_spoil_2 : decode cX8_spoil 2 = .ok (.bipush 59, 2) := by decide +kernel
theorem dX8_spoil_4 : decode cX8_spoil 4 = .ok (.invokestatic 70, 3) := by decide +kernel
theorem dX8_spoil_7 : decode cX8_spoil 7 = .ok (.ifCond .eq 10, 3) := by decide +kernel
theorem dX8_spoil_10 : decode cX8_spoil 10 = .ok (.iload_n 2, 1) := by decide +kernel
theorem dX8_spoil_11 : decode cX8_spoil 11 = .ok (.invokestatic 160, 3) := by decide +kernel
theorem dX8_spoil_14 : decode cX8_spoil 14 = .ok (.ifCond .ne 5, 3) := by decide +kernel
theorem dX8_spoil_17 : decode cX8_spoil 17 = .ok (.iconst (-1), 1) := by decide +kernel
theorem dX8_spoil_18 : decode cX8_spoil 18 = .ok (.ireturn, 1) := by decide +kernel
theorem dX8_spoil_19 : decode cX8_spoil 19 = .ok (.aload_n 0, 1) := by decide +kernel
theorem dX8_spoil_20 : decode cX8_spoil 20 = .ok (.getfield 23, 3) := by decide +kernel
theorem dX8_spoil_23 : decode cX8_spoil 23 = .ok (.aload_n 0, 1) := by decide +kernel
theorem dX8_spoil_24 : decode cX8_spoil 24 = .ok (.getfield 19, 3) := by decide +kernel
theorem dX8_spoil_27 : decode cX8_spoil 27 = .ok (.invokevirtual 97, 3) := by decide +kernel
theorem dX8_spoil_30 : decode cX8_spoil 30 = .ok (.aload_n 0, 1) := by decide +kernel
theorem dX8_spoil_31 : decode cX8_spoil 31 = .ok (.getfield 57, 3) := by decide +kernel
theorem dX8_spoil_34 : decode cX8_spoil 34 = .ok (.sipush (-1000), 3) := by decide +kernel
theorem dX8_spoil_37 : decode cX8_spoil 37 = .ok (.invokevirtual 246, 3) := by decide +kernel
theorem dX8_spoil_40 : decode cX8_spoil 40 = .ok (.iconst 0, 1) := by decide +kernel
theorem dX8_spoil_41 : decode cX8_spoil 41 = .ok (.istore_n 3, 1) := by decide +kernel
theorem dX8_spoil_42 : decode cX8_spoil 42 = .ok (.iload_n 3, 1) := by decide +kernel
theorem dX8_spoil_43 : decode cX8_spoil 43 = .ok (.bipush 60, 2) := by decide +kernel
theorem dX8_spoil_45 : decode cX8_spoil 45 = .ok (.if_icmp .ge 36, 3) := by decide +kernel
theorem dX8_spoil_48 : decode cX8_spoil 48 = .ok (.aload_n 0, 1) := by decide +kernel
theorem dX8_spoil_49 : decode cX8_spoil 49 = .ok (.getfield 23, 3) := by decide +kernel
theorem dX8_spoil_52 : decode cX8_spoil 52 = .ok (.iload_n 3, 1) := by decide +kernel
theorem dX8_spoil_53 : decode cX8_spoil 53 = .ok (.iload_n 1, 1) := by decide +kernel
theorem dX8_spoil_54 : decode cX8_spoil 54 = .ok (.invokevirtual 208, 3) := by decide +kernel
theorem dX8_spoil_57 : decode cX8_spoil 57 = .ok (.aload_n 0, 1) := by decide +kernel
theorem dX8_spoil_58 : decode cX8_spoil 58 = .ok (.getfield 57, 3) := by decide +kernel
theorem dX8_spoil_61 : decode cX8_spoil 61 = .ok (.iload_n 3, 1) := by decide +kernel
theorem dX8_spoil_62 : decode cX8_spoil 62 = .ok (.aload_n 0, 1) := by decide +kernel
theorem dX8_spoil_63 : decode cX8_spoil 63 = .ok (.getfield 23, 3) := by decide +kernel
theorem dX8_spoil_66 : decode cX8_spoil 66 = .ok (.bipush 15, 2) := by decide +kernel
theorem dX8_spoil_68 : decode cX8_spoil 68 = .ok (.invokevirtual 122, 3) := by decide +kernel
theorem dX8_spoil_71 : decode cX8_spoil 71 = .ok (.ineg, 1) := by decide +kernel
theorem dX8_spoil_72 : decode cX8_spoil 72 = .ok (.invokevirtual 255, 3) := by decide +kernel
theorem dX8_spoil_75 : decode cX8_spoil 75 = .ok (.iinc 3 1, 3) := by decide +kernel
theorem dX8_spoil_78 : decode cX8_spoil 78 = .ok (.goto (-36), 3) := by decide +kernel
theorem dX8_spoil_81 : decode cX8_spoil 81 = .ok (.aload_n 0, 1) := by decide +kernel
theorem dX8_spoil_82 : decode cX8_spoil 82 = .ok (.getfield 57, 3) := by decide +kernel
theorem dX8_spoil_85 : decode cX8_spoil 85 = .ok (.iload_n 2, 1) := by decide +kernel
theorem dX8_spoil_86 : decode cX8_spoil 86 = .ok (.invokevirtual 277, 3) := by decide +kernel
theorem dX8_spoil_89 : decode cX8_spoil 89 = .ok (.ireturn, 1) := by decide +kernel
theorem dX8_luck_0 : decode cX8_luck 0 = .ok (.aload_n 0, 1) := by decide +kernel
theorem dX8_luck_1 : decode cX8_luck 1 = .ok (.getfield 19, 3) := by decide +kernel
theorem dX8_luck_4 : decode cX8_luck 4 = .ok (.iload_n 2, 1) := by decide +kernel
theorem dX8_luck_5 : decode cX8_luck 5 = .ok (.invokevirtual 169, 3) := by decide +kernel
theorem dX8_luck_8 : decode cX8_luck 8 = .ok (.astore 5, 2) := by decide +kernel
theorem dX8_luck_10 : decode cX8_luck 10 = .ok (.iload_n 1, 1) := by decide +kernel
theorem dX8_luck_11 : decode cX8_luck 11 = .ok (.iconst 0, 1) := by decide +kernel
theorem dX8_luck_12 : decode cX8_luck 12 = .ok (.bipush 10, 2) := by decide +kernel
theorem dX8_luck_14 : decode cX8_luck 14 = .ok (.invokestatic 70, 3) := by decide +kernel
theorem dX8_luck_17 : decode cX8_luck 17 = .ok (.ifCond .eq 23, 3) := by decide +kernel
theorem dX8_luck_20 : decode cX8_luck 20 = .ok (.aload 5, 2) := by decide +kernel
theorem dX8_luck_22 : decode cX8_luck 22 = .ok (.ifnull 18, 3) := by decide +kernel
theorem dX8_luck_25 : decode cX8_luck 25 = .ok (.iload_n 3, 1) := by decide +kernel
theorem dX8_luck_26 : decode cX8_luck 26 = .ok (.invokestatic 182, 3) := by decide +kernel
theorem dX8_luck_29 : decode cX8_luck 29 = .ok (.ifCond .eq 11, 3) := by decide +kernel
theorem dX8_luck_32 : decode cX8_luck 32 = .ok (.iload 4, 2) := by decide +kernel
theorem dX8_luck_34 : decode cX8_luck 34 = .ok (.invokestatic 160, 3) := by decide +kernel
theorem dX8_luck_37 : decode cX8_luck 37 = .ok (.ifCond .ne 7, 3) := by decide +kernel
theorem dX8_luck_40 : decode cX8_luck 40 = .ok (.ldc2_w 280, 3) := by decide +kernel
theorem dX8_luck_43 : decode cX8_luck 43 = .ok (.lreturn, 1) := by decide +kernel
theorem dX8_luck_44 : decode cX8_luck 44 = .ok (.lconst 0, 1) := by decide +kernel
theorem dX8_luck_45 : decode cX8_luck 45 = .ok (.lstore 6, 2) := by decide +kernel
theorem dX8_luck_47 : decode cX8_luck 47 = .ok (.iconst 0, 1) := by decide +kernel
theorem dX8_luck_48 : decode cX8_luck 48 = .ok (.istore 8, 2) := by decide +kernel
theorem dX8_luck_50 : decode cX8_luck 50 = .ok (.iload 8, 2) := by decide +kernel
theorem dX8_luck_52 : decode cX8_luck 52 = .ok (.iconst 1, 1) := by decide +kernel
theorem dX8_luck_53 : decode cX8_luck 53 = .ok (.aload_n 0, 1) := by decide +kernel
theorem dX8_luck_54 : decode cX8_luck 54 = .ok (.getfield 19, 3) := by decide +kernel
theorem dX8_luck_57 : decode cX8_luck 57 = .ok (.getfield 107, 3) := by decide +kernel
theorem dX8_luck_60 : decode cX8_luck 60 = .ok (.ishl, 1) := by decide +kernel
theorem dX8_luck_61 : decode cX8_luck 61 = .ok (.if_icmp .ge 44, 3) := by decide +kernel
theorem dX8_luck_64 : decode cX8_luck 64 = .ok (.lload 6, 2) := by decide +kernel
theorem dX8_luck_66 : decode cX8_luck 66 = .ok (.aload_n 0, 1) := by decide +kernel
theorem dX8_luck_67 : decode cX8_luck 67 = .ok (.getfield 19, 3) := by decide +kernel
theorem dX8_luck_70 : decode cX8_luck 70 = .ok (.iload_n 1, 1) := by decide +kernel
theorem dX8_luck_71 : decode cX8_luck 71 = .ok (.iload 8, 2) := by decide +kernel
theorem dX8_luck_73 : decode cX8_luck 73 = .ok (.invokevirtual 282, 3) := by decide +kernel
theorem dX8_luck_76 : decode cX8_luck 76 = .ok (.aload_n 0, 1) := by decide +kernel
theorem dX8_luck_77 : decode cX8_luck 77 = .ok (.getfield 19, 3) := by decide +kernel
theorem dX8_luck_80 : decode cX8_luck 80 = .ok (.aload 5, 2) := by decide +kernel
theorem dX8_luck_82 : decode cX8_luck 82 = .ok (.ldc2_w 249, 3) := by decide +kernel
theorem dX8_luck_85 : decode cX8_luck 85 = .ok (.iload 8, 2) := by decide +kernel
theorem dX8_luck_87 : decode cX8_luck 87 = .ok (.invokevirtual 231, 3) := by decide +kernel
theorem dX8_luck_90 : decode cX8_luck 90 = .ok (.iload_n 3, 1) := by decide +kernel
theorem dX8_luck_91 : decode cX8_luck 91 = .ok (.ishr, 1) := by decide +kernel
theorem dX8_luck_92 : decode cX8_luck 92 = .ok (.iconst 1, 1) := by decide +kernel
theorem dX8_luck_93 : decode cX8_luck 93 = .ok (.iand, 1) := by decide +kernel
theorem dX8_luck_94 : decode cX8_luck 94 = .ok (.i2l, 1) := by decide +kernel
theorem dX8_luck_95 : decode cX8_luck 95 = .ok (.lmul, 1) := by decide +kernel
theorem dX8_luck_96 : decode cX8_luck 96 = .ok (.ladd, 1) := by decide +kernel
theorem dX8_luck_97 : decode cX8_luck 97 = .ok (.lstore 6, 2) := by decide +kernel
theorem dX8_luck_99 : decode cX8_luck 99 = .ok (.iinc 8 1, 3) := by decide +kernel
theorem dX8_luck_102 : decode cX8_luck 102 = .ok (.goto (-52), 3) := by decide +kernel
theorem dX8_luck_105 : decode cX8_luck 105 = .ok (.lload 6, 2) := by decide +kernel
theorem dX8_luck_107 : decode cX8_luck 107 = .ok (.aload_n 0, 1) := by decide +kernel
theorem dX8_luck_108 : decode cX8_luck 108 = .ok (.getfield 19, 3) := by decide +kernel
theorem dX8_luck_111 : decode cX8_luck 111 = .ok (.invokevirtual 285, 3) := by decide +kernel
theorem dX8_luck_114 : decode cX8_luck 114 = .ok (.iload 4, 2) := by decide +kernel
theorem dX8_luck_116 : decode cX8_luck 116 = .ok (.invokestatic 289, 3) := by decide +kernel
theorem dX8_luck_119 : decode cX8_luck 119 = .ok (.lreturn, 1) := by decide +kernel
theorem dX8_mean_0 : decode cX8_mean 0 = .ok (.iload_n 1, 1) := by decide +kernel
theorem dX8_mean_1 : decode cX8_mean 1 = .ok (.iconst 0, 1) := by decide +kernel
theorem dX8_mean_2 : decode cX8_mean 2 = .ok (.bipush 10, 2) := by decide +kernel
theorem dX8_mean_4 : decode cX8_mean 4 = .ok (.invokestatic 70, 3) := by decide +kernel
theorem dX8_mean_7 : decode cX8_mean 7 = .ok (.ifCond .eq 10, 3) := by decide +kernel
theorem dX8_mean_10 : decode cX8_mean 10 = .ok (.iload_n 2, 1) := by decide +kernel
theorem dX8_mean_11 : decode cX8_mean 11 = .ok (.invokestatic 160, 3) := by decide +kernel
theorem dX8_mean_14 : decode cX8_mean 14 = .ok (.ifCond .ne 7, 3) := by decide +kernel
theorem dX8_mean_17 : decode cX8_mean 17 = .ok (.ldc2_w 280, 3) := by decide +kernel
theorem dX8_mean_20 : decode cX8_mean 20 = .ok (.lreturn, 1) := by decide +kernel
theorem dX8_mean_21 : decode cX8_mean 21 = .ok (.lconst 0, 1) := by decide +kernel
theorem dX8_mean_22 : decode cX8_mean 22 = .ok (.lstore_n 3, 1) := by decide +kernel
theorem dX8_mean_23 : decode cX8_mean 23 = .ok (.iconst 0, 1) := by decide +kernel
theorem dX8_mean_24 : decode cX8_mean 24 = .ok (.istore 5, 2) := by decide +kernel
theorem dX8_mean_26 : decode cX8_mean 26 = .ok (.iload 5, 2) := by decide +kernel
theorem dX8_mean_28 : decode cX8_mean 28 = .ok (.iconst 1, 1) := by decide +kernel
theorem dX8_mean_29 : decode cX8_mean 29 = .ok (.aload_n 0, 1) := by decide +kernel
theorem dX8_mean_30 : decode cX8_mean 30 = .ok (.getfield 19, 3) := by decide +kernel
theorem dX8_mean_33 : decode cX8_mean 33 = .ok (.getfield 107, 3) := by decide +kernel
theorem dX8_mean_36 : decode cX8_mean 36 = .ok (.ishl, 1) := by decide +kernel
theorem dX8_mean_37 : decode cX8_mean 37 = .ok (.if_icmp .ge 33, 3) := by decide +kernel
theorem dX8_mean_40 : decode cX8_mean 40 = .ok (.lload_n 3, 1) := by decide +kernel
theorem dX8_mean_41 : decode cX8_mean 41 = .ok (.aload_n 0, 1) := by decide +kernel
theorem dX8_mean_42 : decode cX8_mean 42 = .ok (.getfield 19, 3) := by decide +kernel
theorem dX8_mean_45 : decode cX8_mean 45 = .ok (.iload_n 1, 1) := by decide +kernel
theorem dX8_mean_46 : decode cX8_mean 46 = .ok (.iload 5, 2) := by decide +kernel
theorem dX8_mean_48 : decode cX8_mean 48 = .ok (.invokevirtual 282, 3) := by decide +kernel
theorem dX8_mean_51 : decode cX8_mean 51 = .ok (.aload_n 0, 1) := by decide +kernel
theorem dX8_mean_52 : decode cX8_mean 52 = .ok (.getfield 19, 3) := by decide +kernel
theorem dX8_mean_55 : decode cX8_mean 55 = .ok (.iload 5, 2) := by decide +kernel
theorem dX8_mean_57 : decode cX8_mean 57 = .ok (.invokevirtual 122, 3) := by decide +kernel
theorem dX8_mean_60 : decode cX8_mean 60 = .ok (.i2l, 1) := by decide +kernel
theorem dX8_mean_61 : decode cX8_mean 61 = .ok (.lmul, 1) := by decide +kernel
theorem dX8_mean_62 : decode cX8_mean 62 = .ok (.ladd, 1) := by decide +kernel
theorem dX8_mean_63 : decode cX8_mean 63 = .ok (.lstore_n 3, 1) := by decide +kernel
theorem dX8_mean_64 : decode cX8_mean 64 = .ok (.iinc 5 1, 3) := by decide +kernel
theorem dX8_mean_67 : decode cX8_mean 67 = .ok (.goto (-41), 3) := by decide +kernel
theorem dX8_mean_70 : decode cX8_mean 70 = .ok (.lload_n 3, 1) := by decide +kernel
theorem dX8_mean_71 : decode cX8_mean 71 = .ok (.aload_n 0, 1) := by decide +kernel
theorem dX8_mean_72 : decode cX8_mean 72 = .ok (.getfield 19, 3) := by decide +kernel
theorem dX8_mean_75 : decode cX8_mean 75 = .ok (.invokevirtual 285, 3) := by decide +kernel
theorem dX8_mean_78 : decode cX8_mean 78 = .ok (.iload_n 2, 1) := by decide +kernel
theorem dX8_mean_79 : decode cX8_mean 79 = .ok (.invokestatic 289, 3) := by decide +kernel
theorem dX8_mean_82 : decode cX8_mean 82 = .ok (.lreturn, 1) := by decide +kernel
theorem dX8_see_0 : decode cX8_see 0 = .ok (.aload_n 0, 1) := by decide +kernel
theorem dX8_see_1 : decode cX8_see 1 = .ok (.getfield 19, 3) := by decide +kernel
theorem dX8_see_4 : decode cX8_see 4 = .ok (.iload_n 1, 1) := by decide +kernel
theorem dX8_see_5 : decode cX8_see 5 = .ok (.invokevirtual 169, 3) := by decide +kernel
theorem dX8_see_8 : decode cX8_see 8 = .ok (.ifnull 17, 3) := by decide +kernel
theorem dX8_see_11 : decode cX8_see 11 = .ok (.iload_n 2, 1) := by decide +kernel
theorem dX8_see_12 : decode cX8_see 12 = .ok (.invokestatic 182, 3) := by decide +kernel
theorem dX8_see_15 : decode cX8_see 15 = .ok (.ifCond .eq 10, 3) := by decide +kernel
theorem dX8_see_18 : decode cX8_see 18 = .ok (.iload_n 3, 1) := by decide +kernel
theorem dX8_see_19 : decode cX8_see 19 = .ok (.invokestatic 205, 3) := by decide +kernel
theorem dX8_see_22 : decode cX8_see 22 = .ok (.ifCond .ne 5, 3) := by decide +kernel
theorem dX8_see_25 : decode cX8_see 25 = .ok (.iconst (-1), 1) := by decide +kernel
theorem dX8_see_26 : decode cX8_see 26 = .ok (.ireturn, 1) := by decide +kernel
theorem dX8_see_27 : decode cX8_see 27 = .ok (.aload_n 0, 1) := by decide +kernel
theorem dX8_see_28 : decode cX8_see 28 = .ok (.getfield 37, 3) := by decide +kernel
theorem dX8_see_31 : decode cX8_see 31 = .ok (.iload_n 1, 1) := by decide +kernel
theorem dX8_see_32 : decode cX8_see 32 = .ok (.iload_n 2, 1) := by decide +kernel
theorem dX8_see_33 : decode cX8_see 33 = .ok (.iload_n 3, 1) := by decide +kernel
theorem dX8_see_34 : decode cX8_see 34 = .ok (.iload 4, 2) := by decide +kernel
theorem dX8_see_36 : decode cX8_see 36 = .ok (.invokevirtual 293, 3) := by decide +kernel
theorem dX8_see_39 : decode cX8_see 39 = .ok (.ifCond .eq 13, 3) := by decide +kernel
theorem dX8_see_42 : decode cX8_see 42 = .ok (.aload_n 0, 1) := by decide +kernel
theorem dX8_see_43 : decode cX8_see 43 = .ok (.getfield 37, 3) := by decide +kernel
theorem dX8_see_46 : decode cX8_see 46 = .ok (.getfield 101, 3) := by decide +kernel
theorem dX8_see_49 : decode cX8_see 49 = .ok (.goto 5, 3) := by decide +kernel
theorem dX8_see_52 : decode cX8_see 52 = .ok (.bipush (-3), 2) := by decide +kernel
theorem dX8_see_54 : decode cX8_see 54 = .ok (.ireturn, 1) := by decide +kernel
theorem dX8_forget_0 : decode cX8_forget 0 = .ok (.iload_n 1, 1) := by decide +kernel
theorem dX8_forget_1 : decode cX8_forget 1 = .ok (.iconst 0, 1) := by decide +kernel
theorem dX8_forget_2 : decode cX8_forget 2 = .ok (.aload_n 0, 1) := by decide +kernel
theorem dX8_forget_3 : decode cX8_forget 3 = .ok (.getfield 37, 3) := by decide +kernel
theorem dX8_forget_6 : decode cX8_forget 6 = .ok (.getfield 101, 3) := by decide +kernel
theorem dX8_forget_9 : decode cX8_forget 9 = .ok (.invokestatic 70, 3) := by decide +kernel
theorem dX8_forget_12 : decode cX8_forget 12 = .ok (.ifCond .ne 5, 3) := by decide +kernel
theorem dX8_forget_15 : decode cX8_forget 15 = .ok (.iconst (-1), 1) := by decide +kernel
theorem dX8_forget_16 : decode cX8_forget 16 = .ok (.ireturn, 1) := by decide +kernel
theorem dX8_forget_17 : decode cX8_forget 17 = .ok (.aload_n 0, 1) := by decide +kernel
theorem dX8_forget_18 : decode cX8_forget 18 = .ok (.getfield 37, 3) := by decide +kernel
theorem dX8_forget_21 : decode cX8_forget 21 = .ok (.getfield 101, 3) := by decide +kernel
theorem dX8_forget_24 : decode cX8_forget 24 = .ok (.istore_n 2, 1) := by decide +kernel
theorem dX8_forget_25 : decode cX8_forget 25 = .ok (.aload_n 0, 1) := by decide +kernel
theorem dX8_forget_26 : decode cX8_forget 26 = .ok (.getfield 37, 3) := by decide +kernel
theorem dX8_forget_29 : decode cX8_forget 29 = .ok (.iload_n 1, 1) := by decide +kernel
theorem dX8_forget_30 : decode cX8_forget 30 = .ok (.putfield 101, 3) := by decide +kernel
theorem dX8_forget_33 : decode cX8_forget 33 = .ok (.iload_n 2, 1) := by decide +kernel
theorem dX8_forget_34 : decode cX8_forget 34 = .ok (.ireturn, 1) := by decide +kernel
theorem dX8_kinds_0 : decode cX8_kinds 0 = .ok (.aload_n 0, 1) := by decide +kernel
theorem dX8_kinds_1 : decode cX8_kinds 1 = .ok (.getfield 19, 3) := by decide +kernel
theorem dX8_kinds_4 : decode cX8_kinds 4 = .ok (.iload_n 1, 1) := by decide +kernel
theorem dX8_kinds_5 : decode cX8_kinds 5 = .ok (.invokevirtual 126, 3) := by decide +kernel
theorem dX8_kinds_8 : decode cX8_kinds 8 = .ok (.ifnonnull 7, 3) := by decide +kernel
theorem dX8_kinds_11 : decode cX8_kinds 11 = .ok (.iconst (-1), 1) := by decide +kernel
theorem dX8_kinds_12 : decode cX8_kinds 12 = .ok (.goto 8, 3) := by decide +kernel
theorem dX8_kinds_15 : decode cX8_kinds 15 = .ok (.aload_n 0, 1) := by decide +kernel
theorem dX8_kinds_16 : decode cX8_kinds 16 = .ok (.iload_n 1, 1) := by decide +kernel
theorem dX8_kinds_17 : decode cX8_kinds 17 = .ok (.invokevirtual 297, 3) := by decide +kernel
theorem dX8_kinds_20 : decode cX8_kinds 20 = .ok (.ireturn, 1) := by decide +kernel
theorem dX8_news_0 : decode cX8_news 0 = .ok (.aload_n 0, 1) := by decide +kernel
theorem dX8_news_1 : decode cX8_news 1 = .ok (.getfield 23, 3) := by decide +kernel
theorem dX8_news_4 : decode cX8_news 4 = .ok (.aload_n 0, 1) := by decide +kernel
theorem dX8_news_5 : decode cX8_news 5 = .ok (.getfield 19, 3) := by decide +kernel
theorem dX8_news_8 : decode cX8_news 8 = .ok (.invokevirtual 97, 3) := by decide +kernel
theorem dX8_news_11 : decode cX8_news 11 = .ok (.aload_n 0, 1) := by decide +kernel
theorem dX8_news_12 : decode cX8_news 12 = .ok (.getfield 23, 3) := by decide +kernel
theorem dX8_news_15 : decode cX8_news 15 = .ok (.iload_n 1, 1) := by decide +kernel
theorem dX8_news_16 : decode cX8_news 16 = .ok (.invokevirtual 126, 3) := by decide +kernel
theorem dX8_news_19 : decode cX8_news 19 = .ok (.astore_n 2, 1) := by decide +kernel
theorem dX8_news_20 : decode cX8_news 20 = .ok (.aload_n 2, 1) := by decide +kernel
theorem dX8_news_21 : decode cX8_news 21 = .ok (.ifnonnull 5, 3) := by decide +kernel
theorem dX8_news_24 : decode cX8_news 24 = .ok (.iconst (-1), 1) := by decide +kernel
theorem dX8_news_25 : decode cX8_news 25 = .ok (.ireturn, 1) := by decide +kernel
theorem dX8_news_26 : decode cX8_news 26 = .ok (.iconst 0, 1) := by decide +kernel
theorem dX8_news_27 : decode cX8_news 27 = .ok (.istore_n 3, 1) := by decide +kernel
theorem dX8_news_28 : decode cX8_news 28 = .ok (.iconst 0, 1) := by decide +kernel
theorem dX8_news_29 : decode cX8_news 29 = .ok (.istore 4, 2) := by decide +kernel
theorem dX8_news_31 : decode cX8_news 31 = .ok (.iload 4, 2) := by decide +kernel
theorem dX8_news_33 : decode cX8_news 33 = .ok (.bipush 10, 2) := by decide +kernel
theorem dX8_news_35 : decode cX8_news 35 = .ok (.if_icmp .ge 36, 3) := by decide +kernel
theorem dX8_news_38 : decode cX8_news 38 = .ok (.aload_n 2, 1) := by decide +kernel
theorem dX8_news_39 : decode cX8_news 39 = .ok (.iload 4, 2) := by decide +kernel
theorem dX8_news_41 : decode cX8_news 41 = .ok (.putfield 135, 3) := by decide +kernel
theorem dX8_news_44 : decode cX8_news 44 = .ok (.aload_n 0, 1) := by decide +kernel
theorem dX8_news_45 : decode cX8_news 45 = .ok (.getfield 37, 3) := by decide +kernel
theorem dX8_news_48 : decode cX8_news 48 = .ok (.aload_n 0, 1) := by decide +kernel
theorem dX8_news_49 : decode cX8_news 49 = .ok (.getfield 23, 3) := by decide +kernel
theorem dX8_news_52 : decode cX8_news 52 = .ok (.invokevirtual 300, 3) := by decide +kernel
theorem dX8_news_55 : decode cX8_news 55 = .ok (.ifCond .eq 10, 3) := by decide +kernel
theorem dX8_news_58 : decode cX8_news 58 = .ok (.iload_n 3, 1) := by decide +kernel
theorem dX8_news_59 : decode cX8_news 59 = .ok (.iconst 1, 1) := by decide +kernel
theorem dX8_news_60 : decode cX8_news 60 = .ok (.iload 4, 2) := by decide +kernel
theorem dX8_news_62 : decode cX8_news 62 = .ok (.ishl, 1) := by decide +kernel
theorem dX8_news_63 : decode cX8_news 63 = .ok (.ior, 1) := by decide +kernel
theorem dX8_news_64 : decode cX8_news 64 = .ok (.istore_n 3, 1) := by decide +kernel
theorem dX8_news_65 : decode cX8_news 65 = .ok (.iinc 4 1, 3) := by decide +kernel
theorem dX8_news_68 : decode cX8_news 68 = .ok (.goto (-37), 3) := by decide +kernel
theorem dX8_news_71 : decode cX8_news 71 = .ok (.iload_n 3, 1) := by decide +kernel
theorem dX8_news_72 : decode cX8_news 72 = .ok (.ireturn, 1) := by decide +kernel
theorem dX8_ask_0 : decode cX8_ask 0 = .ok (.aload_n 0, 1) := by decide +kernel
theorem dX8_ask_1 : decode cX8_ask 1 = .ok (.getfield 19, 3) := by decide +kernel
theorem dX8_ask_4 : decode cX8_ask 4 = .ok (.iload_n 1, 1) := by decide +kernel
theorem dX8_ask_5 : decode cX8_ask 5 = .ok (.invokevirtual 126, 3) := by decide +kernel
theorem dX8_ask_8 : decode cX8_ask 8 = .ok (.ifnull 10, 3) := by decide +kernel
theorem dX8_ask_11 : decode cX8_ask 11 = .ok (.iload_n 2, 1) := by decide +kernel
theorem dX8_ask_12 : decode cX8_ask 12 = .ok (.invokestatic 160, 3) := by decide +kernel
theorem dX8_ask_15 : decode cX8_ask 15 = .ok (.ifCond .ne 5, 3) := by decide +kernel
theorem dX8_ask_18 : decode cX8_ask 18 = .ok (.iconst (-1), 1) := by decide +kernel
theorem dX8_ask_19 : decode cX8_ask 19 = .ok (.ireturn, 1) := by decide +kernel
theorem dX8_ask_20 : decode cX8_ask 20 = .ok (.aload_n 0, 1) := by decide +kernel
theorem dX8_ask_21 : decode cX8_ask 21 = .ok (.iload_n 1, 1) := by decide +kernel
theorem dX8_ask_22 : decode cX8_ask 22 = .ok (.invokevirtual 297, 3) := by decide +kernel
theorem dX8_ask_25 : decode cX8_ask 25 = .ok (.istore_n 3, 1) := by decide +kernel
theorem dX8_ask_26 : decode cX8_ask 26 = .ok (.iload_n 3, 1) := by decide +kernel
theorem dX8_ask_27 : decode cX8_ask 27 = .ok (.invokestatic 251, 3) := by decide +kernel
theorem dX8_ask_30 : decode cX8_ask 30 = .ok (.istore 4, 2) := by decide +kernel
theorem dX8_ask_32 : decode cX8_ask 32 = .ok (.aload_n 0, 1) := by decide +kernel
theorem dX8_ask_33 : decode cX8_ask 33 = .ok (.getfield 57, 3) := by decide +kernel
theorem dX8_ask_36 : decode cX8_ask 36 = .ok (.iload 4, 2) := by decide +kernel
theorem dX8_ask_38 : decode cX8_ask 38 = .ok (.ineg, 1) := by decide +kernel
theorem dX8_ask_39 : decode cX8_ask 39 = .ok (.invokevirtual 246, 3) := by decide +kernel
theorem dX8_ask_42 : decode cX8_ask 42 = .ok (.iconst 0, 1) := by decide +kernel
theorem dX8_ask_43 : decode cX8_ask 43 = .ok (.istore 5, 2) := by decide +kernel
theorem dX8_ask_45 : decode cX8_ask 45 = .ok (.iload 5, 2) := by decide +kernel
theorem dX8_ask_47 : decode cX8_ask 47 = .ok (.aload_n 0, 1) := by decide +kernel
theorem dX8_ask_48 : decode cX8_ask 48 = .ok (.getfield 19, 3) := by decide +kernel
theorem dX8_ask_51 : decode cX8_ask 51 = .ok (.getfield 113, 3) := by decide +kernel
theorem dX8_ask_54 : decode cX8_ask 54 = .ok (.if_icmp .ge 67, 3) := by decide +kernel
theorem dX8_ask_57 : decode cX8_ask 57 = .ok (.aload_n 0, 1) := by decide +kernel
theorem dX8_ask_58 : decode cX8_ask 58 = .ok (.iload_n 1, 1) := by decide +kernel
theorem dX8_ask_59 : decode cX8_ask 59 = .ok (.iload 5, 2) := by decide +kernel
theorem dX8_ask_61 : decode cX8_ask 61 = .ok (.invokevirtual 304, 3) := by decide +kernel
theorem dX8_ask_64 : decode cX8_ask 64 = .ok (.iconst 0, 1) := by decide +kernel
theorem dX8_ask_65 : decode cX8_ask 65 = .ok (.istore 6, 2) := by decide +kernel
theorem dX8_ask_67 : decode cX8_ask 67 = .ok (.iload 6, 2) := by decide +kernel
theorem dX8_ask_69 : decode cX8_ask 69 = .ok (.bipush 60, 2) := by decide +kernel
theorem dX8_ask_71 : decode cX8_ask 71 = .ok (.if_icmp .ge 44, 3) := by decide +kernel
theorem dX8_ask_74 : decode cX8_ask 74 = .ok (.aload_n 0, 1) := by decide +kernel
theorem dX8_ask_75 : decode cX8_ask 75 = .ok (.iload_n 3, 1) := by decide +kernel
theorem dX8_ask_76 : decode cX8_ask 76 = .ok (.iload 6, 2) := by decide +kernel
theorem dX8_ask_78 : decode cX8_ask 78 = .ok (.invokevirtual 307, 3) := by decide +kernel
theorem dX8_ask_81 : decode cX8_ask 81 = .ok (.istore 7, 2) := by decide +kernel
theorem dX8_ask_83 : decode cX8_ask 83 = .ok (.aload_n 0, 1) := by decide +kernel
theorem dX8_ask_84 : decode cX8_ask 84 = .ok (.getfield 57, 3) := by decide +kernel
theorem dX8_ask_87 : decode cX8_ask 87 = .ok (.bipush 100, 2) := by decide +kernel
theorem dX8_ask_89 : decode cX8_ask 89 = .ok (.iload 5, 2) := by decide +kernel
theorem dX8_ask_91 : decode cX8_ask 91 = .ok (.imul, 1) := by decide +kernel
theorem dX8_ask_92 : decode cX8_ask 92 = .ok (.iload 6, 2) := by decide +kernel
theorem dX8_ask_94 : decode cX8_ask 94 = .ok (.iadd, 1) := by decide +kernel
theorem dX8_ask_95 : decode cX8_ask 95 = .ok (.iload 7, 2) := by decide +kernel
theorem dX8_ask_97 : decode cX8_ask 97 = .ok (.iload 4, 2) := by decide +kernel
theorem dX8_ask_99 : decode cX8_ask 99 = .ok (.iload 7, 2) := by decide +kernel
theorem dX8_ask_101 : decode cX8_ask 101 = .ok (.isub, 1) := by decide +kernel
theorem dX8_ask_102 : decode cX8_ask 102 = .ok (.invokestatic 310, 3) := by decide +kernel
theorem dX8_ask_105 : decode cX8_ask 105 = .ok (.ineg, 1) := by decide +kernel
theorem dX8_ask_106 : decode cX8_ask 106 = .ok (.invokevirtual 255, 3) := by decide +kernel
theorem dX8_ask_109 : decode cX8_ask 109 = .ok (.iinc 6 1, 3) := by decide +kernel
theorem dX8_ask_112 : decode cX8_ask 112 = .ok (.goto (-45), 3) := by decide +kernel
theorem dX8_ask_115 : decode cX8_ask 115 = .ok (.iinc 5 1, 3) := by decide +kernel
theorem dX8_ask_118 : decode cX8_ask 118 = .ok (.goto (-73), 3) := by decide +kernel
theorem dX8_ask_121 : decode cX8_ask 121 = .ok (.aload_n 0, 1) := by decide +kernel
theorem dX8_ask_122 : decode cX8_ask 122 = .ok (.getfield 57, 3) := by decide +kernel
theorem dX8_ask_125 : decode cX8_ask 125 = .ok (.iload_n 2, 1) := by decide +kernel
theorem dX8_ask_126 : decode cX8_ask 126 = .ok (.invokevirtual 277, 3) := by decide +kernel
theorem dX8_ask_129 : decode cX8_ask 129 = .ok (.ireturn, 1) := by decide +kernel
theorem dX8_drift_0 : decode cX8_drift 0 = .ok (.iload_n 2, 1) := by decide +kernel
theorem dX8_drift_1 : decode cX8_drift 1 = .ok (.iconst 1, 1) := by decide +kernel
theorem dX8_drift_2 : decode cX8_drift 2 = .ok (.bipush 60, 2) := by decide +kernel
theorem dX8_drift_4 : decode cX8_drift 4 = .ok (.invokestatic 70, 3) := by decide +kernel
theorem dX8_drift_7 : decode cX8_drift 7 = .ok (.ifCond .eq 10, 3) := by decide +kernel
theorem dX8_drift_10 : decode cX8_drift 10 = .ok (.iload_n 3, 1) := by decide +kernel
theorem dX8_drift_11 : decode cX8_drift 11 = .ok (.invokestatic 160, 3) := by decide +kernel
theorem dX8_drift_14 : decode cX8_drift 14 = .ok (.ifCond .ne 5, 3) := by decide +kernel
theorem dX8_drift_17 : decode cX8_drift 17 = .ok (.iconst (-1), 1) := by decide +kernel
theorem dX8_drift_18 : decode cX8_drift 18 = .ok (.ireturn, 1) := by decide +kernel
theorem dX8_drift_19 : decode cX8_drift 19 = .ok (.aload_n 0, 1) := by decide +kernel
theorem dX8_drift_20 : decode cX8_drift 20 = .ok (.getfield 19, 3) := by decide +kernel
theorem dX8_drift_23 : decode cX8_drift 23 = .ok (.getfield 107, 3) := by decide +kernel
theorem dX8_drift_26 : decode cX8_drift 26 = .ok (.iconst 1, 1) := by decide +kernel
theorem dX8_drift_27 : decode cX8_drift 27 = .ok (.if_icmp .ge 6, 3) := by decide +kernel
theorem dX8_drift_30 : decode cX8_drift 30 = .ok (.bipush (-2), 2) := by decide +kernel
theorem dX8_drift_32 : decode cX8_drift 32 = .ok (.ireturn, 1) := by decide +kernel
theorem dX8_drift_33 : decode cX8_drift 33 = .ok (.aload_n 0, 1) := by decide +kernel
theorem dX8_drift_34 : decode cX8_drift 34 = .ok (.getfield 23, 3) := by decide +kernel
theorem dX8_drift_37 : decode cX8_drift 37 = .ok (.aload_n 0, 1) := by decide +kernel
theorem dX8_drift_38 : decode cX8_drift 38 = .ok (.getfield 19, 3) := by decide +kernel
theorem dX8_drift_41 : decode cX8_drift 41 = .ok (.invokevirtual 97, 3) := by decide +kernel
theorem dX8_drift_44 : decode cX8_drift 44 = .ok (.iconst 0, 1) := by decide +kernel
theorem dX8_drift_45 : decode cX8_drift 45 = .ok (.istore 4, 2) := by decide +kernel
theorem dX8_drift_47 : decode cX8_drift 47 = .ok (.iconst 0, 1) := by decide +kernel
theorem dX8_drift_48 : decode cX8_drift 48 = .ok (.istore 5, 2) := by decide +kernel
theorem dX8_drift_50 : decode cX8_drift 50 = .ok (.iconst 0, 1) := by decide +kernel
theorem dX8_drift_51 : decode cX8_drift 51 = .ok (.istore 6, 2) := by decide +kernel
theorem dX8_drift_53 : decode cX8_drift 53 = .ok (.iload 6, 2) := by decide +kernel
theorem dX8_drift_55 : decode cX8_drift 55 = .ok (.iload_n 2, 1) := by decide +kernel
theorem dX8_drift_56 : decode cX8_drift 56 = .ok (.if_icmp .ge 52, 3) := by decide +kernel
theorem dX8_drift_59 : decode cX8_drift 59 = .ok (.iload_n 1, 1) := by decide +kernel
theorem dX8_drift_60 : decode cX8_drift 60 = .ok (.ldc_w 313, 3) := by decide +kernel
theorem dX8_drift_63 : decode cX8_drift 63 = .ok (.imul, 1) := by decide +kernel
theorem dX8_drift_64 : decode cX8_drift 64 = .ok (.sipush 12345, 3) := by decide +kernel
theorem dX8_drift_67 : decode cX8_drift 67 = .ok (.iadd, 1) := by decide +kernel
theorem dX8_drift_68 : decode cX8_drift 68 = .ok (.istore_n 1, 1) := by decide +kernel
theorem dX8_drift_69 : decode cX8_drift 69 = .ok (.aload_n 0, 1) := by decide +kernel
theorem dX8_drift_70 : decode cX8_drift 70 = .ok (.getfield 23, 3) := by decide +kernel
theorem dX8_drift_73 : decode cX8_drift 73 = .ok (.iload_n 1, 1) := by decide +kernel
theorem dX8_drift_74 : decode cX8_drift 74 = .ok (.bipush 16, 2) := by decide +kernel
theorem dX8_drift_76 : decode cX8_drift 76 = .ok (.iushr, 1) := by decide +kernel
theorem dX8_drift_77 : decode cX8_drift 77 = .ok (.sipush 32767, 3) := by decide +kernel
theorem dX8_drift_80 : decode cX8_drift 80 = .ok (.iand, 1) := by decide +kernel
theorem dX8_drift_81 : decode cX8_drift 81 = .ok (.invokevirtual 314, 3) := by decide +kernel
theorem dX8_drift_84 : decode cX8_drift 84 = .ok (.aload_n 0, 1) := by decide +kernel
theorem dX8_drift_85 : decode cX8_drift 85 = .ok (.getfield 23, 3) := by decide +kernel
theorem dX8_drift_88 : decode cX8_drift 88 = .ok (.bipush 15, 2) := by decide +kernel
theorem dX8_drift_90 : decode cX8_drift 90 = .ok (.invokevirtual 122, 3) := by decide +kernel
theorem dX8_drift_93 : decode cX8_drift 93 = .ok (.istore 5, 2) := by decide +kernel
theorem dX8_drift_95 : decode cX8_drift 95 = .ok (.iload 4, 2) := by decide +kernel
theorem dX8_drift_97 : decode cX8_drift 97 = .ok (.iload 5, 2) := by decide +kernel
theorem dX8_drift_99 : decode cX8_drift 99 = .ok (.iadd, 1) := by decide +kernel
theorem dX8_drift_100 : decode cX8_drift 100 = .ok (.istore 4, 2) := by decide +kernel
theorem dX8_drift_102 : decode cX8_drift 102 = .ok (.iinc 6 1, 3) := by decide +kernel
theorem dX8_drift_105 : decode cX8_drift 105 = .ok (.goto (-52), 3) := by decide +kernel
theorem dX8_drift_108 : decode cX8_drift 108 = .ok (.iload_n 3, 1) := by decide +kernel
theorem dX8_drift_109 : decode cX8_drift 109 = .ok (.ifCond .ne 8, 3) := by decide +kernel
theorem dX8_drift_112 : decode cX8_drift 112 = .ok (.iload 4, 2) := by decide +kernel
theorem dX8_drift_114 : decode cX8_drift 114 = .ok (.goto 5, 3) := by decide +kernel
theorem dX8_drift_117 : decode cX8_drift 117 = .ok (.iload 5, 2) := by decide +kernel
theorem dX8_drift_119 : decode cX8_drift 119 = .ok (.ireturn, 1) := by decide +kernel
theorem dX8_keep_0 : decode cX8_keep 0 = .ok (.iload_n 1, 1) := by decide +kernel
theorem dX8_keep_1 : decode cX8_keep 1 = .ok (.iconst 0, 1) := by decide +kernel
theorem dX8_keep_2 : decode cX8_keep 2 = .ok (.iconst 1, 1) := by decide +kernel
theorem dX8_keep_3 : decode cX8_keep 3 = .ok (.invokestatic 70, 3) := by decide +kernel
theorem dX8_keep_6 : decode cX8_keep 6 = .ok (.ifCond .ne 5, 3) := by decide +kernel
theorem dX8_keep_9 : decode cX8_keep 9 = .ok (.iconst (-1), 1) := by decide +kernel
theorem dX8_keep_10 : decode cX8_keep 10 = .ok (.ireturn, 1) := by decide +kernel
theorem dX8_keep_11 : decode cX8_keep 11 = .ok (.aload_n 0, 1) := by decide +kernel
theorem dX8_keep_12 : decode cX8_keep 12 = .ok (.getfield 30, 3) := by decide +kernel
theorem dX8_keep_15 : decode cX8_keep 15 = .ok (.iload_n 1, 1) := by decide +kernel
theorem dX8_keep_16 : decode cX8_keep 16 = .ok (.baload, 1) := by decide +kernel
theorem dX8_keep_17 : decode cX8_keep 17 = .ok (.ifCond .eq 7, 3) := by decide +kernel
theorem dX8_keep_20 : decode cX8_keep 20 = .ok (.iconst 1, 1) := by decide +kernel
theorem dX8_keep_21 : decode cX8_keep 21 = .ok (.goto 4, 3) := by decide +kernel
theorem dX8_keep_24 : decode cX8_keep 24 = .ok (.iconst 0, 1) := by decide +kernel
theorem dX8_keep_25 : decode cX8_keep 25 = .ok (.istore_n 2, 1) := by decide +kernel
theorem dX8_keep_26 : decode cX8_keep 26 = .ok (.aload_n 0, 1) := by decide +kernel
theorem dX8_keep_27 : decode cX8_keep 27 = .ok (.getfield 26, 3) := by decide +kernel
theorem dX8_keep_30 : decode cX8_keep 30 = .ok (.iload_n 1, 1) := by decide +kernel
theorem dX8_keep_31 : decode cX8_keep 31 = .ok (.aaload, 1) := by decide +kernel
theorem dX8_keep_32 : decode cX8_keep 32 = .ok (.aload_n 0, 1) := by decide +kernel
theorem dX8_keep_33 : decode cX8_keep 33 = .ok (.getfield 19, 3) := by decide +kernel
theorem dX8_keep_36 : decode cX8_keep 36 = .ok (.invokevirtual 97, 3) := by decide +kernel
theorem dX8_keep_39 : decode cX8_keep 39 = .ok (.aload_n 0, 1) := by decide +kernel
theorem dX8_keep_40 : decode cX8_keep 40 = .ok (.getfield 30, 3) := by decide +kernel
theorem dX8_keep_43 : decode cX8_keep 43 = .ok (.iload_n 1, 1) := by decide +kernel
theorem dX8_keep_44 : decode cX8_keep 44 = .ok (.iconst 1, 1) := by decide +kernel
theorem dX8_keep_45 : decode cX8_keep 45 = .ok (.bastore, 1) := by decide +kernel
theorem dX8_keep_46 : decode cX8_keep 46 = .ok (.iload_n 2, 1) := by decide +kernel
theorem dX8_keep_47 : decode cX8_keep 47 = .ok (.ireturn, 1) := by decide +kernel
theorem dX8_back_0 : decode cX8_back 0 = .ok (.iload_n 1, 1) := by decide +kernel
theorem dX8_back_1 : decode cX8_back 1 = .ok (.iconst 0, 1) := by decide +kernel
theorem dX8_back_2 : decode cX8_back 2 = .ok (.iconst 1, 1) := by decide +kernel
theorem dX8_back_3 : decode cX8_back 3 = .ok (.invokestatic 70, 3) := by decide +kernel
theorem dX8_back_6 : decode cX8_back 6 = .ok (.ifCond .ne 5, 3) := by decide +kernel
theorem dX8_back_9 : decode cX8_back 9 = .ok (.iconst (-1), 1) := by decide +kernel
theorem dX8_back_10 : decode cX8_back 10 = .ok (.ireturn, 1) := by decide +kernel
theorem dX8_back_11 : decode cX8_back 11 = .ok (.aload_n 0, 1) := by decide +kernel
theorem dX8_back_12 : decode cX8_back 12 = .ok (.getfield 30, 3) := by decide +kernel
theorem dX8_back_15 : decode cX8_back 15 = .ok (.iload_n 1, 1) := by decide +kernel
theorem dX8_back_16 : decode cX8_back 16 = .ok (.baload, 1) := by decide +kernel
theorem dX8_back_17 : decode cX8_back 17 = .ok (.ifCond .ne 6, 3) := by decide +kernel
theorem dX8_back_20 : decode cX8_back 20 = .ok (.bipush (-2), 2) := by decide +kernel
theorem dX8_back_22 : decode cX8_back 22 = .ok (.ireturn, 1) := by decide +kernel
theorem dX8_back_23 : decode cX8_back 23 = .ok (.aload_n 0, 1) := by decide +kernel
theorem dX8_back_24 : decode cX8_back 24 = .ok (.getfield 19, 3) := by decide +kernel
theorem dX8_back_27 : decode cX8_back 27 = .ok (.aload_n 0, 1) := by decide +kernel
theorem dX8_back_28 : decode cX8_back 28 = .ok (.getfield 26, 3) := by decide +kernel
theorem dX8_back_31 : decode cX8_back 31 = .ok (.iload_n 1, 1) := by decide +kernel
theorem dX8_back_32 : decode cX8_back 32 = .ok (.aaload, 1) := by decide +kernel
theorem dX8_back_33 : decode cX8_back 33 = .ok (.invokevirtual 97, 3) := by decide +kernel
theorem dX8_back_36 : decode cX8_back 36 = .ok (.aload_n 0, 1) := by decide +kernel
theorem dX8_back_37 : decode cX8_back 37 = .ok (.getfield 19, 3) := by decide +kernel
theorem dX8_back_40 : decode cX8_back 40 = .ok (.bipush 15, 2) := by decide +kernel
theorem dX8_back_42 : decode cX8_back 42 = .ok (.invokevirtual 122, 3) := by decide +kernel
theorem dX8_back_45 : decode cX8_back 45 = .ok (.ireturn, 1) := by decide +kernel
theorem dX8_sheet_0 : decode cX8_sheet 0 = .ok (.iload_n 1, 1) := by decide +kernel
theorem dX8_sheet_1 : decode cX8_sheet 1 = .ok (.invokestatic 317, 3) := by decide +kernel
theorem dX8_sheet_4 : decode cX8_sheet 4 = .ok (.ifCond .eq 16, 3) := by decide +kernel
theorem dX8_sheet_7 : decode cX8_sheet 7 = .ok (.iload_n 2, 1) := by decide +kernel
theorem dX8_sheet_8 : decode cX8_sheet 8 = .ok (.invokestatic 320, 3) := by decide +kernel
theorem dX8_sheet_11 : decode cX8_sheet 11 = .ok (.ifCond .eq 9, 3) := by decide +kernel
theorem dX8_sheet_14 : decode cX8_sheet 14 = .ok (.iload_n 3, 1) := by decide +kernel
theorem dX8_sheet_15 : decode cX8_sheet 15 = .ok (.bipush 40, 2) := by decide +kernel
theorem dX8_sheet_17 : decode cX8_sheet 17 = .ok (.if_icmp .le 5, 3) := by decide +kernel
theorem dX8_sheet_20 : decode cX8_sheet 20 = .ok (.iconst (-1), 1) := by decide +kernel
theorem dX8_sheet_21 : decode cX8_sheet 21 = .ok (.ireturn, 1) := by decide +kernel
theorem dX8_sheet_22 : decode cX8_sheet 22 = .ok (.iload_n 3, 1) := by decide +kernel
theorem dX8_sheet_23 : decode cX8_sheet 23 = .ok (.ifCond .ge 6, 3) := by decide +kernel
theorem dX8_sheet_26 : decode cX8_sheet 26 = .ok (.bipush (-14), 2) := by decide +kernel
theorem dX8_sheet_28 : decode cX8_sheet 28 = .ok (.ireturn, 1) := by decide +kernel
theorem dX8_sheet_29 : decode cX8_sheet 29 = .ok (.aload_n 0, 1) := by decide +kernel
theorem dX8_sheet_30 : decode cX8_sheet 30 = .ok (.getfield 43, 3) := by decide +kernel
theorem dX8_sheet_33 : decode cX8_sheet 33 = .ok (.iload_n 1, 1) := by decide +kernel
theorem dX8_sheet_34 : decode cX8_sheet 34 = .ok (.aaload, 1) := by decide +kernel
theorem dX8_sheet_35 : decode cX8_sheet 35 = .ok (.iload_n 2, 1) := by decide +kernel
theorem dX8_sheet_36 : decode cX8_sheet 36 = .ok (.iload_n 3, 1) := by decide +kernel
theorem dX8_sheet_37 : decode cX8_sheet 37 = .ok (.invokevirtual 323, 3) := by decide +kernel
theorem dX8_sheet_40 : decode cX8_sheet 40 = .ok (.iconst 1, 1) := by decide +kernel
theorem dX8_sheet_41 : decode cX8_sheet 41 = .ok (.ireturn, 1) := by decide +kernel
theorem dX8_lay_0 : decode cX8_lay 0 = .ok (.iload_n 1, 1) := by decide +kernel
theorem dX8_lay_1 : decode cX8_lay 1 = .ok (.invokestatic 317, 3) := by decide +kernel
theorem dX8_lay_4 : decode cX8_lay 4 = .ok (.ifCond .ne 5, 3) := by decide +kernel
theorem dX8_lay_7 : decode cX8_lay 7 = .ok (.iconst (-1), 1) := by decide +kernel
theorem dX8_lay_8 : decode cX8_lay 8 = .ok (.ireturn, 1) := by decide +kernel
theorem dX8_lay_9 : decode cX8_lay 9 = .ok (.aload_n 0, 1) := by decide +kernel
theorem dX8_lay_10 : decode cX8_lay 10 = .ok (.getfield 43, 3) := by decide +kernel
theorem dX8_lay_13 : decode cX8_lay 13 = .ok (.iload_n 1, 1) := by decide +kernel
theorem dX8_lay_14 : decode cX8_lay 14 = .ok (.aaload, 1) := by decide +kernel
theorem dX8_lay_15 : decode cX8_lay 15 = .ok (.astore 4, 2) := by decide +kernel
theorem dX8_lay_17 : decode cX8_lay 17 = .ok (.aload 4, 2) := by decide +kernel
theorem dX8_lay_19 : decode cX8_lay 19 = .ok (.aload 4, 2) := by decide +kernel
theorem dX8_lay_21 : decode cX8_lay 21 = .ok (.getfield 326, 3) := by decide +kernel
theorem dX8_lay_24 : decode cX8_lay 24 = .ok (.iload_n 2, 1) := by decide +kernel
theorem dX8_lay_25 : decode cX8_lay 25 = .ok (.invokevirtual 329, 3) := by decide +kernel
theorem dX8_lay_28 : decode cX8_lay 28 = .ok (.istore 5, 2) := by decide +kernel
theorem dX8_lay_30 : decode cX8_lay 30 = .ok (.iload 5, 2) := by decide +kernel
theorem dX8_lay_32 : decode cX8_lay 32 = .ok (.ifCond .eq 9, 3) := by decide +kernel
theorem dX8_lay_35 : decode cX8_lay 35 = .ok (.bipush (-10), 2) := by decide +kernel
theorem dX8_lay_37 : decode cX8_lay 37 = .ok (.iload 5, 2) := by decide +kernel
theorem dX8_lay_39 : decode cX8_lay 39 = .ok (.isub, 1) := by decide +kernel
theorem dX8_lay_40 : decode cX8_lay 40 = .ok (.ireturn, 1) := by decide +kernel
theorem dX8_lay_41 : decode cX8_lay 41 = .ok (.aload 4, 2) := by decide +kernel
theorem dX8_lay_43 : decode cX8_lay 43 = .ok (.iload_n 2, 1) := by decide +kernel
theorem dX8_lay_44 : decode cX8_lay 44 = .ok (.iload_n 3, 1) := by decide +kernel
theorem dX8_lay_45 : decode cX8_lay 45 = .ok (.invokevirtual 332, 3) := by decide +kernel
theorem dX8_lay_48 : decode cX8_lay 48 = .ok (.iconst 1, 1) := by decide +kernel
theorem dX8_lay_49 : decode cX8_lay 49 = .ok (.ireturn, 1) := by decide +kernel
theorem dX8_read_0 : decode cX8_read 0 = .ok (.iload_n 1, 1) := by decide +kernel
theorem dX8_read_1 : decode cX8_read 1 = .ok (.invokestatic 317, 3) := by decide +kernel
theorem dX8_read_4 : decode cX8_read 4 = .ok (.ifCond .eq 21, 3) := by decide +kernel
theorem dX8_read_7 : decode cX8_read 7 = .ok (.iload_n 2, 1) := by decide +kernel
theorem dX8_read_8 : decode cX8_read 8 = .ok (.invokestatic 320, 3) := by decide +kernel
theorem dX8_read_11 : decode cX8_read 11 = .ok (.ifCond .eq 14, 3) := by decide +kernel
theorem dX8_read_14 : decode cX8_read 14 = .ok (.iload 4, 2) := by decide +kernel
theorem dX8_read_16 : decode cX8_read 16 = .ok (.iconst 0, 1) := by decide +kernel
theorem dX8_read_17 : decode cX8_read 17 = .ok (.bipush 20, 2) := by decide +kernel
theorem dX8_read_19 : decode cX8_read 19 = .ok (.invokestatic 70, 3) := by decide +kernel
theorem dX8_read_22 : decode cX8_read 22 = .ok (.ifCond .ne 5, 3) := by decide +kernel
theorem dX8_read_25 : decode cX8_read 25 = .ok (.iconst (-1), 1) := by decide +kernel
theorem dX8_read_26 : decode cX8_read 26 = .ok (.ireturn, 1) := by decide +kernel
theorem dX8_read_27 : decode cX8_read 27 = .ok (.aload_n 0, 1) := by decide +kernel
theorem dX8_read_28 : decode cX8_read 28 = .ok (.getfield 43, 3) := by decide +kernel
theorem dX8_read_31 : decode cX8_read 31 = .ok (.iload_n 1, 1) := by decide +kernel
theorem dX8_read_32 : decode cX8_read 32 = .ok (.aaload, 1) := by decide +kernel
theorem dX8_read_33 : decode cX8_read 33 = .ok (.astore 5, 2) := by decide +kernel
theorem dX8_read_35 : decode cX8_read 35 = .ok (.iconst 0, 1) := by decide +kernel
theorem dX8_read_36 : decode cX8_read 36 = .ok (.istore 6, 2) := by decide +kernel
theorem dX8_read_38 : decode cX8_read 38 = .ok (.iconst 0, 1) := by decide +kernel
theorem dX8_read_39 : decode cX8_read 39 = .ok (.istore 7, 2) := by decide +kernel
theorem dX8_read_41 : decode cX8_read 41 = .ok (.iconst 0, 1) := by decide +kernel
theorem dX8_read_42 : decode cX8_read 42 = .ok (.istore 8, 2) := by decide +kernel
theorem dX8_read_44 : decode cX8_read 44 = .ok (.iload 8, 2) := by decide +kernel
theorem dX8_read_46 : decode cX8_read 46 = .ok (.iload 4, 2) := by decide +kernel
theorem dX8_read_48 : decode cX8_read 48 = .ok (.if_icmp .ge 62, 3) := by decide +kernel
theorem dX8_read_51 : decode cX8_read 51 = .ok (.iload 6, 2) := by decide +kernel
theorem dX8_read_53 : decode cX8_read 53 = .ok (.ifCond .ne 57, 3) := by decide +kernel
theorem dX8_read_56 : decode cX8_read 56 = .ok (.aload 5, 2) := by decide +kernel
theorem dX8_read_58 : decode cX8_read 58 = .ok (.iload_n 2, 1) := by decide +kernel
theorem dX8_read_59 : decode cX8_read 59 = .ok (.iload_n 3, 1) := by decide +kernel
theorem dX8_read_60 : decode cX8_read 60 = .ok (.iconst 2, 1) := by decide +kernel
theorem dX8_read_61 : decode cX8_read 61 = .ok (.iload 8, 2) := by decide +kernel
theorem dX8_read_63 : decode cX8_read 63 = .ok (.imul, 1) := by decide +kernel
theorem dX8_read_64 : decode cX8_read 64 = .ok (.iadd, 1) := by decide +kernel
theorem dX8_read_65 : decode cX8_read 65 = .ok (.invokevirtual 335, 3) := by decide +kernel
theorem dX8_read_68 : decode cX8_read 68 = .ok (.istore 6, 2) := by decide +kernel
theorem dX8_read_70 : decode cX8_read 70 = .ok (.iload 6, 2) := by decide +kernel
theorem dX8_read_72 : decode cX8_read 72 = .ok (.ifCond .ne 24, 3) := by decide +kernel
theorem dX8_read_75 : decode cX8_read 75 = .ok (.aload_n 0, 1) := by decide +kernel
theorem dX8_read_76 : decode cX8_read 76 = .ok (.aload 5, 2) := by decide +kernel
theorem dX8_read_78 : decode cX8_read 78 = .ok (.iload_n 3, 1) := by decide +kernel
theorem dX8_read_79 : decode cX8_read 79 = .ok (.iconst 2, 1) := by decide +kernel
theorem dX8_read_80 : decode cX8_read 80 = .ok (.iload 8, 2) := by decide +kernel
theorem dX8_read_82 : decode cX8_read 82 = .ok (.imul, 1) := by decide +kernel
theorem dX8_read_83 : decode cX8_read 83 = .ok (.iadd, 1) := by decide +kernel
theorem dX8_read_84 : decode cX8_read 84 = .ok (.invokevirtual 338, 3) := by decide +kernel
theorem dX8_read_87 : decode cX8_read 87 = .ok (.ifCond .ne 9, 3) := by decide +kernel
theorem dX8_read_90 : decode cX8_read 90 = .ok (.bipush (-20), 2) := by decide +kernel
theorem dX8_read_92 : decode cX8_read 92 = .ok (.iload 8, 2) := by decide +kernel
theorem dX8_read_94 : decode cX8_read 94 = .ok (.isub, 1) := by decide +kernel
theorem dX8_read_95 : decode cX8_read 95 = .ok (.ireturn, 1) := by decide +kernel
theorem dX8_read_96 : decode cX8_read 96 = .ok (.iload 6, 2) := by decide +kernel
theorem dX8_read_98 : decode cX8_read 98 = .ok (.ifCond .ne 6, 3) := by decide +kernel
theorem dX8_read_101 : decode cX8_read 101 = .ok (.iinc 7 1, 3) := by decide +kernel
theorem dX8_read_104 : decode cX8_read 104 = .ok (.iinc 8 1, 3) := by decide +kernel
theorem dX8_read_107 : decode cX8_read 107 = .ok (.goto (-63), 3) := by decide +kernel
theorem dX8_read_110 : decode cX8_read 110 = .ok (.iconst 0, 1) := by decide +kernel
theorem dX8_read_111 : decode cX8_read 111 = .ok (.istore 8, 2) := by decide +kernel
theorem dX8_read_113 : decode cX8_read 113 = .ok (.iload 8, 2) := by decide +kernel
theorem dX8_read_115 : decode cX8_read 115 = .ok (.iload 7, 2) := by decide +kernel
theorem dX8_read_117 : decode cX8_read 117 = .ok (.if_icmp .ge 39, 3) := by decide +kernel
theorem dX8_read_120 : decode cX8_read 120 = .ok (.aload_n 0, 1) := by decide +kernel
theorem dX8_read_121 : decode cX8_read 121 = .ok (.aload 5, 2) := by decide +kernel
theorem dX8_read_123 : decode cX8_read 123 = .ok (.iload_n 3, 1) := by decide +kernel
theorem dX8_read_124 : decode cX8_read 124 = .ok (.iconst 2, 1) := by decide +kernel
theorem dX8_read_125 : decode cX8_read 125 = .ok (.iload 8, 2) := by decide +kernel
theorem dX8_read_127 : decode cX8_read 127 = .ok (.imul, 1) := by decide +kernel
theorem dX8_read_128 : decode cX8_read 128 = .ok (.iadd, 1) := by decide +kernel
theorem dX8_read_129 : decode cX8_read 129 = .ok (.invokevirtual 342, 3) := by decide +kernel
theorem dX8_read_132 : decode cX8_read 132 = .ok (.iconst 0, 1) := by decide +kernel
theorem dX8_read_133 : decode cX8_read 133 = .ok (.aload 5, 2) := by decide +kernel
theorem dX8_read_135 : decode cX8_read 135 = .ok (.iload_n 3, 1) := by decide +kernel
theorem dX8_read_136 : decode cX8_read 136 = .ok (.iconst 2, 1) := by decide +kernel
theorem dX8_read_137 : decode cX8_read 137 = .ok (.iload 8, 2) := by decide +kernel
theorem dX8_read_139 : decode cX8_read 139 = .ok (.imul, 1) := by decide +kernel
theorem dX8_read_140 : decode cX8_read 140 = .ok (.iadd, 1) := by decide +kernel
theorem dX8_read_141 : decode cX8_read 141 = .ok (.iconst 1, 1) := by decide +kernel
theorem dX8_read_142 : decode cX8_read 142 = .ok (.iadd, 1) := by decide +kernel
theorem dX8_read_143 : decode cX8_read 143 = .ok (.invokevirtual 342, 3) := by decide +kernel
theorem dX8_read_146 : decode cX8_read 146 = .ok (.invokevirtual 345, 3) := by decide +kernel
theorem dX8_read_149 : decode cX8_read 149 = .ok (.pop, 1) := by decide +kernel
theorem dX8_read_150 : decode cX8_read 150 = .ok (.iinc 8 1, 3) := by decide +kernel
theorem dX8_read_153 : decode cX8_read 153 = .ok (.goto (-40), 3) := by decide +kernel
theorem dX8_read_156 : decode cX8_read 156 = .ok (.aload_n 0, 1) := by decide +kernel
theorem dX8_read_157 : decode cX8_read 157 = .ok (.iload 6, 2) := by decide +kernel
theorem dX8_read_159 : decode cX8_read 159 = .ok (.putfield 65, 3) := by decide +kernel
theorem dX8_read_162 : decode cX8_read 162 = .ok (.iload 7, 2) := by decide +kernel
theorem dX8_read_164 : decode cX8_read 164 = .ok (.ireturn, 1) := by decide +kernel
theorem dX8_torn_0 : decode cX8_torn 0 = .ok (.aload_n 0, 1) := by decide +kernel
theorem dX8_torn_1 : decode cX8_torn 1 = .ok (.getfield 65, 3) := by decide +kernel
theorem dX8_torn_4 : decode cX8_torn 4 = .ok (.ireturn, 1) := by decide +kernel
theorem dX8_count_0 : decode cX8_count 0 = .ok (.iload_n 1, 1) := by decide +kernel
theorem dX8_count_1 : decode cX8_count 1 = .ok (.tableswitch 133 0 5 #[39, 47, 77, 88, 117, 125], 39) := by decide +kernel
theorem dX8_count_40 : decode cX8_count 40 = .ok (.aload_n 0, 1) := by decide +kernel
theorem dX8_count_41 : decode cX8_count 41 = .ok (.getfield 37, 3) := by decide +kernel
theorem dX8_count_44 : decode cX8_count 44 = .ok (.getfield 101, 3) := by decide +kernel
theorem dX8_count_47 : decode cX8_count 47 = .ok (.ireturn, 1) := by decide +kernel
theorem dX8_count_48 : decode cX8_count 48 = .ok (.aload_n 0, 1) := by decide +kernel
theorem dX8_count_49 : decode cX8_count 49 = .ok (.getfield 30, 3) := by decide +kernel
theorem dX8_count_52 : decode cX8_count 52 = .ok (.iconst 0, 1) := by decide +kernel
theorem dX8_count_53 : decode cX8_count 53 = .ok (.baload, 1) := by decide +kernel
theorem dX8_count_54 : decode cX8_count 54 = .ok (.ifCond .eq 7, 3) := by decide +kernel
theorem dX8_count_57 : decode cX8_count 57 = .ok (.iconst 1, 1) := by decide +kernel
theorem dX8_count_58 : decode cX8_count 58 = .ok (.goto 4, 3) := by decide +kernel
theorem dX8_count_61 : decode cX8_count 61 = .ok (.iconst 0, 1) := by decide +kernel
theorem dX8_count_62 : decode cX8_count 62 = .ok (.aload_n 0, 1) := by decide +kernel
theorem dX8_count_63 : decode cX8_count 63 = .ok (.getfield 30, 3) := by decide +kernel
theorem dX8_count_66 : decode cX8_count 66 = .ok (.iconst 1, 1) := by decide +kernel
theorem dX8_count_67 : decode cX8_count 67 = .ok (.baload, 1) := by decide +kernel
theorem dX8_count_68 : decode cX8_count 68 = .ok (.ifCond .eq 7, 3) := by decide +kernel
theorem dX8_count_71 : decode cX8_count 71 = .ok (.iconst 1, 1) := by decide +kernel
theorem dX8_count_72 : decode cX8_count 72 = .ok (.goto 4, 3) := by decide +kernel
theorem dX8_count_75 : decode cX8_count 75 = .ok (.iconst 0, 1) := by decide +kernel
theorem dX8_count_76 : decode cX8_count 76 = .ok (.iadd, 1) := by decide +kernel
theorem dX8_count_77 : decode cX8_count 77 = .ok (.ireturn, 1) := by decide +kernel
theorem dX8_count_78 : decode cX8_count 78 = .ok (.aload_n 0, 1) := by decide +kernel
theorem dX8_count_79 : decode cX8_count 79 = .ok (.getfield 12, 3) := by decide +kernel
theorem dX8_count_82 : decode cX8_count 82 = .ok (.getfield 74, 3) := by decide +kernel
theorem dX8_count_85 : decode cX8_count 85 = .ok (.getfield 84, 3) := by decide +kernel
theorem dX8_count_88 : decode cX8_count 88 = .ok (.ireturn, 1) := by decide +kernel
theorem dX8_count_89 : decode cX8_count 89 = .ok (.aload_n 0, 1) := by decide +kernel
theorem dX8_count_90 : decode cX8_count 90 = .ok (.getfield 43, 3) := by decide +kernel
theorem dX8_count_93 : decode cX8_count 93 = .ok (.iconst 0, 1) := by decide +kernel
theorem dX8_count_94 : decode cX8_count 94 = .ok (.aaload, 1) := by decide +kernel
theorem dX8_count_95 : decode cX8_count 95 = .ok (.getfield 326, 3) := by decide +kernel
theorem dX8_count_98 : decode cX8_count 98 = .ok (.bipush (-4), 2) := by decide +kernel
theorem dX8_count_100 : decode cX8_count 100 = .ok (.if_icmp .ne 8, 3) := by decide +kernel
theorem dX8_count_103 : decode cX8_count 103 = .ok (.bipush (-4), 2) := by decide +kernel
theorem dX8_count_105 : decode cX8_count 105 = .ok (.goto 12, 3) := by decide +kernel
theorem dX8_count_108 : decode cX8_count 108 = .ok (.aload_n 0, 1) := by decide +kernel
theorem dX8_count_109 : decode cX8_count 109 = .ok (.getfield 43, 3) := by decide +kernel
theorem dX8_count_112 : decode cX8_count 112 = .ok (.iconst 0, 1) := by decide +kernel
theorem dX8_count_113 : decode cX8_count 113 = .ok (.aaload, 1) := by decide +kernel
theorem dX8_count_114 : decode cX8_count 114 = .ok (.getfield 349, 3) := by decide +kernel
theorem dX8_count_117 : decode cX8_count 117 = .ok (.ireturn, 1) := by decide +kernel
theorem dX8_count_118 : decode cX8_count 118 = .ok (.aload_n 0, 1) := by decide +kernel
theorem dX8_count_119 : decode cX8_count 119 = .ok (.getfield 19, 3) := by decide +kernel
theorem dX8_count_122 : decode cX8_count 122 = .ok (.invokevirtual 352, 3) := by decide +kernel
theorem dX8_count_125 : decode cX8_count 125 = .ok (.ireturn, 1) := by decide +kernel
theorem dX8_count_126 : decode cX8_count 126 = .ok (.aload_n 0, 1) := by decide +kernel
theorem dX8_count_127 : decode cX8_count 127 = .ok (.getfield 19, 3) := by decide +kernel
theorem dX8_count_130 : decode cX8_count 130 = .ok (.invokevirtual 355, 3) := by decide +kernel
theorem dX8_count_133 : decode cX8_count 133 = .ok (.ireturn, 1) := by decide +kernel
theorem dX8_count_134 : decode cX8_count 134 = .ok (.iconst (-1), 1) := by decide +kernel
theorem dX8_count_135 : decode cX8_count 135 = .ok (.ireturn, 1) := by decide +kernel
theorem dX8_possibleKinds_0 : decode cX8_possibleKinds 0 = .ok (.aload_n 0, 1) := by decide +kernel
theorem dX8_possibleKinds_1 : decode cX8_possibleKinds 1 = .ok (.getfield 23, 3) := by decide +kernel
theorem dX8_possibleKinds_4 : decode cX8_possibleKinds 4 = .ok (.aload_n 0, 1) := by decide +kernel
theorem dX8_possibleKinds_5 : decode cX8_possibleKinds 5 = .ok (.getfield 19, 3) := by decide +kernel
theorem dX8_possibleKinds_8 : decode cX8_possibleKinds 8 = .ok (.invokevirtual 97, 3) := by decide +kernel
theorem dX8_possibleKinds_11 : decode cX8_possibleKinds 11 = .ok (.aload_n 0, 1) := by decide +kernel
theorem dX8_possibleKinds_12 : decode cX8_possibleKinds 12 = .ok (.getfield 23, 3) := by decide +kernel
theorem dX8_possibleKinds_15 : decode cX8_possibleKinds 15 = .ok (.iload_n 1, 1) := by decide +kernel
theorem dX8_possibleKinds_16 : decode cX8_possibleKinds 16 = .ok (.invokevirtual 126, 3) := by decide +kernel
theorem dX8_possibleKinds_19 : decode cX8_possibleKinds 19 = .ok (.astore_n 2, 1) := by decide +kernel
theorem dX8_possibleKinds_20 : decode cX8_possibleKinds 20 = .ok (.iconst 0, 1) := by decide +kernel
theorem dX8_possibleKinds_21 : decode cX8_possibleKinds 21 = .ok (.istore_n 3, 1) := by decide +kernel
theorem dX8_possibleKinds_22 : decode cX8_possibleKinds 22 = .ok (.iconst 0, 1) := by decide +kernel
theorem dX8_possibleKinds_23 : decode cX8_possibleKinds 23 = .ok (.istore 4, 2) := by decide +kernel
theorem dX8_possibleKinds_25 : decode cX8_possibleKinds 25 = .ok (.aload_n 2, 1) := by decide +kernel
theorem dX8_possibleKinds_26 : decode cX8_possibleKinds 26 = .ok (.ifnull 42, 3) := by decide +kernel
theorem dX8_possibleKinds_29 : decode cX8_possibleKinds 29 = .ok (.iload 4, 2) := by decide +kernel
theorem dX8_possibleKinds_31 : decode cX8_possibleKinds 31 = .ok (.iconst 4, 1) := by decide +kernel
theorem dX8_possibleKinds_32 : decode cX8_possibleKinds 32 = .ok (.if_icmp .ge 36, 3) := by decide +kernel
theorem dX8_possibleKinds_35 : decode cX8_possibleKinds 35 = .ok (.aload_n 2, 1) := by decide +kernel
theorem dX8_possibleKinds_36 : decode cX8_possibleKinds 36 = .ok (.iload 4, 2) := by decide +kernel
theorem dX8_possibleKinds_38 : decode cX8_possibleKinds 38 = .ok (.putfield 130, 3) := by decide +kernel
theorem dX8_possibleKinds_41 : decode cX8_possibleKinds 41 = .ok (.aload_n 0, 1) := by decide +kernel
theorem dX8_possibleKinds_42 : decode cX8_possibleKinds 42 = .ok (.getfield 37, 3) := by decide +kernel
theorem dX8_possibleKinds_45 : decode cX8_possibleKinds 45 = .ok (.aload_n 0, 1) := by decide +kernel
theorem dX8_possibleKinds_46 : decode cX8_possibleKinds 46 = .ok (.getfield 23, 3) := by decide +kernel
theorem dX8_possibleKinds_49 : decode cX8_possibleKinds 49 = .ok (.invokevirtual 300, 3) := by decide +kernel
theorem dX8_possibleKinds_52 : decode cX8_possibleKinds 52 = .ok (.ifCond .eq 10, 3) := by decide +kernel
theorem dX8_possibleKinds_55 : decode cX8_possibleKinds 55 = .ok (.iload_n 3, 1) := by decide +kernel
theorem dX8_possibleKinds_56 : decode cX8_possibleKinds 56 = .ok (.iconst 1, 1) := by decide +kernel
theorem dX8_possibleKinds_57 : decode cX8_possibleKinds 57 = .ok (.iload 4, 2) := by decide +kernel
theorem dX8_possibleKinds_59 : decode cX8_possibleKinds 59 = .ok (.ishl, 1) := by decide +kernel
theorem dX8_possibleKinds_60 : decode cX8_possibleKinds 60 = .ok (.ior, 1) := by decide +kernel
theorem dX8_possibleKinds_61 : decode cX8_possibleKinds 61 = .ok (.istore_n 3, 1) := by decide +kernel
theorem dX8_possibleKinds_62 : decode cX8_possibleKinds 62 = .ok (.iinc 4 1, 3) := by decide +kernel
theorem dX8_possibleKinds_65 : decode cX8_possibleKinds 65 = .ok (.goto (-40), 3) := by decide +kernel
theorem dX8_possibleKinds_68 : decode cX8_possibleKinds 68 = .ok (.iload_n 3, 1) := by decide +kernel
theorem dX8_possibleKinds_69 : decode cX8_possibleKinds 69 = .ok (.ireturn, 1) := by decide +kernel
theorem dX8_noteWhenKnown_0 : decode cX8_noteWhenKnown 0 = .ok (.aload_n 0, 1) := by decide +kernel
theorem dX8_noteWhenKnown_1 : decode cX8_noteWhenKnown 1 = .ok (.getfield 23, 3) := by decide +kernel
theorem dX8_noteWhenKnown_4 : decode cX8_noteWhenKnown 4 = .ok (.aload_n 0, 1) := by decide +kernel
theorem dX8_noteWhenKnown_5 : decode cX8_noteWhenKnown 5 = .ok (.getfield 19, 3) := by decide +kernel
theorem dX8_noteWhenKnown_8 : decode cX8_noteWhenKnown 8 = .ok (.invokevirtual 97, 3) := by decide +kernel
theorem dX8_noteWhenKnown_11 : decode cX8_noteWhenKnown 11 = .ok (.aload_n 0, 1) := by decide +kernel
theorem dX8_noteWhenKnown_12 : decode cX8_noteWhenKnown 12 = .ok (.getfield 23, 3) := by decide +kernel
theorem dX8_noteWhenKnown_15 : decode cX8_noteWhenKnown 15 = .ok (.iload_n 1, 1) := by decide +kernel
theorem dX8_noteWhenKnown_16 : decode cX8_noteWhenKnown 16 = .ok (.invokevirtual 126, 3) := by decide +kernel
theorem dX8_noteWhenKnown_19 : decode cX8_noteWhenKnown 19 = .ok (.astore_n 3, 1) := by decide +kernel
theorem dX8_noteWhenKnown_20 : decode cX8_noteWhenKnown 20 = .ok (.aload_n 0, 1) := by decide +kernel
theorem dX8_noteWhenKnown_21 : decode cX8_noteWhenKnown 21 = .ok (.getfield 23, 3) := by decide +kernel
theorem dX8_noteWhenKnown_24 : decode cX8_noteWhenKnown 24 = .ok (.iload_n 2, 1) := by decide +kernel
theorem dX8_noteWhenKnown_25 : decode cX8_noteWhenKnown 25 = .ok (.invokevirtual 169, 3) := by decide +kernel
theorem dX8_noteWhenKnown_28 : decode cX8_noteWhenKnown 28 = .ok (.astore 4, 2) := by decide +kernel
theorem dX8_noteWhenKnown_30 : decode cX8_noteWhenKnown 30 = .ok (.iconst 0, 1) := by decide +kernel
theorem dX8_noteWhenKnown_31 : decode cX8_noteWhenKnown 31 = .ok (.istore 5, 2) := by decide +kernel
theorem dX8_noteWhenKnown_33 : decode cX8_noteWhenKnown 33 = .ok (.aload_n 3, 1) := by decide +kernel
theorem dX8_noteWhenKnown_34 : decode cX8_noteWhenKnown 34 = .ok (.ifnull 46, 3) := by decide +kernel
theorem dX8_noteWhenKnown_37 : decode cX8_noteWhenKnown 37 = .ok (.aload 4, 2) := by decide +kernel
theorem dX8_noteWhenKnown_39 : decode cX8_noteWhenKnown 39 = .ok (.ifnull 41, 3) := by decide +kernel
theorem dX8_noteWhenKnown_42 : decode cX8_noteWhenKnown 42 = .ok (.iload 5, 2) := by decide +kernel
theorem dX8_noteWhenKnown_44 : decode cX8_noteWhenKnown 44 = .ok (.iconst 4, 1) := by decide +kernel
theorem dX8_noteWhenKnown_45 : decode cX8_noteWhenKnown 45 = .ok (.if_icmp .ge 35, 3) := by decide +kernel
theorem dX8_noteWhenKnown_48 : decode cX8_noteWhenKnown 48 = .ok (.aload_n 3, 1) := by decide +kernel
theorem dX8_noteWhenKnown_49 : decode cX8_noteWhenKnown 49 = .ok (.iload 5, 2) := by decide +kernel
theorem dX8_noteWhenKnown_51 : decode cX8_noteWhenKnown 51 = .ok (.putfield 130, 3) := by decide +kernel
theorem dX8_noteWhenKnown_54 : decode cX8_noteWhenKnown 54 = .ok (.aload_n 0, 1) := by decide +kernel
theorem dX8_noteWhenKnown_55 : decode cX8_noteWhenKnown 55 = .ok (.getfield 61, 3) := by decide +kernel
theorem dX8_noteWhenKnown_58 : decode cX8_noteWhenKnown 58 = .ok (.iload 5, 2) := by decide +kernel
theorem dX8_noteWhenKnown_60 : decode cX8_noteWhenKnown 60 = .ok (.aload_n 0, 1) := by decide +kernel
theorem dX8_noteWhenKnown_61 : decode cX8_noteWhenKnown 61 = .ok (.getfield 23, 3) := by decide +kernel
theorem dX8_noteWhenKnown_64 : decode cX8_noteWhenKnown 64 = .ok (.aload 4, 2) := by decide +kernel
theorem dX8_noteWhenKnown_66 : decode cX8_noteWhenKnown 66 = .ok (.aload_n 3, 1) := by decide +kernel
theorem dX8_noteWhenKnown_67 : decode cX8_noteWhenKnown 67 = .ok (.getfield 135, 3) := by decide +kernel
theorem dX8_noteWhenKnown_70 : decode cX8_noteWhenKnown 70 = .ok (.invokevirtual 235, 3) := by decide +kernel
theorem dX8_noteWhenKnown_73 : decode cX8_noteWhenKnown 73 = .ok (.iastore, 1) := by decide +kernel
theorem dX8_noteWhenKnown_74 : decode cX8_noteWhenKnown 74 = .ok (.iinc 5 1, 3) := by decide +kernel
theorem dX8_noteWhenKnown_77 : decode cX8_noteWhenKnown 77 = .ok (.goto (-44), 3) := by decide +kernel
theorem dX8_noteWhenKnown_80 : decode cX8_noteWhenKnown 80 = .ok (.return_, 1) := by decide +kernel
theorem dX8_kindsKnownBy_0 : decode cX8_kindsKnownBy 0 = .ok (.iconst 0, 1) := by decide +kernel
theorem dX8_kindsKnownBy_1 : decode cX8_kindsKnownBy 1 = .ok (.istore_n 3, 1) := by decide +kernel
theorem dX8_kindsKnownBy_2 : decode cX8_kindsKnownBy 2 = .ok (.iconst 0, 1) := by decide +kernel
theorem dX8_kindsKnownBy_3 : decode cX8_kindsKnownBy 3 = .ok (.istore 4, 2) := by decide +kernel
theorem dX8_kindsKnownBy_5 : decode cX8_kindsKnownBy 5 = .ok (.iload 4, 2) := by decide +kernel
theorem dX8_kindsKnownBy_7 : decode cX8_kindsKnownBy 7 = .ok (.iconst 4, 1) := by decide +kernel
theorem dX8_kindsKnownBy_8 : decode cX8_kindsKnownBy 8 = .ok (.if_icmp .ge 37, 3) := by decide +kernel
theorem dX8_kindsKnownBy_11 : decode cX8_kindsKnownBy 11 = .ok (.iload_n 1, 1) := by decide +kernel
theorem dX8_kindsKnownBy_12 : decode cX8_kindsKnownBy 12 = .ok (.iload 4, 2) := by decide +kernel
theorem dX8_kindsKnownBy_14 : decode cX8_kindsKnownBy 14 = .ok (.ishr, 1) := by decide +kernel
theorem dX8_kindsKnownBy_15 : decode cX8_kindsKnownBy 15 = .ok (.iconst 1, 1) := by decide +kernel
theorem dX8_kindsKnownBy_16 : decode cX8_kindsKnownBy 16 = .ok (.iand, 1) := by decide +kernel
theorem dX8_kindsKnownBy_17 : decode cX8_kindsKnownBy 17 = .ok (.iconst 1, 1) := by decide +kernel
theorem dX8_kindsKnownBy_18 : decode cX8_kindsKnownBy 18 = .ok (.if_icmp .ne 21, 3) := by decide +kernel
theorem dX8_kindsKnownBy_21 : decode cX8_kindsKnownBy 21 = .ok (.aload_n 0, 1) := by decide +kernel
theorem dX8_kindsKnownBy_22 : decode cX8_kindsKnownBy 22 = .ok (.getfield 61, 3) := by decide +kernel
theorem dX8_kindsKnownBy_25 : decode cX8_kindsKnownBy 25 = .ok (.iload 4, 2) := by decide +kernel
theorem dX8_kindsKnownBy_27 : decode cX8_kindsKnownBy 27 = .ok (.iaload, 1) := by decide +kernel
theorem dX8_kindsKnownBy_28 : decode cX8_kindsKnownBy 28 = .ok (.iconst 0, 1) := by decide +kernel
theorem dX8_kindsKnownBy_29 : decode cX8_kindsKnownBy 29 = .ok (.iload_n 2, 1) := by decide +kernel
theorem dX8_kindsKnownBy_30 : decode cX8_kindsKnownBy 30 = .ok (.invokestatic 70, 3) := by decide +kernel
theorem dX8_kindsKnownBy_33 : decode cX8_kindsKnownBy 33 = .ok (.ifCond .eq 6, 3) := by decide +kernel
theorem dX8_kindsKnownBy_36 : decode cX8_kindsKnownBy 36 = .ok (.iinc 3 1, 3) := by decide +kernel
theorem dX8_kindsKnownBy_39 : decode cX8_kindsKnownBy 39 = .ok (.iinc 4 1, 3) := by decide +kernel
theorem dX8_kindsKnownBy_42 : decode cX8_kindsKnownBy 42 = .ok (.goto (-37), 3) := by decide +kernel
theorem dX8_kindsKnownBy_45 : decode cX8_kindsKnownBy 45 = .ok (.iload_n 3, 1) := by decide +kernel
theorem dX8_kindsKnownBy_46 : decode cX8_kindsKnownBy 46 = .ok (.ireturn, 1) := by decide +kernel
theorem dX8_canStand_0 : decode cX8_canStand 0 = .ok (.aload_n 0, 1) := by decide +kernel
theorem dX8_canStand_1 : decode cX8_canStand 1 = .ok (.getfield 19, 3) := by decide +kernel
theorem dX8_canStand_4 : decode cX8_canStand 4 = .ok (.aload_n 1, 1) := by decide +kernel
theorem dX8_canStand_5 : decode cX8_canStand 5 = .ok (.iload_n 2, 1) := by decide +kernel
theorem dX8_canStand_6 : decode cX8_canStand 6 = .ok (.invokevirtual 342, 3) := by decide +kernel
theorem dX8_canStand_9 : decode cX8_canStand 9 = .ok (.invokevirtual 169, 3) := by decide +kernel
theorem dX8_canStand_12 : decode cX8_canStand 12 = .ok (.ifnull 20, 3) := by decide +kernel
theorem dX8_canStand_15 : decode cX8_canStand 15 = .ok (.aload_n 1, 1) := by decide +kernel
theorem dX8_canStand_16 : decode cX8_canStand 16 = .ok (.iload_n 2, 1) := by decide +kernel
theorem dX8_canStand_17 : decode cX8_canStand 17 = .ok (.iconst 1, 1) := by decide +kernel
theorem dX8_canStand_18 : decode cX8_canStand 18 = .ok (.iadd, 1) := by decide +kernel
theorem dX8_canStand_19 : decode cX8_canStand 19 = .ok (.invokevirtual 342, 3) := by decide +kernel
theorem dX8_canStand_22 : decode cX8_canStand 22 = .ok (.invokestatic 185, 3) := by decide +kernel
theorem dX8_canStand_25 : decode cX8_canStand 25 = .ok (.ifCond .eq 7, 3) := by decide +kernel
theorem dX8_canStand_28 : decode cX8_canStand 28 = .ok (.iconst 1, 1) := by decide +kernel
theorem dX8_canStand_29 : decode cX8_canStand 29 = .ok (.goto 4, 3) := by decide +kernel
theorem dX8_canStand_32 : decode cX8_canStand 32 = .ok (.iconst 0, 1) := by decide +kernel
theorem dX8_canStand_33 : decode cX8_canStand 33 = .ok (.ireturn, 1) := by decide +kernel
theorem dX8_isWithin_0 : decode cX8_isWithin 0 = .ok (.iload_n 0, 1) := by decide +kernel
theorem dX8_isWithin_1 : decode cX8_isWithin 1 = .ok (.iload_n 1, 1) := by decide +kernel
theorem dX8_isWithin_2 : decode cX8_isWithin 2 = .ok (.if_icmp .lt 12, 3) := by decide +kernel
theorem dX8_isWithin_5 : decode cX8_isWithin 5 = .ok (.iload_n 0, 1) := by decide +kernel
theorem dX8_isWithin_6 : decode cX8_isWithin 6 = .ok (.iload_n 2, 1) := by decide +kernel
theorem dX8_isWithin_7 : decode cX8_isWithin 7 = .ok (.if_icmp .gt 7, 3) := by decide +kernel
theorem dX8_isWithin_10 : decode cX8_isWithin 10 = .ok (.iconst 1, 1) := by decide +kernel
theorem dX8_isWithin_11 : decode cX8_isWithin 11 = .ok (.goto 4, 3) := by decide +kernel
theorem dX8_isWithin_14 : decode cX8_isWithin 14 = .ok (.iconst 0, 1) := by decide +kernel
theorem dX8_isWithin_15 : decode cX8_isWithin 15 = .ok (.ireturn, 1) := by decide +kernel
theorem dX8_isCorner_0 : decode cX8_isCorner 0 = .ok (.iload_n 0, 1) := by decide +kernel
theorem dX8_isCorner_1 : decode cX8_isCorner 1 = .ok (.iconst 0, 1) := by decide +kernel
theorem dX8_isCorner_2 : decode cX8_isCorner 2 = .ok (.bipush 7, 2) := by decide +kernel
theorem dX8_isCorner_4 : decode cX8_isCorner 4 = .ok (.invokestatic 70, 3) := by decide +kernel
theorem dX8_isCorner_7 : decode cX8_isCorner 7 = .ok (.ireturn, 1) := by decide +kernel
theorem dX8_isMinute_0 : decode cX8_isMinute 0 = .ok (.iload_n 0, 1) := by decide +kernel
theorem dX8_isMinute_1 : decode cX8_isMinute 1 = .ok (.iconst 0, 1) := by decide +kernel
theorem dX8_isMinute_2 : decode cX8_isMinute 2 = .ok (.bipush 59, 2) := by decide +kernel
theorem dX8_isMinute_4 : decode cX8_isMinute 4 = .ok (.invokestatic 70, 3) := by decide +kernel
theorem dX8_isMinute_7 : decode cX8_isMinute 7 = .ok (.ireturn, 1) := by decide +kernel
theorem dX8_isNews_0 : decode cX8_isNews 0 = .ok (.iload_n 0, 1) := by decide +kernel
theorem dX8_isNews_1 : decode cX8_isNews 1 = .ok (.iconst 0, 1) := by decide +kernel
theorem dX8_isNews_2 : decode cX8_isNews 2 = .ok (.bipush 9, 2) := by decide +kernel
theorem dX8_isNews_4 : decode cX8_isNews 4 = .ok (.invokestatic 70, 3) := by decide +kernel
theorem dX8_isNews_7 : decode cX8_isNews 7 = .ok (.ireturn, 1) := by decide +kernel
theorem dX8_isEither_0 : decode cX8_isEither 0 = .ok (.iload_n 0, 1) := by decide +kernel
theorem dX8_isEither_1 : decode cX8_isEither 1 = .ok (.ifCond .eq 8, 3) := by decide +kernel
theorem dX8_isEither_4 : decode cX8_isEither 4 = .ok (.iload_n 0, 1) := by decide +kernel
theorem dX8_isEither_5 : decode cX8_isEither 5 = .ok (.iconst 1, 1) := by decide +kernel
theorem dX8_isEither_6 : decode cX8_isEither 6 = .ok (.if_icmp .ne 7, 3) := by decide +kernel
theorem dX8_isEither_9 : decode cX8_isEither 9 = .ok (.iconst 1, 1) := by decide +kernel
theorem dX8_isEither_10 : decode cX8_isEither 10 = .ok (.goto 4, 3) := by decide +kernel
theorem dX8_isEither_13 : decode cX8_isEither 13 = .ok (.iconst 0, 1) := by decide +kernel
theorem dX8_isEither_14 : decode cX8_isEither 14 = .ok (.ireturn, 1) := by decide +kernel
theorem dX8_isSheet_0 : decode cX8_isSheet 0 = .ok (.iload_n 0, 1) := by decide +kernel
theorem dX8_isSheet_1 : decode cX8_isSheet 1 = .ok (.iconst 0, 1) := by decide +kernel
theorem dX8_isSheet_2 : decode cX8_isSheet 2 = .ok (.iconst 3, 1) := by decide +kernel
theorem dX8_isSheet_3 : decode cX8_isSheet 3 = .ok (.invokestatic 70, 3) := by decide +kernel
end
section
theorem dX8_isSheet_6 : decode cX8_isSheet 6 = .ok (.ireturn, 1) := by decide +kernel
theorem dX8_isLane_0 : decode cX8_isLane 0 = .ok (.iload_n 0, 1) := by decide +kernel
theorem dX8_isLane_1 : decode cX8_isLane 1 = .ok (.iconst 0, 1) := by decide +kernel
theorem dX8_isLane_2 : decode cX8_isLane 2 = .ok (.iconst 2, 1) := by decide +kernel
theorem dX8_isLane_3 : decode cX8_isLane 3 = .ok (.invokestatic 70, 3) := by decide +kernel
theorem dX8_isLane_6 : decode cX8_isLane 6 = .ok (.ireturn, 1) := by decide +kernel
theorem dX8_span_0 : decode cX8_span 0 = .ok (.ldc2_w 249, 3) := by decide +kernel
theorem dX8_span_3 : decode cX8_span 3 = .ok (.iload_n 0, 1) := by decide +kernel
theorem dX8_span_4 : decode cX8_span 4 = .ok (.lshl, 1) := by decide +kernel
theorem dX8_span_5 : decode cX8_span 5 = .ok (.ldc2_w 249, 3) := by decide +kernel
theorem dX8_span_8 : decode cX8_span 8 = .ok (.bipush 59, 2) := by decide +kernel
theorem dX8_span_10 : decode cX8_span 10 = .ok (.iload_n 1, 1) := by decide +kernel
theorem dX8_span_11 : decode cX8_span 11 = .ok (.isub, 1) := by decide +kernel
theorem dX8_span_12 : decode cX8_span 12 = .ok (.lushr, 1) := by decide +kernel
theorem dX8_span_13 : decode cX8_span 13 = .ok (.land, 1) := by decide +kernel
theorem dX8_span_14 : decode cX8_span 14 = .ok (.lreturn, 1) := by decide +kernel
theorem dX8_repeated_0 : decode cX8_repeated 0 = .ok (.iload_n 2, 1) := by decide +kernel
theorem dX8_repeated_1 : decode cX8_repeated 1 = .ok (.istore_n 3, 1) := by decide +kernel
theorem dX8_repeated_2 : decode cX8_repeated 2 = .ok (.iload_n 3, 1) := by decide +kernel
theorem dX8_repeated_3 : decode cX8_repeated 3 = .ok (.ifCond .le 22, 3) := by decide +kernel
theorem dX8_repeated_6 : decode cX8_repeated 6 = .ok (.iload_n 3, 1) := by decide +kernel
theorem dX8_repeated_7 : decode cX8_repeated 7 = .ok (.bipush 60, 2) := by decide +kernel
theorem dX8_repeated_9 : decode cX8_repeated 9 = .ok (.if_icmp .ge 16, 3) := by decide +kernel
theorem dX8_repeated_12 : decode cX8_repeated 12 = .ok (.lload_n 0, 1) := by decide +kernel
theorem dX8_repeated_13 : decode cX8_repeated 13 = .ok (.lload_n 0, 1) := by decide +kernel
theorem dX8_repeated_14 : decode cX8_repeated 14 = .ok (.iload_n 3, 1) := by decide +kernel
theorem dX8_repeated_15 : decode cX8_repeated 15 = .ok (.lshl, 1) := by decide +kernel
theorem dX8_repeated_16 : decode cX8_repeated 16 = .ok (.lor, 1) := by decide +kernel
theorem dX8_repeated_17 : decode cX8_repeated 17 = .ok (.lstore_n 0, 1) := by decide +kernel
theorem dX8_repeated_18 : decode cX8_repeated 18 = .ok (.iload_n 3, 1) := by decide +kernel
theorem dX8_repeated_19 : decode cX8_repeated 19 = .ok (.iconst 2, 1) := by decide +kernel
theorem dX8_repeated_20 : decode cX8_repeated 20 = .ok (.imul, 1) := by decide +kernel
theorem dX8_repeated_21 : decode cX8_repeated 21 = .ok (.istore_n 3, 1) := by decide +kernel
theorem dX8_repeated_22 : decode cX8_repeated 22 = .ok (.goto (-20), 3) := by decide +kernel
theorem dX8_repeated_25 : decode cX8_repeated 25 = .ok (.lload_n 0, 1) := by decide +kernel
theorem dX8_repeated_26 : decode cX8_repeated 26 = .ok (.ldc2_w 249, 3) := by decide +kernel
theorem dX8_repeated_29 : decode cX8_repeated 29 = .ok (.land, 1) := by decide +kernel
theorem dX8_repeated_30 : decode cX8_repeated 30 = .ok (.lreturn, 1) := by decide +kernel
theorem dX8_firstMinute_0 : decode cX8_firstMinute 0 = .ok (.iconst 0, 1) := by decide +kernel
theorem dX8_firstMinute_1 : decode cX8_firstMinute 1 = .ok (.istore_n 2, 1) := by decide +kernel
theorem dX8_firstMinute_2 : decode cX8_firstMinute 2 = .ok (.iload_n 2, 1) := by decide +kernel
theorem dX8_firstMinute_3 : decode cX8_firstMinute 3 = .ok (.bipush 60, 2) := by decide +kernel
theorem dX8_firstMinute_5 : decode cX8_firstMinute 5 = .ok (.if_icmp .ge 21, 3) := by decide +kernel
theorem dX8_firstMinute_8 : decode cX8_firstMinute 8 = .ok (.lload_n 0, 1) := by decide +kernel
theorem dX8_firstMinute_9 : decode cX8_firstMinute 9 = .ok (.iload_n 2, 1) := by decide +kernel
theorem dX8_firstMinute_10 : decode cX8_firstMinute 10 = .ok (.lshr, 1) := by decide +kernel
theorem dX8_firstMinute_11 : decode cX8_firstMinute 11 = .ok (.lconst 1, 1) := by decide +kernel
theorem dX8_firstMinute_12 : decode cX8_firstMinute 12 = .ok (.land, 1) := by decide +kernel
theorem dX8_firstMinute_13 : decode cX8_firstMinute 13 = .ok (.lconst 1, 1) := by decide +kernel
theorem dX8_firstMinute_14 : decode cX8_firstMinute 14 = .ok (.lcmp, 1) := by decide +kernel
theorem dX8_firstMinute_15 : decode cX8_firstMinute 15 = .ok (.ifCond .ne 5, 3) := by decide +kernel
theorem dX8_firstMinute_18 : decode cX8_firstMinute 18 = .ok (.iload_n 2, 1) := by decide +kernel
theorem dX8_firstMinute_19 : decode cX8_firstMinute 19 = .ok (.ireturn, 1) := by decide +kernel
theorem dX8_firstMinute_20 : decode cX8_firstMinute 20 = .ok (.iinc 2 1, 3) := by decide +kernel
theorem dX8_firstMinute_23 : decode cX8_firstMinute 23 = .ok (.goto (-21), 3) := by decide +kernel
theorem dX8_firstMinute_26 : decode cX8_firstMinute 26 = .ok (.bipush (-4), 2) := by decide +kernel
theorem dX8_firstMinute_28 : decode cX8_firstMinute 28 = .ok (.ireturn, 1) := by decide +kernel
theorem dX8_lastMinute_0 : decode cX8_lastMinute 0 = .ok (.bipush 59, 2) := by decide +kernel
theorem dX8_lastMinute_2 : decode cX8_lastMinute 2 = .ok (.istore_n 2, 1) := by decide +kernel
theorem dX8_lastMinute_3 : decode cX8_lastMinute 3 = .ok (.iload_n 2, 1) := by decide +kernel
theorem dX8_lastMinute_4 : decode cX8_lastMinute 4 = .ok (.ifCond .lt 21, 3) := by decide +kernel
theorem dX8_lastMinute_7 : decode cX8_lastMinute 7 = .ok (.lload_n 0, 1) := by decide +kernel
theorem dX8_lastMinute_8 : decode cX8_lastMinute 8 = .ok (.iload_n 2, 1) := by decide +kernel
theorem dX8_lastMinute_9 : decode cX8_lastMinute 9 = .ok (.lshr, 1) := by decide +kernel
theorem dX8_lastMinute_10 : decode cX8_lastMinute 10 = .ok (.lconst 1, 1) := by decide +kernel
theorem dX8_lastMinute_11 : decode cX8_lastMinute 11 = .ok (.land, 1) := by decide +kernel
theorem dX8_lastMinute_12 : decode cX8_lastMinute 12 = .ok (.lconst 1, 1) := by decide +kernel
theorem dX8_lastMinute_13 : decode cX8_lastMinute 13 = .ok (.lcmp, 1) := by decide +kernel
theorem dX8_lastMinute_14 : decode cX8_lastMinute 14 = .ok (.ifCond .ne 5, 3) := by decide +kernel
theorem dX8_lastMinute_17 : decode cX8_lastMinute 17 = .ok (.iload_n 2, 1) := by decide +kernel
theorem dX8_lastMinute_18 : decode cX8_lastMinute 18 = .ok (.ireturn, 1) := by decide +kernel
theorem dX8_lastMinute_19 : decode cX8_lastMinute 19 = .ok (.iinc 2 (-1), 3) := by decide +kernel
theorem dX8_lastMinute_22 : decode cX8_lastMinute 22 = .ok (.goto (-19), 3) := by decide +kernel
theorem dX8_lastMinute_25 : decode cX8_lastMinute 25 = .ok (.bipush (-4), 2) := by decide +kernel
theorem dX8_lastMinute_27 : decode cX8_lastMinute 27 = .ok (.ireturn, 1) := by decide +kernel
theorem dX8_partOfFraction_0 : decode cX8_partOfFraction 0 = .ok (.lload_n 0, 1) := by decide +kernel
theorem dX8_partOfFraction_1 : decode cX8_partOfFraction 1 = .ok (.lload_n 2, 1) := by decide +kernel
theorem dX8_partOfFraction_2 : decode cX8_partOfFraction 2 = .ok (.invokestatic 358, 3) := by decide +kernel
theorem dX8_partOfFraction_5 : decode cX8_partOfFraction 5 = .ok (.lstore 5, 2) := by decide +kernel
theorem dX8_partOfFraction_7 : decode cX8_partOfFraction 7 = .ok (.iload 4, 2) := by decide +kernel
theorem dX8_partOfFraction_9 : decode cX8_partOfFraction 9 = .ok (.ifCond .ne 7, 3) := by decide +kernel
theorem dX8_partOfFraction_12 : decode cX8_partOfFraction 12 = .ok (.lload_n 0, 1) := by decide +kernel
theorem dX8_partOfFraction_13 : decode cX8_partOfFraction 13 = .ok (.goto 4, 3) := by decide +kernel
theorem dX8_partOfFraction_16 : decode cX8_partOfFraction 16 = .ok (.lload_n 2, 1) := by decide +kernel
theorem dX8_partOfFraction_17 : decode cX8_partOfFraction 17 = .ok (.lstore 7, 2) := by decide +kernel
theorem dX8_partOfFraction_19 : decode cX8_partOfFraction 19 = .ok (.lload 5, 2) := by decide +kernel
theorem dX8_partOfFraction_21 : decode cX8_partOfFraction 21 = .ok (.lconst 0, 1) := by decide +kernel
theorem dX8_partOfFraction_22 : decode cX8_partOfFraction 22 = .ok (.lcmp, 1) := by decide +kernel
theorem dX8_partOfFraction_23 : decode cX8_partOfFraction 23 = .ok (.ifCond .ne 8, 3) := by decide +kernel
theorem dX8_partOfFraction_26 : decode cX8_partOfFraction 26 = .ok (.lload 7, 2) := by decide +kernel
theorem dX8_partOfFraction_28 : decode cX8_partOfFraction 28 = .ok (.goto 8, 3) := by decide +kernel
theorem dX8_partOfFraction_31 : decode cX8_partOfFraction 31 = .ok (.lload 7, 2) := by decide +kernel
theorem dX8_partOfFraction_33 : decode cX8_partOfFraction 33 = .ok (.lload 5, 2) := by decide +kernel
theorem dX8_partOfFraction_35 : decode cX8_partOfFraction 35 = .ok (.ldiv, 1) := by decide +kernel
theorem dX8_partOfFraction_36 : decode cX8_partOfFraction 36 = .ok (.lreturn, 1) := by decide +kernel
theorem dX8_greatestDivisor_0 : decode cX8_greatestDivisor 0 = .ok (.iconst 0, 1) := by decide +kernel
theorem dX8_greatestDivisor_1 : decode cX8_greatestDivisor 1 = .ok (.istore 4, 2) := by decide +kernel
theorem dX8_greatestDivisor_3 : decode cX8_greatestDivisor 3 = .ok (.iload 4, 2) := by decide +kernel
theorem dX8_greatestDivisor_5 : decode cX8_greatestDivisor 5 = .ok (.sipush 200, 3) := by decide +kernel
theorem dX8_greatestDivisor_8 : decode cX8_greatestDivisor 8 = .ok (.if_icmp .ge 25, 3) := by decide +kernel
theorem dX8_greatestDivisor_11 : decode cX8_greatestDivisor 11 = .ok (.lload_n 2, 1) := by decide +kernel
theorem dX8_greatestDivisor_12 : decode cX8_greatestDivisor 12 = .ok (.lconst 0, 1) := by decide +kernel
theorem dX8_greatestDivisor_13 : decode cX8_greatestDivisor 13 = .ok (.lcmp, 1) := by decide +kernel
theorem dX8_greatestDivisor_14 : decode cX8_greatestDivisor 14 = .ok (.ifCond .eq 19, 3) := by decide +kernel
theorem dX8_greatestDivisor_17 : decode cX8_greatestDivisor 17 = .ok (.lload_n 0, 1) := by decide +kernel
theorem dX8_greatestDivisor_18 : decode cX8_greatestDivisor 18 = .ok (.lload_n 2, 1) := by decide +kernel
theorem dX8_greatestDivisor_19 : decode cX8_greatestDivisor 19 = .ok (.lrem, 1) := by decide +kernel
theorem dX8_greatestDivisor_20 : decode cX8_greatestDivisor 20 = .ok (.lstore 5, 2) := by decide +kernel
theorem dX8_greatestDivisor_22 : decode cX8_greatestDivisor 22 = .ok (.lload_n 2, 1) := by decide +kernel
theorem dX8_greatestDivisor_23 : decode cX8_greatestDivisor 23 = .ok (.lstore_n 0, 1) := by decide +kernel
theorem dX8_greatestDivisor_24 : decode cX8_greatestDivisor 24 = .ok (.lload 5, 2) := by decide +kernel
theorem dX8_greatestDivisor_26 : decode cX8_greatestDivisor 26 = .ok (.lstore_n 2, 1) := by decide +kernel
theorem dX8_greatestDivisor_27 : decode cX8_greatestDivisor 27 = .ok (.iinc 4 1, 3) := by decide +kernel
theorem dX8_greatestDivisor_30 : decode cX8_greatestDivisor 30 = .ok (.goto (-27), 3) := by decide +kernel
theorem dX8_greatestDivisor_33 : decode cX8_greatestDivisor 33 = .ok (.lload_n 0, 1) := by decide +kernel
theorem dX8_greatestDivisor_34 : decode cX8_greatestDivisor 34 = .ok (.lreturn, 1) := by decide +kernel
theorem dX9_init_0 : decode cX9_init 0 = .ok (.aload_n 0, 1) := by decide +kernel
theorem dX9_init_1 : decode cX9_init 1 = .ok (.invokespecial 1, 3) := by decide +kernel
theorem dX9_init_4 : decode cX9_init 4 = .ok (.aload_n 0, 1) := by decide +kernel
theorem dX9_init_5 : decode cX9_init 5 = .ok (.sipush 305, 3) := by decide +kernel
theorem dX9_init_8 : decode cX9_init 8 = .ok (.newarray .int, 2) := by decide +kernel
theorem dX9_init_10 : decode cX9_init 10 = .ok (.putfield 7, 3) := by decide +kernel
theorem dX9_init_13 : decode cX9_init 13 = .ok (.aload_n 0, 1) := by decide +kernel
theorem dX9_init_14 : decode cX9_init 14 = .ok (.bipush 61, 2) := by decide +kernel
theorem dX9_init_16 : decode cX9_init 16 = .ok (.newarray .int, 2) := by decide +kernel
theorem dX9_init_18 : decode cX9_init 18 = .ok (.putfield 13, 3) := by decide +kernel
theorem dX9_init_21 : decode cX9_init 21 = .ok (.aload_n 0, 1) := by decide +kernel
theorem dX9_init_22 : decode cX9_init 22 = .ok (.sipush 160, 3) := by decide +kernel
theorem dX9_init_25 : decode cX9_init 25 = .ok (.newarray .int, 2) := by decide +kernel
theorem dX9_init_27 : decode cX9_init 27 = .ok (.putfield 16, 3) := by decide +kernel
theorem dX9_init_30 : decode cX9_init 30 = .ok (.aload_n 0, 1) := by decide +kernel
theorem dX9_init_31 : decode cX9_init 31 = .ok (.bipush 8, 2) := by decide +kernel
theorem dX9_init_33 : decode cX9_init 33 = .ok (.newarray .int, 2) := by decide +kernel
theorem dX9_init_35 : decode cX9_init 35 = .ok (.dup, 1) := by decide +kernel
theorem dX9_init_36 : decode cX9_init 36 = .ok (.iconst 0, 1) := by decide +kernel
theorem dX9_init_37 : decode cX9_init 37 = .ok (.iconst 0, 1) := by decide +kernel
theorem dX9_init_38 : decode cX9_init 38 = .ok (.iastore, 1) := by decide +kernel
theorem dX9_init_39 : decode cX9_init 39 = .ok (.dup, 1) := by decide +kernel
theorem dX9_init_40 : decode cX9_init 40 = .ok (.iconst 1, 1) := by decide +kernel
theorem dX9_init_41 : decode cX9_init 41 = .ok (.iconst 5, 1) := by decide +kernel
theorem dX9_init_42 : decode cX9_init 42 = .ok (.iastore, 1) := by decide +kernel
theorem dX9_init_43 : decode cX9_init 43 = .ok (.dup, 1) := by decide +kernel
theorem dX9_init_44 : decode cX9_init 44 = .ok (.iconst 2, 1) := by decide +kernel
theorem dX9_init_45 : decode cX9_init 45 = .ok (.bipush 9, 2) := by decide +kernel
theorem dX9_init_47 : decode cX9_init 47 = .ok (.iastore, 1) := by decide +kernel
theorem dX9_init_48 : decode cX9_init 48 = .ok (.dup, 1) := by decide +kernel
theorem dX9_init_49 : decode cX9_init 49 = .ok (.iconst 3, 1) := by decide +kernel
theorem dX9_init_50 : decode cX9_init 50 = .ok (.bipush 14, 2) := by decide +kernel
theorem dX9_init_52 : decode cX9_init 52 = .ok (.iastore, 1) := by decide +kernel
theorem dX9_init_53 : decode cX9_init 53 = .ok (.dup, 1) := by decide +kernel
theorem dX9_init_54 : decode cX9_init 54 = .ok (.iconst 4, 1) := by decide +kernel
theorem dX9_init_55 : decode cX9_init 55 = .ok (.bipush 17, 2) := by decide +kernel
theorem dX9_init_57 : decode cX9_init 57 = .ok (.iastore, 1) := by decide +kernel
theorem dX9_init_58 : decode cX9_init 58 = .ok (.dup, 1) := by decide +kernel
theorem dX9_init_59 : decode cX9_init 59 = .ok (.iconst 5, 1) := by decide +kernel
theorem dX9_init_60 : decode cX9_init 60 = .ok (.bipush 23, 2) := by decide +kernel
theorem dX9_init_62 : decode cX9_init 62 = .ok (.iastore, 1) := by decide +kernel
theorem dX9_init_63 : decode cX9_init 63 = .ok (.dup, 1) := by decide +kernel
theorem dX9_init_64 : decode cX9_init 64 = .ok (.bipush 6, 2) := by decide +kernel
theorem dX9_init_66 : decode cX9_init 66 = .ok (.bipush 29, 2) := by decide +kernel
theorem dX9_init_68 : decode cX9_init 68 = .ok (.iastore, 1) := by decide +kernel
theorem dX9_init_69 : decode cX9_init 69 = .ok (.dup, 1) := by decide +kernel
theorem dX9_init_70 : decode cX9_init 70 = .ok (.bipush 7, 2) := by decide +kernel
theorem dX9_init_72 : decode cX9_init 72 = .ok (.bipush 33, 2) := by decide +kernel
theorem dX9_init_74 : decode cX9_init 74 = .ok (.iastore, 1) := by decide +kernel
theorem dX9_init_75 : decode cX9_init 75 = .ok (.putfield 19, 3) := by decide +kernel
theorem dX9_init_78 : decode cX9_init 78 = .ok (.aload_n 0, 1) := by decide +kernel
theorem dX9_init_79 : decode cX9_init 79 = .ok (.bipush 33, 2) := by decide +kernel
theorem dX9_init_81 : decode cX9_init 81 = .ok (.newarray .int, 2) := by decide +kernel
theorem dX9_init_83 : decode cX9_init 83 = .ok (.dup, 1) := by decide +kernel
theorem dX9_init_84 : decode cX9_init 84 = .ok (.iconst 0, 1) := by decide +kernel
theorem dX9_init_85 : decode cX9_init 85 = .ok (.bipush 112, 2) := by decide +kernel
theorem dX9_init_87 : decode cX9_init 87 = .ok (.iastore, 1) := by decide +kernel
theorem dX9_init_88 : decode cX9_init 88 = .ok (.dup, 1) := by decide +kernel
theorem dX9_init_89 : decode cX9_init 89 = .ok (.iconst 1, 1) := by decide +kernel
theorem dX9_init_90 : decode cX9_init 90 = .ok (.bipush 108, 2) := by decide +kernel
theorem dX9_init_92 : decode cX9_init 92 = .ok (.iastore, 1) := by decide +kernel
theorem dX9_init_93 : decode cX9_init 93 = .ok (.dup, 1) := by decide +kernel
theorem dX9_init_94 : decode cX9_init 94 = .ok (.iconst 2, 1) := by decide +kernel
theorem dX9_init_95 : decode cX9_init 95 = .ok (.bipush 97, 2) := by decide +kernel
theorem dX9_init_97 : decode cX9_init 97 = .ok (.iastore, 1) := by decide +kernel
theorem dX9_init_98 : decode cX9_init 98 = .ok (.dup, 1) := by decide +kernel
theorem dX9_init_99 : decode cX9_init 99 = .ok (.iconst 3, 1) := by decide +kernel
theorem dX9_init_100 : decode cX9_init 100 = .ok (.bipush 105, 2) := by decide +kernel
theorem dX9_init_102 : decode cX9_init 102 = .ok (.iastore, 1) := by decide +kernel
theorem dX9_init_103 : decode cX9_init 103 = .ok (.dup, 1) := by decide +kernel
theorem dX9_init_104 : decode cX9_init 104 = .ok (.iconst 4, 1) := by decide +kernel
theorem dX9_init_105 : decode cX9_init 105 = .ok (.bipush 110, 2) := by decide +kernel
theorem dX9_init_107 : decode cX9_init 107 = .ok (.iastore, 1) := by decide +kernel
theorem dX9_init_108 : decode cX9_init 108 = .ok (.dup, 1) := by decide +kernel
theorem dX9_init_109 : decode cX9_init 109 = .ok (.iconst 5, 1) := by decide +kernel
theorem dX9_init_110 : decode cX9_init 110 = .ok (.bipush 116, 2) := by decide +kernel
theorem dX9_init_112 : decode cX9_init 112 = .ok (.iastore, 1) := by decide +kernel
theorem dX9_init_113 : decode cX9_init 113 = .ok (.dup, 1) := by decide +kernel
theorem dX9_init_114 : decode cX9_init 114 = .ok (.bipush 6, 2) := by decide +kernel
theorem dX9_init_116 : decode cX9_init 116 = .ok (.bipush 104, 2) := by decide +kernel
theorem dX9_init_118 : decode cX9_init 118 = .ok (.iastore, 1) := by decide +kernel
theorem dX9_init_119 : decode cX9_init 119 = .ok (.dup, 1) := by decide +kernel
theorem dX9_init_120 : decode cX9_init 120 = .ok (.bipush 7, 2) := by decide +kernel
theorem dX9_init_122 : decode cX9_init 122 = .ok (.bipush 105, 2) := by decide +kernel
theorem dX9_init_124 : decode cX9_init 124 = .ok (.iastore, 1) := by decide +kernel
theorem dX9_init_125 : decode cX9_init 125 = .ok (.dup, 1) := by decide +kernel
theorem dX9_init_126 : decode cX9_init 126 = .ok (.bipush 8, 2) := by decide +kernel
theorem dX9_init_128 : decode cX9_init 128 = .ok (.bipush 110, 2) := by decide +kernel
theorem dX9_init_130 : decode cX9_init 130 = .ok (.iastore, 1) := by decide +kernel
theorem dX9_init_131 : decode cX9_init 131 = .ok (.dup, 1) := by decide +kernel
theorem dX9_init_132 : decode cX9_init 132 = .ok (.bipush 9, 2) := by decide +kernel
theorem dX9_init_134 : decode cX9_init 134 = .ok (.bipush 115, 2) := by decide +kernel
theorem dX9_init_136 : decode cX9_init 136 = .ok (.iastore, 1) := by decide +kernel
theorem dX9_init_137 : decode cX9_init 137 = .ok (.dup, 1) := by decide +kernel
theorem dX9_init_138 : decode cX9_init 138 = .ok (.bipush 10, 2) := by decide +kernel
theorem dX9_init_140 : decode cX9_init 140 = .ok (.bipush 116, 2) := by decide +kernel
theorem dX9_init_142 : decode cX9_init 142 = .ok (.iastore, 1) := by decide +kernel
theorem dX9_init_143 : decode cX9_init 143 = .ok (.dup, 1) := by decide +kernel
theorem dX9_init_144 : decode cX9_init 144 = .ok (.bipush 11, 2) := by decide +kernel
theorem dX9_init_146 : decode cX9_init 146 = .ok (.bipush 111, 2) := by decide +kernel
theorem dX9_init_148 : decode cX9_init 148 = .ok (.iastore, 1) := by decide +kernel
theorem dX9_init_149 : decode cX9_init 149 = .ok (.dup, 1) := by decide +kernel
theorem dX9_init_150 : decode cX9_init 150 = .ok (.bipush 12, 2) := by decide +kernel
theorem dX9_init_152 : decode cX9_init 152 = .ok (.bipush 117, 2) := by decide +kernel
theorem dX9_init_154 : decode cX9_init 154 = .ok (.iastore, 1) := by decide +kernel
theorem dX9_init_155 : decode cX9_init 155 = .ok (.dup, 1) := by decide +kernel
theorem dX9_init_156 : decode cX9_init 156 = .ok (.bipush 13, 2) := by decide +kernel
theorem dX9_init_158 : decode cX9_init 158 = .ok (.bipush 116, 2) := by decide +kernel
theorem dX9_init_160 : decode cX9_init 160 = .ok (.iastore, 1) := by decide +kernel
theorem dX9_init_161 : decode cX9_init 161 = .ok (.dup, 1) := by decide +kernel
theorem dX9_init_162 : decode cX9_init 162 = .ok (.bipush 14, 2) := by decide +kernel
theorem dX9_init_164 : decode cX9_init 164 = .ok (.bipush 111, 2) := by decide +kernel
theorem dX9_init_166 : decode cX9_init 166 = .ok (.iastore, 1) := by decide +kernel
theorem dX9_init_167 : decode cX9_init 167 = .ok (.dup, 1) := by decide +kernel
theorem dX9_init_168 : decode cX9_init 168 = .ok (.bipush 15, 2) := by decide +kernel
theorem dX9_init_170 : decode cX9_init 170 = .ok (.bipush 108, 2) := by decide +kernel
theorem dX9_init_172 : decode cX9_init 172 = .ok (.iastore, 1) := by decide +kernel
theorem dX9_init_173 : decode cX9_init 173 = .ok (.dup, 1) := by decide +kernel
theorem dX9_init_174 : decode cX9_init 174 = .ok (.bipush 16, 2) := by decide +kernel
theorem dX9_init_176 : decode cX9_init 176 = .ok (.bipush 100, 2) := by decide +kernel
theorem dX9_init_178 : decode cX9_init 178 = .ok (.iastore, 1) := by decide +kernel
theorem dX9_init_179 : decode cX9_init 179 = .ok (.dup, 1) := by decide +kernel
theorem dX9_init_180 : decode cX9_init 180 = .ok (.bipush 17, 2) := by decide +kernel
theorem dX9_init_182 : decode cX9_init 182 = .ok (.bipush 115, 2) := by decide +kernel
theorem dX9_init_184 : decode cX9_init 184 = .ok (.iastore, 1) := by decide +kernel
theorem dX9_init_185 : decode cX9_init 185 = .ok (.dup, 1) := by decide +kernel
theorem dX9_init_186 : decode cX9_init 186 = .ok (.bipush 18, 2) := by decide +kernel
theorem dX9_init_188 : decode cX9_init 188 = .ok (.bipush 116, 2) := by decide +kernel
theorem dX9_init_190 : decode cX9_init 190 = .ok (.iastore, 1) := by decide +kernel
theorem dX9_init_191 : decode cX9_init 191 = .ok (.dup, 1) := by decide +kernel
theorem dX9_init_192 : decode cX9_init 192 = .ok (.bipush 19, 2) := by decide +kernel
theorem dX9_init_194 : decode cX9_init 194 = .ok (.bipush 114, 2) := by decide +kernel
theorem dX9_init_196 : decode cX9_init 196 = .ok (.iastore, 1) := by decide +kernel
theorem dX9_init_197 : decode cX9_init 197 = .ok (.dup, 1) := by decide +kernel
theorem dX9_init_198 : decode cX9_init 198 = .ok (.bipush 20, 2) := by decide +kernel
theorem dX9_init_200 : decode cX9_init 200 = .ok (.bipush 101, 2) := by decide +kernel
theorem dX9_init_202 : decode cX9_init 202 = .ok (.iastore, 1) := by decide +kernel
theorem dX9_init_203 : decode cX9_init 203 = .ok (.dup, 1) := by decide +kernel
theorem dX9_init_204 : decode cX9_init 204 = .ok (.bipush 21, 2) := by decide +kernel
theorem dX9_init_206 : decode cX9_init 206 = .ok (.bipush 101, 2) := by decide +kernel
theorem dX9_init_208 : decode cX9_init 208 = .ok (.iastore, 1) := by decide +kernel
theorem dX9_init_209 : decode cX9_init 209 = .ok (.dup, 1) := by decide +kernel
theorem dX9_init_210 : decode cX9_init 210 = .ok (.bipush 22, 2) := by decide +kernel
theorem dX9_init_212 : decode cX9_init 212 = .ok (.bipush 116, 2) := by decide +kernel
theorem dX9_init_214 : decode cX9_init 214 = .ok (.iastore, 1) := by decide +kernel
theorem dX9_init_215 : decode cX9_init 215 = .ok (.dup, 1) := by decide +kernel
theorem dX9_init_216 : decode cX9_init 216 = .ok (.bipush 23, 2) := by decide +kernel
theorem dX9_init_218 : decode cX9_init 218 = .ok (.bipush 114, 2) := by decide +kernel
theorem dX9_init_220 : decode cX9_init 220 = .ok (.iastore, 1) := by decide +kernel
theorem dX9_init_221 : decode cX9_init 221 = .ok (.dup, 1) := by decide +kernel
theorem dX9_init_222 : decode cX9_init 222 = .ok (.bipush 24, 2) := by decide +kernel
theorem dX9_init_224 : decode cX9_init 224 = .ok (.bipush 101, 2) := by decide +kernel
theorem dX9_init_226 : decode cX9_init 226 = .ok (.iastore, 1) := by decide +kernel
theorem dX9_init_227 : decode cX9_init 227 = .ok (.dup, 1) := by decide +kernel
theorem dX9_init_228 : decode cX9_init 228 = .ok (.bipush 25, 2) := by decide +kernel
theorem dX9_init_230 : decode cX9_init 230 = .ok (.bipush 97, 2) := by decide +kernel
theorem dX9_init_232 : decode cX9_init 232 = .ok (.iastore, 1) := by decide +kernel
theorem dX9_init_233 : decode cX9_init 233 = .ok (.dup, 1) := by decide +kernel
theorem dX9_init_234 : decode cX9_init 234 = .ok (.bipush 26, 2) := by decide +kernel
theorem dX9_init_236 : decode cX9_init 236 = .ok (.bipush 100, 2) := by decide +kernel
theorem dX9_init_238 : decode cX9_init 238 = .ok (.iastore, 1) := by decide +kernel
theorem dX9_init_239 : decode cX9_init 239 = .ok (.dup, 1) := by decide +kernel
theorem dX9_init_240 : decode cX9_init 240 = .ok (.bipush 27, 2) := by decide +kernel
theorem dX9_init_242 : decode cX9_init 242 = .ok (.bipush 101, 2) := by decide +kernel
theorem dX9_init_244 : decode cX9_init 244 = .ok (.iastore, 1) := by decide +kernel
theorem dX9_init_245 : decode cX9_init 245 = .ok (.dup, 1) := by decide +kernel
theorem dX9_init_246 : decode cX9_init 246 = .ok (.bipush 28, 2) := by decide +kernel
theorem dX9_init_248 : decode cX9_init 248 = .ok (.bipush 114, 2) := by decide +kernel
theorem dX9_init_250 : decode cX9_init 250 = .ok (.iastore, 1) := by decide +kernel
theorem dX9_init_251 : decode cX9_init 251 = .ok (.dup, 1) := by decide +kernel
theorem dX9_init_252 : decode cX9_init 252 = .ok (.bipush 29, 2) := by decide +kernel
theorem dX9_init_254 : decode cX9_init 254 = .ok (.bipush 114, 2) := by decide +kernel
theorem dX9_init_256 : decode cX9_init 256 = .ok (.iastore, 1) := by decide +kernel
theorem dX9_init_257 : decode cX9_init 257 = .ok (.dup, 1) := by decide +kernel
theorem dX9_init_258 : decode cX9_init 258 = .ok (.bipush 30, 2) := by decide +kernel
theorem dX9_init_260 : decode cX9_init 260 = .ok (.bipush 97, 2) := by decide +kernel
theorem dX9_init_262 : decode cX9_init 262 = .ok (.iastore, 1) := by decide +kernel
theorem dX9_init_263 : decode cX9_init 263 = .ok (.dup, 1) := by decide +kernel
theorem dX9_init_264 : decode cX9_init 264 = .ok (.bipush 31, 2) := by decide +kernel
theorem dX9_init_266 : decode cX9_init 266 = .ok (.bipush 105, 2) := by decide +kernel
theorem dX9_init_268 : decode cX9_init 268 = .ok (.iastore, 1) := by decide +kernel
theorem dX9_init_269 : decode cX9_init 269 = .ok (.dup, 1) := by decide +kernel
theorem dX9_init_270 : decode cX9_init 270 = .ok (.bipush 32, 2) := by decide +kernel
theorem dX9_init_272 : decode cX9_init 272 = .ok (.bipush 110, 2) := by decide +kernel
theorem dX9_init_274 : decode cX9_init 274 = .ok (.iastore, 1) := by decide +kernel
theorem dX9_init_275 : decode cX9_init 275 = .ok (.putfield 22, 3) := by decide +kernel
theorem dX9_init_278 : decode cX9_init 278 = .ok (.aload_n 0, 1) := by decide +kernel
theorem dX9_init_279 : decode cX9_init 279 = .ok (.bipush 40, 2) := by decide +kernel
theorem dX9_init_281 : decode cX9_init 281 = .ok (.newarray .int, 2) := by decide +kernel
theorem dX9_init_283 : decode cX9_init 283 = .ok (.putfield 25, 3) := by decide +kernel
theorem dX9_init_286 : decode cX9_init 286 = .ok (.aload_n 0, 1) := by decide +kernel
theorem dX9_init_287 : decode cX9_init 287 = .ok (.bipush 40, 2) := by decide +kernel
theorem dX9_init_289 : decode cX9_init 289 = .ok (.newarray .int, 2) := by decide +kernel
theorem dX9_init_291 : decode cX9_init 291 = .ok (.putfield 28, 3) := by decide +kernel
theorem dX9_init_294 : decode cX9_init 294 = .ok (.aload_n 0, 1) := by decide +kernel
theorem dX9_init_295 : decode cX9_init 295 = .ok (.iconst 4, 1) := by decide +kernel
theorem dX9_init_296 : decode cX9_init 296 = .ok (.newarray .int, 2) := by decide +kernel
theorem dX9_init_298 : decode cX9_init 298 = .ok (.putfield 31, 3) := by decide +kernel
theorem dX9_init_301 : decode cX9_init 301 = .ok (.aload_n 0, 1) := by decide +kernel
theorem dX9_init_302 : decode cX9_init 302 = .ok (.bipush 24, 2) := by decide +kernel
theorem dX9_init_304 : decode cX9_init 304 = .ok (.newarray .int, 2) := by decide +kernel
theorem dX9_init_306 : decode cX9_init 306 = .ok (.putfield 34, 3) := by decide +kernel
theorem dX9_init_309 : decode cX9_init 309 = .ok (.aload_n 0, 1) := by decide +kernel
theorem dX9_init_310 : decode cX9_init 310 = .ok (.bipush 16, 2) := by decide +kernel
theorem dX9_init_312 : decode cX9_init 312 = .ok (.newarray .int, 2) := by decide +kernel
theorem dX9_init_314 : decode cX9_init 314 = .ok (.putfield 37, 3) := by decide +kernel
theorem dX9_init_317 : decode cX9_init 317 = .ok (.aload_n 0, 1) := by decide +kernel
theorem dX9_init_318 : decode cX9_init 318 = .ok (.iconst 2, 1) := by decide +kernel
theorem dX9_init_319 : decode cX9_init 319 = .ok (.newarray .boolean, 2) := by decide +kernel
theorem dX9_init_321 : decode cX9_init 321 = .ok (.putfield 40, 3) := by decide +kernel
theorem dX9_init_324 : decode cX9_init 324 = .ok (.aload_n 0, 1) := by decide +kernel
theorem dX9_init_325 : decode cX9_init 325 = .ok (.iconst 4, 1) := by decide +kernel
theorem dX9_init_326 : decode cX9_init 326 = .ok (.newarray .int, 2) := by decide +kernel
theorem dX9_init_328 : decode cX9_init 328 = .ok (.dup, 1) := by decide +kernel
theorem dX9_init_329 : decode cX9_init 329 = .ok (.iconst 0, 1) := by decide +kernel
theorem dX9_init_330 : decode cX9_init 330 = .ok (.bipush (-4), 2) := by decide +kernel
theorem dX9_init_332 : decode cX9_init 332 = .ok (.iastore, 1) := by decide +kernel
theorem dX9_init_333 : decode cX9_init 333 = .ok (.dup, 1) := by decide +kernel
theorem dX9_init_334 : decode cX9_init 334 = .ok (.iconst 1, 1) := by decide +kernel
theorem dX9_init_335 : decode cX9_init 335 = .ok (.bipush (-4), 2) := by decide +kernel
theorem dX9_init_337 : decode cX9_init 337 = .ok (.iastore, 1) := by decide +kernel
theorem dX9_init_338 : decode cX9_init 338 = .ok (.dup, 1) := by decide +kernel
theorem dX9_init_339 : decode cX9_init 339 = .ok (.iconst 2, 1) := by decide +kernel
theorem dX9_init_340 : decode cX9_init 340 = .ok (.bipush (-4), 2) := by decide +kernel
theorem dX9_init_342 : decode cX9_init 342 = .ok (.iastore, 1) := by decide +kernel
theorem dX9_init_343 : decode cX9_init 343 = .ok (.dup, 1) := by decide +kernel
theorem dX9_init_344 : decode cX9_init 344 = .ok (.iconst 3, 1) := by decide +kernel
theorem dX9_init_345 : decode cX9_init 345 = .ok (.bipush (-4), 2) := by decide +kernel
theorem dX9_init_347 : decode cX9_init 347 = .ok (.iastore, 1) := by decide +kernel
theorem dX9_init_348 : decode cX9_init 348 = .ok (.putfield 44, 3) := by decide +kernel
theorem dX9_init_351 : decode cX9_init 351 = .ok (.aload_n 0, 1) := by decide +kernel
theorem dX9_init_352 : decode cX9_init 352 = .ok (.iconst 4, 1) := by decide +kernel
theorem dX9_init_353 : decode cX9_init 353 = .ok (.newarray .int, 2) := by decide +kernel
theorem dX9_init_355 : decode cX9_init 355 = .ok (.putfield 47, 3) := by decide +kernel
theorem dX9_init_358 : decode cX9_init 358 = .ok (.aload_n 0, 1) := by decide +kernel
theorem dX9_init_359 : decode cX9_init 359 = .ok (.sipush 160, 3) := by decide +kernel
theorem dX9_init_362 : decode cX9_init 362 = .ok (.newarray .int, 2) := by decide +kernel
theorem dX9_init_364 : decode cX9_init 364 = .ok (.putfield 50, 3) := by decide +kernel
theorem dX9_init_367 : decode cX9_init 367 = .ok (.return_, 1) := by decide +kernel
theorem dX9_in_0 : decode cX9_in 0 = .ok (.lload_n 0, 1) := by decide +kernel
theorem dX9_in_1 : decode cX9_in 1 = .ok (.lload_n 2, 1) := by decide +kernel
theorem dX9_in_2 : decode cX9_in 2 = .ok (.lcmp, 1) := by decide +kernel
theorem dX9_in_3 : decode cX9_in 3 = .ok (.ifCond .lt 14, 3) := by decide +kernel
theorem dX9_in_6 : decode cX9_in 6 = .ok (.lload_n 0, 1) := by decide +kernel
theorem dX9_in_7 : decode cX9_in 7 = .ok (.lload 4, 2) := by decide +kernel
theorem dX9_in_9 : decode cX9_in 9 = .ok (.lcmp, 1) := by decide +kernel
theorem dX9_in_10 : decode cX9_in 10 = .ok (.ifCond .gt 7, 3) := by decide +kernel
theorem dX9_in_13 : decode cX9_in 13 = .ok (.iconst 1, 1) := by decide +kernel
theorem dX9_in_14 : decode cX9_in 14 = .ok (.goto 4, 3) := by decide +kernel
theorem dX9_in_17 : decode cX9_in 17 = .ok (.iconst 0, 1) := by decide +kernel
theorem dX9_in_18 : decode cX9_in 18 = .ok (.ireturn, 1) := by decide +kernel
theorem dX9_feed_0 : decode cX9_feed 0 = .ok (.iload_n 1, 1) := by decide +kernel
theorem dX9_feed_1 : decode cX9_feed 1 = .ok (.i2l, 1) := by decide +kernel
theorem dX9_feed_2 : decode cX9_feed 2 = .ok (.lconst 0, 1) := by decide +kernel
theorem dX9_feed_3 : decode cX9_feed 3 = .ok (.ldc2_w 53, 3) := by decide +kernel
theorem dX9_feed_6 : decode cX9_feed 6 = .ok (.invokestatic 55, 3) := by decide +kernel
theorem dX9_feed_9 : decode cX9_feed 9 = .ok (.ifCond .ne 5, 3) := by decide +kernel
theorem dX9_feed_12 : decode cX9_feed 12 = .ok (.iconst (-1), 1) := by decide +kernel
theorem dX9_feed_13 : decode cX9_feed 13 = .ok (.ireturn, 1) := by decide +kernel
theorem dX9_feed_14 : decode cX9_feed 14 = .ok (.aload_n 0, 1) := by decide +kernel
theorem dX9_feed_15 : decode cX9_feed 15 = .ok (.getfield 59, 3) := by decide +kernel
theorem dX9_feed_18 : decode cX9_feed 18 = .ok (.sipush 160, 3) := by decide +kernel
theorem dX9_feed_21 : decode cX9_feed 21 = .ok (.if_icmp .ne 6, 3) := by decide +kernel
theorem dX9_feed_24 : decode cX9_feed 24 = .ok (.bipush (-3), 2) := by decide +kernel
theorem dX9_feed_26 : decode cX9_feed 26 = .ok (.ireturn, 1) := by decide +kernel
theorem dX9_feed_27 : decode cX9_feed 27 = .ok (.aload_n 0, 1) := by decide +kernel
theorem dX9_feed_28 : decode cX9_feed 28 = .ok (.getfield 16, 3) := by decide +kernel
theorem dX9_feed_31 : decode cX9_feed 31 = .ok (.aload_n 0, 1) := by decide +kernel
theorem dX9_feed_32 : decode cX9_feed 32 = .ok (.getfield 59, 3) := by decide +kernel
theorem dX9_feed_35 : decode cX9_feed 35 = .ok (.iload_n 1, 1) := by decide +kernel
theorem dX9_feed_36 : decode cX9_feed 36 = .ok (.iastore, 1) := by decide +kernel
theorem dX9_feed_37 : decode cX9_feed 37 = .ok (.aload_n 0, 1) := by decide +kernel
theorem dX9_feed_38 : decode cX9_feed 38 = .ok (.dup, 1) := by decide +kernel
theorem dX9_feed_39 : decode cX9_feed 39 = .ok (.getfield 59, 3) := by decide +kernel
theorem dX9_feed_42 : decode cX9_feed 42 = .ok (.iconst 1, 1) := by decide +kernel
theorem dX9_feed_43 : decode cX9_feed 43 = .ok (.iadd, 1) := by decide +kernel
theorem dX9_feed_44 : decode cX9_feed 44 = .ok (.putfield 59, 3) := by decide +kernel
theorem dX9_feed_47 : decode cX9_feed 47 = .ok (.aload_n 0, 1) := by decide +kernel
theorem dX9_feed_48 : decode cX9_feed 48 = .ok (.getfield 59, 3) := by decide +kernel
theorem dX9_feed_51 : decode cX9_feed 51 = .ok (.ireturn, 1) := by decide +kernel
theorem dX9_end_0 : decode cX9_end 0 = .ok (.iload_n 1, 1) := by decide +kernel
theorem dX9_end_1 : decode cX9_end 1 = .ok (.i2l, 1) := by decide +kernel
theorem dX9_end_2 : decode cX9_end 2 = .ok (.lconst 0, 1) := by decide +kernel
theorem dX9_end_3 : decode cX9_end 3 = .ok (.aload_n 0, 1) := by decide +kernel
theorem dX9_end_4 : decode cX9_end 4 = .ok (.getfield 59, 3) := by decide +kernel
theorem dX9_end_7 : decode cX9_end 7 = .ok (.i2l, 1) := by decide +kernel
theorem dX9_end_8 : decode cX9_end 8 = .ok (.invokestatic 55, 3) := by decide +kernel
theorem dX9_end_11 : decode cX9_end 11 = .ok (.ifCond .ne 5, 3) := by decide +kernel
theorem dX9_end_14 : decode cX9_end 14 = .ok (.iconst (-1), 1) := by decide +kernel
theorem dX9_end_15 : decode cX9_end 15 = .ok (.ireturn, 1) := by decide +kernel
theorem dX9_end_16 : decode cX9_end 16 = .ok (.aload_n 0, 1) := by decide +kernel
theorem dX9_end_17 : decode cX9_end 17 = .ok (.getfield 59, 3) := by decide +kernel
theorem dX9_end_20 : decode cX9_end 20 = .ok (.istore_n 2, 1) := by decide +kernel
theorem dX9_end_21 : decode cX9_end 21 = .ok (.aload_n 0, 1) := by decide +kernel
theorem dX9_end_22 : decode cX9_end 22 = .ok (.iload_n 1, 1) := by decide +kernel
theorem dX9_end_23 : decode cX9_end 23 = .ok (.putfield 59, 3) := by decide +kernel
theorem dX9_end_26 : decode cX9_end 26 = .ok (.iload_n 2, 1) := by decide +kernel
theorem dX9_end_27 : decode cX9_end 27 = .ok (.ireturn, 1) := by decide +kernel
theorem dX9_byteAt_0 : decode cX9_byteAt 0 = .ok (.iload_n 1, 1) := by decide +kernel
theorem dX9_byteAt_1 : decode cX9_byteAt 1 = .ok (.aload_n 0, 1) := by decide +kernel
theorem dX9_byteAt_2 : decode cX9_byteAt 2 = .ok (.getfield 59, 3) := by decide +kernel
theorem dX9_byteAt_5 : decode cX9_byteAt 5 = .ok (.if_icmp .ge 12, 3) := by decide +kernel
theorem dX9_byteAt_8 : decode cX9_byteAt 8 = .ok (.aload_n 0, 1) := by decide +kernel
theorem dX9_byteAt_9 : decode cX9_byteAt 9 = .ok (.getfield 16, 3) := by decide +kernel
theorem dX9_byteAt_12 : decode cX9_byteAt 12 = .ok (.iload_n 1, 1) := by decide +kernel
theorem dX9_byteAt_13 : decode cX9_byteAt 13 = .ok (.iaload, 1) := by decide +kernel
theorem dX9_byteAt_14 : decode cX9_byteAt 14 = .ok (.goto 5, 3) := by decide +kernel
theorem dX9_byteAt_17 : decode cX9_byteAt 17 = .ok (.bipush (-4), 2) := by decide +kernel
theorem dX9_byteAt_19 : decode cX9_byteAt 19 = .ok (.ireturn, 1) := by decide +kernel
theorem dX9_fails_0 : decode cX9_fails 0 = .ok (.aload_n 0, 1) := by decide +kernel
theorem dX9_fails_1 : decode cX9_fails 1 = .ok (.getfield 63, 3) := by decide +kernel
theorem dX9_fails_4 : decode cX9_fails 4 = .ok (.ifCond .ne 16, 3) := by decide +kernel
theorem dX9_fails_7 : decode cX9_fails 7 = .ok (.aload_n 0, 1) := by decide +kernel
theorem dX9_fails_8 : decode cX9_fails 8 = .ok (.iload_n 1, 1) := by decide +kernel
theorem dX9_fails_9 : decode cX9_fails 9 = .ok (.putfield 63, 3) := by decide +kernel
theorem dX9_fails_12 : decode cX9_fails 12 = .ok (.aload_n 0, 1) := by decide +kernel
theorem dX9_fails_13 : decode cX9_fails 13 = .ok (.aload_n 0, 1) := by decide +kernel
theorem dX9_fails_14 : decode cX9_fails 14 = .ok (.getfield 66, 3) := by decide +kernel
theorem dX9_fails_17 : decode cX9_fails 17 = .ok (.putfield 69, 3) := by decide +kernel
theorem dX9_fails_20 : decode cX9_fails 20 = .ok (.return_, 1) := by decide +kernel
theorem dX9_nameHere_0 : decode cX9_nameHere 0 = .ok (.iconst 0, 1) := by decide +kernel
theorem dX9_nameHere_1 : decode cX9_nameHere 1 = .ok (.istore_n 1, 1) := by decide +kernel
theorem dX9_nameHere_2 : decode cX9_nameHere 2 = .ok (.iload_n 1, 1) := by decide +kernel
theorem dX9_nameHere_3 : decode cX9_nameHere 3 = .ok (.bipush 7, 2) := by decide +kernel
theorem dX9_nameHere_5 : decode cX9_nameHere 5 = .ok (.if_icmp .ge 113, 3) := by decide +kernel
theorem dX9_nameHere_8 : decode cX9_nameHere 8 = .ok (.aload_n 0, 1) := by decide +kernel
theorem dX9_nameHere_9 : decode cX9_nameHere 9 = .ok (.getfield 72, 3) := by decide +kernel
theorem dX9_nameHere_12 : decode cX9_nameHere 12 = .ok (.iconst 1, 1) := by decide +kernel
theorem dX9_nameHere_13 : decode cX9_nameHere 13 = .ok (.if_icmp .ne 105, 3) := by decide +kernel
theorem dX9_nameHere_16 : decode cX9_nameHere 16 = .ok (.aload_n 0, 1) := by decide +kernel
theorem dX9_nameHere_17 : decode cX9_nameHere 17 = .ok (.getfield 75, 3) := by decide +kernel
theorem dX9_nameHere_20 : decode cX9_nameHere 20 = .ok (.aload_n 0, 1) := by decide +kernel
theorem dX9_nameHere_21 : decode cX9_nameHere 21 = .ok (.getfield 66, 3) := by decide +kernel
theorem dX9_nameHere_24 : decode cX9_nameHere 24 = .ok (.isub, 1) := by decide +kernel
theorem dX9_nameHere_25 : decode cX9_nameHere 25 = .ok (.aload_n 0, 1) := by decide +kernel
theorem dX9_nameHere_26 : decode cX9_nameHere 26 = .ok (.getfield 19, 3) := by decide +kernel
theorem dX9_nameHere_29 : decode cX9_nameHere 29 = .ok (.iload_n 1, 1) := by decide +kernel
theorem dX9_nameHere_30 : decode cX9_nameHere 30 = .ok (.iconst 1, 1) := by decide +kernel
theorem dX9_nameHere_31 : decode cX9_nameHere 31 = .ok (.iadd, 1) := by decide +kernel
theorem dX9_nameHere_32 : decode cX9_nameHere 32 = .ok (.iaload, 1) := by decide +kernel
theorem dX9_nameHere_33 : decode cX9_nameHere 33 = .ok (.aload_n 0, 1) := by decide +kernel
theorem dX9_nameHere_34 : decode cX9_nameHere 34 = .ok (.getfield 19, 3) := by decide +kernel
theorem dX9_nameHere_37 : decode cX9_nameHere 37 = .ok (.iload_n 1, 1) := by decide +kernel
theorem dX9_nameHere_38 : decode cX9_nameHere 38 = .ok (.iaload, 1) := by decide +kernel
theorem dX9_nameHere_39 : decode cX9_nameHere 39 = .ok (.isub, 1) := by decide +kernel
theorem dX9_nameHere_40 : decode cX9_nameHere 40 = .ok (.if_icmp .ne 7, 3) := by decide +kernel
theorem dX9_nameHere_43 : decode cX9_nameHere 43 = .ok (.iconst 1, 1) := by decide +kernel
theorem dX9_nameHere_44 : decode cX9_nameHere 44 = .ok (.goto 4, 3) := by decide +kernel
theorem dX9_nameHere_47 : decode cX9_nameHere 47 = .ok (.iconst 0, 1) := by decide +kernel
theorem dX9_nameHere_48 : decode cX9_nameHere 48 = .ok (.istore_n 2, 1) := by decide +kernel
theorem dX9_nameHere_49 : decode cX9_nameHere 49 = .ok (.iconst 0, 1) := by decide +kernel
theorem dX9_nameHere_50 : decode cX9_nameHere 50 = .ok (.istore_n 3, 1) := by decide +kernel
theorem dX9_nameHere_51 : decode cX9_nameHere 51 = .ok (.iload_n 2, 1) := by decide +kernel
theorem dX9_nameHere_52 : decode cX9_nameHere 52 = .ok (.ifCond .eq 54, 3) := by decide +kernel
theorem dX9_nameHere_55 : decode cX9_nameHere 55 = .ok (.iload_n 3, 1) := by decide +kernel
theorem dX9_nameHere_56 : decode cX9_nameHere 56 = .ok (.aload_n 0, 1) := by decide +kernel
theorem dX9_nameHere_57 : decode cX9_nameHere 57 = .ok (.getfield 75, 3) := by decide +kernel
theorem dX9_nameHere_60 : decode cX9_nameHere 60 = .ok (.aload_n 0, 1) := by decide +kernel
theorem dX9_nameHere_61 : decode cX9_nameHere 61 = .ok (.getfield 66, 3) := by decide +kernel
theorem dX9_nameHere_64 : decode cX9_nameHere 64 = .ok (.isub, 1) := by decide +kernel
theorem dX9_nameHere_65 : decode cX9_nameHere 65 = .ok (.if_icmp .ge 41, 3) := by decide +kernel
theorem dX9_nameHere_68 : decode cX9_nameHere 68 = .ok (.aload_n 0, 1) := by decide +kernel
theorem dX9_nameHere_69 : decode cX9_nameHere 69 = .ok (.aload_n 0, 1) := by decide +kernel
theorem dX9_nameHere_70 : decode cX9_nameHere 70 = .ok (.getfield 66, 3) := by decide +kernel
theorem dX9_nameHere_73 : decode cX9_nameHere 73 = .ok (.iload_n 3, 1) := by decide +kernel
theorem dX9_nameHere_74 : decode cX9_nameHere 74 = .ok (.iadd, 1) := by decide +kernel
theorem dX9_nameHere_75 : decode cX9_nameHere 75 = .ok (.invokevirtual 78, 3) := by decide +kernel
theorem dX9_nameHere_78 : decode cX9_nameHere 78 = .ok (.aload_n 0, 1) := by decide +kernel
theorem dX9_nameHere_79 : decode cX9_nameHere 79 = .ok (.getfield 22, 3) := by decide +kernel
theorem dX9_nameHere_82 : decode cX9_nameHere 82 = .ok (.aload_n 0, 1) := by decide +kernel
theorem dX9_nameHere_83 : decode cX9_nameHere 83 = .ok (.getfield 19, 3) := by decide +kernel
theorem dX9_nameHere_86 : decode cX9_nameHere 86 = .ok (.iload_n 1, 1) := by decide +kernel
theorem dX9_nameHere_87 : decode cX9_nameHere 87 = .ok (.iaload, 1) := by decide +kernel
theorem dX9_nameHere_88 : decode cX9_nameHere 88 = .ok (.iload_n 3, 1) := by decide +kernel
theorem dX9_nameHere_89 : decode cX9_nameHere 89 = .ok (.iadd, 1) := by decide +kernel
theorem dX9_nameHere_90 : decode cX9_nameHere 90 = .ok (.iaload, 1) := by decide +kernel
theorem dX9_nameHere_91 : decode cX9_nameHere 91 = .ok (.if_icmp .ne 7, 3) := by decide +kernel
theorem dX9_nameHere_94 : decode cX9_nameHere 94 = .ok (.iconst 1, 1) := by decide +kernel
theorem dX9_nameHere_95 : decode cX9_nameHere 95 = .ok (.goto 4, 3) := by decide +kernel
theorem dX9_nameHere_98 : decode cX9_nameHere 98 = .ok (.iconst 0, 1) := by decide +kernel
theorem dX9_nameHere_99 : decode cX9_nameHere 99 = .ok (.istore_n 2, 1) := by decide +kernel
theorem dX9_nameHere_100 : decode cX9_nameHere 100 = .ok (.iinc 3 1, 3) := by decide +kernel
theorem dX9_nameHere_103 : decode cX9_nameHere 103 = .ok (.goto (-52), 3) := by decide +kernel
theorem dX9_nameHere_106 : decode cX9_nameHere 106 = .ok (.iload_n 2, 1) := by decide +kernel
theorem dX9_nameHere_107 : decode cX9_nameHere 107 = .ok (.ifCond .eq 5, 3) := by decide +kernel
theorem dX9_nameHere_110 : decode cX9_nameHere 110 = .ok (.iload_n 1, 1) := by decide +kernel
theorem dX9_nameHere_111 : decode cX9_nameHere 111 = .ok (.ireturn, 1) := by decide +kernel
theorem dX9_nameHere_112 : decode cX9_nameHere 112 = .ok (.iinc 1 1, 3) := by decide +kernel
theorem dX9_nameHere_115 : decode cX9_nameHere 115 = .ok (.goto (-113), 3) := by decide +kernel
theorem dX9_nameHere_118 : decode cX9_nameHere 118 = .ok (.bipush (-4), 2) := by decide +kernel
theorem dX9_nameHere_120 : decode cX9_nameHere 120 = .ok (.ireturn, 1) := by decide +kernel
theorem dX9_step_0 : decode cX9_step 0 = .ok (.aload_n 0, 1) := by decide +kernel
theorem dX9_step_1 : decode cX9_step 1 = .ok (.getfield 63, 3) := by decide +kernel
theorem dX9_step_4 : decode cX9_step 4 = .ok (.ifCond .le 4, 3) := by decide +kernel
theorem dX9_step_7 : decode cX9_step 7 = .ok (.return_, 1) := by decide +kernel
theorem dX9_step_8 : decode cX9_step 8 = .ok (.aload_n 0, 1) := by decide +kernel
theorem dX9_step_9 : decode cX9_step 9 = .ok (.aload_n 0, 1) := by decide +kernel
theorem dX9_step_10 : decode cX9_step 10 = .ok (.getfield 75, 3) := by decide +kernel
theorem dX9_step_13 : decode cX9_step 13 = .ok (.invokevirtual 78, 3) := by decide +kernel
theorem dX9_step_16 : decode cX9_step 16 = .ok (.bipush 32, 2) := by decide +kernel
theorem dX9_step_18 : decode cX9_step 18 = .ok (.if_icmp .ne 16, 3) := by decide +kernel
theorem dX9_step_21 : decode cX9_step 21 = .ok (.aload_n 0, 1) := by decide +kernel
theorem dX9_step_22 : decode cX9_step 22 = .ok (.dup, 1) := by decide +kernel
theorem dX9_step_23 : decode cX9_step 23 = .ok (.getfield 75, 3) := by decide +kernel
theorem dX9_step_26 : decode cX9_step 26 = .ok (.iconst 1, 1) := by decide +kernel
theorem dX9_step_27 : decode cX9_step 27 = .ok (.iadd, 1) := by decide +kernel
theorem dX9_step_28 : decode cX9_step 28 = .ok (.putfield 75, 3) := by decide +kernel
theorem dX9_step_31 : decode cX9_step 31 = .ok (.goto (-23), 3) := by decide +kernel
theorem dX9_step_34 : decode cX9_step 34 = .ok (.aload_n 0, 1) := by decide +kernel
theorem dX9_step_35 : decode cX9_step 35 = .ok (.aload_n 0, 1) := by decide +kernel
theorem dX9_step_36 : decode cX9_step 36 = .ok (.getfield 75, 3) := by decide +kernel
theorem dX9_step_39 : decode cX9_step 39 = .ok (.putfield 66, 3) := by decide +kernel
theorem dX9_step_42 : decode cX9_step 42 = .ok (.aload_n 0, 1) := by decide +kernel
theorem dX9_step_43 : decode cX9_step 43 = .ok (.aload_n 0, 1) := by decide +kernel
theorem dX9_step_44 : decode cX9_step 44 = .ok (.getfield 75, 3) := by decide +kernel
theorem dX9_step_47 : decode cX9_step 47 = .ok (.invokevirtual 78, 3) := by decide +kernel
theorem dX9_step_50 : decode cX9_step 50 = .ok (.istore_n 1, 1) := by decide +kernel
theorem dX9_step_51 : decode cX9_step 51 = .ok (.aload_n 0, 1) := by decide +kernel
theorem dX9_step_52 : decode cX9_step 52 = .ok (.iconst 0, 1) := by decide +kernel
theorem dX9_step_53 : decode cX9_step 53 = .ok (.putfield 82, 3) := by decide +kernel
theorem dX9_step_56 : decode cX9_step 56 = .ok (.iload_n 1, 1) := by decide +kernel
theorem dX9_step_57 : decode cX9_step 57 = .ok (.bipush (-4), 2) := by decide +kernel
theorem dX9_step_59 : decode cX9_step 59 = .ok (.if_icmp .ne 11, 3) := by decide +kernel
theorem dX9_step_62 : decode cX9_step 62 = .ok (.aload_n 0, 1) := by decide +kernel
theorem dX9_step_63 : decode cX9_step 63 = .ok (.iconst 0, 1) := by decide +kernel
theorem dX9_step_64 : decode cX9_step 64 = .ok (.putfield 72, 3) := by decide +kernel
theorem dX9_step_67 : decode cX9_step 67 = .ok (.goto 202, 3) := by decide +kernel
theorem dX9_step_70 : decode cX9_step 70 = .ok (.iload_n 1, 1) := by decide +kernel
theorem dX9_step_71 : decode cX9_step 71 = .ok (.i2l, 1) := by decide +kernel
theorem dX9_step_72 : decode cX9_step 72 = .ok (.ldc2_w 85, 3) := by decide +kernel
theorem dX9_step_75 : decode cX9_step 75 = .ok (.ldc2_w 87, 3) := by decide +kernel
theorem dX9_step_78 : decode cX9_step 78 = .ok (.invokestatic 55, 3) := by decide +kernel
theorem dX9_step_81 : decode cX9_step 81 = .ok (.ifCond .eq 45, 3) := by decide +kernel
theorem dX9_step_84 : decode cX9_step 84 = .ok (.aload_n 0, 1) := by decide +kernel
theorem dX9_step_85 : decode cX9_step 85 = .ok (.aload_n 0, 1) := by decide +kernel
theorem dX9_step_86 : decode cX9_step 86 = .ok (.getfield 75, 3) := by decide +kernel
theorem dX9_step_89 : decode cX9_step 89 = .ok (.invokevirtual 78, 3) := by decide +kernel
theorem dX9_step_92 : decode cX9_step 92 = .ok (.i2l, 1) := by decide +kernel
theorem dX9_step_93 : decode cX9_step 93 = .ok (.ldc2_w 85, 3) := by decide +kernel
theorem dX9_step_96 : decode cX9_step 96 = .ok (.ldc2_w 87, 3) := by decide +kernel
theorem dX9_step_99 : decode cX9_step 99 = .ok (.invokestatic 55, 3) := by decide +kernel
theorem dX9_step_102 : decode cX9_step 102 = .ok (.ifCond .eq 16, 3) := by decide +kernel
theorem dX9_step_105 : decode cX9_step 105 = .ok (.aload_n 0, 1) := by decide +kernel
theorem dX9_step_106 : decode cX9_step 106 = .ok (.dup, 1) := by decide +kernel
theorem dX9_step_107 : decode cX9_step 107 = .ok (.getfield 75, 3) := by decide +kernel
theorem dX9_step_110 : decode cX9_step 110 = .ok (.iconst 1, 1) := by decide +kernel
theorem dX9_step_111 : decode cX9_step 111 = .ok (.iadd, 1) := by decide +kernel
theorem dX9_step_112 : decode cX9_step 112 = .ok (.putfield 75, 3) := by decide +kernel
theorem dX9_step_115 : decode cX9_step 115 = .ok (.goto (-31), 3) := by decide +kernel
theorem dX9_step_118 : decode cX9_step 118 = .ok (.aload_n 0, 1) := by decide +kernel
theorem dX9_step_119 : decode cX9_step 119 = .ok (.iconst 1, 1) := by decide +kernel
theorem dX9_step_120 : decode cX9_step 120 = .ok (.putfield 72, 3) := by decide +kernel
theorem dX9_step_123 : decode cX9_step 123 = .ok (.goto 146, 3) := by decide +kernel
theorem dX9_step_126 : decode cX9_step 126 = .ok (.iload_n 1, 1) := by decide +kernel
theorem dX9_step_127 : decode cX9_step 127 = .ok (.i2l, 1) := by decide +kernel
theorem dX9_step_128 : decode cX9_step 128 = .ok (.ldc2_w 89, 3) := by decide +kernel
theorem dX9_step_131 : decode cX9_step 131 = .ok (.ldc2_w 91, 3) := by decide +kernel
theorem dX9_step_134 : decode cX9_step 134 = .ok (.invokestatic 55, 3) := by decide +kernel
theorem dX9_step_137 : decode cX9_step 137 = .ok (.ifCond .eq 106, 3) := by decide +kernel
theorem dX9_step_140 : decode cX9_step 140 = .ok (.aload_n 0, 1) := by decide +kernel
theorem dX9_step_141 : decode cX9_step 141 = .ok (.aload_n 0, 1) := by decide +kernel
theorem dX9_step_142 : decode cX9_step 142 = .ok (.getfield 75, 3) := by decide +kernel
theorem dX9_step_145 : decode cX9_step 145 = .ok (.invokevirtual 78, 3) := by decide +kernel
theorem dX9_step_148 : decode cX9_step 148 = .ok (.i2l, 1) := by decide +kernel
theorem dX9_step_149 : decode cX9_step 149 = .ok (.ldc2_w 89, 3) := by decide +kernel
theorem dX9_step_152 : decode cX9_step 152 = .ok (.ldc2_w 91, 3) := by decide +kernel
theorem dX9_step_155 : decode cX9_step 155 = .ok (.invokestatic 55, 3) := by decide +kernel
theorem dX9_step_158 : decode cX9_step 158 = .ok (.ifCond .eq 59, 3) := by decide +kernel
theorem dX9_step_161 : decode cX9_step 161 = .ok (.aload_n 0, 1) := by decide +kernel
theorem dX9_step_162 : decode cX9_step 162 = .ok (.aload_n 0, 1) := by decide +kernel
theorem dX9_step_163 : decode cX9_step 163 = .ok (.getfield 75, 3) := by decide +kernel
theorem dX9_step_166 : decode cX9_step 166 = .ok (.aload_n 0, 1) := by decide +kernel
theorem dX9_step_167 : decode cX9_step 167 = .ok (.getfield 66, 3) := by decide +kernel
theorem dX9_step_170 : decode cX9_step 170 = .ok (.isub, 1) := by decide +kernel
theorem dX9_step_171 : decode cX9_step 171 = .ok (.iconst 2, 1) := by decide +kernel
theorem dX9_step_172 : decode cX9_step 172 = .ok (.if_icmp .ge 25, 3) := by decide +kernel
theorem dX9_step_175 : decode cX9_step 175 = .ok (.bipush 10, 2) := by decide +kernel
theorem dX9_step_177 : decode cX9_step 177 = .ok (.aload_n 0, 1) := by decide +kernel
theorem dX9_step_178 : decode cX9_step 178 = .ok (.getfield 82, 3) := by decide +kernel
theorem dX9_step_181 : decode cX9_step 181 = .ok (.imul, 1) := by decide +kernel
theorem dX9_step_182 : decode cX9_step 182 = .ok (.aload_n 0, 1) := by decide +kernel
theorem dX9_step_183 : decode cX9_step 183 = .ok (.aload_n 0, 1) := by decide +kernel
theorem dX9_step_184 : decode cX9_step 184 = .ok (.getfield 75, 3) := by decide +kernel
theorem dX9_step_187 : decode cX9_step 187 = .ok (.invokevirtual 78, 3) := by decide +kernel
theorem dX9_step_190 : decode cX9_step 190 = .ok (.iadd, 1) := by decide +kernel
theorem dX9_step_191 : decode cX9_step 191 = .ok (.bipush 48, 2) := by decide +kernel
theorem dX9_step_193 : decode cX9_step 193 = .ok (.isub, 1) := by decide +kernel
theorem dX9_step_194 : decode cX9_step 194 = .ok (.goto 7, 3) := by decide +kernel
theorem dX9_step_197 : decode cX9_step 197 = .ok (.aload_n 0, 1) := by decide +kernel
theorem dX9_step_198 : decode cX9_step 198 = .ok (.getfield 82, 3) := by decide +kernel
theorem dX9_step_201 : decode cX9_step 201 = .ok (.putfield 82, 3) := by decide +kernel
theorem dX9_step_204 : decode cX9_step 204 = .ok (.aload_n 0, 1) := by decide +kernel
theorem dX9_step_205 : decode cX9_step 205 = .ok (.dup, 1) := by decide +kernel
theorem dX9_step_206 : decode cX9_step 206 = .ok (.getfield 75, 3) := by decide +kernel
theorem dX9_step_209 : decode cX9_step 209 = .ok (.iconst 1, 1) := by decide +kernel
theorem dX9_step_210 : decode cX9_step 210 = .ok (.iadd, 1) := by decide +kernel
theorem dX9_step_211 : decode cX9_step 211 = .ok (.putfield 75, 3) := by decide +kernel
theorem dX9_step_214 : decode cX9_step 214 = .ok (.goto (-74), 3) := by decide +kernel
theorem dX9_step_217 : decode cX9_step 217 = .ok (.aload_n 0, 1) := by decide +kernel
theorem dX9_step_218 : decode cX9_step 218 = .ok (.iconst 2, 1) := by decide +kernel
theorem dX9_step_219 : decode cX9_step 219 = .ok (.putfield 72, 3) := by decide +kernel
theorem dX9_step_222 : decode cX9_step 222 = .ok (.aload_n 0, 1) := by decide +kernel
theorem dX9_step_223 : decode cX9_step 223 = .ok (.getfield 75, 3) := by decide +kernel
theorem dX9_step_226 : decode cX9_step 226 = .ok (.aload_n 0, 1) := by decide +kernel
theorem dX9_step_227 : decode cX9_step 227 = .ok (.getfield 66, 3) := by decide +kernel
theorem dX9_step_230 : decode cX9_step 230 = .ok (.isub, 1) := by decide +kernel
theorem dX9_step_231 : decode cX9_step 231 = .ok (.iconst 2, 1) := by decide +kernel
theorem dX9_step_232 : decode cX9_step 232 = .ok (.if_icmp .le 37, 3) := by decide +kernel
theorem dX9_step_235 : decode cX9_step 235 = .ok (.aload_n 0, 1) := by decide +kernel
theorem dX9_step_236 : decode cX9_step 236 = .ok (.iconst 1, 1) := by decide +kernel
theorem dX9_step_237 : decode cX9_step 237 = .ok (.invokevirtual 93, 3) := by decide +kernel
theorem dX9_step_240 : decode cX9_step 240 = .ok (.goto 29, 3) := by decide +kernel
theorem dX9_step_243 : decode cX9_step 243 = .ok (.aload_n 0, 1) := by decide +kernel
theorem dX9_step_244 : decode cX9_step 244 = .ok (.iconst 3, 1) := by decide +kernel
theorem dX9_step_245 : decode cX9_step 245 = .ok (.putfield 72, 3) := by decide +kernel
theorem dX9_step_248 : decode cX9_step 248 = .ok (.aload_n 0, 1) := by decide +kernel
theorem dX9_step_249 : decode cX9_step 249 = .ok (.dup, 1) := by decide +kernel
theorem dX9_step_250 : decode cX9_step 250 = .ok (.getfield 75, 3) := by decide +kernel
theorem dX9_step_253 : decode cX9_step 253 = .ok (.iconst 1, 1) := by decide +kernel
theorem dX9_step_254 : decode cX9_step 254 = .ok (.iadd, 1) := by decide +kernel
theorem dX9_step_255 : decode cX9_step 255 = .ok (.putfield 75, 3) := by decide +kernel
theorem dX9_step_258 : decode cX9_step 258 = .ok (.iload_n 1, 1) := by decide +kernel
theorem dX9_step_259 : decode cX9_step 259 = .ok (.bipush 59, 2) := by decide +kernel
theorem dX9_step_261 : decode cX9_step 261 = .ok (.if_icmp .eq 8, 3) := by decide +kernel
theorem dX9_step_264 : decode cX9_step 264 = .ok (.aload_n 0, 1) := by decide +kernel
theorem dX9_step_265 : decode cX9_step 265 = .ok (.iconst 1, 1) := by decide +kernel
theorem dX9_step_266 : decode cX9_step 266 = .ok (.invokevirtual 93, 3) := by decide +kernel
theorem dX9_step_269 : decode cX9_step 269 = .ok (.return_, 1) := by decide +kernel
theorem dX9_number_0 : decode cX9_number 0 = .ok (.aload_n 0, 1) := by decide +kernel
theorem dX9_number_1 : decode cX9_number 1 = .ok (.getfield 63, 3) := by decide +kernel
theorem dX9_number_4 : decode cX9_number 4 = .ok (.ifCond .ne 16, 3) := by decide +kernel
theorem dX9_number_7 : decode cX9_number 7 = .ok (.aload_n 0, 1) := by decide +kernel
theorem dX9_number_8 : decode cX9_number 8 = .ok (.getfield 72, 3) := by decide +kernel
theorem dX9_number_11 : decode cX9_number 11 = .ok (.iconst 2, 1) := by decide +kernel
theorem dX9_number_12 : decode cX9_number 12 = .ok (.if_icmp .eq 8, 3) := by decide +kernel
theorem dX9_number_15 : decode cX9_number 15 = .ok (.aload_n 0, 1) := by decide +kernel
theorem dX9_number_16 : decode cX9_number 16 = .ok (.iconst 2, 1) := by decide +kernel
theorem dX9_number_17 : decode cX9_number 17 = .ok (.invokevirtual 93, 3) := by decide +kernel
theorem dX9_number_20 : decode cX9_number 20 = .ok (.aload_n 0, 1) := by decide +kernel
theorem dX9_number_21 : decode cX9_number 21 = .ok (.getfield 63, 3) := by decide +kernel
theorem dX9_number_24 : decode cX9_number 24 = .ok (.ifCond .ne 23, 3) := by decide +kernel
theorem dX9_number_27 : decode cX9_number 27 = .ok (.aload_n 0, 1) := by decide +kernel
theorem dX9_number_28 : decode cX9_number 28 = .ok (.getfield 82, 3) := by decide +kernel
theorem dX9_number_31 : decode cX9_number 31 = .ok (.i2l, 1) := by decide +kernel
theorem dX9_number_32 : decode cX9_number 32 = .ok (.iload_n 1, 1) := by decide +kernel
theorem dX9_number_33 : decode cX9_number 33 = .ok (.i2l, 1) := by decide +kernel
theorem dX9_number_34 : decode cX9_number 34 = .ok (.iload_n 2, 1) := by decide +kernel
theorem dX9_number_35 : decode cX9_number 35 = .ok (.i2l, 1) := by decide +kernel
theorem dX9_number_36 : decode cX9_number 36 = .ok (.invokestatic 55, 3) := by decide +kernel
theorem dX9_number_39 : decode cX9_number 39 = .ok (.ifCond .ne 8, 3) := by decide +kernel
theorem dX9_number_42 : decode cX9_number 42 = .ok (.aload_n 0, 1) := by decide +kernel
theorem dX9_number_43 : decode cX9_number 43 = .ok (.iconst 3, 1) := by decide +kernel
theorem dX9_number_44 : decode cX9_number 44 = .ok (.invokevirtual 93, 3) := by decide +kernel
theorem dX9_number_47 : decode cX9_number 47 = .ok (.aload_n 0, 1) := by decide +kernel
theorem dX9_number_48 : decode cX9_number 48 = .ok (.getfield 63, 3) := by decide +kernel
theorem dX9_number_51 : decode cX9_number 51 = .ok (.ifCond .ne 10, 3) := by decide +kernel
theorem dX9_number_54 : decode cX9_number 54 = .ok (.aload_n 0, 1) := by decide +kernel
theorem dX9_number_55 : decode cX9_number 55 = .ok (.getfield 82, 3) := by decide +kernel
theorem dX9_number_58 : decode cX9_number 58 = .ok (.goto 4, 3) := by decide +kernel
theorem dX9_number_61 : decode cX9_number 61 = .ok (.iload_n 1, 1) := by decide +kernel
theorem dX9_number_62 : decode cX9_number 62 = .ok (.istore_n 3, 1) := by decide +kernel
theorem dX9_number_63 : decode cX9_number 63 = .ok (.aload_n 0, 1) := by decide +kernel
theorem dX9_number_64 : decode cX9_number 64 = .ok (.invokevirtual 97, 3) := by decide +kernel
theorem dX9_number_67 : decode cX9_number 67 = .ok (.iload_n 3, 1) := by decide +kernel
theorem dX9_number_68 : decode cX9_number 68 = .ok (.ireturn, 1) := by decide +kernel
theorem dX9_readMan_0 : decode cX9_readMan 0 = .ok (.aload_n 0, 1) := by decide +kernel
theorem dX9_readMan_1 : decode cX9_readMan 1 = .ok (.getfield 100, 3) := by decide +kernel
theorem dX9_readMan_4 : decode cX9_readMan 4 = .ok (.istore_n 2, 1) := by decide +kernel
theorem dX9_readMan_5 : decode cX9_readMan 5 = .ok (.aload_n 0, 1) := by decide +kernel
theorem dX9_readMan_6 : decode cX9_readMan 6 = .ok (.getfield 13, 3) := by decide +kernel
theorem dX9_readMan_9 : decode cX9_readMan 9 = .ok (.iload_n 2, 1) := by decide +kernel
theorem dX9_readMan_10 : decode cX9_readMan 10 = .ok (.iload_n 1, 1) := by decide +kernel
theorem dX9_readMan_11 : decode cX9_readMan 11 = .ok (.iastore, 1) := by decide +kernel
theorem dX9_readMan_12 : decode cX9_readMan 12 = .ok (.aload_n 0, 1) := by decide +kernel
theorem dX9_readMan_13 : decode cX9_readMan 13 = .ok (.getfield 13, 3) := by decide +kernel
theorem dX9_readMan_16 : decode cX9_readMan 16 = .ok (.iconst 4, 1) := by decide +kernel
theorem dX9_readMan_17 : decode cX9_readMan 17 = .ok (.iload_n 2, 1) := by decide +kernel
theorem dX9_readMan_18 : decode cX9_readMan 18 = .ok (.iadd, 1) := by decide +kernel
theorem dX9_readMan_19 : decode cX9_readMan 19 = .ok (.aload_n 0, 1) := by decide +kernel
theorem dX9_readMan_20 : decode cX9_readMan 20 = .ok (.iconst 0, 1) := by decide +kernel
theorem dX9_readMan_21 : decode cX9_readMan 21 = .ok (.bipush 9, 2) := by decide +kernel
theorem dX9_readMan_23 : decode cX9_readMan 23 = .ok (.invokevirtual 103, 3) := by decide +kernel
theorem dX9_readMan_26 : decode cX9_readMan 26 = .ok (.iastore, 1) := by decide +kernel
theorem dX9_readMan_27 : decode cX9_readMan 27 = .ok (.aload_n 0, 1) := by decide +kernel
theorem dX9_readMan_28 : decode cX9_readMan 28 = .ok (.getfield 13, 3) := by decide +kernel
theorem dX9_readMan_31 : decode cX9_readMan 31 = .ok (.bipush 12, 2) := by decide +kernel
theorem dX9_readMan_33 : decode cX9_readMan 33 = .ok (.iconst 4, 1) := by decide +kernel
theorem dX9_readMan_34 : decode cX9_readMan 34 = .ok (.iload_n 2, 1) := by decide +kernel
theorem dX9_readMan_35 : decode cX9_readMan 35 = .ok (.imul, 1) := by decide +kernel
theorem dX9_readMan_36 : decode cX9_readMan 36 = .ok (.iadd, 1) := by decide +kernel
theorem dX9_readMan_37 : decode cX9_readMan 37 = .ok (.aload_n 0, 1) := by decide +kernel
theorem dX9_readMan_38 : decode cX9_readMan 38 = .ok (.iconst 0, 1) := by decide +kernel
theorem dX9_readMan_39 : decode cX9_readMan 39 = .ok (.bipush 7, 2) := by decide +kernel
theorem dX9_readMan_41 : decode cX9_readMan 41 = .ok (.invokevirtual 103, 3) := by decide +kernel
theorem dX9_readMan_44 : decode cX9_readMan 44 = .ok (.iastore, 1) := by decide +kernel
theorem dX9_readMan_45 : decode cX9_readMan 45 = .ok (.iconst 1, 1) := by decide +kernel
theorem dX9_readMan_46 : decode cX9_readMan 46 = .ok (.istore_n 3, 1) := by decide +kernel
theorem dX9_readMan_47 : decode cX9_readMan 47 = .ok (.aload_n 0, 1) := by decide +kernel
theorem dX9_readMan_48 : decode cX9_readMan 48 = .ok (.getfield 63, 3) := by decide +kernel
theorem dX9_readMan_51 : decode cX9_readMan 51 = .ok (.ifCond .ne 50, 3) := by decide +kernel
theorem dX9_readMan_54 : decode cX9_readMan 54 = .ok (.aload_n 0, 1) := by decide +kernel
theorem dX9_readMan_55 : decode cX9_readMan 55 = .ok (.getfield 72, 3) := by decide +kernel
theorem dX9_readMan_58 : decode cX9_readMan 58 = .ok (.iconst 2, 1) := by decide +kernel
theorem dX9_readMan_59 : decode cX9_readMan 59 = .ok (.if_icmp .ne 42, 3) := by decide +kernel
theorem dX9_readMan_62 : decode cX9_readMan 62 = .ok (.iload_n 3, 1) := by decide +kernel
theorem dX9_readMan_63 : decode cX9_readMan 63 = .ok (.iconst 4, 1) := by decide +kernel
theorem dX9_readMan_64 : decode cX9_readMan 64 = .ok (.if_icmp .ne 11, 3) := by decide +kernel
theorem dX9_readMan_67 : decode cX9_readMan 67 = .ok (.aload_n 0, 1) := by decide +kernel
theorem dX9_readMan_68 : decode cX9_readMan 68 = .ok (.iconst 5, 1) := by decide +kernel
theorem dX9_readMan_69 : decode cX9_readMan 69 = .ok (.invokevirtual 93, 3) := by decide +kernel
theorem dX9_readMan_72 : decode cX9_readMan 72 = .ok (.goto (-25), 3) := by decide +kernel
theorem dX9_readMan_75 : decode cX9_readMan 75 = .ok (.aload_n 0, 1) := by decide +kernel
theorem dX9_readMan_76 : decode cX9_readMan 76 = .ok (.getfield 13, 3) := by decide +kernel
theorem dX9_readMan_79 : decode cX9_readMan 79 = .ok (.bipush 12, 2) := by decide +kernel
theorem dX9_readMan_81 : decode cX9_readMan 81 = .ok (.iconst 4, 1) := by decide +kernel
theorem dX9_readMan_82 : decode cX9_readMan 82 = .ok (.iload_n 2, 1) := by decide +kernel
theorem dX9_readMan_83 : decode cX9_readMan 83 = .ok (.imul, 1) := by decide +kernel
theorem dX9_readMan_84 : decode cX9_readMan 84 = .ok (.iadd, 1) := by decide +kernel
theorem dX9_readMan_85 : decode cX9_readMan 85 = .ok (.iload_n 3, 1) := by decide +kernel
theorem dX9_readMan_86 : decode cX9_readMan 86 = .ok (.iadd, 1) := by decide +kernel
theorem dX9_readMan_87 : decode cX9_readMan 87 = .ok (.aload_n 0, 1) := by decide +kernel
theorem dX9_readMan_88 : decode cX9_readMan 88 = .ok (.iconst 0, 1) := by decide +kernel
theorem dX9_readMan_89 : decode cX9_readMan 89 = .ok (.bipush 7, 2) := by decide +kernel
theorem dX9_readMan_91 : decode cX9_readMan 91 = .ok (.invokevirtual 103, 3) := by decide +kernel
theorem dX9_readMan_94 : decode cX9_readMan 94 = .ok (.iastore, 1) := by decide +kernel
theorem dX9_readMan_95 : decode cX9_readMan 95 = .ok (.iinc 3 1, 3) := by decide +kernel
theorem dX9_readMan_98 : decode cX9_readMan 98 = .ok (.goto (-51), 3) := by decide +kernel
theorem dX9_readMan_101 : decode cX9_readMan 101 = .ok (.aload_n 0, 1) := by decide +kernel
theorem dX9_readMan_102 : decode cX9_readMan 102 = .ok (.getfield 13, 3) := by decide +kernel
theorem dX9_readMan_105 : decode cX9_readMan 105 = .ok (.bipush 8, 2) := by decide +kernel
theorem dX9_readMan_107 : decode cX9_readMan 107 = .ok (.iload_n 2, 1) := by decide +kernel
theorem dX9_readMan_108 : decode cX9_readMan 108 = .ok (.iadd, 1) := by decide +kernel
theorem dX9_readMan_109 : decode cX9_readMan 109 = .ok (.iload_n 3, 1) := by decide +kernel
theorem dX9_readMan_110 : decode cX9_readMan 110 = .ok (.iastore, 1) := by decide +kernel
theorem dX9_readMan_111 : decode cX9_readMan 111 = .ok (.aload_n 0, 1) := by decide +kernel
theorem dX9_readMan_112 : decode cX9_readMan 112 = .ok (.dup, 1) := by decide +kernel
theorem dX9_readMan_113 : decode cX9_readMan 113 = .ok (.getfield 100, 3) := by decide +kernel
theorem dX9_readMan_116 : decode cX9_readMan 116 = .ok (.iconst 1, 1) := by decide +kernel
theorem dX9_readMan_117 : decode cX9_readMan 117 = .ok (.iadd, 1) := by decide +kernel
theorem dX9_readMan_118 : decode cX9_readMan 118 = .ok (.putfield 100, 3) := by decide +kernel
theorem dX9_readMan_121 : decode cX9_readMan 121 = .ok (.return_, 1) := by decide +kernel
theorem dX9_readStreet_0 : decode cX9_readStreet 0 = .ok (.aload_n 0, 1) := by decide +kernel
theorem dX9_readStreet_1 : decode cX9_readStreet 1 = .ok (.getfield 13, 3) := by decide +kernel
theorem dX9_readStreet_4 : decode cX9_readStreet 4 = .ok (.bipush 42, 2) := by decide +kernel
theorem dX9_readStreet_6 : decode cX9_readStreet 6 = .ok (.iaload, 1) := by decide +kernel
theorem dX9_readStreet_7 : decode cX9_readStreet 7 = .ok (.istore_n 1, 1) := by decide +kernel
theorem dX9_readStreet_8 : decode cX9_readStreet 8 = .ok (.aload_n 0, 1) := by decide +kernel
theorem dX9_readStreet_9 : decode cX9_readStreet 9 = .ok (.iconst 0, 1) := by decide +kernel
theorem dX9_readStreet_10 : decode cX9_readStreet 10 = .ok (.bipush 7, 2) := by decide +kernel
theorem dX9_readStreet_12 : decode cX9_readStreet 12 = .ok (.invokevirtual 103, 3) := by decide +kernel
theorem dX9_readStreet_15 : decode cX9_readStreet 15 = .ok (.istore_n 2, 1) := by decide +kernel
theorem dX9_readStreet_16 : decode cX9_readStreet 16 = .ok (.aload_n 0, 1) := by decide +kernel
theorem dX9_readStreet_17 : decode cX9_readStreet 17 = .ok (.getfield 63, 3) := by decide +kernel
theorem dX9_readStreet_20 : decode cX9_readStreet 20 = .ok (.ifCond .ne 24, 3) := by decide +kernel
theorem dX9_readStreet_23 : decode cX9_readStreet 23 = .ok (.aload_n 0, 1) := by decide +kernel
theorem dX9_readStreet_24 : decode cX9_readStreet 24 = .ok (.getfield 72, 3) := by decide +kernel
theorem dX9_readStreet_27 : decode cX9_readStreet 27 = .ok (.iconst 2, 1) := by decide +kernel
theorem dX9_readStreet_28 : decode cX9_readStreet 28 = .ok (.if_icmp .ne 16, 3) := by decide +kernel
theorem dX9_readStreet_31 : decode cX9_readStreet 31 = .ok (.aload_n 0, 1) := by decide +kernel
theorem dX9_readStreet_32 : decode cX9_readStreet 32 = .ok (.getfield 82, 3) := by decide +kernel
theorem dX9_readStreet_35 : decode cX9_readStreet 35 = .ok (.iload_n 2, 1) := by decide +kernel
theorem dX9_readStreet_36 : decode cX9_readStreet 36 = .ok (.if_icmp .ne 8, 3) := by decide +kernel
theorem dX9_readStreet_39 : decode cX9_readStreet 39 = .ok (.aload_n 0, 1) := by decide +kernel
theorem dX9_readStreet_40 : decode cX9_readStreet 40 = .ok (.iconst 3, 1) := by decide +kernel
theorem dX9_readStreet_41 : decode cX9_readStreet 41 = .ok (.invokevirtual 93, 3) := by decide +kernel
theorem dX9_readStreet_44 : decode cX9_readStreet 44 = .ok (.aload_n 0, 1) := by decide +kernel
theorem dX9_readStreet_45 : decode cX9_readStreet 45 = .ok (.getfield 13, 3) := by decide +kernel
theorem dX9_readStreet_48 : decode cX9_readStreet 48 = .ok (.bipush 43, 2) := by decide +kernel
theorem dX9_readStreet_50 : decode cX9_readStreet 50 = .ok (.iload_n 1, 1) := by decide +kernel
theorem dX9_readStreet_51 : decode cX9_readStreet 51 = .ok (.iadd, 1) := by decide +kernel
theorem dX9_readStreet_52 : decode cX9_readStreet 52 = .ok (.iload_n 2, 1) := by decide +kernel
theorem dX9_readStreet_53 : decode cX9_readStreet 53 = .ok (.iastore, 1) := by decide +kernel
theorem dX9_readStreet_54 : decode cX9_readStreet 54 = .ok (.aload_n 0, 1) := by decide +kernel
theorem dX9_readStreet_55 : decode cX9_readStreet 55 = .ok (.getfield 13, 3) := by decide +kernel
theorem dX9_readStreet_58 : decode cX9_readStreet 58 = .ok (.bipush 52, 2) := by decide +kernel
theorem dX9_readStreet_60 : decode cX9_readStreet 60 = .ok (.iload_n 1, 1) := by decide +kernel
theorem dX9_readStreet_61 : decode cX9_readStreet 61 = .ok (.iadd, 1) := by decide +kernel
theorem dX9_readStreet_62 : decode cX9_readStreet 62 = .ok (.aload_n 0, 1) := by decide +kernel
theorem dX9_readStreet_63 : decode cX9_readStreet 63 = .ok (.iconst 0, 1) := by decide +kernel
theorem dX9_readStreet_64 : decode cX9_readStreet 64 = .ok (.bipush 7, 2) := by decide +kernel
theorem dX9_readStreet_66 : decode cX9_readStreet 66 = .ok (.invokevirtual 103, 3) := by decide +kernel
theorem dX9_readStreet_69 : decode cX9_readStreet 69 = .ok (.iastore, 1) := by decide +kernel
theorem dX9_readStreet_70 : decode cX9_readStreet 70 = .ok (.aload_n 0, 1) := by decide +kernel
theorem dX9_readStreet_71 : decode cX9_readStreet 71 = .ok (.getfield 13, 3) := by decide +kernel
theorem dX9_readStreet_74 : decode cX9_readStreet 74 = .ok (.bipush 42, 2) := by decide +kernel
theorem dX9_readStreet_76 : decode cX9_readStreet 76 = .ok (.dup2, 1) := by decide +kernel
theorem dX9_readStreet_77 : decode cX9_readStreet 77 = .ok (.iaload, 1) := by decide +kernel
theorem dX9_readStreet_78 : decode cX9_readStreet 78 = .ok (.iconst 1, 1) := by decide +kernel
theorem dX9_readStreet_79 : decode cX9_readStreet 79 = .ok (.iadd, 1) := by decide +kernel
theorem dX9_readStreet_80 : decode cX9_readStreet 80 = .ok (.iastore, 1) := by decide +kernel
theorem dX9_readStreet_81 : decode cX9_readStreet 81 = .ok (.return_, 1) := by decide +kernel
theorem dX9_readReader_0 : decode cX9_readReader 0 = .ok (.aload_n 0, 1) := by decide +kernel
theorem dX9_readReader_1 : decode cX9_readReader 1 = .ok (.getfield 107, 3) := by decide +kernel
theorem dX9_readReader_4 : decode cX9_readReader 4 = .ok (.istore_n 1, 1) := by decide +kernel
theorem dX9_readReader_5 : decode cX9_readReader 5 = .ok (.aload_n 0, 1) := by decide +kernel
theorem dX9_readReader_6 : decode cX9_readReader 6 = .ok (.getfield 13, 3) := by decide +kernel
theorem dX9_readReader_9 : decode cX9_readReader 9 = .ok (.bipush 28, 2) := by decide +kernel
theorem dX9_readReader_11 : decode cX9_readReader 11 = .ok (.iload_n 1, 1) := by decide +kernel
theorem dX9_readReader_12 : decode cX9_readReader 12 = .ok (.iadd, 1) := by decide +kernel
theorem dX9_readReader_13 : decode cX9_readReader 13 = .ok (.aload_n 0, 1) := by decide +kernel
theorem dX9_readReader_14 : decode cX9_readReader 14 = .ok (.iconst 0, 1) := by decide +kernel
theorem dX9_readReader_15 : decode cX9_readReader 15 = .ok (.bipush 7, 2) := by decide +kernel
theorem dX9_readReader_17 : decode cX9_readReader 17 = .ok (.invokevirtual 103, 3) := by decide +kernel
theorem dX9_readReader_20 : decode cX9_readReader 20 = .ok (.iastore, 1) := by decide +kernel
theorem dX9_readReader_21 : decode cX9_readReader 21 = .ok (.aload_n 0, 1) := by decide +kernel
theorem dX9_readReader_22 : decode cX9_readReader 22 = .ok (.getfield 13, 3) := by decide +kernel
theorem dX9_readReader_25 : decode cX9_readReader 25 = .ok (.bipush 32, 2) := by decide +kernel
theorem dX9_readReader_27 : decode cX9_readReader 27 = .ok (.iload_n 1, 1) := by decide +kernel
theorem dX9_readReader_28 : decode cX9_readReader 28 = .ok (.iadd, 1) := by decide +kernel
theorem dX9_readReader_29 : decode cX9_readReader 29 = .ok (.aload_n 0, 1) := by decide +kernel
theorem dX9_readReader_30 : decode cX9_readReader 30 = .ok (.iconst 0, 1) := by decide +kernel
theorem dX9_readReader_31 : decode cX9_readReader 31 = .ok (.bipush 59, 2) := by decide +kernel
theorem dX9_readReader_33 : decode cX9_readReader 33 = .ok (.invokevirtual 103, 3) := by decide +kernel
theorem dX9_readReader_36 : decode cX9_readReader 36 = .ok (.iastore, 1) := by decide +kernel
theorem dX9_readReader_37 : decode cX9_readReader 37 = .ok (.aload_n 0, 1) := by decide +kernel
theorem dX9_readReader_38 : decode cX9_readReader 38 = .ok (.getfield 13, 3) := by decide +kernel
theorem dX9_readReader_41 : decode cX9_readReader 41 = .ok (.bipush 36, 2) := by decide +kernel
theorem dX9_readReader_43 : decode cX9_readReader 43 = .ok (.iload_n 1, 1) := by decide +kernel
theorem dX9_readReader_44 : decode cX9_readReader 44 = .ok (.iadd, 1) := by decide +kernel
theorem dX9_readReader_45 : decode cX9_readReader 45 = .ok (.aload_n 0, 1) := by decide +kernel
theorem dX9_readReader_46 : decode cX9_readReader 46 = .ok (.aload_n 0, 1) := by decide +kernel
theorem dX9_readReader_47 : decode cX9_readReader 47 = .ok (.getfield 13, 3) := by decide +kernel
theorem dX9_readReader_50 : decode cX9_readReader 50 = .ok (.bipush 32, 2) := by decide +kernel
theorem dX9_readReader_52 : decode cX9_readReader 52 = .ok (.iload_n 1, 1) := by decide +kernel
theorem dX9_readReader_53 : decode cX9_readReader 53 = .ok (.iadd, 1) := by decide +kernel
theorem dX9_readReader_54 : decode cX9_readReader 54 = .ok (.iaload, 1) := by decide +kernel
theorem dX9_readReader_55 : decode cX9_readReader 55 = .ok (.bipush 59, 2) := by decide +kernel
theorem dX9_readReader_57 : decode cX9_readReader 57 = .ok (.invokevirtual 103, 3) := by decide +kernel
theorem dX9_readReader_60 : decode cX9_readReader 60 = .ok (.iastore, 1) := by decide +kernel
theorem dX9_readReader_61 : decode cX9_readReader 61 = .ok (.aload_n 0, 1) := by decide +kernel
theorem dX9_readReader_62 : decode cX9_readReader 62 = .ok (.dup, 1) := by decide +kernel
theorem dX9_readReader_63 : decode cX9_readReader 63 = .ok (.getfield 107, 3) := by decide +kernel
theorem dX9_readReader_66 : decode cX9_readReader 66 = .ok (.iconst 1, 1) := by decide +kernel
theorem dX9_readReader_67 : decode cX9_readReader 67 = .ok (.iadd, 1) := by decide +kernel
theorem dX9_readReader_68 : decode cX9_readReader 68 = .ok (.putfield 107, 3) := by decide +kernel
theorem dX9_readReader_71 : decode cX9_readReader 71 = .ok (.return_, 1) := by decide +kernel
theorem dX9_readMore_0 : decode cX9_readMore 0 = .ok (.iload_n 1, 1) := by decide +kernel
theorem dX9_readMore_1 : decode cX9_readMore 1 = .ok (.iconst 3, 1) := by decide +kernel
theorem dX9_readMore_2 : decode cX9_readMore 2 = .ok (.if_icmp .gt 11, 3) := by decide +kernel
theorem dX9_readMore_5 : decode cX9_readMore 5 = .ok (.aload_n 0, 1) := by decide +kernel
theorem dX9_readMore_6 : decode cX9_readMore 6 = .ok (.iload_n 1, 1) := by decide +kernel
theorem dX9_readMore_7 : decode cX9_readMore 7 = .ok (.invokevirtual 110, 3) := by decide +kernel
theorem dX9_readMore_10 : decode cX9_readMore 10 = .ok (.goto 55, 3) := by decide +kernel
theorem dX9_readMore_13 : decode cX9_readMore 13 = .ok (.iload_n 1, 1) := by decide +kernel
theorem dX9_readMore_14 : decode cX9_readMore 14 = .ok (.iconst 4, 1) := by decide +kernel
theorem dX9_readMore_15 : decode cX9_readMore 15 = .ok (.if_icmp .ne 10, 3) := by decide +kernel
theorem dX9_readMore_18 : decode cX9_readMore 18 = .ok (.aload_n 0, 1) := by decide +kernel
theorem dX9_readMore_19 : decode cX9_readMore 19 = .ok (.invokevirtual 113, 3) := by decide +kernel
theorem dX9_readMore_22 : decode cX9_readMore 22 = .ok (.goto 43, 3) := by decide +kernel
theorem dX9_readMore_25 : decode cX9_readMore 25 = .ok (.iload_n 1, 1) := by decide +kernel
theorem dX9_readMore_26 : decode cX9_readMore 26 = .ok (.iconst 5, 1) := by decide +kernel
theorem dX9_readMore_27 : decode cX9_readMore 27 = .ok (.if_icmp .ne 10, 3) := by decide +kernel
theorem dX9_readMore_30 : decode cX9_readMore 30 = .ok (.aload_n 0, 1) := by decide +kernel
theorem dX9_readMore_31 : decode cX9_readMore 31 = .ok (.invokevirtual 116, 3) := by decide +kernel
theorem dX9_readMore_34 : decode cX9_readMore 34 = .ok (.goto 31, 3) := by decide +kernel
theorem dX9_readMore_37 : decode cX9_readMore 37 = .ok (.aload_n 0, 1) := by decide +kernel
theorem dX9_readMore_38 : decode cX9_readMore 38 = .ok (.getfield 13, 3) := by decide +kernel
theorem dX9_readMore_41 : decode cX9_readMore 41 = .ok (.bipush 40, 2) := by decide +kernel
theorem dX9_readMore_43 : decode cX9_readMore 43 = .ok (.aload_n 0, 1) := by decide +kernel
theorem dX9_readMore_44 : decode cX9_readMore 44 = .ok (.iconst 0, 1) := by decide +kernel
theorem dX9_readMore_45 : decode cX9_readMore 45 = .ok (.bipush 59, 2) := by decide +kernel
theorem dX9_readMore_47 : decode cX9_readMore 47 = .ok (.invokevirtual 103, 3) := by decide +kernel
theorem dX9_readMore_50 : decode cX9_readMore 50 = .ok (.iastore, 1) := by decide +kernel
theorem dX9_readMore_51 : decode cX9_readMore 51 = .ok (.aload_n 0, 1) := by decide +kernel
theorem dX9_readMore_52 : decode cX9_readMore 52 = .ok (.getfield 13, 3) := by decide +kernel
theorem dX9_readMore_55 : decode cX9_readMore 55 = .ok (.bipush 41, 2) := by decide +kernel
theorem dX9_readMore_57 : decode cX9_readMore 57 = .ok (.aload_n 0, 1) := by decide +kernel
theorem dX9_readMore_58 : decode cX9_readMore 58 = .ok (.iconst 0, 1) := by decide +kernel
theorem dX9_readMore_59 : decode cX9_readMore 59 = .ok (.bipush 59, 2) := by decide +kernel
theorem dX9_readMore_61 : decode cX9_readMore 61 = .ok (.invokevirtual 103, 3) := by decide +kernel
theorem dX9_readMore_64 : decode cX9_readMore 64 = .ok (.iastore, 1) := by decide +kernel
theorem dX9_readMore_65 : decode cX9_readMore 65 = .ok (.return_, 1) := by decide +kernel
theorem dX9_isFull_0 : decode cX9_isFull 0 = .ok (.iload_n 1, 1) := by decide +kernel
theorem dX9_isFull_1 : decode cX9_isFull 1 = .ok (.iconst 3, 1) := by decide +kernel
theorem dX9_isFull_2 : decode cX9_isFull 2 = .ok (.if_icmp .gt 11, 3) := by decide +kernel
theorem dX9_isFull_5 : decode cX9_isFull 5 = .ok (.aload_n 0, 1) := by decide +kernel
theorem dX9_isFull_6 : decode cX9_isFull 6 = .ok (.getfield 100, 3) := by decide +kernel
theorem dX9_isFull_9 : decode cX9_isFull 9 = .ok (.iconst 4, 1) := by decide +kernel
theorem dX9_isFull_10 : decode cX9_isFull 10 = .ok (.if_icmp .eq 33, 3) := by decide +kernel
theorem dX9_isFull_13 : decode cX9_isFull 13 = .ok (.iload_n 1, 1) := by decide +kernel
theorem dX9_isFull_14 : decode cX9_isFull 14 = .ok (.iconst 5, 1) := by decide +kernel
theorem dX9_isFull_15 : decode cX9_isFull 15 = .ok (.if_icmp .ne 11, 3) := by decide +kernel
theorem dX9_isFull_18 : decode cX9_isFull 18 = .ok (.aload_n 0, 1) := by decide +kernel
theorem dX9_isFull_19 : decode cX9_isFull 19 = .ok (.getfield 107, 3) := by decide +kernel
theorem dX9_isFull_22 : decode cX9_isFull 22 = .ok (.iconst 4, 1) := by decide +kernel
theorem dX9_isFull_23 : decode cX9_isFull 23 = .ok (.if_icmp .eq 20, 3) := by decide +kernel
theorem dX9_isFull_26 : decode cX9_isFull 26 = .ok (.iload_n 1, 1) := by decide +kernel
theorem dX9_isFull_27 : decode cX9_isFull 27 = .ok (.iconst 4, 1) := by decide +kernel
theorem dX9_isFull_28 : decode cX9_isFull 28 = .ok (.if_icmp .ne 19, 3) := by decide +kernel
theorem dX9_isFull_31 : decode cX9_isFull 31 = .ok (.aload_n 0, 1) := by decide +kernel
theorem dX9_isFull_32 : decode cX9_isFull 32 = .ok (.getfield 13, 3) := by decide +kernel
theorem dX9_isFull_35 : decode cX9_isFull 35 = .ok (.bipush 42, 2) := by decide +kernel
theorem dX9_isFull_37 : decode cX9_isFull 37 = .ok (.iaload, 1) := by decide +kernel
theorem dX9_isFull_38 : decode cX9_isFull 38 = .ok (.bipush 9, 2) := by decide +kernel
theorem dX9_isFull_40 : decode cX9_isFull 40 = .ok (.if_icmp .ne 7, 3) := by decide +kernel
theorem dX9_isFull_43 : decode cX9_isFull 43 = .ok (.iconst 1, 1) := by decide +kernel
theorem dX9_isFull_44 : decode cX9_isFull 44 = .ok (.goto 4, 3) := by decide +kernel
theorem dX9_isFull_47 : decode cX9_isFull 47 = .ok (.iconst 0, 1) := by decide +kernel
theorem dX9_isFull_48 : decode cX9_isFull 48 = .ok (.ireturn, 1) := by decide +kernel
theorem dX9_readLine_0 : decode cX9_readLine 0 = .ok (.aload_n 0, 1) := by decide +kernel
theorem dX9_readLine_1 : decode cX9_readLine 1 = .ok (.invokevirtual 119, 3) := by decide +kernel
theorem dX9_readLine_4 : decode cX9_readLine 4 = .ok (.istore_n 1, 1) := by decide +kernel
theorem dX9_readLine_5 : decode cX9_readLine 5 = .ok (.iload_n 1, 1) := by decide +kernel
theorem dX9_readLine_6 : decode cX9_readLine 6 = .ok (.i2l, 1) := by decide +kernel
theorem dX9_readLine_7 : decode cX9_readLine 7 = .ok (.lconst 0, 1) := by decide +kernel
theorem dX9_readLine_8 : decode cX9_readLine 8 = .ok (.ldc2_w 123, 3) := by decide +kernel
theorem dX9_readLine_11 : decode cX9_readLine 11 = .ok (.invokestatic 55, 3) := by decide +kernel
theorem dX9_readLine_14 : decode cX9_readLine 14 = .ok (.ifCond .ne 9, 3) := by decide +kernel
theorem dX9_readLine_17 : decode cX9_readLine 17 = .ok (.aload_n 0, 1) := by decide +kernel
theorem dX9_readLine_18 : decode cX9_readLine 18 = .ok (.iconst 2, 1) := by decide +kernel
theorem dX9_readLine_19 : decode cX9_readLine 19 = .ok (.invokevirtual 93, 3) := by decide +kernel
theorem dX9_readLine_22 : decode cX9_readLine 22 = .ok (.return_, 1) := by decide +kernel
theorem dX9_readLine_23 : decode cX9_readLine 23 = .ok (.aload_n 0, 1) := by decide +kernel
theorem dX9_readLine_24 : decode cX9_readLine 24 = .ok (.iload_n 1, 1) := by decide +kernel
theorem dX9_readLine_25 : decode cX9_readLine 25 = .ok (.invokevirtual 125, 3) := by decide +kernel
theorem dX9_readLine_28 : decode cX9_readLine 28 = .ok (.ifCond .eq 8, 3) := by decide +kernel
theorem dX9_readLine_31 : decode cX9_readLine 31 = .ok (.aload_n 0, 1) := by decide +kernel
theorem dX9_readLine_32 : decode cX9_readLine 32 = .ok (.iconst 5, 1) := by decide +kernel
theorem dX9_readLine_33 : decode cX9_readLine 33 = .ok (.invokevirtual 93, 3) := by decide +kernel
theorem dX9_readLine_36 : decode cX9_readLine 36 = .ok (.iload_n 1, 1) := by decide +kernel
theorem dX9_readLine_37 : decode cX9_readLine 37 = .ok (.bipush 6, 2) := by decide +kernel
theorem dX9_readLine_39 : decode cX9_readLine 39 = .ok (.if_icmp .ne 15, 3) := by decide +kernel
theorem dX9_readLine_42 : decode cX9_readLine 42 = .ok (.aload_n 0, 1) := by decide +kernel
theorem dX9_readLine_43 : decode cX9_readLine 43 = .ok (.getfield 129, 3) := by decide +kernel
theorem dX9_readLine_46 : decode cX9_readLine 46 = .ok (.ifCond .eq 8, 3) := by decide +kernel
theorem dX9_readLine_49 : decode cX9_readLine 49 = .ok (.aload_n 0, 1) := by decide +kernel
theorem dX9_readLine_50 : decode cX9_readLine 50 = .ok (.iconst 4, 1) := by decide +kernel
theorem dX9_readLine_51 : decode cX9_readLine 51 = .ok (.invokevirtual 93, 3) := by decide +kernel
theorem dX9_readLine_54 : decode cX9_readLine 54 = .ok (.aload_n 0, 1) := by decide +kernel
theorem dX9_readLine_55 : decode cX9_readLine 55 = .ok (.aload_n 0, 1) := by decide +kernel
theorem dX9_readLine_56 : decode cX9_readLine 56 = .ok (.getfield 129, 3) := by decide +kernel
theorem dX9_readLine_59 : decode cX9_readLine 59 = .ok (.ifCond .ne 9, 3) := by decide +kernel
theorem dX9_readLine_62 : decode cX9_readLine 62 = .ok (.iload_n 1, 1) := by decide +kernel
theorem dX9_readLine_63 : decode cX9_readLine 63 = .ok (.bipush 6, 2) := by decide +kernel
theorem dX9_readLine_65 : decode cX9_readLine 65 = .ok (.if_icmp .ne 7, 3) := by decide +kernel
theorem dX9_readLine_68 : decode cX9_readLine 68 = .ok (.iconst 1, 1) := by decide +kernel
theorem dX9_readLine_69 : decode cX9_readLine 69 = .ok (.goto 4, 3) := by decide +kernel
theorem dX9_readLine_72 : decode cX9_readLine 72 = .ok (.iconst 0, 1) := by decide +kernel
theorem dX9_readLine_73 : decode cX9_readLine 73 = .ok (.putfield 129, 3) := by decide +kernel
theorem dX9_readLine_76 : decode cX9_readLine 76 = .ok (.aload_n 0, 1) := by decide +kernel
theorem dX9_readLine_77 : decode cX9_readLine 77 = .ok (.invokevirtual 97, 3) := by decide +kernel
theorem dX9_readLine_80 : decode cX9_readLine 80 = .ok (.aload_n 0, 1) := by decide +kernel
theorem dX9_readLine_81 : decode cX9_readLine 81 = .ok (.getfield 63, 3) := by decide +kernel
theorem dX9_readLine_84 : decode cX9_readLine 84 = .ok (.ifCond .le 4, 3) := by decide +kernel
theorem dX9_readLine_87 : decode cX9_readLine 87 = .ok (.return_, 1) := by decide +kernel
theorem dX9_readLine_88 : decode cX9_readLine 88 = .ok (.aload_n 0, 1) := by decide +kernel
theorem dX9_readLine_89 : decode cX9_readLine 89 = .ok (.iload_n 1, 1) := by decide +kernel
theorem dX9_readLine_90 : decode cX9_readLine 90 = .ok (.invokevirtual 133, 3) := by decide +kernel
theorem dX9_readLine_93 : decode cX9_readLine 93 = .ok (.aload_n 0, 1) := by decide +kernel
theorem dX9_readLine_94 : decode cX9_readLine 94 = .ok (.getfield 63, 3) := by decide +kernel
theorem dX9_readLine_97 : decode cX9_readLine 97 = .ok (.ifCond .ne 16, 3) := by decide +kernel
theorem dX9_readLine_100 : decode cX9_readLine 100 = .ok (.aload_n 0, 1) := by decide +kernel
theorem dX9_readLine_101 : decode cX9_readLine 101 = .ok (.getfield 72, 3) := by decide +kernel
theorem dX9_readLine_104 : decode cX9_readLine 104 = .ok (.iconst 3, 1) := by decide +kernel
theorem dX9_readLine_105 : decode cX9_readLine 105 = .ok (.if_icmp .eq 8, 3) := by decide +kernel
theorem dX9_readLine_108 : decode cX9_readLine 108 = .ok (.aload_n 0, 1) := by decide +kernel
theorem dX9_readLine_109 : decode cX9_readLine 109 = .ok (.iconst 2, 1) := by decide +kernel
theorem dX9_readLine_110 : decode cX9_readLine 110 = .ok (.invokevirtual 93, 3) := by decide +kernel
theorem dX9_readLine_113 : decode cX9_readLine 113 = .ok (.aload_n 0, 1) := by decide +kernel
theorem dX9_readLine_114 : decode cX9_readLine 114 = .ok (.invokevirtual 97, 3) := by decide +kernel
theorem dX9_readLine_117 : decode cX9_readLine 117 = .ok (.return_, 1) := by decide +kernel
theorem dX9_areWalks_0 : decode cX9_areWalks 0 = .ok (.iconst 0, 1) := by decide +kernel
theorem dX9_areWalks_1 : decode cX9_areWalks 1 = .ok (.istore_n 1, 1) := by decide +kernel
theorem dX9_areWalks_2 : decode cX9_areWalks 2 = .ok (.iload_n 1, 1) := by decide +kernel
theorem dX9_areWalks_3 : decode cX9_areWalks 3 = .ok (.bipush 61, 2) := by decide +kernel
theorem dX9_areWalks_5 : decode cX9_areWalks 5 = .ok (.if_icmp .ge 25, 3) := by decide +kernel
theorem dX9_areWalks_8 : decode cX9_areWalks 8 = .ok (.aload_n 0, 1) := by decide +kernel
theorem dX9_areWalks_9 : decode cX9_areWalks 9 = .ok (.getfield 7, 3) := by decide +kernel
theorem dX9_areWalks_12 : decode cX9_areWalks 12 = .ok (.sipush 244, 3) := by decide +kernel
theorem dX9_areWalks_15 : decode cX9_areWalks 15 = .ok (.iload_n 1, 1) := by decide +kernel
theorem dX9_areWalks_16 : decode cX9_areWalks 16 = .ok (.iadd, 1) := by decide +kernel
theorem dX9_areWalks_17 : decode cX9_areWalks 17 = .ok (.aload_n 0, 1) := by decide +kernel
theorem dX9_areWalks_18 : decode cX9_areWalks 18 = .ok (.getfield 13, 3) := by decide +kernel
theorem dX9_areWalks_21 : decode cX9_areWalks 21 = .ok (.iload_n 1, 1) := by decide +kernel
theorem dX9_areWalks_22 : decode cX9_areWalks 22 = .ok (.iaload, 1) := by decide +kernel
theorem dX9_areWalks_23 : decode cX9_areWalks 23 = .ok (.iastore, 1) := by decide +kernel
theorem dX9_areWalks_24 : decode cX9_areWalks 24 = .ok (.iinc 1 1, 3) := by decide +kernel
theorem dX9_areWalks_27 : decode cX9_areWalks 27 = .ok (.goto (-25), 3) := by decide +kernel
theorem dX9_areWalks_30 : decode cX9_areWalks 30 = .ok (.iconst 1, 1) := by decide +kernel
theorem dX9_areWalks_31 : decode cX9_areWalks 31 = .ok (.istore_n 1, 1) := by decide +kernel
theorem dX9_areWalks_32 : decode cX9_areWalks 32 = .ok (.iconst 0, 1) := by decide +kernel
theorem dX9_areWalks_33 : decode cX9_areWalks 33 = .ok (.istore_n 2, 1) := by decide +kernel
theorem dX9_areWalks_34 : decode cX9_areWalks 34 = .ok (.iload_n 2, 1) := by decide +kernel
theorem dX9_areWalks_35 : decode cX9_areWalks 35 = .ok (.aload_n 0, 1) := by decide +kernel
theorem dX9_areWalks_36 : decode cX9_areWalks 36 = .ok (.getfield 100, 3) := by decide +kernel
theorem dX9_areWalks_39 : decode cX9_areWalks 39 = .ok (.if_icmp .ge 30, 3) := by decide +kernel
theorem dX9_areWalks_42 : decode cX9_areWalks 42 = .ok (.iload_n 1, 1) := by decide +kernel
theorem dX9_areWalks_43 : decode cX9_areWalks 43 = .ok (.ifCond .eq 18, 3) := by decide +kernel
theorem dX9_areWalks_46 : decode cX9_areWalks 46 = .ok (.aload_n 0, 1) := by decide +kernel
theorem dX9_areWalks_47 : decode cX9_areWalks 47 = .ok (.sipush 244, 3) := by decide +kernel
theorem dX9_areWalks_50 : decode cX9_areWalks 50 = .ok (.iload_n 2, 1) := by decide +kernel
theorem dX9_areWalks_51 : decode cX9_areWalks 51 = .ok (.invokevirtual 136, 3) := by decide +kernel
theorem dX9_areWalks_54 : decode cX9_areWalks 54 = .ok (.ifCond .eq 7, 3) := by decide +kernel
theorem dX9_areWalks_57 : decode cX9_areWalks 57 = .ok (.iconst 1, 1) := by decide +kernel
theorem dX9_areWalks_58 : decode cX9_areWalks 58 = .ok (.goto 4, 3) := by decide +kernel
theorem dX9_areWalks_61 : decode cX9_areWalks 61 = .ok (.iconst 0, 1) := by decide +kernel
theorem dX9_areWalks_62 : decode cX9_areWalks 62 = .ok (.istore_n 1, 1) := by decide +kernel
theorem dX9_areWalks_63 : decode cX9_areWalks 63 = .ok (.iinc 2 1, 3) := by decide +kernel
theorem dX9_areWalks_66 : decode cX9_areWalks 66 = .ok (.goto (-32), 3) := by decide +kernel
theorem dX9_areWalks_69 : decode cX9_areWalks 69 = .ok (.iload_n 1, 1) := by decide +kernel
theorem dX9_areWalks_70 : decode cX9_areWalks 70 = .ok (.ireturn, 1) := by decide +kernel
theorem dX9_text_0 : decode cX9_text 0 = .ok (.aload_n 0, 1) := by decide +kernel
theorem dX9_text_1 : decode cX9_text 1 = .ok (.iconst 0, 1) := by decide +kernel
theorem dX9_text_2 : decode cX9_text 2 = .ok (.putfield 63, 3) := by decide +kernel
theorem dX9_text_5 : decode cX9_text 5 = .ok (.aload_n 0, 1) := by decide +kernel
theorem dX9_text_6 : decode cX9_text 6 = .ok (.iconst 0, 1) := by decide +kernel
theorem dX9_text_7 : decode cX9_text 7 = .ok (.putfield 75, 3) := by decide +kernel
theorem dX9_text_10 : decode cX9_text 10 = .ok (.aload_n 0, 1) := by decide +kernel
theorem dX9_text_11 : decode cX9_text 11 = .ok (.iconst 0, 1) := by decide +kernel
theorem dX9_text_12 : decode cX9_text 12 = .ok (.putfield 100, 3) := by decide +kernel
theorem dX9_text_15 : decode cX9_text 15 = .ok (.aload_n 0, 1) := by decide +kernel
theorem dX9_text_16 : decode cX9_text 16 = .ok (.iconst 0, 1) := by decide +kernel
theorem dX9_text_17 : decode cX9_text 17 = .ok (.putfield 107, 3) := by decide +kernel
theorem dX9_text_20 : decode cX9_text 20 = .ok (.aload_n 0, 1) := by decide +kernel
theorem dX9_text_21 : decode cX9_text 21 = .ok (.iconst 0, 1) := by decide +kernel
theorem dX9_text_22 : decode cX9_text 22 = .ok (.putfield 129, 3) := by decide +kernel
theorem dX9_text_25 : decode cX9_text 25 = .ok (.iconst 0, 1) := by decide +kernel
theorem dX9_text_26 : decode cX9_text 26 = .ok (.istore_n 1, 1) := by decide +kernel
theorem dX9_text_27 : decode cX9_text 27 = .ok (.iconst 0, 1) := by decide +kernel
theorem dX9_text_28 : decode cX9_text 28 = .ok (.istore_n 2, 1) := by decide +kernel
theorem dX9_text_29 : decode cX9_text 29 = .ok (.iload_n 2, 1) := by decide +kernel
theorem dX9_text_30 : decode cX9_text 30 = .ok (.bipush 61, 2) := by decide +kernel
theorem dX9_text_32 : decode cX9_text 32 = .ok (.if_icmp .ge 16, 3) := by decide +kernel
theorem dX9_text_35 : decode cX9_text 35 = .ok (.aload_n 0, 1) := by decide +kernel
theorem dX9_text_36 : decode cX9_text 36 = .ok (.getfield 13, 3) := by decide +kernel
theorem dX9_text_39 : decode cX9_text 39 = .ok (.iload_n 2, 1) := by decide +kernel
theorem dX9_text_40 : decode cX9_text 40 = .ok (.iconst 0, 1) := by decide +kernel
theorem dX9_text_41 : decode cX9_text 41 = .ok (.iastore, 1) := by decide +kernel
theorem dX9_text_42 : decode cX9_text 42 = .ok (.iinc 2 1, 3) := by decide +kernel
theorem dX9_text_45 : decode cX9_text 45 = .ok (.goto (-16), 3) := by decide +kernel
theorem dX9_text_48 : decode cX9_text 48 = .ok (.aload_n 0, 1) := by decide +kernel
theorem dX9_text_49 : decode cX9_text 49 = .ok (.invokevirtual 97, 3) := by decide +kernel
theorem dX9_text_52 : decode cX9_text 52 = .ok (.aload_n 0, 1) := by decide +kernel
theorem dX9_text_53 : decode cX9_text 53 = .ok (.getfield 63, 3) := by decide +kernel
theorem dX9_text_56 : decode cX9_text 56 = .ok (.ifCond .ne 20, 3) := by decide +kernel
theorem dX9_text_59 : decode cX9_text 59 = .ok (.aload_n 0, 1) := by decide +kernel
theorem dX9_text_60 : decode cX9_text 60 = .ok (.getfield 72, 3) := by decide +kernel
theorem dX9_text_63 : decode cX9_text 63 = .ok (.ifCond .eq 13, 3) := by decide +kernel
theorem dX9_text_66 : decode cX9_text 66 = .ok (.aload_n 0, 1) := by decide +kernel
theorem dX9_text_67 : decode cX9_text 67 = .ok (.invokevirtual 140, 3) := by decide +kernel
theorem dX9_text_70 : decode cX9_text 70 = .ok (.iinc 1 1, 3) := by decide +kernel
theorem dX9_text_73 : decode cX9_text 73 = .ok (.goto (-21), 3) := by decide +kernel
theorem dX9_text_76 : decode cX9_text 76 = .ok (.aload_n 0, 1) := by decide +kernel
theorem dX9_text_77 : decode cX9_text 77 = .ok (.getfield 63, 3) := by decide +kernel
theorem dX9_text_80 : decode cX9_text 80 = .ok (.ifCond .ne 16, 3) := by decide +kernel
theorem dX9_text_83 : decode cX9_text 83 = .ok (.aload_n 0, 1) := by decide +kernel
theorem dX9_text_84 : decode cX9_text 84 = .ok (.invokevirtual 143, 3) := by decide +kernel
theorem dX9_text_87 : decode cX9_text 87 = .ok (.ifCond .ne 9, 3) := by decide +kernel
theorem dX9_text_90 : decode cX9_text 90 = .ok (.aload_n 0, 1) := by decide +kernel
theorem dX9_text_91 : decode cX9_text 91 = .ok (.bipush 6, 2) := by decide +kernel
theorem dX9_text_93 : decode cX9_text 93 = .ok (.invokevirtual 93, 3) := by decide +kernel
theorem dX9_text_96 : decode cX9_text 96 = .ok (.aload_n 0, 1) := by decide +kernel
theorem dX9_text_97 : decode cX9_text 97 = .ok (.iconst 0, 1) := by decide +kernel
theorem dX9_text_98 : decode cX9_text 98 = .ok (.putfield 59, 3) := by decide +kernel
theorem dX9_text_101 : decode cX9_text 101 = .ok (.aload_n 0, 1) := by decide +kernel
theorem dX9_text_102 : decode cX9_text 102 = .ok (.aload_n 0, 1) := by decide +kernel
theorem dX9_text_103 : decode cX9_text 103 = .ok (.getfield 63, 3) := by decide +kernel
theorem dX9_text_106 : decode cX9_text 106 = .ok (.putfield 147, 3) := by decide +kernel
theorem dX9_text_109 : decode cX9_text 109 = .ok (.aload_n 0, 1) := by decide +kernel
theorem dX9_text_110 : decode cX9_text 110 = .ok (.getfield 63, 3) := by decide +kernel
theorem dX9_text_113 : decode cX9_text 113 = .ok (.ifCond .le 11, 3) := by decide +kernel
theorem dX9_text_116 : decode cX9_text 116 = .ok (.bipush (-10), 2) := by decide +kernel
theorem dX9_text_118 : decode cX9_text 118 = .ok (.aload_n 0, 1) := by decide +kernel
theorem dX9_text_119 : decode cX9_text 119 = .ok (.getfield 69, 3) := by decide +kernel
theorem dX9_text_122 : decode cX9_text 122 = .ok (.isub, 1) := by decide +kernel
theorem dX9_text_123 : decode cX9_text 123 = .ok (.ireturn, 1) := by decide +kernel
theorem dX9_text_124 : decode cX9_text 124 = .ok (.iconst 0, 1) := by decide +kernel
theorem dX9_text_125 : decode cX9_text 125 = .ok (.istore_n 2, 1) := by decide +kernel
theorem dX9_text_126 : decode cX9_text 126 = .ok (.iload_n 2, 1) := by decide +kernel
theorem dX9_text_127 : decode cX9_text 127 = .ok (.bipush 61, 2) := by decide +kernel
theorem dX9_text_129 : decode cX9_text 129 = .ok (.if_icmp .ge 21, 3) := by decide +kernel
theorem dX9_text_132 : decode cX9_text 132 = .ok (.aload_n 0, 1) := by decide +kernel
theorem dX9_text_133 : decode cX9_text 133 = .ok (.getfield 7, 3) := by decide +kernel
theorem dX9_text_136 : decode cX9_text 136 = .ok (.iload_n 2, 1) := by decide +kernel
theorem dX9_text_137 : decode cX9_text 137 = .ok (.aload_n 0, 1) := by decide +kernel
theorem dX9_text_138 : decode cX9_text 138 = .ok (.getfield 13, 3) := by decide +kernel
theorem dX9_text_141 : decode cX9_text 141 = .ok (.iload_n 2, 1) := by decide +kernel
theorem dX9_text_142 : decode cX9_text 142 = .ok (.iaload, 1) := by decide +kernel
theorem dX9_text_143 : decode cX9_text 143 = .ok (.iastore, 1) := by decide +kernel
theorem dX9_text_144 : decode cX9_text 144 = .ok (.iinc 2 1, 3) := by decide +kernel
theorem dX9_text_147 : decode cX9_text 147 = .ok (.goto (-21), 3) := by decide +kernel
theorem dX9_text_150 : decode cX9_text 150 = .ok (.aload_n 0, 1) := by decide +kernel
theorem dX9_text_151 : decode cX9_text 151 = .ok (.aload_n 0, 1) := by decide +kernel
theorem dX9_text_152 : decode cX9_text 152 = .ok (.getfield 100, 3) := by decide +kernel
theorem dX9_text_155 : decode cX9_text 155 = .ok (.putfield 150, 3) := by decide +kernel
theorem dX9_text_158 : decode cX9_text 158 = .ok (.aload_n 0, 1) := by decide +kernel
theorem dX9_text_159 : decode cX9_text 159 = .ok (.aload_n 0, 1) := by decide +kernel
theorem dX9_text_160 : decode cX9_text 160 = .ok (.getfield 107, 3) := by decide +kernel
theorem dX9_text_163 : decode cX9_text 163 = .ok (.putfield 153, 3) := by decide +kernel
theorem dX9_text_166 : decode cX9_text 166 = .ok (.aload_n 0, 1) := by decide +kernel
theorem dX9_text_167 : decode cX9_text 167 = .ok (.iconst 0, 1) := by decide +kernel
theorem dX9_text_168 : decode cX9_text 168 = .ok (.putfield 156, 3) := by decide +kernel
theorem dX9_text_171 : decode cX9_text 171 = .ok (.aload_n 0, 1) := by decide +kernel
theorem dX9_text_172 : decode cX9_text 172 = .ok (.getfield 40, 3) := by decide +kernel
theorem dX9_text_175 : decode cX9_text 175 = .ok (.iconst 0, 1) := by decide +kernel
theorem dX9_text_176 : decode cX9_text 176 = .ok (.iconst 0, 1) := by decide +kernel
theorem dX9_text_177 : decode cX9_text 177 = .ok (.bastore, 1) := by decide +kernel
theorem dX9_text_178 : decode cX9_text 178 = .ok (.aload_n 0, 1) := by decide +kernel
theorem dX9_text_179 : decode cX9_text 179 = .ok (.getfield 40, 3) := by decide +kernel
theorem dX9_text_182 : decode cX9_text 182 = .ok (.iconst 1, 1) := by decide +kernel
theorem dX9_text_183 : decode cX9_text 183 = .ok (.iconst 0, 1) := by decide +kernel
theorem dX9_text_184 : decode cX9_text 184 = .ok (.bastore, 1) := by decide +kernel
theorem dX9_text_185 : decode cX9_text 185 = .ok (.iload_n 1, 1) := by decide +kernel
theorem dX9_text_186 : decode cX9_text 186 = .ok (.ireturn, 1) := by decide +kernel
theorem dX9_fault_0 : decode cX9_fault 0 = .ok (.aload_n 0, 1) := by decide +kernel
theorem dX9_fault_1 : decode cX9_fault 1 = .ok (.getfield 147, 3) := by decide +kernel
theorem dX9_fault_4 : decode cX9_fault 4 = .ok (.ireturn, 1) := by decide +kernel
theorem dX9_isMan_0 : decode cX9_isMan 0 = .ok (.iload_n 1, 1) := by decide +kernel
theorem dX9_isMan_1 : decode cX9_isMan 1 = .ok (.i2l, 1) := by decide +kernel
theorem dX9_isMan_2 : decode cX9_isMan 2 = .ok (.lconst 0, 1) := by decide +kernel
theorem dX9_isMan_3 : decode cX9_isMan 3 = .ok (.aload_n 0, 1) := by decide +kernel
theorem dX9_isMan_4 : decode cX9_isMan 4 = .ok (.getfield 150, 3) := by decide +kernel
theorem dX9_isMan_7 : decode cX9_isMan 7 = .ok (.iconst 1, 1) := by decide +kernel
theorem dX9_isMan_8 : decode cX9_isMan 8 = .ok (.isub, 1) := by decide +kernel
theorem dX9_isMan_9 : decode cX9_isMan 9 = .ok (.i2l, 1) := by decide +kernel
theorem dX9_isMan_10 : decode cX9_isMan 10 = .ok (.invokestatic 55, 3) := by decide +kernel
theorem dX9_isMan_13 : decode cX9_isMan 13 = .ok (.ireturn, 1) := by decide +kernel
theorem dX9_isReader_0 : decode cX9_isReader 0 = .ok (.iload_n 1, 1) := by decide +kernel
theorem dX9_isReader_1 : decode cX9_isReader 1 = .ok (.i2l, 1) := by decide +kernel
theorem dX9_isReader_2 : decode cX9_isReader 2 = .ok (.lconst 0, 1) := by decide +kernel
theorem dX9_isReader_3 : decode cX9_isReader 3 = .ok (.aload_n 0, 1) := by decide +kernel
theorem dX9_isReader_4 : decode cX9_isReader 4 = .ok (.getfield 153, 3) := by decide +kernel
theorem dX9_isReader_7 : decode cX9_isReader 7 = .ok (.iconst 1, 1) := by decide +kernel
theorem dX9_isReader_8 : decode cX9_isReader 8 = .ok (.isub, 1) := by decide +kernel
theorem dX9_isReader_9 : decode cX9_isReader 9 = .ok (.i2l, 1) := by decide +kernel
theorem dX9_isReader_10 : decode cX9_isReader 10 = .ok (.invokestatic 55, 3) := by decide +kernel
theorem dX9_isReader_13 : decode cX9_isReader 13 = .ok (.ireturn, 1) := by decide +kernel
theorem dX9_isCorner_0 : decode cX9_isCorner 0 = .ok (.iload_n 0, 1) := by decide +kernel
theorem dX9_isCorner_1 : decode cX9_isCorner 1 = .ok (.i2l, 1) := by decide +kernel
theorem dX9_isCorner_2 : decode cX9_isCorner 2 = .ok (.lconst 0, 1) := by decide +kernel
theorem dX9_isCorner_3 : decode cX9_isCorner 3 = .ok (.ldc2_w 159, 3) := by decide +kernel
theorem dX9_isCorner_6 : decode cX9_isCorner 6 = .ok (.invokestatic 55, 3) := by decide +kernel
theorem dX9_isCorner_9 : decode cX9_isCorner 9 = .ok (.ireturn, 1) := by decide +kernel
theorem dX9_isMinute_0 : decode cX9_isMinute 0 = .ok (.iload_n 0, 1) := by decide +kernel
theorem dX9_isMinute_1 : decode cX9_isMinute 1 = .ok (.i2l, 1) := by decide +kernel
theorem dX9_isMinute_2 : decode cX9_isMinute 2 = .ok (.lconst 0, 1) := by decide +kernel
theorem dX9_isMinute_3 : decode cX9_isMinute 3 = .ok (.ldc2_w 161, 3) := by decide +kernel
theorem dX9_isMinute_6 : decode cX9_isMinute 6 = .ok (.invokestatic 55, 3) := by decide +kernel
theorem dX9_isMinute_9 : decode cX9_isMinute 9 = .ok (.ireturn, 1) := by decide +kernel
theorem dX9_isNews_0 : decode cX9_isNews 0 = .ok (.iload_n 0, 1) := by decide +kernel
theorem dX9_isNews_1 : decode cX9_isNews 1 = .ok (.i2l, 1) := by decide +kernel
theorem dX9_isNews_2 : decode cX9_isNews 2 = .ok (.lconst 0, 1) := by decide +kernel
theorem dX9_isNews_3 : decode cX9_isNews 3 = .ok (.ldc2_w 163, 3) := by decide +kernel
theorem dX9_isNews_6 : decode cX9_isNews 6 = .ok (.invokestatic 55, 3) := by decide +kernel
theorem dX9_isNews_9 : decode cX9_isNews 9 = .ok (.ireturn, 1) := by decide +kernel
theorem dX9_isStreetOn_0 : decode cX9_isStreetOn 0 = .ok (.iconst 0, 1) := by decide +kernel
theorem dX9_isStreetOn_1 : decode cX9_isStreetOn 1 = .ok (.istore 4, 2) := by decide +kernel
theorem dX9_isStreetOn_3 : decode cX9_isStreetOn 3 = .ok (.iconst 0, 1) := by decide +kernel
theorem dX9_isStreetOn_4 : decode cX9_isStreetOn 4 = .ok (.istore 5, 2) := by decide +kernel
theorem dX9_isStreetOn_6 : decode cX9_isStreetOn 6 = .ok (.iload 5, 2) := by decide +kernel
theorem dX9_isStreetOn_8 : decode cX9_isStreetOn 8 = .ok (.aload_n 0, 1) := by decide +kernel
theorem dX9_isStreetOn_9 : decode cX9_isStreetOn 9 = .ok (.getfield 7, 3) := by decide +kernel
theorem dX9_isStreetOn_12 : decode cX9_isStreetOn 12 = .ok (.iload_n 1, 1) := by decide +kernel
theorem dX9_isStreetOn_13 : decode cX9_isStreetOn 13 = .ok (.bipush 42, 2) := by decide +kernel
theorem dX9_isStreetOn_15 : decode cX9_isStreetOn 15 = .ok (.iadd, 1) := by decide +kernel
theorem dX9_isStreetOn_16 : decode cX9_isStreetOn 16 = .ok (.iaload, 1) := by decide +kernel
theorem dX9_isStreetOn_17 : decode cX9_isStreetOn 17 = .ok (.if_icmp .ge 73, 3) := by decide +kernel
theorem dX9_isStreetOn_20 : decode cX9_isStreetOn 20 = .ok (.aload_n 0, 1) := by decide +kernel
theorem dX9_isStreetOn_21 : decode cX9_isStreetOn 21 = .ok (.getfield 7, 3) := by decide +kernel
theorem dX9_isStreetOn_24 : decode cX9_isStreetOn 24 = .ok (.iload_n 1, 1) := by decide +kernel
theorem dX9_isStreetOn_25 : decode cX9_isStreetOn 25 = .ok (.bipush 43, 2) := by decide +kernel
theorem dX9_isStreetOn_27 : decode cX9_isStreetOn 27 = .ok (.iadd, 1) := by decide +kernel
theorem dX9_isStreetOn_28 : decode cX9_isStreetOn 28 = .ok (.iload 5, 2) := by decide +kernel
theorem dX9_isStreetOn_30 : decode cX9_isStreetOn 30 = .ok (.iadd, 1) := by decide +kernel
theorem dX9_isStreetOn_31 : decode cX9_isStreetOn 31 = .ok (.iaload, 1) := by decide +kernel
theorem dX9_isStreetOn_32 : decode cX9_isStreetOn 32 = .ok (.istore 6, 2) := by decide +kernel
theorem dX9_isStreetOn_34 : decode cX9_isStreetOn 34 = .ok (.aload_n 0, 1) := by decide +kernel
theorem dX9_isStreetOn_35 : decode cX9_isStreetOn 35 = .ok (.getfield 7, 3) := by decide +kernel
theorem dX9_isStreetOn_38 : decode cX9_isStreetOn 38 = .ok (.iload_n 1, 1) := by decide +kernel
theorem dX9_isStreetOn_39 : decode cX9_isStreetOn 39 = .ok (.bipush 52, 2) := by decide +kernel
theorem dX9_isStreetOn_41 : decode cX9_isStreetOn 41 = .ok (.iadd, 1) := by decide +kernel
theorem dX9_isStreetOn_42 : decode cX9_isStreetOn 42 = .ok (.iload 5, 2) := by decide +kernel
theorem dX9_isStreetOn_44 : decode cX9_isStreetOn 44 = .ok (.iadd, 1) := by decide +kernel
theorem dX9_isStreetOn_45 : decode cX9_isStreetOn 45 = .ok (.iaload, 1) := by decide +kernel
theorem dX9_isStreetOn_46 : decode cX9_isStreetOn 46 = .ok (.istore 7, 2) := by decide +kernel
theorem dX9_isStreetOn_48 : decode cX9_isStreetOn 48 = .ok (.iload 4, 2) := by decide +kernel
theorem dX9_isStreetOn_50 : decode cX9_isStreetOn 50 = .ok (.ifCond .ne 27, 3) := by decide +kernel
theorem dX9_isStreetOn_53 : decode cX9_isStreetOn 53 = .ok (.iload 6, 2) := by decide +kernel
theorem dX9_isStreetOn_55 : decode cX9_isStreetOn 55 = .ok (.iload_n 2, 1) := by decide +kernel
theorem dX9_isStreetOn_56 : decode cX9_isStreetOn 56 = .ok (.if_icmp .ne 9, 3) := by decide +kernel
theorem dX9_isStreetOn_59 : decode cX9_isStreetOn 59 = .ok (.iload 7, 2) := by decide +kernel
theorem dX9_isStreetOn_61 : decode cX9_isStreetOn 61 = .ok (.iload_n 3, 1) := by decide +kernel
theorem dX9_isStreetOn_62 : decode cX9_isStreetOn 62 = .ok (.if_icmp .eq 15, 3) := by decide +kernel
theorem dX9_isStreetOn_65 : decode cX9_isStreetOn 65 = .ok (.iload 6, 2) := by decide +kernel
end
section
theorem dX9_isStreetOn_67 : decode cX9_isStreetOn 67 = .ok (.iload_n 3, 1) := by decide +kernel
theorem dX9_isStreetOn_68 : decode cX9_isStreetOn 68 = .ok (.if_icmp .ne 13, 3) := by decide +kernel
theorem dX9_isStreetOn_71 : decode cX9_isStreetOn 71 = .ok (.iload 7, 2) := by decide +kernel
theorem dX9_isStreetOn_73 : decode cX9_isStreetOn 73 = .ok (.iload_n 2, 1) := by decide +kernel
theorem dX9_isStreetOn_74 : decode cX9_isStreetOn 74 = .ok (.if_icmp .ne 7, 3) := by decide +kernel
theorem dX9_isStreetOn_77 : decode cX9_isStreetOn 77 = .ok (.iconst 1, 1) := by decide +kernel
theorem dX9_isStreetOn_78 : decode cX9_isStreetOn 78 = .ok (.goto 4, 3) := by decide +kernel
theorem dX9_isStreetOn_81 : decode cX9_isStreetOn 81 = .ok (.iconst 0, 1) := by decide +kernel
theorem dX9_isStreetOn_82 : decode cX9_isStreetOn 82 = .ok (.istore 4, 2) := by decide +kernel
theorem dX9_isStreetOn_84 : decode cX9_isStreetOn 84 = .ok (.iinc 5 1, 3) := by decide +kernel
theorem dX9_isStreetOn_87 : decode cX9_isStreetOn 87 = .ok (.goto (-81), 3) := by decide +kernel
theorem dX9_isStreetOn_90 : decode cX9_isStreetOn 90 = .ok (.iload 4, 2) := by decide +kernel
theorem dX9_isStreetOn_92 : decode cX9_isStreetOn 92 = .ok (.ireturn, 1) := by decide +kernel
theorem dX9_isWalkOn_0 : decode cX9_isWalkOn 0 = .ok (.aload_n 0, 1) := by decide +kernel
theorem dX9_isWalkOn_1 : decode cX9_isWalkOn 1 = .ok (.getfield 7, 3) := by decide +kernel
theorem dX9_isWalkOn_4 : decode cX9_isWalkOn 4 = .ok (.iload_n 1, 1) := by decide +kernel
theorem dX9_isWalkOn_5 : decode cX9_isWalkOn 5 = .ok (.bipush 8, 2) := by decide +kernel
theorem dX9_isWalkOn_7 : decode cX9_isWalkOn 7 = .ok (.iadd, 1) := by decide +kernel
theorem dX9_isWalkOn_8 : decode cX9_isWalkOn 8 = .ok (.iload_n 2, 1) := by decide +kernel
theorem dX9_isWalkOn_9 : decode cX9_isWalkOn 9 = .ok (.iadd, 1) := by decide +kernel
theorem dX9_isWalkOn_10 : decode cX9_isWalkOn 10 = .ok (.iaload, 1) := by decide +kernel
theorem dX9_isWalkOn_11 : decode cX9_isWalkOn 11 = .ok (.istore_n 3, 1) := by decide +kernel
theorem dX9_isWalkOn_12 : decode cX9_isWalkOn 12 = .ok (.iconst 1, 1) := by decide +kernel
theorem dX9_isWalkOn_13 : decode cX9_isWalkOn 13 = .ok (.istore 4, 2) := by decide +kernel
theorem dX9_isWalkOn_15 : decode cX9_isWalkOn 15 = .ok (.iconst 0, 1) := by decide +kernel
theorem dX9_isWalkOn_16 : decode cX9_isWalkOn 16 = .ok (.istore 5, 2) := by decide +kernel
theorem dX9_isWalkOn_18 : decode cX9_isWalkOn 18 = .ok (.iload 5, 2) := by decide +kernel
theorem dX9_isWalkOn_20 : decode cX9_isWalkOn 20 = .ok (.iload_n 3, 1) := by decide +kernel
theorem dX9_isWalkOn_21 : decode cX9_isWalkOn 21 = .ok (.if_icmp .ge 70, 3) := by decide +kernel
theorem dX9_isWalkOn_24 : decode cX9_isWalkOn 24 = .ok (.iload_n 3, 1) := by decide +kernel
theorem dX9_isWalkOn_25 : decode cX9_isWalkOn 25 = .ok (.iconst 1, 1) := by decide +kernel
theorem dX9_isWalkOn_26 : decode cX9_isWalkOn 26 = .ok (.if_icmp .le 65, 3) := by decide +kernel
theorem dX9_isWalkOn_29 : decode cX9_isWalkOn 29 = .ok (.iload 4, 2) := by decide +kernel
theorem dX9_isWalkOn_31 : decode cX9_isWalkOn 31 = .ok (.ifCond .eq 51, 3) := by decide +kernel
theorem dX9_isWalkOn_34 : decode cX9_isWalkOn 34 = .ok (.aload_n 0, 1) := by decide +kernel
theorem dX9_isWalkOn_35 : decode cX9_isWalkOn 35 = .ok (.iload_n 1, 1) := by decide +kernel
theorem dX9_isWalkOn_36 : decode cX9_isWalkOn 36 = .ok (.aload_n 0, 1) := by decide +kernel
theorem dX9_isWalkOn_37 : decode cX9_isWalkOn 37 = .ok (.getfield 7, 3) := by decide +kernel
theorem dX9_isWalkOn_40 : decode cX9_isWalkOn 40 = .ok (.iload_n 1, 1) := by decide +kernel
theorem dX9_isWalkOn_41 : decode cX9_isWalkOn 41 = .ok (.bipush 12, 2) := by decide +kernel
theorem dX9_isWalkOn_43 : decode cX9_isWalkOn 43 = .ok (.iadd, 1) := by decide +kernel
theorem dX9_isWalkOn_44 : decode cX9_isWalkOn 44 = .ok (.iconst 4, 1) := by decide +kernel
theorem dX9_isWalkOn_45 : decode cX9_isWalkOn 45 = .ok (.iload_n 2, 1) := by decide +kernel
theorem dX9_isWalkOn_46 : decode cX9_isWalkOn 46 = .ok (.imul, 1) := by decide +kernel
theorem dX9_isWalkOn_47 : decode cX9_isWalkOn 47 = .ok (.iadd, 1) := by decide +kernel
theorem dX9_isWalkOn_48 : decode cX9_isWalkOn 48 = .ok (.iload 5, 2) := by decide +kernel
theorem dX9_isWalkOn_50 : decode cX9_isWalkOn 50 = .ok (.iadd, 1) := by decide +kernel
theorem dX9_isWalkOn_51 : decode cX9_isWalkOn 51 = .ok (.iaload, 1) := by decide +kernel
theorem dX9_isWalkOn_52 : decode cX9_isWalkOn 52 = .ok (.aload_n 0, 1) := by decide +kernel
theorem dX9_isWalkOn_53 : decode cX9_isWalkOn 53 = .ok (.getfield 7, 3) := by decide +kernel
theorem dX9_isWalkOn_56 : decode cX9_isWalkOn 56 = .ok (.iload_n 1, 1) := by decide +kernel
theorem dX9_isWalkOn_57 : decode cX9_isWalkOn 57 = .ok (.bipush 12, 2) := by decide +kernel
theorem dX9_isWalkOn_59 : decode cX9_isWalkOn 59 = .ok (.iadd, 1) := by decide +kernel
theorem dX9_isWalkOn_60 : decode cX9_isWalkOn 60 = .ok (.iconst 4, 1) := by decide +kernel
theorem dX9_isWalkOn_61 : decode cX9_isWalkOn 61 = .ok (.iload_n 2, 1) := by decide +kernel
theorem dX9_isWalkOn_62 : decode cX9_isWalkOn 62 = .ok (.imul, 1) := by decide +kernel
theorem dX9_isWalkOn_63 : decode cX9_isWalkOn 63 = .ok (.iadd, 1) := by decide +kernel
theorem dX9_isWalkOn_64 : decode cX9_isWalkOn 64 = .ok (.iload 5, 2) := by decide +kernel
theorem dX9_isWalkOn_66 : decode cX9_isWalkOn 66 = .ok (.iconst 1, 1) := by decide +kernel
theorem dX9_isWalkOn_67 : decode cX9_isWalkOn 67 = .ok (.iadd, 1) := by decide +kernel
theorem dX9_isWalkOn_68 : decode cX9_isWalkOn 68 = .ok (.iload_n 3, 1) := by decide +kernel
theorem dX9_isWalkOn_69 : decode cX9_isWalkOn 69 = .ok (.irem, 1) := by decide +kernel
theorem dX9_isWalkOn_70 : decode cX9_isWalkOn 70 = .ok (.iadd, 1) := by decide +kernel
theorem dX9_isWalkOn_71 : decode cX9_isWalkOn 71 = .ok (.iaload, 1) := by decide +kernel
theorem dX9_isWalkOn_72 : decode cX9_isWalkOn 72 = .ok (.invokevirtual 165, 3) := by decide +kernel
theorem dX9_isWalkOn_75 : decode cX9_isWalkOn 75 = .ok (.ifCond .eq 7, 3) := by decide +kernel
theorem dX9_isWalkOn_78 : decode cX9_isWalkOn 78 = .ok (.iconst 1, 1) := by decide +kernel
theorem dX9_isWalkOn_79 : decode cX9_isWalkOn 79 = .ok (.goto 4, 3) := by decide +kernel
theorem dX9_isWalkOn_82 : decode cX9_isWalkOn 82 = .ok (.iconst 0, 1) := by decide +kernel
theorem dX9_isWalkOn_83 : decode cX9_isWalkOn 83 = .ok (.istore 4, 2) := by decide +kernel
theorem dX9_isWalkOn_85 : decode cX9_isWalkOn 85 = .ok (.iinc 5 1, 3) := by decide +kernel
theorem dX9_isWalkOn_88 : decode cX9_isWalkOn 88 = .ok (.goto (-70), 3) := by decide +kernel
theorem dX9_isWalkOn_91 : decode cX9_isWalkOn 91 = .ok (.iload 4, 2) := by decide +kernel
theorem dX9_isWalkOn_93 : decode cX9_isWalkOn 93 = .ok (.ireturn, 1) := by decide +kernel
theorem dX9_paceOn_0 : decode cX9_paceOn 0 = .ok (.aload_n 0, 1) := by decide +kernel
theorem dX9_paceOn_1 : decode cX9_paceOn 1 = .ok (.getfield 7, 3) := by decide +kernel
theorem dX9_paceOn_4 : decode cX9_paceOn 4 = .ok (.iload_n 1, 1) := by decide +kernel
theorem dX9_paceOn_5 : decode cX9_paceOn 5 = .ok (.iload_n 2, 1) := by decide +kernel
theorem dX9_paceOn_6 : decode cX9_paceOn 6 = .ok (.iadd, 1) := by decide +kernel
theorem dX9_paceOn_7 : decode cX9_paceOn 7 = .ok (.iaload, 1) := by decide +kernel
theorem dX9_paceOn_8 : decode cX9_paceOn 8 = .ok (.istore_n 3, 1) := by decide +kernel
theorem dX9_paceOn_9 : decode cX9_paceOn 9 = .ok (.iload_n 3, 1) := by decide +kernel
theorem dX9_paceOn_10 : decode cX9_paceOn 10 = .ok (.ifCond .ne 7, 3) := by decide +kernel
theorem dX9_paceOn_13 : decode cX9_paceOn 13 = .ok (.iconst 2, 1) := by decide +kernel
theorem dX9_paceOn_14 : decode cX9_paceOn 14 = .ok (.goto 23, 3) := by decide +kernel
theorem dX9_paceOn_17 : decode cX9_paceOn 17 = .ok (.iload_n 3, 1) := by decide +kernel
theorem dX9_paceOn_18 : decode cX9_paceOn 18 = .ok (.iconst 1, 1) := by decide +kernel
theorem dX9_paceOn_19 : decode cX9_paceOn 19 = .ok (.if_icmp .ne 7, 3) := by decide +kernel
theorem dX9_paceOn_22 : decode cX9_paceOn 22 = .ok (.iconst 1, 1) := by decide +kernel
theorem dX9_paceOn_23 : decode cX9_paceOn 23 = .ok (.goto 14, 3) := by decide +kernel
theorem dX9_paceOn_26 : decode cX9_paceOn 26 = .ok (.iload_n 3, 1) := by decide +kernel
theorem dX9_paceOn_27 : decode cX9_paceOn 27 = .ok (.iconst 2, 1) := by decide +kernel
theorem dX9_paceOn_28 : decode cX9_paceOn 28 = .ok (.if_icmp .ne 7, 3) := by decide +kernel
theorem dX9_paceOn_31 : decode cX9_paceOn 31 = .ok (.iconst 3, 1) := by decide +kernel
theorem dX9_paceOn_32 : decode cX9_paceOn 32 = .ok (.goto 5, 3) := by decide +kernel
theorem dX9_paceOn_35 : decode cX9_paceOn 35 = .ok (.bipush 6, 2) := by decide +kernel
theorem dX9_paceOn_37 : decode cX9_paceOn 37 = .ok (.ireturn, 1) := by decide +kernel
theorem dX9_atOn_0 : decode cX9_atOn 0 = .ok (.aload_n 0, 1) := by decide +kernel
theorem dX9_atOn_1 : decode cX9_atOn 1 = .ok (.iload_n 1, 1) := by decide +kernel
theorem dX9_atOn_2 : decode cX9_atOn 2 = .ok (.iload_n 2, 1) := by decide +kernel
theorem dX9_atOn_3 : decode cX9_atOn 3 = .ok (.invokevirtual 169, 3) := by decide +kernel
theorem dX9_atOn_6 : decode cX9_atOn 6 = .ok (.istore 5, 2) := by decide +kernel
theorem dX9_atOn_8 : decode cX9_atOn 8 = .ok (.aload_n 0, 1) := by decide +kernel
theorem dX9_atOn_9 : decode cX9_atOn 9 = .ok (.getfield 7, 3) := by decide +kernel
theorem dX9_atOn_12 : decode cX9_atOn 12 = .ok (.iload_n 1, 1) := by decide +kernel
theorem dX9_atOn_13 : decode cX9_atOn 13 = .ok (.bipush 8, 2) := by decide +kernel
theorem dX9_atOn_15 : decode cX9_atOn 15 = .ok (.iadd, 1) := by decide +kernel
theorem dX9_atOn_16 : decode cX9_atOn 16 = .ok (.iload_n 2, 1) := by decide +kernel
theorem dX9_atOn_17 : decode cX9_atOn 17 = .ok (.iadd, 1) := by decide +kernel
theorem dX9_atOn_18 : decode cX9_atOn 18 = .ok (.iaload, 1) := by decide +kernel
theorem dX9_atOn_19 : decode cX9_atOn 19 = .ok (.istore 6, 2) := by decide +kernel
theorem dX9_atOn_21 : decode cX9_atOn 21 = .ok (.aload_n 0, 1) := by decide +kernel
theorem dX9_atOn_22 : decode cX9_atOn 22 = .ok (.getfield 172, 3) := by decide +kernel
theorem dX9_atOn_25 : decode cX9_atOn 25 = .ok (.iload_n 2, 1) := by decide +kernel
theorem dX9_atOn_26 : decode cX9_atOn 26 = .ok (.ishr, 1) := by decide +kernel
theorem dX9_atOn_27 : decode cX9_atOn 27 = .ok (.iconst 1, 1) := by decide +kernel
theorem dX9_atOn_28 : decode cX9_atOn 28 = .ok (.iand, 1) := by decide +kernel
theorem dX9_atOn_29 : decode cX9_atOn 29 = .ok (.iconst 1, 1) := by decide +kernel
theorem dX9_atOn_30 : decode cX9_atOn 30 = .ok (.if_icmp .eq 25, 3) := by decide +kernel
theorem dX9_atOn_33 : decode cX9_atOn 33 = .ok (.iload_n 3, 1) := by decide +kernel
theorem dX9_atOn_34 : decode cX9_atOn 34 = .ok (.iload 5, 2) := by decide +kernel
theorem dX9_atOn_36 : decode cX9_atOn 36 = .ok (.irem, 1) := by decide +kernel
theorem dX9_atOn_37 : decode cX9_atOn 37 = .ok (.ifCond .ne 18, 3) := by decide +kernel
theorem dX9_atOn_40 : decode cX9_atOn 40 = .ok (.iload 4, 2) := by decide +kernel
theorem dX9_atOn_42 : decode cX9_atOn 42 = .ok (.ifCond .eq 16, 3) := by decide +kernel
theorem dX9_atOn_45 : decode cX9_atOn 45 = .ok (.iload_n 3, 1) := by decide +kernel
theorem dX9_atOn_46 : decode cX9_atOn 46 = .ok (.ifCond .eq 9, 3) := by decide +kernel
theorem dX9_atOn_49 : decode cX9_atOn 49 = .ok (.iload 6, 2) := by decide +kernel
theorem dX9_atOn_51 : decode cX9_atOn 51 = .ok (.iconst 1, 1) := by decide +kernel
theorem dX9_atOn_52 : decode cX9_atOn 52 = .ok (.if_icmp .ne 6, 3) := by decide +kernel
theorem dX9_atOn_55 : decode cX9_atOn 55 = .ok (.bipush (-4), 2) := by decide +kernel
theorem dX9_atOn_57 : decode cX9_atOn 57 = .ok (.ireturn, 1) := by decide +kernel
theorem dX9_atOn_58 : decode cX9_atOn 58 = .ok (.aload_n 0, 1) := by decide +kernel
theorem dX9_atOn_59 : decode cX9_atOn 59 = .ok (.getfield 7, 3) := by decide +kernel
theorem dX9_atOn_62 : decode cX9_atOn 62 = .ok (.iload_n 1, 1) := by decide +kernel
theorem dX9_atOn_63 : decode cX9_atOn 63 = .ok (.bipush 12, 2) := by decide +kernel
theorem dX9_atOn_65 : decode cX9_atOn 65 = .ok (.iadd, 1) := by decide +kernel
theorem dX9_atOn_66 : decode cX9_atOn 66 = .ok (.iconst 4, 1) := by decide +kernel
theorem dX9_atOn_67 : decode cX9_atOn 67 = .ok (.iload_n 2, 1) := by decide +kernel
theorem dX9_atOn_68 : decode cX9_atOn 68 = .ok (.imul, 1) := by decide +kernel
theorem dX9_atOn_69 : decode cX9_atOn 69 = .ok (.iadd, 1) := by decide +kernel
theorem dX9_atOn_70 : decode cX9_atOn 70 = .ok (.iload_n 3, 1) := by decide +kernel
theorem dX9_atOn_71 : decode cX9_atOn 71 = .ok (.iload 5, 2) := by decide +kernel
theorem dX9_atOn_73 : decode cX9_atOn 73 = .ok (.idiv, 1) := by decide +kernel
theorem dX9_atOn_74 : decode cX9_atOn 74 = .ok (.iload 4, 2) := by decide +kernel
theorem dX9_atOn_76 : decode cX9_atOn 76 = .ok (.ifCond .eq 7, 3) := by decide +kernel
theorem dX9_atOn_79 : decode cX9_atOn 79 = .ok (.iconst 1, 1) := by decide +kernel
theorem dX9_atOn_80 : decode cX9_atOn 80 = .ok (.goto 4, 3) := by decide +kernel
theorem dX9_atOn_83 : decode cX9_atOn 83 = .ok (.iconst 0, 1) := by decide +kernel
theorem dX9_atOn_84 : decode cX9_atOn 84 = .ok (.isub, 1) := by decide +kernel
theorem dX9_atOn_85 : decode cX9_atOn 85 = .ok (.iload 6, 2) := by decide +kernel
theorem dX9_atOn_87 : decode cX9_atOn 87 = .ok (.irem, 1) := by decide +kernel
theorem dX9_atOn_88 : decode cX9_atOn 88 = .ok (.iadd, 1) := by decide +kernel
theorem dX9_atOn_89 : decode cX9_atOn 89 = .ok (.iaload, 1) := by decide +kernel
theorem dX9_atOn_90 : decode cX9_atOn 90 = .ok (.ireturn, 1) := by decide +kernel
theorem dX9_isWetOn_0 : decode cX9_isWetOn 0 = .ok (.iload_n 2, 1) := by decide +kernel
theorem dX9_isWetOn_1 : decode cX9_isWetOn 1 = .ok (.aload_n 0, 1) := by decide +kernel
theorem dX9_isWetOn_2 : decode cX9_isWetOn 2 = .ok (.getfield 7, 3) := by decide +kernel
theorem dX9_isWetOn_5 : decode cX9_isWetOn 5 = .ok (.iload_n 1, 1) := by decide +kernel
theorem dX9_isWetOn_6 : decode cX9_isWetOn 6 = .ok (.bipush 40, 2) := by decide +kernel
theorem dX9_isWetOn_8 : decode cX9_isWetOn 8 = .ok (.iadd, 1) := by decide +kernel
theorem dX9_isWetOn_9 : decode cX9_isWetOn 9 = .ok (.iaload, 1) := by decide +kernel
theorem dX9_isWetOn_10 : decode cX9_isWetOn 10 = .ok (.if_icmp .lt 30, 3) := by decide +kernel
theorem dX9_isWetOn_13 : decode cX9_isWetOn 13 = .ok (.iload_n 2, 1) := by decide +kernel
theorem dX9_isWetOn_14 : decode cX9_isWetOn 14 = .ok (.aload_n 0, 1) := by decide +kernel
theorem dX9_isWetOn_15 : decode cX9_isWetOn 15 = .ok (.getfield 7, 3) := by decide +kernel
theorem dX9_isWetOn_18 : decode cX9_isWetOn 18 = .ok (.iload_n 1, 1) := by decide +kernel
theorem dX9_isWetOn_19 : decode cX9_isWetOn 19 = .ok (.bipush 40, 2) := by decide +kernel
theorem dX9_isWetOn_21 : decode cX9_isWetOn 21 = .ok (.iadd, 1) := by decide +kernel
theorem dX9_isWetOn_22 : decode cX9_isWetOn 22 = .ok (.iaload, 1) := by decide +kernel
theorem dX9_isWetOn_23 : decode cX9_isWetOn 23 = .ok (.aload_n 0, 1) := by decide +kernel
theorem dX9_isWetOn_24 : decode cX9_isWetOn 24 = .ok (.getfield 7, 3) := by decide +kernel
theorem dX9_isWetOn_27 : decode cX9_isWetOn 27 = .ok (.iload_n 1, 1) := by decide +kernel
theorem dX9_isWetOn_28 : decode cX9_isWetOn 28 = .ok (.bipush 41, 2) := by decide +kernel
theorem dX9_isWetOn_30 : decode cX9_isWetOn 30 = .ok (.iadd, 1) := by decide +kernel
theorem dX9_isWetOn_31 : decode cX9_isWetOn 31 = .ok (.iaload, 1) := by decide +kernel
theorem dX9_isWetOn_32 : decode cX9_isWetOn 32 = .ok (.iadd, 1) := by decide +kernel
theorem dX9_isWetOn_33 : decode cX9_isWetOn 33 = .ok (.if_icmp .ge 7, 3) := by decide +kernel
theorem dX9_isWetOn_36 : decode cX9_isWetOn 36 = .ok (.iconst 1, 1) := by decide +kernel
theorem dX9_isWetOn_37 : decode cX9_isWetOn 37 = .ok (.goto 4, 3) := by decide +kernel
theorem dX9_isWetOn_40 : decode cX9_isWetOn 40 = .ok (.iconst 0, 1) := by decide +kernel
theorem dX9_isWetOn_41 : decode cX9_isWetOn 41 = .ok (.ireturn, 1) := by decide +kernel
theorem dX9_readsOn_0 : decode cX9_readsOn 0 = .ok (.aload_n 0, 1) := by decide +kernel
theorem dX9_readsOn_1 : decode cX9_readsOn 1 = .ok (.iload_n 1, 1) := by decide +kernel
theorem dX9_readsOn_2 : decode cX9_readsOn 2 = .ok (.iload 4, 2) := by decide +kernel
theorem dX9_readsOn_4 : decode cX9_readsOn 4 = .ok (.invokevirtual 175, 3) := by decide +kernel
theorem dX9_readsOn_7 : decode cX9_readsOn 7 = .ok (.ifCond .ne 64, 3) := by decide +kernel
theorem dX9_readsOn_10 : decode cX9_readsOn 10 = .ok (.iload 4, 2) := by decide +kernel
theorem dX9_readsOn_12 : decode cX9_readsOn 12 = .ok (.i2l, 1) := by decide +kernel
theorem dX9_readsOn_13 : decode cX9_readsOn 13 = .ok (.aload_n 0, 1) := by decide +kernel
theorem dX9_readsOn_14 : decode cX9_readsOn 14 = .ok (.getfield 7, 3) := by decide +kernel
theorem dX9_readsOn_17 : decode cX9_readsOn 17 = .ok (.iload_n 1, 1) := by decide +kernel
theorem dX9_readsOn_18 : decode cX9_readsOn 18 = .ok (.bipush 32, 2) := by decide +kernel
theorem dX9_readsOn_20 : decode cX9_readsOn 20 = .ok (.iadd, 1) := by decide +kernel
theorem dX9_readsOn_21 : decode cX9_readsOn 21 = .ok (.iload_n 2, 1) := by decide +kernel
theorem dX9_readsOn_22 : decode cX9_readsOn 22 = .ok (.iadd, 1) := by decide +kernel
theorem dX9_readsOn_23 : decode cX9_readsOn 23 = .ok (.iaload, 1) := by decide +kernel
theorem dX9_readsOn_24 : decode cX9_readsOn 24 = .ok (.i2l, 1) := by decide +kernel
theorem dX9_readsOn_25 : decode cX9_readsOn 25 = .ok (.aload_n 0, 1) := by decide +kernel
theorem dX9_readsOn_26 : decode cX9_readsOn 26 = .ok (.getfield 7, 3) := by decide +kernel
theorem dX9_readsOn_29 : decode cX9_readsOn 29 = .ok (.iload_n 1, 1) := by decide +kernel
theorem dX9_readsOn_30 : decode cX9_readsOn 30 = .ok (.bipush 36, 2) := by decide +kernel
theorem dX9_readsOn_32 : decode cX9_readsOn 32 = .ok (.iadd, 1) := by decide +kernel
theorem dX9_readsOn_33 : decode cX9_readsOn 33 = .ok (.iload_n 2, 1) := by decide +kernel
theorem dX9_readsOn_34 : decode cX9_readsOn 34 = .ok (.iadd, 1) := by decide +kernel
theorem dX9_readsOn_35 : decode cX9_readsOn 35 = .ok (.iaload, 1) := by decide +kernel
theorem dX9_readsOn_36 : decode cX9_readsOn 36 = .ok (.i2l, 1) := by decide +kernel
theorem dX9_readsOn_37 : decode cX9_readsOn 37 = .ok (.invokestatic 55, 3) := by decide +kernel
theorem dX9_readsOn_40 : decode cX9_readsOn 40 = .ok (.ifCond .eq 31, 3) := by decide +kernel
theorem dX9_readsOn_43 : decode cX9_readsOn 43 = .ok (.aload_n 0, 1) := by decide +kernel
theorem dX9_readsOn_44 : decode cX9_readsOn 44 = .ok (.iload_n 1, 1) := by decide +kernel
theorem dX9_readsOn_45 : decode cX9_readsOn 45 = .ok (.iload_n 3, 1) := by decide +kernel
theorem dX9_readsOn_46 : decode cX9_readsOn 46 = .ok (.iload 4, 2) := by decide +kernel
theorem dX9_readsOn_48 : decode cX9_readsOn 48 = .ok (.iload 5, 2) := by decide +kernel
theorem dX9_readsOn_50 : decode cX9_readsOn 50 = .ok (.invokevirtual 178, 3) := by decide +kernel
theorem dX9_readsOn_53 : decode cX9_readsOn 53 = .ok (.aload_n 0, 1) := by decide +kernel
theorem dX9_readsOn_54 : decode cX9_readsOn 54 = .ok (.getfield 7, 3) := by decide +kernel
theorem dX9_readsOn_57 : decode cX9_readsOn 57 = .ok (.iload_n 1, 1) := by decide +kernel
theorem dX9_readsOn_58 : decode cX9_readsOn 58 = .ok (.bipush 28, 2) := by decide +kernel
theorem dX9_readsOn_60 : decode cX9_readsOn 60 = .ok (.iadd, 1) := by decide +kernel
theorem dX9_readsOn_61 : decode cX9_readsOn 61 = .ok (.iload_n 2, 1) := by decide +kernel
theorem dX9_readsOn_62 : decode cX9_readsOn 62 = .ok (.iadd, 1) := by decide +kernel
theorem dX9_readsOn_63 : decode cX9_readsOn 63 = .ok (.iaload, 1) := by decide +kernel
theorem dX9_readsOn_64 : decode cX9_readsOn 64 = .ok (.if_icmp .ne 7, 3) := by decide +kernel
theorem dX9_readsOn_67 : decode cX9_readsOn 67 = .ok (.iconst 1, 1) := by decide +kernel
theorem dX9_readsOn_68 : decode cX9_readsOn 68 = .ok (.goto 4, 3) := by decide +kernel
theorem dX9_readsOn_71 : decode cX9_readsOn 71 = .ok (.iconst 0, 1) := by decide +kernel
theorem dX9_readsOn_72 : decode cX9_readsOn 72 = .ok (.ireturn, 1) := by decide +kernel
theorem dX9_learnsOn_0 : decode cX9_learnsOn 0 = .ok (.iconst 0, 1) := by decide +kernel
theorem dX9_learnsOn_1 : decode cX9_learnsOn 1 = .ok (.istore_n 2, 1) := by decide +kernel
theorem dX9_learnsOn_2 : decode cX9_learnsOn 2 = .ok (.iload_n 2, 1) := by decide +kernel
theorem dX9_learnsOn_3 : decode cX9_learnsOn 3 = .ok (.bipush 40, 2) := by decide +kernel
theorem dX9_learnsOn_5 : decode cX9_learnsOn 5 = .ok (.if_icmp .ge 27, 3) := by decide +kernel
theorem dX9_learnsOn_8 : decode cX9_learnsOn 8 = .ok (.aload_n 0, 1) := by decide +kernel
theorem dX9_learnsOn_9 : decode cX9_learnsOn 9 = .ok (.getfield 25, 3) := by decide +kernel
theorem dX9_learnsOn_12 : decode cX9_learnsOn 12 = .ok (.iload_n 2, 1) := by decide +kernel
theorem dX9_learnsOn_13 : decode cX9_learnsOn 13 = .ok (.sipush 1000, 3) := by decide +kernel
theorem dX9_learnsOn_16 : decode cX9_learnsOn 16 = .ok (.iastore, 1) := by decide +kernel
theorem dX9_learnsOn_17 : decode cX9_learnsOn 17 = .ok (.aload_n 0, 1) := by decide +kernel
theorem dX9_learnsOn_18 : decode cX9_learnsOn 18 = .ok (.getfield 28, 3) := by decide +kernel
theorem dX9_learnsOn_21 : decode cX9_learnsOn 21 = .ok (.iload_n 2, 1) := by decide +kernel
theorem dX9_learnsOn_22 : decode cX9_learnsOn 22 = .ok (.sipush 1000, 3) := by decide +kernel
theorem dX9_learnsOn_25 : decode cX9_learnsOn 25 = .ok (.iastore, 1) := by decide +kernel
theorem dX9_learnsOn_26 : decode cX9_learnsOn 26 = .ok (.iinc 2 1, 3) := by decide +kernel
theorem dX9_learnsOn_29 : decode cX9_learnsOn 29 = .ok (.goto (-27), 3) := by decide +kernel
theorem dX9_learnsOn_32 : decode cX9_learnsOn 32 = .ok (.bipush 59, 2) := by decide +kernel
theorem dX9_learnsOn_34 : decode cX9_learnsOn 34 = .ok (.istore_n 2, 1) := by decide +kernel
theorem dX9_learnsOn_35 : decode cX9_learnsOn 35 = .ok (.iload_n 2, 1) := by decide +kernel
theorem dX9_learnsOn_36 : decode cX9_learnsOn 36 = .ok (.ifCond .lt 123, 3) := by decide +kernel
theorem dX9_learnsOn_39 : decode cX9_learnsOn 39 = .ok (.iconst 0, 1) := by decide +kernel
theorem dX9_learnsOn_40 : decode cX9_learnsOn 40 = .ok (.istore_n 3, 1) := by decide +kernel
theorem dX9_learnsOn_41 : decode cX9_learnsOn 41 = .ok (.iload_n 3, 1) := by decide +kernel
theorem dX9_learnsOn_42 : decode cX9_learnsOn 42 = .ok (.aload_n 0, 1) := by decide +kernel
theorem dX9_learnsOn_43 : decode cX9_learnsOn 43 = .ok (.getfield 150, 3) := by decide +kernel
theorem dX9_learnsOn_46 : decode cX9_learnsOn 46 = .ok (.if_icmp .ge 107, 3) := by decide +kernel
theorem dX9_learnsOn_49 : decode cX9_learnsOn 49 = .ok (.iconst 0, 1) := by decide +kernel
theorem dX9_learnsOn_50 : decode cX9_learnsOn 50 = .ok (.istore 4, 2) := by decide +kernel
theorem dX9_learnsOn_52 : decode cX9_learnsOn 52 = .ok (.iload 4, 2) := by decide +kernel
theorem dX9_learnsOn_54 : decode cX9_learnsOn 54 = .ok (.aload_n 0, 1) := by decide +kernel
theorem dX9_learnsOn_55 : decode cX9_learnsOn 55 = .ok (.getfield 153, 3) := by decide +kernel
theorem dX9_learnsOn_58 : decode cX9_learnsOn 58 = .ok (.if_icmp .ge 89, 3) := by decide +kernel
theorem dX9_learnsOn_61 : decode cX9_learnsOn 61 = .ok (.bipush 10, 2) := by decide +kernel
theorem dX9_learnsOn_63 : decode cX9_learnsOn 63 = .ok (.iload 4, 2) := by decide +kernel
theorem dX9_learnsOn_65 : decode cX9_learnsOn 65 = .ok (.imul, 1) := by decide +kernel
theorem dX9_learnsOn_66 : decode cX9_learnsOn 66 = .ok (.aload_n 0, 1) := by decide +kernel
theorem dX9_learnsOn_67 : decode cX9_learnsOn 67 = .ok (.getfield 7, 3) := by decide +kernel
theorem dX9_learnsOn_70 : decode cX9_learnsOn 70 = .ok (.iload_n 1, 1) := by decide +kernel
theorem dX9_learnsOn_71 : decode cX9_learnsOn 71 = .ok (.iconst 4, 1) := by decide +kernel
theorem dX9_learnsOn_72 : decode cX9_learnsOn 72 = .ok (.iadd, 1) := by decide +kernel
theorem dX9_learnsOn_73 : decode cX9_learnsOn 73 = .ok (.iload_n 3, 1) := by decide +kernel
theorem dX9_learnsOn_74 : decode cX9_learnsOn 74 = .ok (.iadd, 1) := by decide +kernel
theorem dX9_learnsOn_75 : decode cX9_learnsOn 75 = .ok (.iaload, 1) := by decide +kernel
theorem dX9_learnsOn_76 : decode cX9_learnsOn 76 = .ok (.iadd, 1) := by decide +kernel
theorem dX9_learnsOn_77 : decode cX9_learnsOn 77 = .ok (.istore 5, 2) := by decide +kernel
theorem dX9_learnsOn_79 : decode cX9_learnsOn 79 = .ok (.aload_n 0, 1) := by decide +kernel
theorem dX9_learnsOn_80 : decode cX9_learnsOn 80 = .ok (.getfield 25, 3) := by decide +kernel
theorem dX9_learnsOn_83 : decode cX9_learnsOn 83 = .ok (.iload 5, 2) := by decide +kernel
theorem dX9_learnsOn_85 : decode cX9_learnsOn 85 = .ok (.aload_n 0, 1) := by decide +kernel
theorem dX9_learnsOn_86 : decode cX9_learnsOn 86 = .ok (.iload_n 1, 1) := by decide +kernel
theorem dX9_learnsOn_87 : decode cX9_learnsOn 87 = .ok (.iload 4, 2) := by decide +kernel
theorem dX9_learnsOn_89 : decode cX9_learnsOn 89 = .ok (.iload_n 3, 1) := by decide +kernel
theorem dX9_learnsOn_90 : decode cX9_learnsOn 90 = .ok (.iload_n 2, 1) := by decide +kernel
theorem dX9_learnsOn_91 : decode cX9_learnsOn 91 = .ok (.iconst 0, 1) := by decide +kernel
theorem dX9_learnsOn_92 : decode cX9_learnsOn 92 = .ok (.invokevirtual 182, 3) := by decide +kernel
theorem dX9_learnsOn_95 : decode cX9_learnsOn 95 = .ok (.ifCond .eq 7, 3) := by decide +kernel
theorem dX9_learnsOn_98 : decode cX9_learnsOn 98 = .ok (.iload_n 2, 1) := by decide +kernel
theorem dX9_learnsOn_99 : decode cX9_learnsOn 99 = .ok (.goto 10, 3) := by decide +kernel
theorem dX9_learnsOn_102 : decode cX9_learnsOn 102 = .ok (.aload_n 0, 1) := by decide +kernel
theorem dX9_learnsOn_103 : decode cX9_learnsOn 103 = .ok (.getfield 25, 3) := by decide +kernel
theorem dX9_learnsOn_106 : decode cX9_learnsOn 106 = .ok (.iload 5, 2) := by decide +kernel
theorem dX9_learnsOn_108 : decode cX9_learnsOn 108 = .ok (.iaload, 1) := by decide +kernel
theorem dX9_learnsOn_109 : decode cX9_learnsOn 109 = .ok (.iastore, 1) := by decide +kernel
theorem dX9_learnsOn_110 : decode cX9_learnsOn 110 = .ok (.aload_n 0, 1) := by decide +kernel
theorem dX9_learnsOn_111 : decode cX9_learnsOn 111 = .ok (.getfield 28, 3) := by decide +kernel
theorem dX9_learnsOn_114 : decode cX9_learnsOn 114 = .ok (.iload 5, 2) := by decide +kernel
theorem dX9_learnsOn_116 : decode cX9_learnsOn 116 = .ok (.aload_n 0, 1) := by decide +kernel
theorem dX9_learnsOn_117 : decode cX9_learnsOn 117 = .ok (.iload_n 1, 1) := by decide +kernel
theorem dX9_learnsOn_118 : decode cX9_learnsOn 118 = .ok (.iload 4, 2) := by decide +kernel
theorem dX9_learnsOn_120 : decode cX9_learnsOn 120 = .ok (.iload_n 3, 1) := by decide +kernel
theorem dX9_learnsOn_121 : decode cX9_learnsOn 121 = .ok (.iload_n 2, 1) := by decide +kernel
theorem dX9_learnsOn_122 : decode cX9_learnsOn 122 = .ok (.iconst 1, 1) := by decide +kernel
theorem dX9_learnsOn_123 : decode cX9_learnsOn 123 = .ok (.invokevirtual 182, 3) := by decide +kernel
theorem dX9_learnsOn_126 : decode cX9_learnsOn 126 = .ok (.ifCond .eq 7, 3) := by decide +kernel
theorem dX9_learnsOn_129 : decode cX9_learnsOn 129 = .ok (.iload_n 2, 1) := by decide +kernel
theorem dX9_learnsOn_130 : decode cX9_learnsOn 130 = .ok (.goto 10, 3) := by decide +kernel
theorem dX9_learnsOn_133 : decode cX9_learnsOn 133 = .ok (.aload_n 0, 1) := by decide +kernel
theorem dX9_learnsOn_134 : decode cX9_learnsOn 134 = .ok (.getfield 28, 3) := by decide +kernel
theorem dX9_learnsOn_137 : decode cX9_learnsOn 137 = .ok (.iload 5, 2) := by decide +kernel
theorem dX9_learnsOn_139 : decode cX9_learnsOn 139 = .ok (.iaload, 1) := by decide +kernel
theorem dX9_learnsOn_140 : decode cX9_learnsOn 140 = .ok (.iastore, 1) := by decide +kernel
theorem dX9_learnsOn_141 : decode cX9_learnsOn 141 = .ok (.iinc 4 1, 3) := by decide +kernel
theorem dX9_learnsOn_144 : decode cX9_learnsOn 144 = .ok (.goto (-92), 3) := by decide +kernel
theorem dX9_learnsOn_147 : decode cX9_learnsOn 147 = .ok (.iinc 3 1, 3) := by decide +kernel
theorem dX9_learnsOn_150 : decode cX9_learnsOn 150 = .ok (.goto (-109), 3) := by decide +kernel
theorem dX9_learnsOn_153 : decode cX9_learnsOn 153 = .ok (.iinc 2 (-1), 3) := by decide +kernel
theorem dX9_learnsOn_156 : decode cX9_learnsOn 156 = .ok (.goto (-121), 3) := by decide +kernel
theorem dX9_learnsOn_159 : decode cX9_learnsOn 159 = .ok (.return_, 1) := by decide +kernel
theorem dX9_wholeOf_0 : decode cX9_wholeOf 0 = .ok (.bipush 10, 2) := by decide +kernel
theorem dX9_wholeOf_2 : decode cX9_wholeOf 2 = .ok (.iload_n 1, 1) := by decide +kernel
theorem dX9_wholeOf_3 : decode cX9_wholeOf 3 = .ok (.imul, 1) := by decide +kernel
theorem dX9_wholeOf_4 : decode cX9_wholeOf 4 = .ok (.iload_n 2, 1) := by decide +kernel
theorem dX9_wholeOf_5 : decode cX9_wholeOf 5 = .ok (.iadd, 1) := by decide +kernel
theorem dX9_wholeOf_6 : decode cX9_wholeOf 6 = .ok (.istore_n 3, 1) := by decide +kernel
theorem dX9_wholeOf_7 : decode cX9_wholeOf 7 = .ok (.aload_n 0, 1) := by decide +kernel
theorem dX9_wholeOf_8 : decode cX9_wholeOf 8 = .ok (.getfield 25, 3) := by decide +kernel
theorem dX9_wholeOf_11 : decode cX9_wholeOf 11 = .ok (.iload_n 3, 1) := by decide +kernel
theorem dX9_wholeOf_12 : decode cX9_wholeOf 12 = .ok (.iaload, 1) := by decide +kernel
theorem dX9_wholeOf_13 : decode cX9_wholeOf 13 = .ok (.aload_n 0, 1) := by decide +kernel
theorem dX9_wholeOf_14 : decode cX9_wholeOf 14 = .ok (.getfield 28, 3) := by decide +kernel
theorem dX9_wholeOf_17 : decode cX9_wholeOf 17 = .ok (.iload_n 3, 1) := by decide +kernel
theorem dX9_wholeOf_18 : decode cX9_wholeOf 18 = .ok (.iaload, 1) := by decide +kernel
theorem dX9_wholeOf_19 : decode cX9_wholeOf 19 = .ok (.if_icmp .le 12, 3) := by decide +kernel
theorem dX9_wholeOf_22 : decode cX9_wholeOf 22 = .ok (.aload_n 0, 1) := by decide +kernel
theorem dX9_wholeOf_23 : decode cX9_wholeOf 23 = .ok (.getfield 25, 3) := by decide +kernel
theorem dX9_wholeOf_26 : decode cX9_wholeOf 26 = .ok (.iload_n 3, 1) := by decide +kernel
theorem dX9_wholeOf_27 : decode cX9_wholeOf 27 = .ok (.iaload, 1) := by decide +kernel
theorem dX9_wholeOf_28 : decode cX9_wholeOf 28 = .ok (.goto 9, 3) := by decide +kernel
theorem dX9_wholeOf_31 : decode cX9_wholeOf 31 = .ok (.aload_n 0, 1) := by decide +kernel
theorem dX9_wholeOf_32 : decode cX9_wholeOf 32 = .ok (.getfield 28, 3) := by decide +kernel
theorem dX9_wholeOf_35 : decode cX9_wholeOf 35 = .ok (.iload_n 3, 1) := by decide +kernel
theorem dX9_wholeOf_36 : decode cX9_wholeOf 36 = .ok (.iaload, 1) := by decide +kernel
theorem dX9_wholeOf_37 : decode cX9_wholeOf 37 = .ok (.ireturn, 1) := by decide +kernel
theorem dX9_knownOf_0 : decode cX9_knownOf 0 = .ok (.iconst 0, 1) := by decide +kernel
theorem dX9_knownOf_1 : decode cX9_knownOf 1 = .ok (.istore_n 2, 1) := by decide +kernel
theorem dX9_knownOf_2 : decode cX9_knownOf 2 = .ok (.iconst 0, 1) := by decide +kernel
theorem dX9_knownOf_3 : decode cX9_knownOf 3 = .ok (.istore_n 3, 1) := by decide +kernel
theorem dX9_knownOf_4 : decode cX9_knownOf 4 = .ok (.iload_n 3, 1) := by decide +kernel
theorem dX9_knownOf_5 : decode cX9_knownOf 5 = .ok (.bipush 10, 2) := by decide +kernel
theorem dX9_knownOf_7 : decode cX9_knownOf 7 = .ok (.if_icmp .ge 29, 3) := by decide +kernel
theorem dX9_knownOf_10 : decode cX9_knownOf 10 = .ok (.iload_n 2, 1) := by decide +kernel
theorem dX9_knownOf_11 : decode cX9_knownOf 11 = .ok (.aload_n 0, 1) := by decide +kernel
theorem dX9_knownOf_12 : decode cX9_knownOf 12 = .ok (.iload_n 1, 1) := by decide +kernel
theorem dX9_knownOf_13 : decode cX9_knownOf 13 = .ok (.iload_n 3, 1) := by decide +kernel
theorem dX9_knownOf_14 : decode cX9_knownOf 14 = .ok (.invokevirtual 186, 3) := by decide +kernel
theorem dX9_knownOf_17 : decode cX9_knownOf 17 = .ok (.sipush 1000, 3) := by decide +kernel
theorem dX9_knownOf_20 : decode cX9_knownOf 20 = .ok (.if_icmp .ge 7, 3) := by decide +kernel
theorem dX9_knownOf_23 : decode cX9_knownOf 23 = .ok (.iconst 1, 1) := by decide +kernel
theorem dX9_knownOf_24 : decode cX9_knownOf 24 = .ok (.goto 4, 3) := by decide +kernel
theorem dX9_knownOf_27 : decode cX9_knownOf 27 = .ok (.iconst 0, 1) := by decide +kernel
theorem dX9_knownOf_28 : decode cX9_knownOf 28 = .ok (.iadd, 1) := by decide +kernel
theorem dX9_knownOf_29 : decode cX9_knownOf 29 = .ok (.istore_n 2, 1) := by decide +kernel
theorem dX9_knownOf_30 : decode cX9_knownOf 30 = .ok (.iinc 3 1, 3) := by decide +kernel
theorem dX9_knownOf_33 : decode cX9_knownOf 33 = .ok (.goto (-29), 3) := by decide +kernel
theorem dX9_knownOf_36 : decode cX9_knownOf 36 = .ok (.iload_n 2, 1) := by decide +kernel
theorem dX9_knownOf_37 : decode cX9_knownOf 37 = .ok (.ireturn, 1) := by decide +kernel
theorem dX9_pairsOn_0 : decode cX9_pairsOn 0 = .ok (.aload_n 0, 1) := by decide +kernel
theorem dX9_pairsOn_1 : decode cX9_pairsOn 1 = .ok (.iload_n 1, 1) := by decide +kernel
theorem dX9_pairsOn_2 : decode cX9_pairsOn 2 = .ok (.invokevirtual 189, 3) := by decide +kernel
theorem dX9_pairsOn_5 : decode cX9_pairsOn 5 = .ok (.iconst 0, 1) := by decide +kernel
theorem dX9_pairsOn_6 : decode cX9_pairsOn 6 = .ok (.istore_n 2, 1) := by decide +kernel
theorem dX9_pairsOn_7 : decode cX9_pairsOn 7 = .ok (.iconst 0, 1) := by decide +kernel
theorem dX9_pairsOn_8 : decode cX9_pairsOn 8 = .ok (.istore_n 3, 1) := by decide +kernel
theorem dX9_pairsOn_9 : decode cX9_pairsOn 9 = .ok (.iload_n 3, 1) := by decide +kernel
theorem dX9_pairsOn_10 : decode cX9_pairsOn 10 = .ok (.aload_n 0, 1) := by decide +kernel
theorem dX9_pairsOn_11 : decode cX9_pairsOn 11 = .ok (.getfield 153, 3) := by decide +kernel
theorem dX9_pairsOn_14 : decode cX9_pairsOn 14 = .ok (.if_icmp .ge 17, 3) := by decide +kernel
theorem dX9_pairsOn_17 : decode cX9_pairsOn 17 = .ok (.iload_n 2, 1) := by decide +kernel
theorem dX9_pairsOn_18 : decode cX9_pairsOn 18 = .ok (.aload_n 0, 1) := by decide +kernel
theorem dX9_pairsOn_19 : decode cX9_pairsOn 19 = .ok (.iload_n 3, 1) := by decide +kernel
theorem dX9_pairsOn_20 : decode cX9_pairsOn 20 = .ok (.invokevirtual 192, 3) := by decide +kernel
theorem dX9_pairsOn_23 : decode cX9_pairsOn 23 = .ok (.iadd, 1) := by decide +kernel
theorem dX9_pairsOn_24 : decode cX9_pairsOn 24 = .ok (.istore_n 2, 1) := by decide +kernel
theorem dX9_pairsOn_25 : decode cX9_pairsOn 25 = .ok (.iinc 3 1, 3) := by decide +kernel
theorem dX9_pairsOn_28 : decode cX9_pairsOn 28 = .ok (.goto (-19), 3) := by decide +kernel
theorem dX9_pairsOn_31 : decode cX9_pairsOn 31 = .ok (.iload_n 2, 1) := by decide +kernel
theorem dX9_pairsOn_32 : decode cX9_pairsOn 32 = .ok (.ireturn, 1) := by decide +kernel
theorem dX9_rule_0 : decode cX9_rule 0 = .ok (.iload_n 1, 1) := by decide +kernel
theorem dX9_rule_1 : decode cX9_rule 1 = .ok (.tableswitch 79 0 5 #[39, 44, 52, 57, 65, 73], 39) := by decide +kernel
theorem dX9_rule_40 : decode cX9_rule 40 = .ok (.aload_n 0, 1) := by decide +kernel
theorem dX9_rule_41 : decode cX9_rule 41 = .ok (.getfield 150, 3) := by decide +kernel
theorem dX9_rule_44 : decode cX9_rule 44 = .ok (.ireturn, 1) := by decide +kernel
theorem dX9_rule_45 : decode cX9_rule 45 = .ok (.aload_n 0, 1) := by decide +kernel
theorem dX9_rule_46 : decode cX9_rule 46 = .ok (.getfield 7, 3) := by decide +kernel
theorem dX9_rule_49 : decode cX9_rule 49 = .ok (.bipush 42, 2) := by decide +kernel
theorem dX9_rule_51 : decode cX9_rule 51 = .ok (.iaload, 1) := by decide +kernel
theorem dX9_rule_52 : decode cX9_rule 52 = .ok (.ireturn, 1) := by decide +kernel
theorem dX9_rule_53 : decode cX9_rule 53 = .ok (.aload_n 0, 1) := by decide +kernel
theorem dX9_rule_54 : decode cX9_rule 54 = .ok (.getfield 153, 3) := by decide +kernel
theorem dX9_rule_57 : decode cX9_rule 57 = .ok (.ireturn, 1) := by decide +kernel
theorem dX9_rule_58 : decode cX9_rule 58 = .ok (.aload_n 0, 1) := by decide +kernel
theorem dX9_rule_59 : decode cX9_rule 59 = .ok (.getfield 7, 3) := by decide +kernel
theorem dX9_rule_62 : decode cX9_rule 62 = .ok (.bipush 40, 2) := by decide +kernel
theorem dX9_rule_64 : decode cX9_rule 64 = .ok (.iaload, 1) := by decide +kernel
theorem dX9_rule_65 : decode cX9_rule 65 = .ok (.ireturn, 1) := by decide +kernel
theorem dX9_rule_66 : decode cX9_rule 66 = .ok (.aload_n 0, 1) := by decide +kernel
theorem dX9_rule_67 : decode cX9_rule 67 = .ok (.getfield 7, 3) := by decide +kernel
theorem dX9_rule_70 : decode cX9_rule 70 = .ok (.bipush 41, 2) := by decide +kernel
theorem dX9_rule_72 : decode cX9_rule 72 = .ok (.iaload, 1) := by decide +kernel
theorem dX9_rule_73 : decode cX9_rule 73 = .ok (.ireturn, 1) := by decide +kernel
theorem dX9_rule_74 : decode cX9_rule 74 = .ok (.aload_n 0, 1) := by decide +kernel
theorem dX9_rule_75 : decode cX9_rule 75 = .ok (.iconst 0, 1) := by decide +kernel
theorem dX9_rule_76 : decode cX9_rule 76 = .ok (.invokevirtual 195, 3) := by decide +kernel
theorem dX9_rule_79 : decode cX9_rule 79 = .ok (.ireturn, 1) := by decide +kernel
theorem dX9_rule_80 : decode cX9_rule 80 = .ok (.iconst (-1), 1) := by decide +kernel
theorem dX9_rule_81 : decode cX9_rule 81 = .ok (.ireturn, 1) := by decide +kernel
theorem dX9_man_0 : decode cX9_man 0 = .ok (.aload_n 0, 1) := by decide +kernel
theorem dX9_man_1 : decode cX9_man 1 = .ok (.iload_n 1, 1) := by decide +kernel
theorem dX9_man_2 : decode cX9_man 2 = .ok (.invokevirtual 198, 3) := by decide +kernel
theorem dX9_man_5 : decode cX9_man 5 = .ok (.ifCond .ne 5, 3) := by decide +kernel
theorem dX9_man_8 : decode cX9_man 8 = .ok (.iconst (-1), 1) := by decide +kernel
theorem dX9_man_9 : decode cX9_man 9 = .ok (.ireturn, 1) := by decide +kernel
theorem dX9_man_10 : decode cX9_man 10 = .ok (.iload_n 2, 1) := by decide +kernel
theorem dX9_man_11 : decode cX9_man 11 = .ok (.tableswitch 76 0 4 #[33, 40, 49, 56, 66], 33) := by decide +kernel
theorem dX9_man_44 : decode cX9_man 44 = .ok (.aload_n 0, 1) := by decide +kernel
theorem dX9_man_45 : decode cX9_man 45 = .ok (.getfield 7, 3) := by decide +kernel
theorem dX9_man_48 : decode cX9_man 48 = .ok (.iload_n 1, 1) := by decide +kernel
theorem dX9_man_49 : decode cX9_man 49 = .ok (.iaload, 1) := by decide +kernel
theorem dX9_man_50 : decode cX9_man 50 = .ok (.ireturn, 1) := by decide +kernel
theorem dX9_man_51 : decode cX9_man 51 = .ok (.aload_n 0, 1) := by decide +kernel
theorem dX9_man_52 : decode cX9_man 52 = .ok (.getfield 7, 3) := by decide +kernel
theorem dX9_man_55 : decode cX9_man 55 = .ok (.iconst 4, 1) := by decide +kernel
theorem dX9_man_56 : decode cX9_man 56 = .ok (.iload_n 1, 1) := by decide +kernel
theorem dX9_man_57 : decode cX9_man 57 = .ok (.iadd, 1) := by decide +kernel
theorem dX9_man_58 : decode cX9_man 58 = .ok (.iaload, 1) := by decide +kernel
theorem dX9_man_59 : decode cX9_man 59 = .ok (.ireturn, 1) := by decide +kernel
theorem dX9_man_60 : decode cX9_man 60 = .ok (.aload_n 0, 1) := by decide +kernel
theorem dX9_man_61 : decode cX9_man 61 = .ok (.iconst 0, 1) := by decide +kernel
theorem dX9_man_62 : decode cX9_man 62 = .ok (.iload_n 1, 1) := by decide +kernel
theorem dX9_man_63 : decode cX9_man 63 = .ok (.invokevirtual 169, 3) := by decide +kernel
theorem dX9_man_66 : decode cX9_man 66 = .ok (.ireturn, 1) := by decide +kernel
theorem dX9_man_67 : decode cX9_man 67 = .ok (.aload_n 0, 1) := by decide +kernel
theorem dX9_man_68 : decode cX9_man 68 = .ok (.getfield 7, 3) := by decide +kernel
theorem dX9_man_71 : decode cX9_man 71 = .ok (.bipush 8, 2) := by decide +kernel
theorem dX9_man_73 : decode cX9_man 73 = .ok (.iload_n 1, 1) := by decide +kernel
theorem dX9_man_74 : decode cX9_man 74 = .ok (.iadd, 1) := by decide +kernel
theorem dX9_man_75 : decode cX9_man 75 = .ok (.iaload, 1) := by decide +kernel
theorem dX9_man_76 : decode cX9_man 76 = .ok (.ireturn, 1) := by decide +kernel
theorem dX9_man_77 : decode cX9_man 77 = .ok (.bipush 60, 2) := by decide +kernel
theorem dX9_man_79 : decode cX9_man 79 = .ok (.aload_n 0, 1) := by decide +kernel
theorem dX9_man_80 : decode cX9_man 80 = .ok (.iconst 0, 1) := by decide +kernel
theorem dX9_man_81 : decode cX9_man 81 = .ok (.iload_n 1, 1) := by decide +kernel
theorem dX9_man_82 : decode cX9_man 82 = .ok (.invokevirtual 169, 3) := by decide +kernel
theorem dX9_man_85 : decode cX9_man 85 = .ok (.idiv, 1) := by decide +kernel
theorem dX9_man_86 : decode cX9_man 86 = .ok (.ireturn, 1) := by decide +kernel
theorem dX9_man_87 : decode cX9_man 87 = .ok (.iconst (-1), 1) := by decide +kernel
theorem dX9_man_88 : decode cX9_man 88 = .ok (.ireturn, 1) := by decide +kernel
theorem dX9_isPlace_0 : decode cX9_isPlace 0 = .ok (.aload_n 0, 1) := by decide +kernel
theorem dX9_isPlace_1 : decode cX9_isPlace 1 = .ok (.iload_n 1, 1) := by decide +kernel
theorem dX9_isPlace_2 : decode cX9_isPlace 2 = .ok (.invokevirtual 198, 3) := by decide +kernel
theorem dX9_isPlace_5 : decode cX9_isPlace 5 = .ok (.ifCond .eq 28, 3) := by decide +kernel
theorem dX9_isPlace_8 : decode cX9_isPlace 8 = .ok (.iload_n 2, 1) := by decide +kernel
theorem dX9_isPlace_9 : decode cX9_isPlace 9 = .ok (.i2l, 1) := by decide +kernel
theorem dX9_isPlace_10 : decode cX9_isPlace 10 = .ok (.lconst 0, 1) := by decide +kernel
theorem dX9_isPlace_11 : decode cX9_isPlace 11 = .ok (.aload_n 0, 1) := by decide +kernel
theorem dX9_isPlace_12 : decode cX9_isPlace 12 = .ok (.getfield 7, 3) := by decide +kernel
theorem dX9_isPlace_15 : decode cX9_isPlace 15 = .ok (.bipush 8, 2) := by decide +kernel
theorem dX9_isPlace_17 : decode cX9_isPlace 17 = .ok (.iload_n 1, 1) := by decide +kernel
theorem dX9_isPlace_18 : decode cX9_isPlace 18 = .ok (.iadd, 1) := by decide +kernel
theorem dX9_isPlace_19 : decode cX9_isPlace 19 = .ok (.iaload, 1) := by decide +kernel
theorem dX9_isPlace_20 : decode cX9_isPlace 20 = .ok (.iconst 1, 1) := by decide +kernel
theorem dX9_isPlace_21 : decode cX9_isPlace 21 = .ok (.isub, 1) := by decide +kernel
theorem dX9_isPlace_22 : decode cX9_isPlace 22 = .ok (.i2l, 1) := by decide +kernel
theorem dX9_isPlace_23 : decode cX9_isPlace 23 = .ok (.invokestatic 55, 3) := by decide +kernel
theorem dX9_isPlace_26 : decode cX9_isPlace 26 = .ok (.ifCond .eq 7, 3) := by decide +kernel
theorem dX9_isPlace_29 : decode cX9_isPlace 29 = .ok (.iconst 1, 1) := by decide +kernel
theorem dX9_isPlace_30 : decode cX9_isPlace 30 = .ok (.goto 4, 3) := by decide +kernel
theorem dX9_isPlace_33 : decode cX9_isPlace 33 = .ok (.iconst 0, 1) := by decide +kernel
theorem dX9_isPlace_34 : decode cX9_isPlace 34 = .ok (.ireturn, 1) := by decide +kernel
theorem dX9_walk_0 : decode cX9_walk 0 = .ok (.aload_n 0, 1) := by decide +kernel
theorem dX9_walk_1 : decode cX9_walk 1 = .ok (.iload_n 1, 1) := by decide +kernel
theorem dX9_walk_2 : decode cX9_walk 2 = .ok (.iload_n 2, 1) := by decide +kernel
theorem dX9_walk_3 : decode cX9_walk 3 = .ok (.invokevirtual 201, 3) := by decide +kernel
theorem dX9_walk_6 : decode cX9_walk 6 = .ok (.ifCond .eq 19, 3) := by decide +kernel
theorem dX9_walk_9 : decode cX9_walk 9 = .ok (.aload_n 0, 1) := by decide +kernel
theorem dX9_walk_10 : decode cX9_walk 10 = .ok (.getfield 7, 3) := by decide +kernel
theorem dX9_walk_13 : decode cX9_walk 13 = .ok (.bipush 12, 2) := by decide +kernel
theorem dX9_walk_15 : decode cX9_walk 15 = .ok (.iconst 4, 1) := by decide +kernel
theorem dX9_walk_16 : decode cX9_walk 16 = .ok (.iload_n 1, 1) := by decide +kernel
theorem dX9_walk_17 : decode cX9_walk 17 = .ok (.imul, 1) := by decide +kernel
theorem dX9_walk_18 : decode cX9_walk 18 = .ok (.iadd, 1) := by decide +kernel
theorem dX9_walk_19 : decode cX9_walk 19 = .ok (.iload_n 2, 1) := by decide +kernel
theorem dX9_walk_20 : decode cX9_walk 20 = .ok (.iadd, 1) := by decide +kernel
theorem dX9_walk_21 : decode cX9_walk 21 = .ok (.iaload, 1) := by decide +kernel
theorem dX9_walk_22 : decode cX9_walk 22 = .ok (.goto 4, 3) := by decide +kernel
theorem dX9_walk_25 : decode cX9_walk 25 = .ok (.iconst (-1), 1) := by decide +kernel
theorem dX9_walk_26 : decode cX9_walk 26 = .ok (.ireturn, 1) := by decide +kernel
theorem dX9_street_0 : decode cX9_street 0 = .ok (.iload_n 1, 1) := by decide +kernel
theorem dX9_street_1 : decode cX9_street 1 = .ok (.i2l, 1) := by decide +kernel
theorem dX9_street_2 : decode cX9_street 2 = .ok (.lconst 0, 1) := by decide +kernel
theorem dX9_street_3 : decode cX9_street 3 = .ok (.aload_n 0, 1) := by decide +kernel
theorem dX9_street_4 : decode cX9_street 4 = .ok (.getfield 7, 3) := by decide +kernel
theorem dX9_street_7 : decode cX9_street 7 = .ok (.bipush 42, 2) := by decide +kernel
theorem dX9_street_9 : decode cX9_street 9 = .ok (.iaload, 1) := by decide +kernel
theorem dX9_street_10 : decode cX9_street 10 = .ok (.iconst 1, 1) := by decide +kernel
theorem dX9_street_11 : decode cX9_street 11 = .ok (.isub, 1) := by decide +kernel
theorem dX9_street_12 : decode cX9_street 12 = .ok (.i2l, 1) := by decide +kernel
theorem dX9_street_13 : decode cX9_street 13 = .ok (.invokestatic 55, 3) := by decide +kernel
theorem dX9_street_16 : decode cX9_street 16 = .ok (.ifCond .eq 30, 3) := by decide +kernel
theorem dX9_street_19 : decode cX9_street 19 = .ok (.iload_n 2, 1) := by decide +kernel
theorem dX9_street_20 : decode cX9_street 20 = .ok (.i2l, 1) := by decide +kernel
theorem dX9_street_21 : decode cX9_street 21 = .ok (.lconst 0, 1) := by decide +kernel
theorem dX9_street_22 : decode cX9_street 22 = .ok (.lconst 1, 1) := by decide +kernel
theorem dX9_street_23 : decode cX9_street 23 = .ok (.invokestatic 55, 3) := by decide +kernel
theorem dX9_street_26 : decode cX9_street 26 = .ok (.ifCond .eq 20, 3) := by decide +kernel
theorem dX9_street_29 : decode cX9_street 29 = .ok (.aload_n 0, 1) := by decide +kernel
theorem dX9_street_30 : decode cX9_street 30 = .ok (.getfield 7, 3) := by decide +kernel
theorem dX9_street_33 : decode cX9_street 33 = .ok (.bipush 43, 2) := by decide +kernel
theorem dX9_street_35 : decode cX9_street 35 = .ok (.bipush 9, 2) := by decide +kernel
theorem dX9_street_37 : decode cX9_street 37 = .ok (.iload_n 2, 1) := by decide +kernel
theorem dX9_street_38 : decode cX9_street 38 = .ok (.imul, 1) := by decide +kernel
theorem dX9_street_39 : decode cX9_street 39 = .ok (.iadd, 1) := by decide +kernel
theorem dX9_street_40 : decode cX9_street 40 = .ok (.iload_n 1, 1) := by decide +kernel
theorem dX9_street_41 : decode cX9_street 41 = .ok (.iadd, 1) := by decide +kernel
theorem dX9_street_42 : decode cX9_street 42 = .ok (.iaload, 1) := by decide +kernel
theorem dX9_street_43 : decode cX9_street 43 = .ok (.goto 4, 3) := by decide +kernel
theorem dX9_street_46 : decode cX9_street 46 = .ok (.iconst (-1), 1) := by decide +kernel
theorem dX9_street_47 : decode cX9_street 47 = .ok (.ireturn, 1) := by decide +kernel
theorem dX9_reader_0 : decode cX9_reader 0 = .ok (.aload_n 0, 1) := by decide +kernel
theorem dX9_reader_1 : decode cX9_reader 1 = .ok (.iload_n 1, 1) := by decide +kernel
theorem dX9_reader_2 : decode cX9_reader 2 = .ok (.invokevirtual 204, 3) := by decide +kernel
theorem dX9_reader_5 : decode cX9_reader 5 = .ok (.ifCond .eq 31, 3) := by decide +kernel
theorem dX9_reader_8 : decode cX9_reader 8 = .ok (.iload_n 2, 1) := by decide +kernel
theorem dX9_reader_9 : decode cX9_reader 9 = .ok (.i2l, 1) := by decide +kernel
theorem dX9_reader_10 : decode cX9_reader 10 = .ok (.lconst 0, 1) := by decide +kernel
theorem dX9_reader_11 : decode cX9_reader 11 = .ok (.ldc2_w 207, 3) := by decide +kernel
theorem dX9_reader_14 : decode cX9_reader 14 = .ok (.invokestatic 55, 3) := by decide +kernel
theorem dX9_reader_17 : decode cX9_reader 17 = .ok (.ifCond .eq 19, 3) := by decide +kernel
theorem dX9_reader_20 : decode cX9_reader 20 = .ok (.aload_n 0, 1) := by decide +kernel
theorem dX9_reader_21 : decode cX9_reader 21 = .ok (.getfield 7, 3) := by decide +kernel
theorem dX9_reader_24 : decode cX9_reader 24 = .ok (.bipush 28, 2) := by decide +kernel
theorem dX9_reader_26 : decode cX9_reader 26 = .ok (.iconst 4, 1) := by decide +kernel
theorem dX9_reader_27 : decode cX9_reader 27 = .ok (.iload_n 2, 1) := by decide +kernel
theorem dX9_reader_28 : decode cX9_reader 28 = .ok (.imul, 1) := by decide +kernel
theorem dX9_reader_29 : decode cX9_reader 29 = .ok (.iadd, 1) := by decide +kernel
theorem dX9_reader_30 : decode cX9_reader 30 = .ok (.iload_n 1, 1) := by decide +kernel
theorem dX9_reader_31 : decode cX9_reader 31 = .ok (.iadd, 1) := by decide +kernel
theorem dX9_reader_32 : decode cX9_reader 32 = .ok (.iaload, 1) := by decide +kernel
theorem dX9_reader_33 : decode cX9_reader 33 = .ok (.goto 4, 3) := by decide +kernel
theorem dX9_reader_36 : decode cX9_reader 36 = .ok (.iconst (-1), 1) := by decide +kernel
theorem dX9_reader_37 : decode cX9_reader 37 = .ok (.ireturn, 1) := by decide +kernel
theorem dX9_puts_0 : decode cX9_puts 0 = .ok (.iload_n 1, 1) := by decide +kernel
theorem dX9_puts_1 : decode cX9_puts 1 = .ok (.ifCond .ne 5, 3) := by decide +kernel
theorem dX9_puts_4 : decode cX9_puts 4 = .ok (.iconst (-1), 1) := by decide +kernel
theorem dX9_puts_5 : decode cX9_puts 5 = .ok (.ireturn, 1) := by decide +kernel
theorem dX9_puts_6 : decode cX9_puts 6 = .ok (.aload_n 0, 1) := by decide +kernel
theorem dX9_puts_7 : decode cX9_puts 7 = .ok (.getfield 7, 3) := by decide +kernel
theorem dX9_puts_10 : decode cX9_puts 10 = .ok (.iload_n 2, 1) := by decide +kernel
theorem dX9_puts_11 : decode cX9_puts 11 = .ok (.iaload, 1) := by decide +kernel
theorem dX9_puts_12 : decode cX9_puts 12 = .ok (.istore 4, 2) := by decide +kernel
theorem dX9_puts_14 : decode cX9_puts 14 = .ok (.aload_n 0, 1) := by decide +kernel
theorem dX9_puts_15 : decode cX9_puts 15 = .ok (.getfield 7, 3) := by decide +kernel
theorem dX9_puts_18 : decode cX9_puts 18 = .ok (.iload_n 2, 1) := by decide +kernel
theorem dX9_puts_19 : decode cX9_puts 19 = .ok (.iload_n 3, 1) := by decide +kernel
theorem dX9_puts_20 : decode cX9_puts 20 = .ok (.iastore, 1) := by decide +kernel
theorem dX9_puts_21 : decode cX9_puts 21 = .ok (.iload 4, 2) := by decide +kernel
theorem dX9_puts_23 : decode cX9_puts 23 = .ok (.ireturn, 1) := by decide +kernel
theorem dX9_alter_0 : decode cX9_alter 0 = .ok (.aload_n 0, 1) := by decide +kernel
theorem dX9_alter_1 : decode cX9_alter 1 = .ok (.aload_n 0, 1) := by decide +kernel
theorem dX9_alter_2 : decode cX9_alter 2 = .ok (.iload_n 1, 1) := by decide +kernel
theorem dX9_alter_3 : decode cX9_alter 3 = .ok (.invokevirtual 198, 3) := by decide +kernel
theorem dX9_alter_6 : decode cX9_alter 6 = .ok (.ifCond .eq 39, 3) := by decide +kernel
theorem dX9_alter_9 : decode cX9_alter 9 = .ok (.iload_n 2, 1) := by decide +kernel
theorem dX9_alter_10 : decode cX9_alter 10 = .ok (.i2l, 1) := by decide +kernel
theorem dX9_alter_11 : decode cX9_alter 11 = .ok (.lconst 0, 1) := by decide +kernel
theorem dX9_alter_12 : decode cX9_alter 12 = .ok (.lconst 1, 1) := by decide +kernel
theorem dX9_alter_13 : decode cX9_alter 13 = .ok (.invokestatic 55, 3) := by decide +kernel
theorem dX9_alter_16 : decode cX9_alter 16 = .ok (.ifCond .eq 29, 3) := by decide +kernel
theorem dX9_alter_19 : decode cX9_alter 19 = .ok (.iload_n 3, 1) := by decide +kernel
theorem dX9_alter_20 : decode cX9_alter 20 = .ok (.i2l, 1) := by decide +kernel
theorem dX9_alter_21 : decode cX9_alter 21 = .ok (.lconst 0, 1) := by decide +kernel
theorem dX9_alter_22 : decode cX9_alter 22 = .ok (.iload_n 2, 1) := by decide +kernel
theorem dX9_alter_23 : decode cX9_alter 23 = .ok (.ifCond .ne 9, 3) := by decide +kernel
theorem dX9_alter_26 : decode cX9_alter 26 = .ok (.ldc2_w 209, 3) := by decide +kernel
theorem dX9_alter_29 : decode cX9_alter 29 = .ok (.goto 6, 3) := by decide +kernel
theorem dX9_alter_32 : decode cX9_alter 32 = .ok (.ldc2_w 163, 3) := by decide +kernel
theorem dX9_alter_35 : decode cX9_alter 35 = .ok (.invokestatic 55, 3) := by decide +kernel
theorem dX9_alter_38 : decode cX9_alter 38 = .ok (.ifCond .eq 7, 3) := by decide +kernel
theorem dX9_alter_41 : decode cX9_alter 41 = .ok (.iconst 1, 1) := by decide +kernel
theorem dX9_alter_42 : decode cX9_alter 42 = .ok (.goto 4, 3) := by decide +kernel
theorem dX9_alter_45 : decode cX9_alter 45 = .ok (.iconst 0, 1) := by decide +kernel
theorem dX9_alter_46 : decode cX9_alter 46 = .ok (.iconst 4, 1) := by decide +kernel
theorem dX9_alter_47 : decode cX9_alter 47 = .ok (.iload_n 2, 1) := by decide +kernel
theorem dX9_alter_48 : decode cX9_alter 48 = .ok (.imul, 1) := by decide +kernel
theorem dX9_alter_49 : decode cX9_alter 49 = .ok (.iload_n 1, 1) := by decide +kernel
theorem dX9_alter_50 : decode cX9_alter 50 = .ok (.iadd, 1) := by decide +kernel
theorem dX9_alter_51 : decode cX9_alter 51 = .ok (.iload_n 3, 1) := by decide +kernel
theorem dX9_alter_52 : decode cX9_alter 52 = .ok (.invokevirtual 211, 3) := by decide +kernel
theorem dX9_alter_55 : decode cX9_alter 55 = .ok (.ireturn, 1) := by decide +kernel
theorem dX9_detour_0 : decode cX9_detour 0 = .ok (.aload_n 0, 1) := by decide +kernel
theorem dX9_detour_1 : decode cX9_detour 1 = .ok (.iload_n 1, 1) := by decide +kernel
theorem dX9_detour_2 : decode cX9_detour 2 = .ok (.iload_n 2, 1) := by decide +kernel
theorem dX9_detour_3 : decode cX9_detour 3 = .ok (.invokevirtual 201, 3) := by decide +kernel
theorem dX9_detour_6 : decode cX9_detour 6 = .ok (.ifCond .eq 10, 3) := by decide +kernel
theorem dX9_detour_9 : decode cX9_detour 9 = .ok (.iload_n 3, 1) := by decide +kernel
theorem dX9_detour_10 : decode cX9_detour 10 = .ok (.invokestatic 215, 3) := by decide +kernel
theorem dX9_detour_13 : decode cX9_detour 13 = .ok (.ifCond .ne 5, 3) := by decide +kernel
theorem dX9_detour_16 : decode cX9_detour 16 = .ok (.iconst (-1), 1) := by decide +kernel
theorem dX9_detour_17 : decode cX9_detour 17 = .ok (.ireturn, 1) := by decide +kernel
theorem dX9_detour_18 : decode cX9_detour 18 = .ok (.aload_n 0, 1) := by decide +kernel
theorem dX9_detour_19 : decode cX9_detour 19 = .ok (.getfield 7, 3) := by decide +kernel
theorem dX9_detour_22 : decode cX9_detour 22 = .ok (.bipush 12, 2) := by decide +kernel
theorem dX9_detour_24 : decode cX9_detour 24 = .ok (.iconst 4, 1) := by decide +kernel
theorem dX9_detour_25 : decode cX9_detour 25 = .ok (.iload_n 1, 1) := by decide +kernel
theorem dX9_detour_26 : decode cX9_detour 26 = .ok (.imul, 1) := by decide +kernel
theorem dX9_detour_27 : decode cX9_detour 27 = .ok (.iadd, 1) := by decide +kernel
theorem dX9_detour_28 : decode cX9_detour 28 = .ok (.iload_n 2, 1) := by decide +kernel
theorem dX9_detour_29 : decode cX9_detour 29 = .ok (.iadd, 1) := by decide +kernel
theorem dX9_detour_30 : decode cX9_detour 30 = .ok (.iaload, 1) := by decide +kernel
theorem dX9_detour_31 : decode cX9_detour 31 = .ok (.istore 4, 2) := by decide +kernel
theorem dX9_detour_33 : decode cX9_detour 33 = .ok (.aload_n 0, 1) := by decide +kernel
theorem dX9_detour_34 : decode cX9_detour 34 = .ok (.getfield 7, 3) := by decide +kernel
theorem dX9_detour_37 : decode cX9_detour 37 = .ok (.bipush 12, 2) := by decide +kernel
theorem dX9_detour_39 : decode cX9_detour 39 = .ok (.iconst 4, 1) := by decide +kernel
theorem dX9_detour_40 : decode cX9_detour 40 = .ok (.iload_n 1, 1) := by decide +kernel
theorem dX9_detour_41 : decode cX9_detour 41 = .ok (.imul, 1) := by decide +kernel
theorem dX9_detour_42 : decode cX9_detour 42 = .ok (.iadd, 1) := by decide +kernel
theorem dX9_detour_43 : decode cX9_detour 43 = .ok (.iload_n 2, 1) := by decide +kernel
theorem dX9_detour_44 : decode cX9_detour 44 = .ok (.iadd, 1) := by decide +kernel
theorem dX9_detour_45 : decode cX9_detour 45 = .ok (.iload_n 3, 1) := by decide +kernel
theorem dX9_detour_46 : decode cX9_detour 46 = .ok (.iastore, 1) := by decide +kernel
theorem dX9_detour_47 : decode cX9_detour 47 = .ok (.aload_n 0, 1) := by decide +kernel
theorem dX9_detour_48 : decode cX9_detour 48 = .ok (.iconst 0, 1) := by decide +kernel
theorem dX9_detour_49 : decode cX9_detour 49 = .ok (.iload_n 1, 1) := by decide +kernel
theorem dX9_detour_50 : decode cX9_detour 50 = .ok (.invokevirtual 136, 3) := by decide +kernel
theorem dX9_detour_53 : decode cX9_detour 53 = .ok (.ifCond .ne 21, 3) := by decide +kernel
theorem dX9_detour_56 : decode cX9_detour 56 = .ok (.aload_n 0, 1) := by decide +kernel
theorem dX9_detour_57 : decode cX9_detour 57 = .ok (.getfield 7, 3) := by decide +kernel
theorem dX9_detour_60 : decode cX9_detour 60 = .ok (.bipush 12, 2) := by decide +kernel
theorem dX9_detour_62 : decode cX9_detour 62 = .ok (.iconst 4, 1) := by decide +kernel
theorem dX9_detour_63 : decode cX9_detour 63 = .ok (.iload_n 1, 1) := by decide +kernel
theorem dX9_detour_64 : decode cX9_detour 64 = .ok (.imul, 1) := by decide +kernel
theorem dX9_detour_65 : decode cX9_detour 65 = .ok (.iadd, 1) := by decide +kernel
theorem dX9_detour_66 : decode cX9_detour 66 = .ok (.iload_n 2, 1) := by decide +kernel
theorem dX9_detour_67 : decode cX9_detour 67 = .ok (.iadd, 1) := by decide +kernel
theorem dX9_detour_68 : decode cX9_detour 68 = .ok (.iload 4, 2) := by decide +kernel
theorem dX9_detour_70 : decode cX9_detour 70 = .ok (.iastore, 1) := by decide +kernel
theorem dX9_detour_71 : decode cX9_detour 71 = .ok (.bipush (-2), 2) := by decide +kernel
theorem dX9_detour_73 : decode cX9_detour 73 = .ok (.ireturn, 1) := by decide +kernel
theorem dX9_detour_74 : decode cX9_detour 74 = .ok (.iload 4, 2) := by decide +kernel
theorem dX9_detour_76 : decode cX9_detour 76 = .ok (.ireturn, 1) := by decide +kernel
theorem dX9_shiftsOn_0 : decode cX9_shiftsOn 0 = .ok (.aload_n 0, 1) := by decide +kernel
theorem dX9_shiftsOn_1 : decode cX9_shiftsOn 1 = .ok (.getfield 7, 3) := by decide +kernel
theorem dX9_shiftsOn_4 : decode cX9_shiftsOn 4 = .ok (.iload_n 1, 1) := by decide +kernel
theorem dX9_shiftsOn_5 : decode cX9_shiftsOn 5 = .ok (.bipush 8, 2) := by decide +kernel
theorem dX9_shiftsOn_7 : decode cX9_shiftsOn 7 = .ok (.iadd, 1) := by decide +kernel
theorem dX9_shiftsOn_8 : decode cX9_shiftsOn 8 = .ok (.iload_n 2, 1) := by decide +kernel
theorem dX9_shiftsOn_9 : decode cX9_shiftsOn 9 = .ok (.iadd, 1) := by decide +kernel
theorem dX9_shiftsOn_10 : decode cX9_shiftsOn 10 = .ok (.iaload, 1) := by decide +kernel
theorem dX9_shiftsOn_11 : decode cX9_shiftsOn 11 = .ok (.istore 4, 2) := by decide +kernel
theorem dX9_shiftsOn_13 : decode cX9_shiftsOn 13 = .ok (.iconst 0, 1) := by decide +kernel
theorem dX9_shiftsOn_14 : decode cX9_shiftsOn 14 = .ok (.istore 5, 2) := by decide +kernel
theorem dX9_shiftsOn_16 : decode cX9_shiftsOn 16 = .ok (.iload 5, 2) := by decide +kernel
theorem dX9_shiftsOn_18 : decode cX9_shiftsOn 18 = .ok (.iload 4, 2) := by decide +kernel
theorem dX9_shiftsOn_20 : decode cX9_shiftsOn 20 = .ok (.if_icmp .ge 37, 3) := by decide +kernel
theorem dX9_shiftsOn_23 : decode cX9_shiftsOn 23 = .ok (.aload_n 0, 1) := by decide +kernel
theorem dX9_shiftsOn_24 : decode cX9_shiftsOn 24 = .ok (.getfield 31, 3) := by decide +kernel
theorem dX9_shiftsOn_27 : decode cX9_shiftsOn 27 = .ok (.iload 5, 2) := by decide +kernel
theorem dX9_shiftsOn_29 : decode cX9_shiftsOn 29 = .ok (.aload_n 0, 1) := by decide +kernel
theorem dX9_shiftsOn_30 : decode cX9_shiftsOn 30 = .ok (.getfield 7, 3) := by decide +kernel
theorem dX9_shiftsOn_33 : decode cX9_shiftsOn 33 = .ok (.iload_n 1, 1) := by decide +kernel
theorem dX9_shiftsOn_34 : decode cX9_shiftsOn 34 = .ok (.bipush 12, 2) := by decide +kernel
theorem dX9_shiftsOn_36 : decode cX9_shiftsOn 36 = .ok (.iadd, 1) := by decide +kernel
theorem dX9_shiftsOn_37 : decode cX9_shiftsOn 37 = .ok (.iconst 4, 1) := by decide +kernel
theorem dX9_shiftsOn_38 : decode cX9_shiftsOn 38 = .ok (.iload_n 2, 1) := by decide +kernel
theorem dX9_shiftsOn_39 : decode cX9_shiftsOn 39 = .ok (.imul, 1) := by decide +kernel
theorem dX9_shiftsOn_40 : decode cX9_shiftsOn 40 = .ok (.iadd, 1) := by decide +kernel
theorem dX9_shiftsOn_41 : decode cX9_shiftsOn 41 = .ok (.iload_n 3, 1) := by decide +kernel
theorem dX9_shiftsOn_42 : decode cX9_shiftsOn 42 = .ok (.iload 5, 2) := by decide +kernel
theorem dX9_shiftsOn_44 : decode cX9_shiftsOn 44 = .ok (.iadd, 1) := by decide +kernel
theorem dX9_shiftsOn_45 : decode cX9_shiftsOn 45 = .ok (.iload 4, 2) := by decide +kernel
theorem dX9_shiftsOn_47 : decode cX9_shiftsOn 47 = .ok (.irem, 1) := by decide +kernel
theorem dX9_shiftsOn_48 : decode cX9_shiftsOn 48 = .ok (.iadd, 1) := by decide +kernel
theorem dX9_shiftsOn_49 : decode cX9_shiftsOn 49 = .ok (.iaload, 1) := by decide +kernel
theorem dX9_shiftsOn_50 : decode cX9_shiftsOn 50 = .ok (.iastore, 1) := by decide +kernel
theorem dX9_shiftsOn_51 : decode cX9_shiftsOn 51 = .ok (.iinc 5 1, 3) := by decide +kernel
theorem dX9_shiftsOn_54 : decode cX9_shiftsOn 54 = .ok (.goto (-38), 3) := by decide +kernel
theorem dX9_shiftsOn_57 : decode cX9_shiftsOn 57 = .ok (.iconst 0, 1) := by decide +kernel
theorem dX9_shiftsOn_58 : decode cX9_shiftsOn 58 = .ok (.istore 5, 2) := by decide +kernel
theorem dX9_shiftsOn_60 : decode cX9_shiftsOn 60 = .ok (.iload 5, 2) := by decide +kernel
theorem dX9_shiftsOn_62 : decode cX9_shiftsOn 62 = .ok (.iload 4, 2) := by decide +kernel
theorem dX9_shiftsOn_64 : decode cX9_shiftsOn 64 = .ok (.if_icmp .ge 32, 3) := by decide +kernel
theorem dX9_shiftsOn_67 : decode cX9_shiftsOn 67 = .ok (.aload_n 0, 1) := by decide +kernel
theorem dX9_shiftsOn_68 : decode cX9_shiftsOn 68 = .ok (.getfield 7, 3) := by decide +kernel
theorem dX9_shiftsOn_71 : decode cX9_shiftsOn 71 = .ok (.iload_n 1, 1) := by decide +kernel
theorem dX9_shiftsOn_72 : decode cX9_shiftsOn 72 = .ok (.bipush 12, 2) := by decide +kernel
theorem dX9_shiftsOn_74 : decode cX9_shiftsOn 74 = .ok (.iadd, 1) := by decide +kernel
theorem dX9_shiftsOn_75 : decode cX9_shiftsOn 75 = .ok (.iconst 4, 1) := by decide +kernel
theorem dX9_shiftsOn_76 : decode cX9_shiftsOn 76 = .ok (.iload_n 2, 1) := by decide +kernel
theorem dX9_shiftsOn_77 : decode cX9_shiftsOn 77 = .ok (.imul, 1) := by decide +kernel
theorem dX9_shiftsOn_78 : decode cX9_shiftsOn 78 = .ok (.iadd, 1) := by decide +kernel
theorem dX9_shiftsOn_79 : decode cX9_shiftsOn 79 = .ok (.iload 5, 2) := by decide +kernel
theorem dX9_shiftsOn_81 : decode cX9_shiftsOn 81 = .ok (.iadd, 1) := by decide +kernel
theorem dX9_shiftsOn_82 : decode cX9_shiftsOn 82 = .ok (.aload_n 0, 1) := by decide +kernel
theorem dX9_shiftsOn_83 : decode cX9_shiftsOn 83 = .ok (.getfield 31, 3) := by decide +kernel
theorem dX9_shiftsOn_86 : decode cX9_shiftsOn 86 = .ok (.iload 5, 2) := by decide +kernel
theorem dX9_shiftsOn_88 : decode cX9_shiftsOn 88 = .ok (.iaload, 1) := by decide +kernel
theorem dX9_shiftsOn_89 : decode cX9_shiftsOn 89 = .ok (.iastore, 1) := by decide +kernel
theorem dX9_shiftsOn_90 : decode cX9_shiftsOn 90 = .ok (.iinc 5 1, 3) := by decide +kernel
theorem dX9_shiftsOn_93 : decode cX9_shiftsOn 93 = .ok (.goto (-33), 3) := by decide +kernel
theorem dX9_shiftsOn_96 : decode cX9_shiftsOn 96 = .ok (.return_, 1) := by decide +kernel
theorem dX9_shift_0 : decode cX9_shift 0 = .ok (.aload_n 0, 1) := by decide +kernel
theorem dX9_shift_1 : decode cX9_shift 1 = .ok (.iload_n 1, 1) := by decide +kernel
theorem dX9_shift_2 : decode cX9_shift 2 = .ok (.iload_n 2, 1) := by decide +kernel
theorem dX9_shift_3 : decode cX9_shift 3 = .ok (.invokevirtual 201, 3) := by decide +kernel
theorem dX9_shift_6 : decode cX9_shift 6 = .ok (.ifCond .ne 5, 3) := by decide +kernel
theorem dX9_shift_9 : decode cX9_shift 9 = .ok (.iconst (-1), 1) := by decide +kernel
theorem dX9_shift_10 : decode cX9_shift 10 = .ok (.ireturn, 1) := by decide +kernel
theorem dX9_shift_11 : decode cX9_shift 11 = .ok (.aload_n 0, 1) := by decide +kernel
theorem dX9_shift_12 : decode cX9_shift 12 = .ok (.getfield 7, 3) := by decide +kernel
theorem dX9_shift_15 : decode cX9_shift 15 = .ok (.bipush 12, 2) := by decide +kernel
theorem dX9_shift_17 : decode cX9_shift 17 = .ok (.iconst 4, 1) := by decide +kernel
theorem dX9_shift_18 : decode cX9_shift 18 = .ok (.iload_n 1, 1) := by decide +kernel
theorem dX9_shift_19 : decode cX9_shift 19 = .ok (.imul, 1) := by decide +kernel
theorem dX9_shift_20 : decode cX9_shift 20 = .ok (.iadd, 1) := by decide +kernel
theorem dX9_shift_21 : decode cX9_shift 21 = .ok (.iaload, 1) := by decide +kernel
theorem dX9_shift_22 : decode cX9_shift 22 = .ok (.istore_n 3, 1) := by decide +kernel
theorem dX9_shift_23 : decode cX9_shift 23 = .ok (.aload_n 0, 1) := by decide +kernel
theorem dX9_shift_24 : decode cX9_shift 24 = .ok (.iconst 0, 1) := by decide +kernel
theorem dX9_shift_25 : decode cX9_shift 25 = .ok (.iload_n 1, 1) := by decide +kernel
theorem dX9_shift_26 : decode cX9_shift 26 = .ok (.iload_n 2, 1) := by decide +kernel
theorem dX9_shift_27 : decode cX9_shift 27 = .ok (.invokevirtual 218, 3) := by decide +kernel
theorem dX9_shift_30 : decode cX9_shift 30 = .ok (.iload_n 3, 1) := by decide +kernel
theorem dX9_shift_31 : decode cX9_shift 31 = .ok (.ireturn, 1) := by decide +kernel
theorem dX9_stands_0 : decode cX9_stands 0 = .ok (.iload_n 2, 1) := by decide +kernel
theorem dX9_stands_1 : decode cX9_stands 1 = .ok (.ifCond .ne 10, 3) := by decide +kernel
theorem dX9_stands_4 : decode cX9_stands 4 = .ok (.iload_n 3, 1) := by decide +kernel
theorem dX9_stands_5 : decode cX9_stands 5 = .ok (.invokestatic 215, 3) := by decide +kernel
theorem dX9_stands_8 : decode cX9_stands 8 = .ok (.goto 7, 3) := by decide +kernel
theorem dX9_stands_11 : decode cX9_stands 11 = .ok (.iload_n 3, 1) := by decide +kernel
theorem dX9_stands_12 : decode cX9_stands 12 = .ok (.invokestatic 222, 3) := by decide +kernel
theorem dX9_stands_15 : decode cX9_stands 15 = .ok (.istore 4, 2) := by decide +kernel
theorem dX9_stands_17 : decode cX9_stands 17 = .ok (.aload_n 0, 1) := by decide +kernel
theorem dX9_stands_18 : decode cX9_stands 18 = .ok (.iload_n 1, 1) := by decide +kernel
theorem dX9_stands_19 : decode cX9_stands 19 = .ok (.invokevirtual 204, 3) := by decide +kernel
theorem dX9_stands_22 : decode cX9_stands 22 = .ok (.ifCond .eq 20, 3) := by decide +kernel
theorem dX9_stands_25 : decode cX9_stands 25 = .ok (.iload_n 2, 1) := by decide +kernel
theorem dX9_stands_26 : decode cX9_stands 26 = .ok (.i2l, 1) := by decide +kernel
theorem dX9_stands_27 : decode cX9_stands 27 = .ok (.lconst 0, 1) := by decide +kernel
theorem dX9_stands_28 : decode cX9_stands 28 = .ok (.ldc2_w 207, 3) := by decide +kernel
theorem dX9_stands_31 : decode cX9_stands 31 = .ok (.invokestatic 55, 3) := by decide +kernel
theorem dX9_stands_34 : decode cX9_stands 34 = .ok (.ifCond .eq 8, 3) := by decide +kernel
theorem dX9_stands_37 : decode cX9_stands 37 = .ok (.iload 4, 2) := by decide +kernel
theorem dX9_stands_39 : decode cX9_stands 39 = .ok (.ifCond .ne 5, 3) := by decide +kernel
theorem dX9_stands_42 : decode cX9_stands 42 = .ok (.iconst (-1), 1) := by decide +kernel
theorem dX9_stands_43 : decode cX9_stands 43 = .ok (.ireturn, 1) := by decide +kernel
theorem dX9_stands_44 : decode cX9_stands 44 = .ok (.iload_n 2, 1) := by decide +kernel
theorem dX9_stands_45 : decode cX9_stands 45 = .ok (.iconst 1, 1) := by decide +kernel
theorem dX9_stands_46 : decode cX9_stands 46 = .ok (.if_icmp .ne 16, 3) := by decide +kernel
theorem dX9_stands_49 : decode cX9_stands 49 = .ok (.iload_n 3, 1) := by decide +kernel
theorem dX9_stands_50 : decode cX9_stands 50 = .ok (.aload_n 0, 1) := by decide +kernel
theorem dX9_stands_51 : decode cX9_stands 51 = .ok (.getfield 7, 3) := by decide +kernel
theorem dX9_stands_54 : decode cX9_stands 54 = .ok (.bipush 36, 2) := by decide +kernel
theorem dX9_stands_56 : decode cX9_stands 56 = .ok (.iload_n 1, 1) := by decide +kernel
theorem dX9_stands_57 : decode cX9_stands 57 = .ok (.iadd, 1) := by decide +kernel
theorem dX9_stands_58 : decode cX9_stands 58 = .ok (.iaload, 1) := by decide +kernel
theorem dX9_stands_59 : decode cX9_stands 59 = .ok (.if_icmp .gt 21, 3) := by decide +kernel
theorem dX9_stands_62 : decode cX9_stands 62 = .ok (.iload_n 2, 1) := by decide +kernel
theorem dX9_stands_63 : decode cX9_stands 63 = .ok (.iconst 2, 1) := by decide +kernel
theorem dX9_stands_64 : decode cX9_stands 64 = .ok (.if_icmp .ne 18, 3) := by decide +kernel
theorem dX9_stands_67 : decode cX9_stands 67 = .ok (.iload_n 3, 1) := by decide +kernel
theorem dX9_stands_68 : decode cX9_stands 68 = .ok (.aload_n 0, 1) := by decide +kernel
theorem dX9_stands_69 : decode cX9_stands 69 = .ok (.getfield 7, 3) := by decide +kernel
theorem dX9_stands_72 : decode cX9_stands 72 = .ok (.bipush 32, 2) := by decide +kernel
theorem dX9_stands_74 : decode cX9_stands 74 = .ok (.iload_n 1, 1) := by decide +kernel
theorem dX9_stands_75 : decode cX9_stands 75 = .ok (.iadd, 1) := by decide +kernel
theorem dX9_stands_76 : decode cX9_stands 76 = .ok (.iaload, 1) := by decide +kernel
theorem dX9_stands_77 : decode cX9_stands 77 = .ok (.if_icmp .ge 5, 3) := by decide +kernel
theorem dX9_stands_80 : decode cX9_stands 80 = .ok (.iconst (-1), 1) := by decide +kernel
theorem dX9_stands_81 : decode cX9_stands 81 = .ok (.ireturn, 1) := by decide +kernel
theorem dX9_stands_82 : decode cX9_stands 82 = .ok (.aload_n 0, 1) := by decide +kernel
theorem dX9_stands_83 : decode cX9_stands 83 = .ok (.iconst 1, 1) := by decide +kernel
theorem dX9_stands_84 : decode cX9_stands 84 = .ok (.bipush 28, 2) := by decide +kernel
theorem dX9_stands_86 : decode cX9_stands 86 = .ok (.iconst 4, 1) := by decide +kernel
theorem dX9_stands_87 : decode cX9_stands 87 = .ok (.iload_n 2, 1) := by decide +kernel
theorem dX9_stands_88 : decode cX9_stands 88 = .ok (.imul, 1) := by decide +kernel
theorem dX9_stands_89 : decode cX9_stands 89 = .ok (.iadd, 1) := by decide +kernel
theorem dX9_stands_90 : decode cX9_stands 90 = .ok (.iload_n 1, 1) := by decide +kernel
theorem dX9_stands_91 : decode cX9_stands 91 = .ok (.iadd, 1) := by decide +kernel
theorem dX9_stands_92 : decode cX9_stands 92 = .ok (.iload_n 3, 1) := by decide +kernel
theorem dX9_stands_93 : decode cX9_stands 93 = .ok (.invokevirtual 211, 3) := by decide +kernel
theorem dX9_stands_96 : decode cX9_stands 96 = .ok (.ireturn, 1) := by decide +kernel
theorem dX9_stand_0 : decode cX9_stand 0 = .ok (.aload_n 0, 1) := by decide +kernel
theorem dX9_stand_1 : decode cX9_stand 1 = .ok (.iload_n 1, 1) := by decide +kernel
theorem dX9_stand_2 : decode cX9_stand 2 = .ok (.iload_n 2, 1) := by decide +kernel
theorem dX9_stand_3 : decode cX9_stand 3 = .ok (.iload_n 3, 1) := by decide +kernel
theorem dX9_stand_4 : decode cX9_stand 4 = .ok (.invokevirtual 225, 3) := by decide +kernel
theorem dX9_stand_7 : decode cX9_stand 7 = .ok (.ireturn, 1) := by decide +kernel
theorem dX9_rain_0 : decode cX9_rain 0 = .ok (.iload_n 1, 1) := by decide +kernel
theorem dX9_rain_1 : decode cX9_rain 1 = .ok (.invokestatic 222, 3) := by decide +kernel
theorem dX9_rain_4 : decode cX9_rain 4 = .ok (.ifCond .eq 10, 3) := by decide +kernel
theorem dX9_rain_7 : decode cX9_rain 7 = .ok (.iload_n 2, 1) := by decide +kernel
theorem dX9_rain_8 : decode cX9_rain 8 = .ok (.invokestatic 222, 3) := by decide +kernel
theorem dX9_rain_11 : decode cX9_rain 11 = .ok (.ifCond .ne 5, 3) := by decide +kernel
theorem dX9_rain_14 : decode cX9_rain 14 = .ok (.iconst (-1), 1) := by decide +kernel
theorem dX9_rain_15 : decode cX9_rain 15 = .ok (.ireturn, 1) := by decide +kernel
theorem dX9_rain_16 : decode cX9_rain 16 = .ok (.aload_n 0, 1) := by decide +kernel
theorem dX9_rain_17 : decode cX9_rain 17 = .ok (.getfield 7, 3) := by decide +kernel
theorem dX9_rain_20 : decode cX9_rain 20 = .ok (.bipush 41, 2) := by decide +kernel
theorem dX9_rain_22 : decode cX9_rain 22 = .ok (.iload_n 2, 1) := by decide +kernel
theorem dX9_rain_23 : decode cX9_rain 23 = .ok (.iastore, 1) := by decide +kernel
theorem dX9_rain_24 : decode cX9_rain 24 = .ok (.aload_n 0, 1) := by decide +kernel
theorem dX9_rain_25 : decode cX9_rain 25 = .ok (.iconst 1, 1) := by decide +kernel
theorem dX9_rain_26 : decode cX9_rain 26 = .ok (.bipush 40, 2) := by decide +kernel
theorem dX9_rain_28 : decode cX9_rain 28 = .ok (.iload_n 1, 1) := by decide +kernel
theorem dX9_rain_29 : decode cX9_rain 29 = .ok (.invokevirtual 211, 3) := by decide +kernel
theorem dX9_rain_32 : decode cX9_rain 32 = .ok (.ireturn, 1) := by decide +kernel
theorem dX9_pave_0 : decode cX9_pave 0 = .ok (.iload_n 1, 1) := by decide +kernel
theorem dX9_pave_1 : decode cX9_pave 1 = .ok (.invokestatic 215, 3) := by decide +kernel
theorem dX9_pave_4 : decode cX9_pave 4 = .ok (.ifCond .eq 15, 3) := by decide +kernel
theorem dX9_pave_7 : decode cX9_pave 7 = .ok (.iload_n 2, 1) := by decide +kernel
theorem dX9_pave_8 : decode cX9_pave 8 = .ok (.invokestatic 215, 3) := by decide +kernel
theorem dX9_pave_11 : decode cX9_pave 11 = .ok (.ifCond .eq 8, 3) := by decide +kernel
theorem dX9_pave_14 : decode cX9_pave 14 = .ok (.iload_n 1, 1) := by decide +kernel
theorem dX9_pave_15 : decode cX9_pave 15 = .ok (.iload_n 2, 1) := by decide +kernel
theorem dX9_pave_16 : decode cX9_pave 16 = .ok (.if_icmp .ne 5, 3) := by decide +kernel
theorem dX9_pave_19 : decode cX9_pave 19 = .ok (.iconst (-1), 1) := by decide +kernel
theorem dX9_pave_20 : decode cX9_pave 20 = .ok (.ireturn, 1) := by decide +kernel
theorem dX9_pave_21 : decode cX9_pave 21 = .ok (.aload_n 0, 1) := by decide +kernel
theorem dX9_pave_22 : decode cX9_pave 22 = .ok (.getfield 7, 3) := by decide +kernel
theorem dX9_pave_25 : decode cX9_pave 25 = .ok (.bipush 42, 2) := by decide +kernel
theorem dX9_pave_27 : decode cX9_pave 27 = .ok (.iaload, 1) := by decide +kernel
theorem dX9_pave_28 : decode cX9_pave 28 = .ok (.istore_n 3, 1) := by decide +kernel
theorem dX9_pave_29 : decode cX9_pave 29 = .ok (.iload_n 3, 1) := by decide +kernel
theorem dX9_pave_30 : decode cX9_pave 30 = .ok (.bipush 9, 2) := by decide +kernel
theorem dX9_pave_32 : decode cX9_pave 32 = .ok (.if_icmp .ne 6, 3) := by decide +kernel
theorem dX9_pave_35 : decode cX9_pave 35 = .ok (.bipush (-3), 2) := by decide +kernel
theorem dX9_pave_37 : decode cX9_pave 37 = .ok (.ireturn, 1) := by decide +kernel
theorem dX9_pave_38 : decode cX9_pave 38 = .ok (.aload_n 0, 1) := by decide +kernel
theorem dX9_pave_39 : decode cX9_pave 39 = .ok (.getfield 7, 3) := by decide +kernel
theorem dX9_pave_42 : decode cX9_pave 42 = .ok (.bipush 43, 2) := by decide +kernel
theorem dX9_pave_44 : decode cX9_pave 44 = .ok (.iload_n 3, 1) := by decide +kernel
theorem dX9_pave_45 : decode cX9_pave 45 = .ok (.iadd, 1) := by decide +kernel
theorem dX9_pave_46 : decode cX9_pave 46 = .ok (.iload_n 1, 1) := by decide +kernel
theorem dX9_pave_47 : decode cX9_pave 47 = .ok (.iastore, 1) := by decide +kernel
theorem dX9_pave_48 : decode cX9_pave 48 = .ok (.aload_n 0, 1) := by decide +kernel
theorem dX9_pave_49 : decode cX9_pave 49 = .ok (.getfield 7, 3) := by decide +kernel
theorem dX9_pave_52 : decode cX9_pave 52 = .ok (.bipush 52, 2) := by decide +kernel
theorem dX9_pave_54 : decode cX9_pave 54 = .ok (.iload_n 3, 1) := by decide +kernel
theorem dX9_pave_55 : decode cX9_pave 55 = .ok (.iadd, 1) := by decide +kernel
theorem dX9_pave_56 : decode cX9_pave 56 = .ok (.iload_n 2, 1) := by decide +kernel
theorem dX9_pave_57 : decode cX9_pave 57 = .ok (.iastore, 1) := by decide +kernel
theorem dX9_pave_58 : decode cX9_pave 58 = .ok (.aload_n 0, 1) := by decide +kernel
theorem dX9_pave_59 : decode cX9_pave 59 = .ok (.getfield 7, 3) := by decide +kernel
theorem dX9_pave_62 : decode cX9_pave 62 = .ok (.bipush 42, 2) := by decide +kernel
theorem dX9_pave_64 : decode cX9_pave 64 = .ok (.dup2, 1) := by decide +kernel
theorem dX9_pave_65 : decode cX9_pave 65 = .ok (.iaload, 1) := by decide +kernel
theorem dX9_pave_66 : decode cX9_pave 66 = .ok (.iconst 1, 1) := by decide +kernel
theorem dX9_pave_67 : decode cX9_pave 67 = .ok (.iadd, 1) := by decide +kernel
theorem dX9_pave_68 : decode cX9_pave 68 = .ok (.iastore, 1) := by decide +kernel
theorem dX9_pave_69 : decode cX9_pave 69 = .ok (.aload_n 0, 1) := by decide +kernel
theorem dX9_pave_70 : decode cX9_pave 70 = .ok (.getfield 7, 3) := by decide +kernel
theorem dX9_pave_73 : decode cX9_pave 73 = .ok (.bipush 42, 2) := by decide +kernel
theorem dX9_pave_75 : decode cX9_pave 75 = .ok (.iaload, 1) := by decide +kernel
theorem dX9_pave_76 : decode cX9_pave 76 = .ok (.ireturn, 1) := by decide +kernel
theorem dX9_at_0 : decode cX9_at 0 = .ok (.aload_n 0, 1) := by decide +kernel
theorem dX9_at_1 : decode cX9_at 1 = .ok (.iload_n 1, 1) := by decide +kernel
theorem dX9_at_2 : decode cX9_at 2 = .ok (.invokevirtual 198, 3) := by decide +kernel
theorem dX9_at_5 : decode cX9_at 5 = .ok (.ifCond .eq 21, 3) := by decide +kernel
theorem dX9_at_8 : decode cX9_at 8 = .ok (.iload_n 2, 1) := by decide +kernel
theorem dX9_at_9 : decode cX9_at 9 = .ok (.invokestatic 222, 3) := by decide +kernel
theorem dX9_at_12 : decode cX9_at 12 = .ok (.ifCond .eq 14, 3) := by decide +kernel
theorem dX9_at_15 : decode cX9_at 15 = .ok (.aload_n 0, 1) := by decide +kernel
theorem dX9_at_16 : decode cX9_at 16 = .ok (.iconst 0, 1) := by decide +kernel
theorem dX9_at_17 : decode cX9_at 17 = .ok (.iload_n 1, 1) := by decide +kernel
theorem dX9_at_18 : decode cX9_at 18 = .ok (.iload_n 2, 1) := by decide +kernel
theorem dX9_at_19 : decode cX9_at 19 = .ok (.iconst 0, 1) := by decide +kernel
theorem dX9_at_20 : decode cX9_at 20 = .ok (.invokevirtual 178, 3) := by decide +kernel
theorem dX9_at_23 : decode cX9_at 23 = .ok (.goto 4, 3) := by decide +kernel
theorem dX9_at_26 : decode cX9_at 26 = .ok (.iconst (-1), 1) := by decide +kernel
theorem dX9_at_27 : decode cX9_at 27 = .ok (.ireturn, 1) := by decide +kernel
theorem dX9_reads_0 : decode cX9_reads 0 = .ok (.aload_n 0, 1) := by decide +kernel
theorem dX9_reads_1 : decode cX9_reads 1 = .ok (.iload_n 1, 1) := by decide +kernel
theorem dX9_reads_2 : decode cX9_reads 2 = .ok (.invokevirtual 204, 3) := by decide +kernel
theorem dX9_reads_5 : decode cX9_reads 5 = .ok (.ifCond .eq 20, 3) := by decide +kernel
theorem dX9_reads_8 : decode cX9_reads 8 = .ok (.iload_n 2, 1) := by decide +kernel
theorem dX9_reads_9 : decode cX9_reads 9 = .ok (.invokestatic 222, 3) := by decide +kernel
theorem dX9_reads_12 : decode cX9_reads 12 = .ok (.ifCond .eq 13, 3) := by decide +kernel
theorem dX9_reads_15 : decode cX9_reads 15 = .ok (.iload_n 3, 1) := by decide +kernel
theorem dX9_reads_16 : decode cX9_reads 16 = .ok (.i2l, 1) := by decide +kernel
theorem dX9_reads_17 : decode cX9_reads 17 = .ok (.lconst 0, 1) := by decide +kernel
theorem dX9_reads_18 : decode cX9_reads 18 = .ok (.lconst 1, 1) := by decide +kernel
theorem dX9_reads_19 : decode cX9_reads 19 = .ok (.invokestatic 55, 3) := by decide +kernel
theorem dX9_reads_22 : decode cX9_reads 22 = .ok (.ifCond .ne 5, 3) := by decide +kernel
theorem dX9_reads_25 : decode cX9_reads 25 = .ok (.iconst (-1), 1) := by decide +kernel
theorem dX9_reads_26 : decode cX9_reads 26 = .ok (.ireturn, 1) := by decide +kernel
theorem dX9_reads_27 : decode cX9_reads 27 = .ok (.iconst 0, 1) := by decide +kernel
theorem dX9_reads_28 : decode cX9_reads 28 = .ok (.istore 4, 2) := by decide +kernel
theorem dX9_reads_30 : decode cX9_reads 30 = .ok (.iconst 0, 1) := by decide +kernel
theorem dX9_reads_31 : decode cX9_reads 31 = .ok (.istore 5, 2) := by decide +kernel
theorem dX9_reads_33 : decode cX9_reads 33 = .ok (.iload 5, 2) := by decide +kernel
theorem dX9_reads_35 : decode cX9_reads 35 = .ok (.aload_n 0, 1) := by decide +kernel
theorem dX9_reads_36 : decode cX9_reads 36 = .ok (.getfield 150, 3) := by decide +kernel
theorem dX9_reads_39 : decode cX9_reads 39 = .ok (.if_icmp .ge 44, 3) := by decide +kernel
theorem dX9_reads_42 : decode cX9_reads 42 = .ok (.iload 4, 2) := by decide +kernel
theorem dX9_reads_44 : decode cX9_reads 44 = .ok (.aload_n 0, 1) := by decide +kernel
theorem dX9_reads_45 : decode cX9_reads 45 = .ok (.iconst 0, 1) := by decide +kernel
theorem dX9_reads_46 : decode cX9_reads 46 = .ok (.iload_n 1, 1) := by decide +kernel
theorem dX9_reads_47 : decode cX9_reads 47 = .ok (.iload 5, 2) := by decide +kernel
theorem dX9_reads_49 : decode cX9_reads 49 = .ok (.iload_n 2, 1) := by decide +kernel
theorem dX9_reads_50 : decode cX9_reads 50 = .ok (.iload_n 3, 1) := by decide +kernel
theorem dX9_reads_51 : decode cX9_reads 51 = .ok (.iconst 1, 1) := by decide +kernel
theorem dX9_reads_52 : decode cX9_reads 52 = .ok (.if_icmp .ne 7, 3) := by decide +kernel
theorem dX9_reads_55 : decode cX9_reads 55 = .ok (.iconst 1, 1) := by decide +kernel
theorem dX9_reads_56 : decode cX9_reads 56 = .ok (.goto 4, 3) := by decide +kernel
theorem dX9_reads_59 : decode cX9_reads 59 = .ok (.iconst 0, 1) := by decide +kernel
theorem dX9_reads_60 : decode cX9_reads 60 = .ok (.invokevirtual 182, 3) := by decide +kernel
theorem dX9_reads_63 : decode cX9_reads 63 = .ok (.ifCond .eq 10, 3) := by decide +kernel
theorem dX9_reads_66 : decode cX9_reads 66 = .ok (.iconst 1, 1) := by decide +kernel
theorem dX9_reads_67 : decode cX9_reads 67 = .ok (.iload 5, 2) := by decide +kernel
theorem dX9_reads_69 : decode cX9_reads 69 = .ok (.ishl, 1) := by decide +kernel
theorem dX9_reads_70 : decode cX9_reads 70 = .ok (.goto 4, 3) := by decide +kernel
theorem dX9_reads_73 : decode cX9_reads 73 = .ok (.iconst 0, 1) := by decide +kernel
theorem dX9_reads_74 : decode cX9_reads 74 = .ok (.ior, 1) := by decide +kernel
theorem dX9_reads_75 : decode cX9_reads 75 = .ok (.istore 4, 2) := by decide +kernel
theorem dX9_reads_77 : decode cX9_reads 77 = .ok (.iinc 5 1, 3) := by decide +kernel
theorem dX9_reads_80 : decode cX9_reads 80 = .ok (.goto (-47), 3) := by decide +kernel
theorem dX9_reads_83 : decode cX9_reads 83 = .ok (.iload 4, 2) := by decide +kernel
theorem dX9_reads_85 : decode cX9_reads 85 = .ok (.ireturn, 1) := by decide +kernel
theorem dX9_knows_0 : decode cX9_knows 0 = .ok (.aload_n 0, 1) := by decide +kernel
theorem dX9_knows_1 : decode cX9_knows 1 = .ok (.iload_n 1, 1) := by decide +kernel
theorem dX9_knows_2 : decode cX9_knows 2 = .ok (.invokevirtual 204, 3) := by decide +kernel
theorem dX9_knows_5 : decode cX9_knows 5 = .ok (.ifCond .eq 22, 3) := by decide +kernel
theorem dX9_knows_8 : decode cX9_knows 8 = .ok (.iload_n 2, 1) := by decide +kernel
theorem dX9_knows_9 : decode cX9_knows 9 = .ok (.invokestatic 222, 3) := by decide +kernel
theorem dX9_knows_12 : decode cX9_knows 12 = .ok (.ifCond .eq 15, 3) := by decide +kernel
theorem dX9_knows_15 : decode cX9_knows 15 = .ok (.iload_n 3, 1) := by decide +kernel
theorem dX9_knows_16 : decode cX9_knows 16 = .ok (.i2l, 1) := by decide +kernel
theorem dX9_knows_17 : decode cX9_knows 17 = .ok (.lconst 0, 1) := by decide +kernel
theorem dX9_knows_18 : decode cX9_knows 18 = .ok (.ldc2_w 207, 3) := by decide +kernel
theorem dX9_knows_21 : decode cX9_knows 21 = .ok (.invokestatic 55, 3) := by decide +kernel
theorem dX9_knows_24 : decode cX9_knows 24 = .ok (.ifCond .ne 5, 3) := by decide +kernel
theorem dX9_knows_27 : decode cX9_knows 27 = .ok (.iconst (-1), 1) := by decide +kernel
theorem dX9_knows_28 : decode cX9_knows 28 = .ok (.ireturn, 1) := by decide +kernel
theorem dX9_knows_29 : decode cX9_knows 29 = .ok (.aload_n 0, 1) := by decide +kernel
theorem dX9_knows_30 : decode cX9_knows 30 = .ok (.iconst 0, 1) := by decide +kernel
theorem dX9_knows_31 : decode cX9_knows 31 = .ok (.invokevirtual 189, 3) := by decide +kernel
theorem dX9_knows_34 : decode cX9_knows 34 = .ok (.iconst 0, 1) := by decide +kernel
theorem dX9_knows_35 : decode cX9_knows 35 = .ok (.istore 4, 2) := by decide +kernel
theorem dX9_knows_37 : decode cX9_knows 37 = .ok (.iconst 0, 1) := by decide +kernel
theorem dX9_knows_38 : decode cX9_knows 38 = .ok (.istore 5, 2) := by decide +kernel
theorem dX9_knows_40 : decode cX9_knows 40 = .ok (.iload 5, 2) := by decide +kernel
theorem dX9_knows_42 : decode cX9_knows 42 = .ok (.bipush 10, 2) := by decide +kernel
theorem dX9_knows_44 : decode cX9_knows 44 = .ok (.if_icmp .ge 76, 3) := by decide +kernel
theorem dX9_knows_47 : decode cX9_knows 47 = .ok (.iload_n 3, 1) := by decide +kernel
theorem dX9_knows_48 : decode cX9_knows 48 = .ok (.ifCond .ne 18, 3) := by decide +kernel
theorem dX9_knows_51 : decode cX9_knows 51 = .ok (.aload_n 0, 1) := by decide +kernel
theorem dX9_knows_52 : decode cX9_knows 52 = .ok (.getfield 25, 3) := by decide +kernel
theorem dX9_knows_55 : decode cX9_knows 55 = .ok (.bipush 10, 2) := by decide +kernel
theorem dX9_knows_57 : decode cX9_knows 57 = .ok (.iload_n 1, 1) := by decide +kernel
theorem dX9_knows_58 : decode cX9_knows 58 = .ok (.imul, 1) := by decide +kernel
theorem dX9_knows_59 : decode cX9_knows 59 = .ok (.iload 5, 2) := by decide +kernel
theorem dX9_knows_61 : decode cX9_knows 61 = .ok (.iadd, 1) := by decide +kernel
theorem dX9_knows_62 : decode cX9_knows 62 = .ok (.iaload, 1) := by decide +kernel
theorem dX9_knows_63 : decode cX9_knows 63 = .ok (.goto 30, 3) := by decide +kernel
theorem dX9_knows_66 : decode cX9_knows 66 = .ok (.iload_n 3, 1) := by decide +kernel
theorem dX9_knows_67 : decode cX9_knows 67 = .ok (.iconst 1, 1) := by decide +kernel
theorem dX9_knows_68 : decode cX9_knows 68 = .ok (.if_icmp .ne 18, 3) := by decide +kernel
theorem dX9_knows_71 : decode cX9_knows 71 = .ok (.aload_n 0, 1) := by decide +kernel
theorem dX9_knows_72 : decode cX9_knows 72 = .ok (.getfield 28, 3) := by decide +kernel
theorem dX9_knows_75 : decode cX9_knows 75 = .ok (.bipush 10, 2) := by decide +kernel
theorem dX9_knows_77 : decode cX9_knows 77 = .ok (.iload_n 1, 1) := by decide +kernel
theorem dX9_knows_78 : decode cX9_knows 78 = .ok (.imul, 1) := by decide +kernel
theorem dX9_knows_79 : decode cX9_knows 79 = .ok (.iload 5, 2) := by decide +kernel
theorem dX9_knows_81 : decode cX9_knows 81 = .ok (.iadd, 1) := by decide +kernel
theorem dX9_knows_82 : decode cX9_knows 82 = .ok (.iaload, 1) := by decide +kernel
theorem dX9_knows_83 : decode cX9_knows 83 = .ok (.goto 10, 3) := by decide +kernel
theorem dX9_knows_86 : decode cX9_knows 86 = .ok (.aload_n 0, 1) := by decide +kernel
theorem dX9_knows_87 : decode cX9_knows 87 = .ok (.iload_n 1, 1) := by decide +kernel
theorem dX9_knows_88 : decode cX9_knows 88 = .ok (.iload 5, 2) := by decide +kernel
theorem dX9_knows_90 : decode cX9_knows 90 = .ok (.invokevirtual 186, 3) := by decide +kernel
theorem dX9_knows_93 : decode cX9_knows 93 = .ok (.istore 6, 2) := by decide +kernel
theorem dX9_knows_95 : decode cX9_knows 95 = .ok (.iload 4, 2) := by decide +kernel
theorem dX9_knows_97 : decode cX9_knows 97 = .ok (.iload 6, 2) := by decide +kernel
theorem dX9_knows_99 : decode cX9_knows 99 = .ok (.iload_n 2, 1) := by decide +kernel
theorem dX9_knows_100 : decode cX9_knows 100 = .ok (.if_icmp .gt 10, 3) := by decide +kernel
theorem dX9_knows_103 : decode cX9_knows 103 = .ok (.iconst 1, 1) := by decide +kernel
theorem dX9_knows_104 : decode cX9_knows 104 = .ok (.iload 5, 2) := by decide +kernel
theorem dX9_knows_106 : decode cX9_knows 106 = .ok (.ishl, 1) := by decide +kernel
theorem dX9_knows_107 : decode cX9_knows 107 = .ok (.goto 4, 3) := by decide +kernel
theorem dX9_knows_110 : decode cX9_knows 110 = .ok (.iconst 0, 1) := by decide +kernel
theorem dX9_knows_111 : decode cX9_knows 111 = .ok (.ior, 1) := by decide +kernel
theorem dX9_knows_112 : decode cX9_knows 112 = .ok (.istore 4, 2) := by decide +kernel
theorem dX9_knows_114 : decode cX9_knows 114 = .ok (.iinc 5 1, 3) := by decide +kernel
theorem dX9_knows_117 : decode cX9_knows 117 = .ok (.goto (-77), 3) := by decide +kernel
theorem dX9_knows_120 : decode cX9_knows 120 = .ok (.iload 4, 2) := by decide +kernel
theorem dX9_knows_122 : decode cX9_knows 122 = .ok (.ireturn, 1) := by decide +kernel
theorem dX9_first_0 : decode cX9_first 0 = .ok (.aload_n 0, 1) := by decide +kernel
theorem dX9_first_1 : decode cX9_first 1 = .ok (.iload_n 1, 1) := by decide +kernel
theorem dX9_first_2 : decode cX9_first 2 = .ok (.invokevirtual 204, 3) := by decide +kernel
theorem dX9_first_5 : decode cX9_first 5 = .ok (.ifCond .eq 10, 3) := by decide +kernel
theorem dX9_first_8 : decode cX9_first 8 = .ok (.iload_n 2, 1) := by decide +kernel
theorem dX9_first_9 : decode cX9_first 9 = .ok (.invokestatic 229, 3) := by decide +kernel
theorem dX9_first_12 : decode cX9_first 12 = .ok (.ifCond .ne 5, 3) := by decide +kernel
theorem dX9_first_15 : decode cX9_first 15 = .ok (.iconst (-1), 1) := by decide +kernel
theorem dX9_first_16 : decode cX9_first 16 = .ok (.ireturn, 1) := by decide +kernel
theorem dX9_first_17 : decode cX9_first 17 = .ok (.aload_n 0, 1) := by decide +kernel
theorem dX9_first_18 : decode cX9_first 18 = .ok (.iconst 0, 1) := by decide +kernel
theorem dX9_first_19 : decode cX9_first 19 = .ok (.invokevirtual 189, 3) := by decide +kernel
theorem dX9_first_22 : decode cX9_first 22 = .ok (.aload_n 0, 1) := by decide +kernel
theorem dX9_first_23 : decode cX9_first 23 = .ok (.iload_n 1, 1) := by decide +kernel
theorem dX9_first_24 : decode cX9_first 24 = .ok (.iload_n 2, 1) := by decide +kernel
theorem dX9_first_25 : decode cX9_first 25 = .ok (.invokevirtual 186, 3) := by decide +kernel
theorem dX9_first_28 : decode cX9_first 28 = .ok (.sipush 1000, 3) := by decide +kernel
theorem dX9_first_31 : decode cX9_first 31 = .ok (.if_icmp .ge 12, 3) := by decide +kernel
theorem dX9_first_34 : decode cX9_first 34 = .ok (.aload_n 0, 1) := by decide +kernel
theorem dX9_first_35 : decode cX9_first 35 = .ok (.iload_n 1, 1) := by decide +kernel
theorem dX9_first_36 : decode cX9_first 36 = .ok (.iload_n 2, 1) := by decide +kernel
theorem dX9_first_37 : decode cX9_first 37 = .ok (.invokevirtual 186, 3) := by decide +kernel
theorem dX9_first_40 : decode cX9_first 40 = .ok (.goto 5, 3) := by decide +kernel
theorem dX9_first_43 : decode cX9_first 43 = .ok (.bipush (-4), 2) := by decide +kernel
theorem dX9_first_45 : decode cX9_first 45 = .ok (.ireturn, 1) := by decide +kernel
theorem dX9_all_0 : decode cX9_all 0 = .ok (.iload_n 1, 1) := by decide +kernel
theorem dX9_all_1 : decode cX9_all 1 = .ok (.invokestatic 229, 3) := by decide +kernel
theorem dX9_all_4 : decode cX9_all 4 = .ok (.ifCond .ne 5, 3) := by decide +kernel
theorem dX9_all_7 : decode cX9_all 7 = .ok (.iconst (-1), 1) := by decide +kernel
theorem dX9_all_8 : decode cX9_all 8 = .ok (.ireturn, 1) := by decide +kernel
theorem dX9_all_9 : decode cX9_all 9 = .ok (.aload_n 0, 1) := by decide +kernel
theorem dX9_all_10 : decode cX9_all 10 = .ok (.iconst 0, 1) := by decide +kernel
theorem dX9_all_11 : decode cX9_all 11 = .ok (.invokevirtual 189, 3) := by decide +kernel
theorem dX9_all_14 : decode cX9_all 14 = .ok (.iconst 0, 1) := by decide +kernel
theorem dX9_all_15 : decode cX9_all 15 = .ok (.istore_n 2, 1) := by decide +kernel
theorem dX9_all_16 : decode cX9_all 16 = .ok (.iconst 0, 1) := by decide +kernel
theorem dX9_all_17 : decode cX9_all 17 = .ok (.istore_n 3, 1) := by decide +kernel
theorem dX9_all_18 : decode cX9_all 18 = .ok (.iload_n 3, 1) := by decide +kernel
theorem dX9_all_19 : decode cX9_all 19 = .ok (.aload_n 0, 1) := by decide +kernel
theorem dX9_all_20 : decode cX9_all 20 = .ok (.getfield 153, 3) := by decide +kernel
theorem dX9_all_23 : decode cX9_all 23 = .ok (.if_icmp .ge 31, 3) := by decide +kernel
theorem dX9_all_26 : decode cX9_all 26 = .ok (.iload_n 2, 1) := by decide +kernel
theorem dX9_all_27 : decode cX9_all 27 = .ok (.aload_n 0, 1) := by decide +kernel
theorem dX9_all_28 : decode cX9_all 28 = .ok (.iload_n 3, 1) := by decide +kernel
theorem dX9_all_29 : decode cX9_all 29 = .ok (.iload_n 1, 1) := by decide +kernel
theorem dX9_all_30 : decode cX9_all 30 = .ok (.invokevirtual 186, 3) := by decide +kernel
theorem dX9_all_33 : decode cX9_all 33 = .ok (.sipush 1000, 3) := by decide +kernel
theorem dX9_all_36 : decode cX9_all 36 = .ok (.if_icmp .ge 9, 3) := by decide +kernel
theorem dX9_all_39 : decode cX9_all 39 = .ok (.iconst 1, 1) := by decide +kernel
theorem dX9_all_40 : decode cX9_all 40 = .ok (.iload_n 3, 1) := by decide +kernel
theorem dX9_all_41 : decode cX9_all 41 = .ok (.ishl, 1) := by decide +kernel
theorem dX9_all_42 : decode cX9_all 42 = .ok (.goto 4, 3) := by decide +kernel
theorem dX9_all_45 : decode cX9_all 45 = .ok (.iconst 0, 1) := by decide +kernel
theorem dX9_all_46 : decode cX9_all 46 = .ok (.ior, 1) := by decide +kernel
theorem dX9_all_47 : decode cX9_all 47 = .ok (.istore_n 2, 1) := by decide +kernel
theorem dX9_all_48 : decode cX9_all 48 = .ok (.iinc 3 1, 3) := by decide +kernel
theorem dX9_all_51 : decode cX9_all 51 = .ok (.goto (-33), 3) := by decide +kernel
theorem dX9_all_54 : decode cX9_all 54 = .ok (.iload_n 2, 1) := by decide +kernel
theorem dX9_all_55 : decode cX9_all 55 = .ok (.ireturn, 1) := by decide +kernel
theorem dX9_meet_0 : decode cX9_meet 0 = .ok (.aload_n 0, 1) := by decide +kernel
theorem dX9_meet_1 : decode cX9_meet 1 = .ok (.iload_n 1, 1) := by decide +kernel
theorem dX9_meet_2 : decode cX9_meet 2 = .ok (.invokevirtual 198, 3) := by decide +kernel
theorem dX9_meet_5 : decode cX9_meet 5 = .ok (.ifCond .eq 16, 3) := by decide +kernel
theorem dX9_meet_8 : decode cX9_meet 8 = .ok (.aload_n 0, 1) := by decide +kernel
theorem dX9_meet_9 : decode cX9_meet 9 = .ok (.iload_n 2, 1) := by decide +kernel
theorem dX9_meet_10 : decode cX9_meet 10 = .ok (.invokevirtual 198, 3) := by decide +kernel
theorem dX9_meet_13 : decode cX9_meet 13 = .ok (.ifCond .eq 8, 3) := by decide +kernel
theorem dX9_meet_16 : decode cX9_meet 16 = .ok (.iload_n 1, 1) := by decide +kernel
theorem dX9_meet_17 : decode cX9_meet 17 = .ok (.iload_n 2, 1) := by decide +kernel
theorem dX9_meet_18 : decode cX9_meet 18 = .ok (.if_icmp .ne 5, 3) := by decide +kernel
theorem dX9_meet_21 : decode cX9_meet 21 = .ok (.iconst (-1), 1) := by decide +kernel
theorem dX9_meet_22 : decode cX9_meet 22 = .ok (.ireturn, 1) := by decide +kernel
theorem dX9_meet_23 : decode cX9_meet 23 = .ok (.iconst 0, 1) := by decide +kernel
theorem dX9_meet_24 : decode cX9_meet 24 = .ok (.istore_n 3, 1) := by decide +kernel
theorem dX9_meet_25 : decode cX9_meet 25 = .ok (.iload_n 3, 1) := by decide +kernel
theorem dX9_meet_26 : decode cX9_meet 26 = .ok (.bipush 60, 2) := by decide +kernel
theorem dX9_meet_28 : decode cX9_meet 28 = .ok (.if_icmp .ge 41, 3) := by decide +kernel
theorem dX9_meet_31 : decode cX9_meet 31 = .ok (.aload_n 0, 1) := by decide +kernel
theorem dX9_meet_32 : decode cX9_meet 32 = .ok (.iconst 0, 1) := by decide +kernel
theorem dX9_meet_33 : decode cX9_meet 33 = .ok (.iload_n 1, 1) := by decide +kernel
theorem dX9_meet_34 : decode cX9_meet 34 = .ok (.iload_n 3, 1) := by decide +kernel
theorem dX9_meet_35 : decode cX9_meet 35 = .ok (.iconst 0, 1) := by decide +kernel
theorem dX9_meet_36 : decode cX9_meet 36 = .ok (.invokevirtual 178, 3) := by decide +kernel
theorem dX9_meet_39 : decode cX9_meet 39 = .ok (.istore 4, 2) := by decide +kernel
theorem dX9_meet_41 : decode cX9_meet 41 = .ok (.iload 4, 2) := by decide +kernel
theorem dX9_meet_43 : decode cX9_meet 43 = .ok (.bipush (-4), 2) := by decide +kernel
theorem dX9_meet_45 : decode cX9_meet 45 = .ok (.if_icmp .eq 18, 3) := by decide +kernel
theorem dX9_meet_48 : decode cX9_meet 48 = .ok (.iload 4, 2) := by decide +kernel
theorem dX9_meet_50 : decode cX9_meet 50 = .ok (.aload_n 0, 1) := by decide +kernel
theorem dX9_meet_51 : decode cX9_meet 51 = .ok (.iconst 0, 1) := by decide +kernel
theorem dX9_meet_52 : decode cX9_meet 52 = .ok (.iload_n 2, 1) := by decide +kernel
theorem dX9_meet_53 : decode cX9_meet 53 = .ok (.iload_n 3, 1) := by decide +kernel
theorem dX9_meet_54 : decode cX9_meet 54 = .ok (.iconst 0, 1) := by decide +kernel
theorem dX9_meet_55 : decode cX9_meet 55 = .ok (.invokevirtual 178, 3) := by decide +kernel
theorem dX9_meet_58 : decode cX9_meet 58 = .ok (.if_icmp .ne 5, 3) := by decide +kernel
theorem dX9_meet_61 : decode cX9_meet 61 = .ok (.iload_n 3, 1) := by decide +kernel
theorem dX9_meet_62 : decode cX9_meet 62 = .ok (.ireturn, 1) := by decide +kernel
theorem dX9_meet_63 : decode cX9_meet 63 = .ok (.iinc 3 1, 3) := by decide +kernel
theorem dX9_meet_66 : decode cX9_meet 66 = .ok (.goto (-41), 3) := by decide +kernel
theorem dX9_meet_69 : decode cX9_meet 69 = .ok (.bipush (-4), 2) := by decide +kernel
theorem dX9_meet_71 : decode cX9_meet 71 = .ok (.ireturn, 1) := by decide +kernel
theorem dX9_copies_0 : decode cX9_copies 0 = .ok (.iconst 0, 1) := by decide +kernel
theorem dX9_copies_1 : decode cX9_copies 1 = .ok (.istore_n 3, 1) := by decide +kernel
theorem dX9_copies_2 : decode cX9_copies 2 = .ok (.iload_n 3, 1) := by decide +kernel
theorem dX9_copies_3 : decode cX9_copies 3 = .ok (.bipush 61, 2) := by decide +kernel
theorem dX9_copies_5 : decode cX9_copies 5 = .ok (.if_icmp .ge 25, 3) := by decide +kernel
theorem dX9_copies_8 : decode cX9_copies 8 = .ok (.aload_n 0, 1) := by decide +kernel
theorem dX9_copies_9 : decode cX9_copies 9 = .ok (.getfield 7, 3) := by decide +kernel
theorem dX9_copies_12 : decode cX9_copies 12 = .ok (.iload_n 2, 1) := by decide +kernel
theorem dX9_copies_13 : decode cX9_copies 13 = .ok (.iload_n 3, 1) := by decide +kernel
theorem dX9_copies_14 : decode cX9_copies 14 = .ok (.iadd, 1) := by decide +kernel
theorem dX9_copies_15 : decode cX9_copies 15 = .ok (.aload_n 0, 1) := by decide +kernel
theorem dX9_copies_16 : decode cX9_copies 16 = .ok (.getfield 7, 3) := by decide +kernel
theorem dX9_copies_19 : decode cX9_copies 19 = .ok (.iload_n 1, 1) := by decide +kernel
theorem dX9_copies_20 : decode cX9_copies 20 = .ok (.iload_n 3, 1) := by decide +kernel
theorem dX9_copies_21 : decode cX9_copies 21 = .ok (.iadd, 1) := by decide +kernel
theorem dX9_copies_22 : decode cX9_copies 22 = .ok (.iaload, 1) := by decide +kernel
theorem dX9_copies_23 : decode cX9_copies 23 = .ok (.iastore, 1) := by decide +kernel
theorem dX9_copies_24 : decode cX9_copies 24 = .ok (.iinc 3 1, 3) := by decide +kernel
theorem dX9_copies_27 : decode cX9_copies 27 = .ok (.goto (-25), 3) := by decide +kernel
theorem dX9_copies_30 : decode cX9_copies 30 = .ok (.return_, 1) := by decide +kernel
theorem dX9_isMore_0 : decode cX9_isMore 0 = .ok (.iload_n 1, 1) := by decide +kernel
theorem dX9_isMore_1 : decode cX9_isMore 1 = .ok (.aload_n 0, 1) := by decide +kernel
theorem dX9_isMore_2 : decode cX9_isMore 2 = .ok (.getfield 232, 3) := by decide +kernel
theorem dX9_isMore_5 : decode cX9_isMore 5 = .ok (.if_icmp .le 7, 3) := by decide +kernel
theorem dX9_isMore_8 : decode cX9_isMore 8 = .ok (.iconst 1, 1) := by decide +kernel
theorem dX9_isMore_9 : decode cX9_isMore 9 = .ok (.goto 4, 3) := by decide +kernel
theorem dX9_isMore_12 : decode cX9_isMore 12 = .ok (.iconst 0, 1) := by decide +kernel
theorem dX9_isMore_13 : decode cX9_isMore 13 = .ok (.istore_n 2, 1) := by decide +kernel
theorem dX9_isMore_14 : decode cX9_isMore 14 = .ok (.aload_n 0, 1) := by decide +kernel
theorem dX9_isMore_15 : decode cX9_isMore 15 = .ok (.iload_n 2, 1) := by decide +kernel
theorem dX9_isMore_16 : decode cX9_isMore 16 = .ok (.ifCond .eq 7, 3) := by decide +kernel
theorem dX9_isMore_19 : decode cX9_isMore 19 = .ok (.iload_n 1, 1) := by decide +kernel
theorem dX9_isMore_20 : decode cX9_isMore 20 = .ok (.goto 7, 3) := by decide +kernel
theorem dX9_isMore_23 : decode cX9_isMore 23 = .ok (.aload_n 0, 1) := by decide +kernel
theorem dX9_isMore_24 : decode cX9_isMore 24 = .ok (.getfield 232, 3) := by decide +kernel
theorem dX9_isMore_27 : decode cX9_isMore 27 = .ok (.putfield 232, 3) := by decide +kernel
theorem dX9_isMore_30 : decode cX9_isMore 30 = .ok (.iload_n 2, 1) := by decide +kernel
theorem dX9_isMore_31 : decode cX9_isMore 31 = .ok (.ireturn, 1) := by decide +kernel
theorem dX9_best_0 : decode cX9_best 0 = .ok (.aload_n 0, 1) := by decide +kernel
theorem dX9_best_1 : decode cX9_best 1 = .ok (.iload_n 1, 1) := by decide +kernel
theorem dX9_best_2 : decode cX9_best 2 = .ok (.invokevirtual 204, 3) := by decide +kernel
theorem dX9_best_5 : decode cX9_best 5 = .ok (.ifCond .eq 13, 3) := by decide +kernel
theorem dX9_best_8 : decode cX9_best 8 = .ok (.iload_n 2, 1) := by decide +kernel
theorem dX9_best_9 : decode cX9_best 9 = .ok (.i2l, 1) := by decide +kernel
theorem dX9_best_10 : decode cX9_best 10 = .ok (.lconst 0, 1) := by decide +kernel
theorem dX9_best_11 : decode cX9_best 11 = .ok (.lconst 1, 1) := by decide +kernel
theorem dX9_best_12 : decode cX9_best 12 = .ok (.invokestatic 55, 3) := by decide +kernel
theorem dX9_best_15 : decode cX9_best 15 = .ok (.ifCond .ne 5, 3) := by decide +kernel
theorem dX9_best_18 : decode cX9_best 18 = .ok (.iconst (-1), 1) := by decide +kernel
theorem dX9_best_19 : decode cX9_best 19 = .ok (.ireturn, 1) := by decide +kernel
theorem dX9_best_20 : decode cX9_best 20 = .ok (.aload_n 0, 1) := by decide +kernel
theorem dX9_best_21 : decode cX9_best 21 = .ok (.iconst (-1), 1) := by decide +kernel
theorem dX9_best_22 : decode cX9_best 22 = .ok (.putfield 232, 3) := by decide +kernel
theorem dX9_best_25 : decode cX9_best 25 = .ok (.iconst 0, 1) := by decide +kernel
theorem dX9_best_26 : decode cX9_best 26 = .ok (.istore_n 3, 1) := by decide +kernel
theorem dX9_best_27 : decode cX9_best 27 = .ok (.aload_n 0, 1) := by decide +kernel
theorem dX9_best_28 : decode cX9_best 28 = .ok (.iconst 0, 1) := by decide +kernel
theorem dX9_best_29 : decode cX9_best 29 = .ok (.sipush 244, 3) := by decide +kernel
theorem dX9_best_32 : decode cX9_best 32 = .ok (.invokevirtual 235, 3) := by decide +kernel
theorem dX9_best_35 : decode cX9_best 35 = .ok (.iconst 0, 1) := by decide +kernel
theorem dX9_best_36 : decode cX9_best 36 = .ok (.istore 4, 2) := by decide +kernel
theorem dX9_best_38 : decode cX9_best 38 = .ok (.iload 4, 2) := by decide +kernel
theorem dX9_best_40 : decode cX9_best 40 = .ok (.bipush 8, 2) := by decide +kernel
theorem dX9_best_42 : decode cX9_best 42 = .ok (.if_icmp .ge 47, 3) := by decide +kernel
theorem dX9_best_45 : decode cX9_best 45 = .ok (.aload_n 0, 1) := by decide +kernel
theorem dX9_best_46 : decode cX9_best 46 = .ok (.getfield 7, 3) := by decide +kernel
theorem dX9_best_49 : decode cX9_best 49 = .ok (.sipush 272, 3) := by decide +kernel
theorem dX9_best_52 : decode cX9_best 52 = .ok (.iload_n 1, 1) := by decide +kernel
theorem dX9_best_53 : decode cX9_best 53 = .ok (.iadd, 1) := by decide +kernel
theorem dX9_best_54 : decode cX9_best 54 = .ok (.iload 4, 2) := by decide +kernel
theorem dX9_best_56 : decode cX9_best 56 = .ok (.iastore, 1) := by decide +kernel
theorem dX9_best_57 : decode cX9_best 57 = .ok (.aload_n 0, 1) := by decide +kernel
theorem dX9_best_58 : decode cX9_best 58 = .ok (.sipush 244, 3) := by decide +kernel
theorem dX9_best_61 : decode cX9_best 61 = .ok (.invokevirtual 189, 3) := by decide +kernel
theorem dX9_best_64 : decode cX9_best 64 = .ok (.aload_n 0, 1) := by decide +kernel
theorem dX9_best_65 : decode cX9_best 65 = .ok (.aload_n 0, 1) := by decide +kernel
theorem dX9_best_66 : decode cX9_best 66 = .ok (.iload_n 1, 1) := by decide +kernel
theorem dX9_best_67 : decode cX9_best 67 = .ok (.invokevirtual 192, 3) := by decide +kernel
theorem dX9_best_70 : decode cX9_best 70 = .ok (.invokevirtual 239, 3) := by decide +kernel
theorem dX9_best_73 : decode cX9_best 73 = .ok (.ifCond .eq 8, 3) := by decide +kernel
theorem dX9_best_76 : decode cX9_best 76 = .ok (.iload 4, 2) := by decide +kernel
theorem dX9_best_78 : decode cX9_best 78 = .ok (.goto 4, 3) := by decide +kernel
theorem dX9_best_81 : decode cX9_best 81 = .ok (.iload_n 3, 1) := by decide +kernel
theorem dX9_best_82 : decode cX9_best 82 = .ok (.istore_n 3, 1) := by decide +kernel
theorem dX9_best_83 : decode cX9_best 83 = .ok (.iinc 4 1, 3) := by decide +kernel
theorem dX9_best_86 : decode cX9_best 86 = .ok (.goto (-48), 3) := by decide +kernel
theorem dX9_best_89 : decode cX9_best 89 = .ok (.iload_n 2, 1) := by decide +kernel
theorem dX9_best_90 : decode cX9_best 90 = .ok (.ifCond .ne 7, 3) := by decide +kernel
theorem dX9_best_93 : decode cX9_best 93 = .ok (.iload_n 3, 1) := by decide +kernel
theorem dX9_best_94 : decode cX9_best 94 = .ok (.goto 7, 3) := by decide +kernel
theorem dX9_best_97 : decode cX9_best 97 = .ok (.aload_n 0, 1) := by decide +kernel
theorem dX9_best_98 : decode cX9_best 98 = .ok (.getfield 232, 3) := by decide +kernel
theorem dX9_best_101 : decode cX9_best 101 = .ok (.ireturn, 1) := by decide +kernel
theorem dX9_late_0 : decode cX9_late 0 = .ok (.aload_n 0, 1) := by decide +kernel
theorem dX9_late_1 : decode cX9_late 1 = .ok (.iload_n 1, 1) := by decide +kernel
theorem dX9_late_2 : decode cX9_late 2 = .ok (.invokevirtual 204, 3) := by decide +kernel
theorem dX9_late_5 : decode cX9_late 5 = .ok (.ifCond .eq 10, 3) := by decide +kernel
theorem dX9_late_8 : decode cX9_late 8 = .ok (.iload_n 2, 1) := by decide +kernel
theorem dX9_late_9 : decode cX9_late 9 = .ok (.invokestatic 229, 3) := by decide +kernel
theorem dX9_late_12 : decode cX9_late 12 = .ok (.ifCond .ne 5, 3) := by decide +kernel
theorem dX9_late_15 : decode cX9_late 15 = .ok (.iconst (-1), 1) := by decide +kernel
theorem dX9_late_16 : decode cX9_late 16 = .ok (.ireturn, 1) := by decide +kernel
theorem dX9_late_17 : decode cX9_late 17 = .ok (.aload_n 0, 1) := by decide +kernel
end
section
theorem dX9_late_18 : decode cX9_late 18 = .ok (.iconst 0, 1) := by decide +kernel
theorem dX9_late_19 : decode cX9_late 19 = .ok (.sipush 244, 3) := by decide +kernel
theorem dX9_late_22 : decode cX9_late 22 = .ok (.invokevirtual 235, 3) := by decide +kernel
theorem dX9_late_25 : decode cX9_late 25 = .ok (.aload_n 0, 1) := by decide +kernel
theorem dX9_late_26 : decode cX9_late 26 = .ok (.getfield 7, 3) := by decide +kernel
theorem dX9_late_29 : decode cX9_late 29 = .ok (.bipush 36, 2) := by decide +kernel
theorem dX9_late_31 : decode cX9_late 31 = .ok (.iload_n 1, 1) := by decide +kernel
theorem dX9_late_32 : decode cX9_late 32 = .ok (.iadd, 1) := by decide +kernel
theorem dX9_late_33 : decode cX9_late 33 = .ok (.iaload, 1) := by decide +kernel
theorem dX9_late_34 : decode cX9_late 34 = .ok (.istore_n 3, 1) := by decide +kernel
theorem dX9_late_35 : decode cX9_late 35 = .ok (.iload_n 3, 1) := by decide +kernel
theorem dX9_late_36 : decode cX9_late 36 = .ok (.ifCond .lt 41, 3) := by decide +kernel
theorem dX9_late_39 : decode cX9_late 39 = .ok (.aload_n 0, 1) := by decide +kernel
theorem dX9_late_40 : decode cX9_late 40 = .ok (.getfield 7, 3) := by decide +kernel
theorem dX9_late_43 : decode cX9_late 43 = .ok (.sipush 276, 3) := by decide +kernel
theorem dX9_late_46 : decode cX9_late 46 = .ok (.iload_n 1, 1) := by decide +kernel
theorem dX9_late_47 : decode cX9_late 47 = .ok (.iadd, 1) := by decide +kernel
theorem dX9_late_48 : decode cX9_late 48 = .ok (.iload_n 3, 1) := by decide +kernel
theorem dX9_late_49 : decode cX9_late 49 = .ok (.iastore, 1) := by decide +kernel
theorem dX9_late_50 : decode cX9_late 50 = .ok (.aload_n 0, 1) := by decide +kernel
theorem dX9_late_51 : decode cX9_late 51 = .ok (.sipush 244, 3) := by decide +kernel
theorem dX9_late_54 : decode cX9_late 54 = .ok (.invokevirtual 189, 3) := by decide +kernel
theorem dX9_late_57 : decode cX9_late 57 = .ok (.aload_n 0, 1) := by decide +kernel
theorem dX9_late_58 : decode cX9_late 58 = .ok (.iload_n 1, 1) := by decide +kernel
theorem dX9_late_59 : decode cX9_late 59 = .ok (.iload_n 2, 1) := by decide +kernel
theorem dX9_late_60 : decode cX9_late 60 = .ok (.invokevirtual 186, 3) := by decide +kernel
theorem dX9_late_63 : decode cX9_late 63 = .ok (.sipush 1000, 3) := by decide +kernel
theorem dX9_late_66 : decode cX9_late 66 = .ok (.if_icmp .ge 5, 3) := by decide +kernel
theorem dX9_late_69 : decode cX9_late 69 = .ok (.iload_n 3, 1) := by decide +kernel
theorem dX9_late_70 : decode cX9_late 70 = .ok (.ireturn, 1) := by decide +kernel
theorem dX9_late_71 : decode cX9_late 71 = .ok (.iinc 3 (-1), 3) := by decide +kernel
theorem dX9_late_74 : decode cX9_late 74 = .ok (.goto (-39), 3) := by decide +kernel
theorem dX9_late_77 : decode cX9_late 77 = .ok (.bipush (-4), 2) := by decide +kernel
theorem dX9_late_79 : decode cX9_late 79 = .ok (.ireturn, 1) := by decide +kernel
theorem dX9_soon_0 : decode cX9_soon 0 = .ok (.aload_n 0, 1) := by decide +kernel
theorem dX9_soon_1 : decode cX9_soon 1 = .ok (.iload_n 1, 1) := by decide +kernel
theorem dX9_soon_2 : decode cX9_soon 2 = .ok (.invokevirtual 204, 3) := by decide +kernel
theorem dX9_soon_5 : decode cX9_soon 5 = .ok (.ifCond .eq 10, 3) := by decide +kernel
theorem dX9_soon_8 : decode cX9_soon 8 = .ok (.iload_n 2, 1) := by decide +kernel
theorem dX9_soon_9 : decode cX9_soon 9 = .ok (.invokestatic 229, 3) := by decide +kernel
theorem dX9_soon_12 : decode cX9_soon 12 = .ok (.ifCond .ne 5, 3) := by decide +kernel
theorem dX9_soon_15 : decode cX9_soon 15 = .ok (.iconst (-1), 1) := by decide +kernel
theorem dX9_soon_16 : decode cX9_soon 16 = .ok (.ireturn, 1) := by decide +kernel
theorem dX9_soon_17 : decode cX9_soon 17 = .ok (.aload_n 0, 1) := by decide +kernel
theorem dX9_soon_18 : decode cX9_soon 18 = .ok (.iconst 0, 1) := by decide +kernel
theorem dX9_soon_19 : decode cX9_soon 19 = .ok (.sipush 244, 3) := by decide +kernel
theorem dX9_soon_22 : decode cX9_soon 22 = .ok (.invokevirtual 235, 3) := by decide +kernel
theorem dX9_soon_25 : decode cX9_soon 25 = .ok (.aload_n 0, 1) := by decide +kernel
theorem dX9_soon_26 : decode cX9_soon 26 = .ok (.getfield 7, 3) := by decide +kernel
theorem dX9_soon_29 : decode cX9_soon 29 = .ok (.bipush 32, 2) := by decide +kernel
theorem dX9_soon_31 : decode cX9_soon 31 = .ok (.iload_n 1, 1) := by decide +kernel
theorem dX9_soon_32 : decode cX9_soon 32 = .ok (.iadd, 1) := by decide +kernel
theorem dX9_soon_33 : decode cX9_soon 33 = .ok (.iaload, 1) := by decide +kernel
theorem dX9_soon_34 : decode cX9_soon 34 = .ok (.istore_n 3, 1) := by decide +kernel
theorem dX9_soon_35 : decode cX9_soon 35 = .ok (.iload_n 3, 1) := by decide +kernel
theorem dX9_soon_36 : decode cX9_soon 36 = .ok (.bipush 60, 2) := by decide +kernel
theorem dX9_soon_38 : decode cX9_soon 38 = .ok (.if_icmp .ge 41, 3) := by decide +kernel
theorem dX9_soon_41 : decode cX9_soon 41 = .ok (.aload_n 0, 1) := by decide +kernel
theorem dX9_soon_42 : decode cX9_soon 42 = .ok (.getfield 7, 3) := by decide +kernel
theorem dX9_soon_45 : decode cX9_soon 45 = .ok (.sipush 280, 3) := by decide +kernel
theorem dX9_soon_48 : decode cX9_soon 48 = .ok (.iload_n 1, 1) := by decide +kernel
theorem dX9_soon_49 : decode cX9_soon 49 = .ok (.iadd, 1) := by decide +kernel
theorem dX9_soon_50 : decode cX9_soon 50 = .ok (.iload_n 3, 1) := by decide +kernel
theorem dX9_soon_51 : decode cX9_soon 51 = .ok (.iastore, 1) := by decide +kernel
theorem dX9_soon_52 : decode cX9_soon 52 = .ok (.aload_n 0, 1) := by decide +kernel
theorem dX9_soon_53 : decode cX9_soon 53 = .ok (.sipush 244, 3) := by decide +kernel
theorem dX9_soon_56 : decode cX9_soon 56 = .ok (.invokevirtual 189, 3) := by decide +kernel
theorem dX9_soon_59 : decode cX9_soon 59 = .ok (.aload_n 0, 1) := by decide +kernel
theorem dX9_soon_60 : decode cX9_soon 60 = .ok (.iload_n 1, 1) := by decide +kernel
theorem dX9_soon_61 : decode cX9_soon 61 = .ok (.iload_n 2, 1) := by decide +kernel
theorem dX9_soon_62 : decode cX9_soon 62 = .ok (.invokevirtual 186, 3) := by decide +kernel
theorem dX9_soon_65 : decode cX9_soon 65 = .ok (.sipush 1000, 3) := by decide +kernel
theorem dX9_soon_68 : decode cX9_soon 68 = .ok (.if_icmp .ge 5, 3) := by decide +kernel
theorem dX9_soon_71 : decode cX9_soon 71 = .ok (.iload_n 3, 1) := by decide +kernel
theorem dX9_soon_72 : decode cX9_soon 72 = .ok (.ireturn, 1) := by decide +kernel
theorem dX9_soon_73 : decode cX9_soon 73 = .ok (.iinc 3 1, 3) := by decide +kernel
theorem dX9_soon_76 : decode cX9_soon 76 = .ok (.goto (-41), 3) := by decide +kernel
theorem dX9_soon_79 : decode cX9_soon 79 = .ok (.bipush (-4), 2) := by decide +kernel
theorem dX9_soon_81 : decode cX9_soon 81 = .ok (.ireturn, 1) := by decide +kernel
theorem dX9_begin_0 : decode cX9_begin 0 = .ok (.aload_n 0, 1) := by decide +kernel
theorem dX9_begin_1 : decode cX9_begin 1 = .ok (.iload_n 1, 1) := by decide +kernel
theorem dX9_begin_2 : decode cX9_begin 2 = .ok (.invokevirtual 198, 3) := by decide +kernel
theorem dX9_begin_5 : decode cX9_begin 5 = .ok (.ifCond .eq 13, 3) := by decide +kernel
theorem dX9_begin_8 : decode cX9_begin 8 = .ok (.iload_n 2, 1) := by decide +kernel
theorem dX9_begin_9 : decode cX9_begin 9 = .ok (.i2l, 1) := by decide +kernel
theorem dX9_begin_10 : decode cX9_begin 10 = .ok (.lconst 0, 1) := by decide +kernel
theorem dX9_begin_11 : decode cX9_begin 11 = .ok (.lconst 1, 1) := by decide +kernel
theorem dX9_begin_12 : decode cX9_begin 12 = .ok (.invokestatic 55, 3) := by decide +kernel
theorem dX9_begin_15 : decode cX9_begin 15 = .ok (.ifCond .ne 5, 3) := by decide +kernel
theorem dX9_begin_18 : decode cX9_begin 18 = .ok (.iconst (-1), 1) := by decide +kernel
theorem dX9_begin_19 : decode cX9_begin 19 = .ok (.ireturn, 1) := by decide +kernel
theorem dX9_begin_20 : decode cX9_begin 20 = .ok (.aload_n 0, 1) := by decide +kernel
theorem dX9_begin_21 : decode cX9_begin 21 = .ok (.iconst (-1), 1) := by decide +kernel
theorem dX9_begin_22 : decode cX9_begin 22 = .ok (.putfield 232, 3) := by decide +kernel
theorem dX9_begin_25 : decode cX9_begin 25 = .ok (.iconst 0, 1) := by decide +kernel
theorem dX9_begin_26 : decode cX9_begin 26 = .ok (.istore_n 3, 1) := by decide +kernel
theorem dX9_begin_27 : decode cX9_begin 27 = .ok (.iconst 0, 1) := by decide +kernel
theorem dX9_begin_28 : decode cX9_begin 28 = .ok (.istore 4, 2) := by decide +kernel
theorem dX9_begin_30 : decode cX9_begin 30 = .ok (.iload 4, 2) := by decide +kernel
theorem dX9_begin_32 : decode cX9_begin 32 = .ok (.aload_n 0, 1) := by decide +kernel
theorem dX9_begin_33 : decode cX9_begin 33 = .ok (.getfield 7, 3) := by decide +kernel
theorem dX9_begin_36 : decode cX9_begin 36 = .ok (.bipush 8, 2) := by decide +kernel
theorem dX9_begin_38 : decode cX9_begin 38 = .ok (.iload_n 1, 1) := by decide +kernel
theorem dX9_begin_39 : decode cX9_begin 39 = .ok (.iadd, 1) := by decide +kernel
theorem dX9_begin_40 : decode cX9_begin 40 = .ok (.iaload, 1) := by decide +kernel
theorem dX9_begin_41 : decode cX9_begin 41 = .ok (.if_icmp .ge 48, 3) := by decide +kernel
theorem dX9_begin_44 : decode cX9_begin 44 = .ok (.aload_n 0, 1) := by decide +kernel
theorem dX9_begin_45 : decode cX9_begin 45 = .ok (.iconst 0, 1) := by decide +kernel
theorem dX9_begin_46 : decode cX9_begin 46 = .ok (.sipush 244, 3) := by decide +kernel
theorem dX9_begin_49 : decode cX9_begin 49 = .ok (.invokevirtual 235, 3) := by decide +kernel
theorem dX9_begin_52 : decode cX9_begin 52 = .ok (.aload_n 0, 1) := by decide +kernel
theorem dX9_begin_53 : decode cX9_begin 53 = .ok (.sipush 244, 3) := by decide +kernel
theorem dX9_begin_56 : decode cX9_begin 56 = .ok (.iload_n 1, 1) := by decide +kernel
theorem dX9_begin_57 : decode cX9_begin 57 = .ok (.iload 4, 2) := by decide +kernel
theorem dX9_begin_59 : decode cX9_begin 59 = .ok (.invokevirtual 218, 3) := by decide +kernel
theorem dX9_begin_62 : decode cX9_begin 62 = .ok (.aload_n 0, 1) := by decide +kernel
theorem dX9_begin_63 : decode cX9_begin 63 = .ok (.aload_n 0, 1) := by decide +kernel
theorem dX9_begin_64 : decode cX9_begin 64 = .ok (.sipush 244, 3) := by decide +kernel
theorem dX9_begin_67 : decode cX9_begin 67 = .ok (.invokevirtual 195, 3) := by decide +kernel
theorem dX9_begin_70 : decode cX9_begin 70 = .ok (.invokevirtual 239, 3) := by decide +kernel
theorem dX9_begin_73 : decode cX9_begin 73 = .ok (.ifCond .eq 8, 3) := by decide +kernel
theorem dX9_begin_76 : decode cX9_begin 76 = .ok (.iload 4, 2) := by decide +kernel
theorem dX9_begin_78 : decode cX9_begin 78 = .ok (.goto 4, 3) := by decide +kernel
theorem dX9_begin_81 : decode cX9_begin 81 = .ok (.iload_n 3, 1) := by decide +kernel
theorem dX9_begin_82 : decode cX9_begin 82 = .ok (.istore_n 3, 1) := by decide +kernel
theorem dX9_begin_83 : decode cX9_begin 83 = .ok (.iinc 4 1, 3) := by decide +kernel
theorem dX9_begin_86 : decode cX9_begin 86 = .ok (.goto (-56), 3) := by decide +kernel
theorem dX9_begin_89 : decode cX9_begin 89 = .ok (.iload_n 2, 1) := by decide +kernel
theorem dX9_begin_90 : decode cX9_begin 90 = .ok (.ifCond .ne 7, 3) := by decide +kernel
theorem dX9_begin_93 : decode cX9_begin 93 = .ok (.iload_n 3, 1) := by decide +kernel
theorem dX9_begin_94 : decode cX9_begin 94 = .ok (.goto 7, 3) := by decide +kernel
theorem dX9_begin_97 : decode cX9_begin 97 = .ok (.aload_n 0, 1) := by decide +kernel
theorem dX9_begin_98 : decode cX9_begin 98 = .ok (.getfield 232, 3) := by decide +kernel
theorem dX9_begin_101 : decode cX9_begin 101 = .ok (.ireturn, 1) := by decide +kernel
theorem dX9_kind_0 : decode cX9_kind 0 = .ok (.aload_n 0, 1) := by decide +kernel
theorem dX9_kind_1 : decode cX9_kind 1 = .ok (.iload_n 1, 1) := by decide +kernel
theorem dX9_kind_2 : decode cX9_kind 2 = .ok (.invokevirtual 198, 3) := by decide +kernel
theorem dX9_kind_5 : decode cX9_kind 5 = .ok (.ifCond .eq 13, 3) := by decide +kernel
theorem dX9_kind_8 : decode cX9_kind 8 = .ok (.iload_n 2, 1) := by decide +kernel
theorem dX9_kind_9 : decode cX9_kind 9 = .ok (.i2l, 1) := by decide +kernel
theorem dX9_kind_10 : decode cX9_kind 10 = .ok (.lconst 0, 1) := by decide +kernel
theorem dX9_kind_11 : decode cX9_kind 11 = .ok (.lconst 1, 1) := by decide +kernel
theorem dX9_kind_12 : decode cX9_kind 12 = .ok (.invokestatic 55, 3) := by decide +kernel
theorem dX9_kind_15 : decode cX9_kind 15 = .ok (.ifCond .ne 5, 3) := by decide +kernel
theorem dX9_kind_18 : decode cX9_kind 18 = .ok (.iconst (-1), 1) := by decide +kernel
theorem dX9_kind_19 : decode cX9_kind 19 = .ok (.ireturn, 1) := by decide +kernel
theorem dX9_kind_20 : decode cX9_kind 20 = .ok (.aload_n 0, 1) := by decide +kernel
theorem dX9_kind_21 : decode cX9_kind 21 = .ok (.iconst (-1), 1) := by decide +kernel
theorem dX9_kind_22 : decode cX9_kind 22 = .ok (.putfield 232, 3) := by decide +kernel
theorem dX9_kind_25 : decode cX9_kind 25 = .ok (.iconst 0, 1) := by decide +kernel
theorem dX9_kind_26 : decode cX9_kind 26 = .ok (.istore_n 3, 1) := by decide +kernel
theorem dX9_kind_27 : decode cX9_kind 27 = .ok (.aload_n 0, 1) := by decide +kernel
theorem dX9_kind_28 : decode cX9_kind 28 = .ok (.iconst 0, 1) := by decide +kernel
theorem dX9_kind_29 : decode cX9_kind 29 = .ok (.sipush 244, 3) := by decide +kernel
theorem dX9_kind_32 : decode cX9_kind 32 = .ok (.invokevirtual 235, 3) := by decide +kernel
theorem dX9_kind_35 : decode cX9_kind 35 = .ok (.iconst 0, 1) := by decide +kernel
theorem dX9_kind_36 : decode cX9_kind 36 = .ok (.istore 4, 2) := by decide +kernel
theorem dX9_kind_38 : decode cX9_kind 38 = .ok (.iload 4, 2) := by decide +kernel
theorem dX9_kind_40 : decode cX9_kind 40 = .ok (.iconst 4, 1) := by decide +kernel
theorem dX9_kind_41 : decode cX9_kind 41 = .ok (.if_icmp .ge 42, 3) := by decide +kernel
theorem dX9_kind_44 : decode cX9_kind 44 = .ok (.aload_n 0, 1) := by decide +kernel
theorem dX9_kind_45 : decode cX9_kind 45 = .ok (.getfield 7, 3) := by decide +kernel
theorem dX9_kind_48 : decode cX9_kind 48 = .ok (.sipush 244, 3) := by decide +kernel
theorem dX9_kind_51 : decode cX9_kind 51 = .ok (.iload_n 1, 1) := by decide +kernel
theorem dX9_kind_52 : decode cX9_kind 52 = .ok (.iadd, 1) := by decide +kernel
theorem dX9_kind_53 : decode cX9_kind 53 = .ok (.iload 4, 2) := by decide +kernel
theorem dX9_kind_55 : decode cX9_kind 55 = .ok (.iastore, 1) := by decide +kernel
theorem dX9_kind_56 : decode cX9_kind 56 = .ok (.aload_n 0, 1) := by decide +kernel
theorem dX9_kind_57 : decode cX9_kind 57 = .ok (.aload_n 0, 1) := by decide +kernel
theorem dX9_kind_58 : decode cX9_kind 58 = .ok (.sipush 244, 3) := by decide +kernel
theorem dX9_kind_61 : decode cX9_kind 61 = .ok (.invokevirtual 195, 3) := by decide +kernel
theorem dX9_kind_64 : decode cX9_kind 64 = .ok (.invokevirtual 239, 3) := by decide +kernel
theorem dX9_kind_67 : decode cX9_kind 67 = .ok (.ifCond .eq 8, 3) := by decide +kernel
theorem dX9_kind_70 : decode cX9_kind 70 = .ok (.iload 4, 2) := by decide +kernel
theorem dX9_kind_72 : decode cX9_kind 72 = .ok (.goto 4, 3) := by decide +kernel
theorem dX9_kind_75 : decode cX9_kind 75 = .ok (.iload_n 3, 1) := by decide +kernel
theorem dX9_kind_76 : decode cX9_kind 76 = .ok (.istore_n 3, 1) := by decide +kernel
theorem dX9_kind_77 : decode cX9_kind 77 = .ok (.iinc 4 1, 3) := by decide +kernel
theorem dX9_kind_80 : decode cX9_kind 80 = .ok (.goto (-42), 3) := by decide +kernel
theorem dX9_kind_83 : decode cX9_kind 83 = .ok (.iload_n 2, 1) := by decide +kernel
theorem dX9_kind_84 : decode cX9_kind 84 = .ok (.ifCond .ne 7, 3) := by decide +kernel
theorem dX9_kind_87 : decode cX9_kind 87 = .ok (.iload_n 3, 1) := by decide +kernel
theorem dX9_kind_88 : decode cX9_kind 88 = .ok (.goto 7, 3) := by decide +kernel
theorem dX9_kind_91 : decode cX9_kind 91 = .ok (.aload_n 0, 1) := by decide +kernel
theorem dX9_kind_92 : decode cX9_kind 92 = .ok (.getfield 232, 3) := by decide +kernel
theorem dX9_kind_95 : decode cX9_kind 95 = .ok (.ireturn, 1) := by decide +kernel
theorem dX9_swap_0 : decode cX9_swap 0 = .ok (.iload_n 1, 1) := by decide +kernel
theorem dX9_swap_1 : decode cX9_swap 1 = .ok (.i2l, 1) := by decide +kernel
theorem dX9_swap_2 : decode cX9_swap 2 = .ok (.lconst 0, 1) := by decide +kernel
theorem dX9_swap_3 : decode cX9_swap 3 = .ok (.lconst 1, 1) := by decide +kernel
theorem dX9_swap_4 : decode cX9_swap 4 = .ok (.invokestatic 55, 3) := by decide +kernel
theorem dX9_swap_7 : decode cX9_swap 7 = .ok (.ifCond .ne 5, 3) := by decide +kernel
theorem dX9_swap_10 : decode cX9_swap 10 = .ok (.iconst (-1), 1) := by decide +kernel
theorem dX9_swap_11 : decode cX9_swap 11 = .ok (.ireturn, 1) := by decide +kernel
theorem dX9_swap_12 : decode cX9_swap 12 = .ok (.aload_n 0, 1) := by decide +kernel
theorem dX9_swap_13 : decode cX9_swap 13 = .ok (.aload_n 0, 1) := by decide +kernel
theorem dX9_swap_14 : decode cX9_swap 14 = .ok (.iconst 0, 1) := by decide +kernel
theorem dX9_swap_15 : decode cX9_swap 15 = .ok (.invokevirtual 195, 3) := by decide +kernel
theorem dX9_swap_18 : decode cX9_swap 18 = .ok (.putfield 232, 3) := by decide +kernel
theorem dX9_swap_21 : decode cX9_swap 21 = .ok (.bipush (-4), 2) := by decide +kernel
theorem dX9_swap_23 : decode cX9_swap 23 = .ok (.istore_n 2, 1) := by decide +kernel
theorem dX9_swap_24 : decode cX9_swap 24 = .ok (.iconst 0, 1) := by decide +kernel
theorem dX9_swap_25 : decode cX9_swap 25 = .ok (.istore_n 3, 1) := by decide +kernel
theorem dX9_swap_26 : decode cX9_swap 26 = .ok (.iload_n 3, 1) := by decide +kernel
theorem dX9_swap_27 : decode cX9_swap 27 = .ok (.aload_n 0, 1) := by decide +kernel
theorem dX9_swap_28 : decode cX9_swap 28 = .ok (.getfield 150, 3) := by decide +kernel
theorem dX9_swap_31 : decode cX9_swap 31 = .ok (.if_icmp .ge 101, 3) := by decide +kernel
theorem dX9_swap_34 : decode cX9_swap 34 = .ok (.iload_n 3, 1) := by decide +kernel
theorem dX9_swap_35 : decode cX9_swap 35 = .ok (.iconst 1, 1) := by decide +kernel
theorem dX9_swap_36 : decode cX9_swap 36 = .ok (.iadd, 1) := by decide +kernel
theorem dX9_swap_37 : decode cX9_swap 37 = .ok (.istore 4, 2) := by decide +kernel
theorem dX9_swap_39 : decode cX9_swap 39 = .ok (.iload 4, 2) := by decide +kernel
theorem dX9_swap_41 : decode cX9_swap 41 = .ok (.aload_n 0, 1) := by decide +kernel
theorem dX9_swap_42 : decode cX9_swap 42 = .ok (.getfield 150, 3) := by decide +kernel
theorem dX9_swap_45 : decode cX9_swap 45 = .ok (.if_icmp .ge 81, 3) := by decide +kernel
theorem dX9_swap_48 : decode cX9_swap 48 = .ok (.aload_n 0, 1) := by decide +kernel
theorem dX9_swap_49 : decode cX9_swap 49 = .ok (.iconst 0, 1) := by decide +kernel
theorem dX9_swap_50 : decode cX9_swap 50 = .ok (.sipush 244, 3) := by decide +kernel
theorem dX9_swap_53 : decode cX9_swap 53 = .ok (.invokevirtual 235, 3) := by decide +kernel
theorem dX9_swap_56 : decode cX9_swap 56 = .ok (.aload_n 0, 1) := by decide +kernel
theorem dX9_swap_57 : decode cX9_swap 57 = .ok (.getfield 7, 3) := by decide +kernel
theorem dX9_swap_60 : decode cX9_swap 60 = .ok (.sipush 248, 3) := by decide +kernel
theorem dX9_swap_63 : decode cX9_swap 63 = .ok (.iload_n 3, 1) := by decide +kernel
theorem dX9_swap_64 : decode cX9_swap 64 = .ok (.iadd, 1) := by decide +kernel
theorem dX9_swap_65 : decode cX9_swap 65 = .ok (.aload_n 0, 1) := by decide +kernel
theorem dX9_swap_66 : decode cX9_swap 66 = .ok (.getfield 7, 3) := by decide +kernel
theorem dX9_swap_69 : decode cX9_swap 69 = .ok (.iconst 4, 1) := by decide +kernel
theorem dX9_swap_70 : decode cX9_swap 70 = .ok (.iload 4, 2) := by decide +kernel
theorem dX9_swap_72 : decode cX9_swap 72 = .ok (.iadd, 1) := by decide +kernel
theorem dX9_swap_73 : decode cX9_swap 73 = .ok (.iaload, 1) := by decide +kernel
theorem dX9_swap_74 : decode cX9_swap 74 = .ok (.iastore, 1) := by decide +kernel
theorem dX9_swap_75 : decode cX9_swap 75 = .ok (.aload_n 0, 1) := by decide +kernel
theorem dX9_swap_76 : decode cX9_swap 76 = .ok (.getfield 7, 3) := by decide +kernel
theorem dX9_swap_79 : decode cX9_swap 79 = .ok (.sipush 248, 3) := by decide +kernel
theorem dX9_swap_82 : decode cX9_swap 82 = .ok (.iload 4, 2) := by decide +kernel
theorem dX9_swap_84 : decode cX9_swap 84 = .ok (.iadd, 1) := by decide +kernel
theorem dX9_swap_85 : decode cX9_swap 85 = .ok (.aload_n 0, 1) := by decide +kernel
theorem dX9_swap_86 : decode cX9_swap 86 = .ok (.getfield 7, 3) := by decide +kernel
theorem dX9_swap_89 : decode cX9_swap 89 = .ok (.iconst 4, 1) := by decide +kernel
theorem dX9_swap_90 : decode cX9_swap 90 = .ok (.iload_n 3, 1) := by decide +kernel
theorem dX9_swap_91 : decode cX9_swap 91 = .ok (.iadd, 1) := by decide +kernel
theorem dX9_swap_92 : decode cX9_swap 92 = .ok (.iaload, 1) := by decide +kernel
theorem dX9_swap_93 : decode cX9_swap 93 = .ok (.iastore, 1) := by decide +kernel
theorem dX9_swap_94 : decode cX9_swap 94 = .ok (.aload_n 0, 1) := by decide +kernel
theorem dX9_swap_95 : decode cX9_swap 95 = .ok (.aload_n 0, 1) := by decide +kernel
theorem dX9_swap_96 : decode cX9_swap 96 = .ok (.sipush 244, 3) := by decide +kernel
theorem dX9_swap_99 : decode cX9_swap 99 = .ok (.invokevirtual 195, 3) := by decide +kernel
theorem dX9_swap_102 : decode cX9_swap 102 = .ok (.invokevirtual 239, 3) := by decide +kernel
theorem dX9_swap_105 : decode cX9_swap 105 = .ok (.ifCond .eq 13, 3) := by decide +kernel
theorem dX9_swap_108 : decode cX9_swap 108 = .ok (.bipush 10, 2) := by decide +kernel
theorem dX9_swap_110 : decode cX9_swap 110 = .ok (.iload_n 3, 1) := by decide +kernel
theorem dX9_swap_111 : decode cX9_swap 111 = .ok (.imul, 1) := by decide +kernel
theorem dX9_swap_112 : decode cX9_swap 112 = .ok (.iload 4, 2) := by decide +kernel
theorem dX9_swap_114 : decode cX9_swap 114 = .ok (.iadd, 1) := by decide +kernel
theorem dX9_swap_115 : decode cX9_swap 115 = .ok (.goto 4, 3) := by decide +kernel
theorem dX9_swap_118 : decode cX9_swap 118 = .ok (.iload_n 2, 1) := by decide +kernel
theorem dX9_swap_119 : decode cX9_swap 119 = .ok (.istore_n 2, 1) := by decide +kernel
theorem dX9_swap_120 : decode cX9_swap 120 = .ok (.iinc 4 1, 3) := by decide +kernel
theorem dX9_swap_123 : decode cX9_swap 123 = .ok (.goto (-84), 3) := by decide +kernel
theorem dX9_swap_126 : decode cX9_swap 126 = .ok (.iinc 3 1, 3) := by decide +kernel
theorem dX9_swap_129 : decode cX9_swap 129 = .ok (.goto (-103), 3) := by decide +kernel
theorem dX9_swap_132 : decode cX9_swap 132 = .ok (.iload_n 2, 1) := by decide +kernel
theorem dX9_swap_133 : decode cX9_swap 133 = .ok (.bipush (-4), 2) := by decide +kernel
theorem dX9_swap_135 : decode cX9_swap 135 = .ok (.if_icmp .eq 7, 3) := by decide +kernel
theorem dX9_swap_138 : decode cX9_swap 138 = .ok (.iload_n 1, 1) := by decide +kernel
theorem dX9_swap_139 : decode cX9_swap 139 = .ok (.ifCond .ne 7, 3) := by decide +kernel
theorem dX9_swap_142 : decode cX9_swap 142 = .ok (.iload_n 2, 1) := by decide +kernel
theorem dX9_swap_143 : decode cX9_swap 143 = .ok (.goto 7, 3) := by decide +kernel
theorem dX9_swap_146 : decode cX9_swap 146 = .ok (.aload_n 0, 1) := by decide +kernel
theorem dX9_swap_147 : decode cX9_swap 147 = .ok (.getfield 232, 3) := by decide +kernel
theorem dX9_swap_150 : decode cX9_swap 150 = .ok (.ireturn, 1) := by decide +kernel
theorem dX9_spoil_0 : decode cX9_spoil 0 = .ok (.iload_n 1, 1) := by decide +kernel
theorem dX9_spoil_1 : decode cX9_spoil 1 = .ok (.i2l, 1) := by decide +kernel
theorem dX9_spoil_2 : decode cX9_spoil 2 = .ok (.lconst 1, 1) := by decide +kernel
theorem dX9_spoil_3 : decode cX9_spoil 3 = .ok (.ldc2_w 161, 3) := by decide +kernel
theorem dX9_spoil_6 : decode cX9_spoil 6 = .ok (.invokestatic 55, 3) := by decide +kernel
theorem dX9_spoil_9 : decode cX9_spoil 9 = .ok (.ifCond .eq 13, 3) := by decide +kernel
theorem dX9_spoil_12 : decode cX9_spoil 12 = .ok (.iload_n 2, 1) := by decide +kernel
theorem dX9_spoil_13 : decode cX9_spoil 13 = .ok (.i2l, 1) := by decide +kernel
theorem dX9_spoil_14 : decode cX9_spoil 14 = .ok (.lconst 0, 1) := by decide +kernel
theorem dX9_spoil_15 : decode cX9_spoil 15 = .ok (.lconst 1, 1) := by decide +kernel
theorem dX9_spoil_16 : decode cX9_spoil 16 = .ok (.invokestatic 55, 3) := by decide +kernel
theorem dX9_spoil_19 : decode cX9_spoil 19 = .ok (.ifCond .ne 5, 3) := by decide +kernel
theorem dX9_spoil_22 : decode cX9_spoil 22 = .ok (.iconst (-1), 1) := by decide +kernel
theorem dX9_spoil_23 : decode cX9_spoil 23 = .ok (.ireturn, 1) := by decide +kernel
theorem dX9_spoil_24 : decode cX9_spoil 24 = .ok (.sipush 1000, 3) := by decide +kernel
theorem dX9_spoil_27 : decode cX9_spoil 27 = .ok (.istore_n 3, 1) := by decide +kernel
theorem dX9_spoil_28 : decode cX9_spoil 28 = .ok (.iconst 0, 1) := by decide +kernel
theorem dX9_spoil_29 : decode cX9_spoil 29 = .ok (.istore 4, 2) := by decide +kernel
theorem dX9_spoil_31 : decode cX9_spoil 31 = .ok (.aload_n 0, 1) := by decide +kernel
theorem dX9_spoil_32 : decode cX9_spoil 32 = .ok (.iconst 0, 1) := by decide +kernel
theorem dX9_spoil_33 : decode cX9_spoil 33 = .ok (.sipush 244, 3) := by decide +kernel
theorem dX9_spoil_36 : decode cX9_spoil 36 = .ok (.invokevirtual 235, 3) := by decide +kernel
theorem dX9_spoil_39 : decode cX9_spoil 39 = .ok (.aload_n 0, 1) := by decide +kernel
theorem dX9_spoil_40 : decode cX9_spoil 40 = .ok (.getfield 7, 3) := by decide +kernel
theorem dX9_spoil_43 : decode cX9_spoil 43 = .ok (.sipush 285, 3) := by decide +kernel
theorem dX9_spoil_46 : decode cX9_spoil 46 = .ok (.iload_n 1, 1) := by decide +kernel
theorem dX9_spoil_47 : decode cX9_spoil 47 = .ok (.iastore, 1) := by decide +kernel
theorem dX9_spoil_48 : decode cX9_spoil 48 = .ok (.iconst 0, 1) := by decide +kernel
theorem dX9_spoil_49 : decode cX9_spoil 49 = .ok (.istore 5, 2) := by decide +kernel
theorem dX9_spoil_51 : decode cX9_spoil 51 = .ok (.iload 5, 2) := by decide +kernel
theorem dX9_spoil_53 : decode cX9_spoil 53 = .ok (.bipush 60, 2) := by decide +kernel
theorem dX9_spoil_55 : decode cX9_spoil 55 = .ok (.if_icmp .ge 56, 3) := by decide +kernel
theorem dX9_spoil_58 : decode cX9_spoil 58 = .ok (.aload_n 0, 1) := by decide +kernel
theorem dX9_spoil_59 : decode cX9_spoil 59 = .ok (.getfield 7, 3) := by decide +kernel
theorem dX9_spoil_62 : decode cX9_spoil 62 = .ok (.sipush 284, 3) := by decide +kernel
theorem dX9_spoil_65 : decode cX9_spoil 65 = .ok (.iload 5, 2) := by decide +kernel
theorem dX9_spoil_67 : decode cX9_spoil 67 = .ok (.iastore, 1) := by decide +kernel
theorem dX9_spoil_68 : decode cX9_spoil 68 = .ok (.aload_n 0, 1) := by decide +kernel
theorem dX9_spoil_69 : decode cX9_spoil 69 = .ok (.sipush 244, 3) := by decide +kernel
theorem dX9_spoil_72 : decode cX9_spoil 72 = .ok (.invokevirtual 195, 3) := by decide +kernel
theorem dX9_spoil_75 : decode cX9_spoil 75 = .ok (.istore 6, 2) := by decide +kernel
theorem dX9_spoil_77 : decode cX9_spoil 77 = .ok (.iload 6, 2) := by decide +kernel
theorem dX9_spoil_79 : decode cX9_spoil 79 = .ok (.iload_n 3, 1) := by decide +kernel
theorem dX9_spoil_80 : decode cX9_spoil 80 = .ok (.if_icmp .ge 8, 3) := by decide +kernel
theorem dX9_spoil_83 : decode cX9_spoil 83 = .ok (.iload 5, 2) := by decide +kernel
theorem dX9_spoil_85 : decode cX9_spoil 85 = .ok (.goto 5, 3) := by decide +kernel
theorem dX9_spoil_88 : decode cX9_spoil 88 = .ok (.iload 4, 2) := by decide +kernel
theorem dX9_spoil_90 : decode cX9_spoil 90 = .ok (.istore 4, 2) := by decide +kernel
theorem dX9_spoil_92 : decode cX9_spoil 92 = .ok (.iload 6, 2) := by decide +kernel
theorem dX9_spoil_94 : decode cX9_spoil 94 = .ok (.iload_n 3, 1) := by decide +kernel
theorem dX9_spoil_95 : decode cX9_spoil 95 = .ok (.if_icmp .ge 8, 3) := by decide +kernel
theorem dX9_spoil_98 : decode cX9_spoil 98 = .ok (.iload 6, 2) := by decide +kernel
theorem dX9_spoil_100 : decode cX9_spoil 100 = .ok (.goto 4, 3) := by decide +kernel
theorem dX9_spoil_103 : decode cX9_spoil 103 = .ok (.iload_n 3, 1) := by decide +kernel
theorem dX9_spoil_104 : decode cX9_spoil 104 = .ok (.istore_n 3, 1) := by decide +kernel
theorem dX9_spoil_105 : decode cX9_spoil 105 = .ok (.iinc 5 1, 3) := by decide +kernel
theorem dX9_spoil_108 : decode cX9_spoil 108 = .ok (.goto (-57), 3) := by decide +kernel
theorem dX9_spoil_111 : decode cX9_spoil 111 = .ok (.iload_n 2, 1) := by decide +kernel
theorem dX9_spoil_112 : decode cX9_spoil 112 = .ok (.ifCond .ne 8, 3) := by decide +kernel
theorem dX9_spoil_115 : decode cX9_spoil 115 = .ok (.iload 4, 2) := by decide +kernel
theorem dX9_spoil_117 : decode cX9_spoil 117 = .ok (.goto 4, 3) := by decide +kernel
theorem dX9_spoil_120 : decode cX9_spoil 120 = .ok (.iload_n 3, 1) := by decide +kernel
theorem dX9_spoil_121 : decode cX9_spoil 121 = .ok (.ireturn, 1) := by decide +kernel
theorem dX9_lowest_0 : decode cX9_lowest 0 = .ok (.lload_n 0, 1) := by decide +kernel
theorem dX9_lowest_1 : decode cX9_lowest 1 = .ok (.lstore 5, 2) := by decide +kernel
theorem dX9_lowest_3 : decode cX9_lowest 3 = .ok (.lload_n 2, 1) := by decide +kernel
theorem dX9_lowest_4 : decode cX9_lowest 4 = .ok (.lstore 7, 2) := by decide +kernel
theorem dX9_lowest_6 : decode cX9_lowest 6 = .ok (.lload 7, 2) := by decide +kernel
theorem dX9_lowest_8 : decode cX9_lowest 8 = .ok (.lconst 0, 1) := by decide +kernel
theorem dX9_lowest_9 : decode cX9_lowest 9 = .ok (.lcmp, 1) := by decide +kernel
theorem dX9_lowest_10 : decode cX9_lowest 10 = .ok (.ifCond .eq 21, 3) := by decide +kernel
theorem dX9_lowest_13 : decode cX9_lowest 13 = .ok (.lload 5, 2) := by decide +kernel
theorem dX9_lowest_15 : decode cX9_lowest 15 = .ok (.lload 7, 2) := by decide +kernel
theorem dX9_lowest_17 : decode cX9_lowest 17 = .ok (.lrem, 1) := by decide +kernel
theorem dX9_lowest_18 : decode cX9_lowest 18 = .ok (.lstore 9, 2) := by decide +kernel
theorem dX9_lowest_20 : decode cX9_lowest 20 = .ok (.lload 7, 2) := by decide +kernel
theorem dX9_lowest_22 : decode cX9_lowest 22 = .ok (.lstore 5, 2) := by decide +kernel
theorem dX9_lowest_24 : decode cX9_lowest 24 = .ok (.lload 9, 2) := by decide +kernel
theorem dX9_lowest_26 : decode cX9_lowest 26 = .ok (.lstore 7, 2) := by decide +kernel
theorem dX9_lowest_28 : decode cX9_lowest 28 = .ok (.goto (-22), 3) := by decide +kernel
theorem dX9_lowest_31 : decode cX9_lowest 31 = .ok (.iload 4, 2) := by decide +kernel
theorem dX9_lowest_33 : decode cX9_lowest 33 = .ok (.ifCond .ne 7, 3) := by decide +kernel
theorem dX9_lowest_36 : decode cX9_lowest 36 = .ok (.lload_n 0, 1) := by decide +kernel
theorem dX9_lowest_37 : decode cX9_lowest 37 = .ok (.goto 4, 3) := by decide +kernel
theorem dX9_lowest_40 : decode cX9_lowest 40 = .ok (.lload_n 2, 1) := by decide +kernel
theorem dX9_lowest_41 : decode cX9_lowest 41 = .ok (.lload 5, 2) := by decide +kernel
theorem dX9_lowest_43 : decode cX9_lowest 43 = .ok (.ldiv, 1) := by decide +kernel
theorem dX9_lowest_44 : decode cX9_lowest 44 = .ok (.lreturn, 1) := by decide +kernel
theorem dX9_byHomes_0 : decode cX9_byHomes 0 = .ok (.lconst 0, 1) := by decide +kernel
theorem dX9_byHomes_1 : decode cX9_byHomes 1 = .ok (.lstore 5, 2) := by decide +kernel
theorem dX9_byHomes_3 : decode cX9_byHomes 3 = .ok (.lconst 1, 1) := by decide +kernel
theorem dX9_byHomes_4 : decode cX9_byHomes 4 = .ok (.lstore 7, 2) := by decide +kernel
theorem dX9_byHomes_6 : decode cX9_byHomes 6 = .ok (.iconst 0, 1) := by decide +kernel
theorem dX9_byHomes_7 : decode cX9_byHomes 7 = .ok (.istore 9, 2) := by decide +kernel
theorem dX9_byHomes_9 : decode cX9_byHomes 9 = .ok (.iload 9, 2) := by decide +kernel
theorem dX9_byHomes_11 : decode cX9_byHomes 11 = .ok (.aload_n 0, 1) := by decide +kernel
theorem dX9_byHomes_12 : decode cX9_byHomes 12 = .ok (.getfield 150, 3) := by decide +kernel
theorem dX9_byHomes_15 : decode cX9_byHomes 15 = .ok (.if_icmp .ge 17, 3) := by decide +kernel
theorem dX9_byHomes_18 : decode cX9_byHomes 18 = .ok (.lload 7, 2) := by decide +kernel
theorem dX9_byHomes_20 : decode cX9_byHomes 20 = .ok (.ldc2_w 242, 3) := by decide +kernel
theorem dX9_byHomes_23 : decode cX9_byHomes 23 = .ok (.lmul, 1) := by decide +kernel
theorem dX9_byHomes_24 : decode cX9_byHomes 24 = .ok (.lstore 7, 2) := by decide +kernel
theorem dX9_byHomes_26 : decode cX9_byHomes 26 = .ok (.iinc 9 1, 3) := by decide +kernel
theorem dX9_byHomes_29 : decode cX9_byHomes 29 = .ok (.goto (-20), 3) := by decide +kernel
theorem dX9_byHomes_32 : decode cX9_byHomes 32 = .ok (.iconst 0, 1) := by decide +kernel
theorem dX9_byHomes_33 : decode cX9_byHomes 33 = .ok (.istore 9, 2) := by decide +kernel
theorem dX9_byHomes_35 : decode cX9_byHomes 35 = .ok (.iload 9, 2) := by decide +kernel
theorem dX9_byHomes_37 : decode cX9_byHomes 37 = .ok (.iconst 1, 1) := by decide +kernel
theorem dX9_byHomes_38 : decode cX9_byHomes 38 = .ok (.aload_n 0, 1) := by decide +kernel
theorem dX9_byHomes_39 : decode cX9_byHomes 39 = .ok (.getfield 150, 3) := by decide +kernel
theorem dX9_byHomes_42 : decode cX9_byHomes 42 = .ok (.ishl, 1) := by decide +kernel
theorem dX9_byHomes_43 : decode cX9_byHomes 43 = .ok (.if_icmp .ge 106, 3) := by decide +kernel
theorem dX9_byHomes_46 : decode cX9_byHomes 46 = .ok (.lconst 1, 1) := by decide +kernel
theorem dX9_byHomes_47 : decode cX9_byHomes 47 = .ok (.lstore 10, 2) := by decide +kernel
theorem dX9_byHomes_49 : decode cX9_byHomes 49 = .ok (.iconst 0, 1) := by decide +kernel
theorem dX9_byHomes_50 : decode cX9_byHomes 50 = .ok (.istore 12, 2) := by decide +kernel
theorem dX9_byHomes_52 : decode cX9_byHomes 52 = .ok (.iload 12, 2) := by decide +kernel
theorem dX9_byHomes_54 : decode cX9_byHomes 54 = .ok (.aload_n 0, 1) := by decide +kernel
theorem dX9_byHomes_55 : decode cX9_byHomes 55 = .ok (.getfield 150, 3) := by decide +kernel
theorem dX9_byHomes_58 : decode cX9_byHomes 58 = .ok (.if_icmp .ge 35, 3) := by decide +kernel
theorem dX9_byHomes_61 : decode cX9_byHomes 61 = .ok (.lload 10, 2) := by decide +kernel
theorem dX9_byHomes_63 : decode cX9_byHomes 63 = .ok (.iload 9, 2) := by decide +kernel
theorem dX9_byHomes_65 : decode cX9_byHomes 65 = .ok (.iload 12, 2) := by decide +kernel
theorem dX9_byHomes_67 : decode cX9_byHomes 67 = .ok (.ishr, 1) := by decide +kernel
theorem dX9_byHomes_68 : decode cX9_byHomes 68 = .ok (.iconst 1, 1) := by decide +kernel
theorem dX9_byHomes_69 : decode cX9_byHomes 69 = .ok (.iand, 1) := by decide +kernel
theorem dX9_byHomes_70 : decode cX9_byHomes 70 = .ok (.iconst 1, 1) := by decide +kernel
theorem dX9_byHomes_71 : decode cX9_byHomes 71 = .ok (.if_icmp .ne 8, 3) := by decide +kernel
theorem dX9_byHomes_74 : decode cX9_byHomes 74 = .ok (.iload_n 1, 1) := by decide +kernel
theorem dX9_byHomes_75 : decode cX9_byHomes 75 = .ok (.i2l, 1) := by decide +kernel
theorem dX9_byHomes_76 : decode cX9_byHomes 76 = .ok (.goto 8, 3) := by decide +kernel
theorem dX9_byHomes_79 : decode cX9_byHomes 79 = .ok (.bipush 10, 2) := by decide +kernel
theorem dX9_byHomes_81 : decode cX9_byHomes 81 = .ok (.iload_n 1, 1) := by decide +kernel
theorem dX9_byHomes_82 : decode cX9_byHomes 82 = .ok (.isub, 1) := by decide +kernel
theorem dX9_byHomes_83 : decode cX9_byHomes 83 = .ok (.i2l, 1) := by decide +kernel
theorem dX9_byHomes_84 : decode cX9_byHomes 84 = .ok (.lmul, 1) := by decide +kernel
theorem dX9_byHomes_85 : decode cX9_byHomes 85 = .ok (.lstore 10, 2) := by decide +kernel
theorem dX9_byHomes_87 : decode cX9_byHomes 87 = .ok (.iinc 12 1, 3) := by decide +kernel
theorem dX9_byHomes_90 : decode cX9_byHomes 90 = .ok (.goto (-38), 3) := by decide +kernel
theorem dX9_byHomes_93 : decode cX9_byHomes 93 = .ok (.aload_n 0, 1) := by decide +kernel
theorem dX9_byHomes_94 : decode cX9_byHomes 94 = .ok (.iload 9, 2) := by decide +kernel
theorem dX9_byHomes_96 : decode cX9_byHomes 96 = .ok (.putfield 172, 3) := by decide +kernel
theorem dX9_byHomes_99 : decode cX9_byHomes 99 = .ok (.aload_n 0, 1) := by decide +kernel
theorem dX9_byHomes_100 : decode cX9_byHomes 100 = .ok (.iconst 0, 1) := by decide +kernel
theorem dX9_byHomes_101 : decode cX9_byHomes 101 = .ok (.invokevirtual 195, 3) := by decide +kernel
theorem dX9_byHomes_104 : decode cX9_byHomes 104 = .ok (.istore 12, 2) := by decide +kernel
theorem dX9_byHomes_106 : decode cX9_byHomes 106 = .ok (.lload 5, 2) := by decide +kernel
theorem dX9_byHomes_108 : decode cX9_byHomes 108 = .ok (.lload 10, 2) := by decide +kernel
theorem dX9_byHomes_110 : decode cX9_byHomes 110 = .ok (.iload_n 2, 1) := by decide +kernel
theorem dX9_byHomes_111 : decode cX9_byHomes 111 = .ok (.bipush (-4), 2) := by decide +kernel
theorem dX9_byHomes_113 : decode cX9_byHomes 113 = .ok (.if_icmp .ne 8, 3) := by decide +kernel
theorem dX9_byHomes_116 : decode cX9_byHomes 116 = .ok (.iload 12, 2) := by decide +kernel
theorem dX9_byHomes_118 : decode cX9_byHomes 118 = .ok (.goto 20, 3) := by decide +kernel
theorem dX9_byHomes_121 : decode cX9_byHomes 121 = .ok (.aload_n 0, 1) := by decide +kernel
theorem dX9_byHomes_122 : decode cX9_byHomes 122 = .ok (.iload_n 2, 1) := by decide +kernel
theorem dX9_byHomes_123 : decode cX9_byHomes 123 = .ok (.iload_n 3, 1) := by decide +kernel
theorem dX9_byHomes_124 : decode cX9_byHomes 124 = .ok (.invokevirtual 186, 3) := by decide +kernel
theorem dX9_byHomes_127 : decode cX9_byHomes 127 = .ok (.sipush 1000, 3) := by decide +kernel
theorem dX9_byHomes_130 : decode cX9_byHomes 130 = .ok (.if_icmp .ge 7, 3) := by decide +kernel
theorem dX9_byHomes_133 : decode cX9_byHomes 133 = .ok (.iconst 1, 1) := by decide +kernel
theorem dX9_byHomes_134 : decode cX9_byHomes 134 = .ok (.goto 4, 3) := by decide +kernel
theorem dX9_byHomes_137 : decode cX9_byHomes 137 = .ok (.iconst 0, 1) := by decide +kernel
theorem dX9_byHomes_138 : decode cX9_byHomes 138 = .ok (.i2l, 1) := by decide +kernel
theorem dX9_byHomes_139 : decode cX9_byHomes 139 = .ok (.lmul, 1) := by decide +kernel
theorem dX9_byHomes_140 : decode cX9_byHomes 140 = .ok (.ladd, 1) := by decide +kernel
theorem dX9_byHomes_141 : decode cX9_byHomes 141 = .ok (.lstore 5, 2) := by decide +kernel
theorem dX9_byHomes_143 : decode cX9_byHomes 143 = .ok (.iinc 9 1, 3) := by decide +kernel
theorem dX9_byHomes_146 : decode cX9_byHomes 146 = .ok (.goto (-111), 3) := by decide +kernel
theorem dX9_byHomes_149 : decode cX9_byHomes 149 = .ok (.aload_n 0, 1) := by decide +kernel
theorem dX9_byHomes_150 : decode cX9_byHomes 150 = .ok (.iconst 0, 1) := by decide +kernel
theorem dX9_byHomes_151 : decode cX9_byHomes 151 = .ok (.putfield 172, 3) := by decide +kernel
theorem dX9_byHomes_154 : decode cX9_byHomes 154 = .ok (.lload 5, 2) := by decide +kernel
theorem dX9_byHomes_156 : decode cX9_byHomes 156 = .ok (.lload 7, 2) := by decide +kernel
theorem dX9_byHomes_158 : decode cX9_byHomes 158 = .ok (.iload 4, 2) := by decide +kernel
theorem dX9_byHomes_160 : decode cX9_byHomes 160 = .ok (.invokestatic 244, 3) := by decide +kernel
theorem dX9_byHomes_163 : decode cX9_byHomes 163 = .ok (.lreturn, 1) := by decide +kernel
theorem dX9_luck_0 : decode cX9_luck 0 = .ok (.iload_n 1, 1) := by decide +kernel
theorem dX9_luck_1 : decode cX9_luck 1 = .ok (.i2l, 1) := by decide +kernel
theorem dX9_luck_2 : decode cX9_luck 2 = .ok (.lconst 0, 1) := by decide +kernel
theorem dX9_luck_3 : decode cX9_luck 3 = .ok (.ldc2_w 242, 3) := by decide +kernel
theorem dX9_luck_6 : decode cX9_luck 6 = .ok (.invokestatic 55, 3) := by decide +kernel
theorem dX9_luck_9 : decode cX9_luck 9 = .ok (.ifCond .eq 41, 3) := by decide +kernel
theorem dX9_luck_12 : decode cX9_luck 12 = .ok (.aload_n 0, 1) := by decide +kernel
theorem dX9_luck_13 : decode cX9_luck 13 = .ok (.iload_n 2, 1) := by decide +kernel
theorem dX9_luck_14 : decode cX9_luck 14 = .ok (.invokevirtual 204, 3) := by decide +kernel
theorem dX9_luck_17 : decode cX9_luck 17 = .ok (.ifCond .eq 33, 3) := by decide +kernel
theorem dX9_luck_20 : decode cX9_luck 20 = .ok (.iload_n 3, 1) := by decide +kernel
theorem dX9_luck_21 : decode cX9_luck 21 = .ok (.invokestatic 229, 3) := by decide +kernel
theorem dX9_luck_24 : decode cX9_luck 24 = .ok (.ifCond .eq 26, 3) := by decide +kernel
theorem dX9_luck_27 : decode cX9_luck 27 = .ok (.iload 4, 2) := by decide +kernel
theorem dX9_luck_29 : decode cX9_luck 29 = .ok (.i2l, 1) := by decide +kernel
theorem dX9_luck_30 : decode cX9_luck 30 = .ok (.lconst 0, 1) := by decide +kernel
theorem dX9_luck_31 : decode cX9_luck 31 = .ok (.lconst 1, 1) := by decide +kernel
theorem dX9_luck_32 : decode cX9_luck 32 = .ok (.invokestatic 55, 3) := by decide +kernel
theorem dX9_luck_35 : decode cX9_luck 35 = .ok (.ifCond .eq 15, 3) := by decide +kernel
theorem dX9_luck_38 : decode cX9_luck 38 = .ok (.aload_n 0, 1) := by decide +kernel
theorem dX9_luck_39 : decode cX9_luck 39 = .ok (.iload_n 1, 1) := by decide +kernel
theorem dX9_luck_40 : decode cX9_luck 40 = .ok (.iload_n 2, 1) := by decide +kernel
theorem dX9_luck_41 : decode cX9_luck 41 = .ok (.iload_n 3, 1) := by decide +kernel
theorem dX9_luck_42 : decode cX9_luck 42 = .ok (.iload 4, 2) := by decide +kernel
theorem dX9_luck_44 : decode cX9_luck 44 = .ok (.invokevirtual 248, 3) := by decide +kernel
theorem dX9_luck_47 : decode cX9_luck 47 = .ok (.goto 6, 3) := by decide +kernel
theorem dX9_luck_50 : decode cX9_luck 50 = .ok (.ldc2_w 252, 3) := by decide +kernel
theorem dX9_luck_53 : decode cX9_luck 53 = .ok (.lreturn, 1) := by decide +kernel
theorem dX9_mean_0 : decode cX9_mean 0 = .ok (.iload_n 1, 1) := by decide +kernel
theorem dX9_mean_1 : decode cX9_mean 1 = .ok (.i2l, 1) := by decide +kernel
theorem dX9_mean_2 : decode cX9_mean 2 = .ok (.lconst 0, 1) := by decide +kernel
theorem dX9_mean_3 : decode cX9_mean 3 = .ok (.ldc2_w 242, 3) := by decide +kernel
theorem dX9_mean_6 : decode cX9_mean 6 = .ok (.invokestatic 55, 3) := by decide +kernel
theorem dX9_mean_9 : decode cX9_mean 9 = .ok (.ifCond .eq 26, 3) := by decide +kernel
theorem dX9_mean_12 : decode cX9_mean 12 = .ok (.iload_n 2, 1) := by decide +kernel
theorem dX9_mean_13 : decode cX9_mean 13 = .ok (.i2l, 1) := by decide +kernel
theorem dX9_mean_14 : decode cX9_mean 14 = .ok (.lconst 0, 1) := by decide +kernel
theorem dX9_mean_15 : decode cX9_mean 15 = .ok (.lconst 1, 1) := by decide +kernel
theorem dX9_mean_16 : decode cX9_mean 16 = .ok (.invokestatic 55, 3) := by decide +kernel
theorem dX9_mean_19 : decode cX9_mean 19 = .ok (.ifCond .eq 16, 3) := by decide +kernel
theorem dX9_mean_22 : decode cX9_mean 22 = .ok (.aload_n 0, 1) := by decide +kernel
theorem dX9_mean_23 : decode cX9_mean 23 = .ok (.iload_n 1, 1) := by decide +kernel
theorem dX9_mean_24 : decode cX9_mean 24 = .ok (.bipush (-4), 2) := by decide +kernel
theorem dX9_mean_26 : decode cX9_mean 26 = .ok (.bipush (-4), 2) := by decide +kernel
theorem dX9_mean_28 : decode cX9_mean 28 = .ok (.iload_n 2, 1) := by decide +kernel
theorem dX9_mean_29 : decode cX9_mean 29 = .ok (.invokevirtual 248, 3) := by decide +kernel
theorem dX9_mean_32 : decode cX9_mean 32 = .ok (.goto 6, 3) := by decide +kernel
theorem dX9_mean_35 : decode cX9_mean 35 = .ok (.ldc2_w 252, 3) := by decide +kernel
theorem dX9_mean_38 : decode cX9_mean 38 = .ok (.lreturn, 1) := by decide +kernel
theorem dX9_see_0 : decode cX9_see 0 = .ok (.aload_n 0, 1) := by decide +kernel
theorem dX9_see_1 : decode cX9_see 1 = .ok (.iload_n 1, 1) := by decide +kernel
theorem dX9_see_2 : decode cX9_see 2 = .ok (.invokevirtual 204, 3) := by decide +kernel
theorem dX9_see_5 : decode cX9_see 5 = .ok (.ifCond .eq 17, 3) := by decide +kernel
theorem dX9_see_8 : decode cX9_see 8 = .ok (.iload_n 2, 1) := by decide +kernel
theorem dX9_see_9 : decode cX9_see 9 = .ok (.invokestatic 229, 3) := by decide +kernel
theorem dX9_see_12 : decode cX9_see 12 = .ok (.ifCond .eq 10, 3) := by decide +kernel
theorem dX9_see_15 : decode cX9_see 15 = .ok (.iload_n 3, 1) := by decide +kernel
theorem dX9_see_16 : decode cX9_see 16 = .ok (.invokestatic 222, 3) := by decide +kernel
theorem dX9_see_19 : decode cX9_see 19 = .ok (.ifCond .ne 5, 3) := by decide +kernel
theorem dX9_see_22 : decode cX9_see 22 = .ok (.iconst (-1), 1) := by decide +kernel
theorem dX9_see_23 : decode cX9_see 23 = .ok (.ireturn, 1) := by decide +kernel
theorem dX9_see_24 : decode cX9_see 24 = .ok (.aload_n 0, 1) := by decide +kernel
theorem dX9_see_25 : decode cX9_see 25 = .ok (.getfield 156, 3) := by decide +kernel
theorem dX9_see_28 : decode cX9_see 28 = .ok (.bipush 6, 2) := by decide +kernel
theorem dX9_see_30 : decode cX9_see 30 = .ok (.if_icmp .ne 6, 3) := by decide +kernel
theorem dX9_see_33 : decode cX9_see 33 = .ok (.bipush (-3), 2) := by decide +kernel
theorem dX9_see_35 : decode cX9_see 35 = .ok (.ireturn, 1) := by decide +kernel
theorem dX9_see_36 : decode cX9_see 36 = .ok (.aload_n 0, 1) := by decide +kernel
theorem dX9_see_37 : decode cX9_see 37 = .ok (.getfield 34, 3) := by decide +kernel
theorem dX9_see_40 : decode cX9_see 40 = .ok (.iconst 4, 1) := by decide +kernel
theorem dX9_see_41 : decode cX9_see 41 = .ok (.aload_n 0, 1) := by decide +kernel
theorem dX9_see_42 : decode cX9_see 42 = .ok (.getfield 156, 3) := by decide +kernel
theorem dX9_see_45 : decode cX9_see 45 = .ok (.imul, 1) := by decide +kernel
theorem dX9_see_46 : decode cX9_see 46 = .ok (.iload_n 1, 1) := by decide +kernel
theorem dX9_see_47 : decode cX9_see 47 = .ok (.iastore, 1) := by decide +kernel
theorem dX9_see_48 : decode cX9_see 48 = .ok (.aload_n 0, 1) := by decide +kernel
theorem dX9_see_49 : decode cX9_see 49 = .ok (.getfield 34, 3) := by decide +kernel
theorem dX9_see_52 : decode cX9_see 52 = .ok (.iconst 4, 1) := by decide +kernel
theorem dX9_see_53 : decode cX9_see 53 = .ok (.aload_n 0, 1) := by decide +kernel
theorem dX9_see_54 : decode cX9_see 54 = .ok (.getfield 156, 3) := by decide +kernel
theorem dX9_see_57 : decode cX9_see 57 = .ok (.imul, 1) := by decide +kernel
theorem dX9_see_58 : decode cX9_see 58 = .ok (.iconst 1, 1) := by decide +kernel
theorem dX9_see_59 : decode cX9_see 59 = .ok (.iadd, 1) := by decide +kernel
theorem dX9_see_60 : decode cX9_see 60 = .ok (.iload_n 2, 1) := by decide +kernel
theorem dX9_see_61 : decode cX9_see 61 = .ok (.iastore, 1) := by decide +kernel
theorem dX9_see_62 : decode cX9_see 62 = .ok (.aload_n 0, 1) := by decide +kernel
theorem dX9_see_63 : decode cX9_see 63 = .ok (.getfield 34, 3) := by decide +kernel
theorem dX9_see_66 : decode cX9_see 66 = .ok (.iconst 4, 1) := by decide +kernel
theorem dX9_see_67 : decode cX9_see 67 = .ok (.aload_n 0, 1) := by decide +kernel
theorem dX9_see_68 : decode cX9_see 68 = .ok (.getfield 156, 3) := by decide +kernel
theorem dX9_see_71 : decode cX9_see 71 = .ok (.imul, 1) := by decide +kernel
theorem dX9_see_72 : decode cX9_see 72 = .ok (.iconst 2, 1) := by decide +kernel
theorem dX9_see_73 : decode cX9_see 73 = .ok (.iadd, 1) := by decide +kernel
theorem dX9_see_74 : decode cX9_see 74 = .ok (.iload_n 3, 1) := by decide +kernel
theorem dX9_see_75 : decode cX9_see 75 = .ok (.iastore, 1) := by decide +kernel
theorem dX9_see_76 : decode cX9_see 76 = .ok (.aload_n 0, 1) := by decide +kernel
theorem dX9_see_77 : decode cX9_see 77 = .ok (.getfield 34, 3) := by decide +kernel
theorem dX9_see_80 : decode cX9_see 80 = .ok (.iconst 4, 1) := by decide +kernel
theorem dX9_see_81 : decode cX9_see 81 = .ok (.aload_n 0, 1) := by decide +kernel
theorem dX9_see_82 : decode cX9_see 82 = .ok (.getfield 156, 3) := by decide +kernel
theorem dX9_see_85 : decode cX9_see 85 = .ok (.imul, 1) := by decide +kernel
theorem dX9_see_86 : decode cX9_see 86 = .ok (.iconst 3, 1) := by decide +kernel
theorem dX9_see_87 : decode cX9_see 87 = .ok (.iadd, 1) := by decide +kernel
theorem dX9_see_88 : decode cX9_see 88 = .ok (.iload 4, 2) := by decide +kernel
theorem dX9_see_90 : decode cX9_see 90 = .ok (.ifCond .eq 7, 3) := by decide +kernel
theorem dX9_see_93 : decode cX9_see 93 = .ok (.iconst 1, 1) := by decide +kernel
theorem dX9_see_94 : decode cX9_see 94 = .ok (.goto 4, 3) := by decide +kernel
theorem dX9_see_97 : decode cX9_see 97 = .ok (.iconst 0, 1) := by decide +kernel
theorem dX9_see_98 : decode cX9_see 98 = .ok (.iastore, 1) := by decide +kernel
theorem dX9_see_99 : decode cX9_see 99 = .ok (.aload_n 0, 1) := by decide +kernel
theorem dX9_see_100 : decode cX9_see 100 = .ok (.dup, 1) := by decide +kernel
theorem dX9_see_101 : decode cX9_see 101 = .ok (.getfield 156, 3) := by decide +kernel
theorem dX9_see_104 : decode cX9_see 104 = .ok (.iconst 1, 1) := by decide +kernel
theorem dX9_see_105 : decode cX9_see 105 = .ok (.iadd, 1) := by decide +kernel
theorem dX9_see_106 : decode cX9_see 106 = .ok (.putfield 156, 3) := by decide +kernel
theorem dX9_see_109 : decode cX9_see 109 = .ok (.aload_n 0, 1) := by decide +kernel
theorem dX9_see_110 : decode cX9_see 110 = .ok (.getfield 156, 3) := by decide +kernel
theorem dX9_see_113 : decode cX9_see 113 = .ok (.ireturn, 1) := by decide +kernel
theorem dX9_forget_0 : decode cX9_forget 0 = .ok (.iload_n 1, 1) := by decide +kernel
theorem dX9_forget_1 : decode cX9_forget 1 = .ok (.i2l, 1) := by decide +kernel
theorem dX9_forget_2 : decode cX9_forget 2 = .ok (.lconst 0, 1) := by decide +kernel
theorem dX9_forget_3 : decode cX9_forget 3 = .ok (.aload_n 0, 1) := by decide +kernel
theorem dX9_forget_4 : decode cX9_forget 4 = .ok (.getfield 156, 3) := by decide +kernel
theorem dX9_forget_7 : decode cX9_forget 7 = .ok (.i2l, 1) := by decide +kernel
theorem dX9_forget_8 : decode cX9_forget 8 = .ok (.invokestatic 55, 3) := by decide +kernel
theorem dX9_forget_11 : decode cX9_forget 11 = .ok (.ifCond .ne 5, 3) := by decide +kernel
theorem dX9_forget_14 : decode cX9_forget 14 = .ok (.iconst (-1), 1) := by decide +kernel
theorem dX9_forget_15 : decode cX9_forget 15 = .ok (.ireturn, 1) := by decide +kernel
theorem dX9_forget_16 : decode cX9_forget 16 = .ok (.aload_n 0, 1) := by decide +kernel
theorem dX9_forget_17 : decode cX9_forget 17 = .ok (.getfield 156, 3) := by decide +kernel
theorem dX9_forget_20 : decode cX9_forget 20 = .ok (.istore_n 2, 1) := by decide +kernel
theorem dX9_forget_21 : decode cX9_forget 21 = .ok (.aload_n 0, 1) := by decide +kernel
theorem dX9_forget_22 : decode cX9_forget 22 = .ok (.iload_n 1, 1) := by decide +kernel
theorem dX9_forget_23 : decode cX9_forget 23 = .ok (.putfield 156, 3) := by decide +kernel
theorem dX9_forget_26 : decode cX9_forget 26 = .ok (.iload_n 2, 1) := by decide +kernel
theorem dX9_forget_27 : decode cX9_forget 27 = .ok (.ireturn, 1) := by decide +kernel
theorem dX9_isAsSeen_0 : decode cX9_isAsSeen 0 = .ok (.aload_n 0, 1) := by decide +kernel
theorem dX9_isAsSeen_1 : decode cX9_isAsSeen 1 = .ok (.iload_n 1, 1) := by decide +kernel
theorem dX9_isAsSeen_2 : decode cX9_isAsSeen 2 = .ok (.invokevirtual 189, 3) := by decide +kernel
theorem dX9_isAsSeen_5 : decode cX9_isAsSeen 5 = .ok (.iconst 1, 1) := by decide +kernel
theorem dX9_isAsSeen_6 : decode cX9_isAsSeen 6 = .ok (.istore_n 2, 1) := by decide +kernel
theorem dX9_isAsSeen_7 : decode cX9_isAsSeen 7 = .ok (.iconst 0, 1) := by decide +kernel
theorem dX9_isAsSeen_8 : decode cX9_isAsSeen 8 = .ok (.istore_n 3, 1) := by decide +kernel
theorem dX9_isAsSeen_9 : decode cX9_isAsSeen 9 = .ok (.iload_n 3, 1) := by decide +kernel
theorem dX9_isAsSeen_10 : decode cX9_isAsSeen 10 = .ok (.aload_n 0, 1) := by decide +kernel
theorem dX9_isAsSeen_11 : decode cX9_isAsSeen 11 = .ok (.getfield 156, 3) := by decide +kernel
theorem dX9_isAsSeen_14 : decode cX9_isAsSeen 14 = .ok (.if_icmp .ge 87, 3) := by decide +kernel
theorem dX9_isAsSeen_17 : decode cX9_isAsSeen 17 = .ok (.iload_n 2, 1) := by decide +kernel
theorem dX9_isAsSeen_18 : decode cX9_isAsSeen 18 = .ok (.ifCond .eq 75, 3) := by decide +kernel
theorem dX9_isAsSeen_21 : decode cX9_isAsSeen 21 = .ok (.aload_n 0, 1) := by decide +kernel
theorem dX9_isAsSeen_22 : decode cX9_isAsSeen 22 = .ok (.aload_n 0, 1) := by decide +kernel
theorem dX9_isAsSeen_23 : decode cX9_isAsSeen 23 = .ok (.getfield 34, 3) := by decide +kernel
theorem dX9_isAsSeen_26 : decode cX9_isAsSeen 26 = .ok (.iconst 4, 1) := by decide +kernel
theorem dX9_isAsSeen_27 : decode cX9_isAsSeen 27 = .ok (.iload_n 3, 1) := by decide +kernel
theorem dX9_isAsSeen_28 : decode cX9_isAsSeen 28 = .ok (.imul, 1) := by decide +kernel
theorem dX9_isAsSeen_29 : decode cX9_isAsSeen 29 = .ok (.iaload, 1) := by decide +kernel
theorem dX9_isAsSeen_30 : decode cX9_isAsSeen 30 = .ok (.invokevirtual 204, 3) := by decide +kernel
theorem dX9_isAsSeen_33 : decode cX9_isAsSeen 33 = .ok (.ifCond .eq 60, 3) := by decide +kernel
theorem dX9_isAsSeen_36 : decode cX9_isAsSeen 36 = .ok (.aload_n 0, 1) := by decide +kernel
theorem dX9_isAsSeen_37 : decode cX9_isAsSeen 37 = .ok (.aload_n 0, 1) := by decide +kernel
theorem dX9_isAsSeen_38 : decode cX9_isAsSeen 38 = .ok (.getfield 34, 3) := by decide +kernel
theorem dX9_isAsSeen_41 : decode cX9_isAsSeen 41 = .ok (.iconst 4, 1) := by decide +kernel
theorem dX9_isAsSeen_42 : decode cX9_isAsSeen 42 = .ok (.iload_n 3, 1) := by decide +kernel
theorem dX9_isAsSeen_43 : decode cX9_isAsSeen 43 = .ok (.imul, 1) := by decide +kernel
theorem dX9_isAsSeen_44 : decode cX9_isAsSeen 44 = .ok (.iaload, 1) := by decide +kernel
theorem dX9_isAsSeen_45 : decode cX9_isAsSeen 45 = .ok (.aload_n 0, 1) := by decide +kernel
theorem dX9_isAsSeen_46 : decode cX9_isAsSeen 46 = .ok (.getfield 34, 3) := by decide +kernel
theorem dX9_isAsSeen_49 : decode cX9_isAsSeen 49 = .ok (.iconst 4, 1) := by decide +kernel
theorem dX9_isAsSeen_50 : decode cX9_isAsSeen 50 = .ok (.iload_n 3, 1) := by decide +kernel
theorem dX9_isAsSeen_51 : decode cX9_isAsSeen 51 = .ok (.imul, 1) := by decide +kernel
theorem dX9_isAsSeen_52 : decode cX9_isAsSeen 52 = .ok (.iconst 1, 1) := by decide +kernel
theorem dX9_isAsSeen_53 : decode cX9_isAsSeen 53 = .ok (.iadd, 1) := by decide +kernel
theorem dX9_isAsSeen_54 : decode cX9_isAsSeen 54 = .ok (.iaload, 1) := by decide +kernel
theorem dX9_isAsSeen_55 : decode cX9_isAsSeen 55 = .ok (.invokevirtual 186, 3) := by decide +kernel
theorem dX9_isAsSeen_58 : decode cX9_isAsSeen 58 = .ok (.aload_n 0, 1) := by decide +kernel
theorem dX9_isAsSeen_59 : decode cX9_isAsSeen 59 = .ok (.getfield 34, 3) := by decide +kernel
theorem dX9_isAsSeen_62 : decode cX9_isAsSeen 62 = .ok (.iconst 4, 1) := by decide +kernel
theorem dX9_isAsSeen_63 : decode cX9_isAsSeen 63 = .ok (.iload_n 3, 1) := by decide +kernel
theorem dX9_isAsSeen_64 : decode cX9_isAsSeen 64 = .ok (.imul, 1) := by decide +kernel
theorem dX9_isAsSeen_65 : decode cX9_isAsSeen 65 = .ok (.iconst 2, 1) := by decide +kernel
theorem dX9_isAsSeen_66 : decode cX9_isAsSeen 66 = .ok (.iadd, 1) := by decide +kernel
theorem dX9_isAsSeen_67 : decode cX9_isAsSeen 67 = .ok (.iaload, 1) := by decide +kernel
theorem dX9_isAsSeen_68 : decode cX9_isAsSeen 68 = .ok (.if_icmp .gt 7, 3) := by decide +kernel
theorem dX9_isAsSeen_71 : decode cX9_isAsSeen 71 = .ok (.iconst 1, 1) := by decide +kernel
theorem dX9_isAsSeen_72 : decode cX9_isAsSeen 72 = .ok (.goto 4, 3) := by decide +kernel
theorem dX9_isAsSeen_75 : decode cX9_isAsSeen 75 = .ok (.iconst 0, 1) := by decide +kernel
theorem dX9_isAsSeen_76 : decode cX9_isAsSeen 76 = .ok (.aload_n 0, 1) := by decide +kernel
theorem dX9_isAsSeen_77 : decode cX9_isAsSeen 77 = .ok (.getfield 34, 3) := by decide +kernel
theorem dX9_isAsSeen_80 : decode cX9_isAsSeen 80 = .ok (.iconst 4, 1) := by decide +kernel
theorem dX9_isAsSeen_81 : decode cX9_isAsSeen 81 = .ok (.iload_n 3, 1) := by decide +kernel
theorem dX9_isAsSeen_82 : decode cX9_isAsSeen 82 = .ok (.imul, 1) := by decide +kernel
theorem dX9_isAsSeen_83 : decode cX9_isAsSeen 83 = .ok (.iconst 3, 1) := by decide +kernel
theorem dX9_isAsSeen_84 : decode cX9_isAsSeen 84 = .ok (.iadd, 1) := by decide +kernel
theorem dX9_isAsSeen_85 : decode cX9_isAsSeen 85 = .ok (.iaload, 1) := by decide +kernel
theorem dX9_isAsSeen_86 : decode cX9_isAsSeen 86 = .ok (.if_icmp .ne 7, 3) := by decide +kernel
theorem dX9_isAsSeen_89 : decode cX9_isAsSeen 89 = .ok (.iconst 1, 1) := by decide +kernel
theorem dX9_isAsSeen_90 : decode cX9_isAsSeen 90 = .ok (.goto 4, 3) := by decide +kernel
theorem dX9_isAsSeen_93 : decode cX9_isAsSeen 93 = .ok (.iconst 0, 1) := by decide +kernel
theorem dX9_isAsSeen_94 : decode cX9_isAsSeen 94 = .ok (.istore_n 2, 1) := by decide +kernel
theorem dX9_isAsSeen_95 : decode cX9_isAsSeen 95 = .ok (.iinc 3 1, 3) := by decide +kernel
theorem dX9_isAsSeen_98 : decode cX9_isAsSeen 98 = .ok (.goto (-89), 3) := by decide +kernel
theorem dX9_isAsSeen_101 : decode cX9_isAsSeen 101 = .ok (.iload_n 2, 1) := by decide +kernel
theorem dX9_isAsSeen_102 : decode cX9_isAsSeen 102 = .ok (.ireturn, 1) := by decide +kernel
theorem dX9_kindsOf_0 : decode cX9_kindsOf 0 = .ok (.iconst 0, 1) := by decide +kernel
theorem dX9_kindsOf_1 : decode cX9_kindsOf 1 = .ok (.istore_n 2, 1) := by decide +kernel
theorem dX9_kindsOf_2 : decode cX9_kindsOf 2 = .ok (.aload_n 0, 1) := by decide +kernel
theorem dX9_kindsOf_3 : decode cX9_kindsOf 3 = .ok (.iconst 0, 1) := by decide +kernel
theorem dX9_kindsOf_4 : decode cX9_kindsOf 4 = .ok (.sipush 244, 3) := by decide +kernel
theorem dX9_kindsOf_7 : decode cX9_kindsOf 7 = .ok (.invokevirtual 235, 3) := by decide +kernel
theorem dX9_kindsOf_10 : decode cX9_kindsOf 10 = .ok (.iconst 0, 1) := by decide +kernel
theorem dX9_kindsOf_11 : decode cX9_kindsOf 11 = .ok (.istore_n 3, 1) := by decide +kernel
theorem dX9_kindsOf_12 : decode cX9_kindsOf 12 = .ok (.iload_n 3, 1) := by decide +kernel
theorem dX9_kindsOf_13 : decode cX9_kindsOf 13 = .ok (.iconst 4, 1) := by decide +kernel
theorem dX9_kindsOf_14 : decode cX9_kindsOf 14 = .ok (.if_icmp .ge 83, 3) := by decide +kernel
theorem dX9_kindsOf_17 : decode cX9_kindsOf 17 = .ok (.aload_n 0, 1) := by decide +kernel
theorem dX9_kindsOf_18 : decode cX9_kindsOf 18 = .ok (.getfield 7, 3) := by decide +kernel
theorem dX9_kindsOf_21 : decode cX9_kindsOf 21 = .ok (.sipush 244, 3) := by decide +kernel
theorem dX9_kindsOf_24 : decode cX9_kindsOf 24 = .ok (.iload_n 1, 1) := by decide +kernel
theorem dX9_kindsOf_25 : decode cX9_kindsOf 25 = .ok (.iadd, 1) := by decide +kernel
theorem dX9_kindsOf_26 : decode cX9_kindsOf 26 = .ok (.iload_n 3, 1) := by decide +kernel
theorem dX9_kindsOf_27 : decode cX9_kindsOf 27 = .ok (.iastore, 1) := by decide +kernel
theorem dX9_kindsOf_28 : decode cX9_kindsOf 28 = .ok (.iload_n 2, 1) := by decide +kernel
theorem dX9_kindsOf_29 : decode cX9_kindsOf 29 = .ok (.aload_n 0, 1) := by decide +kernel
theorem dX9_kindsOf_30 : decode cX9_kindsOf 30 = .ok (.sipush 244, 3) := by decide +kernel
theorem dX9_kindsOf_33 : decode cX9_kindsOf 33 = .ok (.invokevirtual 254, 3) := by decide +kernel
theorem dX9_kindsOf_36 : decode cX9_kindsOf 36 = .ok (.ifCond .eq 9, 3) := by decide +kernel
theorem dX9_kindsOf_39 : decode cX9_kindsOf 39 = .ok (.iconst 1, 1) := by decide +kernel
theorem dX9_kindsOf_40 : decode cX9_kindsOf 40 = .ok (.iload_n 3, 1) := by decide +kernel
theorem dX9_kindsOf_41 : decode cX9_kindsOf 41 = .ok (.ishl, 1) := by decide +kernel
theorem dX9_kindsOf_42 : decode cX9_kindsOf 42 = .ok (.goto 4, 3) := by decide +kernel
theorem dX9_kindsOf_45 : decode cX9_kindsOf 45 = .ok (.iconst 0, 1) := by decide +kernel
theorem dX9_kindsOf_46 : decode cX9_kindsOf 46 = .ok (.ior, 1) := by decide +kernel
theorem dX9_kindsOf_47 : decode cX9_kindsOf 47 = .ok (.istore_n 2, 1) := by decide +kernel
theorem dX9_kindsOf_48 : decode cX9_kindsOf 48 = .ok (.iconst 0, 1) := by decide +kernel
theorem dX9_kindsOf_49 : decode cX9_kindsOf 49 = .ok (.istore 4, 2) := by decide +kernel
theorem dX9_kindsOf_51 : decode cX9_kindsOf 51 = .ok (.iload 4, 2) := by decide +kernel
theorem dX9_kindsOf_53 : decode cX9_kindsOf 53 = .ok (.aload_n 0, 1) := by decide +kernel
theorem dX9_kindsOf_54 : decode cX9_kindsOf 54 = .ok (.getfield 153, 3) := by decide +kernel
theorem dX9_kindsOf_57 : decode cX9_kindsOf 57 = .ok (.if_icmp .ge 34, 3) := by decide +kernel
theorem dX9_kindsOf_60 : decode cX9_kindsOf 60 = .ok (.aload_n 0, 1) := by decide +kernel
theorem dX9_kindsOf_61 : decode cX9_kindsOf 61 = .ok (.getfield 37, 3) := by decide +kernel
theorem dX9_kindsOf_64 : decode cX9_kindsOf 64 = .ok (.iconst 4, 1) := by decide +kernel
theorem dX9_kindsOf_65 : decode cX9_kindsOf 65 = .ok (.iload_n 3, 1) := by decide +kernel
theorem dX9_kindsOf_66 : decode cX9_kindsOf 66 = .ok (.imul, 1) := by decide +kernel
theorem dX9_kindsOf_67 : decode cX9_kindsOf 67 = .ok (.iload 4, 2) := by decide +kernel
theorem dX9_kindsOf_69 : decode cX9_kindsOf 69 = .ok (.iadd, 1) := by decide +kernel
theorem dX9_kindsOf_70 : decode cX9_kindsOf 70 = .ok (.aload_n 0, 1) := by decide +kernel
theorem dX9_kindsOf_71 : decode cX9_kindsOf 71 = .ok (.iload 4, 2) := by decide +kernel
theorem dX9_kindsOf_73 : decode cX9_kindsOf 73 = .ok (.aload_n 0, 1) := by decide +kernel
theorem dX9_kindsOf_74 : decode cX9_kindsOf 74 = .ok (.getfield 7, 3) := by decide +kernel
theorem dX9_kindsOf_77 : decode cX9_kindsOf 77 = .ok (.iconst 4, 1) := by decide +kernel
theorem dX9_kindsOf_78 : decode cX9_kindsOf 78 = .ok (.iload_n 1, 1) := by decide +kernel
theorem dX9_kindsOf_79 : decode cX9_kindsOf 79 = .ok (.iadd, 1) := by decide +kernel
theorem dX9_kindsOf_80 : decode cX9_kindsOf 80 = .ok (.iaload, 1) := by decide +kernel
theorem dX9_kindsOf_81 : decode cX9_kindsOf 81 = .ok (.invokevirtual 186, 3) := by decide +kernel
theorem dX9_kindsOf_84 : decode cX9_kindsOf 84 = .ok (.iastore, 1) := by decide +kernel
theorem dX9_kindsOf_85 : decode cX9_kindsOf 85 = .ok (.iinc 4 1, 3) := by decide +kernel
theorem dX9_kindsOf_88 : decode cX9_kindsOf 88 = .ok (.goto (-37), 3) := by decide +kernel
theorem dX9_kindsOf_91 : decode cX9_kindsOf 91 = .ok (.iinc 3 1, 3) := by decide +kernel
theorem dX9_kindsOf_94 : decode cX9_kindsOf 94 = .ok (.goto (-82), 3) := by decide +kernel
theorem dX9_kindsOf_97 : decode cX9_kindsOf 97 = .ok (.iload_n 2, 1) := by decide +kernel
theorem dX9_kindsOf_98 : decode cX9_kindsOf 98 = .ok (.ireturn, 1) := by decide +kernel
theorem dX9_kinds_0 : decode cX9_kinds 0 = .ok (.aload_n 0, 1) := by decide +kernel
theorem dX9_kinds_1 : decode cX9_kinds 1 = .ok (.iload_n 1, 1) := by decide +kernel
theorem dX9_kinds_2 : decode cX9_kinds 2 = .ok (.invokevirtual 198, 3) := by decide +kernel
theorem dX9_kinds_5 : decode cX9_kinds 5 = .ok (.ifCond .eq 11, 3) := by decide +kernel
theorem dX9_kinds_8 : decode cX9_kinds 8 = .ok (.aload_n 0, 1) := by decide +kernel
theorem dX9_kinds_9 : decode cX9_kinds 9 = .ok (.iload_n 1, 1) := by decide +kernel
theorem dX9_kinds_10 : decode cX9_kinds 10 = .ok (.invokevirtual 257, 3) := by decide +kernel
theorem dX9_kinds_13 : decode cX9_kinds 13 = .ok (.goto 4, 3) := by decide +kernel
theorem dX9_kinds_16 : decode cX9_kinds 16 = .ok (.iconst (-1), 1) := by decide +kernel
theorem dX9_kinds_17 : decode cX9_kinds 17 = .ok (.ireturn, 1) := by decide +kernel
theorem dX9_news_0 : decode cX9_news 0 = .ok (.aload_n 0, 1) := by decide +kernel
theorem dX9_news_1 : decode cX9_news 1 = .ok (.iload_n 1, 1) := by decide +kernel
theorem dX9_news_2 : decode cX9_news 2 = .ok (.invokevirtual 198, 3) := by decide +kernel
theorem dX9_news_5 : decode cX9_news 5 = .ok (.ifCond .ne 5, 3) := by decide +kernel
theorem dX9_news_8 : decode cX9_news 8 = .ok (.iconst (-1), 1) := by decide +kernel
theorem dX9_news_9 : decode cX9_news 9 = .ok (.ireturn, 1) := by decide +kernel
theorem dX9_news_10 : decode cX9_news 10 = .ok (.iconst 0, 1) := by decide +kernel
theorem dX9_news_11 : decode cX9_news 11 = .ok (.istore_n 2, 1) := by decide +kernel
theorem dX9_news_12 : decode cX9_news 12 = .ok (.aload_n 0, 1) := by decide +kernel
theorem dX9_news_13 : decode cX9_news 13 = .ok (.iconst 0, 1) := by decide +kernel
theorem dX9_news_14 : decode cX9_news 14 = .ok (.sipush 244, 3) := by decide +kernel
theorem dX9_news_17 : decode cX9_news 17 = .ok (.invokevirtual 235, 3) := by decide +kernel
theorem dX9_news_20 : decode cX9_news 20 = .ok (.iconst 0, 1) := by decide +kernel
theorem dX9_news_21 : decode cX9_news 21 = .ok (.istore_n 3, 1) := by decide +kernel
theorem dX9_news_22 : decode cX9_news 22 = .ok (.iload_n 3, 1) := by decide +kernel
theorem dX9_news_23 : decode cX9_news 23 = .ok (.bipush 10, 2) := by decide +kernel
theorem dX9_news_25 : decode cX9_news 25 = .ok (.if_icmp .ge 40, 3) := by decide +kernel
theorem dX9_news_28 : decode cX9_news 28 = .ok (.aload_n 0, 1) := by decide +kernel
theorem dX9_news_29 : decode cX9_news 29 = .ok (.getfield 7, 3) := by decide +kernel
theorem dX9_news_32 : decode cX9_news 32 = .ok (.sipush 248, 3) := by decide +kernel
theorem dX9_news_35 : decode cX9_news 35 = .ok (.iload_n 1, 1) := by decide +kernel
theorem dX9_news_36 : decode cX9_news 36 = .ok (.iadd, 1) := by decide +kernel
theorem dX9_news_37 : decode cX9_news 37 = .ok (.iload_n 3, 1) := by decide +kernel
theorem dX9_news_38 : decode cX9_news 38 = .ok (.iastore, 1) := by decide +kernel
theorem dX9_news_39 : decode cX9_news 39 = .ok (.iload_n 2, 1) := by decide +kernel
theorem dX9_news_40 : decode cX9_news 40 = .ok (.aload_n 0, 1) := by decide +kernel
theorem dX9_news_41 : decode cX9_news 41 = .ok (.sipush 244, 3) := by decide +kernel
theorem dX9_news_44 : decode cX9_news 44 = .ok (.invokevirtual 254, 3) := by decide +kernel
theorem dX9_news_47 : decode cX9_news 47 = .ok (.ifCond .eq 9, 3) := by decide +kernel
theorem dX9_news_50 : decode cX9_news 50 = .ok (.iconst 1, 1) := by decide +kernel
theorem dX9_news_51 : decode cX9_news 51 = .ok (.iload_n 3, 1) := by decide +kernel
theorem dX9_news_52 : decode cX9_news 52 = .ok (.ishl, 1) := by decide +kernel
theorem dX9_news_53 : decode cX9_news 53 = .ok (.goto 4, 3) := by decide +kernel
theorem dX9_news_56 : decode cX9_news 56 = .ok (.iconst 0, 1) := by decide +kernel
theorem dX9_news_57 : decode cX9_news 57 = .ok (.ior, 1) := by decide +kernel
theorem dX9_news_58 : decode cX9_news 58 = .ok (.istore_n 2, 1) := by decide +kernel
theorem dX9_news_59 : decode cX9_news 59 = .ok (.iinc 3 1, 3) := by decide +kernel
theorem dX9_news_62 : decode cX9_news 62 = .ok (.goto (-40), 3) := by decide +kernel
theorem dX9_news_65 : decode cX9_news 65 = .ok (.iload_n 2, 1) := by decide +kernel
theorem dX9_news_66 : decode cX9_news 66 = .ok (.ireturn, 1) := by decide +kernel
theorem dX9_ask_0 : decode cX9_ask 0 = .ok (.aload_n 0, 1) := by decide +kernel
theorem dX9_ask_1 : decode cX9_ask 1 = .ok (.iload_n 1, 1) := by decide +kernel
theorem dX9_ask_2 : decode cX9_ask 2 = .ok (.invokevirtual 198, 3) := by decide +kernel
theorem dX9_ask_5 : decode cX9_ask 5 = .ok (.ifCond .eq 13, 3) := by decide +kernel
theorem dX9_ask_8 : decode cX9_ask 8 = .ok (.iload_n 2, 1) := by decide +kernel
theorem dX9_ask_9 : decode cX9_ask 9 = .ok (.i2l, 1) := by decide +kernel
theorem dX9_ask_10 : decode cX9_ask 10 = .ok (.lconst 0, 1) := by decide +kernel
theorem dX9_ask_11 : decode cX9_ask 11 = .ok (.lconst 1, 1) := by decide +kernel
theorem dX9_ask_12 : decode cX9_ask 12 = .ok (.invokestatic 55, 3) := by decide +kernel
theorem dX9_ask_15 : decode cX9_ask 15 = .ok (.ifCond .ne 5, 3) := by decide +kernel
theorem dX9_ask_18 : decode cX9_ask 18 = .ok (.iconst (-1), 1) := by decide +kernel
theorem dX9_ask_19 : decode cX9_ask 19 = .ok (.ireturn, 1) := by decide +kernel
theorem dX9_ask_20 : decode cX9_ask 20 = .ok (.aload_n 0, 1) := by decide +kernel
theorem dX9_ask_21 : decode cX9_ask 21 = .ok (.iload_n 1, 1) := by decide +kernel
theorem dX9_ask_22 : decode cX9_ask 22 = .ok (.invokevirtual 257, 3) := by decide +kernel
theorem dX9_ask_25 : decode cX9_ask 25 = .ok (.istore_n 3, 1) := by decide +kernel
theorem dX9_ask_26 : decode cX9_ask 26 = .ok (.iconst 0, 1) := by decide +kernel
theorem dX9_ask_27 : decode cX9_ask 27 = .ok (.istore 4, 2) := by decide +kernel
theorem dX9_ask_29 : decode cX9_ask 29 = .ok (.iconst 0, 1) := by decide +kernel
theorem dX9_ask_30 : decode cX9_ask 30 = .ok (.istore 5, 2) := by decide +kernel
theorem dX9_ask_32 : decode cX9_ask 32 = .ok (.iload 5, 2) := by decide +kernel
theorem dX9_ask_34 : decode cX9_ask 34 = .ok (.iconst 4, 1) := by decide +kernel
theorem dX9_ask_35 : decode cX9_ask 35 = .ok (.if_icmp .ge 20, 3) := by decide +kernel
theorem dX9_ask_38 : decode cX9_ask 38 = .ok (.iload 4, 2) := by decide +kernel
theorem dX9_ask_40 : decode cX9_ask 40 = .ok (.iload_n 3, 1) := by decide +kernel
theorem dX9_ask_41 : decode cX9_ask 41 = .ok (.iload 5, 2) := by decide +kernel
theorem dX9_ask_43 : decode cX9_ask 43 = .ok (.ishr, 1) := by decide +kernel
theorem dX9_ask_44 : decode cX9_ask 44 = .ok (.iconst 1, 1) := by decide +kernel
theorem dX9_ask_45 : decode cX9_ask 45 = .ok (.iand, 1) := by decide +kernel
theorem dX9_ask_46 : decode cX9_ask 46 = .ok (.iadd, 1) := by decide +kernel
theorem dX9_ask_47 : decode cX9_ask 47 = .ok (.istore 4, 2) := by decide +kernel
theorem dX9_ask_49 : decode cX9_ask 49 = .ok (.iinc 5 1, 3) := by decide +kernel
theorem dX9_ask_52 : decode cX9_ask 52 = .ok (.goto (-20), 3) := by decide +kernel
theorem dX9_ask_55 : decode cX9_ask 55 = .ok (.iload 4, 2) := by decide +kernel
theorem dX9_ask_57 : decode cX9_ask 57 = .ok (.istore 5, 2) := by decide +kernel
theorem dX9_ask_59 : decode cX9_ask 59 = .ok (.bipush (-4), 2) := by decide +kernel
theorem dX9_ask_61 : decode cX9_ask 61 = .ok (.istore 6, 2) := by decide +kernel
theorem dX9_ask_63 : decode cX9_ask 63 = .ok (.iconst 0, 1) := by decide +kernel
theorem dX9_ask_64 : decode cX9_ask 64 = .ok (.istore 7, 2) := by decide +kernel
theorem dX9_ask_66 : decode cX9_ask 66 = .ok (.iload 7, 2) := by decide +kernel
theorem dX9_ask_68 : decode cX9_ask 68 = .ok (.aload_n 0, 1) := by decide +kernel
theorem dX9_ask_69 : decode cX9_ask 69 = .ok (.getfield 153, 3) := by decide +kernel
theorem dX9_ask_72 : decode cX9_ask 72 = .ok (.if_icmp .ge 140, 3) := by decide +kernel
theorem dX9_ask_75 : decode cX9_ask 75 = .ok (.iconst 0, 1) := by decide +kernel
theorem dX9_ask_76 : decode cX9_ask 76 = .ok (.istore 8, 2) := by decide +kernel
theorem dX9_ask_78 : decode cX9_ask 78 = .ok (.iload 8, 2) := by decide +kernel
theorem dX9_ask_80 : decode cX9_ask 80 = .ok (.bipush 60, 2) := by decide +kernel
theorem dX9_ask_82 : decode cX9_ask 82 = .ok (.if_icmp .ge 124, 3) := by decide +kernel
theorem dX9_ask_85 : decode cX9_ask 85 = .ok (.iconst 0, 1) := by decide +kernel
theorem dX9_ask_86 : decode cX9_ask 86 = .ok (.istore 9, 2) := by decide +kernel
theorem dX9_ask_88 : decode cX9_ask 88 = .ok (.iconst 0, 1) := by decide +kernel
theorem dX9_ask_89 : decode cX9_ask 89 = .ok (.istore 10, 2) := by decide +kernel
theorem dX9_ask_91 : decode cX9_ask 91 = .ok (.iload 10, 2) := by decide +kernel
theorem dX9_ask_93 : decode cX9_ask 93 = .ok (.iconst 4, 1) := by decide +kernel
theorem dX9_ask_94 : decode cX9_ask 94 = .ok (.if_icmp .ge 46, 3) := by decide +kernel
theorem dX9_ask_97 : decode cX9_ask 97 = .ok (.iload 9, 2) := by decide +kernel
theorem dX9_ask_99 : decode cX9_ask 99 = .ok (.iload_n 3, 1) := by decide +kernel
theorem dX9_ask_100 : decode cX9_ask 100 = .ok (.iload 10, 2) := by decide +kernel
theorem dX9_ask_102 : decode cX9_ask 102 = .ok (.ishr, 1) := by decide +kernel
theorem dX9_ask_103 : decode cX9_ask 103 = .ok (.iconst 1, 1) := by decide +kernel
theorem dX9_ask_104 : decode cX9_ask 104 = .ok (.iand, 1) := by decide +kernel
theorem dX9_ask_105 : decode cX9_ask 105 = .ok (.iconst 1, 1) := by decide +kernel
theorem dX9_ask_106 : decode cX9_ask 106 = .ok (.if_icmp .ne 24, 3) := by decide +kernel
theorem dX9_ask_109 : decode cX9_ask 109 = .ok (.aload_n 0, 1) := by decide +kernel
theorem dX9_ask_110 : decode cX9_ask 110 = .ok (.getfield 37, 3) := by decide +kernel
theorem dX9_ask_113 : decode cX9_ask 113 = .ok (.iconst 4, 1) := by decide +kernel
theorem dX9_ask_114 : decode cX9_ask 114 = .ok (.iload 10, 2) := by decide +kernel
theorem dX9_ask_116 : decode cX9_ask 116 = .ok (.imul, 1) := by decide +kernel
theorem dX9_ask_117 : decode cX9_ask 117 = .ok (.iload 7, 2) := by decide +kernel
theorem dX9_ask_119 : decode cX9_ask 119 = .ok (.iadd, 1) := by decide +kernel
theorem dX9_ask_120 : decode cX9_ask 120 = .ok (.iaload, 1) := by decide +kernel
theorem dX9_ask_121 : decode cX9_ask 121 = .ok (.iload 8, 2) := by decide +kernel
theorem dX9_ask_123 : decode cX9_ask 123 = .ok (.if_icmp .gt 7, 3) := by decide +kernel
theorem dX9_ask_126 : decode cX9_ask 126 = .ok (.iconst 1, 1) := by decide +kernel
theorem dX9_ask_127 : decode cX9_ask 127 = .ok (.goto 4, 3) := by decide +kernel
theorem dX9_ask_130 : decode cX9_ask 130 = .ok (.iconst 0, 1) := by decide +kernel
theorem dX9_ask_131 : decode cX9_ask 131 = .ok (.iadd, 1) := by decide +kernel
theorem dX9_ask_132 : decode cX9_ask 132 = .ok (.istore 9, 2) := by decide +kernel
theorem dX9_ask_134 : decode cX9_ask 134 = .ok (.iinc 10 1, 3) := by decide +kernel
theorem dX9_ask_137 : decode cX9_ask 137 = .ok (.goto (-46), 3) := by decide +kernel
theorem dX9_ask_140 : decode cX9_ask 140 = .ok (.iload 9, 2) := by decide +kernel
theorem dX9_ask_142 : decode cX9_ask 142 = .ok (.iload 4, 2) := by decide +kernel
theorem dX9_ask_144 : decode cX9_ask 144 = .ok (.iload 9, 2) := by decide +kernel
theorem dX9_ask_146 : decode cX9_ask 146 = .ok (.isub, 1) := by decide +kernel
theorem dX9_ask_147 : decode cX9_ask 147 = .ok (.if_icmp .le 8, 3) := by decide +kernel
theorem dX9_ask_150 : decode cX9_ask 150 = .ok (.iload 9, 2) := by decide +kernel
theorem dX9_ask_152 : decode cX9_ask 152 = .ok (.goto 8, 3) := by decide +kernel
theorem dX9_ask_155 : decode cX9_ask 155 = .ok (.iload 4, 2) := by decide +kernel
theorem dX9_ask_157 : decode cX9_ask 157 = .ok (.iload 9, 2) := by decide +kernel
theorem dX9_ask_159 : decode cX9_ask 159 = .ok (.isub, 1) := by decide +kernel
theorem dX9_ask_160 : decode cX9_ask 160 = .ok (.istore 10, 2) := by decide +kernel
theorem dX9_ask_162 : decode cX9_ask 162 = .ok (.iload 10, 2) := by decide +kernel
theorem dX9_ask_164 : decode cX9_ask 164 = .ok (.iload 5, 2) := by decide +kernel
theorem dX9_ask_166 : decode cX9_ask 166 = .ok (.if_icmp .ge 14, 3) := by decide +kernel
theorem dX9_ask_169 : decode cX9_ask 169 = .ok (.bipush 100, 2) := by decide +kernel
theorem dX9_ask_171 : decode cX9_ask 171 = .ok (.iload 7, 2) := by decide +kernel
theorem dX9_ask_173 : decode cX9_ask 173 = .ok (.imul, 1) := by decide +kernel
theorem dX9_ask_174 : decode cX9_ask 174 = .ok (.iload 8, 2) := by decide +kernel
theorem dX9_ask_176 : decode cX9_ask 176 = .ok (.iadd, 1) := by decide +kernel
theorem dX9_ask_177 : decode cX9_ask 177 = .ok (.goto 5, 3) := by decide +kernel
theorem dX9_ask_180 : decode cX9_ask 180 = .ok (.iload 6, 2) := by decide +kernel
theorem dX9_ask_182 : decode cX9_ask 182 = .ok (.istore 6, 2) := by decide +kernel
theorem dX9_ask_184 : decode cX9_ask 184 = .ok (.iload 10, 2) := by decide +kernel
theorem dX9_ask_186 : decode cX9_ask 186 = .ok (.iload 5, 2) := by decide +kernel
theorem dX9_ask_188 : decode cX9_ask 188 = .ok (.if_icmp .ge 8, 3) := by decide +kernel
theorem dX9_ask_191 : decode cX9_ask 191 = .ok (.iload 10, 2) := by decide +kernel
theorem dX9_ask_193 : decode cX9_ask 193 = .ok (.goto 5, 3) := by decide +kernel
theorem dX9_ask_196 : decode cX9_ask 196 = .ok (.iload 5, 2) := by decide +kernel
theorem dX9_ask_198 : decode cX9_ask 198 = .ok (.istore 5, 2) := by decide +kernel
theorem dX9_ask_200 : decode cX9_ask 200 = .ok (.iinc 8 1, 3) := by decide +kernel
theorem dX9_ask_203 : decode cX9_ask 203 = .ok (.goto (-125), 3) := by decide +kernel
theorem dX9_ask_206 : decode cX9_ask 206 = .ok (.iinc 7 1, 3) := by decide +kernel
theorem dX9_ask_209 : decode cX9_ask 209 = .ok (.goto (-143), 3) := by decide +kernel
theorem dX9_ask_212 : decode cX9_ask 212 = .ok (.iload 6, 2) := by decide +kernel
theorem dX9_ask_214 : decode cX9_ask 214 = .ok (.bipush (-4), 2) := by decide +kernel
theorem dX9_ask_216 : decode cX9_ask 216 = .ok (.if_icmp .eq 7, 3) := by decide +kernel
theorem dX9_ask_219 : decode cX9_ask 219 = .ok (.iload_n 2, 1) := by decide +kernel
theorem dX9_ask_220 : decode cX9_ask 220 = .ok (.ifCond .ne 8, 3) := by decide +kernel
theorem dX9_ask_223 : decode cX9_ask 223 = .ok (.iload 6, 2) := by decide +kernel
theorem dX9_ask_225 : decode cX9_ask 225 = .ok (.goto 5, 3) := by decide +kernel
theorem dX9_ask_228 : decode cX9_ask 228 = .ok (.iload 5, 2) := by decide +kernel
theorem dX9_ask_230 : decode cX9_ask 230 = .ok (.ireturn, 1) := by decide +kernel
theorem dX9_drift_0 : decode cX9_drift 0 = .ok (.iload_n 2, 1) := by decide +kernel
theorem dX9_drift_1 : decode cX9_drift 1 = .ok (.i2l, 1) := by decide +kernel
theorem dX9_drift_2 : decode cX9_drift 2 = .ok (.lconst 1, 1) := by decide +kernel
theorem dX9_drift_3 : decode cX9_drift 3 = .ok (.ldc2_w 260, 3) := by decide +kernel
theorem dX9_drift_6 : decode cX9_drift 6 = .ok (.invokestatic 55, 3) := by decide +kernel
theorem dX9_drift_9 : decode cX9_drift 9 = .ok (.ifCond .eq 13, 3) := by decide +kernel
theorem dX9_drift_12 : decode cX9_drift 12 = .ok (.iload_n 3, 1) := by decide +kernel
theorem dX9_drift_13 : decode cX9_drift 13 = .ok (.i2l, 1) := by decide +kernel
theorem dX9_drift_14 : decode cX9_drift 14 = .ok (.lconst 0, 1) := by decide +kernel
theorem dX9_drift_15 : decode cX9_drift 15 = .ok (.lconst 1, 1) := by decide +kernel
theorem dX9_drift_16 : decode cX9_drift 16 = .ok (.invokestatic 55, 3) := by decide +kernel
theorem dX9_drift_19 : decode cX9_drift 19 = .ok (.ifCond .ne 5, 3) := by decide +kernel
theorem dX9_drift_22 : decode cX9_drift 22 = .ok (.iconst (-1), 1) := by decide +kernel
theorem dX9_drift_23 : decode cX9_drift 23 = .ok (.ireturn, 1) := by decide +kernel
theorem dX9_drift_24 : decode cX9_drift 24 = .ok (.aload_n 0, 1) := by decide +kernel
theorem dX9_drift_25 : decode cX9_drift 25 = .ok (.getfield 150, 3) := by decide +kernel
theorem dX9_drift_28 : decode cX9_drift 28 = .ok (.ifCond .ne 6, 3) := by decide +kernel
theorem dX9_drift_31 : decode cX9_drift 31 = .ok (.bipush (-2), 2) := by decide +kernel
theorem dX9_drift_33 : decode cX9_drift 33 = .ok (.ireturn, 1) := by decide +kernel
theorem dX9_drift_34 : decode cX9_drift 34 = .ok (.aload_n 0, 1) := by decide +kernel
theorem dX9_drift_35 : decode cX9_drift 35 = .ok (.iconst 0, 1) := by decide +kernel
theorem dX9_drift_36 : decode cX9_drift 36 = .ok (.sipush 244, 3) := by decide +kernel
theorem dX9_drift_39 : decode cX9_drift 39 = .ok (.invokevirtual 235, 3) := by decide +kernel
theorem dX9_drift_42 : decode cX9_drift 42 = .ok (.iload_n 1, 1) := by decide +kernel
theorem dX9_drift_43 : decode cX9_drift 43 = .ok (.istore 4, 2) := by decide +kernel
theorem dX9_drift_45 : decode cX9_drift 45 = .ok (.iconst 0, 1) := by decide +kernel
theorem dX9_drift_46 : decode cX9_drift 46 = .ok (.istore 5, 2) := by decide +kernel
theorem dX9_drift_48 : decode cX9_drift 48 = .ok (.iconst 0, 1) := by decide +kernel
theorem dX9_drift_49 : decode cX9_drift 49 = .ok (.istore 6, 2) := by decide +kernel
theorem dX9_drift_51 : decode cX9_drift 51 = .ok (.iconst 0, 1) := by decide +kernel
theorem dX9_drift_52 : decode cX9_drift 52 = .ok (.istore 7, 2) := by decide +kernel
theorem dX9_drift_54 : decode cX9_drift 54 = .ok (.iload 7, 2) := by decide +kernel
theorem dX9_drift_56 : decode cX9_drift 56 = .ok (.iload_n 2, 1) := by decide +kernel
theorem dX9_drift_57 : decode cX9_drift 57 = .ok (.if_icmp .ge 108, 3) := by decide +kernel
theorem dX9_drift_60 : decode cX9_drift 60 = .ok (.iload 4, 2) := by decide +kernel
theorem dX9_drift_62 : decode cX9_drift 62 = .ok (.ldc_w 262, 3) := by decide +kernel
theorem dX9_drift_65 : decode cX9_drift 65 = .ok (.imul, 1) := by decide +kernel
theorem dX9_drift_66 : decode cX9_drift 66 = .ok (.sipush 12345, 3) := by decide +kernel
theorem dX9_drift_69 : decode cX9_drift 69 = .ok (.iadd, 1) := by decide +kernel
theorem dX9_drift_70 : decode cX9_drift 70 = .ok (.istore 4, 2) := by decide +kernel
theorem dX9_drift_72 : decode cX9_drift 72 = .ok (.iload 4, 2) := by decide +kernel
theorem dX9_drift_74 : decode cX9_drift 74 = .ok (.bipush 16, 2) := by decide +kernel
theorem dX9_drift_76 : decode cX9_drift 76 = .ok (.ishr, 1) := by decide +kernel
theorem dX9_drift_77 : decode cX9_drift 77 = .ok (.sipush 32767, 3) := by decide +kernel
theorem dX9_drift_80 : decode cX9_drift 80 = .ok (.iand, 1) := by decide +kernel
theorem dX9_drift_81 : decode cX9_drift 81 = .ok (.istore 8, 2) := by decide +kernel
theorem dX9_drift_83 : decode cX9_drift 83 = .ok (.iload 8, 2) := by decide +kernel
theorem dX9_drift_85 : decode cX9_drift 85 = .ok (.aload_n 0, 1) := by decide +kernel
theorem dX9_drift_86 : decode cX9_drift 86 = .ok (.getfield 150, 3) := by decide +kernel
theorem dX9_drift_89 : decode cX9_drift 89 = .ok (.irem, 1) := by decide +kernel
theorem dX9_drift_90 : decode cX9_drift 90 = .ok (.istore 9, 2) := by decide +kernel
theorem dX9_drift_92 : decode cX9_drift 92 = .ok (.aload_n 0, 1) := by decide +kernel
theorem dX9_drift_93 : decode cX9_drift 93 = .ok (.sipush 244, 3) := by decide +kernel
theorem dX9_drift_96 : decode cX9_drift 96 = .ok (.iload 9, 2) := by decide +kernel
theorem dX9_drift_98 : decode cX9_drift 98 = .ok (.iload 8, 2) := by decide +kernel
theorem dX9_drift_100 : decode cX9_drift 100 = .ok (.iconst 4, 1) := by decide +kernel
theorem dX9_drift_101 : decode cX9_drift 101 = .ok (.idiv, 1) := by decide +kernel
theorem dX9_drift_102 : decode cX9_drift 102 = .ok (.aload_n 0, 1) := by decide +kernel
theorem dX9_drift_103 : decode cX9_drift 103 = .ok (.getfield 7, 3) := by decide +kernel
theorem dX9_drift_106 : decode cX9_drift 106 = .ok (.sipush 252, 3) := by decide +kernel
theorem dX9_drift_109 : decode cX9_drift 109 = .ok (.iload 9, 2) := by decide +kernel
theorem dX9_drift_111 : decode cX9_drift 111 = .ok (.iadd, 1) := by decide +kernel
theorem dX9_drift_112 : decode cX9_drift 112 = .ok (.iaload, 1) := by decide +kernel
theorem dX9_drift_113 : decode cX9_drift 113 = .ok (.irem, 1) := by decide +kernel
theorem dX9_drift_114 : decode cX9_drift 114 = .ok (.invokevirtual 218, 3) := by decide +kernel
theorem dX9_drift_117 : decode cX9_drift 117 = .ok (.aload_n 0, 1) := by decide +kernel
theorem dX9_drift_118 : decode cX9_drift 118 = .ok (.getfield 7, 3) := by decide +kernel
theorem dX9_drift_121 : decode cX9_drift 121 = .ok (.sipush 284, 3) := by decide +kernel
theorem dX9_drift_124 : decode cX9_drift 124 = .ok (.iload 8, 2) := by decide +kernel
theorem dX9_drift_126 : decode cX9_drift 126 = .ok (.bipush 16, 2) := by decide +kernel
theorem dX9_drift_128 : decode cX9_drift 128 = .ok (.idiv, 1) := by decide +kernel
theorem dX9_drift_129 : decode cX9_drift 129 = .ok (.bipush 60, 2) := by decide +kernel
theorem dX9_drift_131 : decode cX9_drift 131 = .ok (.irem, 1) := by decide +kernel
theorem dX9_drift_132 : decode cX9_drift 132 = .ok (.iastore, 1) := by decide +kernel
theorem dX9_drift_133 : decode cX9_drift 133 = .ok (.aload_n 0, 1) := by decide +kernel
theorem dX9_drift_134 : decode cX9_drift 134 = .ok (.getfield 7, 3) := by decide +kernel
theorem dX9_drift_137 : decode cX9_drift 137 = .ok (.sipush 285, 3) := by decide +kernel
theorem dX9_drift_140 : decode cX9_drift 140 = .ok (.bipush 10, 2) := by decide +kernel
theorem dX9_drift_142 : decode cX9_drift 142 = .ok (.iastore, 1) := by decide +kernel
theorem dX9_drift_143 : decode cX9_drift 143 = .ok (.aload_n 0, 1) := by decide +kernel
theorem dX9_drift_144 : decode cX9_drift 144 = .ok (.sipush 244, 3) := by decide +kernel
theorem dX9_drift_147 : decode cX9_drift 147 = .ok (.invokevirtual 195, 3) := by decide +kernel
theorem dX9_drift_150 : decode cX9_drift 150 = .ok (.istore 6, 2) := by decide +kernel
theorem dX9_drift_152 : decode cX9_drift 152 = .ok (.iload 5, 2) := by decide +kernel
theorem dX9_drift_154 : decode cX9_drift 154 = .ok (.iload 6, 2) := by decide +kernel
theorem dX9_drift_156 : decode cX9_drift 156 = .ok (.iadd, 1) := by decide +kernel
theorem dX9_drift_157 : decode cX9_drift 157 = .ok (.istore 5, 2) := by decide +kernel
theorem dX9_drift_159 : decode cX9_drift 159 = .ok (.iinc 7 1, 3) := by decide +kernel
theorem dX9_drift_162 : decode cX9_drift 162 = .ok (.goto (-108), 3) := by decide +kernel
theorem dX9_drift_165 : decode cX9_drift 165 = .ok (.iload_n 3, 1) := by decide +kernel
theorem dX9_drift_166 : decode cX9_drift 166 = .ok (.ifCond .ne 8, 3) := by decide +kernel
theorem dX9_drift_169 : decode cX9_drift 169 = .ok (.iload 5, 2) := by decide +kernel
theorem dX9_drift_171 : decode cX9_drift 171 = .ok (.goto 5, 3) := by decide +kernel
theorem dX9_drift_174 : decode cX9_drift 174 = .ok (.iload 6, 2) := by decide +kernel
theorem dX9_drift_176 : decode cX9_drift 176 = .ok (.ireturn, 1) := by decide +kernel
theorem dX9_keep_0 : decode cX9_keep 0 = .ok (.iload_n 1, 1) := by decide +kernel
theorem dX9_keep_1 : decode cX9_keep 1 = .ok (.i2l, 1) := by decide +kernel
theorem dX9_keep_2 : decode cX9_keep 2 = .ok (.lconst 0, 1) := by decide +kernel
theorem dX9_keep_3 : decode cX9_keep 3 = .ok (.lconst 1, 1) := by decide +kernel
theorem dX9_keep_4 : decode cX9_keep 4 = .ok (.invokestatic 55, 3) := by decide +kernel
theorem dX9_keep_7 : decode cX9_keep 7 = .ok (.ifCond .ne 5, 3) := by decide +kernel
theorem dX9_keep_10 : decode cX9_keep 10 = .ok (.iconst (-1), 1) := by decide +kernel
theorem dX9_keep_11 : decode cX9_keep 11 = .ok (.ireturn, 1) := by decide +kernel
theorem dX9_keep_12 : decode cX9_keep 12 = .ok (.aload_n 0, 1) := by decide +kernel
theorem dX9_keep_13 : decode cX9_keep 13 = .ok (.iconst 0, 1) := by decide +kernel
theorem dX9_keep_14 : decode cX9_keep 14 = .ok (.bipush 61, 2) := by decide +kernel
theorem dX9_keep_16 : decode cX9_keep 16 = .ok (.iload_n 1, 1) := by decide +kernel
theorem dX9_keep_17 : decode cX9_keep 17 = .ok (.iconst 1, 1) := by decide +kernel
theorem dX9_keep_18 : decode cX9_keep 18 = .ok (.iadd, 1) := by decide +kernel
theorem dX9_keep_19 : decode cX9_keep 19 = .ok (.imul, 1) := by decide +kernel
theorem dX9_keep_20 : decode cX9_keep 20 = .ok (.invokevirtual 235, 3) := by decide +kernel
theorem dX9_keep_23 : decode cX9_keep 23 = .ok (.aload_n 0, 1) := by decide +kernel
theorem dX9_keep_24 : decode cX9_keep 24 = .ok (.getfield 40, 3) := by decide +kernel
theorem dX9_keep_27 : decode cX9_keep 27 = .ok (.iload_n 1, 1) := by decide +kernel
theorem dX9_keep_28 : decode cX9_keep 28 = .ok (.baload, 1) := by decide +kernel
theorem dX9_keep_29 : decode cX9_keep 29 = .ok (.ifCond .eq 7, 3) := by decide +kernel
theorem dX9_keep_32 : decode cX9_keep 32 = .ok (.iconst 1, 1) := by decide +kernel
theorem dX9_keep_33 : decode cX9_keep 33 = .ok (.goto 4, 3) := by decide +kernel
theorem dX9_keep_36 : decode cX9_keep 36 = .ok (.iconst 0, 1) := by decide +kernel
theorem dX9_keep_37 : decode cX9_keep 37 = .ok (.istore_n 2, 1) := by decide +kernel
theorem dX9_keep_38 : decode cX9_keep 38 = .ok (.aload_n 0, 1) := by decide +kernel
theorem dX9_keep_39 : decode cX9_keep 39 = .ok (.getfield 40, 3) := by decide +kernel
theorem dX9_keep_42 : decode cX9_keep 42 = .ok (.iload_n 1, 1) := by decide +kernel
theorem dX9_keep_43 : decode cX9_keep 43 = .ok (.iconst 1, 1) := by decide +kernel
theorem dX9_keep_44 : decode cX9_keep 44 = .ok (.bastore, 1) := by decide +kernel
theorem dX9_keep_45 : decode cX9_keep 45 = .ok (.iload_n 2, 1) := by decide +kernel
theorem dX9_keep_46 : decode cX9_keep 46 = .ok (.ireturn, 1) := by decide +kernel
theorem dX9_back_0 : decode cX9_back 0 = .ok (.iload_n 1, 1) := by decide +kernel
theorem dX9_back_1 : decode cX9_back 1 = .ok (.i2l, 1) := by decide +kernel
theorem dX9_back_2 : decode cX9_back 2 = .ok (.lconst 0, 1) := by decide +kernel
theorem dX9_back_3 : decode cX9_back 3 = .ok (.lconst 1, 1) := by decide +kernel
theorem dX9_back_4 : decode cX9_back 4 = .ok (.invokestatic 55, 3) := by decide +kernel
theorem dX9_back_7 : decode cX9_back 7 = .ok (.ifCond .ne 5, 3) := by decide +kernel
theorem dX9_back_10 : decode cX9_back 10 = .ok (.iconst (-1), 1) := by decide +kernel
theorem dX9_back_11 : decode cX9_back 11 = .ok (.ireturn, 1) := by decide +kernel
theorem dX9_back_12 : decode cX9_back 12 = .ok (.aload_n 0, 1) := by decide +kernel
theorem dX9_back_13 : decode cX9_back 13 = .ok (.getfield 40, 3) := by decide +kernel
theorem dX9_back_16 : decode cX9_back 16 = .ok (.iload_n 1, 1) := by decide +kernel
theorem dX9_back_17 : decode cX9_back 17 = .ok (.baload, 1) := by decide +kernel
theorem dX9_back_18 : decode cX9_back 18 = .ok (.ifCond .ne 6, 3) := by decide +kernel
theorem dX9_back_21 : decode cX9_back 21 = .ok (.bipush (-2), 2) := by decide +kernel
theorem dX9_back_23 : decode cX9_back 23 = .ok (.ireturn, 1) := by decide +kernel
theorem dX9_back_24 : decode cX9_back 24 = .ok (.aload_n 0, 1) := by decide +kernel
theorem dX9_back_25 : decode cX9_back 25 = .ok (.bipush 61, 2) := by decide +kernel
theorem dX9_back_27 : decode cX9_back 27 = .ok (.iload_n 1, 1) := by decide +kernel
theorem dX9_back_28 : decode cX9_back 28 = .ok (.iconst 1, 1) := by decide +kernel
theorem dX9_back_29 : decode cX9_back 29 = .ok (.iadd, 1) := by decide +kernel
theorem dX9_back_30 : decode cX9_back 30 = .ok (.imul, 1) := by decide +kernel
theorem dX9_back_31 : decode cX9_back 31 = .ok (.iconst 0, 1) := by decide +kernel
theorem dX9_back_32 : decode cX9_back 32 = .ok (.invokevirtual 235, 3) := by decide +kernel
theorem dX9_back_35 : decode cX9_back 35 = .ok (.aload_n 0, 1) := by decide +kernel
theorem dX9_back_36 : decode cX9_back 36 = .ok (.iconst 0, 1) := by decide +kernel
theorem dX9_back_37 : decode cX9_back 37 = .ok (.invokevirtual 195, 3) := by decide +kernel
theorem dX9_back_40 : decode cX9_back 40 = .ok (.ireturn, 1) := by decide +kernel
theorem dX9_sheet_0 : decode cX9_sheet 0 = .ok (.iload_n 1, 1) := by decide +kernel
theorem dX9_sheet_1 : decode cX9_sheet 1 = .ok (.i2l, 1) := by decide +kernel
theorem dX9_sheet_2 : decode cX9_sheet 2 = .ok (.lconst 0, 1) := by decide +kernel
theorem dX9_sheet_3 : decode cX9_sheet 3 = .ok (.ldc2_w 209, 3) := by decide +kernel
theorem dX9_sheet_6 : decode cX9_sheet 6 = .ok (.invokestatic 55, 3) := by decide +kernel
theorem dX9_sheet_9 : decode cX9_sheet 9 = .ok (.ifCond .eq 21, 3) := by decide +kernel
theorem dX9_sheet_12 : decode cX9_sheet 12 = .ok (.iload_n 2, 1) := by decide +kernel
theorem dX9_sheet_13 : decode cX9_sheet 13 = .ok (.i2l, 1) := by decide +kernel
theorem dX9_sheet_14 : decode cX9_sheet 14 = .ok (.lconst 0, 1) := by decide +kernel
theorem dX9_sheet_15 : decode cX9_sheet 15 = .ok (.ldc2_w 207, 3) := by decide +kernel
theorem dX9_sheet_18 : decode cX9_sheet 18 = .ok (.invokestatic 55, 3) := by decide +kernel
theorem dX9_sheet_21 : decode cX9_sheet 21 = .ok (.ifCond .eq 9, 3) := by decide +kernel
theorem dX9_sheet_24 : decode cX9_sheet 24 = .ok (.iload_n 3, 1) := by decide +kernel
theorem dX9_sheet_25 : decode cX9_sheet 25 = .ok (.bipush 40, 2) := by decide +kernel
theorem dX9_sheet_27 : decode cX9_sheet 27 = .ok (.if_icmp .le 5, 3) := by decide +kernel
theorem dX9_sheet_30 : decode cX9_sheet 30 = .ok (.iconst (-1), 1) := by decide +kernel
theorem dX9_sheet_31 : decode cX9_sheet 31 = .ok (.ireturn, 1) := by decide +kernel
theorem dX9_sheet_32 : decode cX9_sheet 32 = .ok (.iload_n 3, 1) := by decide +kernel
theorem dX9_sheet_33 : decode cX9_sheet 33 = .ok (.ifCond .ge 6, 3) := by decide +kernel
theorem dX9_sheet_36 : decode cX9_sheet 36 = .ok (.bipush (-14), 2) := by decide +kernel
theorem dX9_sheet_38 : decode cX9_sheet 38 = .ok (.ireturn, 1) := by decide +kernel
theorem dX9_sheet_39 : decode cX9_sheet 39 = .ok (.aload_n 0, 1) := by decide +kernel
theorem dX9_sheet_40 : decode cX9_sheet 40 = .ok (.getfield 44, 3) := by decide +kernel
theorem dX9_sheet_43 : decode cX9_sheet 43 = .ok (.iload_n 1, 1) := by decide +kernel
theorem dX9_sheet_44 : decode cX9_sheet 44 = .ok (.iload_n 2, 1) := by decide +kernel
theorem dX9_sheet_45 : decode cX9_sheet 45 = .ok (.iastore, 1) := by decide +kernel
theorem dX9_sheet_46 : decode cX9_sheet 46 = .ok (.aload_n 0, 1) := by decide +kernel
theorem dX9_sheet_47 : decode cX9_sheet 47 = .ok (.getfield 47, 3) := by decide +kernel
theorem dX9_sheet_50 : decode cX9_sheet 50 = .ok (.iload_n 1, 1) := by decide +kernel
theorem dX9_sheet_51 : decode cX9_sheet 51 = .ok (.iload_n 3, 1) := by decide +kernel
theorem dX9_sheet_52 : decode cX9_sheet 52 = .ok (.iastore, 1) := by decide +kernel
theorem dX9_sheet_53 : decode cX9_sheet 53 = .ok (.iconst 0, 1) := by decide +kernel
theorem dX9_sheet_54 : decode cX9_sheet 54 = .ok (.istore 4, 2) := by decide +kernel
theorem dX9_sheet_56 : decode cX9_sheet 56 = .ok (.iload 4, 2) := by decide +kernel
theorem dX9_sheet_58 : decode cX9_sheet 58 = .ok (.bipush 40, 2) := by decide +kernel
theorem dX9_sheet_60 : decode cX9_sheet 60 = .ok (.if_icmp .ge 22, 3) := by decide +kernel
theorem dX9_sheet_63 : decode cX9_sheet 63 = .ok (.aload_n 0, 1) := by decide +kernel
theorem dX9_sheet_64 : decode cX9_sheet 64 = .ok (.getfield 50, 3) := by decide +kernel
theorem dX9_sheet_67 : decode cX9_sheet 67 = .ok (.bipush 40, 2) := by decide +kernel
theorem dX9_sheet_69 : decode cX9_sheet 69 = .ok (.iload_n 1, 1) := by decide +kernel
theorem dX9_sheet_70 : decode cX9_sheet 70 = .ok (.imul, 1) := by decide +kernel
theorem dX9_sheet_71 : decode cX9_sheet 71 = .ok (.iload 4, 2) := by decide +kernel
theorem dX9_sheet_73 : decode cX9_sheet 73 = .ok (.iadd, 1) := by decide +kernel
theorem dX9_sheet_74 : decode cX9_sheet 74 = .ok (.iconst 0, 1) := by decide +kernel
theorem dX9_sheet_75 : decode cX9_sheet 75 = .ok (.iastore, 1) := by decide +kernel
theorem dX9_sheet_76 : decode cX9_sheet 76 = .ok (.iinc 4 1, 3) := by decide +kernel
theorem dX9_sheet_79 : decode cX9_sheet 79 = .ok (.goto (-23), 3) := by decide +kernel
theorem dX9_sheet_82 : decode cX9_sheet 82 = .ok (.iconst 1, 1) := by decide +kernel
theorem dX9_sheet_83 : decode cX9_sheet 83 = .ok (.ireturn, 1) := by decide +kernel
theorem dX9_lay_0 : decode cX9_lay 0 = .ok (.iload_n 1, 1) := by decide +kernel
theorem dX9_lay_1 : decode cX9_lay 1 = .ok (.i2l, 1) := by decide +kernel
theorem dX9_lay_2 : decode cX9_lay 2 = .ok (.lconst 0, 1) := by decide +kernel
theorem dX9_lay_3 : decode cX9_lay 3 = .ok (.ldc2_w 209, 3) := by decide +kernel
theorem dX9_lay_6 : decode cX9_lay 6 = .ok (.invokestatic 55, 3) := by decide +kernel
theorem dX9_lay_9 : decode cX9_lay 9 = .ok (.ifCond .ne 5, 3) := by decide +kernel
theorem dX9_lay_12 : decode cX9_lay 12 = .ok (.iconst (-1), 1) := by decide +kernel
theorem dX9_lay_13 : decode cX9_lay 13 = .ok (.ireturn, 1) := by decide +kernel
theorem dX9_lay_14 : decode cX9_lay 14 = .ok (.aload_n 0, 1) := by decide +kernel
theorem dX9_lay_15 : decode cX9_lay 15 = .ok (.getfield 44, 3) := by decide +kernel
theorem dX9_lay_18 : decode cX9_lay 18 = .ok (.iload_n 1, 1) := by decide +kernel
theorem dX9_lay_19 : decode cX9_lay 19 = .ok (.iaload, 1) := by decide +kernel
theorem dX9_lay_20 : decode cX9_lay 20 = .ok (.bipush (-4), 2) := by decide +kernel
theorem dX9_lay_22 : decode cX9_lay 22 = .ok (.if_icmp .ne 6, 3) := by decide +kernel
theorem dX9_lay_25 : decode cX9_lay 25 = .ok (.bipush (-11), 2) := by decide +kernel
theorem dX9_lay_27 : decode cX9_lay 27 = .ok (.ireturn, 1) := by decide +kernel
theorem dX9_lay_28 : decode cX9_lay 28 = .ok (.iload_n 2, 1) := by decide +kernel
theorem dX9_lay_29 : decode cX9_lay 29 = .ok (.i2l, 1) := by decide +kernel
theorem dX9_lay_30 : decode cX9_lay 30 = .ok (.lconst 0, 1) := by decide +kernel
theorem dX9_lay_31 : decode cX9_lay 31 = .ok (.aload_n 0, 1) := by decide +kernel
theorem dX9_lay_32 : decode cX9_lay 32 = .ok (.getfield 47, 3) := by decide +kernel
theorem dX9_lay_35 : decode cX9_lay 35 = .ok (.iload_n 1, 1) := by decide +kernel
theorem dX9_lay_36 : decode cX9_lay 36 = .ok (.iaload, 1) := by decide +kernel
theorem dX9_lay_37 : decode cX9_lay 37 = .ok (.iconst 1, 1) := by decide +kernel
theorem dX9_lay_38 : decode cX9_lay 38 = .ok (.isub, 1) := by decide +kernel
theorem dX9_lay_39 : decode cX9_lay 39 = .ok (.i2l, 1) := by decide +kernel
theorem dX9_lay_40 : decode cX9_lay 40 = .ok (.invokestatic 55, 3) := by decide +kernel
theorem dX9_lay_43 : decode cX9_lay 43 = .ok (.ifCond .ne 6, 3) := by decide +kernel
theorem dX9_lay_46 : decode cX9_lay 46 = .ok (.bipush (-12), 2) := by decide +kernel
theorem dX9_lay_48 : decode cX9_lay 48 = .ok (.ireturn, 1) := by decide +kernel
theorem dX9_lay_49 : decode cX9_lay 49 = .ok (.aload_n 0, 1) := by decide +kernel
theorem dX9_lay_50 : decode cX9_lay 50 = .ok (.getfield 50, 3) := by decide +kernel
theorem dX9_lay_53 : decode cX9_lay 53 = .ok (.bipush 40, 2) := by decide +kernel
theorem dX9_lay_55 : decode cX9_lay 55 = .ok (.iload_n 1, 1) := by decide +kernel
theorem dX9_lay_56 : decode cX9_lay 56 = .ok (.imul, 1) := by decide +kernel
theorem dX9_lay_57 : decode cX9_lay 57 = .ok (.iload_n 2, 1) := by decide +kernel
theorem dX9_lay_58 : decode cX9_lay 58 = .ok (.iadd, 1) := by decide +kernel
theorem dX9_lay_59 : decode cX9_lay 59 = .ok (.aload_n 0, 1) := by decide +kernel
theorem dX9_lay_60 : decode cX9_lay 60 = .ok (.getfield 44, 3) := by decide +kernel
theorem dX9_lay_63 : decode cX9_lay 63 = .ok (.iload_n 1, 1) := by decide +kernel
theorem dX9_lay_64 : decode cX9_lay 64 = .ok (.iaload, 1) := by decide +kernel
theorem dX9_lay_65 : decode cX9_lay 65 = .ok (.ifCond .ne 13, 3) := by decide +kernel
theorem dX9_lay_68 : decode cX9_lay 68 = .ok (.iload_n 3, 1) := by decide +kernel
theorem dX9_lay_69 : decode cX9_lay 69 = .ok (.bipush 24, 2) := by decide +kernel
theorem dX9_lay_71 : decode cX9_lay 71 = .ok (.ishl, 1) := by decide +kernel
theorem dX9_lay_72 : decode cX9_lay 72 = .ok (.bipush 24, 2) := by decide +kernel
theorem dX9_lay_74 : decode cX9_lay 74 = .ok (.ishr, 1) := by decide +kernel
theorem dX9_lay_75 : decode cX9_lay 75 = .ok (.goto 24, 3) := by decide +kernel
theorem dX9_lay_78 : decode cX9_lay 78 = .ok (.aload_n 0, 1) := by decide +kernel
theorem dX9_lay_79 : decode cX9_lay 79 = .ok (.getfield 44, 3) := by decide +kernel
theorem dX9_lay_82 : decode cX9_lay 82 = .ok (.iload_n 1, 1) := by decide +kernel
theorem dX9_lay_83 : decode cX9_lay 83 = .ok (.iaload, 1) := by decide +kernel
theorem dX9_lay_84 : decode cX9_lay 84 = .ok (.iconst 1, 1) := by decide +kernel
theorem dX9_lay_85 : decode cX9_lay 85 = .ok (.if_icmp .ne 13, 3) := by decide +kernel
theorem dX9_lay_88 : decode cX9_lay 88 = .ok (.iload_n 3, 1) := by decide +kernel
theorem dX9_lay_89 : decode cX9_lay 89 = .ok (.bipush 16, 2) := by decide +kernel
theorem dX9_lay_91 : decode cX9_lay 91 = .ok (.ishl, 1) := by decide +kernel
theorem dX9_lay_92 : decode cX9_lay 92 = .ok (.bipush 16, 2) := by decide +kernel
theorem dX9_lay_94 : decode cX9_lay 94 = .ok (.ishr, 1) := by decide +kernel
theorem dX9_lay_95 : decode cX9_lay 95 = .ok (.goto 4, 3) := by decide +kernel
theorem dX9_lay_98 : decode cX9_lay 98 = .ok (.iload_n 3, 1) := by decide +kernel
theorem dX9_lay_99 : decode cX9_lay 99 = .ok (.iastore, 1) := by decide +kernel
theorem dX9_lay_100 : decode cX9_lay 100 = .ok (.iconst 1, 1) := by decide +kernel
theorem dX9_lay_101 : decode cX9_lay 101 = .ok (.ireturn, 1) := by decide +kernel
theorem dX9_read_0 : decode cX9_read 0 = .ok (.iload_n 1, 1) := by decide +kernel
theorem dX9_read_1 : decode cX9_read 1 = .ok (.i2l, 1) := by decide +kernel
theorem dX9_read_2 : decode cX9_read 2 = .ok (.lconst 0, 1) := by decide +kernel
theorem dX9_read_3 : decode cX9_read 3 = .ok (.ldc2_w 209, 3) := by decide +kernel
theorem dX9_read_6 : decode cX9_read 6 = .ok (.invokestatic 55, 3) := by decide +kernel
theorem dX9_read_9 : decode cX9_read 9 = .ok (.ifCond .eq 28, 3) := by decide +kernel
theorem dX9_read_12 : decode cX9_read 12 = .ok (.iload_n 2, 1) := by decide +kernel
theorem dX9_read_13 : decode cX9_read 13 = .ok (.i2l, 1) := by decide +kernel
theorem dX9_read_14 : decode cX9_read 14 = .ok (.lconst 0, 1) := by decide +kernel
theorem dX9_read_15 : decode cX9_read 15 = .ok (.ldc2_w 207, 3) := by decide +kernel
theorem dX9_read_18 : decode cX9_read 18 = .ok (.invokestatic 55, 3) := by decide +kernel
theorem dX9_read_21 : decode cX9_read 21 = .ok (.ifCond .eq 16, 3) := by decide +kernel
theorem dX9_read_24 : decode cX9_read 24 = .ok (.iload 4, 2) := by decide +kernel
theorem dX9_read_26 : decode cX9_read 26 = .ok (.i2l, 1) := by decide +kernel
theorem dX9_read_27 : decode cX9_read 27 = .ok (.lconst 0, 1) := by decide +kernel
theorem dX9_read_28 : decode cX9_read 28 = .ok (.ldc2_w 263, 3) := by decide +kernel
theorem dX9_read_31 : decode cX9_read 31 = .ok (.invokestatic 55, 3) := by decide +kernel
theorem dX9_read_34 : decode cX9_read 34 = .ok (.ifCond .ne 5, 3) := by decide +kernel
theorem dX9_read_37 : decode cX9_read 37 = .ok (.iconst (-1), 1) := by decide +kernel
theorem dX9_read_38 : decode cX9_read 38 = .ok (.ireturn, 1) := by decide +kernel
theorem dX9_read_39 : decode cX9_read 39 = .ok (.aload_n 0, 1) := by decide +kernel
theorem dX9_read_40 : decode cX9_read 40 = .ok (.iconst 0, 1) := by decide +kernel
theorem dX9_read_41 : decode cX9_read 41 = .ok (.sipush 183, 3) := by decide +kernel
theorem dX9_read_44 : decode cX9_read 44 = .ok (.invokevirtual 235, 3) := by decide +kernel
theorem dX9_read_47 : decode cX9_read 47 = .ok (.iconst 0, 1) := by decide +kernel
theorem dX9_read_48 : decode cX9_read 48 = .ok (.istore 5, 2) := by decide +kernel
theorem dX9_read_50 : decode cX9_read 50 = .ok (.iconst 0, 1) := by decide +kernel
theorem dX9_read_51 : decode cX9_read 51 = .ok (.istore 6, 2) := by decide +kernel
theorem dX9_read_53 : decode cX9_read 53 = .ok (.iconst 0, 1) := by decide +kernel
theorem dX9_read_54 : decode cX9_read 54 = .ok (.istore 7, 2) := by decide +kernel
theorem dX9_read_56 : decode cX9_read 56 = .ok (.iload 7, 2) := by decide +kernel
theorem dX9_read_58 : decode cX9_read 58 = .ok (.iconst 2, 1) := by decide +kernel
theorem dX9_read_59 : decode cX9_read 59 = .ok (.iload 4, 2) := by decide +kernel
theorem dX9_read_61 : decode cX9_read 61 = .ok (.imul, 1) := by decide +kernel
theorem dX9_read_62 : decode cX9_read 62 = .ok (.if_icmp .ge 137, 3) := by decide +kernel
theorem dX9_read_65 : decode cX9_read 65 = .ok (.iload 5, 2) := by decide +kernel
theorem dX9_read_67 : decode cX9_read 67 = .ok (.ifCond .ne 132, 3) := by decide +kernel
theorem dX9_read_70 : decode cX9_read 70 = .ok (.aload_n 0, 1) := by decide +kernel
theorem dX9_read_71 : decode cX9_read 71 = .ok (.getfield 44, 3) := by decide +kernel
theorem dX9_read_74 : decode cX9_read 74 = .ok (.iload_n 1, 1) := by decide +kernel
theorem dX9_read_75 : decode cX9_read 75 = .ok (.iaload, 1) := by decide +kernel
theorem dX9_read_76 : decode cX9_read 76 = .ok (.bipush (-4), 2) := by decide +kernel
theorem dX9_read_78 : decode cX9_read 78 = .ok (.if_icmp .ne 7, 3) := by decide +kernel
theorem dX9_read_81 : decode cX9_read 81 = .ok (.iconst 1, 1) := by decide +kernel
theorem dX9_read_82 : decode cX9_read 82 = .ok (.goto 44, 3) := by decide +kernel
theorem dX9_read_85 : decode cX9_read 85 = .ok (.aload_n 0, 1) := by decide +kernel
theorem dX9_read_86 : decode cX9_read 86 = .ok (.getfield 44, 3) := by decide +kernel
theorem dX9_read_89 : decode cX9_read 89 = .ok (.iload_n 1, 1) := by decide +kernel
theorem dX9_read_90 : decode cX9_read 90 = .ok (.iaload, 1) := by decide +kernel
theorem dX9_read_91 : decode cX9_read 91 = .ok (.iload_n 2, 1) := by decide +kernel
theorem dX9_read_92 : decode cX9_read 92 = .ok (.if_icmp .eq 7, 3) := by decide +kernel
theorem dX9_read_95 : decode cX9_read 95 = .ok (.iconst 3, 1) := by decide +kernel
end
section
theorem dX9_read_96 : decode cX9_read 96 = .ok (.goto 30, 3) := by decide +kernel
theorem dX9_read_99 : decode cX9_read 99 = .ok (.iload_n 3, 1) := by decide +kernel
theorem dX9_read_100 : decode cX9_read 100 = .ok (.i2l, 1) := by decide +kernel
theorem dX9_read_101 : decode cX9_read 101 = .ok (.iload 7, 2) := by decide +kernel
theorem dX9_read_103 : decode cX9_read 103 = .ok (.i2l, 1) := by decide +kernel
theorem dX9_read_104 : decode cX9_read 104 = .ok (.ladd, 1) := by decide +kernel
theorem dX9_read_105 : decode cX9_read 105 = .ok (.lconst 0, 1) := by decide +kernel
theorem dX9_read_106 : decode cX9_read 106 = .ok (.aload_n 0, 1) := by decide +kernel
theorem dX9_read_107 : decode cX9_read 107 = .ok (.getfield 47, 3) := by decide +kernel
theorem dX9_read_110 : decode cX9_read 110 = .ok (.iload_n 1, 1) := by decide +kernel
theorem dX9_read_111 : decode cX9_read 111 = .ok (.iaload, 1) := by decide +kernel
theorem dX9_read_112 : decode cX9_read 112 = .ok (.iconst 1, 1) := by decide +kernel
theorem dX9_read_113 : decode cX9_read 113 = .ok (.isub, 1) := by decide +kernel
theorem dX9_read_114 : decode cX9_read 114 = .ok (.i2l, 1) := by decide +kernel
theorem dX9_read_115 : decode cX9_read 115 = .ok (.invokestatic 55, 3) := by decide +kernel
theorem dX9_read_118 : decode cX9_read 118 = .ok (.ifCond .ne 7, 3) := by decide +kernel
theorem dX9_read_121 : decode cX9_read 121 = .ok (.iconst 2, 1) := by decide +kernel
theorem dX9_read_122 : decode cX9_read 122 = .ok (.goto 4, 3) := by decide +kernel
theorem dX9_read_125 : decode cX9_read 125 = .ok (.iconst 0, 1) := by decide +kernel
theorem dX9_read_126 : decode cX9_read 126 = .ok (.istore 5, 2) := by decide +kernel
theorem dX9_read_128 : decode cX9_read 128 = .ok (.iload 5, 2) := by decide +kernel
theorem dX9_read_130 : decode cX9_read 130 = .ok (.ifCond .ne 63, 3) := by decide +kernel
theorem dX9_read_133 : decode cX9_read 133 = .ok (.iload 7, 2) := by decide +kernel
theorem dX9_read_135 : decode cX9_read 135 = .ok (.iconst 2, 1) := by decide +kernel
theorem dX9_read_136 : decode cX9_read 136 = .ok (.irem, 1) := by decide +kernel
theorem dX9_read_137 : decode cX9_read 137 = .ok (.iconst 1, 1) := by decide +kernel
theorem dX9_read_138 : decode cX9_read 138 = .ok (.if_icmp .ne 55, 3) := by decide +kernel
theorem dX9_read_141 : decode cX9_read 141 = .ok (.bipush 40, 2) := by decide +kernel
theorem dX9_read_143 : decode cX9_read 143 = .ok (.iload_n 1, 1) := by decide +kernel
theorem dX9_read_144 : decode cX9_read 144 = .ok (.imul, 1) := by decide +kernel
theorem dX9_read_145 : decode cX9_read 145 = .ok (.iload_n 3, 1) := by decide +kernel
theorem dX9_read_146 : decode cX9_read 146 = .ok (.iadd, 1) := by decide +kernel
theorem dX9_read_147 : decode cX9_read 147 = .ok (.iload 7, 2) := by decide +kernel
theorem dX9_read_149 : decode cX9_read 149 = .ok (.iadd, 1) := by decide +kernel
theorem dX9_read_150 : decode cX9_read 150 = .ok (.istore 8, 2) := by decide +kernel
theorem dX9_read_152 : decode cX9_read 152 = .ok (.aload_n 0, 1) := by decide +kernel
theorem dX9_read_153 : decode cX9_read 153 = .ok (.aload_n 0, 1) := by decide +kernel
theorem dX9_read_154 : decode cX9_read 154 = .ok (.getfield 50, 3) := by decide +kernel
theorem dX9_read_157 : decode cX9_read 157 = .ok (.iload 8, 2) := by decide +kernel
theorem dX9_read_159 : decode cX9_read 159 = .ok (.iconst 1, 1) := by decide +kernel
theorem dX9_read_160 : decode cX9_read 160 = .ok (.isub, 1) := by decide +kernel
theorem dX9_read_161 : decode cX9_read 161 = .ok (.iaload, 1) := by decide +kernel
theorem dX9_read_162 : decode cX9_read 162 = .ok (.iconst 0, 1) := by decide +kernel
theorem dX9_read_163 : decode cX9_read 163 = .ok (.aload_n 0, 1) := by decide +kernel
theorem dX9_read_164 : decode cX9_read 164 = .ok (.getfield 50, 3) := by decide +kernel
theorem dX9_read_167 : decode cX9_read 167 = .ok (.iload 8, 2) := by decide +kernel
theorem dX9_read_169 : decode cX9_read 169 = .ok (.iaload, 1) := by decide +kernel
theorem dX9_read_170 : decode cX9_read 170 = .ok (.invokevirtual 225, 3) := by decide +kernel
theorem dX9_read_173 : decode cX9_read 173 = .ok (.ifCond .ge 17, 3) := by decide +kernel
theorem dX9_read_176 : decode cX9_read 176 = .ok (.aload_n 0, 1) := by decide +kernel
theorem dX9_read_177 : decode cX9_read 177 = .ok (.sipush 183, 3) := by decide +kernel
theorem dX9_read_180 : decode cX9_read 180 = .ok (.iconst 0, 1) := by decide +kernel
theorem dX9_read_181 : decode cX9_read 181 = .ok (.invokevirtual 235, 3) := by decide +kernel
theorem dX9_read_184 : decode cX9_read 184 = .ok (.bipush (-20), 2) := by decide +kernel
theorem dX9_read_186 : decode cX9_read 186 = .ok (.iload 6, 2) := by decide +kernel
theorem dX9_read_188 : decode cX9_read 188 = .ok (.isub, 1) := by decide +kernel
theorem dX9_read_189 : decode cX9_read 189 = .ok (.ireturn, 1) := by decide +kernel
theorem dX9_read_190 : decode cX9_read 190 = .ok (.iinc 6 1, 3) := by decide +kernel
theorem dX9_read_193 : decode cX9_read 193 = .ok (.iinc 7 1, 3) := by decide +kernel
theorem dX9_read_196 : decode cX9_read 196 = .ok (.goto (-140), 3) := by decide +kernel
theorem dX9_read_199 : decode cX9_read 199 = .ok (.aload_n 0, 1) := by decide +kernel
theorem dX9_read_200 : decode cX9_read 200 = .ok (.iload 5, 2) := by decide +kernel
theorem dX9_read_202 : decode cX9_read 202 = .ok (.putfield 265, 3) := by decide +kernel
theorem dX9_read_205 : decode cX9_read 205 = .ok (.iload 6, 2) := by decide +kernel
theorem dX9_read_207 : decode cX9_read 207 = .ok (.ireturn, 1) := by decide +kernel
theorem dX9_torn_0 : decode cX9_torn 0 = .ok (.aload_n 0, 1) := by decide +kernel
theorem dX9_torn_1 : decode cX9_torn 1 = .ok (.getfield 265, 3) := by decide +kernel
theorem dX9_torn_4 : decode cX9_torn 4 = .ok (.ireturn, 1) := by decide +kernel
theorem dX9_count_0 : decode cX9_count 0 = .ok (.iconst 0, 1) := by decide +kernel
theorem dX9_count_1 : decode cX9_count 1 = .ok (.istore_n 2, 1) := by decide +kernel
theorem dX9_count_2 : decode cX9_count 2 = .ok (.iconst 0, 1) := by decide +kernel
theorem dX9_count_3 : decode cX9_count 3 = .ok (.istore_n 3, 1) := by decide +kernel
theorem dX9_count_4 : decode cX9_count 4 = .ok (.iconst 0, 1) := by decide +kernel
theorem dX9_count_5 : decode cX9_count 5 = .ok (.istore 4, 2) := by decide +kernel
theorem dX9_count_7 : decode cX9_count 7 = .ok (.iload 4, 2) := by decide +kernel
theorem dX9_count_9 : decode cX9_count 9 = .ok (.aload_n 0, 1) := by decide +kernel
theorem dX9_count_10 : decode cX9_count 10 = .ok (.getfield 150, 3) := by decide +kernel
theorem dX9_count_13 : decode cX9_count 13 = .ok (.if_icmp .ge 22, 3) := by decide +kernel
theorem dX9_count_16 : decode cX9_count 16 = .ok (.iload_n 2, 1) := by decide +kernel
theorem dX9_count_17 : decode cX9_count 17 = .ok (.aload_n 0, 1) := by decide +kernel
theorem dX9_count_18 : decode cX9_count 18 = .ok (.getfield 7, 3) := by decide +kernel
theorem dX9_count_21 : decode cX9_count 21 = .ok (.bipush 8, 2) := by decide +kernel
theorem dX9_count_23 : decode cX9_count 23 = .ok (.iload 4, 2) := by decide +kernel
theorem dX9_count_25 : decode cX9_count 25 = .ok (.iadd, 1) := by decide +kernel
theorem dX9_count_26 : decode cX9_count 26 = .ok (.iaload, 1) := by decide +kernel
theorem dX9_count_27 : decode cX9_count 27 = .ok (.iadd, 1) := by decide +kernel
theorem dX9_count_28 : decode cX9_count 28 = .ok (.istore_n 2, 1) := by decide +kernel
theorem dX9_count_29 : decode cX9_count 29 = .ok (.iinc 4 1, 3) := by decide +kernel
theorem dX9_count_32 : decode cX9_count 32 = .ok (.goto (-25), 3) := by decide +kernel
theorem dX9_count_35 : decode cX9_count 35 = .ok (.iconst 0, 1) := by decide +kernel
theorem dX9_count_36 : decode cX9_count 36 = .ok (.istore 4, 2) := by decide +kernel
theorem dX9_count_38 : decode cX9_count 38 = .ok (.iload 4, 2) := by decide +kernel
theorem dX9_count_40 : decode cX9_count 40 = .ok (.aload_n 0, 1) := by decide +kernel
theorem dX9_count_41 : decode cX9_count 41 = .ok (.getfield 153, 3) := by decide +kernel
theorem dX9_count_44 : decode cX9_count 44 = .ok (.if_icmp .ge 35, 3) := by decide +kernel
theorem dX9_count_47 : decode cX9_count 47 = .ok (.iload_n 3, 1) := by decide +kernel
theorem dX9_count_48 : decode cX9_count 48 = .ok (.aload_n 0, 1) := by decide +kernel
theorem dX9_count_49 : decode cX9_count 49 = .ok (.getfield 7, 3) := by decide +kernel
theorem dX9_count_52 : decode cX9_count 52 = .ok (.bipush 36, 2) := by decide +kernel
theorem dX9_count_54 : decode cX9_count 54 = .ok (.iload 4, 2) := by decide +kernel
theorem dX9_count_56 : decode cX9_count 56 = .ok (.iadd, 1) := by decide +kernel
theorem dX9_count_57 : decode cX9_count 57 = .ok (.iaload, 1) := by decide +kernel
theorem dX9_count_58 : decode cX9_count 58 = .ok (.aload_n 0, 1) := by decide +kernel
theorem dX9_count_59 : decode cX9_count 59 = .ok (.getfield 7, 3) := by decide +kernel
theorem dX9_count_62 : decode cX9_count 62 = .ok (.bipush 32, 2) := by decide +kernel
theorem dX9_count_64 : decode cX9_count 64 = .ok (.iload 4, 2) := by decide +kernel
theorem dX9_count_66 : decode cX9_count 66 = .ok (.iadd, 1) := by decide +kernel
theorem dX9_count_67 : decode cX9_count 67 = .ok (.iaload, 1) := by decide +kernel
theorem dX9_count_68 : decode cX9_count 68 = .ok (.isub, 1) := by decide +kernel
theorem dX9_count_69 : decode cX9_count 69 = .ok (.iconst 1, 1) := by decide +kernel
theorem dX9_count_70 : decode cX9_count 70 = .ok (.iadd, 1) := by decide +kernel
theorem dX9_count_71 : decode cX9_count 71 = .ok (.iadd, 1) := by decide +kernel
theorem dX9_count_72 : decode cX9_count 72 = .ok (.istore_n 3, 1) := by decide +kernel
theorem dX9_count_73 : decode cX9_count 73 = .ok (.iinc 4 1, 3) := by decide +kernel
theorem dX9_count_76 : decode cX9_count 76 = .ok (.goto (-38), 3) := by decide +kernel
theorem dX9_count_79 : decode cX9_count 79 = .ok (.iload_n 1, 1) := by decide +kernel
theorem dX9_count_80 : decode cX9_count 80 = .ok (.tableswitch 107 0 5 #[40, 45, 75, 80, 103, 105], 40) := by decide +kernel
theorem dX9_count_120 : decode cX9_count 120 = .ok (.aload_n 0, 1) := by decide +kernel
theorem dX9_count_121 : decode cX9_count 121 = .ok (.getfield 156, 3) := by decide +kernel
theorem dX9_count_124 : decode cX9_count 124 = .ok (.ireturn, 1) := by decide +kernel
theorem dX9_count_125 : decode cX9_count 125 = .ok (.aload_n 0, 1) := by decide +kernel
theorem dX9_count_126 : decode cX9_count 126 = .ok (.getfield 40, 3) := by decide +kernel
theorem dX9_count_129 : decode cX9_count 129 = .ok (.iconst 0, 1) := by decide +kernel
theorem dX9_count_130 : decode cX9_count 130 = .ok (.baload, 1) := by decide +kernel
theorem dX9_count_131 : decode cX9_count 131 = .ok (.ifCond .eq 7, 3) := by decide +kernel
theorem dX9_count_134 : decode cX9_count 134 = .ok (.iconst 1, 1) := by decide +kernel
theorem dX9_count_135 : decode cX9_count 135 = .ok (.goto 4, 3) := by decide +kernel
theorem dX9_count_138 : decode cX9_count 138 = .ok (.iconst 0, 1) := by decide +kernel
theorem dX9_count_139 : decode cX9_count 139 = .ok (.aload_n 0, 1) := by decide +kernel
theorem dX9_count_140 : decode cX9_count 140 = .ok (.getfield 40, 3) := by decide +kernel
theorem dX9_count_143 : decode cX9_count 143 = .ok (.iconst 1, 1) := by decide +kernel
theorem dX9_count_144 : decode cX9_count 144 = .ok (.baload, 1) := by decide +kernel
theorem dX9_count_145 : decode cX9_count 145 = .ok (.ifCond .eq 7, 3) := by decide +kernel
theorem dX9_count_148 : decode cX9_count 148 = .ok (.iconst 1, 1) := by decide +kernel
theorem dX9_count_149 : decode cX9_count 149 = .ok (.goto 4, 3) := by decide +kernel
theorem dX9_count_152 : decode cX9_count 152 = .ok (.iconst 0, 1) := by decide +kernel
theorem dX9_count_153 : decode cX9_count 153 = .ok (.iadd, 1) := by decide +kernel
theorem dX9_count_154 : decode cX9_count 154 = .ok (.ireturn, 1) := by decide +kernel
theorem dX9_count_155 : decode cX9_count 155 = .ok (.aload_n 0, 1) := by decide +kernel
theorem dX9_count_156 : decode cX9_count 156 = .ok (.getfield 59, 3) := by decide +kernel
theorem dX9_count_159 : decode cX9_count 159 = .ok (.ireturn, 1) := by decide +kernel
theorem dX9_count_160 : decode cX9_count 160 = .ok (.aload_n 0, 1) := by decide +kernel
theorem dX9_count_161 : decode cX9_count 161 = .ok (.getfield 44, 3) := by decide +kernel
theorem dX9_count_164 : decode cX9_count 164 = .ok (.iconst 0, 1) := by decide +kernel
theorem dX9_count_165 : decode cX9_count 165 = .ok (.iaload, 1) := by decide +kernel
theorem dX9_count_166 : decode cX9_count 166 = .ok (.bipush (-4), 2) := by decide +kernel
theorem dX9_count_168 : decode cX9_count 168 = .ok (.if_icmp .ne 8, 3) := by decide +kernel
theorem dX9_count_171 : decode cX9_count 171 = .ok (.bipush (-4), 2) := by decide +kernel
theorem dX9_count_173 : decode cX9_count 173 = .ok (.goto 9, 3) := by decide +kernel
theorem dX9_count_176 : decode cX9_count 176 = .ok (.aload_n 0, 1) := by decide +kernel
theorem dX9_count_177 : decode cX9_count 177 = .ok (.getfield 47, 3) := by decide +kernel
theorem dX9_count_180 : decode cX9_count 180 = .ok (.iconst 0, 1) := by decide +kernel
theorem dX9_count_181 : decode cX9_count 181 = .ok (.iaload, 1) := by decide +kernel
theorem dX9_count_182 : decode cX9_count 182 = .ok (.ireturn, 1) := by decide +kernel
theorem dX9_count_183 : decode cX9_count 183 = .ok (.iload_n 2, 1) := by decide +kernel
theorem dX9_count_184 : decode cX9_count 184 = .ok (.ireturn, 1) := by decide +kernel
theorem dX9_count_185 : decode cX9_count 185 = .ok (.iload_n 3, 1) := by decide +kernel
theorem dX9_count_186 : decode cX9_count 186 = .ok (.ireturn, 1) := by decide +kernel
theorem dX9_count_187 : decode cX9_count 187 = .ok (.iconst (-1), 1) := by decide +kernel
theorem dX9_count_188 : decode cX9_count 188 = .ok (.ireturn, 1) := by decide +kernel
theorem dJ6_bitCount_0f7a4_0 : decode cJ6_bitCount_0f7a4 0 = .ok (.iload_n 0, 1) := by decide +kernel
theorem dJ6_bitCount_0f7a4_1 : decode cJ6_bitCount_0f7a4 1 = .ok (.iload_n 0, 1) := by decide +kernel
theorem dJ6_bitCount_0f7a4_2 : decode cJ6_bitCount_0f7a4 2 = .ok (.iconst 1, 1) := by decide +kernel
theorem dJ6_bitCount_0f7a4_3 : decode cJ6_bitCount_0f7a4 3 = .ok (.iushr, 1) := by decide +kernel
theorem dJ6_bitCount_0f7a4_4 : decode cJ6_bitCount_0f7a4 4 = .ok (.ldc_w 265, 3) := by decide +kernel
theorem dJ6_bitCount_0f7a4_7 : decode cJ6_bitCount_0f7a4 7 = .ok (.iand, 1) := by decide +kernel
theorem dJ6_bitCount_0f7a4_8 : decode cJ6_bitCount_0f7a4 8 = .ok (.isub, 1) := by decide +kernel
theorem dJ6_bitCount_0f7a4_9 : decode cJ6_bitCount_0f7a4 9 = .ok (.istore_n 0, 1) := by decide +kernel
theorem dJ6_bitCount_0f7a4_10 : decode cJ6_bitCount_0f7a4 10 = .ok (.iload_n 0, 1) := by decide +kernel
theorem dJ6_bitCount_0f7a4_11 : decode cJ6_bitCount_0f7a4 11 = .ok (.ldc_w 266, 3) := by decide +kernel
theorem dJ6_bitCount_0f7a4_14 : decode cJ6_bitCount_0f7a4 14 = .ok (.iand, 1) := by decide +kernel
theorem dJ6_bitCount_0f7a4_15 : decode cJ6_bitCount_0f7a4 15 = .ok (.iload_n 0, 1) := by decide +kernel
theorem dJ6_bitCount_0f7a4_16 : decode cJ6_bitCount_0f7a4 16 = .ok (.iconst 2, 1) := by decide +kernel
theorem dJ6_bitCount_0f7a4_17 : decode cJ6_bitCount_0f7a4 17 = .ok (.iushr, 1) := by decide +kernel
theorem dJ6_bitCount_0f7a4_18 : decode cJ6_bitCount_0f7a4 18 = .ok (.ldc_w 266, 3) := by decide +kernel
theorem dJ6_bitCount_0f7a4_21 : decode cJ6_bitCount_0f7a4 21 = .ok (.iand, 1) := by decide +kernel
theorem dJ6_bitCount_0f7a4_22 : decode cJ6_bitCount_0f7a4 22 = .ok (.iadd, 1) := by decide +kernel
theorem dJ6_bitCount_0f7a4_23 : decode cJ6_bitCount_0f7a4 23 = .ok (.istore_n 0, 1) := by decide +kernel
theorem dJ6_bitCount_0f7a4_24 : decode cJ6_bitCount_0f7a4 24 = .ok (.iload_n 0, 1) := by decide +kernel
theorem dJ6_bitCount_0f7a4_25 : decode cJ6_bitCount_0f7a4 25 = .ok (.iload_n 0, 1) := by decide +kernel
theorem dJ6_bitCount_0f7a4_26 : decode cJ6_bitCount_0f7a4 26 = .ok (.iconst 4, 1) := by decide +kernel
theorem dJ6_bitCount_0f7a4_27 : decode cJ6_bitCount_0f7a4 27 = .ok (.iushr, 1) := by decide +kernel
theorem dJ6_bitCount_0f7a4_28 : decode cJ6_bitCount_0f7a4 28 = .ok (.iadd, 1) := by decide +kernel
theorem dJ6_bitCount_0f7a4_29 : decode cJ6_bitCount_0f7a4 29 = .ok (.ldc_w 267, 3) := by decide +kernel
theorem dJ6_bitCount_0f7a4_32 : decode cJ6_bitCount_0f7a4 32 = .ok (.iand, 1) := by decide +kernel
theorem dJ6_bitCount_0f7a4_33 : decode cJ6_bitCount_0f7a4 33 = .ok (.istore_n 0, 1) := by decide +kernel
theorem dJ6_bitCount_0f7a4_34 : decode cJ6_bitCount_0f7a4 34 = .ok (.iload_n 0, 1) := by decide +kernel
theorem dJ6_bitCount_0f7a4_35 : decode cJ6_bitCount_0f7a4 35 = .ok (.iload_n 0, 1) := by decide +kernel
theorem dJ6_bitCount_0f7a4_36 : decode cJ6_bitCount_0f7a4 36 = .ok (.bipush 8, 2) := by decide +kernel
theorem dJ6_bitCount_0f7a4_38 : decode cJ6_bitCount_0f7a4 38 = .ok (.iushr, 1) := by decide +kernel
theorem dJ6_bitCount_0f7a4_39 : decode cJ6_bitCount_0f7a4 39 = .ok (.iadd, 1) := by decide +kernel
theorem dJ6_bitCount_0f7a4_40 : decode cJ6_bitCount_0f7a4 40 = .ok (.istore_n 0, 1) := by decide +kernel
theorem dJ6_bitCount_0f7a4_41 : decode cJ6_bitCount_0f7a4 41 = .ok (.iload_n 0, 1) := by decide +kernel
theorem dJ6_bitCount_0f7a4_42 : decode cJ6_bitCount_0f7a4 42 = .ok (.iload_n 0, 1) := by decide +kernel
theorem dJ6_bitCount_0f7a4_43 : decode cJ6_bitCount_0f7a4 43 = .ok (.bipush 16, 2) := by decide +kernel
theorem dJ6_bitCount_0f7a4_45 : decode cJ6_bitCount_0f7a4 45 = .ok (.iushr, 1) := by decide +kernel
theorem dJ6_bitCount_0f7a4_46 : decode cJ6_bitCount_0f7a4 46 = .ok (.iadd, 1) := by decide +kernel
theorem dJ6_bitCount_0f7a4_47 : decode cJ6_bitCount_0f7a4 47 = .ok (.istore_n 0, 1) := by decide +kernel
theorem dJ6_bitCount_0f7a4_48 : decode cJ6_bitCount_0f7a4 48 = .ok (.iload_n 0, 1) := by decide +kernel
theorem dJ6_bitCount_0f7a4_49 : decode cJ6_bitCount_0f7a4 49 = .ok (.bipush 63, 2) := by decide +kernel
theorem dJ6_bitCount_0f7a4_51 : decode cJ6_bitCount_0f7a4 51 = .ok (.iand, 1) := by decide +kernel
theorem dJ6_bitCount_0f7a4_52 : decode cJ6_bitCount_0f7a4 52 = .ok (.ireturn, 1) := by decide +kernel
theorem dJ13_bitCount_95d88_0 : decode cJ13_bitCount_95d88 0 = .ok (.lload_n 0, 1) := by decide +kernel
theorem dJ13_bitCount_95d88_1 : decode cJ13_bitCount_95d88 1 = .ok (.lload_n 0, 1) := by decide +kernel
theorem dJ13_bitCount_95d88_2 : decode cJ13_bitCount_95d88 2 = .ok (.iconst 1, 1) := by decide +kernel
theorem dJ13_bitCount_95d88_3 : decode cJ13_bitCount_95d88 3 = .ok (.lushr, 1) := by decide +kernel
theorem dJ13_bitCount_95d88_4 : decode cJ13_bitCount_95d88 4 = .ok (.ldc2_w 314, 3) := by decide +kernel
theorem dJ13_bitCount_95d88_7 : decode cJ13_bitCount_95d88 7 = .ok (.land, 1) := by decide +kernel
theorem dJ13_bitCount_95d88_8 : decode cJ13_bitCount_95d88 8 = .ok (.lsub, 1) := by decide +kernel
theorem dJ13_bitCount_95d88_9 : decode cJ13_bitCount_95d88 9 = .ok (.lstore_n 0, 1) := by decide +kernel
theorem dJ13_bitCount_95d88_10 : decode cJ13_bitCount_95d88 10 = .ok (.lload_n 0, 1) := by decide +kernel
theorem dJ13_bitCount_95d88_11 : decode cJ13_bitCount_95d88 11 = .ok (.ldc2_w 316, 3) := by decide +kernel
theorem dJ13_bitCount_95d88_14 : decode cJ13_bitCount_95d88 14 = .ok (.land, 1) := by decide +kernel
theorem dJ13_bitCount_95d88_15 : decode cJ13_bitCount_95d88 15 = .ok (.lload_n 0, 1) := by decide +kernel
theorem dJ13_bitCount_95d88_16 : decode cJ13_bitCount_95d88 16 = .ok (.iconst 2, 1) := by decide +kernel
theorem dJ13_bitCount_95d88_17 : decode cJ13_bitCount_95d88 17 = .ok (.lushr, 1) := by decide +kernel
theorem dJ13_bitCount_95d88_18 : decode cJ13_bitCount_95d88 18 = .ok (.ldc2_w 316, 3) := by decide +kernel
theorem dJ13_bitCount_95d88_21 : decode cJ13_bitCount_95d88 21 = .ok (.land, 1) := by decide +kernel
theorem dJ13_bitCount_95d88_22 : decode cJ13_bitCount_95d88 22 = .ok (.ladd, 1) := by decide +kernel
theorem dJ13_bitCount_95d88_23 : decode cJ13_bitCount_95d88 23 = .ok (.lstore_n 0, 1) := by decide +kernel
theorem dJ13_bitCount_95d88_24 : decode cJ13_bitCount_95d88 24 = .ok (.lload_n 0, 1) := by decide +kernel
theorem dJ13_bitCount_95d88_25 : decode cJ13_bitCount_95d88 25 = .ok (.lload_n 0, 1) := by decide +kernel
theorem dJ13_bitCount_95d88_26 : decode cJ13_bitCount_95d88 26 = .ok (.iconst 4, 1) := by decide +kernel
theorem dJ13_bitCount_95d88_27 : decode cJ13_bitCount_95d88 27 = .ok (.lushr, 1) := by decide +kernel
theorem dJ13_bitCount_95d88_28 : decode cJ13_bitCount_95d88 28 = .ok (.ladd, 1) := by decide +kernel
theorem dJ13_bitCount_95d88_29 : decode cJ13_bitCount_95d88 29 = .ok (.ldc2_w 318, 3) := by decide +kernel
theorem dJ13_bitCount_95d88_32 : decode cJ13_bitCount_95d88 32 = .ok (.land, 1) := by decide +kernel
theorem dJ13_bitCount_95d88_33 : decode cJ13_bitCount_95d88 33 = .ok (.lstore_n 0, 1) := by decide +kernel
theorem dJ13_bitCount_95d88_34 : decode cJ13_bitCount_95d88 34 = .ok (.lload_n 0, 1) := by decide +kernel
theorem dJ13_bitCount_95d88_35 : decode cJ13_bitCount_95d88 35 = .ok (.lload_n 0, 1) := by decide +kernel
theorem dJ13_bitCount_95d88_36 : decode cJ13_bitCount_95d88 36 = .ok (.bipush 8, 2) := by decide +kernel
theorem dJ13_bitCount_95d88_38 : decode cJ13_bitCount_95d88 38 = .ok (.lushr, 1) := by decide +kernel
theorem dJ13_bitCount_95d88_39 : decode cJ13_bitCount_95d88 39 = .ok (.ladd, 1) := by decide +kernel
theorem dJ13_bitCount_95d88_40 : decode cJ13_bitCount_95d88 40 = .ok (.lstore_n 0, 1) := by decide +kernel
theorem dJ13_bitCount_95d88_41 : decode cJ13_bitCount_95d88 41 = .ok (.lload_n 0, 1) := by decide +kernel
theorem dJ13_bitCount_95d88_42 : decode cJ13_bitCount_95d88 42 = .ok (.lload_n 0, 1) := by decide +kernel
theorem dJ13_bitCount_95d88_43 : decode cJ13_bitCount_95d88 43 = .ok (.bipush 16, 2) := by decide +kernel
theorem dJ13_bitCount_95d88_45 : decode cJ13_bitCount_95d88 45 = .ok (.lushr, 1) := by decide +kernel
theorem dJ13_bitCount_95d88_46 : decode cJ13_bitCount_95d88 46 = .ok (.ladd, 1) := by decide +kernel
theorem dJ13_bitCount_95d88_47 : decode cJ13_bitCount_95d88 47 = .ok (.lstore_n 0, 1) := by decide +kernel
theorem dJ13_bitCount_95d88_48 : decode cJ13_bitCount_95d88 48 = .ok (.lload_n 0, 1) := by decide +kernel
theorem dJ13_bitCount_95d88_49 : decode cJ13_bitCount_95d88 49 = .ok (.lload_n 0, 1) := by decide +kernel
theorem dJ13_bitCount_95d88_50 : decode cJ13_bitCount_95d88 50 = .ok (.bipush 32, 2) := by decide +kernel
theorem dJ13_bitCount_95d88_52 : decode cJ13_bitCount_95d88 52 = .ok (.lushr, 1) := by decide +kernel
theorem dJ13_bitCount_95d88_53 : decode cJ13_bitCount_95d88 53 = .ok (.ladd, 1) := by decide +kernel
theorem dJ13_bitCount_95d88_54 : decode cJ13_bitCount_95d88 54 = .ok (.lstore_n 0, 1) := by decide +kernel
theorem dJ13_bitCount_95d88_55 : decode cJ13_bitCount_95d88 55 = .ok (.lload_n 0, 1) := by decide +kernel
theorem dJ13_bitCount_95d88_56 : decode cJ13_bitCount_95d88 56 = .ok (.l2i, 1) := by decide +kernel
theorem dJ13_bitCount_95d88_57 : decode cJ13_bitCount_95d88 57 = .ok (.bipush 127, 2) := by decide +kernel
theorem dJ13_bitCount_95d88_59 : decode cJ13_bitCount_95d88 59 = .ok (.iand, 1) := by decide +kernel
theorem dJ13_bitCount_95d88_60 : decode cJ13_bitCount_95d88 60 = .ok (.ireturn, 1) := by decide +kernel
theorem dJ9_max_7cf53_0 : decode cJ9_max_7cf53 0 = .ok (.iload_n 0, 1) := by decide +kernel
theorem dJ9_max_7cf53_1 : decode cJ9_max_7cf53 1 = .ok (.iload_n 1, 1) := by decide +kernel
theorem dJ9_max_7cf53_2 : decode cJ9_max_7cf53 2 = .ok (.if_icmp .lt 7, 3) := by decide +kernel
theorem dJ9_max_7cf53_5 : decode cJ9_max_7cf53 5 = .ok (.iload_n 0, 1) := by decide +kernel
theorem dJ9_max_7cf53_6 : decode cJ9_max_7cf53 6 = .ok (.goto 4, 3) := by decide +kernel
theorem dJ9_max_7cf53_9 : decode cJ9_max_7cf53 9 = .ok (.iload_n 1, 1) := by decide +kernel
theorem dJ9_max_7cf53_10 : decode cJ9_max_7cf53 10 = .ok (.ireturn, 1) := by decide +kernel
theorem dJ9_min_7cf53_0 : decode cJ9_min_7cf53 0 = .ok (.iload_n 0, 1) := by decide +kernel
theorem dJ9_min_7cf53_1 : decode cJ9_min_7cf53 1 = .ok (.iload_n 1, 1) := by decide +kernel
theorem dJ9_min_7cf53_2 : decode cJ9_min_7cf53 2 = .ok (.if_icmp .gt 7, 3) := by decide +kernel
theorem dJ9_min_7cf53_5 : decode cJ9_min_7cf53 5 = .ok (.iload_n 0, 1) := by decide +kernel
theorem dJ9_min_7cf53_6 : decode cJ9_min_7cf53 6 = .ok (.goto 4, 3) := by decide +kernel
theorem dJ9_min_7cf53_9 : decode cJ9_min_7cf53 9 = .ok (.iload_n 1, 1) := by decide +kernel
theorem dJ9_min_7cf53_10 : decode cJ9_min_7cf53 10 = .ok (.ireturn, 1) := by decide +kernel
theorem dJ0_length_8abf5_0 : decode cJ0_length_8abf5 0 = .ok (.aload_n 0, 1) := by decide +kernel
theorem dJ0_length_8abf5_1 : decode cJ0_length_8abf5 1 = .ok (.getfield 9, 3) := by decide +kernel
theorem dJ0_length_8abf5_4 : decode cJ0_length_8abf5 4 = .ok (.arraylength, 1) := by decide +kernel
theorem dJ0_length_8abf5_5 : decode cJ0_length_8abf5 5 = .ok (.aload_n 0, 1) := by decide +kernel
theorem dJ0_length_8abf5_6 : decode cJ0_length_8abf5 6 = .ok (.invokevirtual 335, 3) := by decide +kernel
theorem dJ0_length_8abf5_9 : decode cJ0_length_8abf5 9 = .ok (.ishr, 1) := by decide +kernel
theorem dJ0_length_8abf5_10 : decode cJ0_length_8abf5 10 = .ok (.ireturn, 1) := by decide +kernel
theorem dJ0_charAt_5068e_0 : decode cJ0_charAt_5068e 0 = .ok (.aload_n 0, 1) := by decide +kernel
theorem dJ0_charAt_5068e_1 : decode cJ0_charAt_5068e 1 = .ok (.invokevirtual 492, 3) := by decide +kernel
theorem dJ0_charAt_5068e_4 : decode cJ0_charAt_5068e 4 = .ok (.ifCond .eq 12, 3) := by decide +kernel
theorem dJ0_charAt_5068e_7 : decode cJ0_charAt_5068e 7 = .ok (.aload_n 0, 1) := by decide +kernel
theorem dJ0_charAt_5068e_8 : decode cJ0_charAt_5068e 8 = .ok (.getfield 9, 3) := by decide +kernel
theorem dJ0_charAt_5068e_11 : decode cJ0_charAt_5068e 11 = .ok (.iload_n 1, 1) := by decide +kernel
theorem dJ0_charAt_5068e_12 : decode cJ0_charAt_5068e 12 = .ok (.invokestatic 495, 3) := by decide +kernel
theorem dJ0_charAt_5068e_15 : decode cJ0_charAt_5068e 15 = .ok (.ireturn, 1) := by decide +kernel
theorem dJ0_charAt_5068e_16 : decode cJ0_charAt_5068e 16 = .ok (.aload_n 0, 1) := by decide +kernel
theorem dJ0_charAt_5068e_17 : decode cJ0_charAt_5068e 17 = .ok (.getfield 9, 3) := by decide +kernel
theorem dJ0_charAt_5068e_20 : decode cJ0_charAt_5068e 20 = .ok (.iload_n 1, 1) := by decide +kernel
theorem dJ0_charAt_5068e_21 : decode cJ0_charAt_5068e 21 = .ok (.invokestatic 498, 3) := by decide +kernel
theorem dJ0_charAt_5068e_24 : decode cJ0_charAt_5068e 24 = .ok (.ireturn, 1) := by decide +kernel
theorem dJ0_coder_7d493_0 : decode cJ0_coder_7d493 0 = .ok (.getstatic 38, 3) := by decide +kernel
theorem dJ0_coder_7d493_3 : decode cJ0_coder_7d493 3 = .ok (.ifCond .eq 10, 3) := by decide +kernel
theorem dJ0_coder_7d493_6 : decode cJ0_coder_7d493 6 = .ok (.aload_n 0, 1) := by decide +kernel
theorem dJ0_coder_7d493_7 : decode cJ0_coder_7d493 7 = .ok (.getfield 15, 3) := by decide +kernel
theorem dJ0_coder_7d493_10 : decode cJ0_coder_7d493 10 = .ok (.goto 4, 3) := by decide +kernel
theorem dJ0_coder_7d493_13 : decode cJ0_coder_7d493 13 = .ok (.iconst 1, 1) := by decide +kernel
theorem dJ0_coder_7d493_14 : decode cJ0_coder_7d493 14 = .ok (.ireturn, 1) := by decide +kernel
theorem dJ0_isLatin1_aae02_0 : decode cJ0_isLatin1_aae02 0 = .ok (.getstatic 38, 3) := by decide +kernel
theorem dJ0_isLatin1_aae02_3 : decode cJ0_isLatin1_aae02 3 = .ok (.ifCond .eq 14, 3) := by decide +kernel
theorem dJ0_isLatin1_aae02_6 : decode cJ0_isLatin1_aae02 6 = .ok (.aload_n 0, 1) := by decide +kernel
theorem dJ0_isLatin1_aae02_7 : decode cJ0_isLatin1_aae02 7 = .ok (.getfield 15, 3) := by decide +kernel
theorem dJ0_isLatin1_aae02_10 : decode cJ0_isLatin1_aae02 10 = .ok (.ifCond .ne 7, 3) := by decide +kernel
theorem dJ0_isLatin1_aae02_13 : decode cJ0_isLatin1_aae02 13 = .ok (.iconst 1, 1) := by decide +kernel
theorem dJ0_isLatin1_aae02_14 : decode cJ0_isLatin1_aae02 14 = .ok (.goto 4, 3) := by decide +kernel
theorem dJ0_isLatin1_aae02_17 : decode cJ0_isLatin1_aae02 17 = .ok (.iconst 0, 1) := by decide +kernel
theorem dJ0_isLatin1_aae02_18 : decode cJ0_isLatin1_aae02 18 = .ok (.ireturn, 1) := by decide +kernel
theorem dJ0_checkIndex_df160_0 : decode cJ0_checkIndex_df160 0 = .ok (.iload_n 0, 1) := by decide +kernel
theorem dJ0_checkIndex_df160_1 : decode cJ0_checkIndex_df160 1 = .ok (.iload_n 1, 1) := by decide +kernel
theorem dJ0_checkIndex_df160_2 : decode cJ0_checkIndex_df160 2 = .ok (.getstatic 1053, 3) := by decide +kernel
theorem dJ0_checkIndex_df160_5 : decode cJ0_checkIndex_df160 5 = .ok (.invokestatic 1059, 3) := by decide +kernel
theorem dJ0_checkIndex_df160_8 : decode cJ0_checkIndex_df160 8 = .ok (.pop, 1) := by decide +kernel
theorem dJ0_checkIndex_df160_9 : decode cJ0_checkIndex_df160 9 = .ok (.return_, 1) := by decide +kernel
theorem dJ1_charAt_3b067_0 : decode cJ1_charAt_3b067 0 = .ok (.iload_n 1, 1) := by decide +kernel
theorem dJ1_charAt_3b067_1 : decode cJ1_charAt_3b067 1 = .ok (.aload_n 0, 1) := by decide +kernel
theorem dJ1_charAt_3b067_2 : decode cJ1_charAt_3b067 2 = .ok (.arraylength, 1) := by decide +kernel
theorem dJ1_charAt_3b067_3 : decode cJ1_charAt_3b067 3 = .ok (.invokestatic 9, 3) := by decide +kernel
theorem dJ1_charAt_3b067_6 : decode cJ1_charAt_3b067 6 = .ok (.aload_n 0, 1) := by decide +kernel
theorem dJ1_charAt_3b067_7 : decode cJ1_charAt_3b067 7 = .ok (.iload_n 1, 1) := by decide +kernel
theorem dJ1_charAt_3b067_8 : decode cJ1_charAt_3b067 8 = .ok (.baload, 1) := by decide +kernel
theorem dJ1_charAt_3b067_9 : decode cJ1_charAt_3b067 9 = .ok (.sipush 255, 3) := by decide +kernel
theorem dJ1_charAt_3b067_12 : decode cJ1_charAt_3b067 12 = .ok (.iand, 1) := by decide +kernel
theorem dJ1_charAt_3b067_13 : decode cJ1_charAt_3b067 13 = .ok (.i2c, 1) := by decide +kernel
theorem dJ1_charAt_3b067_14 : decode cJ1_charAt_3b067 14 = .ok (.ireturn, 1) := by decide +kernel
theorem dJ2_getChar_3b067_0 : decode cJ2_getChar_3b067 0 = .ok (.getstatic 44, 3) := by decide +kernel
theorem dJ2_getChar_3b067_3 : decode cJ2_getChar_3b067 3 = .ok (.ifCond .ne 25, 3) := by decide +kernel
theorem dJ2_getChar_3b067_6 : decode cJ2_getChar_3b067 6 = .ok (.iload_n 1, 1) := by decide +kernel
theorem dJ2_getChar_3b067_7 : decode cJ2_getChar_3b067 7 = .ok (.ifCond .lt 11, 3) := by decide +kernel
theorem dJ2_getChar_3b067_10 : decode cJ2_getChar_3b067 10 = .ok (.iload_n 1, 1) := by decide +kernel
theorem dJ2_getChar_3b067_11 : decode cJ2_getChar_3b067 11 = .ok (.aload_n 0, 1) := by decide +kernel
theorem dJ2_getChar_3b067_12 : decode cJ2_getChar_3b067 12 = .ok (.invokestatic 48, 3) := by decide +kernel
theorem dJ2_getChar_3b067_15 : decode cJ2_getChar_3b067 15 = .ok (.if_icmp .lt 13, 3) := by decide +kernel
theorem dJ2_getChar_3b067_18 : decode cJ2_getChar_3b067 18 = .ok (.new 52, 3) := by decide +kernel
theorem dJ2_getChar_3b067_21 : decode cJ2_getChar_3b067 21 = .ok (.dup, 1) := by decide +kernel
theorem dJ2_getChar_3b067_22 : decode cJ2_getChar_3b067 22 = .ok (.ldc 54, 2) := by decide +kernel
theorem dJ2_getChar_3b067_24 : decode cJ2_getChar_3b067 24 = .ok (.invokespecial 56, 3) := by decide +kernel
theorem dJ2_getChar_3b067_27 : decode cJ2_getChar_3b067 27 = .ok (.athrow, 1) := by decide +kernel
theorem dJ2_getChar_3b067_28 : decode cJ2_getChar_3b067 28 = .ok (.iload_n 1, 1) := by decide +kernel
theorem dJ2_getChar_3b067_29 : decode cJ2_getChar_3b067 29 = .ok (.iconst 1, 1) := by decide +kernel
theorem dJ2_getChar_3b067_30 : decode cJ2_getChar_3b067 30 = .ok (.ishl, 1) := by decide +kernel
theorem dJ2_getChar_3b067_31 : decode cJ2_getChar_3b067 31 = .ok (.istore_n 1, 1) := by decide +kernel
theorem dJ2_getChar_3b067_32 : decode cJ2_getChar_3b067 32 = .ok (.aload_n 0, 1) := by decide +kernel
theorem dJ2_getChar_3b067_33 : decode cJ2_getChar_3b067 33 = .ok (.iload_n 1, 1) := by decide +kernel
theorem dJ2_getChar_3b067_34 : decode cJ2_getChar_3b067 34 = .ok (.iinc 1 1, 3) := by decide +kernel
theorem dJ2_getChar_3b067_37 : decode cJ2_getChar_3b067 37 = .ok (.baload, 1) := by decide +kernel
theorem dJ2_getChar_3b067_38 : decode cJ2_getChar_3b067 38 = .ok (.sipush 255, 3) := by decide +kernel
theorem dJ2_getChar_3b067_41 : decode cJ2_getChar_3b067 41 = .ok (.iand, 1) := by decide +kernel
theorem dJ2_getChar_3b067_42 : decode cJ2_getChar_3b067 42 = .ok (.getstatic 59, 3) := by decide +kernel
theorem dJ2_getChar_3b067_45 : decode cJ2_getChar_3b067 45 = .ok (.ishl, 1) := by decide +kernel
theorem dJ2_getChar_3b067_46 : decode cJ2_getChar_3b067 46 = .ok (.aload_n 0, 1) := by decide +kernel
theorem dJ2_getChar_3b067_47 : decode cJ2_getChar_3b067 47 = .ok (.iload_n 1, 1) := by decide +kernel
theorem dJ2_getChar_3b067_48 : decode cJ2_getChar_3b067 48 = .ok (.baload, 1) := by decide +kernel
theorem dJ2_getChar_3b067_49 : decode cJ2_getChar_3b067 49 = .ok (.sipush 255, 3) := by decide +kernel
theorem dJ2_getChar_3b067_52 : decode cJ2_getChar_3b067 52 = .ok (.iand, 1) := by decide +kernel
theorem dJ2_getChar_3b067_53 : decode cJ2_getChar_3b067 53 = .ok (.getstatic 63, 3) := by decide +kernel
theorem dJ2_getChar_3b067_56 : decode cJ2_getChar_3b067 56 = .ok (.ishl, 1) := by decide +kernel
theorem dJ2_getChar_3b067_57 : decode cJ2_getChar_3b067 57 = .ok (.ior, 1) := by decide +kernel
theorem dJ2_getChar_3b067_58 : decode cJ2_getChar_3b067 58 = .ok (.i2c, 1) := by decide +kernel
theorem dJ2_getChar_3b067_59 : decode cJ2_getChar_3b067 59 = .ok (.ireturn, 1) := by decide +kernel
theorem dJ2_length_9d52b_0 : decode cJ2_length_9d52b 0 = .ok (.aload_n 0, 1) := by decide +kernel
theorem dJ2_length_9d52b_1 : decode cJ2_length_9d52b 1 = .ok (.arraylength, 1) := by decide +kernel
theorem dJ2_length_9d52b_2 : decode cJ2_length_9d52b 2 = .ok (.iconst 1, 1) := by decide +kernel
theorem dJ2_length_9d52b_3 : decode cJ2_length_9d52b 3 = .ok (.ishr, 1) := by decide +kernel
theorem dJ2_length_9d52b_4 : decode cJ2_length_9d52b 4 = .ok (.ireturn, 1) := by decide +kernel
theorem dJ2_charAt_3b067_0 : decode cJ2_charAt_3b067 0 = .ok (.iload_n 1, 1) := by decide +kernel
theorem dJ2_charAt_3b067_1 : decode cJ2_charAt_3b067 1 = .ok (.aload_n 0, 1) := by decide +kernel
theorem dJ2_charAt_3b067_2 : decode cJ2_charAt_3b067 2 = .ok (.invokestatic 67, 3) := by decide +kernel
theorem dJ2_charAt_3b067_5 : decode cJ2_charAt_3b067 5 = .ok (.aload_n 0, 1) := by decide +kernel
theorem dJ2_charAt_3b067_6 : decode cJ2_charAt_3b067 6 = .ok (.iload_n 1, 1) := by decide +kernel
theorem dJ2_charAt_3b067_7 : decode cJ2_charAt_3b067 7 = .ok (.invokestatic 71, 3) := by decide +kernel
theorem dJ2_charAt_3b067_10 : decode cJ2_charAt_3b067 10 = .ok (.ireturn, 1) := by decide +kernel
theorem dJ2_checkIndex_2214a_0 : decode cJ2_checkIndex_2214a 0 = .ok (.iload_n 0, 1) := by decide +kernel
theorem dJ2_checkIndex_2214a_1 : decode cJ2_checkIndex_2214a 1 = .ok (.aload_n 1, 1) := by decide +kernel
theorem dJ2_checkIndex_2214a_2 : decode cJ2_checkIndex_2214a 2 = .ok (.invokestatic 48, 3) := by decide +kernel
theorem dJ2_checkIndex_2214a_5 : decode cJ2_checkIndex_2214a 5 = .ok (.invokestatic 414, 3) := by decide +kernel
theorem dJ2_checkIndex_2214a_8 : decode cJ2_checkIndex_2214a 8 = .ok (.return_, 1) := by decide +kernel
theorem dJ3_checkIndex_8e157_0 : decode cJ3_checkIndex_8e157 0 = .ok (.iload_n 0, 1) := by decide +kernel
theorem dJ3_checkIndex_8e157_1 : decode cJ3_checkIndex_8e157 1 = .ok (.ifCond .lt 8, 3) := by decide +kernel
theorem dJ3_checkIndex_8e157_4 : decode cJ3_checkIndex_8e157 4 = .ok (.iload_n 0, 1) := by decide +kernel
theorem dJ3_checkIndex_8e157_5 : decode cJ3_checkIndex_8e157 5 = .ok (.iload_n 1, 1) := by decide +kernel
theorem dJ3_checkIndex_8e157_6 : decode cJ3_checkIndex_8e157 6 = .ok (.if_icmp .lt 10, 3) := by decide +kernel
theorem dJ3_checkIndex_8e157_9 : decode cJ3_checkIndex_8e157 9 = .ok (.aload_n 2, 1) := by decide +kernel
theorem dJ3_checkIndex_8e157_10 : decode cJ3_checkIndex_8e157 10 = .ok (.iload_n 0, 1) := by decide +kernel
theorem dJ3_checkIndex_8e157_11 : decode cJ3_checkIndex_8e157 11 = .ok (.iload_n 1, 1) := by decide +kernel
theorem dJ3_checkIndex_8e157_12 : decode cJ3_checkIndex_8e157 12 = .ok (.invokestatic 95, 3) := by decide +kernel
theorem dJ3_checkIndex_8e157_15 : decode cJ3_checkIndex_8e157 15 = .ok (.athrow, 1) := by decide +kernel
theorem dJ3_checkIndex_8e157_16 : decode cJ3_checkIndex_8e157 16 = .ok (.iload_n 0, 1) := by decide +kernel
theorem dJ3_checkIndex_8e157_17 : decode cJ3_checkIndex_8e157 17 = .ok (.ireturn, 1) := by decide +kernel
theorem dL_law_0 : decode cL_law 0 = .ok (.new 7, 3) := by decide +kernel
theorem dL_law_3 : decode cL_law 3 = .ok (.dup, 1) := by decide +kernel
theorem dL_law_4 : decode cL_law 4 = .ok (.invokespecial 9, 3) := by decide +kernel
theorem dL_law_7 : decode cL_law 7 = .ok (.astore_n 1, 1) := by decide +kernel
theorem dL_law_8 : decode cL_law 8 = .ok (.new 10, 3) := by decide +kernel
theorem dL_law_11 : decode cL_law 11 = .ok (.dup, 1) := by decide +kernel
theorem dL_law_12 : decode cL_law 12 = .ok (.invokespecial 12, 3) := by decide +kernel
theorem dL_law_15 : decode cL_law 15 = .ok (.astore_n 2, 1) := by decide +kernel
theorem dL_law_16 : decode cL_law 16 = .ok (.iconst 0, 1) := by decide +kernel
theorem dL_law_17 : decode cL_law 17 = .ok (.istore_n 3, 1) := by decide +kernel
theorem dL_law_18 : decode cL_law 18 = .ok (.iload_n 3, 1) := by decide +kernel
theorem dL_law_19 : decode cL_law 19 = .ok (.aload_n 0, 1) := by decide +kernel
theorem dL_law_20 : decode cL_law 20 = .ok (.arraylength, 1) := by decide +kernel
theorem dL_law_21 : decode cL_law 21 = .ok (.iconst 5, 1) := by decide +kernel
theorem dL_law_22 : decode cL_law 22 = .ok (.isub, 1) := by decide +kernel
theorem dL_law_23 : decode cL_law 23 = .ok (.if_icmp .gt 1610, 3) := by decide +kernel
theorem dL_law_26 : decode cL_law 26 = .ok (.aload_n 0, 1) := by decide +kernel
theorem dL_law_27 : decode cL_law 27 = .ok (.iload_n 3, 1) := by decide +kernel
theorem dL_law_28 : decode cL_law 28 = .ok (.iaload, 1) := by decide +kernel
theorem dL_law_29 : decode cL_law 29 = .ok (.bipush 63, 2) := by decide +kernel
theorem dL_law_31 : decode cL_law 31 = .ok (.iand, 1) := by decide +kernel
theorem dL_law_32 : decode cL_law 32 = .ok (.tableswitch 1595 0 42 #[188, 211, 234, 247, 260, 283, 316, 349, 382, 415, 458, 501, 534, 577, 610, 643, 676, 719, 762, 795, 818, 851, 884, 917, 950, 983, 1016, 1039, 1072, 1126, 1160, 1229, 1252, 1275, 1298, 1331, 1374, 1397, 1420, 1463, 1506, 1559, 1572], 188) := by decide +kernel
theorem dL_law_220 : decode cL_law 220 = .ok (.aload_n 1, 1) := by decide +kernel
theorem dL_law_221 : decode cL_law 221 = .ok (.aload_n 0, 1) := by decide +kernel
theorem dL_law_222 : decode cL_law 222 = .ok (.iload_n 3, 1) := by decide +kernel
theorem dL_law_223 : decode cL_law 223 = .ok (.iconst 1, 1) := by decide +kernel
theorem dL_law_224 : decode cL_law 224 = .ok (.iadd, 1) := by decide +kernel
theorem dL_law_225 : decode cL_law 225 = .ok (.iaload, 1) := by decide +kernel
theorem dL_law_226 : decode cL_law 226 = .ok (.invokevirtual 13, 3) := by decide +kernel
theorem dL_law_229 : decode cL_law 229 = .ok (.aload_n 2, 1) := by decide +kernel
theorem dL_law_230 : decode cL_law 230 = .ok (.aload_n 0, 1) := by decide +kernel
theorem dL_law_231 : decode cL_law 231 = .ok (.iload_n 3, 1) := by decide +kernel
theorem dL_law_232 : decode cL_law 232 = .ok (.iconst 1, 1) := by decide +kernel
theorem dL_law_233 : decode cL_law 233 = .ok (.iadd, 1) := by decide +kernel
theorem dL_law_234 : decode cL_law 234 = .ok (.iaload, 1) := by decide +kernel
theorem dL_law_235 : decode cL_law 235 = .ok (.invokevirtual 17, 3) := by decide +kernel
theorem dL_law_238 : decode cL_law 238 = .ok (.if_icmp .eq 1389, 3) := by decide +kernel
theorem dL_law_241 : decode cL_law 241 = .ok (.iconst 0, 1) := by decide +kernel
theorem dL_law_242 : decode cL_law 242 = .ok (.ireturn, 1) := by decide +kernel
theorem dL_law_243 : decode cL_law 243 = .ok (.aload_n 1, 1) := by decide +kernel
theorem dL_law_244 : decode cL_law 244 = .ok (.aload_n 0, 1) := by decide +kernel
theorem dL_law_245 : decode cL_law 245 = .ok (.iload_n 3, 1) := by decide +kernel
theorem dL_law_246 : decode cL_law 246 = .ok (.iconst 1, 1) := by decide +kernel
theorem dL_law_247 : decode cL_law 247 = .ok (.iadd, 1) := by decide +kernel
theorem dL_law_248 : decode cL_law 248 = .ok (.iaload, 1) := by decide +kernel
theorem dL_law_249 : decode cL_law 249 = .ok (.invokevirtual 18, 3) := by decide +kernel
theorem dL_law_252 : decode cL_law 252 = .ok (.aload_n 2, 1) := by decide +kernel
theorem dL_law_253 : decode cL_law 253 = .ok (.aload_n 0, 1) := by decide +kernel
theorem dL_law_254 : decode cL_law 254 = .ok (.iload_n 3, 1) := by decide +kernel
theorem dL_law_255 : decode cL_law 255 = .ok (.iconst 1, 1) := by decide +kernel
theorem dL_law_256 : decode cL_law 256 = .ok (.iadd, 1) := by decide +kernel
theorem dL_law_257 : decode cL_law 257 = .ok (.iaload, 1) := by decide +kernel
theorem dL_law_258 : decode cL_law 258 = .ok (.invokevirtual 21, 3) := by decide +kernel
theorem dL_law_261 : decode cL_law 261 = .ok (.if_icmp .eq 1366, 3) := by decide +kernel
theorem dL_law_264 : decode cL_law 264 = .ok (.iconst 0, 1) := by decide +kernel
theorem dL_law_265 : decode cL_law 265 = .ok (.ireturn, 1) := by decide +kernel
theorem dL_law_266 : decode cL_law 266 = .ok (.aload_n 1, 1) := by decide +kernel
theorem dL_law_267 : decode cL_law 267 = .ok (.invokevirtual 22, 3) := by decide +kernel
theorem dL_law_270 : decode cL_law 270 = .ok (.aload_n 2, 1) := by decide +kernel
theorem dL_law_271 : decode cL_law 271 = .ok (.invokevirtual 26, 3) := by decide +kernel
theorem dL_law_274 : decode cL_law 274 = .ok (.if_icmp .eq 1353, 3) := by decide +kernel
theorem dL_law_277 : decode cL_law 277 = .ok (.iconst 0, 1) := by decide +kernel
theorem dL_law_278 : decode cL_law 278 = .ok (.ireturn, 1) := by decide +kernel
theorem dL_law_279 : decode cL_law 279 = .ok (.aload_n 1, 1) := by decide +kernel
theorem dL_law_280 : decode cL_law 280 = .ok (.invokevirtual 27, 3) := by decide +kernel
theorem dL_law_283 : decode cL_law 283 = .ok (.aload_n 2, 1) := by decide +kernel
theorem dL_law_284 : decode cL_law 284 = .ok (.invokevirtual 30, 3) := by decide +kernel
theorem dL_law_287 : decode cL_law 287 = .ok (.if_icmp .eq 1340, 3) := by decide +kernel
theorem dL_law_290 : decode cL_law 290 = .ok (.iconst 0, 1) := by decide +kernel
theorem dL_law_291 : decode cL_law 291 = .ok (.ireturn, 1) := by decide +kernel
theorem dL_law_292 : decode cL_law 292 = .ok (.aload_n 1, 1) := by decide +kernel
theorem dL_law_293 : decode cL_law 293 = .ok (.aload_n 0, 1) := by decide +kernel
theorem dL_law_294 : decode cL_law 294 = .ok (.iload_n 3, 1) := by decide +kernel
theorem dL_law_295 : decode cL_law 295 = .ok (.iconst 1, 1) := by decide +kernel
theorem dL_law_296 : decode cL_law 296 = .ok (.iadd, 1) := by decide +kernel
theorem dL_law_297 : decode cL_law 297 = .ok (.iaload, 1) := by decide +kernel
theorem dL_law_298 : decode cL_law 298 = .ok (.invokevirtual 31, 3) := by decide +kernel
theorem dL_law_301 : decode cL_law 301 = .ok (.aload_n 2, 1) := by decide +kernel
theorem dL_law_302 : decode cL_law 302 = .ok (.aload_n 0, 1) := by decide +kernel
theorem dL_law_303 : decode cL_law 303 = .ok (.iload_n 3, 1) := by decide +kernel
theorem dL_law_304 : decode cL_law 304 = .ok (.iconst 1, 1) := by decide +kernel
theorem dL_law_305 : decode cL_law 305 = .ok (.iadd, 1) := by decide +kernel
theorem dL_law_306 : decode cL_law 306 = .ok (.iaload, 1) := by decide +kernel
theorem dL_law_307 : decode cL_law 307 = .ok (.invokevirtual 34, 3) := by decide +kernel
theorem dL_law_310 : decode cL_law 310 = .ok (.if_icmp .eq 1317, 3) := by decide +kernel
theorem dL_law_313 : decode cL_law 313 = .ok (.iconst 0, 1) := by decide +kernel
theorem dL_law_314 : decode cL_law 314 = .ok (.ireturn, 1) := by decide +kernel
theorem dL_law_315 : decode cL_law 315 = .ok (.aload_n 1, 1) := by decide +kernel
theorem dL_law_316 : decode cL_law 316 = .ok (.aload_n 0, 1) := by decide +kernel
theorem dL_law_317 : decode cL_law 317 = .ok (.iload_n 3, 1) := by decide +kernel
theorem dL_law_318 : decode cL_law 318 = .ok (.iconst 1, 1) := by decide +kernel
theorem dL_law_319 : decode cL_law 319 = .ok (.iadd, 1) := by decide +kernel
theorem dL_law_320 : decode cL_law 320 = .ok (.iaload, 1) := by decide +kernel
theorem dL_law_321 : decode cL_law 321 = .ok (.aload_n 0, 1) := by decide +kernel
theorem dL_law_322 : decode cL_law 322 = .ok (.iload_n 3, 1) := by decide +kernel
theorem dL_law_323 : decode cL_law 323 = .ok (.iconst 2, 1) := by decide +kernel
theorem dL_law_324 : decode cL_law 324 = .ok (.iadd, 1) := by decide +kernel
theorem dL_law_325 : decode cL_law 325 = .ok (.iaload, 1) := by decide +kernel
theorem dL_law_326 : decode cL_law 326 = .ok (.invokevirtual 35, 3) := by decide +kernel
theorem dL_law_329 : decode cL_law 329 = .ok (.aload_n 2, 1) := by decide +kernel
theorem dL_law_330 : decode cL_law 330 = .ok (.aload_n 0, 1) := by decide +kernel
theorem dL_law_331 : decode cL_law 331 = .ok (.iload_n 3, 1) := by decide +kernel
theorem dL_law_332 : decode cL_law 332 = .ok (.iconst 1, 1) := by decide +kernel
theorem dL_law_333 : decode cL_law 333 = .ok (.iadd, 1) := by decide +kernel
theorem dL_law_334 : decode cL_law 334 = .ok (.iaload, 1) := by decide +kernel
theorem dL_law_335 : decode cL_law 335 = .ok (.aload_n 0, 1) := by decide +kernel
theorem dL_law_336 : decode cL_law 336 = .ok (.iload_n 3, 1) := by decide +kernel
theorem dL_law_337 : decode cL_law 337 = .ok (.iconst 2, 1) := by decide +kernel
theorem dL_law_338 : decode cL_law 338 = .ok (.iadd, 1) := by decide +kernel
theorem dL_law_339 : decode cL_law 339 = .ok (.iaload, 1) := by decide +kernel
theorem dL_law_340 : decode cL_law 340 = .ok (.invokevirtual 39, 3) := by decide +kernel
theorem dL_law_343 : decode cL_law 343 = .ok (.if_icmp .eq 1284, 3) := by decide +kernel
theorem dL_law_346 : decode cL_law 346 = .ok (.iconst 0, 1) := by decide +kernel
theorem dL_law_347 : decode cL_law 347 = .ok (.ireturn, 1) := by decide +kernel
theorem dL_law_348 : decode cL_law 348 = .ok (.aload_n 1, 1) := by decide +kernel
theorem dL_law_349 : decode cL_law 349 = .ok (.aload_n 0, 1) := by decide +kernel
theorem dL_law_350 : decode cL_law 350 = .ok (.iload_n 3, 1) := by decide +kernel
theorem dL_law_351 : decode cL_law 351 = .ok (.iconst 1, 1) := by decide +kernel
theorem dL_law_352 : decode cL_law 352 = .ok (.iadd, 1) := by decide +kernel
theorem dL_law_353 : decode cL_law 353 = .ok (.iaload, 1) := by decide +kernel
theorem dL_law_354 : decode cL_law 354 = .ok (.aload_n 0, 1) := by decide +kernel
theorem dL_law_355 : decode cL_law 355 = .ok (.iload_n 3, 1) := by decide +kernel
theorem dL_law_356 : decode cL_law 356 = .ok (.iconst 2, 1) := by decide +kernel
theorem dL_law_357 : decode cL_law 357 = .ok (.iadd, 1) := by decide +kernel
theorem dL_law_358 : decode cL_law 358 = .ok (.iaload, 1) := by decide +kernel
theorem dL_law_359 : decode cL_law 359 = .ok (.invokevirtual 40, 3) := by decide +kernel
theorem dL_law_362 : decode cL_law 362 = .ok (.aload_n 2, 1) := by decide +kernel
theorem dL_law_363 : decode cL_law 363 = .ok (.aload_n 0, 1) := by decide +kernel
theorem dL_law_364 : decode cL_law 364 = .ok (.iload_n 3, 1) := by decide +kernel
theorem dL_law_365 : decode cL_law 365 = .ok (.iconst 1, 1) := by decide +kernel
theorem dL_law_366 : decode cL_law 366 = .ok (.iadd, 1) := by decide +kernel
theorem dL_law_367 : decode cL_law 367 = .ok (.iaload, 1) := by decide +kernel
theorem dL_law_368 : decode cL_law 368 = .ok (.aload_n 0, 1) := by decide +kernel
theorem dL_law_369 : decode cL_law 369 = .ok (.iload_n 3, 1) := by decide +kernel
theorem dL_law_370 : decode cL_law 370 = .ok (.iconst 2, 1) := by decide +kernel
theorem dL_law_371 : decode cL_law 371 = .ok (.iadd, 1) := by decide +kernel
theorem dL_law_372 : decode cL_law 372 = .ok (.iaload, 1) := by decide +kernel
theorem dL_law_373 : decode cL_law 373 = .ok (.invokevirtual 43, 3) := by decide +kernel
theorem dL_law_376 : decode cL_law 376 = .ok (.if_icmp .eq 1251, 3) := by decide +kernel
theorem dL_law_379 : decode cL_law 379 = .ok (.iconst 0, 1) := by decide +kernel
theorem dL_law_380 : decode cL_law 380 = .ok (.ireturn, 1) := by decide +kernel
theorem dL_law_381 : decode cL_law 381 = .ok (.aload_n 1, 1) := by decide +kernel
theorem dL_law_382 : decode cL_law 382 = .ok (.aload_n 0, 1) := by decide +kernel
theorem dL_law_383 : decode cL_law 383 = .ok (.iload_n 3, 1) := by decide +kernel
theorem dL_law_384 : decode cL_law 384 = .ok (.iconst 1, 1) := by decide +kernel
theorem dL_law_385 : decode cL_law 385 = .ok (.iadd, 1) := by decide +kernel
theorem dL_law_386 : decode cL_law 386 = .ok (.iaload, 1) := by decide +kernel
theorem dL_law_387 : decode cL_law 387 = .ok (.aload_n 0, 1) := by decide +kernel
theorem dL_law_388 : decode cL_law 388 = .ok (.iload_n 3, 1) := by decide +kernel
theorem dL_law_389 : decode cL_law 389 = .ok (.iconst 2, 1) := by decide +kernel
theorem dL_law_390 : decode cL_law 390 = .ok (.iadd, 1) := by decide +kernel
theorem dL_law_391 : decode cL_law 391 = .ok (.iaload, 1) := by decide +kernel
theorem dL_law_392 : decode cL_law 392 = .ok (.invokevirtual 44, 3) := by decide +kernel
theorem dL_law_395 : decode cL_law 395 = .ok (.aload_n 2, 1) := by decide +kernel
theorem dL_law_396 : decode cL_law 396 = .ok (.aload_n 0, 1) := by decide +kernel
theorem dL_law_397 : decode cL_law 397 = .ok (.iload_n 3, 1) := by decide +kernel
theorem dL_law_398 : decode cL_law 398 = .ok (.iconst 1, 1) := by decide +kernel
theorem dL_law_399 : decode cL_law 399 = .ok (.iadd, 1) := by decide +kernel
theorem dL_law_400 : decode cL_law 400 = .ok (.iaload, 1) := by decide +kernel
theorem dL_law_401 : decode cL_law 401 = .ok (.aload_n 0, 1) := by decide +kernel
theorem dL_law_402 : decode cL_law 402 = .ok (.iload_n 3, 1) := by decide +kernel
theorem dL_law_403 : decode cL_law 403 = .ok (.iconst 2, 1) := by decide +kernel
theorem dL_law_404 : decode cL_law 404 = .ok (.iadd, 1) := by decide +kernel
theorem dL_law_405 : decode cL_law 405 = .ok (.iaload, 1) := by decide +kernel
theorem dL_law_406 : decode cL_law 406 = .ok (.invokevirtual 47, 3) := by decide +kernel
theorem dL_law_409 : decode cL_law 409 = .ok (.if_icmp .eq 1218, 3) := by decide +kernel
theorem dL_law_412 : decode cL_law 412 = .ok (.iconst 0, 1) := by decide +kernel
theorem dL_law_413 : decode cL_law 413 = .ok (.ireturn, 1) := by decide +kernel
theorem dL_law_414 : decode cL_law 414 = .ok (.aload_n 1, 1) := by decide +kernel
theorem dL_law_415 : decode cL_law 415 = .ok (.aload_n 0, 1) := by decide +kernel
theorem dL_law_416 : decode cL_law 416 = .ok (.iload_n 3, 1) := by decide +kernel
theorem dL_law_417 : decode cL_law 417 = .ok (.iconst 1, 1) := by decide +kernel
theorem dL_law_418 : decode cL_law 418 = .ok (.iadd, 1) := by decide +kernel
theorem dL_law_419 : decode cL_law 419 = .ok (.iaload, 1) := by decide +kernel
theorem dL_law_420 : decode cL_law 420 = .ok (.aload_n 0, 1) := by decide +kernel
theorem dL_law_421 : decode cL_law 421 = .ok (.iload_n 3, 1) := by decide +kernel
theorem dL_law_422 : decode cL_law 422 = .ok (.iconst 2, 1) := by decide +kernel
theorem dL_law_423 : decode cL_law 423 = .ok (.iadd, 1) := by decide +kernel
theorem dL_law_424 : decode cL_law 424 = .ok (.iaload, 1) := by decide +kernel
theorem dL_law_425 : decode cL_law 425 = .ok (.invokevirtual 48, 3) := by decide +kernel
theorem dL_law_428 : decode cL_law 428 = .ok (.aload_n 2, 1) := by decide +kernel
theorem dL_law_429 : decode cL_law 429 = .ok (.aload_n 0, 1) := by decide +kernel
theorem dL_law_430 : decode cL_law 430 = .ok (.iload_n 3, 1) := by decide +kernel
theorem dL_law_431 : decode cL_law 431 = .ok (.iconst 1, 1) := by decide +kernel
theorem dL_law_432 : decode cL_law 432 = .ok (.iadd, 1) := by decide +kernel
theorem dL_law_433 : decode cL_law 433 = .ok (.iaload, 1) := by decide +kernel
theorem dL_law_434 : decode cL_law 434 = .ok (.aload_n 0, 1) := by decide +kernel
theorem dL_law_435 : decode cL_law 435 = .ok (.iload_n 3, 1) := by decide +kernel
theorem dL_law_436 : decode cL_law 436 = .ok (.iconst 2, 1) := by decide +kernel
theorem dL_law_437 : decode cL_law 437 = .ok (.iadd, 1) := by decide +kernel
theorem dL_law_438 : decode cL_law 438 = .ok (.iaload, 1) := by decide +kernel
theorem dL_law_439 : decode cL_law 439 = .ok (.invokevirtual 51, 3) := by decide +kernel
theorem dL_law_442 : decode cL_law 442 = .ok (.if_icmp .eq 1185, 3) := by decide +kernel
theorem dL_law_445 : decode cL_law 445 = .ok (.iconst 0, 1) := by decide +kernel
theorem dL_law_446 : decode cL_law 446 = .ok (.ireturn, 1) := by decide +kernel
theorem dL_law_447 : decode cL_law 447 = .ok (.aload_n 1, 1) := by decide +kernel
theorem dL_law_448 : decode cL_law 448 = .ok (.aload_n 0, 1) := by decide +kernel
theorem dL_law_449 : decode cL_law 449 = .ok (.iload_n 3, 1) := by decide +kernel
theorem dL_law_450 : decode cL_law 450 = .ok (.iconst 1, 1) := by decide +kernel
theorem dL_law_451 : decode cL_law 451 = .ok (.iadd, 1) := by decide +kernel
theorem dL_law_452 : decode cL_law 452 = .ok (.iaload, 1) := by decide +kernel
theorem dL_law_453 : decode cL_law 453 = .ok (.aload_n 0, 1) := by decide +kernel
theorem dL_law_454 : decode cL_law 454 = .ok (.iload_n 3, 1) := by decide +kernel
theorem dL_law_455 : decode cL_law 455 = .ok (.iconst 2, 1) := by decide +kernel
theorem dL_law_456 : decode cL_law 456 = .ok (.iadd, 1) := by decide +kernel
theorem dL_law_457 : decode cL_law 457 = .ok (.iaload, 1) := by decide +kernel
theorem dL_law_458 : decode cL_law 458 = .ok (.aload_n 0, 1) := by decide +kernel
theorem dL_law_459 : decode cL_law 459 = .ok (.iload_n 3, 1) := by decide +kernel
theorem dL_law_460 : decode cL_law 460 = .ok (.iconst 3, 1) := by decide +kernel
theorem dL_law_461 : decode cL_law 461 = .ok (.iadd, 1) := by decide +kernel
theorem dL_law_462 : decode cL_law 462 = .ok (.iaload, 1) := by decide +kernel
theorem dL_law_463 : decode cL_law 463 = .ok (.invokevirtual 52, 3) := by decide +kernel
theorem dL_law_466 : decode cL_law 466 = .ok (.aload_n 2, 1) := by decide +kernel
theorem dL_law_467 : decode cL_law 467 = .ok (.aload_n 0, 1) := by decide +kernel
theorem dL_law_468 : decode cL_law 468 = .ok (.iload_n 3, 1) := by decide +kernel
theorem dL_law_469 : decode cL_law 469 = .ok (.iconst 1, 1) := by decide +kernel
theorem dL_law_470 : decode cL_law 470 = .ok (.iadd, 1) := by decide +kernel
theorem dL_law_471 : decode cL_law 471 = .ok (.iaload, 1) := by decide +kernel
theorem dL_law_472 : decode cL_law 472 = .ok (.aload_n 0, 1) := by decide +kernel
theorem dL_law_473 : decode cL_law 473 = .ok (.iload_n 3, 1) := by decide +kernel
theorem dL_law_474 : decode cL_law 474 = .ok (.iconst 2, 1) := by decide +kernel
theorem dL_law_475 : decode cL_law 475 = .ok (.iadd, 1) := by decide +kernel
theorem dL_law_476 : decode cL_law 476 = .ok (.iaload, 1) := by decide +kernel
theorem dL_law_477 : decode cL_law 477 = .ok (.aload_n 0, 1) := by decide +kernel
theorem dL_law_478 : decode cL_law 478 = .ok (.iload_n 3, 1) := by decide +kernel
theorem dL_law_479 : decode cL_law 479 = .ok (.iconst 3, 1) := by decide +kernel
theorem dL_law_480 : decode cL_law 480 = .ok (.iadd, 1) := by decide +kernel
theorem dL_law_481 : decode cL_law 481 = .ok (.iaload, 1) := by decide +kernel
theorem dL_law_482 : decode cL_law 482 = .ok (.invokevirtual 56, 3) := by decide +kernel
theorem dL_law_485 : decode cL_law 485 = .ok (.if_icmp .eq 1142, 3) := by decide +kernel
theorem dL_law_488 : decode cL_law 488 = .ok (.iconst 0, 1) := by decide +kernel
theorem dL_law_489 : decode cL_law 489 = .ok (.ireturn, 1) := by decide +kernel
theorem dL_law_490 : decode cL_law 490 = .ok (.aload_n 1, 1) := by decide +kernel
theorem dL_law_491 : decode cL_law 491 = .ok (.aload_n 0, 1) := by decide +kernel
theorem dL_law_492 : decode cL_law 492 = .ok (.iload_n 3, 1) := by decide +kernel
theorem dL_law_493 : decode cL_law 493 = .ok (.iconst 1, 1) := by decide +kernel
theorem dL_law_494 : decode cL_law 494 = .ok (.iadd, 1) := by decide +kernel
theorem dL_law_495 : decode cL_law 495 = .ok (.iaload, 1) := by decide +kernel
theorem dL_law_496 : decode cL_law 496 = .ok (.aload_n 0, 1) := by decide +kernel
theorem dL_law_497 : decode cL_law 497 = .ok (.iload_n 3, 1) := by decide +kernel
theorem dL_law_498 : decode cL_law 498 = .ok (.iconst 2, 1) := by decide +kernel
theorem dL_law_499 : decode cL_law 499 = .ok (.iadd, 1) := by decide +kernel
theorem dL_law_500 : decode cL_law 500 = .ok (.iaload, 1) := by decide +kernel
theorem dL_law_501 : decode cL_law 501 = .ok (.aload_n 0, 1) := by decide +kernel
theorem dL_law_502 : decode cL_law 502 = .ok (.iload_n 3, 1) := by decide +kernel
theorem dL_law_503 : decode cL_law 503 = .ok (.iconst 3, 1) := by decide +kernel
theorem dL_law_504 : decode cL_law 504 = .ok (.iadd, 1) := by decide +kernel
theorem dL_law_505 : decode cL_law 505 = .ok (.iaload, 1) := by decide +kernel
theorem dL_law_506 : decode cL_law 506 = .ok (.invokevirtual 57, 3) := by decide +kernel
theorem dL_law_509 : decode cL_law 509 = .ok (.aload_n 2, 1) := by decide +kernel
theorem dL_law_510 : decode cL_law 510 = .ok (.aload_n 0, 1) := by decide +kernel
theorem dL_law_511 : decode cL_law 511 = .ok (.iload_n 3, 1) := by decide +kernel
theorem dL_law_512 : decode cL_law 512 = .ok (.iconst 1, 1) := by decide +kernel
theorem dL_law_513 : decode cL_law 513 = .ok (.iadd, 1) := by decide +kernel
theorem dL_law_514 : decode cL_law 514 = .ok (.iaload, 1) := by decide +kernel
theorem dL_law_515 : decode cL_law 515 = .ok (.aload_n 0, 1) := by decide +kernel
theorem dL_law_516 : decode cL_law 516 = .ok (.iload_n 3, 1) := by decide +kernel
theorem dL_law_517 : decode cL_law 517 = .ok (.iconst 2, 1) := by decide +kernel
theorem dL_law_518 : decode cL_law 518 = .ok (.iadd, 1) := by decide +kernel
theorem dL_law_519 : decode cL_law 519 = .ok (.iaload, 1) := by decide +kernel
theorem dL_law_520 : decode cL_law 520 = .ok (.aload_n 0, 1) := by decide +kernel
theorem dL_law_521 : decode cL_law 521 = .ok (.iload_n 3, 1) := by decide +kernel
theorem dL_law_522 : decode cL_law 522 = .ok (.iconst 3, 1) := by decide +kernel
theorem dL_law_523 : decode cL_law 523 = .ok (.iadd, 1) := by decide +kernel
theorem dL_law_524 : decode cL_law 524 = .ok (.iaload, 1) := by decide +kernel
theorem dL_law_525 : decode cL_law 525 = .ok (.invokevirtual 60, 3) := by decide +kernel
theorem dL_law_528 : decode cL_law 528 = .ok (.if_icmp .eq 1099, 3) := by decide +kernel
theorem dL_law_531 : decode cL_law 531 = .ok (.iconst 0, 1) := by decide +kernel
theorem dL_law_532 : decode cL_law 532 = .ok (.ireturn, 1) := by decide +kernel
theorem dL_law_533 : decode cL_law 533 = .ok (.aload_n 1, 1) := by decide +kernel
theorem dL_law_534 : decode cL_law 534 = .ok (.aload_n 0, 1) := by decide +kernel
theorem dL_law_535 : decode cL_law 535 = .ok (.iload_n 3, 1) := by decide +kernel
theorem dL_law_536 : decode cL_law 536 = .ok (.iconst 1, 1) := by decide +kernel
theorem dL_law_537 : decode cL_law 537 = .ok (.iadd, 1) := by decide +kernel
theorem dL_law_538 : decode cL_law 538 = .ok (.iaload, 1) := by decide +kernel
theorem dL_law_539 : decode cL_law 539 = .ok (.aload_n 0, 1) := by decide +kernel
theorem dL_law_540 : decode cL_law 540 = .ok (.iload_n 3, 1) := by decide +kernel
theorem dL_law_541 : decode cL_law 541 = .ok (.iconst 2, 1) := by decide +kernel
theorem dL_law_542 : decode cL_law 542 = .ok (.iadd, 1) := by decide +kernel
theorem dL_law_543 : decode cL_law 543 = .ok (.iaload, 1) := by decide +kernel
theorem dL_law_544 : decode cL_law 544 = .ok (.invokevirtual 61, 3) := by decide +kernel
theorem dL_law_547 : decode cL_law 547 = .ok (.aload_n 2, 1) := by decide +kernel
theorem dL_law_548 : decode cL_law 548 = .ok (.aload_n 0, 1) := by decide +kernel
theorem dL_law_549 : decode cL_law 549 = .ok (.iload_n 3, 1) := by decide +kernel
theorem dL_law_550 : decode cL_law 550 = .ok (.iconst 1, 1) := by decide +kernel
theorem dL_law_551 : decode cL_law 551 = .ok (.iadd, 1) := by decide +kernel
theorem dL_law_552 : decode cL_law 552 = .ok (.iaload, 1) := by decide +kernel
theorem dL_law_553 : decode cL_law 553 = .ok (.aload_n 0, 1) := by decide +kernel
theorem dL_law_554 : decode cL_law 554 = .ok (.iload_n 3, 1) := by decide +kernel
theorem dL_law_555 : decode cL_law 555 = .ok (.iconst 2, 1) := by decide +kernel
theorem dL_law_556 : decode cL_law 556 = .ok (.iadd, 1) := by decide +kernel
theorem dL_law_557 : decode cL_law 557 = .ok (.iaload, 1) := by decide +kernel
theorem dL_law_558 : decode cL_law 558 = .ok (.invokevirtual 64, 3) := by decide +kernel
theorem dL_law_561 : decode cL_law 561 = .ok (.if_icmp .eq 1066, 3) := by decide +kernel
theorem dL_law_564 : decode cL_law 564 = .ok (.iconst 0, 1) := by decide +kernel
theorem dL_law_565 : decode cL_law 565 = .ok (.ireturn, 1) := by decide +kernel
theorem dL_law_566 : decode cL_law 566 = .ok (.aload_n 1, 1) := by decide +kernel
theorem dL_law_567 : decode cL_law 567 = .ok (.aload_n 0, 1) := by decide +kernel
theorem dL_law_568 : decode cL_law 568 = .ok (.iload_n 3, 1) := by decide +kernel
theorem dL_law_569 : decode cL_law 569 = .ok (.iconst 1, 1) := by decide +kernel
theorem dL_law_570 : decode cL_law 570 = .ok (.iadd, 1) := by decide +kernel
theorem dL_law_571 : decode cL_law 571 = .ok (.iaload, 1) := by decide +kernel
theorem dL_law_572 : decode cL_law 572 = .ok (.aload_n 0, 1) := by decide +kernel
theorem dL_law_573 : decode cL_law 573 = .ok (.iload_n 3, 1) := by decide +kernel
theorem dL_law_574 : decode cL_law 574 = .ok (.iconst 2, 1) := by decide +kernel
theorem dL_law_575 : decode cL_law 575 = .ok (.iadd, 1) := by decide +kernel
theorem dL_law_576 : decode cL_law 576 = .ok (.iaload, 1) := by decide +kernel
theorem dL_law_577 : decode cL_law 577 = .ok (.aload_n 0, 1) := by decide +kernel
theorem dL_law_578 : decode cL_law 578 = .ok (.iload_n 3, 1) := by decide +kernel
theorem dL_law_579 : decode cL_law 579 = .ok (.iconst 3, 1) := by decide +kernel
theorem dL_law_580 : decode cL_law 580 = .ok (.iadd, 1) := by decide +kernel
theorem dL_law_581 : decode cL_law 581 = .ok (.iaload, 1) := by decide +kernel
theorem dL_law_582 : decode cL_law 582 = .ok (.invokevirtual 65, 3) := by decide +kernel
theorem dL_law_585 : decode cL_law 585 = .ok (.aload_n 2, 1) := by decide +kernel
theorem dL_law_586 : decode cL_law 586 = .ok (.aload_n 0, 1) := by decide +kernel
theorem dL_law_587 : decode cL_law 587 = .ok (.iload_n 3, 1) := by decide +kernel
theorem dL_law_588 : decode cL_law 588 = .ok (.iconst 1, 1) := by decide +kernel
theorem dL_law_589 : decode cL_law 589 = .ok (.iadd, 1) := by decide +kernel
theorem dL_law_590 : decode cL_law 590 = .ok (.iaload, 1) := by decide +kernel
theorem dL_law_591 : decode cL_law 591 = .ok (.aload_n 0, 1) := by decide +kernel
theorem dL_law_592 : decode cL_law 592 = .ok (.iload_n 3, 1) := by decide +kernel
theorem dL_law_593 : decode cL_law 593 = .ok (.iconst 2, 1) := by decide +kernel
theorem dL_law_594 : decode cL_law 594 = .ok (.iadd, 1) := by decide +kernel
theorem dL_law_595 : decode cL_law 595 = .ok (.iaload, 1) := by decide +kernel
theorem dL_law_596 : decode cL_law 596 = .ok (.aload_n 0, 1) := by decide +kernel
theorem dL_law_597 : decode cL_law 597 = .ok (.iload_n 3, 1) := by decide +kernel
theorem dL_law_598 : decode cL_law 598 = .ok (.iconst 3, 1) := by decide +kernel
theorem dL_law_599 : decode cL_law 599 = .ok (.iadd, 1) := by decide +kernel
theorem dL_law_600 : decode cL_law 600 = .ok (.iaload, 1) := by decide +kernel
theorem dL_law_601 : decode cL_law 601 = .ok (.invokevirtual 68, 3) := by decide +kernel
theorem dL_law_604 : decode cL_law 604 = .ok (.if_icmp .eq 1023, 3) := by decide +kernel
theorem dL_law_607 : decode cL_law 607 = .ok (.iconst 0, 1) := by decide +kernel
theorem dL_law_608 : decode cL_law 608 = .ok (.ireturn, 1) := by decide +kernel
theorem dL_law_609 : decode cL_law 609 = .ok (.aload_n 1, 1) := by decide +kernel
theorem dL_law_610 : decode cL_law 610 = .ok (.aload_n 0, 1) := by decide +kernel
theorem dL_law_611 : decode cL_law 611 = .ok (.iload_n 3, 1) := by decide +kernel
theorem dL_law_612 : decode cL_law 612 = .ok (.iconst 1, 1) := by decide +kernel
theorem dL_law_613 : decode cL_law 613 = .ok (.iadd, 1) := by decide +kernel
theorem dL_law_614 : decode cL_law 614 = .ok (.iaload, 1) := by decide +kernel
theorem dL_law_615 : decode cL_law 615 = .ok (.aload_n 0, 1) := by decide +kernel
theorem dL_law_616 : decode cL_law 616 = .ok (.iload_n 3, 1) := by decide +kernel
theorem dL_law_617 : decode cL_law 617 = .ok (.iconst 2, 1) := by decide +kernel
theorem dL_law_618 : decode cL_law 618 = .ok (.iadd, 1) := by decide +kernel
theorem dL_law_619 : decode cL_law 619 = .ok (.iaload, 1) := by decide +kernel
theorem dL_law_620 : decode cL_law 620 = .ok (.invokevirtual 69, 3) := by decide +kernel
theorem dL_law_623 : decode cL_law 623 = .ok (.aload_n 2, 1) := by decide +kernel
theorem dL_law_624 : decode cL_law 624 = .ok (.aload_n 0, 1) := by decide +kernel
theorem dL_law_625 : decode cL_law 625 = .ok (.iload_n 3, 1) := by decide +kernel
theorem dL_law_626 : decode cL_law 626 = .ok (.iconst 1, 1) := by decide +kernel
theorem dL_law_627 : decode cL_law 627 = .ok (.iadd, 1) := by decide +kernel
theorem dL_law_628 : decode cL_law 628 = .ok (.iaload, 1) := by decide +kernel
theorem dL_law_629 : decode cL_law 629 = .ok (.aload_n 0, 1) := by decide +kernel
theorem dL_law_630 : decode cL_law 630 = .ok (.iload_n 3, 1) := by decide +kernel
theorem dL_law_631 : decode cL_law 631 = .ok (.iconst 2, 1) := by decide +kernel
theorem dL_law_632 : decode cL_law 632 = .ok (.iadd, 1) := by decide +kernel
theorem dL_law_633 : decode cL_law 633 = .ok (.iaload, 1) := by decide +kernel
theorem dL_law_634 : decode cL_law 634 = .ok (.invokevirtual 72, 3) := by decide +kernel
theorem dL_law_637 : decode cL_law 637 = .ok (.if_icmp .eq 990, 3) := by decide +kernel
theorem dL_law_640 : decode cL_law 640 = .ok (.iconst 0, 1) := by decide +kernel
theorem dL_law_641 : decode cL_law 641 = .ok (.ireturn, 1) := by decide +kernel
theorem dL_law_642 : decode cL_law 642 = .ok (.aload_n 1, 1) := by decide +kernel
theorem dL_law_643 : decode cL_law 643 = .ok (.aload_n 0, 1) := by decide +kernel
theorem dL_law_644 : decode cL_law 644 = .ok (.iload_n 3, 1) := by decide +kernel
theorem dL_law_645 : decode cL_law 645 = .ok (.iconst 1, 1) := by decide +kernel
theorem dL_law_646 : decode cL_law 646 = .ok (.iadd, 1) := by decide +kernel
theorem dL_law_647 : decode cL_law 647 = .ok (.iaload, 1) := by decide +kernel
theorem dL_law_648 : decode cL_law 648 = .ok (.aload_n 0, 1) := by decide +kernel
theorem dL_law_649 : decode cL_law 649 = .ok (.iload_n 3, 1) := by decide +kernel
theorem dL_law_650 : decode cL_law 650 = .ok (.iconst 2, 1) := by decide +kernel
theorem dL_law_651 : decode cL_law 651 = .ok (.iadd, 1) := by decide +kernel
theorem dL_law_652 : decode cL_law 652 = .ok (.iaload, 1) := by decide +kernel
theorem dL_law_653 : decode cL_law 653 = .ok (.invokevirtual 73, 3) := by decide +kernel
theorem dL_law_656 : decode cL_law 656 = .ok (.aload_n 2, 1) := by decide +kernel
theorem dL_law_657 : decode cL_law 657 = .ok (.aload_n 0, 1) := by decide +kernel
theorem dL_law_658 : decode cL_law 658 = .ok (.iload_n 3, 1) := by decide +kernel
theorem dL_law_659 : decode cL_law 659 = .ok (.iconst 1, 1) := by decide +kernel
theorem dL_law_660 : decode cL_law 660 = .ok (.iadd, 1) := by decide +kernel
theorem dL_law_661 : decode cL_law 661 = .ok (.iaload, 1) := by decide +kernel
theorem dL_law_662 : decode cL_law 662 = .ok (.aload_n 0, 1) := by decide +kernel
theorem dL_law_663 : decode cL_law 663 = .ok (.iload_n 3, 1) := by decide +kernel
theorem dL_law_664 : decode cL_law 664 = .ok (.iconst 2, 1) := by decide +kernel
theorem dL_law_665 : decode cL_law 665 = .ok (.iadd, 1) := by decide +kernel
theorem dL_law_666 : decode cL_law 666 = .ok (.iaload, 1) := by decide +kernel
theorem dL_law_667 : decode cL_law 667 = .ok (.invokevirtual 76, 3) := by decide +kernel
theorem dL_law_670 : decode cL_law 670 = .ok (.if_icmp .eq 957, 3) := by decide +kernel
theorem dL_law_673 : decode cL_law 673 = .ok (.iconst 0, 1) := by decide +kernel
theorem dL_law_674 : decode cL_law 674 = .ok (.ireturn, 1) := by decide +kernel
theorem dL_law_675 : decode cL_law 675 = .ok (.aload_n 1, 1) := by decide +kernel
theorem dL_law_676 : decode cL_law 676 = .ok (.aload_n 0, 1) := by decide +kernel
theorem dL_law_677 : decode cL_law 677 = .ok (.iload_n 3, 1) := by decide +kernel
theorem dL_law_678 : decode cL_law 678 = .ok (.iconst 1, 1) := by decide +kernel
theorem dL_law_679 : decode cL_law 679 = .ok (.iadd, 1) := by decide +kernel
theorem dL_law_680 : decode cL_law 680 = .ok (.iaload, 1) := by decide +kernel
theorem dL_law_681 : decode cL_law 681 = .ok (.aload_n 0, 1) := by decide +kernel
theorem dL_law_682 : decode cL_law 682 = .ok (.iload_n 3, 1) := by decide +kernel
theorem dL_law_683 : decode cL_law 683 = .ok (.iconst 2, 1) := by decide +kernel
theorem dL_law_684 : decode cL_law 684 = .ok (.iadd, 1) := by decide +kernel
theorem dL_law_685 : decode cL_law 685 = .ok (.iaload, 1) := by decide +kernel
theorem dL_law_686 : decode cL_law 686 = .ok (.invokevirtual 77, 3) := by decide +kernel
theorem dL_law_689 : decode cL_law 689 = .ok (.aload_n 2, 1) := by decide +kernel
theorem dL_law_690 : decode cL_law 690 = .ok (.aload_n 0, 1) := by decide +kernel
theorem dL_law_691 : decode cL_law 691 = .ok (.iload_n 3, 1) := by decide +kernel
theorem dL_law_692 : decode cL_law 692 = .ok (.iconst 1, 1) := by decide +kernel
theorem dL_law_693 : decode cL_law 693 = .ok (.iadd, 1) := by decide +kernel
theorem dL_law_694 : decode cL_law 694 = .ok (.iaload, 1) := by decide +kernel
theorem dL_law_695 : decode cL_law 695 = .ok (.aload_n 0, 1) := by decide +kernel
theorem dL_law_696 : decode cL_law 696 = .ok (.iload_n 3, 1) := by decide +kernel
theorem dL_law_697 : decode cL_law 697 = .ok (.iconst 2, 1) := by decide +kernel
theorem dL_law_698 : decode cL_law 698 = .ok (.iadd, 1) := by decide +kernel
theorem dL_law_699 : decode cL_law 699 = .ok (.iaload, 1) := by decide +kernel
theorem dL_law_700 : decode cL_law 700 = .ok (.invokevirtual 80, 3) := by decide +kernel
theorem dL_law_703 : decode cL_law 703 = .ok (.if_icmp .eq 924, 3) := by decide +kernel
theorem dL_law_706 : decode cL_law 706 = .ok (.iconst 0, 1) := by decide +kernel
theorem dL_law_707 : decode cL_law 707 = .ok (.ireturn, 1) := by decide +kernel
theorem dL_law_708 : decode cL_law 708 = .ok (.aload_n 1, 1) := by decide +kernel
theorem dL_law_709 : decode cL_law 709 = .ok (.aload_n 0, 1) := by decide +kernel
theorem dL_law_710 : decode cL_law 710 = .ok (.iload_n 3, 1) := by decide +kernel
theorem dL_law_711 : decode cL_law 711 = .ok (.iconst 1, 1) := by decide +kernel
theorem dL_law_712 : decode cL_law 712 = .ok (.iadd, 1) := by decide +kernel
theorem dL_law_713 : decode cL_law 713 = .ok (.iaload, 1) := by decide +kernel
theorem dL_law_714 : decode cL_law 714 = .ok (.aload_n 0, 1) := by decide +kernel
theorem dL_law_715 : decode cL_law 715 = .ok (.iload_n 3, 1) := by decide +kernel
theorem dL_law_716 : decode cL_law 716 = .ok (.iconst 2, 1) := by decide +kernel
theorem dL_law_717 : decode cL_law 717 = .ok (.iadd, 1) := by decide +kernel
theorem dL_law_718 : decode cL_law 718 = .ok (.iaload, 1) := by decide +kernel
theorem dL_law_719 : decode cL_law 719 = .ok (.aload_n 0, 1) := by decide +kernel
theorem dL_law_720 : decode cL_law 720 = .ok (.iload_n 3, 1) := by decide +kernel
theorem dL_law_721 : decode cL_law 721 = .ok (.iconst 3, 1) := by decide +kernel
theorem dL_law_722 : decode cL_law 722 = .ok (.iadd, 1) := by decide +kernel
theorem dL_law_723 : decode cL_law 723 = .ok (.iaload, 1) := by decide +kernel
theorem dL_law_724 : decode cL_law 724 = .ok (.invokevirtual 81, 3) := by decide +kernel
theorem dL_law_727 : decode cL_law 727 = .ok (.aload_n 2, 1) := by decide +kernel
theorem dL_law_728 : decode cL_law 728 = .ok (.aload_n 0, 1) := by decide +kernel
theorem dL_law_729 : decode cL_law 729 = .ok (.iload_n 3, 1) := by decide +kernel
theorem dL_law_730 : decode cL_law 730 = .ok (.iconst 1, 1) := by decide +kernel
theorem dL_law_731 : decode cL_law 731 = .ok (.iadd, 1) := by decide +kernel
theorem dL_law_732 : decode cL_law 732 = .ok (.iaload, 1) := by decide +kernel
theorem dL_law_733 : decode cL_law 733 = .ok (.aload_n 0, 1) := by decide +kernel
theorem dL_law_734 : decode cL_law 734 = .ok (.iload_n 3, 1) := by decide +kernel
theorem dL_law_735 : decode cL_law 735 = .ok (.iconst 2, 1) := by decide +kernel
theorem dL_law_736 : decode cL_law 736 = .ok (.iadd, 1) := by decide +kernel
theorem dL_law_737 : decode cL_law 737 = .ok (.iaload, 1) := by decide +kernel
theorem dL_law_738 : decode cL_law 738 = .ok (.aload_n 0, 1) := by decide +kernel
theorem dL_law_739 : decode cL_law 739 = .ok (.iload_n 3, 1) := by decide +kernel
theorem dL_law_740 : decode cL_law 740 = .ok (.iconst 3, 1) := by decide +kernel
theorem dL_law_741 : decode cL_law 741 = .ok (.iadd, 1) := by decide +kernel
theorem dL_law_742 : decode cL_law 742 = .ok (.iaload, 1) := by decide +kernel
theorem dL_law_743 : decode cL_law 743 = .ok (.invokevirtual 84, 3) := by decide +kernel
theorem dL_law_746 : decode cL_law 746 = .ok (.if_icmp .eq 881, 3) := by decide +kernel
theorem dL_law_749 : decode cL_law 749 = .ok (.iconst 0, 1) := by decide +kernel
theorem dL_law_750 : decode cL_law 750 = .ok (.ireturn, 1) := by decide +kernel
theorem dL_law_751 : decode cL_law 751 = .ok (.aload_n 1, 1) := by decide +kernel
theorem dL_law_752 : decode cL_law 752 = .ok (.aload_n 0, 1) := by decide +kernel
theorem dL_law_753 : decode cL_law 753 = .ok (.iload_n 3, 1) := by decide +kernel
theorem dL_law_754 : decode cL_law 754 = .ok (.iconst 1, 1) := by decide +kernel
theorem dL_law_755 : decode cL_law 755 = .ok (.iadd, 1) := by decide +kernel
theorem dL_law_756 : decode cL_law 756 = .ok (.iaload, 1) := by decide +kernel
theorem dL_law_757 : decode cL_law 757 = .ok (.aload_n 0, 1) := by decide +kernel
theorem dL_law_758 : decode cL_law 758 = .ok (.iload_n 3, 1) := by decide +kernel
theorem dL_law_759 : decode cL_law 759 = .ok (.iconst 2, 1) := by decide +kernel
theorem dL_law_760 : decode cL_law 760 = .ok (.iadd, 1) := by decide +kernel
theorem dL_law_761 : decode cL_law 761 = .ok (.iaload, 1) := by decide +kernel
theorem dL_law_762 : decode cL_law 762 = .ok (.aload_n 0, 1) := by decide +kernel
theorem dL_law_763 : decode cL_law 763 = .ok (.iload_n 3, 1) := by decide +kernel
theorem dL_law_764 : decode cL_law 764 = .ok (.iconst 3, 1) := by decide +kernel
theorem dL_law_765 : decode cL_law 765 = .ok (.iadd, 1) := by decide +kernel
theorem dL_law_766 : decode cL_law 766 = .ok (.iaload, 1) := by decide +kernel
theorem dL_law_767 : decode cL_law 767 = .ok (.invokevirtual 85, 3) := by decide +kernel
theorem dL_law_770 : decode cL_law 770 = .ok (.aload_n 2, 1) := by decide +kernel
theorem dL_law_771 : decode cL_law 771 = .ok (.aload_n 0, 1) := by decide +kernel
theorem dL_law_772 : decode cL_law 772 = .ok (.iload_n 3, 1) := by decide +kernel
theorem dL_law_773 : decode cL_law 773 = .ok (.iconst 1, 1) := by decide +kernel
theorem dL_law_774 : decode cL_law 774 = .ok (.iadd, 1) := by decide +kernel
theorem dL_law_775 : decode cL_law 775 = .ok (.iaload, 1) := by decide +kernel
theorem dL_law_776 : decode cL_law 776 = .ok (.aload_n 0, 1) := by decide +kernel
theorem dL_law_777 : decode cL_law 777 = .ok (.iload_n 3, 1) := by decide +kernel
theorem dL_law_778 : decode cL_law 778 = .ok (.iconst 2, 1) := by decide +kernel
theorem dL_law_779 : decode cL_law 779 = .ok (.iadd, 1) := by decide +kernel
theorem dL_law_780 : decode cL_law 780 = .ok (.iaload, 1) := by decide +kernel
theorem dL_law_781 : decode cL_law 781 = .ok (.aload_n 0, 1) := by decide +kernel
theorem dL_law_782 : decode cL_law 782 = .ok (.iload_n 3, 1) := by decide +kernel
theorem dL_law_783 : decode cL_law 783 = .ok (.iconst 3, 1) := by decide +kernel
theorem dL_law_784 : decode cL_law 784 = .ok (.iadd, 1) := by decide +kernel
theorem dL_law_785 : decode cL_law 785 = .ok (.iaload, 1) := by decide +kernel
theorem dL_law_786 : decode cL_law 786 = .ok (.invokevirtual 88, 3) := by decide +kernel
theorem dL_law_789 : decode cL_law 789 = .ok (.if_icmp .eq 838, 3) := by decide +kernel
theorem dL_law_792 : decode cL_law 792 = .ok (.iconst 0, 1) := by decide +kernel
theorem dL_law_793 : decode cL_law 793 = .ok (.ireturn, 1) := by decide +kernel
theorem dL_law_794 : decode cL_law 794 = .ok (.aload_n 1, 1) := by decide +kernel
theorem dL_law_795 : decode cL_law 795 = .ok (.aload_n 0, 1) := by decide +kernel
theorem dL_law_796 : decode cL_law 796 = .ok (.iload_n 3, 1) := by decide +kernel
theorem dL_law_797 : decode cL_law 797 = .ok (.iconst 1, 1) := by decide +kernel
theorem dL_law_798 : decode cL_law 798 = .ok (.iadd, 1) := by decide +kernel
theorem dL_law_799 : decode cL_law 799 = .ok (.iaload, 1) := by decide +kernel
theorem dL_law_800 : decode cL_law 800 = .ok (.aload_n 0, 1) := by decide +kernel
theorem dL_law_801 : decode cL_law 801 = .ok (.iload_n 3, 1) := by decide +kernel
theorem dL_law_802 : decode cL_law 802 = .ok (.iconst 2, 1) := by decide +kernel
theorem dL_law_803 : decode cL_law 803 = .ok (.iadd, 1) := by decide +kernel
theorem dL_law_804 : decode cL_law 804 = .ok (.iaload, 1) := by decide +kernel
theorem dL_law_805 : decode cL_law 805 = .ok (.invokevirtual 89, 3) := by decide +kernel
theorem dL_law_808 : decode cL_law 808 = .ok (.aload_n 2, 1) := by decide +kernel
theorem dL_law_809 : decode cL_law 809 = .ok (.aload_n 0, 1) := by decide +kernel
theorem dL_law_810 : decode cL_law 810 = .ok (.iload_n 3, 1) := by decide +kernel
theorem dL_law_811 : decode cL_law 811 = .ok (.iconst 1, 1) := by decide +kernel
theorem dL_law_812 : decode cL_law 812 = .ok (.iadd, 1) := by decide +kernel
theorem dL_law_813 : decode cL_law 813 = .ok (.iaload, 1) := by decide +kernel
theorem dL_law_814 : decode cL_law 814 = .ok (.aload_n 0, 1) := by decide +kernel
theorem dL_law_815 : decode cL_law 815 = .ok (.iload_n 3, 1) := by decide +kernel
theorem dL_law_816 : decode cL_law 816 = .ok (.iconst 2, 1) := by decide +kernel
theorem dL_law_817 : decode cL_law 817 = .ok (.iadd, 1) := by decide +kernel
theorem dL_law_818 : decode cL_law 818 = .ok (.iaload, 1) := by decide +kernel
theorem dL_law_819 : decode cL_law 819 = .ok (.invokevirtual 92, 3) := by decide +kernel
theorem dL_law_822 : decode cL_law 822 = .ok (.if_icmp .eq 805, 3) := by decide +kernel
theorem dL_law_825 : decode cL_law 825 = .ok (.iconst 0, 1) := by decide +kernel
theorem dL_law_826 : decode cL_law 826 = .ok (.ireturn, 1) := by decide +kernel
theorem dL_law_827 : decode cL_law 827 = .ok (.aload_n 1, 1) := by decide +kernel
theorem dL_law_828 : decode cL_law 828 = .ok (.aload_n 0, 1) := by decide +kernel
theorem dL_law_829 : decode cL_law 829 = .ok (.iload_n 3, 1) := by decide +kernel
theorem dL_law_830 : decode cL_law 830 = .ok (.iconst 1, 1) := by decide +kernel
theorem dL_law_831 : decode cL_law 831 = .ok (.iadd, 1) := by decide +kernel
theorem dL_law_832 : decode cL_law 832 = .ok (.iaload, 1) := by decide +kernel
theorem dL_law_833 : decode cL_law 833 = .ok (.invokevirtual 93, 3) := by decide +kernel
theorem dL_law_836 : decode cL_law 836 = .ok (.aload_n 2, 1) := by decide +kernel
theorem dL_law_837 : decode cL_law 837 = .ok (.aload_n 0, 1) := by decide +kernel
theorem dL_law_838 : decode cL_law 838 = .ok (.iload_n 3, 1) := by decide +kernel
theorem dL_law_839 : decode cL_law 839 = .ok (.iconst 1, 1) := by decide +kernel
theorem dL_law_840 : decode cL_law 840 = .ok (.iadd, 1) := by decide +kernel
theorem dL_law_841 : decode cL_law 841 = .ok (.iaload, 1) := by decide +kernel
theorem dL_law_842 : decode cL_law 842 = .ok (.invokevirtual 96, 3) := by decide +kernel
theorem dL_law_845 : decode cL_law 845 = .ok (.if_icmp .eq 782, 3) := by decide +kernel
theorem dL_law_848 : decode cL_law 848 = .ok (.iconst 0, 1) := by decide +kernel
theorem dL_law_849 : decode cL_law 849 = .ok (.ireturn, 1) := by decide +kernel
theorem dL_law_850 : decode cL_law 850 = .ok (.aload_n 1, 1) := by decide +kernel
theorem dL_law_851 : decode cL_law 851 = .ok (.aload_n 0, 1) := by decide +kernel
theorem dL_law_852 : decode cL_law 852 = .ok (.iload_n 3, 1) := by decide +kernel
theorem dL_law_853 : decode cL_law 853 = .ok (.iconst 1, 1) := by decide +kernel
theorem dL_law_854 : decode cL_law 854 = .ok (.iadd, 1) := by decide +kernel
theorem dL_law_855 : decode cL_law 855 = .ok (.iaload, 1) := by decide +kernel
theorem dL_law_856 : decode cL_law 856 = .ok (.aload_n 0, 1) := by decide +kernel
theorem dL_law_857 : decode cL_law 857 = .ok (.iload_n 3, 1) := by decide +kernel
theorem dL_law_858 : decode cL_law 858 = .ok (.iconst 2, 1) := by decide +kernel
theorem dL_law_859 : decode cL_law 859 = .ok (.iadd, 1) := by decide +kernel
theorem dL_law_860 : decode cL_law 860 = .ok (.iaload, 1) := by decide +kernel
theorem dL_law_861 : decode cL_law 861 = .ok (.invokevirtual 97, 3) := by decide +kernel
theorem dL_law_864 : decode cL_law 864 = .ok (.aload_n 2, 1) := by decide +kernel
theorem dL_law_865 : decode cL_law 865 = .ok (.aload_n 0, 1) := by decide +kernel
theorem dL_law_866 : decode cL_law 866 = .ok (.iload_n 3, 1) := by decide +kernel
theorem dL_law_867 : decode cL_law 867 = .ok (.iconst 1, 1) := by decide +kernel
theorem dL_law_868 : decode cL_law 868 = .ok (.iadd, 1) := by decide +kernel
theorem dL_law_869 : decode cL_law 869 = .ok (.iaload, 1) := by decide +kernel
theorem dL_law_870 : decode cL_law 870 = .ok (.aload_n 0, 1) := by decide +kernel
theorem dL_law_871 : decode cL_law 871 = .ok (.iload_n 3, 1) := by decide +kernel
theorem dL_law_872 : decode cL_law 872 = .ok (.iconst 2, 1) := by decide +kernel
theorem dL_law_873 : decode cL_law 873 = .ok (.iadd, 1) := by decide +kernel
theorem dL_law_874 : decode cL_law 874 = .ok (.iaload, 1) := by decide +kernel
theorem dL_law_875 : decode cL_law 875 = .ok (.invokevirtual 100, 3) := by decide +kernel
theorem dL_law_878 : decode cL_law 878 = .ok (.if_icmp .eq 749, 3) := by decide +kernel
theorem dL_law_881 : decode cL_law 881 = .ok (.iconst 0, 1) := by decide +kernel
theorem dL_law_882 : decode cL_law 882 = .ok (.ireturn, 1) := by decide +kernel
theorem dL_law_883 : decode cL_law 883 = .ok (.aload_n 1, 1) := by decide +kernel
theorem dL_law_884 : decode cL_law 884 = .ok (.aload_n 0, 1) := by decide +kernel
theorem dL_law_885 : decode cL_law 885 = .ok (.iload_n 3, 1) := by decide +kernel
theorem dL_law_886 : decode cL_law 886 = .ok (.iconst 1, 1) := by decide +kernel
theorem dL_law_887 : decode cL_law 887 = .ok (.iadd, 1) := by decide +kernel
theorem dL_law_888 : decode cL_law 888 = .ok (.iaload, 1) := by decide +kernel
theorem dL_law_889 : decode cL_law 889 = .ok (.aload_n 0, 1) := by decide +kernel
theorem dL_law_890 : decode cL_law 890 = .ok (.iload_n 3, 1) := by decide +kernel
theorem dL_law_891 : decode cL_law 891 = .ok (.iconst 2, 1) := by decide +kernel
theorem dL_law_892 : decode cL_law 892 = .ok (.iadd, 1) := by decide +kernel
theorem dL_law_893 : decode cL_law 893 = .ok (.iaload, 1) := by decide +kernel
theorem dL_law_894 : decode cL_law 894 = .ok (.invokevirtual 101, 3) := by decide +kernel
theorem dL_law_897 : decode cL_law 897 = .ok (.aload_n 2, 1) := by decide +kernel
theorem dL_law_898 : decode cL_law 898 = .ok (.aload_n 0, 1) := by decide +kernel
theorem dL_law_899 : decode cL_law 899 = .ok (.iload_n 3, 1) := by decide +kernel
theorem dL_law_900 : decode cL_law 900 = .ok (.iconst 1, 1) := by decide +kernel
theorem dL_law_901 : decode cL_law 901 = .ok (.iadd, 1) := by decide +kernel
theorem dL_law_902 : decode cL_law 902 = .ok (.iaload, 1) := by decide +kernel
theorem dL_law_903 : decode cL_law 903 = .ok (.aload_n 0, 1) := by decide +kernel
theorem dL_law_904 : decode cL_law 904 = .ok (.iload_n 3, 1) := by decide +kernel
theorem dL_law_905 : decode cL_law 905 = .ok (.iconst 2, 1) := by decide +kernel
theorem dL_law_906 : decode cL_law 906 = .ok (.iadd, 1) := by decide +kernel
theorem dL_law_907 : decode cL_law 907 = .ok (.iaload, 1) := by decide +kernel
theorem dL_law_908 : decode cL_law 908 = .ok (.invokevirtual 104, 3) := by decide +kernel
theorem dL_law_911 : decode cL_law 911 = .ok (.if_icmp .eq 716, 3) := by decide +kernel
theorem dL_law_914 : decode cL_law 914 = .ok (.iconst 0, 1) := by decide +kernel
theorem dL_law_915 : decode cL_law 915 = .ok (.ireturn, 1) := by decide +kernel
theorem dL_law_916 : decode cL_law 916 = .ok (.aload_n 1, 1) := by decide +kernel
theorem dL_law_917 : decode cL_law 917 = .ok (.aload_n 0, 1) := by decide +kernel
theorem dL_law_918 : decode cL_law 918 = .ok (.iload_n 3, 1) := by decide +kernel
theorem dL_law_919 : decode cL_law 919 = .ok (.iconst 1, 1) := by decide +kernel
theorem dL_law_920 : decode cL_law 920 = .ok (.iadd, 1) := by decide +kernel
theorem dL_law_921 : decode cL_law 921 = .ok (.iaload, 1) := by decide +kernel
theorem dL_law_922 : decode cL_law 922 = .ok (.aload_n 0, 1) := by decide +kernel
theorem dL_law_923 : decode cL_law 923 = .ok (.iload_n 3, 1) := by decide +kernel
theorem dL_law_924 : decode cL_law 924 = .ok (.iconst 2, 1) := by decide +kernel
theorem dL_law_925 : decode cL_law 925 = .ok (.iadd, 1) := by decide +kernel
theorem dL_law_926 : decode cL_law 926 = .ok (.iaload, 1) := by decide +kernel
theorem dL_law_927 : decode cL_law 927 = .ok (.invokevirtual 105, 3) := by decide +kernel
theorem dL_law_930 : decode cL_law 930 = .ok (.aload_n 2, 1) := by decide +kernel
theorem dL_law_931 : decode cL_law 931 = .ok (.aload_n 0, 1) := by decide +kernel
theorem dL_law_932 : decode cL_law 932 = .ok (.iload_n 3, 1) := by decide +kernel
theorem dL_law_933 : decode cL_law 933 = .ok (.iconst 1, 1) := by decide +kernel
theorem dL_law_934 : decode cL_law 934 = .ok (.iadd, 1) := by decide +kernel
theorem dL_law_935 : decode cL_law 935 = .ok (.iaload, 1) := by decide +kernel
theorem dL_law_936 : decode cL_law 936 = .ok (.aload_n 0, 1) := by decide +kernel
theorem dL_law_937 : decode cL_law 937 = .ok (.iload_n 3, 1) := by decide +kernel
theorem dL_law_938 : decode cL_law 938 = .ok (.iconst 2, 1) := by decide +kernel
theorem dL_law_939 : decode cL_law 939 = .ok (.iadd, 1) := by decide +kernel
theorem dL_law_940 : decode cL_law 940 = .ok (.iaload, 1) := by decide +kernel
theorem dL_law_941 : decode cL_law 941 = .ok (.invokevirtual 108, 3) := by decide +kernel
theorem dL_law_944 : decode cL_law 944 = .ok (.if_icmp .eq 683, 3) := by decide +kernel
theorem dL_law_947 : decode cL_law 947 = .ok (.iconst 0, 1) := by decide +kernel
theorem dL_law_948 : decode cL_law 948 = .ok (.ireturn, 1) := by decide +kernel
theorem dL_law_949 : decode cL_law 949 = .ok (.aload_n 1, 1) := by decide +kernel
theorem dL_law_950 : decode cL_law 950 = .ok (.aload_n 0, 1) := by decide +kernel
theorem dL_law_951 : decode cL_law 951 = .ok (.iload_n 3, 1) := by decide +kernel
theorem dL_law_952 : decode cL_law 952 = .ok (.iconst 1, 1) := by decide +kernel
theorem dL_law_953 : decode cL_law 953 = .ok (.iadd, 1) := by decide +kernel
theorem dL_law_954 : decode cL_law 954 = .ok (.iaload, 1) := by decide +kernel
theorem dL_law_955 : decode cL_law 955 = .ok (.aload_n 0, 1) := by decide +kernel
theorem dL_law_956 : decode cL_law 956 = .ok (.iload_n 3, 1) := by decide +kernel
theorem dL_law_957 : decode cL_law 957 = .ok (.iconst 2, 1) := by decide +kernel
theorem dL_law_958 : decode cL_law 958 = .ok (.iadd, 1) := by decide +kernel
theorem dL_law_959 : decode cL_law 959 = .ok (.iaload, 1) := by decide +kernel
theorem dL_law_960 : decode cL_law 960 = .ok (.invokevirtual 109, 3) := by decide +kernel
theorem dL_law_963 : decode cL_law 963 = .ok (.aload_n 2, 1) := by decide +kernel
theorem dL_law_964 : decode cL_law 964 = .ok (.aload_n 0, 1) := by decide +kernel
theorem dL_law_965 : decode cL_law 965 = .ok (.iload_n 3, 1) := by decide +kernel
theorem dL_law_966 : decode cL_law 966 = .ok (.iconst 1, 1) := by decide +kernel
theorem dL_law_967 : decode cL_law 967 = .ok (.iadd, 1) := by decide +kernel
theorem dL_law_968 : decode cL_law 968 = .ok (.iaload, 1) := by decide +kernel
theorem dL_law_969 : decode cL_law 969 = .ok (.aload_n 0, 1) := by decide +kernel
theorem dL_law_970 : decode cL_law 970 = .ok (.iload_n 3, 1) := by decide +kernel
theorem dL_law_971 : decode cL_law 971 = .ok (.iconst 2, 1) := by decide +kernel
theorem dL_law_972 : decode cL_law 972 = .ok (.iadd, 1) := by decide +kernel
theorem dL_law_973 : decode cL_law 973 = .ok (.iaload, 1) := by decide +kernel
theorem dL_law_974 : decode cL_law 974 = .ok (.invokevirtual 112, 3) := by decide +kernel
theorem dL_law_977 : decode cL_law 977 = .ok (.if_icmp .eq 650, 3) := by decide +kernel
theorem dL_law_980 : decode cL_law 980 = .ok (.iconst 0, 1) := by decide +kernel
theorem dL_law_981 : decode cL_law 981 = .ok (.ireturn, 1) := by decide +kernel
theorem dL_law_982 : decode cL_law 982 = .ok (.aload_n 1, 1) := by decide +kernel
theorem dL_law_983 : decode cL_law 983 = .ok (.aload_n 0, 1) := by decide +kernel
theorem dL_law_984 : decode cL_law 984 = .ok (.iload_n 3, 1) := by decide +kernel
theorem dL_law_985 : decode cL_law 985 = .ok (.iconst 1, 1) := by decide +kernel
theorem dL_law_986 : decode cL_law 986 = .ok (.iadd, 1) := by decide +kernel
theorem dL_law_987 : decode cL_law 987 = .ok (.iaload, 1) := by decide +kernel
theorem dL_law_988 : decode cL_law 988 = .ok (.aload_n 0, 1) := by decide +kernel
theorem dL_law_989 : decode cL_law 989 = .ok (.iload_n 3, 1) := by decide +kernel
theorem dL_law_990 : decode cL_law 990 = .ok (.iconst 2, 1) := by decide +kernel
theorem dL_law_991 : decode cL_law 991 = .ok (.iadd, 1) := by decide +kernel
theorem dL_law_992 : decode cL_law 992 = .ok (.iaload, 1) := by decide +kernel
theorem dL_law_993 : decode cL_law 993 = .ok (.invokevirtual 113, 3) := by decide +kernel
theorem dL_law_996 : decode cL_law 996 = .ok (.aload_n 2, 1) := by decide +kernel
theorem dL_law_997 : decode cL_law 997 = .ok (.aload_n 0, 1) := by decide +kernel
theorem dL_law_998 : decode cL_law 998 = .ok (.iload_n 3, 1) := by decide +kernel
theorem dL_law_999 : decode cL_law 999 = .ok (.iconst 1, 1) := by decide +kernel
theorem dL_law_1000 : decode cL_law 1000 = .ok (.iadd, 1) := by decide +kernel
theorem dL_law_1001 : decode cL_law 1001 = .ok (.iaload, 1) := by decide +kernel
theorem dL_law_1002 : decode cL_law 1002 = .ok (.aload_n 0, 1) := by decide +kernel
theorem dL_law_1003 : decode cL_law 1003 = .ok (.iload_n 3, 1) := by decide +kernel
theorem dL_law_1004 : decode cL_law 1004 = .ok (.iconst 2, 1) := by decide +kernel
theorem dL_law_1005 : decode cL_law 1005 = .ok (.iadd, 1) := by decide +kernel
theorem dL_law_1006 : decode cL_law 1006 = .ok (.iaload, 1) := by decide +kernel
theorem dL_law_1007 : decode cL_law 1007 = .ok (.invokevirtual 116, 3) := by decide +kernel
theorem dL_law_1010 : decode cL_law 1010 = .ok (.if_icmp .eq 617, 3) := by decide +kernel
theorem dL_law_1013 : decode cL_law 1013 = .ok (.iconst 0, 1) := by decide +kernel
theorem dL_law_1014 : decode cL_law 1014 = .ok (.ireturn, 1) := by decide +kernel
theorem dL_law_1015 : decode cL_law 1015 = .ok (.aload_n 1, 1) := by decide +kernel
theorem dL_law_1016 : decode cL_law 1016 = .ok (.aload_n 0, 1) := by decide +kernel
theorem dL_law_1017 : decode cL_law 1017 = .ok (.iload_n 3, 1) := by decide +kernel
theorem dL_law_1018 : decode cL_law 1018 = .ok (.iconst 1, 1) := by decide +kernel
theorem dL_law_1019 : decode cL_law 1019 = .ok (.iadd, 1) := by decide +kernel
theorem dL_law_1020 : decode cL_law 1020 = .ok (.iaload, 1) := by decide +kernel
theorem dL_law_1021 : decode cL_law 1021 = .ok (.aload_n 0, 1) := by decide +kernel
theorem dL_law_1022 : decode cL_law 1022 = .ok (.iload_n 3, 1) := by decide +kernel
theorem dL_law_1023 : decode cL_law 1023 = .ok (.iconst 2, 1) := by decide +kernel
theorem dL_law_1024 : decode cL_law 1024 = .ok (.iadd, 1) := by decide +kernel
theorem dL_law_1025 : decode cL_law 1025 = .ok (.iaload, 1) := by decide +kernel
theorem dL_law_1026 : decode cL_law 1026 = .ok (.invokevirtual 117, 3) := by decide +kernel
theorem dL_law_1029 : decode cL_law 1029 = .ok (.aload_n 2, 1) := by decide +kernel
theorem dL_law_1030 : decode cL_law 1030 = .ok (.aload_n 0, 1) := by decide +kernel
theorem dL_law_1031 : decode cL_law 1031 = .ok (.iload_n 3, 1) := by decide +kernel
theorem dL_law_1032 : decode cL_law 1032 = .ok (.iconst 1, 1) := by decide +kernel
theorem dL_law_1033 : decode cL_law 1033 = .ok (.iadd, 1) := by decide +kernel
theorem dL_law_1034 : decode cL_law 1034 = .ok (.iaload, 1) := by decide +kernel
theorem dL_law_1035 : decode cL_law 1035 = .ok (.aload_n 0, 1) := by decide +kernel
theorem dL_law_1036 : decode cL_law 1036 = .ok (.iload_n 3, 1) := by decide +kernel
theorem dL_law_1037 : decode cL_law 1037 = .ok (.iconst 2, 1) := by decide +kernel
theorem dL_law_1038 : decode cL_law 1038 = .ok (.iadd, 1) := by decide +kernel
theorem dL_law_1039 : decode cL_law 1039 = .ok (.iaload, 1) := by decide +kernel
theorem dL_law_1040 : decode cL_law 1040 = .ok (.invokevirtual 120, 3) := by decide +kernel
theorem dL_law_1043 : decode cL_law 1043 = .ok (.if_icmp .eq 584, 3) := by decide +kernel
theorem dL_law_1046 : decode cL_law 1046 = .ok (.iconst 0, 1) := by decide +kernel
theorem dL_law_1047 : decode cL_law 1047 = .ok (.ireturn, 1) := by decide +kernel
theorem dL_law_1048 : decode cL_law 1048 = .ok (.aload_n 1, 1) := by decide +kernel
theorem dL_law_1049 : decode cL_law 1049 = .ok (.aload_n 0, 1) := by decide +kernel
theorem dL_law_1050 : decode cL_law 1050 = .ok (.iload_n 3, 1) := by decide +kernel
theorem dL_law_1051 : decode cL_law 1051 = .ok (.iconst 1, 1) := by decide +kernel
theorem dL_law_1052 : decode cL_law 1052 = .ok (.iadd, 1) := by decide +kernel
theorem dL_law_1053 : decode cL_law 1053 = .ok (.iaload, 1) := by decide +kernel
theorem dL_law_1054 : decode cL_law 1054 = .ok (.invokevirtual 121, 3) := by decide +kernel
theorem dL_law_1057 : decode cL_law 1057 = .ok (.aload_n 2, 1) := by decide +kernel
theorem dL_law_1058 : decode cL_law 1058 = .ok (.aload_n 0, 1) := by decide +kernel
theorem dL_law_1059 : decode cL_law 1059 = .ok (.iload_n 3, 1) := by decide +kernel
theorem dL_law_1060 : decode cL_law 1060 = .ok (.iconst 1, 1) := by decide +kernel
theorem dL_law_1061 : decode cL_law 1061 = .ok (.iadd, 1) := by decide +kernel
theorem dL_law_1062 : decode cL_law 1062 = .ok (.iaload, 1) := by decide +kernel
theorem dL_law_1063 : decode cL_law 1063 = .ok (.invokevirtual 124, 3) := by decide +kernel
theorem dL_law_1066 : decode cL_law 1066 = .ok (.if_icmp .eq 561, 3) := by decide +kernel
theorem dL_law_1069 : decode cL_law 1069 = .ok (.iconst 0, 1) := by decide +kernel
theorem dL_law_1070 : decode cL_law 1070 = .ok (.ireturn, 1) := by decide +kernel
theorem dL_law_1071 : decode cL_law 1071 = .ok (.aload_n 1, 1) := by decide +kernel
theorem dL_law_1072 : decode cL_law 1072 = .ok (.aload_n 0, 1) := by decide +kernel
theorem dL_law_1073 : decode cL_law 1073 = .ok (.iload_n 3, 1) := by decide +kernel
theorem dL_law_1074 : decode cL_law 1074 = .ok (.iconst 1, 1) := by decide +kernel
theorem dL_law_1075 : decode cL_law 1075 = .ok (.iadd, 1) := by decide +kernel
theorem dL_law_1076 : decode cL_law 1076 = .ok (.iaload, 1) := by decide +kernel
theorem dL_law_1077 : decode cL_law 1077 = .ok (.aload_n 0, 1) := by decide +kernel
theorem dL_law_1078 : decode cL_law 1078 = .ok (.iload_n 3, 1) := by decide +kernel
theorem dL_law_1079 : decode cL_law 1079 = .ok (.iconst 2, 1) := by decide +kernel
theorem dL_law_1080 : decode cL_law 1080 = .ok (.iadd, 1) := by decide +kernel
theorem dL_law_1081 : decode cL_law 1081 = .ok (.iaload, 1) := by decide +kernel
theorem dL_law_1082 : decode cL_law 1082 = .ok (.invokevirtual 125, 3) := by decide +kernel
theorem dL_law_1085 : decode cL_law 1085 = .ok (.aload_n 2, 1) := by decide +kernel
theorem dL_law_1086 : decode cL_law 1086 = .ok (.aload_n 0, 1) := by decide +kernel
theorem dL_law_1087 : decode cL_law 1087 = .ok (.iload_n 3, 1) := by decide +kernel
theorem dL_law_1088 : decode cL_law 1088 = .ok (.iconst 1, 1) := by decide +kernel
theorem dL_law_1089 : decode cL_law 1089 = .ok (.iadd, 1) := by decide +kernel
theorem dL_law_1090 : decode cL_law 1090 = .ok (.iaload, 1) := by decide +kernel
theorem dL_law_1091 : decode cL_law 1091 = .ok (.aload_n 0, 1) := by decide +kernel
theorem dL_law_1092 : decode cL_law 1092 = .ok (.iload_n 3, 1) := by decide +kernel
theorem dL_law_1093 : decode cL_law 1093 = .ok (.iconst 2, 1) := by decide +kernel
theorem dL_law_1094 : decode cL_law 1094 = .ok (.iadd, 1) := by decide +kernel
theorem dL_law_1095 : decode cL_law 1095 = .ok (.iaload, 1) := by decide +kernel
theorem dL_law_1096 : decode cL_law 1096 = .ok (.invokevirtual 128, 3) := by decide +kernel
theorem dL_law_1099 : decode cL_law 1099 = .ok (.if_icmp .eq 528, 3) := by decide +kernel
theorem dL_law_1102 : decode cL_law 1102 = .ok (.iconst 0, 1) := by decide +kernel
theorem dL_law_1103 : decode cL_law 1103 = .ok (.ireturn, 1) := by decide +kernel
theorem dL_law_1104 : decode cL_law 1104 = .ok (.aload_n 1, 1) := by decide +kernel
theorem dL_law_1105 : decode cL_law 1105 = .ok (.aload_n 0, 1) := by decide +kernel
theorem dL_law_1106 : decode cL_law 1106 = .ok (.iload_n 3, 1) := by decide +kernel
theorem dL_law_1107 : decode cL_law 1107 = .ok (.iconst 1, 1) := by decide +kernel
theorem dL_law_1108 : decode cL_law 1108 = .ok (.iadd, 1) := by decide +kernel
theorem dL_law_1109 : decode cL_law 1109 = .ok (.iaload, 1) := by decide +kernel
theorem dL_law_1110 : decode cL_law 1110 = .ok (.aload_n 0, 1) := by decide +kernel
theorem dL_law_1111 : decode cL_law 1111 = .ok (.iload_n 3, 1) := by decide +kernel
theorem dL_law_1112 : decode cL_law 1112 = .ok (.iconst 2, 1) := by decide +kernel
theorem dL_law_1113 : decode cL_law 1113 = .ok (.iadd, 1) := by decide +kernel
theorem dL_law_1114 : decode cL_law 1114 = .ok (.iaload, 1) := by decide +kernel
theorem dL_law_1115 : decode cL_law 1115 = .ok (.aload_n 0, 1) := by decide +kernel
theorem dL_law_1116 : decode cL_law 1116 = .ok (.iload_n 3, 1) := by decide +kernel
theorem dL_law_1117 : decode cL_law 1117 = .ok (.iconst 3, 1) := by decide +kernel
theorem dL_law_1118 : decode cL_law 1118 = .ok (.iadd, 1) := by decide +kernel
theorem dL_law_1119 : decode cL_law 1119 = .ok (.iaload, 1) := by decide +kernel
theorem dL_law_1120 : decode cL_law 1120 = .ok (.aload_n 0, 1) := by decide +kernel
theorem dL_law_1121 : decode cL_law 1121 = .ok (.iload_n 3, 1) := by decide +kernel
theorem dL_law_1122 : decode cL_law 1122 = .ok (.iconst 4, 1) := by decide +kernel
theorem dL_law_1123 : decode cL_law 1123 = .ok (.iadd, 1) := by decide +kernel
theorem dL_law_1124 : decode cL_law 1124 = .ok (.iaload, 1) := by decide +kernel
theorem dL_law_1125 : decode cL_law 1125 = .ok (.invokevirtual 129, 3) := by decide +kernel
theorem dL_law_1128 : decode cL_law 1128 = .ok (.aload_n 2, 1) := by decide +kernel
theorem dL_law_1129 : decode cL_law 1129 = .ok (.aload_n 0, 1) := by decide +kernel
theorem dL_law_1130 : decode cL_law 1130 = .ok (.iload_n 3, 1) := by decide +kernel
theorem dL_law_1131 : decode cL_law 1131 = .ok (.iconst 1, 1) := by decide +kernel
theorem dL_law_1132 : decode cL_law 1132 = .ok (.iadd, 1) := by decide +kernel
theorem dL_law_1133 : decode cL_law 1133 = .ok (.iaload, 1) := by decide +kernel
theorem dL_law_1134 : decode cL_law 1134 = .ok (.aload_n 0, 1) := by decide +kernel
theorem dL_law_1135 : decode cL_law 1135 = .ok (.iload_n 3, 1) := by decide +kernel
theorem dL_law_1136 : decode cL_law 1136 = .ok (.iconst 2, 1) := by decide +kernel
theorem dL_law_1137 : decode cL_law 1137 = .ok (.iadd, 1) := by decide +kernel
theorem dL_law_1138 : decode cL_law 1138 = .ok (.iaload, 1) := by decide +kernel
theorem dL_law_1139 : decode cL_law 1139 = .ok (.aload_n 0, 1) := by decide +kernel
theorem dL_law_1140 : decode cL_law 1140 = .ok (.iload_n 3, 1) := by decide +kernel
theorem dL_law_1141 : decode cL_law 1141 = .ok (.iconst 3, 1) := by decide +kernel
theorem dL_law_1142 : decode cL_law 1142 = .ok (.iadd, 1) := by decide +kernel
theorem dL_law_1143 : decode cL_law 1143 = .ok (.iaload, 1) := by decide +kernel
theorem dL_law_1144 : decode cL_law 1144 = .ok (.aload_n 0, 1) := by decide +kernel
theorem dL_law_1145 : decode cL_law 1145 = .ok (.iload_n 3, 1) := by decide +kernel
theorem dL_law_1146 : decode cL_law 1146 = .ok (.iconst 4, 1) := by decide +kernel
theorem dL_law_1147 : decode cL_law 1147 = .ok (.iadd, 1) := by decide +kernel
theorem dL_law_1148 : decode cL_law 1148 = .ok (.iaload, 1) := by decide +kernel
theorem dL_law_1149 : decode cL_law 1149 = .ok (.invokevirtual 133, 3) := by decide +kernel
theorem dL_law_1152 : decode cL_law 1152 = .ok (.lcmp, 1) := by decide +kernel
theorem dL_law_1153 : decode cL_law 1153 = .ok (.ifCond .eq 474, 3) := by decide +kernel
theorem dL_law_1156 : decode cL_law 1156 = .ok (.iconst 0, 1) := by decide +kernel
theorem dL_law_1157 : decode cL_law 1157 = .ok (.ireturn, 1) := by decide +kernel
theorem dL_law_1158 : decode cL_law 1158 = .ok (.aload_n 1, 1) := by decide +kernel
theorem dL_law_1159 : decode cL_law 1159 = .ok (.aload_n 0, 1) := by decide +kernel
theorem dL_law_1160 : decode cL_law 1160 = .ok (.iload_n 3, 1) := by decide +kernel
theorem dL_law_1161 : decode cL_law 1161 = .ok (.iconst 1, 1) := by decide +kernel
theorem dL_law_1162 : decode cL_law 1162 = .ok (.iadd, 1) := by decide +kernel
theorem dL_law_1163 : decode cL_law 1163 = .ok (.iaload, 1) := by decide +kernel
theorem dL_law_1164 : decode cL_law 1164 = .ok (.aload_n 0, 1) := by decide +kernel
theorem dL_law_1165 : decode cL_law 1165 = .ok (.iload_n 3, 1) := by decide +kernel
theorem dL_law_1166 : decode cL_law 1166 = .ok (.iconst 2, 1) := by decide +kernel
theorem dL_law_1167 : decode cL_law 1167 = .ok (.iadd, 1) := by decide +kernel
theorem dL_law_1168 : decode cL_law 1168 = .ok (.iaload, 1) := by decide +kernel
theorem dL_law_1169 : decode cL_law 1169 = .ok (.invokevirtual 134, 3) := by decide +kernel
theorem dL_law_1172 : decode cL_law 1172 = .ok (.aload_n 2, 1) := by decide +kernel
theorem dL_law_1173 : decode cL_law 1173 = .ok (.aload_n 0, 1) := by decide +kernel
theorem dL_law_1174 : decode cL_law 1174 = .ok (.iload_n 3, 1) := by decide +kernel
theorem dL_law_1175 : decode cL_law 1175 = .ok (.iconst 1, 1) := by decide +kernel
theorem dL_law_1176 : decode cL_law 1176 = .ok (.iadd, 1) := by decide +kernel
theorem dL_law_1177 : decode cL_law 1177 = .ok (.iaload, 1) := by decide +kernel
theorem dL_law_1178 : decode cL_law 1178 = .ok (.aload_n 0, 1) := by decide +kernel
theorem dL_law_1179 : decode cL_law 1179 = .ok (.iload_n 3, 1) := by decide +kernel
theorem dL_law_1180 : decode cL_law 1180 = .ok (.iconst 2, 1) := by decide +kernel
theorem dL_law_1181 : decode cL_law 1181 = .ok (.iadd, 1) := by decide +kernel
theorem dL_law_1182 : decode cL_law 1182 = .ok (.iaload, 1) := by decide +kernel
theorem dL_law_1183 : decode cL_law 1183 = .ok (.invokevirtual 138, 3) := by decide +kernel
theorem dL_law_1186 : decode cL_law 1186 = .ok (.lcmp, 1) := by decide +kernel
theorem dL_law_1187 : decode cL_law 1187 = .ok (.ifCond .eq 440, 3) := by decide +kernel
theorem dL_law_1190 : decode cL_law 1190 = .ok (.iconst 0, 1) := by decide +kernel
theorem dL_law_1191 : decode cL_law 1191 = .ok (.ireturn, 1) := by decide +kernel
theorem dL_law_1192 : decode cL_law 1192 = .ok (.aload_n 1, 1) := by decide +kernel
theorem dL_law_1193 : decode cL_law 1193 = .ok (.aload_n 0, 1) := by decide +kernel
theorem dL_law_1194 : decode cL_law 1194 = .ok (.iload_n 3, 1) := by decide +kernel
theorem dL_law_1195 : decode cL_law 1195 = .ok (.iconst 1, 1) := by decide +kernel
end
section
theorem dL_law_1196 : decode cL_law 1196 = .ok (.iadd, 1) := by decide +kernel
theorem dL_law_1197 : decode cL_law 1197 = .ok (.iaload, 1) := by decide +kernel
theorem dL_law_1198 : decode cL_law 1198 = .ok (.aload_n 0, 1) := by decide +kernel
theorem dL_law_1199 : decode cL_law 1199 = .ok (.iload_n 3, 1) := by decide +kernel
theorem dL_law_1200 : decode cL_law 1200 = .ok (.iconst 2, 1) := by decide +kernel
theorem dL_law_1201 : decode cL_law 1201 = .ok (.iadd, 1) := by decide +kernel
theorem dL_law_1202 : decode cL_law 1202 = .ok (.iaload, 1) := by decide +kernel
theorem dL_law_1203 : decode cL_law 1203 = .ok (.aload_n 0, 1) := by decide +kernel
theorem dL_law_1204 : decode cL_law 1204 = .ok (.iload_n 3, 1) := by decide +kernel
theorem dL_law_1205 : decode cL_law 1205 = .ok (.iconst 3, 1) := by decide +kernel
theorem dL_law_1206 : decode cL_law 1206 = .ok (.iadd, 1) := by decide +kernel
theorem dL_law_1207 : decode cL_law 1207 = .ok (.iaload, 1) := by decide +kernel
theorem dL_law_1208 : decode cL_law 1208 = .ok (.aload_n 0, 1) := by decide +kernel
theorem dL_law_1209 : decode cL_law 1209 = .ok (.iload_n 3, 1) := by decide +kernel
theorem dL_law_1210 : decode cL_law 1210 = .ok (.iconst 4, 1) := by decide +kernel
theorem dL_law_1211 : decode cL_law 1211 = .ok (.iadd, 1) := by decide +kernel
theorem dL_law_1212 : decode cL_law 1212 = .ok (.iaload, 1) := by decide +kernel
theorem dL_law_1213 : decode cL_law 1213 = .ok (.ifCond .eq 7, 3) := by decide +kernel
theorem dL_law_1216 : decode cL_law 1216 = .ok (.iconst 1, 1) := by decide +kernel
theorem dL_law_1217 : decode cL_law 1217 = .ok (.goto 4, 3) := by decide +kernel
theorem dL_law_1220 : decode cL_law 1220 = .ok (.iconst 0, 1) := by decide +kernel
theorem dL_law_1221 : decode cL_law 1221 = .ok (.invokevirtual 139, 3) := by decide +kernel
theorem dL_law_1224 : decode cL_law 1224 = .ok (.aload_n 2, 1) := by decide +kernel
theorem dL_law_1225 : decode cL_law 1225 = .ok (.aload_n 0, 1) := by decide +kernel
theorem dL_law_1226 : decode cL_law 1226 = .ok (.iload_n 3, 1) := by decide +kernel
theorem dL_law_1227 : decode cL_law 1227 = .ok (.iconst 1, 1) := by decide +kernel
theorem dL_law_1228 : decode cL_law 1228 = .ok (.iadd, 1) := by decide +kernel
theorem dL_law_1229 : decode cL_law 1229 = .ok (.iaload, 1) := by decide +kernel
theorem dL_law_1230 : decode cL_law 1230 = .ok (.aload_n 0, 1) := by decide +kernel
theorem dL_law_1231 : decode cL_law 1231 = .ok (.iload_n 3, 1) := by decide +kernel
theorem dL_law_1232 : decode cL_law 1232 = .ok (.iconst 2, 1) := by decide +kernel
theorem dL_law_1233 : decode cL_law 1233 = .ok (.iadd, 1) := by decide +kernel
theorem dL_law_1234 : decode cL_law 1234 = .ok (.iaload, 1) := by decide +kernel
theorem dL_law_1235 : decode cL_law 1235 = .ok (.aload_n 0, 1) := by decide +kernel
theorem dL_law_1236 : decode cL_law 1236 = .ok (.iload_n 3, 1) := by decide +kernel
theorem dL_law_1237 : decode cL_law 1237 = .ok (.iconst 3, 1) := by decide +kernel
theorem dL_law_1238 : decode cL_law 1238 = .ok (.iadd, 1) := by decide +kernel
theorem dL_law_1239 : decode cL_law 1239 = .ok (.iaload, 1) := by decide +kernel
theorem dL_law_1240 : decode cL_law 1240 = .ok (.aload_n 0, 1) := by decide +kernel
theorem dL_law_1241 : decode cL_law 1241 = .ok (.iload_n 3, 1) := by decide +kernel
theorem dL_law_1242 : decode cL_law 1242 = .ok (.iconst 4, 1) := by decide +kernel
theorem dL_law_1243 : decode cL_law 1243 = .ok (.iadd, 1) := by decide +kernel
theorem dL_law_1244 : decode cL_law 1244 = .ok (.iaload, 1) := by decide +kernel
theorem dL_law_1245 : decode cL_law 1245 = .ok (.ifCond .eq 7, 3) := by decide +kernel
theorem dL_law_1248 : decode cL_law 1248 = .ok (.iconst 1, 1) := by decide +kernel
theorem dL_law_1249 : decode cL_law 1249 = .ok (.goto 4, 3) := by decide +kernel
theorem dL_law_1252 : decode cL_law 1252 = .ok (.iconst 0, 1) := by decide +kernel
theorem dL_law_1253 : decode cL_law 1253 = .ok (.invokevirtual 143, 3) := by decide +kernel
theorem dL_law_1256 : decode cL_law 1256 = .ok (.if_icmp .eq 371, 3) := by decide +kernel
theorem dL_law_1259 : decode cL_law 1259 = .ok (.iconst 0, 1) := by decide +kernel
theorem dL_law_1260 : decode cL_law 1260 = .ok (.ireturn, 1) := by decide +kernel
theorem dL_law_1261 : decode cL_law 1261 = .ok (.aload_n 1, 1) := by decide +kernel
theorem dL_law_1262 : decode cL_law 1262 = .ok (.aload_n 0, 1) := by decide +kernel
theorem dL_law_1263 : decode cL_law 1263 = .ok (.iload_n 3, 1) := by decide +kernel
theorem dL_law_1264 : decode cL_law 1264 = .ok (.iconst 1, 1) := by decide +kernel
theorem dL_law_1265 : decode cL_law 1265 = .ok (.iadd, 1) := by decide +kernel
theorem dL_law_1266 : decode cL_law 1266 = .ok (.iaload, 1) := by decide +kernel
theorem dL_law_1267 : decode cL_law 1267 = .ok (.invokevirtual 144, 3) := by decide +kernel
theorem dL_law_1270 : decode cL_law 1270 = .ok (.aload_n 2, 1) := by decide +kernel
theorem dL_law_1271 : decode cL_law 1271 = .ok (.aload_n 0, 1) := by decide +kernel
theorem dL_law_1272 : decode cL_law 1272 = .ok (.iload_n 3, 1) := by decide +kernel
theorem dL_law_1273 : decode cL_law 1273 = .ok (.iconst 1, 1) := by decide +kernel
theorem dL_law_1274 : decode cL_law 1274 = .ok (.iadd, 1) := by decide +kernel
theorem dL_law_1275 : decode cL_law 1275 = .ok (.iaload, 1) := by decide +kernel
theorem dL_law_1276 : decode cL_law 1276 = .ok (.invokevirtual 147, 3) := by decide +kernel
theorem dL_law_1279 : decode cL_law 1279 = .ok (.if_icmp .eq 348, 3) := by decide +kernel
theorem dL_law_1282 : decode cL_law 1282 = .ok (.iconst 0, 1) := by decide +kernel
theorem dL_law_1283 : decode cL_law 1283 = .ok (.ireturn, 1) := by decide +kernel
theorem dL_law_1284 : decode cL_law 1284 = .ok (.aload_n 1, 1) := by decide +kernel
theorem dL_law_1285 : decode cL_law 1285 = .ok (.aload_n 0, 1) := by decide +kernel
theorem dL_law_1286 : decode cL_law 1286 = .ok (.iload_n 3, 1) := by decide +kernel
theorem dL_law_1287 : decode cL_law 1287 = .ok (.iconst 1, 1) := by decide +kernel
theorem dL_law_1288 : decode cL_law 1288 = .ok (.iadd, 1) := by decide +kernel
theorem dL_law_1289 : decode cL_law 1289 = .ok (.iaload, 1) := by decide +kernel
theorem dL_law_1290 : decode cL_law 1290 = .ok (.invokevirtual 148, 3) := by decide +kernel
theorem dL_law_1293 : decode cL_law 1293 = .ok (.aload_n 2, 1) := by decide +kernel
theorem dL_law_1294 : decode cL_law 1294 = .ok (.aload_n 0, 1) := by decide +kernel
theorem dL_law_1295 : decode cL_law 1295 = .ok (.iload_n 3, 1) := by decide +kernel
theorem dL_law_1296 : decode cL_law 1296 = .ok (.iconst 1, 1) := by decide +kernel
theorem dL_law_1297 : decode cL_law 1297 = .ok (.iadd, 1) := by decide +kernel
theorem dL_law_1298 : decode cL_law 1298 = .ok (.iaload, 1) := by decide +kernel
theorem dL_law_1299 : decode cL_law 1299 = .ok (.invokevirtual 151, 3) := by decide +kernel
theorem dL_law_1302 : decode cL_law 1302 = .ok (.if_icmp .eq 325, 3) := by decide +kernel
theorem dL_law_1305 : decode cL_law 1305 = .ok (.iconst 0, 1) := by decide +kernel
theorem dL_law_1306 : decode cL_law 1306 = .ok (.ireturn, 1) := by decide +kernel
theorem dL_law_1307 : decode cL_law 1307 = .ok (.aload_n 1, 1) := by decide +kernel
theorem dL_law_1308 : decode cL_law 1308 = .ok (.aload_n 0, 1) := by decide +kernel
theorem dL_law_1309 : decode cL_law 1309 = .ok (.iload_n 3, 1) := by decide +kernel
theorem dL_law_1310 : decode cL_law 1310 = .ok (.iconst 1, 1) := by decide +kernel
theorem dL_law_1311 : decode cL_law 1311 = .ok (.iadd, 1) := by decide +kernel
theorem dL_law_1312 : decode cL_law 1312 = .ok (.iaload, 1) := by decide +kernel
theorem dL_law_1313 : decode cL_law 1313 = .ok (.invokevirtual 152, 3) := by decide +kernel
theorem dL_law_1316 : decode cL_law 1316 = .ok (.aload_n 2, 1) := by decide +kernel
theorem dL_law_1317 : decode cL_law 1317 = .ok (.aload_n 0, 1) := by decide +kernel
theorem dL_law_1318 : decode cL_law 1318 = .ok (.iload_n 3, 1) := by decide +kernel
theorem dL_law_1319 : decode cL_law 1319 = .ok (.iconst 1, 1) := by decide +kernel
theorem dL_law_1320 : decode cL_law 1320 = .ok (.iadd, 1) := by decide +kernel
theorem dL_law_1321 : decode cL_law 1321 = .ok (.iaload, 1) := by decide +kernel
theorem dL_law_1322 : decode cL_law 1322 = .ok (.invokevirtual 155, 3) := by decide +kernel
theorem dL_law_1325 : decode cL_law 1325 = .ok (.if_icmp .eq 302, 3) := by decide +kernel
theorem dL_law_1328 : decode cL_law 1328 = .ok (.iconst 0, 1) := by decide +kernel
theorem dL_law_1329 : decode cL_law 1329 = .ok (.ireturn, 1) := by decide +kernel
theorem dL_law_1330 : decode cL_law 1330 = .ok (.aload_n 1, 1) := by decide +kernel
theorem dL_law_1331 : decode cL_law 1331 = .ok (.aload_n 0, 1) := by decide +kernel
theorem dL_law_1332 : decode cL_law 1332 = .ok (.iload_n 3, 1) := by decide +kernel
theorem dL_law_1333 : decode cL_law 1333 = .ok (.iconst 1, 1) := by decide +kernel
theorem dL_law_1334 : decode cL_law 1334 = .ok (.iadd, 1) := by decide +kernel
theorem dL_law_1335 : decode cL_law 1335 = .ok (.iaload, 1) := by decide +kernel
theorem dL_law_1336 : decode cL_law 1336 = .ok (.aload_n 0, 1) := by decide +kernel
theorem dL_law_1337 : decode cL_law 1337 = .ok (.iload_n 3, 1) := by decide +kernel
theorem dL_law_1338 : decode cL_law 1338 = .ok (.iconst 2, 1) := by decide +kernel
theorem dL_law_1339 : decode cL_law 1339 = .ok (.iadd, 1) := by decide +kernel
theorem dL_law_1340 : decode cL_law 1340 = .ok (.iaload, 1) := by decide +kernel
theorem dL_law_1341 : decode cL_law 1341 = .ok (.invokevirtual 156, 3) := by decide +kernel
theorem dL_law_1344 : decode cL_law 1344 = .ok (.aload_n 2, 1) := by decide +kernel
theorem dL_law_1345 : decode cL_law 1345 = .ok (.aload_n 0, 1) := by decide +kernel
theorem dL_law_1346 : decode cL_law 1346 = .ok (.iload_n 3, 1) := by decide +kernel
theorem dL_law_1347 : decode cL_law 1347 = .ok (.iconst 1, 1) := by decide +kernel
theorem dL_law_1348 : decode cL_law 1348 = .ok (.iadd, 1) := by decide +kernel
theorem dL_law_1349 : decode cL_law 1349 = .ok (.iaload, 1) := by decide +kernel
theorem dL_law_1350 : decode cL_law 1350 = .ok (.aload_n 0, 1) := by decide +kernel
theorem dL_law_1351 : decode cL_law 1351 = .ok (.iload_n 3, 1) := by decide +kernel
theorem dL_law_1352 : decode cL_law 1352 = .ok (.iconst 2, 1) := by decide +kernel
theorem dL_law_1353 : decode cL_law 1353 = .ok (.iadd, 1) := by decide +kernel
theorem dL_law_1354 : decode cL_law 1354 = .ok (.iaload, 1) := by decide +kernel
theorem dL_law_1355 : decode cL_law 1355 = .ok (.invokevirtual 159, 3) := by decide +kernel
theorem dL_law_1358 : decode cL_law 1358 = .ok (.if_icmp .eq 269, 3) := by decide +kernel
theorem dL_law_1361 : decode cL_law 1361 = .ok (.iconst 0, 1) := by decide +kernel
theorem dL_law_1362 : decode cL_law 1362 = .ok (.ireturn, 1) := by decide +kernel
theorem dL_law_1363 : decode cL_law 1363 = .ok (.aload_n 1, 1) := by decide +kernel
theorem dL_law_1364 : decode cL_law 1364 = .ok (.aload_n 0, 1) := by decide +kernel
theorem dL_law_1365 : decode cL_law 1365 = .ok (.iload_n 3, 1) := by decide +kernel
theorem dL_law_1366 : decode cL_law 1366 = .ok (.iconst 1, 1) := by decide +kernel
theorem dL_law_1367 : decode cL_law 1367 = .ok (.iadd, 1) := by decide +kernel
theorem dL_law_1368 : decode cL_law 1368 = .ok (.iaload, 1) := by decide +kernel
theorem dL_law_1369 : decode cL_law 1369 = .ok (.aload_n 0, 1) := by decide +kernel
theorem dL_law_1370 : decode cL_law 1370 = .ok (.iload_n 3, 1) := by decide +kernel
theorem dL_law_1371 : decode cL_law 1371 = .ok (.iconst 2, 1) := by decide +kernel
theorem dL_law_1372 : decode cL_law 1372 = .ok (.iadd, 1) := by decide +kernel
theorem dL_law_1373 : decode cL_law 1373 = .ok (.iaload, 1) := by decide +kernel
theorem dL_law_1374 : decode cL_law 1374 = .ok (.aload_n 0, 1) := by decide +kernel
theorem dL_law_1375 : decode cL_law 1375 = .ok (.iload_n 3, 1) := by decide +kernel
theorem dL_law_1376 : decode cL_law 1376 = .ok (.iconst 3, 1) := by decide +kernel
theorem dL_law_1377 : decode cL_law 1377 = .ok (.iadd, 1) := by decide +kernel
theorem dL_law_1378 : decode cL_law 1378 = .ok (.iaload, 1) := by decide +kernel
theorem dL_law_1379 : decode cL_law 1379 = .ok (.invokevirtual 160, 3) := by decide +kernel
theorem dL_law_1382 : decode cL_law 1382 = .ok (.aload_n 2, 1) := by decide +kernel
theorem dL_law_1383 : decode cL_law 1383 = .ok (.aload_n 0, 1) := by decide +kernel
theorem dL_law_1384 : decode cL_law 1384 = .ok (.iload_n 3, 1) := by decide +kernel
theorem dL_law_1385 : decode cL_law 1385 = .ok (.iconst 1, 1) := by decide +kernel
theorem dL_law_1386 : decode cL_law 1386 = .ok (.iadd, 1) := by decide +kernel
theorem dL_law_1387 : decode cL_law 1387 = .ok (.iaload, 1) := by decide +kernel
theorem dL_law_1388 : decode cL_law 1388 = .ok (.aload_n 0, 1) := by decide +kernel
theorem dL_law_1389 : decode cL_law 1389 = .ok (.iload_n 3, 1) := by decide +kernel
theorem dL_law_1390 : decode cL_law 1390 = .ok (.iconst 2, 1) := by decide +kernel
theorem dL_law_1391 : decode cL_law 1391 = .ok (.iadd, 1) := by decide +kernel
theorem dL_law_1392 : decode cL_law 1392 = .ok (.iaload, 1) := by decide +kernel
theorem dL_law_1393 : decode cL_law 1393 = .ok (.aload_n 0, 1) := by decide +kernel
theorem dL_law_1394 : decode cL_law 1394 = .ok (.iload_n 3, 1) := by decide +kernel
theorem dL_law_1395 : decode cL_law 1395 = .ok (.iconst 3, 1) := by decide +kernel
theorem dL_law_1396 : decode cL_law 1396 = .ok (.iadd, 1) := by decide +kernel
theorem dL_law_1397 : decode cL_law 1397 = .ok (.iaload, 1) := by decide +kernel
theorem dL_law_1398 : decode cL_law 1398 = .ok (.invokevirtual 163, 3) := by decide +kernel
theorem dL_law_1401 : decode cL_law 1401 = .ok (.if_icmp .eq 226, 3) := by decide +kernel
theorem dL_law_1404 : decode cL_law 1404 = .ok (.iconst 0, 1) := by decide +kernel
theorem dL_law_1405 : decode cL_law 1405 = .ok (.ireturn, 1) := by decide +kernel
theorem dL_law_1406 : decode cL_law 1406 = .ok (.aload_n 1, 1) := by decide +kernel
theorem dL_law_1407 : decode cL_law 1407 = .ok (.aload_n 0, 1) := by decide +kernel
theorem dL_law_1408 : decode cL_law 1408 = .ok (.iload_n 3, 1) := by decide +kernel
theorem dL_law_1409 : decode cL_law 1409 = .ok (.iconst 1, 1) := by decide +kernel
theorem dL_law_1410 : decode cL_law 1410 = .ok (.iadd, 1) := by decide +kernel
theorem dL_law_1411 : decode cL_law 1411 = .ok (.iaload, 1) := by decide +kernel
theorem dL_law_1412 : decode cL_law 1412 = .ok (.invokevirtual 164, 3) := by decide +kernel
theorem dL_law_1415 : decode cL_law 1415 = .ok (.aload_n 2, 1) := by decide +kernel
theorem dL_law_1416 : decode cL_law 1416 = .ok (.aload_n 0, 1) := by decide +kernel
theorem dL_law_1417 : decode cL_law 1417 = .ok (.iload_n 3, 1) := by decide +kernel
theorem dL_law_1418 : decode cL_law 1418 = .ok (.iconst 1, 1) := by decide +kernel
theorem dL_law_1419 : decode cL_law 1419 = .ok (.iadd, 1) := by decide +kernel
theorem dL_law_1420 : decode cL_law 1420 = .ok (.iaload, 1) := by decide +kernel
theorem dL_law_1421 : decode cL_law 1421 = .ok (.invokevirtual 167, 3) := by decide +kernel
theorem dL_law_1424 : decode cL_law 1424 = .ok (.if_icmp .eq 203, 3) := by decide +kernel
theorem dL_law_1427 : decode cL_law 1427 = .ok (.iconst 0, 1) := by decide +kernel
theorem dL_law_1428 : decode cL_law 1428 = .ok (.ireturn, 1) := by decide +kernel
theorem dL_law_1429 : decode cL_law 1429 = .ok (.aload_n 1, 1) := by decide +kernel
theorem dL_law_1430 : decode cL_law 1430 = .ok (.aload_n 0, 1) := by decide +kernel
theorem dL_law_1431 : decode cL_law 1431 = .ok (.iload_n 3, 1) := by decide +kernel
theorem dL_law_1432 : decode cL_law 1432 = .ok (.iconst 1, 1) := by decide +kernel
theorem dL_law_1433 : decode cL_law 1433 = .ok (.iadd, 1) := by decide +kernel
theorem dL_law_1434 : decode cL_law 1434 = .ok (.iaload, 1) := by decide +kernel
theorem dL_law_1435 : decode cL_law 1435 = .ok (.invokevirtual 168, 3) := by decide +kernel
theorem dL_law_1438 : decode cL_law 1438 = .ok (.aload_n 2, 1) := by decide +kernel
theorem dL_law_1439 : decode cL_law 1439 = .ok (.aload_n 0, 1) := by decide +kernel
theorem dL_law_1440 : decode cL_law 1440 = .ok (.iload_n 3, 1) := by decide +kernel
theorem dL_law_1441 : decode cL_law 1441 = .ok (.iconst 1, 1) := by decide +kernel
theorem dL_law_1442 : decode cL_law 1442 = .ok (.iadd, 1) := by decide +kernel
theorem dL_law_1443 : decode cL_law 1443 = .ok (.iaload, 1) := by decide +kernel
theorem dL_law_1444 : decode cL_law 1444 = .ok (.invokevirtual 171, 3) := by decide +kernel
theorem dL_law_1447 : decode cL_law 1447 = .ok (.if_icmp .eq 180, 3) := by decide +kernel
theorem dL_law_1450 : decode cL_law 1450 = .ok (.iconst 0, 1) := by decide +kernel
theorem dL_law_1451 : decode cL_law 1451 = .ok (.ireturn, 1) := by decide +kernel
theorem dL_law_1452 : decode cL_law 1452 = .ok (.aload_n 1, 1) := by decide +kernel
theorem dL_law_1453 : decode cL_law 1453 = .ok (.aload_n 0, 1) := by decide +kernel
theorem dL_law_1454 : decode cL_law 1454 = .ok (.iload_n 3, 1) := by decide +kernel
theorem dL_law_1455 : decode cL_law 1455 = .ok (.iconst 1, 1) := by decide +kernel
theorem dL_law_1456 : decode cL_law 1456 = .ok (.iadd, 1) := by decide +kernel
theorem dL_law_1457 : decode cL_law 1457 = .ok (.iaload, 1) := by decide +kernel
theorem dL_law_1458 : decode cL_law 1458 = .ok (.aload_n 0, 1) := by decide +kernel
theorem dL_law_1459 : decode cL_law 1459 = .ok (.iload_n 3, 1) := by decide +kernel
theorem dL_law_1460 : decode cL_law 1460 = .ok (.iconst 2, 1) := by decide +kernel
theorem dL_law_1461 : decode cL_law 1461 = .ok (.iadd, 1) := by decide +kernel
theorem dL_law_1462 : decode cL_law 1462 = .ok (.iaload, 1) := by decide +kernel
theorem dL_law_1463 : decode cL_law 1463 = .ok (.aload_n 0, 1) := by decide +kernel
theorem dL_law_1464 : decode cL_law 1464 = .ok (.iload_n 3, 1) := by decide +kernel
theorem dL_law_1465 : decode cL_law 1465 = .ok (.iconst 3, 1) := by decide +kernel
theorem dL_law_1466 : decode cL_law 1466 = .ok (.iadd, 1) := by decide +kernel
theorem dL_law_1467 : decode cL_law 1467 = .ok (.iaload, 1) := by decide +kernel
theorem dL_law_1468 : decode cL_law 1468 = .ok (.invokevirtual 172, 3) := by decide +kernel
theorem dL_law_1471 : decode cL_law 1471 = .ok (.aload_n 2, 1) := by decide +kernel
theorem dL_law_1472 : decode cL_law 1472 = .ok (.aload_n 0, 1) := by decide +kernel
theorem dL_law_1473 : decode cL_law 1473 = .ok (.iload_n 3, 1) := by decide +kernel
theorem dL_law_1474 : decode cL_law 1474 = .ok (.iconst 1, 1) := by decide +kernel
theorem dL_law_1475 : decode cL_law 1475 = .ok (.iadd, 1) := by decide +kernel
theorem dL_law_1476 : decode cL_law 1476 = .ok (.iaload, 1) := by decide +kernel
theorem dL_law_1477 : decode cL_law 1477 = .ok (.aload_n 0, 1) := by decide +kernel
theorem dL_law_1478 : decode cL_law 1478 = .ok (.iload_n 3, 1) := by decide +kernel
theorem dL_law_1479 : decode cL_law 1479 = .ok (.iconst 2, 1) := by decide +kernel
theorem dL_law_1480 : decode cL_law 1480 = .ok (.iadd, 1) := by decide +kernel
theorem dL_law_1481 : decode cL_law 1481 = .ok (.iaload, 1) := by decide +kernel
theorem dL_law_1482 : decode cL_law 1482 = .ok (.aload_n 0, 1) := by decide +kernel
theorem dL_law_1483 : decode cL_law 1483 = .ok (.iload_n 3, 1) := by decide +kernel
theorem dL_law_1484 : decode cL_law 1484 = .ok (.iconst 3, 1) := by decide +kernel
theorem dL_law_1485 : decode cL_law 1485 = .ok (.iadd, 1) := by decide +kernel
theorem dL_law_1486 : decode cL_law 1486 = .ok (.iaload, 1) := by decide +kernel
theorem dL_law_1487 : decode cL_law 1487 = .ok (.invokevirtual 175, 3) := by decide +kernel
theorem dL_law_1490 : decode cL_law 1490 = .ok (.if_icmp .eq 137, 3) := by decide +kernel
theorem dL_law_1493 : decode cL_law 1493 = .ok (.iconst 0, 1) := by decide +kernel
theorem dL_law_1494 : decode cL_law 1494 = .ok (.ireturn, 1) := by decide +kernel
theorem dL_law_1495 : decode cL_law 1495 = .ok (.aload_n 1, 1) := by decide +kernel
theorem dL_law_1496 : decode cL_law 1496 = .ok (.aload_n 0, 1) := by decide +kernel
theorem dL_law_1497 : decode cL_law 1497 = .ok (.iload_n 3, 1) := by decide +kernel
theorem dL_law_1498 : decode cL_law 1498 = .ok (.iconst 1, 1) := by decide +kernel
theorem dL_law_1499 : decode cL_law 1499 = .ok (.iadd, 1) := by decide +kernel
theorem dL_law_1500 : decode cL_law 1500 = .ok (.iaload, 1) := by decide +kernel
theorem dL_law_1501 : decode cL_law 1501 = .ok (.aload_n 0, 1) := by decide +kernel
theorem dL_law_1502 : decode cL_law 1502 = .ok (.iload_n 3, 1) := by decide +kernel
theorem dL_law_1503 : decode cL_law 1503 = .ok (.iconst 2, 1) := by decide +kernel
theorem dL_law_1504 : decode cL_law 1504 = .ok (.iadd, 1) := by decide +kernel
theorem dL_law_1505 : decode cL_law 1505 = .ok (.iaload, 1) := by decide +kernel
theorem dL_law_1506 : decode cL_law 1506 = .ok (.aload_n 0, 1) := by decide +kernel
theorem dL_law_1507 : decode cL_law 1507 = .ok (.iload_n 3, 1) := by decide +kernel
theorem dL_law_1508 : decode cL_law 1508 = .ok (.iconst 3, 1) := by decide +kernel
theorem dL_law_1509 : decode cL_law 1509 = .ok (.iadd, 1) := by decide +kernel
theorem dL_law_1510 : decode cL_law 1510 = .ok (.iaload, 1) := by decide +kernel
theorem dL_law_1511 : decode cL_law 1511 = .ok (.invokevirtual 176, 3) := by decide +kernel
theorem dL_law_1514 : decode cL_law 1514 = .ok (.aload_n 2, 1) := by decide +kernel
theorem dL_law_1515 : decode cL_law 1515 = .ok (.aload_n 0, 1) := by decide +kernel
theorem dL_law_1516 : decode cL_law 1516 = .ok (.iload_n 3, 1) := by decide +kernel
theorem dL_law_1517 : decode cL_law 1517 = .ok (.iconst 1, 1) := by decide +kernel
theorem dL_law_1518 : decode cL_law 1518 = .ok (.iadd, 1) := by decide +kernel
theorem dL_law_1519 : decode cL_law 1519 = .ok (.iaload, 1) := by decide +kernel
theorem dL_law_1520 : decode cL_law 1520 = .ok (.aload_n 0, 1) := by decide +kernel
theorem dL_law_1521 : decode cL_law 1521 = .ok (.iload_n 3, 1) := by decide +kernel
theorem dL_law_1522 : decode cL_law 1522 = .ok (.iconst 2, 1) := by decide +kernel
theorem dL_law_1523 : decode cL_law 1523 = .ok (.iadd, 1) := by decide +kernel
theorem dL_law_1524 : decode cL_law 1524 = .ok (.iaload, 1) := by decide +kernel
theorem dL_law_1525 : decode cL_law 1525 = .ok (.aload_n 0, 1) := by decide +kernel
theorem dL_law_1526 : decode cL_law 1526 = .ok (.iload_n 3, 1) := by decide +kernel
theorem dL_law_1527 : decode cL_law 1527 = .ok (.iconst 3, 1) := by decide +kernel
theorem dL_law_1528 : decode cL_law 1528 = .ok (.iadd, 1) := by decide +kernel
theorem dL_law_1529 : decode cL_law 1529 = .ok (.iaload, 1) := by decide +kernel
theorem dL_law_1530 : decode cL_law 1530 = .ok (.invokevirtual 179, 3) := by decide +kernel
theorem dL_law_1533 : decode cL_law 1533 = .ok (.if_icmp .eq 94, 3) := by decide +kernel
theorem dL_law_1536 : decode cL_law 1536 = .ok (.iconst 0, 1) := by decide +kernel
theorem dL_law_1537 : decode cL_law 1537 = .ok (.ireturn, 1) := by decide +kernel
theorem dL_law_1538 : decode cL_law 1538 = .ok (.aload_n 1, 1) := by decide +kernel
theorem dL_law_1539 : decode cL_law 1539 = .ok (.aload_n 0, 1) := by decide +kernel
theorem dL_law_1540 : decode cL_law 1540 = .ok (.iload_n 3, 1) := by decide +kernel
theorem dL_law_1541 : decode cL_law 1541 = .ok (.iconst 1, 1) := by decide +kernel
theorem dL_law_1542 : decode cL_law 1542 = .ok (.iadd, 1) := by decide +kernel
theorem dL_law_1543 : decode cL_law 1543 = .ok (.iaload, 1) := by decide +kernel
theorem dL_law_1544 : decode cL_law 1544 = .ok (.aload_n 0, 1) := by decide +kernel
theorem dL_law_1545 : decode cL_law 1545 = .ok (.iload_n 3, 1) := by decide +kernel
theorem dL_law_1546 : decode cL_law 1546 = .ok (.iconst 2, 1) := by decide +kernel
theorem dL_law_1547 : decode cL_law 1547 = .ok (.iadd, 1) := by decide +kernel
theorem dL_law_1548 : decode cL_law 1548 = .ok (.iaload, 1) := by decide +kernel
theorem dL_law_1549 : decode cL_law 1549 = .ok (.aload_n 0, 1) := by decide +kernel
theorem dL_law_1550 : decode cL_law 1550 = .ok (.iload_n 3, 1) := by decide +kernel
theorem dL_law_1551 : decode cL_law 1551 = .ok (.iconst 3, 1) := by decide +kernel
theorem dL_law_1552 : decode cL_law 1552 = .ok (.iadd, 1) := by decide +kernel
theorem dL_law_1553 : decode cL_law 1553 = .ok (.iaload, 1) := by decide +kernel
theorem dL_law_1554 : decode cL_law 1554 = .ok (.aload_n 0, 1) := by decide +kernel
theorem dL_law_1555 : decode cL_law 1555 = .ok (.iload_n 3, 1) := by decide +kernel
theorem dL_law_1556 : decode cL_law 1556 = .ok (.iconst 4, 1) := by decide +kernel
theorem dL_law_1557 : decode cL_law 1557 = .ok (.iadd, 1) := by decide +kernel
theorem dL_law_1558 : decode cL_law 1558 = .ok (.iaload, 1) := by decide +kernel
theorem dL_law_1559 : decode cL_law 1559 = .ok (.invokevirtual 180, 3) := by decide +kernel
theorem dL_law_1562 : decode cL_law 1562 = .ok (.aload_n 2, 1) := by decide +kernel
theorem dL_law_1563 : decode cL_law 1563 = .ok (.aload_n 0, 1) := by decide +kernel
theorem dL_law_1564 : decode cL_law 1564 = .ok (.iload_n 3, 1) := by decide +kernel
theorem dL_law_1565 : decode cL_law 1565 = .ok (.iconst 1, 1) := by decide +kernel
theorem dL_law_1566 : decode cL_law 1566 = .ok (.iadd, 1) := by decide +kernel
theorem dL_law_1567 : decode cL_law 1567 = .ok (.iaload, 1) := by decide +kernel
theorem dL_law_1568 : decode cL_law 1568 = .ok (.aload_n 0, 1) := by decide +kernel
theorem dL_law_1569 : decode cL_law 1569 = .ok (.iload_n 3, 1) := by decide +kernel
theorem dL_law_1570 : decode cL_law 1570 = .ok (.iconst 2, 1) := by decide +kernel
theorem dL_law_1571 : decode cL_law 1571 = .ok (.iadd, 1) := by decide +kernel
theorem dL_law_1572 : decode cL_law 1572 = .ok (.iaload, 1) := by decide +kernel
theorem dL_law_1573 : decode cL_law 1573 = .ok (.aload_n 0, 1) := by decide +kernel
theorem dL_law_1574 : decode cL_law 1574 = .ok (.iload_n 3, 1) := by decide +kernel
theorem dL_law_1575 : decode cL_law 1575 = .ok (.iconst 3, 1) := by decide +kernel
theorem dL_law_1576 : decode cL_law 1576 = .ok (.iadd, 1) := by decide +kernel
theorem dL_law_1577 : decode cL_law 1577 = .ok (.iaload, 1) := by decide +kernel
theorem dL_law_1578 : decode cL_law 1578 = .ok (.aload_n 0, 1) := by decide +kernel
theorem dL_law_1579 : decode cL_law 1579 = .ok (.iload_n 3, 1) := by decide +kernel
theorem dL_law_1580 : decode cL_law 1580 = .ok (.iconst 4, 1) := by decide +kernel
theorem dL_law_1581 : decode cL_law 1581 = .ok (.iadd, 1) := by decide +kernel
theorem dL_law_1582 : decode cL_law 1582 = .ok (.iaload, 1) := by decide +kernel
theorem dL_law_1583 : decode cL_law 1583 = .ok (.invokevirtual 184, 3) := by decide +kernel
theorem dL_law_1586 : decode cL_law 1586 = .ok (.if_icmp .eq 41, 3) := by decide +kernel
theorem dL_law_1589 : decode cL_law 1589 = .ok (.iconst 0, 1) := by decide +kernel
theorem dL_law_1590 : decode cL_law 1590 = .ok (.ireturn, 1) := by decide +kernel
theorem dL_law_1591 : decode cL_law 1591 = .ok (.aload_n 1, 1) := by decide +kernel
theorem dL_law_1592 : decode cL_law 1592 = .ok (.invokevirtual 185, 3) := by decide +kernel
theorem dL_law_1595 : decode cL_law 1595 = .ok (.aload_n 2, 1) := by decide +kernel
theorem dL_law_1596 : decode cL_law 1596 = .ok (.invokevirtual 188, 3) := by decide +kernel
theorem dL_law_1599 : decode cL_law 1599 = .ok (.if_icmp .eq 28, 3) := by decide +kernel
theorem dL_law_1602 : decode cL_law 1602 = .ok (.iconst 0, 1) := by decide +kernel
theorem dL_law_1603 : decode cL_law 1603 = .ok (.ireturn, 1) := by decide +kernel
theorem dL_law_1604 : decode cL_law 1604 = .ok (.aload_n 1, 1) := by decide +kernel
theorem dL_law_1605 : decode cL_law 1605 = .ok (.aload_n 0, 1) := by decide +kernel
theorem dL_law_1606 : decode cL_law 1606 = .ok (.iload_n 3, 1) := by decide +kernel
theorem dL_law_1607 : decode cL_law 1607 = .ok (.iconst 1, 1) := by decide +kernel
theorem dL_law_1608 : decode cL_law 1608 = .ok (.iadd, 1) := by decide +kernel
theorem dL_law_1609 : decode cL_law 1609 = .ok (.iaload, 1) := by decide +kernel
theorem dL_law_1610 : decode cL_law 1610 = .ok (.invokevirtual 189, 3) := by decide +kernel
theorem dL_law_1613 : decode cL_law 1613 = .ok (.aload_n 2, 1) := by decide +kernel
theorem dL_law_1614 : decode cL_law 1614 = .ok (.aload_n 0, 1) := by decide +kernel
theorem dL_law_1615 : decode cL_law 1615 = .ok (.iload_n 3, 1) := by decide +kernel
theorem dL_law_1616 : decode cL_law 1616 = .ok (.iconst 1, 1) := by decide +kernel
theorem dL_law_1617 : decode cL_law 1617 = .ok (.iadd, 1) := by decide +kernel
theorem dL_law_1618 : decode cL_law 1618 = .ok (.iaload, 1) := by decide +kernel
theorem dL_law_1619 : decode cL_law 1619 = .ok (.invokevirtual 192, 3) := by decide +kernel
theorem dL_law_1622 : decode cL_law 1622 = .ok (.if_icmp .eq 5, 3) := by decide +kernel
theorem dL_law_1625 : decode cL_law 1625 = .ok (.iconst 0, 1) := by decide +kernel
theorem dL_law_1626 : decode cL_law 1626 = .ok (.ireturn, 1) := by decide +kernel
theorem dL_law_1627 : decode cL_law 1627 = .ok (.iinc 3 5, 3) := by decide +kernel
theorem dL_law_1630 : decode cL_law 1630 = .ok (.goto (-1612), 3) := by decide +kernel
theorem dL_law_1633 : decode cL_law 1633 = .ok (.iconst 1, 1) := by decide +kernel
theorem dL_law_1634 : decode cL_law 1634 = .ok (.ireturn, 1) := by decide +kernel
end
section
/-! The small machine: a heap of cells at bs, bs + 1, ..; ints apart from the shape (which cell is what, which slot holds which reference). -/
def vz_tbl : List Cond := lw_tbl.filter goodWord
theorem vz_tb {w : Cond} (h : w ∈ lw_tbl) (hg : goodWord w = true) : w ∈ vz_tbl := List.mem_filter.mpr ⟨h, hg⟩
theorem ivX0 : ∀ w ∈ wsX00, w ∈ vz_tbl := fun w h => vz_tb (inX0 w h) ((by decide +kernel : ∀ w ∈ wsX00, goodWord w = true) w h)
theorem ivX1 : ∀ w ∈ wsX10, w ∈ vz_tbl := fun w h => vz_tb (inX1 w h) ((by decide +kernel : ∀ w ∈ wsX10, goodWord w = true) w h)
theorem ivX2 : ∀ w ∈ wsX20, w ∈ vz_tbl := fun w h => vz_tb (inX2 w h) ((by decide +kernel : ∀ w ∈ wsX20, goodWord w = true) w h)
theorem ivX3 : ∀ w ∈ wsX30, w ∈ vz_tbl := fun w h => vz_tb (inX3 w h) ((by decide +kernel : ∀ w ∈ wsX30, goodWord w = true) w h)
theorem ivX4 : ∀ w ∈ wsX40, w ∈ vz_tbl := fun w h => vz_tb (inX4 w h) ((by decide +kernel : ∀ w ∈ wsX40, goodWord w = true) w h)
theorem ivX5 : ∀ w ∈ wsX50, w ∈ vz_tbl := fun w h => vz_tb (inX5 w h) ((by decide +kernel : ∀ w ∈ wsX50, goodWord w = true) w h)
theorem ivX6 : ∀ w ∈ wsX60, w ∈ vz_tbl := fun w h => vz_tb (inX6 w h) ((by decide +kernel : ∀ w ∈ wsX60, goodWord w = true) w h)
theorem ivX7 : ∀ w ∈ wsX70, w ∈ vz_tbl := fun w h => vz_tb (inX7 w h) ((by decide +kernel : ∀ w ∈ wsX70, goodWord w = true) w h)
theorem ivX8 : ∀ w ∈ wsX80, w ∈ vz_tbl := fun w h => vz_tb (inX8 w h) ((by decide +kernel : ∀ w ∈ wsX80, goodWord w = true) w h)
theorem ivX9 : ∀ w ∈ wsX90, w ∈ vz_tbl := fun w h => vz_tb (inX9 w h) ((by decide +kernel : ∀ w ∈ wsX90, goodWord w = true) w h)
abbrev vz_Z : Type := va_G × (Nat → ClassId) × Nat × (Nat → Nat) × (Nat → Nat)
abbrev vz_M : Type := Program × Launch × Env × Room × State × MethodId × Array Value × List Frame × Method × Code × Nat × (State → Prop)
abbrev vz_G : Type := Nat → Nat × Nat × (Nat → Option (Option Nat))
abbrev vz_I : Type := Nat → Nat → Int32
abbrev vz_L : Type := List (Nat × Option Value)
def vz_ad (z : vz_Z) (a : Nat) : Nat := if a < 1048576 then z.2.2.1 + a else z.2.2.2.1 (a - 1048576)
def vz_cv (z : vz_Z) : Value → Value
  | .ref a => .ref (vz_ad z a)
  | v => v
theorem vz_cv_cat (z : vz_Z) (v : Value) : (vz_cv z v).category = v.category := by cases v <;> rfl
def vz_aty : Nat → FieldType
  | 10 => .int
  | 11 => .byte
  | 12 => .boolean
  | 13 => .object RX0
  | 14 => .object RX3
  | 15 => .object RX4
  | _ => .object RX7
def vz_tys (z : vz_Z) : List (ClassId × FieldType) := [(z.2.1 10, .int), (z.2.1 11, .byte), (z.2.1 12, .boolean), (z.2.1 13, .object RX0), (z.2.1 14, .object RX3), (z.2.1 15, .object RX4), (z.2.1 16, .object RX7)]
def vz_nF (ci : Nat) : Nat := ([4, 5, 2, 3, 3, 2, 9, 9, 11, 31] : List Nat).getD ci 0
def vz_fv (z : vz_Z) (r : Option (Option Nat)) (x : Int32) : Value := match r with
  | none => .int x
  | some q => va_rf (q.map (vz_ad z))
def vz_fs (z : vz_Z) (r : Nat → Option (Option Nat)) (f : Nat → Int32) (n : Nat) : List Value := (List.range n).map (fun k => vz_fv z (r k) (f k))
def vz_el (z : vz_Z) (G : vz_G) (σ : vz_I) (a : Nat) : va_E :=
  if (G a).1 < 10 then .inr ((G a).1, vz_fs z (G a).2.2 (σ a) (vz_nF (G a).1))
  else if (G a).1 < 13 then .inl (z.2.1 (G a).1, (G a).2.1, .inl (σ a))
  else .inl (z.2.1 (G a).1, (G a).2.1, .inr (.inr (.inr (.inr (fun i => ((G a).2.2 i).join.map (vz_ad z))))))
def vz_W (z : vz_Z) (G : vz_G) (σ : vz_I) (N : Nat) : va_W := (List.range N).map (fun a => (z.2.2.1 + a, vz_el z G σ a))
def vz_P (z : vz_Z) (G : vz_G) (σ : vz_I) (N : Nat) (H : Heap) : Prop := H.size = z.2.2.1 + N ∧ N ≤ 1048576 ∧ (∀ a, N ≤ a → (G a).1 = 99) ∧ va_P z.1 vwCl (vz_W z G σ N) H
abbrev vz_A (z : vz_Z) : Nat → Prop := fun q => z.2.2.1 ≤ q
theorem vz_W_get {z : vz_Z} {G : vz_G} {σ : vz_I} {N a : Nat} (h : a < N) : (vz_W z G σ N)[a]? = some (z.2.2.1 + a, vz_el z G σ a) := by
  simp [vz_W, List.getElem?_map, List.getElem?_range h]
theorem vz_W_len {z : vz_Z} {G : vz_G} {σ : vz_I} {N : Nat} : (vz_W z G σ N).length = N := by simp [vz_W]
theorem vz_W_D {z : vz_Z} {G : vz_G} {σ : vz_I} {N : Nat} : va_D (vz_A z) (vz_W z G σ N) := by
  have key : ∀ (k : Nat) (q : Nat × va_E), (vz_W z G σ N)[k]? = some q → q.1 = z.2.2.1 + k := by
    intro k q hk
    have hl : k < N := by
      have := (List.getElem?_eq_some_iff.mp hk).1
      rw [vz_W_len] at this
      exact this
    rw [vz_W_get hl] at hk
    cases hk
    rfl
  refine ⟨fun i j x y hi hj e => ?_, fun k q hk => ?_⟩
  · rw [key i x hi, key j y hj] at e
    omega
  · show z.2.2.1 ≤ q.1
    rw [key k q hk]
    omega
theorem vz_W_set {z : vz_Z} {G G' : vz_G} {σ σ' : vz_I} {N a : Nat} {e : va_E} (h : a < N) (he : vz_el z G' σ' a = e) (ho : ∀ b, b ≠ a → vz_el z G' σ' b = vz_el z G σ b) : (vz_W z G σ N).set a (z.2.2.1 + a, e) = vz_W z G' σ' N := by
  apply List.ext_getElem?
  intro j
  by_cases hj : j = a
  · subst hj
    rw [List.getElem?_set_self (by rw [vz_W_len]; exact h), vz_W_get h, he]
  · rw [List.getElem?_set_ne (Ne.symm hj)]
    by_cases hl : j < N
    · rw [vz_W_get hl, vz_W_get hl, ho j hj]
    · rw [List.getElem?_eq_none (by rw [vz_W_len]; omega), List.getElem?_eq_none (by rw [vz_W_len]; omega)]
theorem vz_W_push {z : vz_Z} {G G' : vz_G} {σ σ' : vz_I} {N : Nat} {e : va_E} (he : vz_el z G' σ' N = e) (ho : ∀ b, b < N → vz_el z G' σ' b = vz_el z G σ b) : vz_W z G σ N ++ [(z.2.2.1 + N, e)] = vz_W z G' σ' (N + 1) := by
  simp only [vz_W, List.range_succ, List.map_append, List.map_cons, List.map_nil, he]
  congr 1
  apply List.map_congr_left
  intro b hb
  rw [ho b (List.mem_range.mp hb)]
/-- what is known of the start: classes, rows -/
def vz_K (z : vz_Z) (U : State) : Prop := va_K z.1 vwCl (vz_tys z) U
/-- the locals -/
def vz_lk : vz_L → Nat → Option Value
  | [], _ => none
  | q :: L, j => cond (Nat.beq q.1 j) q.2 (vz_lk L j)
def vz_LH (z : vz_Z) (ls : Array Slot) (nL : Nat) (L : vz_L) : Prop := lv_has ls nL [] ∧ ∀ i v, vz_lk L i = some v → ls[i]? = some (.val (vz_cv z v))
def vz_nc (L : vz_L) : Nat → Bool
  | 0 => true
  | j + 1 => match vz_lk L j with
    | some v => Nat.beq v.category 1
    | none => true
def vz_vis (z : vz_Z) (L : vz_L) : List (Nat × Value) := L.filterMap (fun q => (vz_lk L q.1).map (fun v => (q.1, vz_cv z v)))
theorem vz_lk_mem {L : vz_L} {j : Nat} {v : Value} (h : vz_lk L j = some v) : ∃ o, (j, o) ∈ L := by
  induction L with
  | nil => cases h
  | cons q L ih =>
    obtain ⟨i, o⟩ := q
    by_cases hij : Nat.beq i j = true
    · have : i = j := Nat.eq_of_beq_eq_true hij
      subst this
      exact ⟨o, List.mem_cons_self⟩
    · simp only [vz_lk, Bool.not_eq_true _ ▸ hij, cond_false] at h
      obtain ⟨o', h'⟩ := ih h
      exact ⟨o', List.mem_cons_of_mem _ h'⟩
theorem vz_vis_mem {z : vz_Z} {L : vz_L} {j : Nat} {v : Value} (h : vz_lk L j = some v) : (j, vz_cv z v) ∈ vz_vis z L := by
  obtain ⟨o, ho⟩ := vz_lk_mem h
  exact List.mem_filterMap.mpr ⟨(j, o), ho, by simp [h]⟩
theorem vz_vis_has {z : vz_Z} {ls : Array Slot} {nL : Nat} {L : vz_L} (h : vz_LH z ls nL L) : lv_has ls nL (vz_vis z L) := by
  refine ⟨h.1.1, h.1.2.1, fun q hq => ?_⟩
  obtain ⟨x, -, hx⟩ := List.mem_filterMap.mp hq
  cases hl : vz_lk L x.1 with
  | none => rw [hl] at hx; cases hx
  | some v =>
    rw [hl] at hx
    cases hx
    exact h.2 _ _ hl
theorem vz_beq_ne {i j : Nat} (h : i ≠ j) : Nat.beq i j = false := by
  cases hb : Nat.beq i j with
  | false => rfl
  | true => exact absurd (Nat.eq_of_beq_eq_true hb) h
theorem vz_st1 {z : vz_Z} {ls' : Array Slot} {nL : Nat} {L : vz_L} {i : Nat} {v : Value} (hc : v.category = 1) (hn : vz_nc L i = true) (h' : lv_has ls' nL ((i, vz_cv z v) :: (vz_vis z L).filter (fun q => !(q.1 == i) && !(q.1 + 1 == i && q.2.category == 2)))) : vz_LH z ls' nL ((i, some v) :: L) := by
  refine ⟨⟨h'.1, h'.2.1, fun q hq => by cases hq⟩, fun j w hj => ?_⟩
  by_cases hij : i = j
  · subst hij
    have : vz_lk ((i, some v) :: L) i = some v := by simp [vz_lk]
    rw [this] at hj
    cases hj
    exact h'.2.2 (i, vz_cv z v) List.mem_cons_self
  · simp only [vz_lk, vz_beq_ne hij, cond_false] at hj
    refine h'.2.2 (j, vz_cv z w) (List.mem_cons_of_mem _ (List.mem_filter.mpr ⟨vz_vis_mem hj, ?_⟩))
    have hji : ¬ j = i := fun q => hij q.symm
    by_cases hj1 : j + 1 = i
    · subst hj1
      simp only [vz_nc, hj] at hn
      have hw : w.category = 1 := Nat.eq_of_beq_eq_true hn
      simp [vz_cv_cat, hw]
    · simp [hji, hj1]
theorem vz_st2 {z : vz_Z} {ls' : Array Slot} {nL : Nat} {L : vz_L} {i : Nat} {v : Value} (hn : vz_nc L i = true) (h' : lv_has ls' nL ((i, vz_cv z v) :: (vz_vis z L).filter (fun q => !(q.1 == i) && (!(q.1 == i + 1) && !(q.1 + 1 == i && q.2.category == 2))))) : vz_LH z ls' nL ((i, some v) :: (i + 1, none) :: L) := by
  refine ⟨⟨h'.1, h'.2.1, fun q hq => by cases hq⟩, fun j w hj => ?_⟩
  by_cases hij : i = j
  · subst hij
    have : vz_lk ((i, some v) :: (i + 1, none) :: L) i = some v := by simp [vz_lk]
    rw [this] at hj
    cases hj
    exact h'.2.2 (i, vz_cv z v) List.mem_cons_self
  · by_cases hij2 : i + 1 = j
    · subst hij2
      have : vz_lk ((i, some v) :: (i + 1, none) :: L) (i + 1) = none := by simp [vz_lk, vz_beq_ne hij]
      rw [this] at hj
      cases hj
    · simp only [vz_lk, vz_beq_ne hij, vz_beq_ne hij2, cond_false] at hj
      refine h'.2.2 (j, vz_cv z w) (List.mem_cons_of_mem _ (List.mem_filter.mpr ⟨vz_vis_mem hj, ?_⟩))
      have hji : ¬ j = i := fun q => hij q.symm
      have hji2 : ¬ j = i + 1 := fun q => hij2 q.symm
      by_cases hj1 : j + 1 = i
      · subst hj1
        simp only [vz_nc, hj] at hn
        have hw : w.category = 1 := Nat.eq_of_beq_eq_true hn
        simp [vz_cv_cat, hw]; omega
      · simp [hji, hj1, hji2]
def vz_arg : Nat → List Value → vz_L
  | _, [] => []
  | i, v :: vs => (i, some v) :: vz_arg (if v.category = 2 then i + 2 else i + 1) vs
theorem vz_arg_in (z : vz_Z) : ∀ (vs : List Value) (k i : Nat) (v : Value), vz_lk (vz_arg k vs) i = some v → (i, vz_cv z v) ∈ lv_args k (vs.map (vz_cv z))
  | [], _, _, _, h => by cases h
  | w :: vs, k, i, v, h => by
    by_cases hki : k = i
    · subst hki
      have : vz_lk (vz_arg k (w :: vs)) k = some w := by simp [vz_arg, vz_lk]
      rw [this] at h
      cases h
      simp [lv_args]
    · simp only [vz_arg, vz_lk, vz_beq_ne hki, cond_false] at h
      simp only [List.map_cons, lv_args, vz_cv_cat]
      exact List.mem_cons_of_mem _ (vz_arg_in z vs _ i v h)
theorem vz_entry (z : vz_Z) (vs : List Value) {n : Nat} (h : (lg_sl (vs.map (vz_cv z))).length ≤ n) : vz_LH z ((lg_sl (vs.map (vz_cv z)) ++ List.replicate (n - (lg_sl (vs.map (vz_cv z))).length) Slot.unset).toArray) n (vz_arg 0 vs) := by
  have h0 := lv_entry (vs.map (vz_cv z)) h
  exact ⟨⟨h0.1, h0.2.1, fun q hq => by cases hq⟩, fun i v hv => h0.2.2 (i, vz_cv z v) (vz_arg_in z vs 0 i v hv)⟩
/-- the frame's fixed facts: the machine, the code, its class, the words, the known classes, the depth that calls may take -/
def vz_C (z : vz_Z) (μ : vz_M) (cc : ByteArray) (own : String) (dp nL : Nat) : Prop :=
  μ.1.tables.exec = Jvm.exec ∧ μ.2.2.2.2.2.2.2.2.2.1.code = cc ∧ μ.2.2.2.2.2.2.2.2.2.1.maxLocals = μ.2.2.2.2.2.2.2.2.2.2.1 ∧ μ.2.2.2.2.1.vm.findClass own = some μ.2.2.2.2.2.1.cls ∧ (∀ w ∈ vz_tbl, w.before μ.2.2.2.2.2.2.1 μ.2.2.2.2.1 = true) ∧ vz_K z μ.2.2.2.2.1 ∧ z.2.2.1 ≤ μ.2.2.2.2.1.heap.size ∧ dp ≤ μ.2.2.2.1.frames ∧ 35 * dp ≤ μ.2.2.2.1.locals ∧ μ.2.2.2.2.2.2.2.2.2.2.1 = nL
def vz_V (z : vz_Z) (μ : vz_M) (kc ks pc : Nat) (L : vz_L) (st : List Value) (G : vz_G) (σ : vz_I) (N : Nat) : Prop :=
  ∀ (H : Heap) (locs : List Loc) (ls : Array Slot), vz_P z G σ N H → va_S (vz_A z) μ.2.2.2.2.1.heap H locs → vz_LH z ls μ.2.2.2.2.2.2.2.2.2.2.1 L →
    W μ.1 μ.2.1 μ.2.2.1 μ.2.2.2.1 μ.2.2.2.2.1 μ.2.2.2.2.2.1 μ.2.2.2.2.2.2.1 μ.2.2.2.2.2.2.2.1 μ.2.2.2.2.2.2.2.2.1 μ.2.2.2.2.2.2.2.2.2.1 H locs kc ks μ.2.2.2.2.2.2.2.2.2.2.2 (F0 μ.2.2.2.2.2.1 pc ls (st.map (vz_cv z)))
end
section
section VZR
variable {z : vz_Z} {μ : vz_M} {cc : ByteArray} {own : String} {dp nL kc ks pc N : Nat} {L : vz_L} {st : List Value} {G : vz_G} {σ : vz_I}
theorem vr_iconst (hc : vz_C z μ cc own dp nL) {n : Int} (hd : decode cc pc = .ok (.iconst n, 1)) (v : Int32) (hv : Int32.ofInt n = v) (h : vz_V z μ kc ks (pc + 1) L (.int v :: st) G σ N) : vz_V z μ kc ks pc L st G σ N :=
  fun H locs ls hP hS hL => lv_iconst hc.1 hc.2.1 hd hv (h H locs ls hP hS hL)
theorem vr_bipush (hc : vz_C z μ cc own dp nL) {n : Int} (hd : decode cc pc = .ok (.bipush n, 2)) (v : Int32) (hv : (Int8.ofInt n).toInt32 = v) (h : vz_V z μ kc ks (pc + 2) L (.int v :: st) G σ N) : vz_V z μ kc ks pc L st G σ N :=
  fun H locs ls hP hS hL => lv_bipush hc.1 hc.2.1 hd hv (h H locs ls hP hS hL)
theorem vr_sipush (hc : vz_C z μ cc own dp nL) {n : Int} (hd : decode cc pc = .ok (.sipush n, 3)) (v : Int32) (hv : (Int16.ofInt n).toInt32 = v) (h : vz_V z μ kc ks (pc + 3) L (.int v :: st) G σ N) : vz_V z μ kc ks pc L st G σ N :=
  fun H locs ls hP hS hL => lv_sipush hc.1 hc.2.1 hd hv (h H locs ls hP hS hL)
theorem vr_lconst (hc : vz_C z μ cc own dp nL) {n : Fin 2} (hd : decode cc pc = .ok (.lconst n, 1)) (v : Int64) (hv : Int64.ofNat (n : Nat) = v) (h : vz_V z μ kc ks (pc + 1) L (.long v :: st) G σ N) : vz_V z μ kc ks pc L st G σ N :=
  fun H locs ls hP hS hL => lv_lconst hc.1 hc.2.1 hd hv (h H locs ls hP hS hL)
theorem vr_null (hc : vz_C z μ cc own dp nL) (hd : decode cc pc = .ok (.aconst_null, 1)) (h : vz_V z μ kc ks (pc + 1) L (.null :: st) G σ N) : vz_V z μ kc ks pc L st G σ N :=
  fun H locs ls hP hS hL => lv_null hc.1 hc.2.1 hd (h H locs ls hP hS hL)
theorem vr_ldc (hc : vz_C z μ cc own dp nL) {idx : Nat} (hd : decode cc pc = .ok (.ldc idx, 2)) (v : Int32) (hm : Cond.constant own idx v ∈ vz_tbl) (h : vz_V z μ kc ks (pc + 2) L (.int v :: st) G σ N) : vz_V z μ kc ks pc L st G σ N :=
  fun H locs ls hP hS hL => lv_ldc hc.1 hc.2.1 hc.2.2.2.1 (hc.2.2.2.2.1 _ hm) hd (h H locs ls hP hS hL)
theorem vr_ldcw (hc : vz_C z μ cc own dp nL) {idx : Nat} (hd : decode cc pc = .ok (.ldc_w idx, 3)) (v : Int32) (hm : Cond.constant own idx v ∈ vz_tbl) (h : vz_V z μ kc ks (pc + 3) L (.int v :: st) G σ N) : vz_V z μ kc ks pc L st G σ N :=
  fun H locs ls hP hS hL => lv_ldcw hc.1 hc.2.1 hc.2.2.2.1 (hc.2.2.2.2.1 _ hm) hd (h H locs ls hP hS hL)
theorem vr_ldc2 (hc : vz_C z μ cc own dp nL) {idx : Nat} (hd : decode cc pc = .ok (.ldc2_w idx, 3)) (v : Int64) (hm : Cond.constantLong own idx v ∈ vz_tbl) (h : vz_V z μ kc ks (pc + 3) L (.long v :: st) G σ N) : vz_V z μ kc ks pc L st G σ N :=
  fun H locs ls hP hS hL => lv_ldc2 hc.1 hc.2.1 hc.2.2.2.1 (hc.2.2.2.2.1 _ hm) hd (h H locs ls hP hS hL)
theorem vr_iload_n (hc : vz_C z μ cc own dp nL) {k : Fin 4} (hd : decode cc pc = .ok (.iload_n k, 1)) {x : Int32} (hl : vz_lk L (k : Nat) = some (.int x)) (h : vz_V z μ kc ks (pc + 1) L (.int x :: st) G σ N) : vz_V z μ kc ks pc L st G σ N :=
  fun H locs ls hP hS hL => lv_iload_n hc.1 hc.2.1 hd rfl (hL.2 _ _ hl) (h H locs ls hP hS hL)
theorem vr_iload (hc : vz_C z μ cc own dp nL) {i : Nat} (hd : decode cc pc = .ok (.iload i, 2)) {x : Int32} (hl : vz_lk L i = some (.int x)) (h : vz_V z μ kc ks (pc + 2) L (.int x :: st) G σ N) : vz_V z μ kc ks pc L st G σ N :=
  fun H locs ls hP hS hL => lv_iload hc.1 hc.2.1 hd (hL.2 _ _ hl) (h H locs ls hP hS hL)
theorem vr_lload_n (hc : vz_C z μ cc own dp nL) {k : Fin 4} (hd : decode cc pc = .ok (.lload_n k, 1)) {x : Int64} (hl : vz_lk L (k : Nat) = some (.long x)) (h : vz_V z μ kc ks (pc + 1) L (.long x :: st) G σ N) : vz_V z μ kc ks pc L st G σ N :=
  fun H locs ls hP hS hL => lv_lload_n hc.1 hc.2.1 hd rfl (hL.2 _ _ hl) (h H locs ls hP hS hL)
theorem vr_lload (hc : vz_C z μ cc own dp nL) {i : Nat} (hd : decode cc pc = .ok (.lload i, 2)) {x : Int64} (hl : vz_lk L i = some (.long x)) (h : vz_V z μ kc ks (pc + 2) L (.long x :: st) G σ N) : vz_V z μ kc ks pc L st G σ N :=
  fun H locs ls hP hS hL => lv_lload hc.1 hc.2.1 hd (hL.2 _ _ hl) (h H locs ls hP hS hL)
theorem vr_aload_n (hc : vz_C z μ cc own dp nL) {k : Fin 4} (hd : decode cc pc = .ok (.aload_n k, 1)) {a : Nat} (hl : vz_lk L (k : Nat) = some (.ref a)) (h : vz_V z μ kc ks (pc + 1) L (.ref a :: st) G σ N) : vz_V z μ kc ks pc L st G σ N :=
  fun H locs ls hP hS hL => lv_aload_n hc.1 hc.2.1 hd rfl (hL.2 _ _ hl) (h H locs ls hP hS hL)
theorem vr_aload (hc : vz_C z μ cc own dp nL) {i : Nat} (hd : decode cc pc = .ok (.aload i, 2)) {a : Nat} (hl : vz_lk L i = some (.ref a)) (h : vz_V z μ kc ks (pc + 2) L (.ref a :: st) G σ N) : vz_V z μ kc ks pc L st G σ N :=
  fun H locs ls hP hS hL => lv_aload hc.1 hc.2.1 hd (hL.2 _ _ hl) (h H locs ls hP hS hL)
theorem vr_aloadN_n (hc : vz_C z μ cc own dp nL) {k : Fin 4} (hd : decode cc pc = .ok (.aload_n k, 1))  (hl : vz_lk L (k : Nat) = some (.null)) (h : vz_V z μ kc ks (pc + 1) L (.null :: st) G σ N) : vz_V z μ kc ks pc L st G σ N :=
  fun H locs ls hP hS hL => lv_aload_nN hc.1 hc.2.1 hd rfl (hL.2 _ _ hl) (h H locs ls hP hS hL)
theorem vr_aloadN (hc : vz_C z μ cc own dp nL) {i : Nat} (hd : decode cc pc = .ok (.aload i, 2))  (hl : vz_lk L i = some (.null)) (h : vz_V z μ kc ks (pc + 2) L (.null :: st) G σ N) : vz_V z μ kc ks pc L st G σ N :=
  fun H locs ls hP hS hL => lv_aloadN hc.1 hc.2.1 hd (hL.2 _ _ hl) (h H locs ls hP hS hL)
theorem vr_istore_n (hc : vz_C z μ cc own dp nL) {k : Fin 4} (hd : decode cc pc = .ok (.istore_n k, 1)) {x : Int32} (hb : (k : Nat) < nL) (hn : vz_nc L (k : Nat) = true) (h : vz_V z μ kc ks (pc + 1) (((k : Nat), some (.int x)) :: L) st G σ N) : vz_V z μ kc ks pc L (.int x :: st) G σ N :=
  fun H locs ls hP hS hL => lv_istore_n hc.1 hc.2.1 hd rfl (vz_vis_has hL) (hc.2.2.2.2.2.2.2.2.2.symm ▸ hb) rfl (fun ls' hl => h H locs ls' hP hS (vz_st1 rfl hn hl))
theorem vr_istore (hc : vz_C z μ cc own dp nL) {i : Nat} (hd : decode cc pc = .ok (.istore i, 2)) {x : Int32} (hb : i < nL) (hn : vz_nc L i = true) (h : vz_V z μ kc ks (pc + 2) ((i, some (.int x)) :: L) st G σ N) : vz_V z μ kc ks pc L (.int x :: st) G σ N :=
  fun H locs ls hP hS hL => lv_istore hc.1 hc.2.1 hd (vz_vis_has hL) (hc.2.2.2.2.2.2.2.2.2.symm ▸ hb) rfl (fun ls' hl => h H locs ls' hP hS (vz_st1 rfl hn hl))
theorem vr_astore_n (hc : vz_C z μ cc own dp nL) {k : Fin 4} (hd : decode cc pc = .ok (.astore_n k, 1)) {a : Nat} (hb : (k : Nat) < nL) (hn : vz_nc L (k : Nat) = true) (h : vz_V z μ kc ks (pc + 1) (((k : Nat), some (.ref a)) :: L) st G σ N) : vz_V z μ kc ks pc L (.ref a :: st) G σ N :=
  fun H locs ls hP hS hL => lv_astore_n hc.1 hc.2.1 hd rfl (vz_vis_has hL) (hc.2.2.2.2.2.2.2.2.2.symm ▸ hb) rfl (fun ls' hl => h H locs ls' hP hS (vz_st1 rfl hn hl))
theorem vr_astore (hc : vz_C z μ cc own dp nL) {i : Nat} (hd : decode cc pc = .ok (.astore i, 2)) {a : Nat} (hb : i < nL) (hn : vz_nc L i = true) (h : vz_V z μ kc ks (pc + 2) ((i, some (.ref a)) :: L) st G σ N) : vz_V z μ kc ks pc L (.ref a :: st) G σ N :=
  fun H locs ls hP hS hL => lv_astore hc.1 hc.2.1 hd (vz_vis_has hL) (hc.2.2.2.2.2.2.2.2.2.symm ▸ hb) rfl (fun ls' hl => h H locs ls' hP hS (vz_st1 rfl hn hl))
theorem vr_astoreN_n (hc : vz_C z μ cc own dp nL) {k : Fin 4} (hd : decode cc pc = .ok (.astore_n k, 1))  (hb : (k : Nat) < nL) (hn : vz_nc L (k : Nat) = true) (h : vz_V z μ kc ks (pc + 1) (((k : Nat), some (.null)) :: L) st G σ N) : vz_V z μ kc ks pc L (.null :: st) G σ N :=
  fun H locs ls hP hS hL => lv_astore_nN hc.1 hc.2.1 hd rfl (vz_vis_has hL) (hc.2.2.2.2.2.2.2.2.2.symm ▸ hb) rfl (fun ls' hl => h H locs ls' hP hS (vz_st1 rfl hn hl))
theorem vr_astoreN (hc : vz_C z μ cc own dp nL) {i : Nat} (hd : decode cc pc = .ok (.astore i, 2))  (hb : i < nL) (hn : vz_nc L i = true) (h : vz_V z μ kc ks (pc + 2) ((i, some (.null)) :: L) st G σ N) : vz_V z μ kc ks pc L (.null :: st) G σ N :=
  fun H locs ls hP hS hL => lv_astoreN hc.1 hc.2.1 hd (vz_vis_has hL) (hc.2.2.2.2.2.2.2.2.2.symm ▸ hb) rfl (fun ls' hl => h H locs ls' hP hS (vz_st1 rfl hn hl))
theorem vr_lstore_n (hc : vz_C z μ cc own dp nL) {k : Fin 4} (hd : decode cc pc = .ok (.lstore_n k, 1)) {x : Int64} (hb : (k : Nat) + 1 < nL) (hn : vz_nc L (k : Nat) = true) (h : vz_V z μ kc ks (pc + 1) (((k : Nat), some (.long x)) :: ((k : Nat) + 1, none) :: L) st G σ N) : vz_V z μ kc ks pc L (.long x :: st) G σ N :=
  fun H locs ls hP hS hL => lv_lstore_n hc.1 hc.2.1 hd rfl (vz_vis_has hL) (hc.2.2.2.2.2.2.2.2.2.symm ▸ hb) rfl (fun ls' hl => h H locs ls' hP hS (vz_st2 hn hl))
theorem vr_lstore (hc : vz_C z μ cc own dp nL) {i : Nat} (hd : decode cc pc = .ok (.lstore i, 2)) {x : Int64} (hb : i + 1 < nL) (hn : vz_nc L i = true) (h : vz_V z μ kc ks (pc + 2) ((i, some (.long x)) :: (i + 1, none) :: L) st G σ N) : vz_V z μ kc ks pc L (.long x :: st) G σ N :=
  fun H locs ls hP hS hL => lv_lstore hc.1 hc.2.1 hd (vz_vis_has hL) (hc.2.2.2.2.2.2.2.2.2.symm ▸ hb) rfl (fun ls' hl => h H locs ls' hP hS (vz_st2 hn hl))
theorem vr_iinc (hc : vz_C z μ cc own dp nL) {i : Nat} {n : Int} (hd : decode cc pc = .ok (.iinc i n, 3)) {x : Int32} (v : Int32) (hv : Int32.ofInt n = v) (hl : vz_lk L i = some (.int x)) (hb : i < nL) (hn : vz_nc L i = true) (h : vz_V z μ kc ks (pc + 3) ((i, some (.int (x + v))) :: L) st G σ N) : vz_V z μ kc ks pc L st G σ N := by
  intro H locs ls hP hS hL
  obtain ⟨k, hk⟩ := List.getElem?_of_mem (vz_vis_mem (z := z) hl)
  subst hv
  exact lv_iinc hc.1 hc.2.1 hd (vz_vis_has hL) hk rfl (hc.2.2.2.2.2.2.2.2.2.symm ▸ hb) rfl (fun ls' hl => h H locs ls' hP hS (vz_st1 rfl hn hl))
theorem vr_iadd (hc : vz_C z μ cc own dp nL) {x y : Int32} (hd : decode cc pc = .ok (.iadd, 1))  (h : vz_V z μ kc ks (pc + 1) L (.int (x + y) :: st) G σ N) : vz_V z μ kc ks pc L (.int y :: .int x :: st) G σ N :=
  fun H locs ls hP hS hL => lv_iadd hc.1 hc.2.1 hd (h H locs ls hP hS hL)
theorem vr_isub (hc : vz_C z μ cc own dp nL) {x y : Int32} (hd : decode cc pc = .ok (.isub, 1))  (h : vz_V z μ kc ks (pc + 1) L (.int (x - y) :: st) G σ N) : vz_V z μ kc ks pc L (.int y :: .int x :: st) G σ N :=
  fun H locs ls hP hS hL => lv_isub hc.1 hc.2.1 hd (h H locs ls hP hS hL)
theorem vr_imul (hc : vz_C z μ cc own dp nL) {x y : Int32} (hd : decode cc pc = .ok (.imul, 1))  (h : vz_V z μ kc ks (pc + 1) L (.int (x * y) :: st) G σ N) : vz_V z μ kc ks pc L (.int y :: .int x :: st) G σ N :=
  fun H locs ls hP hS hL => lv_imul hc.1 hc.2.1 hd (h H locs ls hP hS hL)
theorem vr_iand (hc : vz_C z μ cc own dp nL) {x y : Int32} (hd : decode cc pc = .ok (.iand, 1))  (h : vz_V z μ kc ks (pc + 1) L (.int (x &&& y) :: st) G σ N) : vz_V z μ kc ks pc L (.int y :: .int x :: st) G σ N :=
  fun H locs ls hP hS hL => lv_iand hc.1 hc.2.1 hd (h H locs ls hP hS hL)
theorem vr_ior (hc : vz_C z μ cc own dp nL) {x y : Int32} (hd : decode cc pc = .ok (.ior, 1))  (h : vz_V z μ kc ks (pc + 1) L (.int (x ||| y) :: st) G σ N) : vz_V z μ kc ks pc L (.int y :: .int x :: st) G σ N :=
  fun H locs ls hP hS hL => lv_ior hc.1 hc.2.1 hd (h H locs ls hP hS hL)
theorem vr_ixor (hc : vz_C z μ cc own dp nL) {x y : Int32} (hd : decode cc pc = .ok (.ixor, 1))  (h : vz_V z μ kc ks (pc + 1) L (.int (x ^^^ y) :: st) G σ N) : vz_V z μ kc ks pc L (.int y :: .int x :: st) G σ N :=
  fun H locs ls hP hS hL => lv_ixor hc.1 hc.2.1 hd (h H locs ls hP hS hL)
theorem vr_ishl (hc : vz_C z μ cc own dp nL) {x y : Int32} (hd : decode cc pc = .ok (.ishl, 1))  (h : vz_V z μ kc ks (pc + 1) L (.int (x <<< (y &&& 31)) :: st) G σ N) : vz_V z μ kc ks pc L (.int y :: .int x :: st) G σ N :=
  fun H locs ls hP hS hL => lv_ishl hc.1 hc.2.1 hd (h H locs ls hP hS hL)
theorem vr_ishr (hc : vz_C z μ cc own dp nL) {x y : Int32} (hd : decode cc pc = .ok (.ishr, 1))  (h : vz_V z μ kc ks (pc + 1) L (.int (x >>> (y &&& 31)) :: st) G σ N) : vz_V z μ kc ks pc L (.int y :: .int x :: st) G σ N :=
  fun H locs ls hP hS hL => lv_ishr hc.1 hc.2.1 hd (h H locs ls hP hS hL)
theorem vr_ladd (hc : vz_C z μ cc own dp nL) {x y : Int64} (hd : decode cc pc = .ok (.ladd, 1))  (h : vz_V z μ kc ks (pc + 1) L (.long (x + y) :: st) G σ N) : vz_V z μ kc ks pc L (.long y :: .long x :: st) G σ N :=
  fun H locs ls hP hS hL => lv_ladd hc.1 hc.2.1 hd (h H locs ls hP hS hL)
theorem vr_lsub (hc : vz_C z μ cc own dp nL) {x y : Int64} (hd : decode cc pc = .ok (.lsub, 1))  (h : vz_V z μ kc ks (pc + 1) L (.long (x - y) :: st) G σ N) : vz_V z μ kc ks pc L (.long y :: .long x :: st) G σ N :=
  fun H locs ls hP hS hL => lv_lsub hc.1 hc.2.1 hd (h H locs ls hP hS hL)
theorem vr_lmul (hc : vz_C z μ cc own dp nL) {x y : Int64} (hd : decode cc pc = .ok (.lmul, 1))  (h : vz_V z μ kc ks (pc + 1) L (.long (x * y) :: st) G σ N) : vz_V z μ kc ks pc L (.long y :: .long x :: st) G σ N :=
  fun H locs ls hP hS hL => lv_lmul hc.1 hc.2.1 hd (h H locs ls hP hS hL)
theorem vr_land (hc : vz_C z μ cc own dp nL) {x y : Int64} (hd : decode cc pc = .ok (.land, 1))  (h : vz_V z μ kc ks (pc + 1) L (.long (x &&& y) :: st) G σ N) : vz_V z μ kc ks pc L (.long y :: .long x :: st) G σ N :=
  fun H locs ls hP hS hL => lv_land hc.1 hc.2.1 hd (h H locs ls hP hS hL)
theorem vr_lor (hc : vz_C z μ cc own dp nL) {x y : Int64} (hd : decode cc pc = .ok (.lor, 1))  (h : vz_V z μ kc ks (pc + 1) L (.long (x ||| y) :: st) G σ N) : vz_V z μ kc ks pc L (.long y :: .long x :: st) G σ N :=
  fun H locs ls hP hS hL => lv_lor hc.1 hc.2.1 hd (h H locs ls hP hS hL)
theorem vr_lxor (hc : vz_C z μ cc own dp nL) {x y : Int64} (hd : decode cc pc = .ok (.lxor, 1))  (h : vz_V z μ kc ks (pc + 1) L (.long (x ^^^ y) :: st) G σ N) : vz_V z μ kc ks pc L (.long y :: .long x :: st) G σ N :=
  fun H locs ls hP hS hL => lv_lxor hc.1 hc.2.1 hd (h H locs ls hP hS hL)
theorem vr_idiv (hc : vz_C z μ cc own dp nL) {x y : Int32} (hd : decode cc pc = .ok (.idiv, 1)) (hne : ¬ y = 0) (h : vz_V z μ kc ks (pc + 1) L (.int (x / y) :: st) G σ N) : vz_V z μ kc ks pc L (.int y :: .int x :: st) G σ N :=
  fun H locs ls hP hS hL => lv_idiv hc.1 hc.2.1 hd hne (h H locs ls hP hS hL)
theorem vr_irem (hc : vz_C z μ cc own dp nL) {x y : Int32} (hd : decode cc pc = .ok (.irem, 1)) (hne : ¬ y = 0) (h : vz_V z μ kc ks (pc + 1) L (.int (x - x / y * y) :: st) G σ N) : vz_V z μ kc ks pc L (.int y :: .int x :: st) G σ N :=
  fun H locs ls hP hS hL => lv_irem hc.1 hc.2.1 hd hne (h H locs ls hP hS hL)
theorem vr_ldiv (hc : vz_C z μ cc own dp nL) {x y : Int64} (hd : decode cc pc = .ok (.ldiv, 1)) (hne : ¬ y = 0) (h : vz_V z μ kc ks (pc + 1) L (.long (x / y) :: st) G σ N) : vz_V z μ kc ks pc L (.long y :: .long x :: st) G σ N :=
  fun H locs ls hP hS hL => lv_ldiv hc.1 hc.2.1 hd hne (h H locs ls hP hS hL)
theorem vr_lrem (hc : vz_C z μ cc own dp nL) {x y : Int64} (hd : decode cc pc = .ok (.lrem, 1)) (hne : ¬ y = 0) (h : vz_V z μ kc ks (pc + 1) L (.long (x - x / y * y) :: st) G σ N) : vz_V z μ kc ks pc L (.long y :: .long x :: st) G σ N :=
  fun H locs ls hP hS hL => lv_lrem hc.1 hc.2.1 hd hne (h H locs ls hP hS hL)
theorem vr_ineg (hc : vz_C z μ cc own dp nL) {x : Int32} (hd : decode cc pc = .ok (.ineg, 1))  (h : vz_V z μ kc ks (pc + 1) L (.int (-x) :: st) G σ N) : vz_V z μ kc ks pc L (.int x :: st) G σ N :=
  fun H locs ls hP hS hL => lv_ineg hc.1 hc.2.1 hd (h H locs ls hP hS hL)
theorem vr_i2l (hc : vz_C z μ cc own dp nL) {x : Int32} (hd : decode cc pc = .ok (.i2l, 1))  (h : vz_V z μ kc ks (pc + 1) L (.long x.toInt64 :: st) G σ N) : vz_V z μ kc ks pc L (.int x :: st) G σ N :=
  fun H locs ls hP hS hL => lv_i2l hc.1 hc.2.1 hd rfl (h H locs ls hP hS hL)
theorem vr_l2i (hc : vz_C z μ cc own dp nL) {x : Int64} (hd : decode cc pc = .ok (.l2i, 1))  (h : vz_V z μ kc ks (pc + 1) L (.int x.toInt32 :: st) G σ N) : vz_V z μ kc ks pc L (.long x :: st) G σ N :=
  fun H locs ls hP hS hL => lv_l2i hc.1 hc.2.1 hd rfl (h H locs ls hP hS hL)
theorem vr_i2b (hc : vz_C z μ cc own dp nL) {x : Int32} (hd : decode cc pc = .ok (.i2b, 1))  (h : vz_V z μ kc ks (pc + 1) L (.int x.toInt8.toInt32 :: st) G σ N) : vz_V z μ kc ks pc L (.int x :: st) G σ N :=
  fun H locs ls hP hS hL => lv_i2b hc.1 hc.2.1 hd rfl (h H locs ls hP hS hL)
theorem vr_i2s (hc : vz_C z μ cc own dp nL) {x : Int32} (hd : decode cc pc = .ok (.i2s, 1))  (h : vz_V z μ kc ks (pc + 1) L (.int x.toInt16.toInt32 :: st) G σ N) : vz_V z μ kc ks pc L (.int x :: st) G σ N :=
  fun H locs ls hP hS hL => lv_i2s hc.1 hc.2.1 hd rfl (h H locs ls hP hS hL)
theorem vr_iushr (hc : vz_C z μ cc own dp nL) {x y : Int32} (hd : decode cc pc = .ok (.iushr, 1))  (h : vz_V z μ kc ks (pc + 1) L (.int (x.toUInt32 >>> (y.toUInt32 &&& Int32.toUInt32 31)).toInt32 :: st) G σ N) : vz_V z μ kc ks pc L (.int y :: .int x :: st) G σ N :=
  fun H locs ls hP hS hL => lv_iushr hc.1 hc.2.1 hd rfl (h H locs ls hP hS hL)
theorem vr_lushr (hc : vz_C z μ cc own dp nL) {x : Int64} {y : Int32} (hd : decode cc pc = .ok (.lushr, 1))  (h : vz_V z μ kc ks (pc + 1) L (.long (x.toUInt64 >>> (y.toInt64.toUInt64 &&& Int64.toUInt64 63)).toInt64 :: st) G σ N) : vz_V z μ kc ks pc L (.int y :: .long x :: st) G σ N :=
  fun H locs ls hP hS hL => lv_lushr hc.1 hc.2.1 hd rfl (h H locs ls hP hS hL)
theorem vr_lshl (hc : vz_C z μ cc own dp nL) {x : Int64} {y : Int32} (hd : decode cc pc = .ok (.lshl, 1))  (h : vz_V z μ kc ks (pc + 1) L (.long (x <<< (y.toInt64 &&& 63)) :: st) G σ N) : vz_V z μ kc ks pc L (.int y :: .long x :: st) G σ N :=
  fun H locs ls hP hS hL => lv_lshl hc.1 hc.2.1 hd rfl (h H locs ls hP hS hL)
theorem vr_lshr (hc : vz_C z μ cc own dp nL) {x : Int64} {y : Int32} (hd : decode cc pc = .ok (.lshr, 1))  (h : vz_V z μ kc ks (pc + 1) L (.long (x >>> (y.toInt64 &&& 63)) :: st) G σ N) : vz_V z μ kc ks pc L (.int y :: .long x :: st) G σ N :=
  fun H locs ls hP hS hL => lv_lshr hc.1 hc.2.1 hd rfl (h H locs ls hP hS hL)
theorem vr_lcmp (hc : vz_C z μ cc own dp nL) {x y : Int64} (hd : decode cc pc = .ok (.lcmp, 1))  (h : vz_V z μ kc ks (pc + 1) L (.int (lg_cmp x y) :: st) G σ N) : vz_V z μ kc ks pc L (.long y :: .long x :: st) G σ N :=
  fun H locs ls hP hS hL => W.lcmp hc.1 hc.2.1 hd (h H locs ls hP hS hL)
theorem vr_dup (hc : vz_C z μ cc own dp nL) {v : Value} (hd : decode cc pc = .ok (.dup, 1)) (hv : v.category = 1) (h : vz_V z μ kc ks (pc + 1) L (v :: v :: st) G σ N) : vz_V z μ kc ks pc L (v :: st) G σ N :=
  fun H locs ls hP hS hL => lv_dup hc.1 hc.2.1 hd ((vz_cv_cat z v).trans hv) (h H locs ls hP hS hL)
theorem vr_dup2 (hc : vz_C z μ cc own dp nL) {v u : Value} (hd : decode cc pc = .ok (.dup2, 1)) (hv : v.category = 1) (hu : u.category = 1) (h : vz_V z μ kc ks (pc + 1) L (v :: u :: v :: u :: st) G σ N) : vz_V z μ kc ks pc L (v :: u :: st) G σ N :=
  fun H locs ls hP hS hL => lv_dup2_11 hc.1 hc.2.1 hd ((vz_cv_cat z v).trans hv) ((vz_cv_cat z u).trans hu) (h H locs ls hP hS hL)
theorem vr_pop (hc : vz_C z μ cc own dp nL) {v : Value} (hd : decode cc pc = .ok (.pop, 1)) (hv : v.category = 1) (h : vz_V z μ kc ks (pc + 1) L st G σ N) : vz_V z μ kc ks pc L (v :: st) G σ N :=
  fun H locs ls hP hS hL => lv_pop hc.1 hc.2.1 hd ((vz_cv_cat z v).trans hv) (h H locs ls hP hS hL)
theorem vr_if_eq (hc : vz_C z μ cc own dp nL) {x : Int32} {off : Int} (tgt : Nat) (hd : decode cc pc = .ok (.ifCond .eq off, 3)) (ht : (pc : Int) + off = (tgt : Int)) (kt : x = 0 → vz_V z μ kc ks tgt L st G σ N) (kf : ¬ x = 0 → vz_V z μ kc ks (pc + 3) L st G σ N) : vz_V z μ kc ks pc L (.int x :: st) G σ N :=
  fun H locs ls hP hS hL => lv_if_eq hc.1 hc.2.1 hd ht (fun q => kt q H locs ls hP hS hL) (fun q => kf q H locs ls hP hS hL)
theorem vr_icmp_eq (hc : vz_C z μ cc own dp nL) {x y : Int32} {off : Int} (tgt : Nat) (hd : decode cc pc = .ok (.if_icmp .eq off, 3)) (ht : (pc : Int) + off = (tgt : Int)) (kt : x = y → vz_V z μ kc ks tgt L st G σ N) (kf : ¬ x = y → vz_V z μ kc ks (pc + 3) L st G σ N) : vz_V z μ kc ks pc L (.int y :: .int x :: st) G σ N :=
  fun H locs ls hP hS hL => lv_icmp_eq hc.1 hc.2.1 hd ht (fun q => kt q H locs ls hP hS hL) (fun q => kf q H locs ls hP hS hL)
theorem vr_if_ne (hc : vz_C z μ cc own dp nL) {x : Int32} {off : Int} (tgt : Nat) (hd : decode cc pc = .ok (.ifCond .ne off, 3)) (ht : (pc : Int) + off = (tgt : Int)) (kt : ¬ x = 0 → vz_V z μ kc ks tgt L st G σ N) (kf : x = 0 → vz_V z μ kc ks (pc + 3) L st G σ N) : vz_V z μ kc ks pc L (.int x :: st) G σ N :=
  fun H locs ls hP hS hL => lv_if_ne hc.1 hc.2.1 hd ht (fun q => kt q H locs ls hP hS hL) (fun q => kf q H locs ls hP hS hL)
theorem vr_icmp_ne (hc : vz_C z μ cc own dp nL) {x y : Int32} {off : Int} (tgt : Nat) (hd : decode cc pc = .ok (.if_icmp .ne off, 3)) (ht : (pc : Int) + off = (tgt : Int)) (kt : ¬ x = y → vz_V z μ kc ks tgt L st G σ N) (kf : x = y → vz_V z μ kc ks (pc + 3) L st G σ N) : vz_V z μ kc ks pc L (.int y :: .int x :: st) G σ N :=
  fun H locs ls hP hS hL => lv_icmp_ne hc.1 hc.2.1 hd ht (fun q => kt q H locs ls hP hS hL) (fun q => kf q H locs ls hP hS hL)
theorem vr_if_lt (hc : vz_C z μ cc own dp nL) {x : Int32} {off : Int} (tgt : Nat) (hd : decode cc pc = .ok (.ifCond .lt off, 3)) (ht : (pc : Int) + off = (tgt : Int)) (kt : x < 0 → vz_V z μ kc ks tgt L st G σ N) (kf : ¬ x < 0 → vz_V z μ kc ks (pc + 3) L st G σ N) : vz_V z μ kc ks pc L (.int x :: st) G σ N :=
  fun H locs ls hP hS hL => lv_if_lt hc.1 hc.2.1 hd ht (fun q => kt q H locs ls hP hS hL) (fun q => kf q H locs ls hP hS hL)
theorem vr_icmp_lt (hc : vz_C z μ cc own dp nL) {x y : Int32} {off : Int} (tgt : Nat) (hd : decode cc pc = .ok (.if_icmp .lt off, 3)) (ht : (pc : Int) + off = (tgt : Int)) (kt : x < y → vz_V z μ kc ks tgt L st G σ N) (kf : ¬ x < y → vz_V z μ kc ks (pc + 3) L st G σ N) : vz_V z μ kc ks pc L (.int y :: .int x :: st) G σ N :=
  fun H locs ls hP hS hL => lv_icmp_lt hc.1 hc.2.1 hd ht (fun q => kt q H locs ls hP hS hL) (fun q => kf q H locs ls hP hS hL)
theorem vr_if_ge (hc : vz_C z μ cc own dp nL) {x : Int32} {off : Int} (tgt : Nat) (hd : decode cc pc = .ok (.ifCond .ge off, 3)) (ht : (pc : Int) + off = (tgt : Int)) (kt : 0 ≤ x → vz_V z μ kc ks tgt L st G σ N) (kf : ¬ 0 ≤ x → vz_V z μ kc ks (pc + 3) L st G σ N) : vz_V z μ kc ks pc L (.int x :: st) G σ N :=
  fun H locs ls hP hS hL => lv_if_ge hc.1 hc.2.1 hd ht (fun q => kt q H locs ls hP hS hL) (fun q => kf q H locs ls hP hS hL)
theorem vr_icmp_ge (hc : vz_C z μ cc own dp nL) {x y : Int32} {off : Int} (tgt : Nat) (hd : decode cc pc = .ok (.if_icmp .ge off, 3)) (ht : (pc : Int) + off = (tgt : Int)) (kt : y ≤ x → vz_V z μ kc ks tgt L st G σ N) (kf : ¬ y ≤ x → vz_V z μ kc ks (pc + 3) L st G σ N) : vz_V z μ kc ks pc L (.int y :: .int x :: st) G σ N :=
  fun H locs ls hP hS hL => lv_icmp_ge hc.1 hc.2.1 hd ht (fun q => kt q H locs ls hP hS hL) (fun q => kf q H locs ls hP hS hL)
theorem vr_if_gt (hc : vz_C z μ cc own dp nL) {x : Int32} {off : Int} (tgt : Nat) (hd : decode cc pc = .ok (.ifCond .gt off, 3)) (ht : (pc : Int) + off = (tgt : Int)) (kt : 0 < x → vz_V z μ kc ks tgt L st G σ N) (kf : ¬ 0 < x → vz_V z μ kc ks (pc + 3) L st G σ N) : vz_V z μ kc ks pc L (.int x :: st) G σ N :=
  fun H locs ls hP hS hL => lv_if_gt hc.1 hc.2.1 hd ht (fun q => kt q H locs ls hP hS hL) (fun q => kf q H locs ls hP hS hL)
theorem vr_icmp_gt (hc : vz_C z μ cc own dp nL) {x y : Int32} {off : Int} (tgt : Nat) (hd : decode cc pc = .ok (.if_icmp .gt off, 3)) (ht : (pc : Int) + off = (tgt : Int)) (kt : y < x → vz_V z μ kc ks tgt L st G σ N) (kf : ¬ y < x → vz_V z μ kc ks (pc + 3) L st G σ N) : vz_V z μ kc ks pc L (.int y :: .int x :: st) G σ N :=
  fun H locs ls hP hS hL => lv_icmp_gt hc.1 hc.2.1 hd ht (fun q => kt q H locs ls hP hS hL) (fun q => kf q H locs ls hP hS hL)
theorem vr_if_le (hc : vz_C z μ cc own dp nL) {x : Int32} {off : Int} (tgt : Nat) (hd : decode cc pc = .ok (.ifCond .le off, 3)) (ht : (pc : Int) + off = (tgt : Int)) (kt : x ≤ 0 → vz_V z μ kc ks tgt L st G σ N) (kf : ¬ x ≤ 0 → vz_V z μ kc ks (pc + 3) L st G σ N) : vz_V z μ kc ks pc L (.int x :: st) G σ N :=
  fun H locs ls hP hS hL => lv_if_le hc.1 hc.2.1 hd ht (fun q => kt q H locs ls hP hS hL) (fun q => kf q H locs ls hP hS hL)
theorem vr_icmp_le (hc : vz_C z μ cc own dp nL) {x y : Int32} {off : Int} (tgt : Nat) (hd : decode cc pc = .ok (.if_icmp .le off, 3)) (ht : (pc : Int) + off = (tgt : Int)) (kt : x ≤ y → vz_V z μ kc ks tgt L st G σ N) (kf : ¬ x ≤ y → vz_V z μ kc ks (pc + 3) L st G σ N) : vz_V z μ kc ks pc L (.int y :: .int x :: st) G σ N :=
  fun H locs ls hP hS hL => lv_icmp_le hc.1 hc.2.1 hd ht (fun q => kt q H locs ls hP hS hL) (fun q => kf q H locs ls hP hS hL)
theorem vr_goto (hc : vz_C z μ cc own dp nL) {off : Int} (tgt : Nat) (hd : decode cc pc = .ok (.goto off, 3)) (ht : (pc : Int) + off = (tgt : Int)) (h : vz_V z μ kc ks tgt L st G σ N) : vz_V z μ kc ks pc L st G σ N :=
  fun H locs ls hP hS hL => lv_goto hc.1 hc.2.1 hd ht (h H locs ls hP hS hL)
theorem vr_ifnull (hc : vz_C z μ cc own dp nL) {a : Nat} {off : Int} (hd : decode cc pc = .ok (.ifnull off, 3)) (h : vz_V z μ kc ks (pc + 3) L st G σ N) : vz_V z μ kc ks pc L (.ref a :: st) G σ N :=
  fun H locs ls hP hS hL => lv_ifnull hc.1 hc.2.1 hd (h H locs ls hP hS hL)
theorem vr_ifnullN (hc : vz_C z μ cc own dp nL) {off : Int} (tgt : Nat) (hd : decode cc pc = .ok (.ifnull off, 3)) (ht : (pc : Int) + off = (tgt : Int)) (h : vz_V z μ kc ks tgt L st G σ N) : vz_V z μ kc ks pc L (.null :: st) G σ N :=
  fun H locs ls hP hS hL => lv_ifnullN hc.1 hc.2.1 hd ht (h H locs ls hP hS hL)
theorem vr_ifnonnull (hc : vz_C z μ cc own dp nL) {a : Nat} {off : Int} (tgt : Nat) (hd : decode cc pc = .ok (.ifnonnull off, 3)) (ht : (pc : Int) + off = (tgt : Int)) (h : vz_V z μ kc ks tgt L st G σ N) : vz_V z μ kc ks pc L (.ref a :: st) G σ N :=
  fun H locs ls hP hS hL => lv_ifnonnull hc.1 hc.2.1 hd ht (h H locs ls hP hS hL)
theorem vr_ifnonnullN (hc : vz_C z μ cc own dp nL) {off : Int} (hd : decode cc pc = .ok (.ifnonnull off, 3)) (h : vz_V z μ kc ks (pc + 3) L st G σ N) : vz_V z μ kc ks pc L (.null :: st) G σ N :=
  fun H locs ls hP hS hL => lv_ifnonnullN hc.1 hc.2.1 hd (h H locs ls hP hS hL)
theorem vr_tableOut (hc : vz_C z μ cc own dp nL) {x : Int32} {dflt lo hi : Int} {offs : Array Int} {len : Nat} (tgt : Nat) (hd : decode cc pc = .ok (.tableswitch dflt lo hi offs, len)) (hx : x.toInt < lo ∨ hi < x.toInt) (ht : (pc : Int) + dflt = (tgt : Int)) (h : vz_V z μ kc ks tgt L st G σ N) : vz_V z μ kc ks pc L (.int x :: st) G σ N :=
  fun H locs ls hP hS hL => lv_tableOut hc.1 hc.2.1 hd hx ht (h H locs ls hP hS hL)
theorem vr_tableIn (hc : vz_C z μ cc own dp nL) (x : Int32) {dflt lo hi off : Int} {offs : Array Int} {len : Nat} (tgt : Nat) (hd : decode cc pc = .ok (.tableswitch dflt lo hi offs, len)) (h1 : ¬ x.toInt < lo) (h2 : ¬ hi < x.toInt) (ho : offs[(x.toInt - lo).toNat]? = some off) (ht : (pc : Int) + off = (tgt : Int)) (h : vz_V z μ kc ks tgt L st G σ N) : vz_V z μ kc ks pc L (.int x :: st) G σ N :=
  fun H locs ls hP hS hL => lv_tableIn hc.1 hc.2.1 hd h1 h2 ho ht (h H locs ls hP hS hL)
end VZR
end
section
/-! fields and rows of the small machine's heap -/
def vz_FL (own : String) (idx ci k : Nat) (ty : FieldType) (fin : Bool) : Prop := ∃ (C : String) (T : u_T) (n : Nat) (ty0 : Nat → FieldType), vwCl[ci]? = some (C, T, n) ∧ vz_nF ci = n ∧ ci < 10 ∧ k < n ∧ (∀ w ∈ u_ws C T n, w ∈ vz_tbl) ∧ (∀ k, k < n → parseFieldDescriptor (T k).2.2.1 = some (ty0 k)) ∧ (∀ a, a < n → ∀ b, b < n → a ≠ b → (T a).2.1 ≠ (T b).2.1) ∧ (T k).2.2.2 = fin ∧ ty0 k = ty ∧ Cond.fieldLink own idx (T k).1 (T k).2.1 (T k).2.2.1 ∈ vz_tbl
theorem vz_lt {z : vz_Z} {G : vz_G} {σ : vz_I} {N a c : Nat} {H : Heap} (hP : vz_P z G σ N H) (h : (G a).1 = c) (hc : c < 99) : a < N := by
  rcases Nat.lt_or_ge a N with q | q
  · exact q
  · have := hP.2.2.1 a q
    omega
theorem vz_adr {z : vz_Z} {G : vz_G} {σ : vz_I} {N a : Nat} {H : Heap} (hP : vz_P z G σ N H) (h : a < N) : vz_ad z a = z.2.2.1 + a := by
  have := hP.2.1
  simp only [vz_ad]
  rw [if_pos (by omega)]
theorem vz_el_obj {z : vz_Z} {G : vz_G} {σ : vz_I} {a ci : Nat} (h : (G a).1 = ci) (hc : ci < 10) : vz_el z G σ a = .inr (ci, vz_fs z (G a).2.2 (σ a) (vz_nF ci)) := by
  simp only [vz_el, h, if_pos hc]
theorem vz_el_arr {z : vz_Z} {G : vz_G} {σ : vz_I} {a ci : Nat} (h : (G a).1 = ci) (h1 : 10 ≤ ci) (h2 : ci < 13) : vz_el z G σ a = .inl (z.2.1 ci, (G a).2.1, .inl (σ a)) := by
  simp only [vz_el, h, if_neg (Nat.not_lt.mpr h1), if_pos h2]
theorem vz_el_ref {z : vz_Z} {G : vz_G} {σ : vz_I} {a ci : Nat} (h : (G a).1 = ci) (h1 : 13 ≤ ci) : vz_el z G σ a = .inl (z.2.1 ci, (G a).2.1, .inr (.inr (.inr (.inr (fun i => ((G a).2.2 i).join.map (vz_ad z)))))) := by
  simp only [vz_el, h, if_neg (Nat.not_lt.mpr (Nat.le_trans (by decide : 10 ≤ 13) h1)), if_neg (Nat.not_lt.mpr h1)]
theorem vz_fs_get {z : vz_Z} {r : Nat → Option (Option Nat)} {f : Nat → Int32} {n k : Nat} (h : k < n) : (vz_fs z r f n)[k]? = some (vz_fv z (r k) (f k)) := by
  simp [vz_fs, List.getElem?_map, List.getElem?_range h]
theorem vz_fs_len {z : vz_Z} {r : Nat → Option (Option Nat)} {f : Nat → Int32} {n : Nat} : (vz_fs z r f n).length = n := by simp [vz_fs]
def vz_up (σ : vz_I) (a k : Nat) (x : Int32) : vz_I := fun b => if b = a then upd (σ b) k x else σ b
theorem vz_up_self (σ : vz_I) (a k : Nat) (x : Int32) : vz_up σ a k x a = upd (σ a) k x := by simp [vz_up]
theorem vz_up_ne (σ : vz_I) {a b : Nat} (k : Nat) (x : Int32) (h : b ≠ a) : vz_up σ a k x b = σ b := by simp [vz_up, h]
theorem vz_fs_set {z : vz_Z} {r : Nat → Option (Option Nat)} {f : Nat → Int32} {n k : Nat} {x : Int32} (hr : r k = none) (hk : k < n) : vz_fs z r (upd f k x) n = (vz_fs z r f n).set k (.int x) := by
  apply List.ext_getElem?
  intro j
  by_cases hjn : j < n
  · by_cases hj : j = k
    · subst hj
      rw [List.getElem?_set_self (by rw [vz_fs_len]; exact hk), vz_fs_get hk, hr]
      simp [upd, vz_fv]
    · rw [List.getElem?_set_ne (Ne.symm hj), vz_fs_get hjn, vz_fs_get hjn]
      simp [upd, hj]
  · rw [List.getElem?_eq_none (by rw [vz_fs_len]; omega), List.getElem?_eq_none (by rw [List.length_set, vz_fs_len]; omega)]
theorem vz_P_put {z : vz_Z} {G G' : vz_G} {σ σ' : vz_I} {N a : Nat} {H H1 : Heap} {e : va_E} (hP : vz_P z G σ N H) (ha : a < N) (hz : H1.size = H.size) (oq : ∀ q, q ≠ z.2.2.1 + a → H1[q]? = H[q]?) (he : vz_el z G' σ' a = e) (ho : ∀ b, b ≠ a → vz_el z G' σ' b = vz_el z G σ b) (hG : ∀ b, N ≤ b → (G' b).1 = 99) (hat : va_at z.1 vwCl (z.2.2.1 + a, e) H1) : vz_P z G' σ' N H1 := by
  refine ⟨by rw [hz]; exact hP.1, hP.2.1, hG, ?_⟩
  rw [← vz_W_set (z := z) (G := G) (σ := σ) ha he ho]
  exact hP.2.2.2.set vz_W_D (vz_W_get ha) hat oq
theorem vz_oth {z : vz_Z} {G : vz_G} {σ : vz_I} {a k : Nat} {x : Int32} : ∀ b, b ≠ a → vz_el z G (vz_up σ a k x) b = vz_el z G σ b := by
  intro b hb
  simp only [vz_el, vz_up_ne σ k x hb]
section VZH
variable {z : vz_Z} {μ : vz_M} {cc : ByteArray} {own : String} {dp nL kc ks pc N : Nat} {L : vz_L} {st : List Value} {G : vz_G} {σ : vz_I}
theorem vr_getI (hc : vz_C z μ cc own dp nL) {idx ci k a : Nat} {ty : FieldType} {fin : Bool} (hd : decode cc pc = .ok (.getfield idx, 3)) (hf : vz_FL own idx ci k ty fin) (hG : (G a).1 = ci) (hr : (G a).2.2 k = none) (h : vz_V z μ kc ks (pc + 3) L (.int (σ a k) :: st) G σ N) : vz_V z μ kc ks pc L (.ref a :: st) G σ N := by
  intro H locs ls hP hS hL
  obtain ⟨C, T, n, ty0, f1, f2, f3, f4, f5, f6, f7, f8, f9, f10⟩ := hf
  have ha : a < N := vz_lt hP hG (by omega)
  rw [show (Value.ref a :: st).map (vz_cv z) = .ref (z.2.2.1 + a) :: st.map (vz_cv z) by rw [← vz_adr hP ha]; rfl]
  exact va_get (D := z.1) (cl := vwCl) hc.1 hc.2.1 hc.2.2.2.2.1 f5 hc.2.2.2.1 hc.2.2.2.2.2.1 hP.2.2.2 a (fs := vz_fs z (G a).2.2 (σ a) n) (by rw [vz_W_get ha, vz_el_obj hG f3, f2]) f1 k f4 (hc.2.2.2.2.1 _ f10) (fun _ q => q) (v := .int (σ a k)) (by rw [vz_fs_get f4, hr]; rfl) hd (h H locs ls hP hS hL)
theorem vr_getR (hc : vz_C z μ cc own dp nL) {idx ci k a b : Nat} {ty : FieldType} {fin : Bool} (hd : decode cc pc = .ok (.getfield idx, 3)) (hf : vz_FL own idx ci k ty fin) (hG : (G a).1 = ci) (hr : (G a).2.2 k = some (some b)) (h : vz_V z μ kc ks (pc + 3) L (.ref b :: st) G σ N) : vz_V z μ kc ks pc L (.ref a :: st) G σ N := by
  intro H locs ls hP hS hL
  obtain ⟨C, T, n, ty0, f1, f2, f3, f4, f5, f6, f7, f8, f9, f10⟩ := hf
  have ha : a < N := vz_lt hP hG (by omega)
  rw [show (Value.ref a :: st).map (vz_cv z) = .ref (z.2.2.1 + a) :: st.map (vz_cv z) by rw [← vz_adr hP ha]; rfl]
  exact va_get (D := z.1) (cl := vwCl) hc.1 hc.2.1 hc.2.2.2.2.1 f5 hc.2.2.2.1 hc.2.2.2.2.2.1 hP.2.2.2 a (fs := vz_fs z (G a).2.2 (σ a) n) (by rw [vz_W_get ha, vz_el_obj hG f3, f2]) f1 k f4 (hc.2.2.2.2.1 _ f10) (fun _ q => q) (v := .ref (vz_ad z b)) (by rw [vz_fs_get f4, hr]; rfl) hd (h H locs ls hP hS hL)
theorem vr_putI (hc : vz_C z μ cc own dp nL) {idx ci k a : Nat} {ty : FieldType} (hd : decode cc pc = .ok (.putfield idx, 3)) (hf : vz_FL own idx ci k ty false) (hG : (G a).1 = ci) (hr : (G a).2.2 k = none) {x : Int32} (hn : narrow ty (.int x) = .int x) (hfit : fits ty (.int x) = true) (h : vz_V z μ kc ks (pc + 3) L st G (vz_up σ a k x) N) : vz_V z μ kc ks pc L (.int x :: .ref a :: st) G σ N := by
  intro H locs ls hP hS hL
  obtain ⟨C, T, n, ty0, f1, f2, f3, f4, f5, f6, f7, f8, f9, f10⟩ := hf
  have ha : a < N := vz_lt hP hG (by omega)
  rw [show (Value.int x :: .ref a :: st).map (vz_cv z) = .int x :: .ref (z.2.2.1 + a) :: st.map (vz_cv z) by rw [← vz_adr hP ha]; rfl]
  have he := vz_W_get (z := z) (G := G) (σ := σ) ha
  rw [vz_el_obj hG f3, f2] at he
  have hap := va_apart (own := own) hc.2.2.2.2.1 f5 ty0 f6 f7 hc.2.2.2.2.2.1 f1
  obtain ⟨r, h1, cell, q1, q2, q3, q4⟩ := hP.2.2.2 a _ he
  have hr' : r = (C, T, n) := Option.some.inj (h1.symm.trans f1)
  subst hr'
  obtain ⟨hSl, hfc, kC, hkC, hkind⟩ := hc.2.2.2.2.2.1.1 ci _ f1
  obtain ⟨cf, kf, fi, f, hi, hsl⟩ := hSl k f4
  have hlay := hc.2.2.2.2.1 _ (f5 _ (u_in_lay f4))
  unfold u_lay at hlay
  rw [if_neg (by rw [f8]; decide)] at hlay
  have hst := (u_facts hfc hkC (u_lays hc.2.2.2.2.1 f5 f4) hi).1
  have h6 := u_store hfc hkC hkind hlay hi (by rw [f6 k f4, f9]) hn hfit
  refine W.putK hc.1 hc.2.1 (f := f) ⟨hc.2.2.2.1, hc.2.2.2.2.1 _ f10, ⟨_, _, _, hi⟩, hst⟩ (by rw [q2]; exact h6) q1 q3 (by rw [hsl]; exact k2_hasslot (q4 k f4)) rfl rfl hd fun H' e1 e2 e3 => ?_
  rw [hsl] at e1 ⊢
  refine h H' _ ls (vz_P_put (e := .inr (ci, (vz_fs z (G a).2.2 (σ a) n).set k (.int x))) hP ha e2 e3 ?_ vz_oth hP.2.2.1 ?_) (hS.put e2 e3 (show z.2.2.1 ≤ z.2.2.1 + a by omega)) hL
  · rw [vz_el_obj hG f3, f2, vz_up_self, vz_fs_set hr f4]
  · exact ⟨_, f1, t_OB.to (V := updV (vp_V (vz_fs z (G a).2.2 (σ a) n)) k (.int x)) ⟨_, e1, q2, q3, t_set q4 hap f4 _⟩ (fun j _ => vp_updV_set (by rw [vz_fs_len]; exact f4) _ j)⟩
theorem vr_iald (hc : vz_C z μ cc own dp nL) {a : Nat} {i : Int32} (n : Nat) (hd : decode cc pc = .ok (.iaload, 1)) (hG : (G a).1 = 10) (hn : (G a).2.1 = n) (hi : vp_in i n) (h : vz_V z μ kc ks (pc + 1) L (.int (σ a i.toNatClampNeg) :: st) G σ N) : vz_V z μ kc ks pc L (.int i :: .ref a :: st) G σ N := by
  intro H locs ls hP hS hL
  have ha : a < N := vz_lt hP hG (by omega)
  rw [show (Value.int i :: .ref a :: st).map (vz_cv z) = .int i :: .ref (z.2.2.1 + a) :: st.map (vz_cv z) by rw [← vz_adr hP ha]; rfl]
  exact va_iald (D := z.1) (cl := vwCl) hc.1 hc.2.1 hc.2.2.2.2.2.1 hP.2.2.2 a 0 (f := σ a) (n := n) (by rw [vz_W_get ha, vz_el_arr hG (by decide) (by decide), hn]) rfl hi hd (h H locs ls hP hS hL)
theorem vr_bald (hc : vz_C z μ cc own dp nL) {a : Nat} {i : Int32} (n : Nat) (hd : decode cc pc = .ok (.baload, 1)) (hG : (G a).1 = 11) (hn : (G a).2.1 = n) (hi : vp_in i n) (h : vz_V z μ kc ks (pc + 1) L (.int (σ a i.toNatClampNeg) :: st) G σ N) : vz_V z μ kc ks pc L (.int i :: .ref a :: st) G σ N := by
  intro H locs ls hP hS hL
  have ha : a < N := vz_lt hP hG (by omega)
  rw [show (Value.int i :: .ref a :: st).map (vz_cv z) = .int i :: .ref (z.2.2.1 + a) :: st.map (vz_cv z) by rw [← vz_adr hP ha]; rfl]
  exact va_bald (D := z.1) (cl := vwCl) hc.1 hc.2.1 hc.2.2.2.2.2.1 hP.2.2.2 a 1 (f := σ a) (n := n) (by rw [vz_W_get ha, vz_el_arr hG (by decide) (by decide), hn]) rfl hi hd (h H locs ls hP hS hL)
theorem vr_zald (hc : vz_C z μ cc own dp nL) {a : Nat} {i : Int32} (n : Nat) (hd : decode cc pc = .ok (.baload, 1)) (hG : (G a).1 = 12) (hn : (G a).2.1 = n) (hi : vp_in i n) (h : vz_V z μ kc ks (pc + 1) L (.int (σ a i.toNatClampNeg) :: st) G σ N) : vz_V z μ kc ks pc L (.int i :: .ref a :: st) G σ N := by
  intro H locs ls hP hS hL
  have ha : a < N := vz_lt hP hG (by omega)
  rw [show (Value.int i :: .ref a :: st).map (vz_cv z) = .int i :: .ref (z.2.2.1 + a) :: st.map (vz_cv z) by rw [← vz_adr hP ha]; rfl]
  exact va_zald (D := z.1) (cl := vwCl) hc.1 hc.2.1 hc.2.2.2.2.2.1 hP.2.2.2 a 2 (f := σ a) (n := n) (by rw [vz_W_get ha, vz_el_arr hG (by decide) (by decide), hn]) rfl hi hd (h H locs ls hP hS hL)
theorem vr_aald (hc : vz_C z μ cc own dp nL) {a b : Nat} {i : Int32} (ci n : Nat) (hd : decode cc pc = .ok (.aaload, 1)) (hG : (G a).1 = ci) (hc1 : 13 ≤ ci) (hc2 : ci < 17) (hn : (G a).2.1 = n) (hi : vp_in i n) (hb : (G a).2.2 i.toNatClampNeg = some (some b)) (h : vz_V z μ kc ks (pc + 1) L (.ref b :: st) G σ N) : vz_V z μ kc ks pc L (.int i :: .ref a :: st) G σ N := by
  intro H locs ls hP hS hL
  have ha : a < N := vz_lt hP hG (by omega)
  rw [show (Value.int i :: .ref a :: st).map (vz_cv z) = .int i :: .ref (z.2.2.1 + a) :: st.map (vz_cv z) by rw [← vz_adr hP ha]; rfl]
  have he : (vz_W z G σ N)[a]? = some (z.2.2.1 + a, .inl (z.2.1 ci, n, .inr (.inr (.inr (.inr (fun i => ((G a).2.2 i).join.map (vz_ad z))))))) := by rw [vz_W_get ha, vz_el_ref hG hc1, hn]
  have hk : va_rf (((G a).2.2 i.toNatClampNeg).join.map (vz_ad z)) = vz_cv z (.ref b) := by rw [hb]; rfl
  have hh := h H locs ls hP hS hL
  rw [show (Value.ref b :: st).map (vz_cv z) = va_rf (((G a).2.2 i.toNatClampNeg).join.map (vz_ad z)) :: st.map (vz_cv z) by rw [hk]; rfl] at hh
  rcases (show ci = 13 ∨ ci = 14 ∨ ci = 15 ∨ ci = 16 by omega) with q | q | q | q
  · subst q
    exact va_aldq (D := z.1) (cl := vwCl) hc.1 hc.2.1 hc.2.2.2.2.2.1 hP.2.2.2 a 3 he rfl hi hd hh
  · subst q
    exact va_aldq (D := z.1) (cl := vwCl) hc.1 hc.2.1 hc.2.2.2.2.2.1 hP.2.2.2 a 4 he rfl hi hd hh
  · subst q
    exact va_aldq (D := z.1) (cl := vwCl) hc.1 hc.2.1 hc.2.2.2.2.2.1 hP.2.2.2 a 5 he rfl hi hd hh
  · subst q
    exact va_aldq (D := z.1) (cl := vwCl) hc.1 hc.2.1 hc.2.2.2.2.2.1 hP.2.2.2 a 6 he rfl hi hd hh
theorem vr_iast (hc : vz_C z μ cc own dp nL) {a : Nat} {i x : Int32} (n : Nat) (hd : decode cc pc = .ok (.iastore, 1)) (hG : (G a).1 = 10) (hn : (G a).2.1 = n) (hi : vp_in i n) (h : vz_V z μ kc ks (pc + 1) L st G (vz_up σ a i.toNatClampNeg x) N) : vz_V z μ kc ks pc L (.int x :: .int i :: .ref a :: st) G σ N := by
  intro H locs ls hP hS hL
  have ha : a < N := vz_lt hP hG (by omega)
  rw [show (Value.int x :: .int i :: .ref a :: st).map (vz_cv z) = .int x :: .int i :: .ref (z.2.2.1 + a) :: st.map (vz_cv z) by rw [← vz_adr hP ha]; rfl]
  have he := vz_W_get (z := z) (G := G) (σ := σ) ha
  rw [vz_el_arr hG (by decide) (by decide), hn] at he
  refine W.iast hc.1 hc.2.1 (hP.2.2.2 a _ he) ((hc.2.2.2.2.2.1.2 0 (z.2.1 10, .int) rfl).1 n (fun j => .int (σ a j))) (fun q => by cases q) (by show ¬ (i < 0 ∨ (arrV _ _ _).slots.size ≤ _); rw [arrV_size]; exact hi) rfl rfl hd fun H1 e zz oq => ?_
  refine h H1 _ ls (vz_P_put (e := .inl (z.2.1 10, n, .inl (upd (σ a) i.toNatClampNeg x))) hP ha zz oq ?_ vz_oth hP.2.2.1 ?_) (hS.put zz oq (show z.2.2.1 ≤ z.2.2.1 + a by omega)) hL
  · rw [vz_el_arr hG (by decide) (by decide), hn, vz_up_self]
  · show H1[z.2.2.1 + a]? = some (vp_cell _ _)
    rw [e, vp_cell_i, vp_cell_i, arrV_store]
    congr 2
    funext q
    by_cases hq : q = i.toNatClampNeg
    · subst hq
      simp [updV, upd]
    · simp [updV, upd, hq]
theorem vr_bast (hc : vz_C z μ cc own dp nL) {a : Nat} {i x : Int32} (n : Nat) (hd : decode cc pc = .ok (.bastore, 1)) (hG : (G a).1 = 11) (hn : (G a).2.1 = n) (hi : vp_in i n) (h : vz_V z μ kc ks (pc + 1) L st G (vz_up σ a i.toNatClampNeg x.toInt8.toInt32) N) : vz_V z μ kc ks pc L (.int x :: .int i :: .ref a :: st) G σ N := by
  intro H locs ls hP hS hL
  have ha : a < N := vz_lt hP hG (by omega)
  rw [show (Value.int x :: .int i :: .ref a :: st).map (vz_cv z) = .int x :: .int i :: .ref (z.2.2.1 + a) :: st.map (vz_cv z) by rw [← vz_adr hP ha]; rfl]
  have he := vz_W_get (z := z) (G := G) (σ := σ) ha
  rw [vz_el_arr hG (by decide) (by decide), hn] at he
  refine W.bast hc.1 hc.2.1 (hP.2.2.2 a _ he) ((hc.2.2.2.2.2.1.2 1 (z.2.1 11, .byte) rfl).1 n (fun j => .int (σ a j))) (fun q => by cases q) (by show ¬ (i < 0 ∨ (arrV _ _ _).slots.size ≤ _); rw [arrV_size]; exact hi) rfl rfl hd fun H1 e zz oq => ?_
  refine h H1 _ ls (vz_P_put (e := .inl (z.2.1 11, n, .inl (upd (σ a) i.toNatClampNeg x.toInt8.toInt32))) hP ha zz oq ?_ vz_oth hP.2.2.1 ?_) (hS.put zz oq (show z.2.2.1 ≤ z.2.2.1 + a by omega)) hL
  · rw [vz_el_arr hG (by decide) (by decide), hn, vz_up_self]
  · show H1[z.2.2.1 + a]? = some (vp_cell _ _)
    rw [e, vp_cell_i, vp_cell_i, arrV_store]
    congr 2
    funext q
    by_cases hq : q = i.toNatClampNeg
    · subst hq
      simp [updV, upd, narrow]
    · simp [updV, upd, hq]
theorem vr_zast (hc : vz_C z μ cc own dp nL) {a : Nat} {i x : Int32} (n : Nat) (hd : decode cc pc = .ok (.bastore, 1)) (hG : (G a).1 = 12) (hn : (G a).2.1 = n) (hi : vp_in i n) (h : vz_V z μ kc ks (pc + 1) L st G (vz_up σ a i.toNatClampNeg (x &&& 1)) N) : vz_V z μ kc ks pc L (.int x :: .int i :: .ref a :: st) G σ N := by
  intro H locs ls hP hS hL
  have ha : a < N := vz_lt hP hG (by omega)
  rw [show (Value.int x :: .int i :: .ref a :: st).map (vz_cv z) = .int x :: .int i :: .ref (z.2.2.1 + a) :: st.map (vz_cv z) by rw [← vz_adr hP ha]; rfl]
  have he := vz_W_get (z := z) (G := G) (σ := σ) ha
  rw [vz_el_arr hG (by decide) (by decide), hn] at he
  refine W.zast hc.1 hc.2.1 (hP.2.2.2 a _ he) ((hc.2.2.2.2.2.1.2 2 (z.2.1 12, .boolean) rfl).1 n (fun j => .int (σ a j))) (fun q => by cases q) (by show ¬ (i < 0 ∨ (arrV _ _ _).slots.size ≤ _); rw [arrV_size]; exact hi) rfl rfl hd fun H1 e zz oq => ?_
  refine h H1 _ ls (vz_P_put (e := .inl (z.2.1 12, n, .inl (upd (σ a) i.toNatClampNeg (x &&& 1)))) hP ha zz oq ?_ vz_oth hP.2.2.1 ?_) (hS.put zz oq (show z.2.2.1 ≤ z.2.2.1 + a by omega)) hL
  · rw [vz_el_arr hG (by decide) (by decide), hn, vz_up_self]
  · show H1[z.2.2.1 + a]? = some (vp_cell _ _)
    rw [e, vp_cell_i, vp_cell_i, arrV_store]
    congr 2
    funext q
    by_cases hq : q = i.toNatClampNeg
    · subst hq
      simp [updV, upd, narrow]
    · simp [updV, upd, hq]
end VZH
end
section
/-! contracts and calls -/
def vz_Qc (z : vz_Z) (v : Option Value) (G' : vz_G) (σ' : vz_I) (N' : Nat) : Array Value → State → Outcome → State → Prop := fun _ st o t => (o = .returned (v.map (vz_cv z)) ∧ vz_P z G' σ' N' t.heap) ∧ va_F (vz_A z) st t
def vz_Con (z : vz_Z) (l : Launch) (dp : Nat) (y : MethodName) (cc : ByteArray) (nL : Nat) (ret : Option FieldType) (As : List Value) (G : vz_G) (σ : vz_I) (N : Nat) (v : Option Value) (G' : vz_G) (σ' : vz_I) (N' mc ms : Nat) : Prop :=
  Met l y (Cond.code y cc nL ret :: vz_tbl) { frames := dp, cells := mc, slots := ms, locals := 35 * dp } (va_Pc (As.map (vz_cv z)) (fun U => vz_K z U ∧ z.2.2.1 ≤ U.heap.size ∧ vz_P z G σ N U.heap)) (vz_Qc z v G' σ' N') mc ms (vz_A z)
/-- what a method's end asks: the kind of its return instruction -/
def vz_ret (cc : ByteArray) (ret : Option FieldType) (pc : Nat) (v : Option Value) : Prop :=
  (∃ ty x, ret = some ty ∧ v = some (.int x) ∧ decode cc pc = .ok (.ireturn, 1) ∧ narrow ty (.int x) = .int x) ∨
  (∃ x, ret = some .long ∧ v = some (.long x) ∧ decode cc pc = .ok (.lreturn, 1)) ∨
  (∃ C w, ret = some (.object C) ∧ v = some w ∧ (w = .null ∨ ∃ a, w = .ref a) ∧ decode cc pc = .ok (.areturn, 1)) ∨
  (ret = none ∧ v = none ∧ decode cc pc = .ok (.return_, 1))
theorem vz_ret_i {cc : ByteArray} {ty : FieldType} {pc : Nat} {x : Int32} (h : decode cc pc = .ok (.ireturn, 1)) (hn : narrow ty (.int x) = .int x) : vz_ret cc (some ty) pc (some (.int x)) := Or.inl ⟨ty, x, rfl, rfl, h, hn⟩
theorem vz_ret_l {cc : ByteArray} {pc : Nat} {x : Int64} (h : decode cc pc = .ok (.lreturn, 1)) : vz_ret cc (some .long) pc (some (.long x)) := Or.inr (Or.inl ⟨x, rfl, rfl, h⟩)
theorem vz_ret_a {cc : ByteArray} {C : String} {pc a : Nat} (h : decode cc pc = .ok (.areturn, 1)) : vz_ret cc (some (.object C)) pc (some (.ref a)) := Or.inr (Or.inr (Or.inl ⟨C, _, rfl, rfl, Or.inr ⟨a, rfl⟩, h⟩))
theorem vz_ret_n {cc : ByteArray} {C : String} {pc : Nat} (h : decode cc pc = .ok (.areturn, 1)) : vz_ret cc (some (.object C)) pc (some .null) := Or.inr (Or.inr (Or.inl ⟨C, _, rfl, rfl, Or.inl rfl, h⟩))
theorem vz_ret_v {cc : ByteArray} {pc : Nat} (h : decode cc pc = .ok (.return_, 1)) : vz_ret cc none pc none := Or.inr (Or.inr (Or.inr ⟨rfl, rfl, h⟩))
theorem vz_con {z : vz_Z} {l : Launch} {dp : Nat} {y : MethodName} {cc : ByteArray} {nL : Nat} {ret : Option FieldType} {As : List Value} {G : vz_G} {σ : vz_I} {N : Nat} {v : Option Value} {G' : vz_G} {σ' : vz_I} {N' mc ms : Nat} (hy : plainName y.cls = true) (hlen : (lg_sl (As.map (vz_cv z))).length ≤ nL)
    (body : ∀ μ : vz_M, vz_C z μ cc y.cls dp nL → μ.2.1 = l → mc ≤ μ.2.2.2.1.cells ∧ ms ≤ μ.2.2.2.1.slots ∧ (y.name = "<init>" → μ.2.2.2.2.2.2.2.2.1.name = "<init>") → (∀ (pc : Nat) (L : vz_L), vz_ret cc ret pc v → vz_V z μ mc ms pc L v.toList G' σ' N') → vz_V z μ 0 0 0 (vz_arg 0 As) [] G σ N) : vz_Con z l dp y cc nL ret As G σ N v G' σ' N' mc ms := by
  refine Met.ofW (cc := cc) (maxL := nL) (ret := ret) hy rfl ?_
  intro p e s m args below meth c s₁ B hml hv
  obtain ⟨rfl, hK, hbs, hP⟩ := hv
  have hts := atoms_spec (ws := Cond.code y cc nL ret :: vz_tbl) B.pre
  have hown : s.vm.findClass y.cls = some m.cls := findClass_of_methodNamed B.named
  have hlocks := B.notSynchronized
  rw [lg_entry_eq]
  have hE := vz_entry z As hlen
  generalize (lg_sl (As.map (vz_cv z)) ++ List.replicate (nL - (lg_sl (As.map (vz_cv z))).length) Slot.unset).toArray = ls at hE ⊢
  refine body (p, l, e, { frames := dp, cells := mc, slots := ms, locals := 35 * dp }, s, m, (As.map (vz_cv z)).toArray, below, meth, c, nL, MQ below (vz_Qc z v G' σ' N') (As.map (vz_cv z)).toArray s mc ms (vz_A z)) ⟨B.exec, B.bytes, hml, hown, fun w hw => hts w (List.mem_cons_of_mem _ hw), hK, hbs, Nat.le_refl _, Nat.le_refl _, rfl⟩ rfl ⟨Nat.le_refl _, Nat.le_refl _, fun q => (name_of_methodNamed B.named B.method).1.trans q⟩ ?_ s.heap [] ls hP va_S.rf hE
  intro pc L hr H locs ls' hP' hS' hL'
  have hq : ∀ t : State, t.heap = H → s.WarmedH t.vm → vz_Qc z v G' σ' N' (As.map (vz_cv z)).toArray s (.returned (v.map (vz_cv z))) t := fun t ht _ => ⟨⟨rfl, by rw [ht]; exact hP'⟩, hS'.F ht⟩
  have hf : ∀ q ∈ locs, vz_A z q.base := hS'.2.2
  rcases hr with ⟨ty, x, rfl, rfl, hd, hn⟩ | ⟨x, rfl, rfl, hd⟩ | ⟨C, w, rfl, rfl, hw, hd⟩ | ⟨rfl, rfl, hd⟩
  · exact W.zret (Qc := vz_Qc z (some (.int x)) G' σ' N') (free := vz_A z) B.exec B.bytes B.returns hn hq hf hd hlocks
  · exact W.lret (Qc := vz_Qc z (some (.long x)) G' σ' N') (free := vz_A z) B.exec B.bytes B.returns hq hf hd hlocks
  · have hw' : vz_cv z w = .null ∨ ∃ a, vz_cv z w = .ref a := by
      rcases hw with rfl | ⟨a, rfl⟩
      · exact Or.inl rfl
      · exact Or.inr ⟨_, rfl⟩
    exact W.aret (Qc := vz_Qc z (some w) G' σ' N') (free := vz_A z) (v := vz_cv z w) B.exec B.bytes B.returns (Or.inl ⟨C, rfl⟩) hw' hq hf hd hlocks
  · exact W.vret (Qc := vz_Qc z none G' σ' N') (free := vz_A z) B.exec B.bytes B.returns hq hf hd hlocks
theorem vz_all_good : vz_tbl.all goodWord = true := List.all_eq_true.mpr fun _ h => (List.mem_filter.mp h).2
theorem vz_good {y : MethodName} {bytes : ByteArray} {maxL : Nat} {ret : Option FieldType} (h : Cond.code y bytes maxL ret ∈ vz_tbl) : GoodIn vz_tbl (Cond.code y bytes maxL ret :: vz_tbl) := by
  intro w hw
  rcases List.mem_cons.mp hw with rfl | hw
  · exact ⟨h, good_of_word (List.all_eq_true.mp vz_all_good _ h)⟩
  · exact ⟨hw, good_of_word (List.all_eq_true.mp vz_all_good _ hw)⟩
/-- a method's own words -/
def vz_MS (y : MethodName) (bytes : ByteArray) (maxL : Nat) (ret : Option FieldType) (n : Nat) : Prop := Cond.code y bytes maxL ret ∈ vz_tbl ∧ Cond.initialized y.cls ∈ vz_tbl ∧ maxL ≤ 16 ∧ (y.cls ≠ "java/lang/invoke/MethodHandle" ∧ y.cls ≠ "java/lang/invoke/VarHandle" ∧ (parseMethodDescriptor y.desc).map (fun d => d.parameters.length) = some n)
def vz_MV (ci : Nat) (y : MethodName) (bytes : ByteArray) (maxL : Nat) (ret : Option FieldType) (n : Nat) : Prop := vz_MS y bytes maxL ret n ∧ Cond.instanceMethod y ∈ vz_tbl ∧ Cond.selects y.cls y y ∈ vz_tbl ∧ ci < 10 ∧ ∃ T k, vwCl[ci]? = some (y.cls, T, k)
def vz_MI (y : MethodName) (bytes : ByteArray) (maxL n : Nat) : Prop := vz_MS y bytes maxL none n ∧ Cond.instanceMethod y ∈ vz_tbl ∧ y.name = "<init>"
section VZC
variable {z : vz_Z} {μ : vz_M} {cc : ByteArray} {own : String} {dp nL kc ks pc N : Nat} {L : vz_L} {st : List Value} {G : vz_G} {σ : vz_I}
theorem vz_blind {As : List Value} : FrameBlind (va_Pc (As.map (vz_cv z)) (fun U => vz_K z U ∧ z.2.2.1 ≤ U.heap.size ∧ vz_P z G σ N U.heap)) := by
  intro a U g mk q
  obtain ⟨q0, q1, q2, q3⟩ := q
  exact ⟨q0, va_K.moved (u := U) (U := U.calling g mk a) (Vm.Alike.refl U.vm) q1, q2, q3⟩
theorem vz_after {rest : List Value} {v : Option Value} {G' : vz_G} {σ' : vz_I} {N' mc ms : Nat} {H : Heap} {locs : List Loc} {ls : Array Slot} {st' : List Value} {a : Array Value}
    (run : va_Run μ.1 μ.2.1 μ.2.2.1 μ.2.2.2.1 μ.2.2.2.2.1 μ.2.2.2.2.2.1 μ.2.2.2.2.2.2.1 μ.2.2.2.2.2.2.2.1 μ.2.2.2.2.2.2.2.2.1 μ.2.2.2.2.2.2.2.2.2.1 H locs kc ks mc ms (F0 μ.2.2.2.2.2.1 pc ls st') (rest.map (vz_cv z)) (vz_Qc z v G' σ' N' a) (vz_A z))
    (hS : va_S (vz_A z) μ.2.2.2.2.1.heap H locs) (hL : vz_LH z ls μ.2.2.2.2.2.2.2.2.2.2.1 L) (h : vz_V z μ (kc + mc) (ks + ms) (pc + 3) L (v.toList ++ rest) G' σ' N') :
    W μ.1 μ.2.1 μ.2.2.1 μ.2.2.2.1 μ.2.2.2.2.1 μ.2.2.2.2.2.1 μ.2.2.2.2.2.2.1 μ.2.2.2.2.2.2.2.1 μ.2.2.2.2.2.2.2.2.1 μ.2.2.2.2.2.2.2.2.2.1 H locs kc ks μ.2.2.2.2.2.2.2.2.2.2.2 (F0 μ.2.2.2.2.2.1 pc ls st') := by
  intro T hT X
  obtain ⟨v', st₀, t, T', Lx, h0, X', hLx, e1, e2, ⟨⟨ho, hP'⟩, hz, hk⟩, steps⟩ := run T hT X
  have hv : v' = v.map (vz_cv z) := by injection ho
  subst hv
  rw [h0] at hz hk
  obtain ⟨t2, a1, b1⟩ := h T'.heap (locs ++ Lx) ls (by rw [e1]; exact hP') ⟨Nat.le_trans hS.1 (by rw [e1]; exact hz), fun q h1 h2 => by rw [e1, hk q (Nat.lt_of_lt_of_le h1 hS.1) h2]; exact hS.2.1 q h1 h2, fun q hq => by
      rcases List.mem_append.mp hq with h | h
      · exact hS.2.2 q h
      · exact hLx q h⟩ hL T' rfl X'
  rw [show (v.toList ++ rest).map (vz_cv z) = (v.map (vz_cv z)).toList ++ rest.map (vz_cv z) by cases v <;> simp] at a1
  exact ⟨t2, steps t2 a1, b1⟩
theorem vz_stk {As rest : List Value} : (As.reverse ++ rest).map (vz_cv z) = (As.map (vz_cv z)).reverse ++ rest.map (vz_cv z) := by simp
theorem vz_cat (rest : List Value) : ((rest.map (vz_cv z)).map fun v => v.category).sum = (rest.map fun v => v.category).sum := by
  rw [List.map_map]
  congr 1
  apply List.map_congr_left
  intro v _
  exact vz_cv_cat z v
theorem vr_callV (hc : vz_C z μ cc own dp nL) {idx ci dq maxL b mc ms n : Nat} {y : MethodName} {bytes : ByteArray} {ret : Option FieldType} {As rest : List Value} {v : Option Value} {G' : vz_G} {σ' : vz_I} {N' : Nat} (hd : decode cc pc = .ok (.invokevirtual idx, 3)) (hm : vz_MV ci y bytes maxL ret n) (hl : Cond.methodLink own idx y ∈ vz_tbl) (hG : (G b).1 = ci) (hM : vz_Con z μ.2.1 dq y bytes maxL ret (.ref b :: As) G σ N v G' σ' N' mc ms) (hn : As.length = n) (hq : dq < dp) (hst : st = As.reverse ++ .ref b :: rest) (hr : (rest.map fun v => v.category).sum ≤ 8) (hcap : kc + mc ≤ μ.2.2.2.1.cells ∧ ks + ms ≤ μ.2.2.2.1.slots) (h : vz_V z μ (kc + mc) (ks + ms) (pc + 3) L (v.toList ++ rest) G' σ' N') : vz_V z μ kc ks pc L st G σ N := by
  intro H locs ls hP hS hL
  subst hst
  obtain ⟨⟨m1, m2, m3, m4⟩, m5, m6, m7, T0, k0, m8⟩ := hm
  have hb : b < N := vz_lt hP hG (by omega)
  have he := vz_W_get (z := z) (G := G) (σ := σ) hb
  rw [vz_el_obj hG m7] at he
  refine vz_after (va_runV (As := As.map (vz_cv z)) (rest := rest.map (vz_cv z)) (b := vz_ad z b) (C := y.cls) (Ts := vz_tbl) (g := F0 μ.2.2.2.2.2.1 pc ls _) ⟨hc.1, hc.2.1, hc.2.2.1, hc.2.2.2.1, hc.2.2.2.2.1⟩ hM ⟨callB_of (ws' := vz_tbl) n hc.2.2.2.2.1 (vz_good m1) rfl rfl rfl (hc.2.2.2.2.1 _ m2) (hc.2.2.2.2.1 _ hl) m4 ⟨?_, ?_⟩, hc.2.2.2.2.1 _ m5, hc.2.2.2.2.1 _ m6⟩ ⟨vz_blind (z := z) (G := G) (σ := σ) (N := N) (As := .ref b :: As), ?_, fun U hU hW => ⟨rfl, va_K.moved hW.alike hc.2.2.2.2.2.1, ?_, ?_⟩⟩ rfl (by rw [List.length_map]; exact hn) hL.1.1 ?_ (lv_room (by rw [vz_cat]; exact hr)) hd hcap) hS hL h
  · have := hc.2.2.2.2.2.2.2.1
    show dq + 1 ≤ _
    omega
  · have := hc.2.2.2.2.2.2.2.2.1
    show 8 + (maxL + 11) + 35 * dq ≤ _
    omega
  · rw [vz_adr hP hb]
    exact va_recv hc.2.2.2.2.2.1 hP.2.2.2 m8 he
  · rw [hU]; exact Nat.le_trans hc.2.2.2.2.2.2.1 hS.1
  · rw [hU]; exact hP
  · show (As.reverse ++ .ref b :: rest).map (vz_cv z) = _
    rw [vz_stk]
    rfl
theorem vr_callS (hc : vz_C z μ cc own dp nL) {idx dq maxL mc ms n : Nat} {y : MethodName} {bytes : ByteArray} {ret : Option FieldType} {As rest : List Value} {v : Option Value} {G' : vz_G} {σ' : vz_I} {N' : Nat} (hd : decode cc pc = .ok (.invokestatic idx, 3)) (hm : vz_MS y bytes maxL ret n) (hs : Cond.static y ∈ vz_tbl) (hl : Cond.methodLink own idx y ∈ vz_tbl) (hM : vz_Con z μ.2.1 dq y bytes maxL ret As G σ N v G' σ' N' mc ms) (hn : As.length = n) (hq : dq < dp) (hst : st = As.reverse ++ rest) (hr : (rest.map fun v => v.category).sum ≤ 8) (hcap : kc + mc ≤ μ.2.2.2.1.cells ∧ ks + ms ≤ μ.2.2.2.1.slots) (h : vz_V z μ (kc + mc) (ks + ms) (pc + 3) L (v.toList ++ rest) G' σ' N') : vz_V z μ kc ks pc L st G σ N := by
  intro H locs ls hP hS hL
  subst hst
  obtain ⟨m1, m2, m3, m4⟩ := hm
  refine vz_after (va_runS (As := As.map (vz_cv z)) (rest := rest.map (vz_cv z)) (Ts := vz_tbl) (g := F0 μ.2.2.2.2.2.1 pc ls _) ⟨hc.1, hc.2.1, hc.2.2.1, hc.2.2.2.1, hc.2.2.2.2.1⟩ hM ⟨callB_of (ws' := vz_tbl) n hc.2.2.2.2.1 (vz_good m1) rfl rfl rfl (hc.2.2.2.2.1 _ m2) (hc.2.2.2.2.1 _ hl) m4 ⟨?_, ?_⟩, hc.2.2.2.2.1 _ hs⟩ ⟨vz_blind, fun U hU hW => ⟨rfl, va_K.moved hW.alike hc.2.2.2.2.2.1, ?_, ?_⟩⟩ rfl (by rw [List.length_map]; exact hn) hL.1.1 vz_stk (lv_room (by rw [vz_cat]; exact hr)) hd hcap) hS hL h
  · have := hc.2.2.2.2.2.2.2.1
    show dq + 1 ≤ _
    omega
  · have := hc.2.2.2.2.2.2.2.2.1
    show 8 + (maxL + 11) + 35 * dq ≤ _
    omega
  · rw [hU]; exact Nat.le_trans hc.2.2.2.2.2.2.1 hS.1
  · rw [hU]; exact hP
theorem vr_callN (hc : vz_C z μ cc own dp nL) {idx dq maxL mc ms n : Nat} {y : MethodName} {bytes : ByteArray} {ret : Option FieldType} {host : String} {As rest : List Value} {v : Option Value} {G' : vz_G} {σ' : vz_I} {N' : Nat} (hd : decode cc pc = .ok (.invokestatic idx, 3)) (hm : vz_MS y bytes maxL ret n) (hs : Cond.static y ∈ vz_tbl) (hl : Cond.methodLinkNest own idx y host ∈ vz_tbl) (hM : vz_Con z μ.2.1 dq y bytes maxL ret As G σ N v G' σ' N' mc ms) (hn : As.length = n) (hq : dq < dp) (hst : st = As.reverse ++ rest) (hr : (rest.map fun v => v.category).sum ≤ 8) (hcap : kc + mc ≤ μ.2.2.2.1.cells ∧ ks + ms ≤ μ.2.2.2.1.slots) (h : vz_V z μ (kc + mc) (ks + ms) (pc + 3) L (v.toList ++ rest) G' σ' N') : vz_V z μ kc ks pc L st G σ N := by
  intro H locs ls hP hS hL
  subst hst
  obtain ⟨m1, m2, m3, m4⟩ := hm
  refine vz_after (va_runSN (As := As.map (vz_cv z)) (rest := rest.map (vz_cv z)) (Ts := vz_tbl) (g := F0 μ.2.2.2.2.2.1 pc ls _) ⟨hc.1, hc.2.1, hc.2.2.1, hc.2.2.2.1, hc.2.2.2.2.1⟩ hM ⟨va_cnB (ws' := vz_tbl) n hc.2.2.2.2.1 (vz_good m1) rfl rfl rfl (va_tabs rfl rfl (hc.2.2.2.2.1 _ hl)) (hc.2.2.2.2.1 _ m2) m4 ⟨?_, ?_⟩, hc.2.2.2.2.1 _ hs, trivial⟩ ⟨vz_blind, fun U hU hW => ⟨rfl, va_K.moved hW.alike hc.2.2.2.2.2.1, ?_, ?_⟩⟩ rfl (by rw [List.length_map]; exact hn) hL.1.1 vz_stk (lv_room (by rw [vz_cat]; exact hr)) hd hcap) hS hL h
  · have := hc.2.2.2.2.2.2.2.1
    show dq + 1 ≤ _
    omega
  · have := hc.2.2.2.2.2.2.2.2.1
    show 8 + (maxL + 11) + 35 * dq ≤ _
    omega
  · rw [hU]; exact Nat.le_trans hc.2.2.2.2.2.2.1 hS.1
  · rw [hU]; exact hP
theorem vr_callI (hc : vz_C z μ cc own dp nL) {idx dq maxL b mc ms n : Nat} {y : MethodName} {bytes : ByteArray} {As rest : List Value} {G' : vz_G} {σ' : vz_I} {N' : Nat} (hd : decode cc pc = .ok (.invokespecial idx, 3)) (hm : vz_MI y bytes maxL n) (hl : Cond.methodLink own idx y ∈ vz_tbl) (hM : vz_Con z μ.2.1 dq y bytes maxL none (.ref b :: As) G σ N none G' σ' N' mc ms) (hn : As.length = n) (hq : dq < dp) (hst : st = As.reverse ++ .ref b :: rest) (hr : (rest.map fun v => v.category).sum ≤ 8) (hcap : kc + mc ≤ μ.2.2.2.1.cells ∧ ks + ms ≤ μ.2.2.2.1.slots) (h : vz_V z μ (kc + mc) (ks + ms) (pc + 3) L rest G' σ' N') : vz_V z μ kc ks pc L st G σ N := by
  intro H locs ls hP hS hL
  subst hst
  obtain ⟨⟨m1, m2, m3, m4⟩, m5, m6⟩ := hm
  refine vz_after (v := none) (va_runI (As := As.map (vz_cv z)) (rest := rest.map (vz_cv z)) (b := vz_ad z b) (Ts := vz_tbl) (g := F0 μ.2.2.2.2.2.1 pc ls _) ⟨hc.1, hc.2.1, hc.2.2.1, hc.2.2.2.1, hc.2.2.2.2.1⟩ hM ⟨callB_of (ws' := vz_tbl) n hc.2.2.2.2.1 (vz_good m1) rfl rfl rfl (hc.2.2.2.2.1 _ m2) (hc.2.2.2.2.1 _ hl) m4 ⟨?_, ?_⟩, m6, hc.2.2.2.2.1 _ m5⟩ ⟨vz_blind (z := z) (G := G) (σ := σ) (N := N) (As := .ref b :: As), fun U hU hW => ⟨rfl, va_K.moved hW.alike hc.2.2.2.2.2.1, ?_, ?_⟩⟩ rfl (by rw [List.length_map]; exact hn) hL.1.1 ?_ (lv_room (by rw [vz_cat]; exact hr)) hd hcap) hS hL h
  · have := hc.2.2.2.2.2.2.2.1
    show dq + 1 ≤ _
    omega
  · have := hc.2.2.2.2.2.2.2.2.1
    show 8 + (maxL + 11) + 35 * dq ≤ _
    omega
  · rw [hU]; exact Nat.le_trans hc.2.2.2.2.2.2.1 hS.1
  · rw [hU]; exact hP
  · show (As.reverse ++ .ref b :: rest).map (vz_cv z) = _
    rw [vz_stk]
    rfl
end VZC
end
section
/-! the cells of the class (0 .. 107) and of the reference (108 .. 122), as both constructors leave them -/
def vz_tab : List (Nat × Nat × List (Option (Option Nat))) := [(8, 0, [some (some 1), some (some 21), some (some 38), some (some 55), some (some 56), some (some 57), some (some 62), some (some 63), some (some 64), some (some 65), none]), (6, 0, [some (some 2), some (some 4), none, none, none, none, none, none, none]), (5, 0, [none, some (some 3)]), (11, 160, []), (7, 0, [none, none, none, none, none, some (some 5), some (some 6), some (some 7), some (some 8)]), (13, 4, [some (some 9), some (some 11), some (some 13), some (some 15)]), (14, 4, [some (some 17), some (some 18), some (some 19), some (some 20)]), (10, 9, []), (10, 9, []), (0, 0, [none, none, none, some (some 10)]), (10, 4, []), (0, 0, [none, none, none, some (some 12)]), (10, 4, []), (0, 0, [none, none, none, some (some 14)]), (10, 4, []), (0, 0, [none, none, none, some (some 16)]), (10, 4, []), (3, 0, [none, none, none]), (3, 0, [none, none, none]), (3, 0, [none, none, none]), (3, 0, [none, none, none]), (7, 0, [none, none, none, none, none, some (some 22), some (some 23), some (some 24), some (some 25)]), (13, 4, [some (some 26), some (some 28), some (some 30), some (some 32)]), (14, 4, [some (some 34), some (some 35), some (some 36), some (some 37)]), (10, 9, []), (10, 9, []), (0, 0, [none, none, none, some (some 27)]), (10, 4, []), (0, 0, [none, none, none, some (some 29)]), (10, 4, []), (0, 0, [none, none, none, some (some 31)]), (10, 4, []), (0, 0, [none, none, none, some (some 33)]), (10, 4, []), (3, 0, [none, none, none]), (3, 0, [none, none, none]), (3, 0, [none, none, none]), (3, 0, [none, none, none]), (7, 0, [none, none, none, none, none, some (some 39), some (some 40), some (some 41), some (some 42)]), (13, 4, [some (some 43), some (some 45), some (some 47), some (some 49)]), (14, 4, [some (some 51), some (some 52), some (some 53), some (some 54)]), (10, 9, []), (10, 9, []), (0, 0, [none, none, none, some (some 44)]), (10, 4, []), (0, 0, [none, none, none, some (some 46)]), (10, 4, []), (0, 0, [none, none, none, some (some 48)]), (10, 4, []), (0, 0, [none, none, none, some (some 50)]), (10, 4, []), (3, 0, [none, none, none]), (3, 0, [none, none, none]), (3, 0, [none, none, none]), (3, 0, [none, none, none]), (16, 2, [some (some 66), some (some 83)]), (12, 2, []), (1, 0, [none, some (some 58), some (some 59), some (some 60), some (some 61)]), (10, 6, []), (10, 6, []), (10, 6, []), (12, 6, []), (15, 4, [some (some 100), some (some 102), some (some 104), some (some 106)]), (3, 0, [none, none, none]), (2, 0, [none, none]), (10, 4, []), (7, 0, [none, none, none, none, none, some (some 67), some (some 68), some (some 69), some (some 70)]), (13, 4, [some (some 71), some (some 73), some (some 75), some (some 77)]), (14, 4, [some (some 79), some (some 80), some (some 81), some (some 82)]), (10, 9, []), (10, 9, []), (0, 0, [none, none, none, some (some 72)]), (10, 4, []), (0, 0, [none, none, none, some (some 74)]), (10, 4, []), (0, 0, [none, none, none, some (some 76)]), (10, 4, []), (0, 0, [none, none, none, some (some 78)]), (10, 4, []), (3, 0, [none, none, none]), (3, 0, [none, none, none]), (3, 0, [none, none, none]), (3, 0, [none, none, none]), (7, 0, [none, none, none, none, none, some (some 84), some (some 85), some (some 86), some (some 87)]), (13, 4, [some (some 88), some (some 90), some (some 92), some (some 94)]), (14, 4, [some (some 96), some (some 97), some (some 98), some (some 99)]), (10, 9, []), (10, 9, []), (0, 0, [none, none, none, some (some 89)]), (10, 4, []), (0, 0, [none, none, none, some (some 91)]), (10, 4, []), (0, 0, [none, none, none, some (some 93)]), (10, 4, []), (0, 0, [none, none, none, some (some 95)]), (10, 4, []), (3, 0, [none, none, none]), (3, 0, [none, none, none]), (3, 0, [none, none, none]), (3, 0, [none, none, none]), (4, 0, [none, none, some (some 101)]), (10, 40, []), (4, 0, [none, none, some (some 103)]), (10, 40, []), (4, 0, [none, none, some (some 105)]), (10, 40, []), (4, 0, [none, none, some (some 107)]), (10, 40, []), (9, 0, [some (some 109), none, none, some (some 110), none, none, none, some (some 111), none, none, none, none, none, none, none, none, some (some 112), some (some 113), none, some (some 114), some (some 115), some (some 116), none, some (some 117), none, some (some 118), some (some 119), some (some 120), some (some 121), some (some 122), none]), (10, 305, []), (10, 61, []), (10, 160, []), (10, 8, []), (10, 33, []), (10, 40, []), (10, 40, []), (10, 4, []), (10, 24, []), (10, 16, []), (12, 2, []), (10, 4, []), (10, 4, []), (10, 160, [])]
def vz_G0 : vz_G := fun a => ((vz_tab.getD a (99, 0, [])).1, (vz_tab.getD a (99, 0, [])).2.1, fun k => (vz_tab.getD a (99, 0, [])).2.2.getD k none)
abbrev vz_N0 : Nat := 123
theorem vz_G0_out {a : Nat} (h : 123 ≤ a) : (vz_G0 a).1 = 99 := by
  have : vz_tab.length = 123 := by decide +kernel
  simp only [vz_G0]
  rw [List.getD_eq_default _ _ (by omega)]
theorem vz_rng {a c : Nat} (h : (vz_G0 a).1 = c) (hc : c < 99) : a < 123 := by
  rcases Nat.lt_or_ge a 123 with q | q
  · exact q
  · have := vz_G0_out q
    omega
theorem gi_0_0 {a : Nat} (h : (vz_G0 a).1 = 0) : (vz_G0 a).2.2 0 = none := (by decide +kernel : ∀ a, a < 123 → (vz_G0 a).1 = 0 → (vz_G0 a).2.2 0 = none) a (vz_rng h (by decide)) h
theorem gi_0_1 {a : Nat} (h : (vz_G0 a).1 = 0) : (vz_G0 a).2.2 1 = none := (by decide +kernel : ∀ a, a < 123 → (vz_G0 a).1 = 0 → (vz_G0 a).2.2 1 = none) a (vz_rng h (by decide)) h
theorem gi_0_2 {a : Nat} (h : (vz_G0 a).1 = 0) : (vz_G0 a).2.2 2 = none := (by decide +kernel : ∀ a, a < 123 → (vz_G0 a).1 = 0 → (vz_G0 a).2.2 2 = none) a (vz_rng h (by decide)) h
theorem gr_0_3 {a : Nat} (h : (vz_G0 a).1 = 0) : (vz_G0 a).2.2 3 = some (some (a + 1)) ∧ (vz_G0 (a + 1)).1 = 10 ∧ (vz_G0 (a + 1)).2.1 = 4 := (by decide +kernel : ∀ a, a < 123 → (vz_G0 a).1 = 0 → (vz_G0 a).2.2 3 = some (some (a + 1)) ∧ (vz_G0 (a + 1)).1 = 10 ∧ (vz_G0 (a + 1)).2.1 = 4) a (vz_rng h (by decide)) h
theorem gi_1_0 {a : Nat} (h : (vz_G0 a).1 = 1) : (vz_G0 a).2.2 0 = none := (by decide +kernel : ∀ a, a < 123 → (vz_G0 a).1 = 1 → (vz_G0 a).2.2 0 = none) a (vz_rng h (by decide)) h
theorem gr_1_1 {a : Nat} (h : (vz_G0 a).1 = 1) : (vz_G0 a).2.2 1 = some (some (58)) ∧ (vz_G0 (58)).1 = 10 ∧ (vz_G0 (58)).2.1 = 6 := (by decide +kernel : ∀ a, a < 123 → (vz_G0 a).1 = 1 → (vz_G0 a).2.2 1 = some (some (58)) ∧ (vz_G0 (58)).1 = 10 ∧ (vz_G0 (58)).2.1 = 6) a (vz_rng h (by decide)) h
theorem gr_1_2 {a : Nat} (h : (vz_G0 a).1 = 1) : (vz_G0 a).2.2 2 = some (some (59)) ∧ (vz_G0 (59)).1 = 10 ∧ (vz_G0 (59)).2.1 = 6 := (by decide +kernel : ∀ a, a < 123 → (vz_G0 a).1 = 1 → (vz_G0 a).2.2 2 = some (some (59)) ∧ (vz_G0 (59)).1 = 10 ∧ (vz_G0 (59)).2.1 = 6) a (vz_rng h (by decide)) h
theorem gr_1_3 {a : Nat} (h : (vz_G0 a).1 = 1) : (vz_G0 a).2.2 3 = some (some (60)) ∧ (vz_G0 (60)).1 = 10 ∧ (vz_G0 (60)).2.1 = 6 := (by decide +kernel : ∀ a, a < 123 → (vz_G0 a).1 = 1 → (vz_G0 a).2.2 3 = some (some (60)) ∧ (vz_G0 (60)).1 = 10 ∧ (vz_G0 (60)).2.1 = 6) a (vz_rng h (by decide)) h
theorem gr_1_4 {a : Nat} (h : (vz_G0 a).1 = 1) : (vz_G0 a).2.2 4 = some (some (61)) ∧ (vz_G0 (61)).1 = 12 ∧ (vz_G0 (61)).2.1 = 6 := (by decide +kernel : ∀ a, a < 123 → (vz_G0 a).1 = 1 → (vz_G0 a).2.2 4 = some (some (61)) ∧ (vz_G0 (61)).1 = 12 ∧ (vz_G0 (61)).2.1 = 6) a (vz_rng h (by decide)) h
theorem gi_2_0 {a : Nat} (h : (vz_G0 a).1 = 2) : (vz_G0 a).2.2 0 = none := (by decide +kernel : ∀ a, a < 123 → (vz_G0 a).1 = 2 → (vz_G0 a).2.2 0 = none) a (vz_rng h (by decide)) h
theorem gi_2_1 {a : Nat} (h : (vz_G0 a).1 = 2) : (vz_G0 a).2.2 1 = none := (by decide +kernel : ∀ a, a < 123 → (vz_G0 a).1 = 2 → (vz_G0 a).2.2 1 = none) a (vz_rng h (by decide)) h
theorem gi_3_0 {a : Nat} (h : (vz_G0 a).1 = 3) : (vz_G0 a).2.2 0 = none := (by decide +kernel : ∀ a, a < 123 → (vz_G0 a).1 = 3 → (vz_G0 a).2.2 0 = none) a (vz_rng h (by decide)) h
theorem gi_3_1 {a : Nat} (h : (vz_G0 a).1 = 3) : (vz_G0 a).2.2 1 = none := (by decide +kernel : ∀ a, a < 123 → (vz_G0 a).1 = 3 → (vz_G0 a).2.2 1 = none) a (vz_rng h (by decide)) h
theorem gi_3_2 {a : Nat} (h : (vz_G0 a).1 = 3) : (vz_G0 a).2.2 2 = none := (by decide +kernel : ∀ a, a < 123 → (vz_G0 a).1 = 3 → (vz_G0 a).2.2 2 = none) a (vz_rng h (by decide)) h
theorem gi_4_0 {a : Nat} (h : (vz_G0 a).1 = 4) : (vz_G0 a).2.2 0 = none := (by decide +kernel : ∀ a, a < 123 → (vz_G0 a).1 = 4 → (vz_G0 a).2.2 0 = none) a (vz_rng h (by decide)) h
theorem gi_4_1 {a : Nat} (h : (vz_G0 a).1 = 4) : (vz_G0 a).2.2 1 = none := (by decide +kernel : ∀ a, a < 123 → (vz_G0 a).1 = 4 → (vz_G0 a).2.2 1 = none) a (vz_rng h (by decide)) h
theorem gr_4_2 {a : Nat} (h : (vz_G0 a).1 = 4) : (vz_G0 a).2.2 2 = some (some (a + 1)) ∧ (vz_G0 (a + 1)).1 = 10 ∧ (vz_G0 (a + 1)).2.1 = 40 := (by decide +kernel : ∀ a, a < 123 → (vz_G0 a).1 = 4 → (vz_G0 a).2.2 2 = some (some (a + 1)) ∧ (vz_G0 (a + 1)).1 = 10 ∧ (vz_G0 (a + 1)).2.1 = 40) a (vz_rng h (by decide)) h
theorem gi_5_0 {a : Nat} (h : (vz_G0 a).1 = 5) : (vz_G0 a).2.2 0 = none := (by decide +kernel : ∀ a, a < 123 → (vz_G0 a).1 = 5 → (vz_G0 a).2.2 0 = none) a (vz_rng h (by decide)) h
theorem gr_5_1 {a : Nat} (h : (vz_G0 a).1 = 5) : (vz_G0 a).2.2 1 = some (some (3)) ∧ (vz_G0 (3)).1 = 11 ∧ (vz_G0 (3)).2.1 = 160 := (by decide +kernel : ∀ a, a < 123 → (vz_G0 a).1 = 5 → (vz_G0 a).2.2 1 = some (some (3)) ∧ (vz_G0 (3)).1 = 11 ∧ (vz_G0 (3)).2.1 = 160) a (vz_rng h (by decide)) h
theorem gr_6_0 {a : Nat} (h : (vz_G0 a).1 = 6) : (vz_G0 a).2.2 0 = some (some (2)) ∧ (vz_G0 (2)).1 = 5 ∧ (vz_G0 (2)).2.1 = 0 := (by decide +kernel : ∀ a, a < 123 → (vz_G0 a).1 = 6 → (vz_G0 a).2.2 0 = some (some (2)) ∧ (vz_G0 (2)).1 = 5 ∧ (vz_G0 (2)).2.1 = 0) a (vz_rng h (by decide)) h
theorem gr_6_1 {a : Nat} (h : (vz_G0 a).1 = 6) : (vz_G0 a).2.2 1 = some (some (4)) ∧ (vz_G0 (4)).1 = 7 ∧ (vz_G0 (4)).2.1 = 0 := (by decide +kernel : ∀ a, a < 123 → (vz_G0 a).1 = 6 → (vz_G0 a).2.2 1 = some (some (4)) ∧ (vz_G0 (4)).1 = 7 ∧ (vz_G0 (4)).2.1 = 0) a (vz_rng h (by decide)) h
theorem gi_6_2 {a : Nat} (h : (vz_G0 a).1 = 6) : (vz_G0 a).2.2 2 = none := (by decide +kernel : ∀ a, a < 123 → (vz_G0 a).1 = 6 → (vz_G0 a).2.2 2 = none) a (vz_rng h (by decide)) h
theorem gi_6_3 {a : Nat} (h : (vz_G0 a).1 = 6) : (vz_G0 a).2.2 3 = none := (by decide +kernel : ∀ a, a < 123 → (vz_G0 a).1 = 6 → (vz_G0 a).2.2 3 = none) a (vz_rng h (by decide)) h
theorem gi_6_4 {a : Nat} (h : (vz_G0 a).1 = 6) : (vz_G0 a).2.2 4 = none := (by decide +kernel : ∀ a, a < 123 → (vz_G0 a).1 = 6 → (vz_G0 a).2.2 4 = none) a (vz_rng h (by decide)) h
theorem gi_6_5 {a : Nat} (h : (vz_G0 a).1 = 6) : (vz_G0 a).2.2 5 = none := (by decide +kernel : ∀ a, a < 123 → (vz_G0 a).1 = 6 → (vz_G0 a).2.2 5 = none) a (vz_rng h (by decide)) h
theorem gi_6_6 {a : Nat} (h : (vz_G0 a).1 = 6) : (vz_G0 a).2.2 6 = none := (by decide +kernel : ∀ a, a < 123 → (vz_G0 a).1 = 6 → (vz_G0 a).2.2 6 = none) a (vz_rng h (by decide)) h
theorem gi_6_7 {a : Nat} (h : (vz_G0 a).1 = 6) : (vz_G0 a).2.2 7 = none := (by decide +kernel : ∀ a, a < 123 → (vz_G0 a).1 = 6 → (vz_G0 a).2.2 7 = none) a (vz_rng h (by decide)) h
theorem gi_6_8 {a : Nat} (h : (vz_G0 a).1 = 6) : (vz_G0 a).2.2 8 = none := (by decide +kernel : ∀ a, a < 123 → (vz_G0 a).1 = 6 → (vz_G0 a).2.2 8 = none) a (vz_rng h (by decide)) h
theorem gi_7_0 {a : Nat} (h : (vz_G0 a).1 = 7) : (vz_G0 a).2.2 0 = none := (by decide +kernel : ∀ a, a < 123 → (vz_G0 a).1 = 7 → (vz_G0 a).2.2 0 = none) a (vz_rng h (by decide)) h
theorem gi_7_1 {a : Nat} (h : (vz_G0 a).1 = 7) : (vz_G0 a).2.2 1 = none := (by decide +kernel : ∀ a, a < 123 → (vz_G0 a).1 = 7 → (vz_G0 a).2.2 1 = none) a (vz_rng h (by decide)) h
theorem gi_7_2 {a : Nat} (h : (vz_G0 a).1 = 7) : (vz_G0 a).2.2 2 = none := (by decide +kernel : ∀ a, a < 123 → (vz_G0 a).1 = 7 → (vz_G0 a).2.2 2 = none) a (vz_rng h (by decide)) h
theorem gi_7_3 {a : Nat} (h : (vz_G0 a).1 = 7) : (vz_G0 a).2.2 3 = none := (by decide +kernel : ∀ a, a < 123 → (vz_G0 a).1 = 7 → (vz_G0 a).2.2 3 = none) a (vz_rng h (by decide)) h
theorem gi_7_4 {a : Nat} (h : (vz_G0 a).1 = 7) : (vz_G0 a).2.2 4 = none := (by decide +kernel : ∀ a, a < 123 → (vz_G0 a).1 = 7 → (vz_G0 a).2.2 4 = none) a (vz_rng h (by decide)) h
theorem gr_7_5 {a : Nat} (h : (vz_G0 a).1 = 7) : (vz_G0 a).2.2 5 = some (some (a + 1)) ∧ (vz_G0 (a + 1)).1 = 13 ∧ (vz_G0 (a + 1)).2.1 = 4 := (by decide +kernel : ∀ a, a < 123 → (vz_G0 a).1 = 7 → (vz_G0 a).2.2 5 = some (some (a + 1)) ∧ (vz_G0 (a + 1)).1 = 13 ∧ (vz_G0 (a + 1)).2.1 = 4) a (vz_rng h (by decide)) h
theorem gr_7_6 {a : Nat} (h : (vz_G0 a).1 = 7) : (vz_G0 a).2.2 6 = some (some (a + 2)) ∧ (vz_G0 (a + 2)).1 = 14 ∧ (vz_G0 (a + 2)).2.1 = 4 := (by decide +kernel : ∀ a, a < 123 → (vz_G0 a).1 = 7 → (vz_G0 a).2.2 6 = some (some (a + 2)) ∧ (vz_G0 (a + 2)).1 = 14 ∧ (vz_G0 (a + 2)).2.1 = 4) a (vz_rng h (by decide)) h
theorem gr_7_7 {a : Nat} (h : (vz_G0 a).1 = 7) : (vz_G0 a).2.2 7 = some (some (a + 3)) ∧ (vz_G0 (a + 3)).1 = 10 ∧ (vz_G0 (a + 3)).2.1 = 9 := (by decide +kernel : ∀ a, a < 123 → (vz_G0 a).1 = 7 → (vz_G0 a).2.2 7 = some (some (a + 3)) ∧ (vz_G0 (a + 3)).1 = 10 ∧ (vz_G0 (a + 3)).2.1 = 9) a (vz_rng h (by decide)) h
theorem gr_7_8 {a : Nat} (h : (vz_G0 a).1 = 7) : (vz_G0 a).2.2 8 = some (some (a + 4)) ∧ (vz_G0 (a + 4)).1 = 10 ∧ (vz_G0 (a + 4)).2.1 = 9 := (by decide +kernel : ∀ a, a < 123 → (vz_G0 a).1 = 7 → (vz_G0 a).2.2 8 = some (some (a + 4)) ∧ (vz_G0 (a + 4)).1 = 10 ∧ (vz_G0 (a + 4)).2.1 = 9) a (vz_rng h (by decide)) h
theorem gr_8_0 {a : Nat} (h : (vz_G0 a).1 = 8) : (vz_G0 a).2.2 0 = some (some (1)) ∧ (vz_G0 (1)).1 = 6 ∧ (vz_G0 (1)).2.1 = 0 := (by decide +kernel : ∀ a, a < 123 → (vz_G0 a).1 = 8 → (vz_G0 a).2.2 0 = some (some (1)) ∧ (vz_G0 (1)).1 = 6 ∧ (vz_G0 (1)).2.1 = 0) a (vz_rng h (by decide)) h
theorem gr_8_1 {a : Nat} (h : (vz_G0 a).1 = 8) : (vz_G0 a).2.2 1 = some (some (21)) ∧ (vz_G0 (21)).1 = 7 ∧ (vz_G0 (21)).2.1 = 0 := (by decide +kernel : ∀ a, a < 123 → (vz_G0 a).1 = 8 → (vz_G0 a).2.2 1 = some (some (21)) ∧ (vz_G0 (21)).1 = 7 ∧ (vz_G0 (21)).2.1 = 0) a (vz_rng h (by decide)) h
theorem gr_8_2 {a : Nat} (h : (vz_G0 a).1 = 8) : (vz_G0 a).2.2 2 = some (some (38)) ∧ (vz_G0 (38)).1 = 7 ∧ (vz_G0 (38)).2.1 = 0 := (by decide +kernel : ∀ a, a < 123 → (vz_G0 a).1 = 8 → (vz_G0 a).2.2 2 = some (some (38)) ∧ (vz_G0 (38)).1 = 7 ∧ (vz_G0 (38)).2.1 = 0) a (vz_rng h (by decide)) h
theorem gr_8_3 {a : Nat} (h : (vz_G0 a).1 = 8) : (vz_G0 a).2.2 3 = some (some (55)) ∧ (vz_G0 (55)).1 = 16 ∧ (vz_G0 (55)).2.1 = 2 := (by decide +kernel : ∀ a, a < 123 → (vz_G0 a).1 = 8 → (vz_G0 a).2.2 3 = some (some (55)) ∧ (vz_G0 (55)).1 = 16 ∧ (vz_G0 (55)).2.1 = 2) a (vz_rng h (by decide)) h
theorem gr_8_4 {a : Nat} (h : (vz_G0 a).1 = 8) : (vz_G0 a).2.2 4 = some (some (56)) ∧ (vz_G0 (56)).1 = 12 ∧ (vz_G0 (56)).2.1 = 2 := (by decide +kernel : ∀ a, a < 123 → (vz_G0 a).1 = 8 → (vz_G0 a).2.2 4 = some (some (56)) ∧ (vz_G0 (56)).1 = 12 ∧ (vz_G0 (56)).2.1 = 2) a (vz_rng h (by decide)) h
theorem gr_8_5 {a : Nat} (h : (vz_G0 a).1 = 8) : (vz_G0 a).2.2 5 = some (some (57)) ∧ (vz_G0 (57)).1 = 1 ∧ (vz_G0 (57)).2.1 = 0 := (by decide +kernel : ∀ a, a < 123 → (vz_G0 a).1 = 8 → (vz_G0 a).2.2 5 = some (some (57)) ∧ (vz_G0 (57)).1 = 1 ∧ (vz_G0 (57)).2.1 = 0) a (vz_rng h (by decide)) h
theorem gr_8_6 {a : Nat} (h : (vz_G0 a).1 = 8) : (vz_G0 a).2.2 6 = some (some (62)) ∧ (vz_G0 (62)).1 = 15 ∧ (vz_G0 (62)).2.1 = 4 := (by decide +kernel : ∀ a, a < 123 → (vz_G0 a).1 = 8 → (vz_G0 a).2.2 6 = some (some (62)) ∧ (vz_G0 (62)).1 = 15 ∧ (vz_G0 (62)).2.1 = 4) a (vz_rng h (by decide)) h
theorem gr_8_7 {a : Nat} (h : (vz_G0 a).1 = 8) : (vz_G0 a).2.2 7 = some (some (63)) ∧ (vz_G0 (63)).1 = 3 ∧ (vz_G0 (63)).2.1 = 0 := (by decide +kernel : ∀ a, a < 123 → (vz_G0 a).1 = 8 → (vz_G0 a).2.2 7 = some (some (63)) ∧ (vz_G0 (63)).1 = 3 ∧ (vz_G0 (63)).2.1 = 0) a (vz_rng h (by decide)) h
theorem gr_8_8 {a : Nat} (h : (vz_G0 a).1 = 8) : (vz_G0 a).2.2 8 = some (some (64)) ∧ (vz_G0 (64)).1 = 2 ∧ (vz_G0 (64)).2.1 = 0 := (by decide +kernel : ∀ a, a < 123 → (vz_G0 a).1 = 8 → (vz_G0 a).2.2 8 = some (some (64)) ∧ (vz_G0 (64)).1 = 2 ∧ (vz_G0 (64)).2.1 = 0) a (vz_rng h (by decide)) h
theorem gr_8_9 {a : Nat} (h : (vz_G0 a).1 = 8) : (vz_G0 a).2.2 9 = some (some (65)) ∧ (vz_G0 (65)).1 = 10 ∧ (vz_G0 (65)).2.1 = 4 := (by decide +kernel : ∀ a, a < 123 → (vz_G0 a).1 = 8 → (vz_G0 a).2.2 9 = some (some (65)) ∧ (vz_G0 (65)).1 = 10 ∧ (vz_G0 (65)).2.1 = 4) a (vz_rng h (by decide)) h
theorem gi_8_10 {a : Nat} (h : (vz_G0 a).1 = 8) : (vz_G0 a).2.2 10 = none := (by decide +kernel : ∀ a, a < 123 → (vz_G0 a).1 = 8 → (vz_G0 a).2.2 10 = none) a (vz_rng h (by decide)) h
theorem gr_9_0 {a : Nat} (h : (vz_G0 a).1 = 9) : (vz_G0 a).2.2 0 = some (some (109)) ∧ (vz_G0 (109)).1 = 10 ∧ (vz_G0 (109)).2.1 = 305 := (by decide +kernel : ∀ a, a < 123 → (vz_G0 a).1 = 9 → (vz_G0 a).2.2 0 = some (some (109)) ∧ (vz_G0 (109)).1 = 10 ∧ (vz_G0 (109)).2.1 = 305) a (vz_rng h (by decide)) h
theorem gi_9_1 {a : Nat} (h : (vz_G0 a).1 = 9) : (vz_G0 a).2.2 1 = none := (by decide +kernel : ∀ a, a < 123 → (vz_G0 a).1 = 9 → (vz_G0 a).2.2 1 = none) a (vz_rng h (by decide)) h
theorem gi_9_2 {a : Nat} (h : (vz_G0 a).1 = 9) : (vz_G0 a).2.2 2 = none := (by decide +kernel : ∀ a, a < 123 → (vz_G0 a).1 = 9 → (vz_G0 a).2.2 2 = none) a (vz_rng h (by decide)) h
theorem gr_9_3 {a : Nat} (h : (vz_G0 a).1 = 9) : (vz_G0 a).2.2 3 = some (some (110)) ∧ (vz_G0 (110)).1 = 10 ∧ (vz_G0 (110)).2.1 = 61 := (by decide +kernel : ∀ a, a < 123 → (vz_G0 a).1 = 9 → (vz_G0 a).2.2 3 = some (some (110)) ∧ (vz_G0 (110)).1 = 10 ∧ (vz_G0 (110)).2.1 = 61) a (vz_rng h (by decide)) h
theorem gi_9_4 {a : Nat} (h : (vz_G0 a).1 = 9) : (vz_G0 a).2.2 4 = none := (by decide +kernel : ∀ a, a < 123 → (vz_G0 a).1 = 9 → (vz_G0 a).2.2 4 = none) a (vz_rng h (by decide)) h
theorem gi_9_5 {a : Nat} (h : (vz_G0 a).1 = 9) : (vz_G0 a).2.2 5 = none := (by decide +kernel : ∀ a, a < 123 → (vz_G0 a).1 = 9 → (vz_G0 a).2.2 5 = none) a (vz_rng h (by decide)) h
theorem gi_9_6 {a : Nat} (h : (vz_G0 a).1 = 9) : (vz_G0 a).2.2 6 = none := (by decide +kernel : ∀ a, a < 123 → (vz_G0 a).1 = 9 → (vz_G0 a).2.2 6 = none) a (vz_rng h (by decide)) h
theorem gr_9_7 {a : Nat} (h : (vz_G0 a).1 = 9) : (vz_G0 a).2.2 7 = some (some (111)) ∧ (vz_G0 (111)).1 = 10 ∧ (vz_G0 (111)).2.1 = 160 := (by decide +kernel : ∀ a, a < 123 → (vz_G0 a).1 = 9 → (vz_G0 a).2.2 7 = some (some (111)) ∧ (vz_G0 (111)).1 = 10 ∧ (vz_G0 (111)).2.1 = 160) a (vz_rng h (by decide)) h
theorem gi_9_8 {a : Nat} (h : (vz_G0 a).1 = 9) : (vz_G0 a).2.2 8 = none := (by decide +kernel : ∀ a, a < 123 → (vz_G0 a).1 = 9 → (vz_G0 a).2.2 8 = none) a (vz_rng h (by decide)) h
theorem gi_9_9 {a : Nat} (h : (vz_G0 a).1 = 9) : (vz_G0 a).2.2 9 = none := (by decide +kernel : ∀ a, a < 123 → (vz_G0 a).1 = 9 → (vz_G0 a).2.2 9 = none) a (vz_rng h (by decide)) h
theorem gi_9_10 {a : Nat} (h : (vz_G0 a).1 = 9) : (vz_G0 a).2.2 10 = none := (by decide +kernel : ∀ a, a < 123 → (vz_G0 a).1 = 9 → (vz_G0 a).2.2 10 = none) a (vz_rng h (by decide)) h
theorem gi_9_11 {a : Nat} (h : (vz_G0 a).1 = 9) : (vz_G0 a).2.2 11 = none := (by decide +kernel : ∀ a, a < 123 → (vz_G0 a).1 = 9 → (vz_G0 a).2.2 11 = none) a (vz_rng h (by decide)) h
theorem gi_9_12 {a : Nat} (h : (vz_G0 a).1 = 9) : (vz_G0 a).2.2 12 = none := (by decide +kernel : ∀ a, a < 123 → (vz_G0 a).1 = 9 → (vz_G0 a).2.2 12 = none) a (vz_rng h (by decide)) h
theorem gi_9_13 {a : Nat} (h : (vz_G0 a).1 = 9) : (vz_G0 a).2.2 13 = none := (by decide +kernel : ∀ a, a < 123 → (vz_G0 a).1 = 9 → (vz_G0 a).2.2 13 = none) a (vz_rng h (by decide)) h
theorem gi_9_14 {a : Nat} (h : (vz_G0 a).1 = 9) : (vz_G0 a).2.2 14 = none := (by decide +kernel : ∀ a, a < 123 → (vz_G0 a).1 = 9 → (vz_G0 a).2.2 14 = none) a (vz_rng h (by decide)) h
theorem gi_9_15 {a : Nat} (h : (vz_G0 a).1 = 9) : (vz_G0 a).2.2 15 = none := (by decide +kernel : ∀ a, a < 123 → (vz_G0 a).1 = 9 → (vz_G0 a).2.2 15 = none) a (vz_rng h (by decide)) h
theorem gr_9_16 {a : Nat} (h : (vz_G0 a).1 = 9) : (vz_G0 a).2.2 16 = some (some (112)) ∧ (vz_G0 (112)).1 = 10 ∧ (vz_G0 (112)).2.1 = 8 := (by decide +kernel : ∀ a, a < 123 → (vz_G0 a).1 = 9 → (vz_G0 a).2.2 16 = some (some (112)) ∧ (vz_G0 (112)).1 = 10 ∧ (vz_G0 (112)).2.1 = 8) a (vz_rng h (by decide)) h
theorem gr_9_17 {a : Nat} (h : (vz_G0 a).1 = 9) : (vz_G0 a).2.2 17 = some (some (113)) ∧ (vz_G0 (113)).1 = 10 ∧ (vz_G0 (113)).2.1 = 33 := (by decide +kernel : ∀ a, a < 123 → (vz_G0 a).1 = 9 → (vz_G0 a).2.2 17 = some (some (113)) ∧ (vz_G0 (113)).1 = 10 ∧ (vz_G0 (113)).2.1 = 33) a (vz_rng h (by decide)) h
theorem gi_9_18 {a : Nat} (h : (vz_G0 a).1 = 9) : (vz_G0 a).2.2 18 = none := (by decide +kernel : ∀ a, a < 123 → (vz_G0 a).1 = 9 → (vz_G0 a).2.2 18 = none) a (vz_rng h (by decide)) h
theorem gr_9_19 {a : Nat} (h : (vz_G0 a).1 = 9) : (vz_G0 a).2.2 19 = some (some (114)) ∧ (vz_G0 (114)).1 = 10 ∧ (vz_G0 (114)).2.1 = 40 := (by decide +kernel : ∀ a, a < 123 → (vz_G0 a).1 = 9 → (vz_G0 a).2.2 19 = some (some (114)) ∧ (vz_G0 (114)).1 = 10 ∧ (vz_G0 (114)).2.1 = 40) a (vz_rng h (by decide)) h
theorem gr_9_20 {a : Nat} (h : (vz_G0 a).1 = 9) : (vz_G0 a).2.2 20 = some (some (115)) ∧ (vz_G0 (115)).1 = 10 ∧ (vz_G0 (115)).2.1 = 40 := (by decide +kernel : ∀ a, a < 123 → (vz_G0 a).1 = 9 → (vz_G0 a).2.2 20 = some (some (115)) ∧ (vz_G0 (115)).1 = 10 ∧ (vz_G0 (115)).2.1 = 40) a (vz_rng h (by decide)) h
theorem gr_9_21 {a : Nat} (h : (vz_G0 a).1 = 9) : (vz_G0 a).2.2 21 = some (some (116)) ∧ (vz_G0 (116)).1 = 10 ∧ (vz_G0 (116)).2.1 = 4 := (by decide +kernel : ∀ a, a < 123 → (vz_G0 a).1 = 9 → (vz_G0 a).2.2 21 = some (some (116)) ∧ (vz_G0 (116)).1 = 10 ∧ (vz_G0 (116)).2.1 = 4) a (vz_rng h (by decide)) h
theorem gi_9_22 {a : Nat} (h : (vz_G0 a).1 = 9) : (vz_G0 a).2.2 22 = none := (by decide +kernel : ∀ a, a < 123 → (vz_G0 a).1 = 9 → (vz_G0 a).2.2 22 = none) a (vz_rng h (by decide)) h
theorem gr_9_23 {a : Nat} (h : (vz_G0 a).1 = 9) : (vz_G0 a).2.2 23 = some (some (117)) ∧ (vz_G0 (117)).1 = 10 ∧ (vz_G0 (117)).2.1 = 24 := (by decide +kernel : ∀ a, a < 123 → (vz_G0 a).1 = 9 → (vz_G0 a).2.2 23 = some (some (117)) ∧ (vz_G0 (117)).1 = 10 ∧ (vz_G0 (117)).2.1 = 24) a (vz_rng h (by decide)) h
theorem gi_9_24 {a : Nat} (h : (vz_G0 a).1 = 9) : (vz_G0 a).2.2 24 = none := (by decide +kernel : ∀ a, a < 123 → (vz_G0 a).1 = 9 → (vz_G0 a).2.2 24 = none) a (vz_rng h (by decide)) h
theorem gr_9_25 {a : Nat} (h : (vz_G0 a).1 = 9) : (vz_G0 a).2.2 25 = some (some (118)) ∧ (vz_G0 (118)).1 = 10 ∧ (vz_G0 (118)).2.1 = 16 := (by decide +kernel : ∀ a, a < 123 → (vz_G0 a).1 = 9 → (vz_G0 a).2.2 25 = some (some (118)) ∧ (vz_G0 (118)).1 = 10 ∧ (vz_G0 (118)).2.1 = 16) a (vz_rng h (by decide)) h
theorem gr_9_26 {a : Nat} (h : (vz_G0 a).1 = 9) : (vz_G0 a).2.2 26 = some (some (119)) ∧ (vz_G0 (119)).1 = 12 ∧ (vz_G0 (119)).2.1 = 2 := (by decide +kernel : ∀ a, a < 123 → (vz_G0 a).1 = 9 → (vz_G0 a).2.2 26 = some (some (119)) ∧ (vz_G0 (119)).1 = 12 ∧ (vz_G0 (119)).2.1 = 2) a (vz_rng h (by decide)) h
theorem gr_9_27 {a : Nat} (h : (vz_G0 a).1 = 9) : (vz_G0 a).2.2 27 = some (some (120)) ∧ (vz_G0 (120)).1 = 10 ∧ (vz_G0 (120)).2.1 = 4 := (by decide +kernel : ∀ a, a < 123 → (vz_G0 a).1 = 9 → (vz_G0 a).2.2 27 = some (some (120)) ∧ (vz_G0 (120)).1 = 10 ∧ (vz_G0 (120)).2.1 = 4) a (vz_rng h (by decide)) h
theorem gr_9_28 {a : Nat} (h : (vz_G0 a).1 = 9) : (vz_G0 a).2.2 28 = some (some (121)) ∧ (vz_G0 (121)).1 = 10 ∧ (vz_G0 (121)).2.1 = 4 := (by decide +kernel : ∀ a, a < 123 → (vz_G0 a).1 = 9 → (vz_G0 a).2.2 28 = some (some (121)) ∧ (vz_G0 (121)).1 = 10 ∧ (vz_G0 (121)).2.1 = 4) a (vz_rng h (by decide)) h
theorem gr_9_29 {a : Nat} (h : (vz_G0 a).1 = 9) : (vz_G0 a).2.2 29 = some (some (122)) ∧ (vz_G0 (122)).1 = 10 ∧ (vz_G0 (122)).2.1 = 160 := (by decide +kernel : ∀ a, a < 123 → (vz_G0 a).1 = 9 → (vz_G0 a).2.2 29 = some (some (122)) ∧ (vz_G0 (122)).1 = 10 ∧ (vz_G0 (122)).2.1 = 160) a (vz_rng h (by decide)) h
theorem gi_9_30 {a : Nat} (h : (vz_G0 a).1 = 9) : (vz_G0 a).2.2 30 = none := (by decide +kernel : ∀ a, a < 123 → (vz_G0 a).1 = 9 → (vz_G0 a).2.2 30 = none) a (vz_rng h (by decide)) h
theorem ge_13 {a : Nat} (h : (vz_G0 a).1 = 7) {i : Nat} (hi : i < 4) : (vz_G0 (a + 1)).2.2 i = some (some (a + 5 + 2 * i)) ∧ (vz_G0 (a + 5 + 2 * i)).1 = 0 := (by decide +kernel : ∀ a, a < 123 → (vz_G0 a).1 = 7 → ∀ i, i < 4 → (vz_G0 (a + 1)).2.2 i = some (some (a + 5 + 2 * i)) ∧ (vz_G0 (a + 5 + 2 * i)).1 = 0) a (vz_rng h (by decide)) h i hi
theorem ge_14 {a : Nat} (h : (vz_G0 a).1 = 7) {i : Nat} (hi : i < 4) : (vz_G0 (a + 2)).2.2 i = some (some (a + 13 + i)) ∧ (vz_G0 (a + 13 + i)).1 = 3 := (by decide +kernel : ∀ a, a < 123 → (vz_G0 a).1 = 7 → ∀ i, i < 4 → (vz_G0 (a + 2)).2.2 i = some (some (a + 13 + i)) ∧ (vz_G0 (a + 13 + i)).1 = 3) a (vz_rng h (by decide)) h i hi
theorem ge_15 {a : Nat} (h : (vz_G0 a).1 = 8) {i : Nat} (hi : i < 4) : (vz_G0 (62)).2.2 i = some (some (100 + 2 * i)) ∧ (vz_G0 (100 + 2 * i)).1 = 4 := (by decide +kernel : ∀ a, a < 123 → (vz_G0 a).1 = 8 → ∀ i, i < 4 → (vz_G0 (62)).2.2 i = some (some (100 + 2 * i)) ∧ (vz_G0 (100 + 2 * i)).1 = 4) a (vz_rng h (by decide)) h i hi
theorem ge_16 {a : Nat} (h : (vz_G0 a).1 = 8) {i : Nat} (hi : i < 2) : (vz_G0 (55)).2.2 i = some (some (66 + 17 * i)) ∧ (vz_G0 (66 + 17 * i)).1 = 7 := (by decide +kernel : ∀ a, a < 123 → (vz_G0 a).1 = 8 → ∀ i, i < 2 → (vz_G0 (55)).2.2 i = some (some (66 + 17 * i)) ∧ (vz_G0 (66 + 17 * i)).1 = 7) a (vz_rng h (by decide)) h i hi
theorem gc_0 : (vz_G0 0).1 = 8 := by decide +kernel
theorem gc_1 : (vz_G0 1).1 = 6 := by decide +kernel
theorem gc_2 : (vz_G0 2).1 = 5 := by decide +kernel
theorem gc_57 : (vz_G0 57).1 = 1 := by decide +kernel
theorem gc_64 : (vz_G0 64).1 = 2 := by decide +kernel
theorem gc_108 : (vz_G0 108).1 = 9 := by decide +kernel
end
