-- the tables' words (kit, SKELETON part A) and the printed names (claim/NAMES.whole)
/-- a private method of a class that the tables say can be made, by its rows of tables_1 -/
def lw_okq (q : MethodName × Nat) : Prop := (q.1.cls ≠ "java/lang/invoke/MethodHandle" ∧ q.1.cls ≠ "java/lang/invoke/VarHandle") ∧ Cond.instantiable q.1.cls q.2 ∈ tables_1 ∧ Cond.privateMethod q.1 ∈ tables_1 ∧ Cond.instanceMethod q.1 ∈ tables_1
theorem lw_p0 : lw_okq (⟨"TwentyPhrases", "tell", "(I)I"⟩, 8) := ⟨⟨by decide +kernel, by decide +kernel⟩, List.mem_of_getElem? (i := 20) (by decide +kernel), List.mem_of_getElem? (i := 308) (by decide +kernel), List.mem_of_getElem? (i := 309) (by decide +kernel)⟩
theorem lw_p1 : lw_okq (⟨"TwentyPhrases", "isPhrase", "(I)Z"⟩, 8) := ⟨⟨by decide +kernel, by decide +kernel⟩, List.mem_of_getElem? (i := 20) (by decide +kernel), List.mem_of_getElem? (i := 325) (by decide +kernel), List.mem_of_getElem? (i := 326) (by decide +kernel)⟩
theorem lw_p2 : lw_okq (⟨"TwentyPhrases", "isWant", "(I)Z"⟩, 8) := ⟨⟨by decide +kernel, by decide +kernel⟩, List.mem_of_getElem? (i := 20) (by decide +kernel), List.mem_of_getElem? (i := 391) (by decide +kernel), List.mem_of_getElem? (i := 392) (by decide +kernel)⟩
theorem lw_p3 : lw_okq (⟨"TwentyPhrases", "isSet", "(I)Z"⟩, 8) := ⟨⟨by decide +kernel, by decide +kernel⟩, List.mem_of_getElem? (i := 20) (by decide +kernel), List.mem_of_getElem? (i := 414) (by decide +kernel), List.mem_of_getElem? (i := 415) (by decide +kernel)⟩
theorem lw_p4 : lw_okq (⟨"TwentyPhrases$Choice", "listMembers", "(I)I"⟩, 9) := ⟨⟨by decide +kernel, by decide +kernel⟩, List.mem_of_getElem? (i := 168) (by decide +kernel), List.mem_of_getElem? (i := 464) (by decide +kernel), List.mem_of_getElem? (i := 465) (by decide +kernel)⟩
theorem lw_p5 : lw_okq (⟨"TwentyPhrases", "orNone", "(I)I"⟩, 8) := ⟨⟨by decide +kernel, by decide +kernel⟩, List.mem_of_getElem? (i := 20) (by decide +kernel), List.mem_of_getElem? (i := 474) (by decide +kernel), List.mem_of_getElem? (i := 475) (by decide +kernel)⟩
theorem lw_p6 : lw_okq (⟨"TwentyPhrases$Choice", "greedyStep", "(II)I"⟩, 9) := ⟨⟨by decide +kernel, by decide +kernel⟩, List.mem_of_getElem? (i := 168) (by decide +kernel), List.mem_of_getElem? (i := 501) (by decide +kernel), List.mem_of_getElem? (i := 502) (by decide +kernel)⟩
theorem lw_p7 : lw_okq (⟨"TwentyPhrases", "mayGo", "(I)Z"⟩, 8) := ⟨⟨by decide +kernel, by decide +kernel⟩, List.mem_of_getElem? (i := 20) (by decide +kernel), List.mem_of_getElem? (i := 589) (by decide +kernel), List.mem_of_getElem? (i := 590) (by decide +kernel)⟩
theorem lw_p8 : lw_okq (⟨"TwentyPhrases$Book", "meetWants", "(I)I"⟩, 6) := ⟨⟨by decide +kernel, by decide +kernel⟩, List.mem_of_getElem? (i := 28) (by decide +kernel), List.mem_of_getElem? (i := 603) (by decide +kernel), List.mem_of_getElem? (i := 604) (by decide +kernel)⟩
theorem lw_p9 : lw_okq (⟨"TwentyPhrases$Tape", "isLetter", "(I)Z"⟩, 6) := ⟨⟨by decide +kernel, by decide +kernel⟩, List.mem_of_getElem? (i := 221) (by decide +kernel), List.mem_of_getElem? (i := 759) (by decide +kernel), List.mem_of_getElem? (i := 760) (by decide +kernel)⟩
theorem lw_p10 : lw_okq (⟨"TwentyPhrases$Tape", "isDigit", "(I)Z"⟩, 6) := ⟨⟨by decide +kernel, by decide +kernel⟩, List.mem_of_getElem? (i := 221) (by decide +kernel), List.mem_of_getElem? (i := 763) (by decide +kernel), List.mem_of_getElem? (i := 764) (by decide +kernel)⟩
theorem lw_p11 : lw_okq (⟨"TwentyPhrases$Grammar", "readItem", "(LTwentyPhrases$Book;)Z"⟩, 1) := ⟨⟨by decide +kernel, by decide +kernel⟩, List.mem_of_getElem? (i := 215) (by decide +kernel), List.mem_of_getElem? (i := 768) (by decide +kernel), List.mem_of_getElem? (i := 769) (by decide +kernel)⟩
theorem lw_p12 : lw_okq (⟨"TwentyPhrases$Grammar", "kindNamed", "()I"⟩, 1) := ⟨⟨by decide +kernel, by decide +kernel⟩, List.mem_of_getElem? (i := 215) (by decide +kernel), List.mem_of_getElem? (i := 772) (by decide +kernel), List.mem_of_getElem? (i := 773) (by decide +kernel)⟩
theorem lw_p13 : lw_okq (⟨"TwentyPhrases$Grammar", "readPhrase", "(LTwentyPhrases$Phrases;I)Z"⟩, 1) := ⟨⟨by decide +kernel, by decide +kernel⟩, List.mem_of_getElem? (i := 215) (by decide +kernel), List.mem_of_getElem? (i := 834) (by decide +kernel), List.mem_of_getElem? (i := 835) (by decide +kernel)⟩
theorem lw_p14 : lw_okq (⟨"TwentyPhrases$Grammar", "takeNumber", "(II)I"⟩, 1) := ⟨⟨by decide +kernel, by decide +kernel⟩, List.mem_of_getElem? (i := 215) (by decide +kernel), List.mem_of_getElem? (i := 840) (by decide +kernel), List.mem_of_getElem? (i := 841) (by decide +kernel)⟩
theorem lw_p15 : lw_okq (⟨"TwentyPhrases$Grammar", "takeWord", "(Ljava/lang/String;)Z"⟩, 1) := ⟨⟨by decide +kernel, by decide +kernel⟩, List.mem_of_getElem? (i := 215) (by decide +kernel), List.mem_of_getElem? (i := 846) (by decide +kernel), List.mem_of_getElem? (i := 847) (by decide +kernel)⟩
def lw_privs_1 : List (MethodName × Nat) := [(⟨"TwentyPhrases", "tell", "(I)I"⟩, 8), (⟨"TwentyPhrases", "isPhrase", "(I)Z"⟩, 8), (⟨"TwentyPhrases", "isWant", "(I)Z"⟩, 8), (⟨"TwentyPhrases", "isSet", "(I)Z"⟩, 8), (⟨"TwentyPhrases$Choice", "listMembers", "(I)I"⟩, 9), (⟨"TwentyPhrases", "orNone", "(I)I"⟩, 8), (⟨"TwentyPhrases$Choice", "greedyStep", "(II)I"⟩, 9), (⟨"TwentyPhrases", "mayGo", "(I)Z"⟩, 8), (⟨"TwentyPhrases$Book", "meetWants", "(I)I"⟩, 6), (⟨"TwentyPhrases$Tape", "isLetter", "(I)Z"⟩, 6), (⟨"TwentyPhrases$Tape", "isDigit", "(I)Z"⟩, 6), (⟨"TwentyPhrases$Grammar", "readItem", "(LTwentyPhrases$Book;)Z"⟩, 1), (⟨"TwentyPhrases$Grammar", "kindNamed", "()I"⟩, 1), (⟨"TwentyPhrases$Grammar", "readPhrase", "(LTwentyPhrases$Phrases;I)Z"⟩, 1), (⟨"TwentyPhrases$Grammar", "takeNumber", "(II)I"⟩, 1), (⟨"TwentyPhrases$Grammar", "takeWord", "(Ljava/lang/String;)Z"⟩, 1)]
theorem lw_r1 : ∀ q ∈ lw_privs_1, lw_okq q := List.forall_mem_cons.mpr ⟨lw_p0, List.forall_mem_cons.mpr ⟨lw_p1, List.forall_mem_cons.mpr ⟨lw_p2, List.forall_mem_cons.mpr ⟨lw_p3, List.forall_mem_cons.mpr ⟨lw_p4, List.forall_mem_cons.mpr ⟨lw_p5, List.forall_mem_cons.mpr ⟨lw_p6, List.forall_mem_cons.mpr ⟨lw_p7, List.forall_mem_cons.mpr ⟨lw_p8, List.forall_mem_cons.mpr ⟨lw_p9, List.forall_mem_cons.mpr ⟨lw_p10, List.forall_mem_cons.mpr ⟨lw_p11, List.forall_mem_cons.mpr ⟨lw_p12, List.forall_mem_cons.mpr ⟨lw_p13, List.forall_mem_cons.mpr ⟨lw_p14, List.forall_mem_cons.mpr ⟨lw_p15, fun _ h => absurd h List.not_mem_nil⟩⟩⟩⟩⟩⟩⟩⟩⟩⟩⟩⟩⟩⟩⟩⟩
theorem lw_p16 : lw_okq (⟨"TwentyPhrases$Grammar", "readWant", "(LTwentyPhrases$Wants;)Z"⟩, 1) := ⟨⟨by decide +kernel, by decide +kernel⟩, List.mem_of_getElem? (i := 215) (by decide +kernel), List.mem_of_getElem? (i := 853) (by decide +kernel), List.mem_of_getElem? (i := 854) (by decide +kernel)⟩
theorem lw_p17 : lw_okq (⟨"TwentyPhrases$Grammar", "readLine", "(LTwentyPhrases$Book;)Z"⟩, 1) := ⟨⟨by decide +kernel, by decide +kernel⟩, List.mem_of_getElem? (i := 215) (by decide +kernel), List.mem_of_getElem? (i := 864) (by decide +kernel), List.mem_of_getElem? (i := 865) (by decide +kernel)⟩
theorem lw_p18 : lw_okq (⟨"TwentyPhrases$Grammar", "readOrder", "(LTwentyPhrases$Book;)Z"⟩, 1) := ⟨⟨by decide +kernel, by decide +kernel⟩, List.mem_of_getElem? (i := 215) (by decide +kernel), List.mem_of_getElem? (i := 869) (by decide +kernel), List.mem_of_getElem? (i := 870) (by decide +kernel)⟩
theorem lw_p19 : lw_okq (⟨"TwentyPhrasesModel", "finds", "(I)I"⟩, 21) := ⟨⟨by decide +kernel, by decide +kernel⟩, List.mem_of_getElem? (i := 956) (by decide +kernel), List.mem_of_getElem? (i := 1042) (by decide +kernel), List.mem_of_getElem? (i := 1043) (by decide +kernel)⟩
theorem lw_p20 : lw_okq (⟨"TwentyPhrasesModel", "newPhrase", "(IIII)I"⟩, 21) := ⟨⟨by decide +kernel, by decide +kernel⟩, List.mem_of_getElem? (i := 956) (by decide +kernel), List.mem_of_getElem? (i := 1047) (by decide +kernel), List.mem_of_getElem? (i := 1048) (by decide +kernel)⟩
theorem lw_p21 : lw_okq (⟨"TwentyPhrasesModel", "isPhrase", "(I)Z"⟩, 21) := ⟨⟨by decide +kernel, by decide +kernel⟩, List.mem_of_getElem? (i := 956) (by decide +kernel), List.mem_of_getElem? (i := 1058) (by decide +kernel), List.mem_of_getElem? (i := 1059) (by decide +kernel)⟩
theorem lw_p22 : lw_okq (⟨"TwentyPhrasesModel", "its", "(II)I"⟩, 21) := ⟨⟨by decide +kernel, by decide +kernel⟩, List.mem_of_getElem? (i := 956) (by decide +kernel), List.mem_of_getElem? (i := 1063) (by decide +kernel), List.mem_of_getElem? (i := 1064) (by decide +kernel)⟩
theorem lw_p23 : lw_okq (⟨"TwentyPhrasesModel", "isKnown", "(I)Z"⟩, 21) := ⟨⟨by decide +kernel, by decide +kernel⟩, List.mem_of_getElem? (i := 956) (by decide +kernel), List.mem_of_getElem? (i := 1067) (by decide +kernel), List.mem_of_getElem? (i := 1068) (by decide +kernel)⟩
theorem lw_p24 : lw_okq (⟨"TwentyPhrasesModel", "forgets", "(I)I"⟩, 21) := ⟨⟨by decide +kernel, by decide +kernel⟩, List.mem_of_getElem? (i := 956) (by decide +kernel), List.mem_of_getElem? (i := 1071) (by decide +kernel), List.mem_of_getElem? (i := 1072) (by decide +kernel)⟩
theorem lw_p25 : lw_okq (⟨"TwentyPhrasesModel", "newWant", "(III)I"⟩, 21) := ⟨⟨by decide +kernel, by decide +kernel⟩, List.mem_of_getElem? (i := 956) (by decide +kernel), List.mem_of_getElem? (i := 1094) (by decide +kernel), List.mem_of_getElem? (i := 1095) (by decide +kernel)⟩
theorem lw_p26 : lw_okq (⟨"TwentyPhrasesModel", "isWant", "(I)Z"⟩, 21) := ⟨⟨by decide +kernel, by decide +kernel⟩, List.mem_of_getElem? (i := 956) (by decide +kernel), List.mem_of_getElem? (i := 1102) (by decide +kernel), List.mem_of_getElem? (i := 1103) (by decide +kernel)⟩
theorem lw_p27 : lw_okq (⟨"TwentyPhrasesModel", "wants", "(II)I"⟩, 21) := ⟨⟨by decide +kernel, by decide +kernel⟩, List.mem_of_getElem? (i := 956) (by decide +kernel), List.mem_of_getElem? (i := 1106) (by decide +kernel), List.mem_of_getElem? (i := 1107) (by decide +kernel)⟩
theorem lw_p28 : lw_okq (⟨"TwentyPhrasesModel", "isSet", "(I)Z"⟩, 21) := ⟨⟨by decide +kernel, by decide +kernel⟩, List.mem_of_getElem? (i := 956) (by decide +kernel), List.mem_of_getElem? (i := 1118) (by decide +kernel), List.mem_of_getElem? (i := 1119) (by decide +kernel)⟩
theorem lw_p29 : lw_okq (⟨"TwentyPhrasesModel", "hasRope", "(I)Z"⟩, 21) := ⟨⟨by decide +kernel, by decide +kernel⟩, List.mem_of_getElem? (i := 956) (by decide +kernel), List.mem_of_getElem? (i := 1122) (by decide +kernel), List.mem_of_getElem? (i := 1123) (by decide +kernel)⟩
theorem lw_p30 : lw_okq (⟨"TwentyPhrasesModel", "gainOf", "(IIZ)I"⟩, 21) := ⟨⟨by decide +kernel, by decide +kernel⟩, List.mem_of_getElem? (i := 956) (by decide +kernel), List.mem_of_getElem? (i := 1129) (by decide +kernel), List.mem_of_getElem? (i := 1130) (by decide +kernel)⟩
theorem lw_p31 : lw_okq (⟨"TwentyPhrasesModel", "hasMending", "(I)Z"⟩, 21) := ⟨⟨by decide +kernel, by decide +kernel⟩, List.mem_of_getElem? (i := 956) (by decide +kernel), List.mem_of_getElem? (i := 1137) (by decide +kernel), List.mem_of_getElem? (i := 1138) (by decide +kernel)⟩
def lw_privs_2 : List (MethodName × Nat) := [(⟨"TwentyPhrases$Grammar", "readWant", "(LTwentyPhrases$Wants;)Z"⟩, 1), (⟨"TwentyPhrases$Grammar", "readLine", "(LTwentyPhrases$Book;)Z"⟩, 1), (⟨"TwentyPhrases$Grammar", "readOrder", "(LTwentyPhrases$Book;)Z"⟩, 1), (⟨"TwentyPhrasesModel", "finds", "(I)I"⟩, 21), (⟨"TwentyPhrasesModel", "newPhrase", "(IIII)I"⟩, 21), (⟨"TwentyPhrasesModel", "isPhrase", "(I)Z"⟩, 21), (⟨"TwentyPhrasesModel", "its", "(II)I"⟩, 21), (⟨"TwentyPhrasesModel", "isKnown", "(I)Z"⟩, 21), (⟨"TwentyPhrasesModel", "forgets", "(I)I"⟩, 21), (⟨"TwentyPhrasesModel", "newWant", "(III)I"⟩, 21), (⟨"TwentyPhrasesModel", "isWant", "(I)Z"⟩, 21), (⟨"TwentyPhrasesModel", "wants", "(II)I"⟩, 21), (⟨"TwentyPhrasesModel", "isSet", "(I)Z"⟩, 21), (⟨"TwentyPhrasesModel", "hasRope", "(I)Z"⟩, 21), (⟨"TwentyPhrasesModel", "gainOf", "(IIZ)I"⟩, 21), (⟨"TwentyPhrasesModel", "hasMending", "(I)Z"⟩, 21)]
theorem lw_r2 : ∀ q ∈ lw_privs_2, lw_okq q := List.forall_mem_cons.mpr ⟨lw_p16, List.forall_mem_cons.mpr ⟨lw_p17, List.forall_mem_cons.mpr ⟨lw_p18, List.forall_mem_cons.mpr ⟨lw_p19, List.forall_mem_cons.mpr ⟨lw_p20, List.forall_mem_cons.mpr ⟨lw_p21, List.forall_mem_cons.mpr ⟨lw_p22, List.forall_mem_cons.mpr ⟨lw_p23, List.forall_mem_cons.mpr ⟨lw_p24, List.forall_mem_cons.mpr ⟨lw_p25, List.forall_mem_cons.mpr ⟨lw_p26, List.forall_mem_cons.mpr ⟨lw_p27, List.forall_mem_cons.mpr ⟨lw_p28, List.forall_mem_cons.mpr ⟨lw_p29, List.forall_mem_cons.mpr ⟨lw_p30, List.forall_mem_cons.mpr ⟨lw_p31, fun _ h => absurd h List.not_mem_nil⟩⟩⟩⟩⟩⟩⟩⟩⟩⟩⟩⟩⟩⟩⟩⟩
theorem lw_p32 : lw_okq (⟨"TwentyPhrasesModel", "metOf", "(IIZZ)I"⟩, 21) := ⟨⟨by decide +kernel, by decide +kernel⟩, List.mem_of_getElem? (i := 956) (by decide +kernel), List.mem_of_getElem? (i := 1141) (by decide +kernel), List.mem_of_getElem? (i := 1142) (by decide +kernel)⟩
theorem lw_p33 : lw_okq (⟨"TwentyPhrasesModel", "valueOf", "(I)I"⟩, 21) := ⟨⟨by decide +kernel, by decide +kernel⟩, List.mem_of_getElem? (i := 956) (by decide +kernel), List.mem_of_getElem? (i := 1149) (by decide +kernel), List.mem_of_getElem? (i := 1150) (by decide +kernel)⟩
theorem lw_p34 : lw_okq (⟨"TwentyPhrasesModel", "byOf", "(II)I"⟩, 21) := ⟨⟨by decide +kernel, by decide +kernel⟩, List.mem_of_getElem? (i := 956) (by decide +kernel), List.mem_of_getElem? (i := 1157) (by decide +kernel), List.mem_of_getElem? (i := 1158) (by decide +kernel)⟩
theorem lw_p35 : lw_okq (⟨"TwentyPhrasesModel", "findBest", "(I)V"⟩, 21) := ⟨⟨by decide +kernel, by decide +kernel⟩, List.mem_of_getElem? (i := 956) (by decide +kernel), List.mem_of_getElem? (i := 1168) (by decide +kernel), List.mem_of_getElem? (i := 1169) (by decide +kernel)⟩
theorem lw_p36 : lw_okq (⟨"TwentyPhrasesModel", "minutesOf", "(I)I"⟩, 21) := ⟨⟨by decide +kernel, by decide +kernel⟩, List.mem_of_getElem? (i := 956) (by decide +kernel), List.mem_of_getElem? (i := 1172) (by decide +kernel), List.mem_of_getElem? (i := 1173) (by decide +kernel)⟩
theorem lw_p37 : lw_okq (⟨"TwentyPhrasesModel", "most", "(IIZ)I"⟩, 21) := ⟨⟨by decide +kernel, by decide +kernel⟩, List.mem_of_getElem? (i := 956) (by decide +kernel), List.mem_of_getElem? (i := 1180) (by decide +kernel), List.mem_of_getElem? (i := 1181) (by decide +kernel)⟩
theorem lw_p38 : lw_okq (⟨"TwentyPhrasesModel", "placeOf", "(I)I"⟩, 21) := ⟨⟨by decide +kernel, by decide +kernel⟩, List.mem_of_getElem? (i := 956) (by decide +kernel), List.mem_of_getElem? (i := 1200) (by decide +kernel), List.mem_of_getElem? (i := 1201) (by decide +kernel)⟩
theorem lw_p39 : lw_okq (⟨"TwentyPhrasesModel", "leaves", "(I)V"⟩, 21) := ⟨⟨by decide +kernel, by decide +kernel⟩, List.mem_of_getElem? (i := 956) (by decide +kernel), List.mem_of_getElem? (i := 1204) (by decide +kernel), List.mem_of_getElem? (i := 1205) (by decide +kernel)⟩
theorem lw_p40 : lw_okq (⟨"TwentyPhrasesModel", "learns", "(II)V"⟩, 21) := ⟨⟨by decide +kernel, by decide +kernel⟩, List.mem_of_getElem? (i := 956) (by decide +kernel), List.mem_of_getElem? (i := 1221) (by decide +kernel), List.mem_of_getElem? (i := 1222) (by decide +kernel)⟩
theorem lw_p41 : lw_okq (⟨"TwentyPhrasesModel", "eveningOf", "(I)I"⟩, 21) := ⟨⟨by decide +kernel, by decide +kernel⟩, List.mem_of_getElem? (i := 956) (by decide +kernel), List.mem_of_getElem? (i := 1229) (by decide +kernel), List.mem_of_getElem? (i := 1230) (by decide +kernel)⟩
theorem lw_p42 : lw_okq (⟨"TwentyPhrasesModel", "knownSet", "()I"⟩, 21) := ⟨⟨by decide +kernel, by decide +kernel⟩, List.mem_of_getElem? (i := 956) (by decide +kernel), List.mem_of_getElem? (i := 1241) (by decide +kernel), List.mem_of_getElem? (i := 1242) (by decide +kernel)⟩
theorem lw_p43 : lw_okq (⟨"TwentyPhrasesModel", "isTooLate", "(I)Z"⟩, 21) := ⟨⟨by decide +kernel, by decide +kernel⟩, List.mem_of_getElem? (i := 956) (by decide +kernel), List.mem_of_getElem? (i := 1250) (by decide +kernel), List.mem_of_getElem? (i := 1251) (by decide +kernel)⟩
theorem lw_p44 : lw_okq (⟨"TwentyPhrasesModel", "daysGo", "(I)I"⟩, 21) := ⟨⟨by decide +kernel, by decide +kernel⟩, List.mem_of_getElem? (i := 956) (by decide +kernel), List.mem_of_getElem? (i := 1255) (by decide +kernel), List.mem_of_getElem? (i := 1256) (by decide +kernel)⟩
theorem lw_p45 : lw_okq (⟨"TwentyPhrasesModel", "day", "()I"⟩, 21) := ⟨⟨by decide +kernel, by decide +kernel⟩, List.mem_of_getElem? (i := 956) (by decide +kernel), List.mem_of_getElem? (i := 1259) (by decide +kernel), List.mem_of_getElem? (i := 1260) (by decide +kernel)⟩
theorem lw_p46 : lw_okq (⟨"TwentyPhrasesModel", "puts", "()V"⟩, 21) := ⟨⟨by decide +kernel, by decide +kernel⟩, List.mem_of_getElem? (i := 956) (by decide +kernel), List.mem_of_getElem? (i := 1271) (by decide +kernel), List.mem_of_getElem? (i := 1272) (by decide +kernel)⟩
theorem lw_p47 : lw_okq (⟨"TwentyPhrasesModel", "sumOf", "(I)I"⟩, 21) := ⟨⟨by decide +kernel, by decide +kernel⟩, List.mem_of_getElem? (i := 956) (by decide +kernel), List.mem_of_getElem? (i := 1275) (by decide +kernel), List.mem_of_getElem? (i := 1276) (by decide +kernel)⟩
def lw_privs_3 : List (MethodName × Nat) := [(⟨"TwentyPhrasesModel", "metOf", "(IIZZ)I"⟩, 21), (⟨"TwentyPhrasesModel", "valueOf", "(I)I"⟩, 21), (⟨"TwentyPhrasesModel", "byOf", "(II)I"⟩, 21), (⟨"TwentyPhrasesModel", "findBest", "(I)V"⟩, 21), (⟨"TwentyPhrasesModel", "minutesOf", "(I)I"⟩, 21), (⟨"TwentyPhrasesModel", "most", "(IIZ)I"⟩, 21), (⟨"TwentyPhrasesModel", "placeOf", "(I)I"⟩, 21), (⟨"TwentyPhrasesModel", "leaves", "(I)V"⟩, 21), (⟨"TwentyPhrasesModel", "learns", "(II)V"⟩, 21), (⟨"TwentyPhrasesModel", "eveningOf", "(I)I"⟩, 21), (⟨"TwentyPhrasesModel", "knownSet", "()I"⟩, 21), (⟨"TwentyPhrasesModel", "isTooLate", "(I)Z"⟩, 21), (⟨"TwentyPhrasesModel", "daysGo", "(I)I"⟩, 21), (⟨"TwentyPhrasesModel", "day", "()I"⟩, 21), (⟨"TwentyPhrasesModel", "puts", "()V"⟩, 21), (⟨"TwentyPhrasesModel", "sumOf", "(I)I"⟩, 21)]
theorem lw_r3 : ∀ q ∈ lw_privs_3, lw_okq q := List.forall_mem_cons.mpr ⟨lw_p32, List.forall_mem_cons.mpr ⟨lw_p33, List.forall_mem_cons.mpr ⟨lw_p34, List.forall_mem_cons.mpr ⟨lw_p35, List.forall_mem_cons.mpr ⟨lw_p36, List.forall_mem_cons.mpr ⟨lw_p37, List.forall_mem_cons.mpr ⟨lw_p38, List.forall_mem_cons.mpr ⟨lw_p39, List.forall_mem_cons.mpr ⟨lw_p40, List.forall_mem_cons.mpr ⟨lw_p41, List.forall_mem_cons.mpr ⟨lw_p42, List.forall_mem_cons.mpr ⟨lw_p43, List.forall_mem_cons.mpr ⟨lw_p44, List.forall_mem_cons.mpr ⟨lw_p45, List.forall_mem_cons.mpr ⟨lw_p46, List.forall_mem_cons.mpr ⟨lw_p47, fun _ h => absurd h List.not_mem_nil⟩⟩⟩⟩⟩⟩⟩⟩⟩⟩⟩⟩⟩⟩⟩⟩
theorem lw_p48 : lw_okq (⟨"TwentyPhrasesModel", "putsBack", "()V"⟩, 21) := ⟨⟨by decide +kernel, by decide +kernel⟩, List.mem_of_getElem? (i := 956) (by decide +kernel), List.mem_of_getElem? (i := 1279) (by decide +kernel), List.mem_of_getElem? (i := 1280) (by decide +kernel)⟩
theorem lw_p49 : lw_okq (⟨"TwentyPhrasesModel", "scoreOn", "(I)I"⟩, 21) := ⟨⟨by decide +kernel, by decide +kernel⟩, List.mem_of_getElem? (i := 956) (by decide +kernel), List.mem_of_getElem? (i := 1295) (by decide +kernel), List.mem_of_getElem? (i := 1296) (by decide +kernel)⟩
theorem lw_p50 : lw_okq (⟨"TwentyPhrasesModel", "triesRow", "(IIIZ)V"⟩, 21) := ⟨⟨by decide +kernel, by decide +kernel⟩, List.mem_of_getElem? (i := 956) (by decide +kernel), List.mem_of_getElem? (i := 1308) (by decide +kernel), List.mem_of_getElem? (i := 1309) (by decide +kernel)⟩
theorem lw_p51 : lw_okq (⟨"TwentyPhrasesModel", "goesOn", "(I)Z"⟩, 21) := ⟨⟨by decide +kernel, by decide +kernel⟩, List.mem_of_getElem? (i := 956) (by decide +kernel), List.mem_of_getElem? (i := 1312) (by decide +kernel), List.mem_of_getElem? (i := 1313) (by decide +kernel)⟩
theorem lw_p52 : lw_okq (⟨"TwentyPhrasesModel", "swaps", "(II)V"⟩, 21) := ⟨⟨by decide +kernel, by decide +kernel⟩, List.mem_of_getElem? (i := 956) (by decide +kernel), List.mem_of_getElem? (i := 1316) (by decide +kernel), List.mem_of_getElem? (i := 1317) (by decide +kernel)⟩
theorem lw_p53 : lw_okq (⟨"TwentyPhrasesModel", "token", "()V"⟩, 21) := ⟨⟨by decide +kernel, by decide +kernel⟩, List.mem_of_getElem? (i := 956) (by decide +kernel), List.mem_of_getElem? (i := 1332) (by decide +kernel), List.mem_of_getElem? (i := 1333) (by decide +kernel)⟩
theorem lw_p54 : lw_okq (⟨"TwentyPhrasesModel", "byteAt", "(I)I"⟩, 21) := ⟨⟨by decide +kernel, by decide +kernel⟩, List.mem_of_getElem? (i := 956) (by decide +kernel), List.mem_of_getElem? (i := 1336) (by decide +kernel), List.mem_of_getElem? (i := 1337) (by decide +kernel)⟩
theorem lw_p55 : lw_okq (⟨"TwentyPhrasesModel", "item", "()V"⟩, 21) := ⟨⟨by decide +kernel, by decide +kernel⟩, List.mem_of_getElem? (i := 956) (by decide +kernel), List.mem_of_getElem? (i := 1350) (by decide +kernel), List.mem_of_getElem? (i := 1351) (by decide +kernel)⟩
theorem lw_p56 : lw_okq (⟨"TwentyPhrasesModel", "kindHere", "()I"⟩, 21) := ⟨⟨by decide +kernel, by decide +kernel⟩, List.mem_of_getElem? (i := 956) (by decide +kernel), List.mem_of_getElem? (i := 1354) (by decide +kernel), List.mem_of_getElem? (i := 1355) (by decide +kernel)⟩
theorem lw_p57 : lw_okq (⟨"TwentyPhrasesModel", "word", "()J"⟩, 21) := ⟨⟨by decide +kernel, by decide +kernel⟩, List.mem_of_getElem? (i := 956) (by decide +kernel), List.mem_of_getElem? (i := 1358) (by decide +kernel), List.mem_of_getElem? (i := 1359) (by decide +kernel)⟩
theorem lw_p58 : lw_okq (⟨"TwentyPhrasesModel", "phraseItem", "(I)V"⟩, 21) := ⟨⟨by decide +kernel, by decide +kernel⟩, List.mem_of_getElem? (i := 956) (by decide +kernel), List.mem_of_getElem? (i := 1370) (by decide +kernel), List.mem_of_getElem? (i := 1371) (by decide +kernel)⟩
theorem lw_p59 : lw_okq (⟨"TwentyPhrasesModel", "needs", "(Z)V"⟩, 21) := ⟨⟨by decide +kernel, by decide +kernel⟩, List.mem_of_getElem? (i := 956) (by decide +kernel), List.mem_of_getElem? (i := 1374) (by decide +kernel), List.mem_of_getElem? (i := 1375) (by decide +kernel)⟩
theorem lw_p60 : lw_okq (⟨"TwentyPhrasesModel", "number", "(II)V"⟩, 21) := ⟨⟨by decide +kernel, by decide +kernel⟩, List.mem_of_getElem? (i := 956) (by decide +kernel), List.mem_of_getElem? (i := 1378) (by decide +kernel), List.mem_of_getElem? (i := 1379) (by decide +kernel)⟩
theorem lw_p61 : lw_okq (⟨"TwentyPhrasesModel", "perhaps", "(ZIII)I"⟩, 21) := ⟨⟨by decide +kernel, by decide +kernel⟩, List.mem_of_getElem? (i := 956) (by decide +kernel), List.mem_of_getElem? (i := 1383) (by decide +kernel), List.mem_of_getElem? (i := 1384) (by decide +kernel)⟩
theorem lw_p62 : lw_okq (⟨"TwentyPhrasesModel", "wantItem", "()V"⟩, 21) := ⟨⟨by decide +kernel, by decide +kernel⟩, List.mem_of_getElem? (i := 956) (by decide +kernel), List.mem_of_getElem? (i := 1389) (by decide +kernel), List.mem_of_getElem? (i := 1390) (by decide +kernel)⟩
theorem lw_p63 : lw_okq (⟨"TwentyPhrasesModel", "orderItem", "()V"⟩, 21) := ⟨⟨by decide +kernel, by decide +kernel⟩, List.mem_of_getElem? (i := 956) (by decide +kernel), List.mem_of_getElem? (i := 1398) (by decide +kernel), List.mem_of_getElem? (i := 1399) (by decide +kernel)⟩
def lw_privs_4 : List (MethodName × Nat) := [(⟨"TwentyPhrasesModel", "putsBack", "()V"⟩, 21), (⟨"TwentyPhrasesModel", "scoreOn", "(I)I"⟩, 21), (⟨"TwentyPhrasesModel", "triesRow", "(IIIZ)V"⟩, 21), (⟨"TwentyPhrasesModel", "goesOn", "(I)Z"⟩, 21), (⟨"TwentyPhrasesModel", "swaps", "(II)V"⟩, 21), (⟨"TwentyPhrasesModel", "token", "()V"⟩, 21), (⟨"TwentyPhrasesModel", "byteAt", "(I)I"⟩, 21), (⟨"TwentyPhrasesModel", "item", "()V"⟩, 21), (⟨"TwentyPhrasesModel", "kindHere", "()I"⟩, 21), (⟨"TwentyPhrasesModel", "word", "()J"⟩, 21), (⟨"TwentyPhrasesModel", "phraseItem", "(I)V"⟩, 21), (⟨"TwentyPhrasesModel", "needs", "(Z)V"⟩, 21), (⟨"TwentyPhrasesModel", "number", "(II)V"⟩, 21), (⟨"TwentyPhrasesModel", "perhaps", "(ZIII)I"⟩, 21), (⟨"TwentyPhrasesModel", "wantItem", "()V"⟩, 21), (⟨"TwentyPhrasesModel", "orderItem", "()V"⟩, 21)]
theorem lw_r4 : ∀ q ∈ lw_privs_4, lw_okq q := List.forall_mem_cons.mpr ⟨lw_p48, List.forall_mem_cons.mpr ⟨lw_p49, List.forall_mem_cons.mpr ⟨lw_p50, List.forall_mem_cons.mpr ⟨lw_p51, List.forall_mem_cons.mpr ⟨lw_p52, List.forall_mem_cons.mpr ⟨lw_p53, List.forall_mem_cons.mpr ⟨lw_p54, List.forall_mem_cons.mpr ⟨lw_p55, List.forall_mem_cons.mpr ⟨lw_p56, List.forall_mem_cons.mpr ⟨lw_p57, List.forall_mem_cons.mpr ⟨lw_p58, List.forall_mem_cons.mpr ⟨lw_p59, List.forall_mem_cons.mpr ⟨lw_p60, List.forall_mem_cons.mpr ⟨lw_p61, List.forall_mem_cons.mpr ⟨lw_p62, List.forall_mem_cons.mpr ⟨lw_p63, fun _ h => absurd h List.not_mem_nil⟩⟩⟩⟩⟩⟩⟩⟩⟩⟩⟩⟩⟩⟩⟩⟩
theorem lw_p64 : lw_okq (⟨"TwentyPhrasesModel", "orderOne", "()V"⟩, 21) := ⟨⟨by decide +kernel, by decide +kernel⟩, List.mem_of_getElem? (i := 956) (by decide +kernel), List.mem_of_getElem? (i := 1403) (by decide +kernel), List.mem_of_getElem? (i := 1404) (by decide +kernel)⟩
theorem lw_p65 : lw_okq (⟨"TwentyPhrasesModel", "wrong", "(I)I"⟩, 21) := ⟨⟨by decide +kernel, by decide +kernel⟩, List.mem_of_getElem? (i := 956) (by decide +kernel), List.mem_of_getElem? (i := 1419) (by decide +kernel), List.mem_of_getElem? (i := 1420) (by decide +kernel)⟩
def lw_privs_5 : List (MethodName × Nat) := [(⟨"TwentyPhrasesModel", "orderOne", "()V"⟩, 21), (⟨"TwentyPhrasesModel", "wrong", "(I)I"⟩, 21)]
theorem lw_r5 : ∀ q ∈ lw_privs_5, lw_okq q := List.forall_mem_cons.mpr ⟨lw_p64, List.forall_mem_cons.mpr ⟨lw_p65, fun _ h => absurd h List.not_mem_nil⟩⟩
def lw_privs : List (MethodName × Nat) := lw_privs_1 ++ (lw_privs_2 ++ (lw_privs_3 ++ (lw_privs_4 ++ (lw_privs_5))))
def lw_tbl : List Cond := k2_sels lw_privs ++ tables_1
theorem lw_privs_ok : ∀ q ∈ lw_privs, lw_okq q := by
  show ∀ q ∈ lw_privs_1 ++ (lw_privs_2 ++ (lw_privs_3 ++ (lw_privs_4 ++ (lw_privs_5)))), lw_okq q
  exact List.forall_mem_append.mpr ⟨lw_r1, List.forall_mem_append.mpr ⟨lw_r2, List.forall_mem_append.mpr ⟨lw_r3, List.forall_mem_append.mpr ⟨lw_r4, lw_r5⟩⟩⟩⟩
def RX0 : String := "TwentyPhrases$Book"
def TX0 : u_T := fun k => match k with
  | 0 => ("TwentyPhrases$Book", "phrases", "LTwentyPhrases$Phrases;", true)
  | 1 => ("TwentyPhrases$Book", "wants", "LTwentyPhrases$Wants;", true)
  | 2 => ("TwentyPhrases$Book", "order", "LTwentyPhrases$Order;", true)
  | 3 => ("TwentyPhrases$Book", "line", "I", false)
  | 4 => ("TwentyPhrases$Book", "day", "I", false)
  | _ => ("TwentyPhrases$Book", "score", "I", false)
def tyX0 : Nat → FieldType := fun k => match k with
  | 0 => .object "TwentyPhrases$Phrases"
  | 1 => .object "TwentyPhrases$Wants"
  | 2 => .object "TwentyPhrases$Order"
  | 3 => .int
  | 4 => .int
  | _ => .int
abbrev wsX00 : List Cond := u_ws RX0 TX0 6
theorem nmX0 : ∀ a, a < 6 → ∀ b, b < 6 → a ≠ b → (TX0 a).2.1 ≠ (TX0 b).2.1 := by decide +kernel
theorem tyX0_ok : ∀ k, k < 6 → parseFieldDescriptor (TX0 k).2.2.1 = some (tyX0 k) := by decide +kernel
abbrev cX0_init : ByteArray := prog_2_method_1_code
def yX0_init : MethodName := ⟨RX0, "<init>", "()V"⟩
abbrev cX0_gainOf : ByteArray := prog_2_method_2_code
def yX0_gainOf : MethodName := ⟨RX0, "gainOf", "(IIZ)I"⟩
abbrev cX0_gainsMost : ByteArray := prog_2_method_3_code
def yX0_gainsMost : MethodName := ⟨RX0, "gainsMost", "(IIZ)I"⟩
abbrev cX0_metBy : ByteArray := prog_2_method_4_code
def yX0_metBy : MethodName := ⟨RX0, "metBy", "(IIZZ)I"⟩
abbrev cX0_isKnown : ByteArray := prog_2_method_5_code
def yX0_isKnown : MethodName := ⟨RX0, "isKnown", "(I)Z"⟩
abbrev cX0_knownSet : ByteArray := prog_2_method_6_code
def yX0_knownSet : MethodName := ⟨RX0, "knownSet", "()I"⟩
abbrev cX0_spendEvening : ByteArray := prog_2_method_7_code
def yX0_spendEvening : MethodName := ⟨RX0, "spendEvening", "(I)I"⟩
abbrev cX0_goDays : ByteArray := prog_2_method_8_code
def yX0_goDays : MethodName := ⟨RX0, "goDays", "(I)V"⟩
abbrev cX0_meetWants : ByteArray := prog_2_method_9_code
def yX0_meetWants : MethodName := ⟨RX0, "meetWants", "(I)I"⟩
abbrev cX0_takeFrom : ByteArray := prog_2_method_10_code
def yX0_takeFrom : MethodName := ⟨RX0, "takeFrom", "(LTwentyPhrases$Book;)V"⟩
def RX1 : String := "TwentyPhrases$Choice"
def TX1 : u_T := fun k => match k with
  | 0 => ("TwentyPhrases$Choice", "bare", "[I", true)
  | 1 => ("TwentyPhrases$Choice", "roped", "[I", true)
  | 2 => ("TwentyPhrases$Choice", "worth", "[I", true)
  | 3 => ("TwentyPhrases$Choice", "minutes", "[I", true)
  | 4 => ("TwentyPhrases$Choice", "members", "[I", true)
  | 5 => ("TwentyPhrases$Choice", "ropes", "I", false)
  | 6 => ("TwentyPhrases$Choice", "mendings", "I", false)
  | 7 => ("TwentyPhrases$Choice", "phrases", "I", false)
  | _ => ("TwentyPhrases$Choice", "wants", "I", false)
def tyX1 : Nat → FieldType := fun k => match k with
  | 0 => .array .int
  | 1 => .array .int
  | 2 => .array .int
  | 3 => .array .int
  | 4 => .array .int
  | 5 => .int
  | 6 => .int
  | 7 => .int
  | _ => .int
abbrev wsX10 : List Cond := u_ws RX1 TX1 9
theorem nmX1 : ∀ a, a < 9 → ∀ b, b < 9 → a ≠ b → (TX1 a).2.1 ≠ (TX1 b).2.1 := by decide +kernel
theorem tyX1_ok : ∀ k, k < 9 → parseFieldDescriptor (TX1 k).2.2.1 = some (tyX1 k) := by decide +kernel
abbrev cX1_init : ByteArray := prog_3_method_1_code
def yX1_init : MethodName := ⟨RX1, "<init>", "()V"⟩
abbrev cX1_lookAt : ByteArray := prog_3_method_2_code
def yX1_lookAt : MethodName := ⟨RX1, "lookAt", "(LTwentyPhrases$Book;)V"⟩
abbrev cX1_valueOf : ByteArray := prog_3_method_3_code
def yX1_valueOf : MethodName := ⟨RX1, "valueOf", "(I)I"⟩
abbrev cX1_listMembers : ByteArray := prog_3_method_4_code
def yX1_listMembers : MethodName := ⟨RX1, "listMembers", "(I)I"⟩
abbrev cX1_minutesOf : ByteArray := prog_3_method_5_code
def yX1_minutesOf : MethodName := ⟨RX1, "minutesOf", "(I)I"⟩
abbrev cX1_bestSet : ByteArray := prog_3_method_6_code
def yX1_bestSet : MethodName := ⟨RX1, "bestSet", "(I)I"⟩
abbrev cX1_fewestMinutes : ByteArray := prog_3_method_7_code
def yX1_fewestMinutes : MethodName := ⟨RX1, "fewestMinutes", "(I)I"⟩
abbrev cX1_greedySet : ByteArray := prog_3_method_8_code
def yX1_greedySet : MethodName := ⟨RX1, "greedySet", "(I)I"⟩
abbrev cX1_greedyStep : ByteArray := prog_3_method_9_code
def yX1_greedyStep : MethodName := ⟨RX1, "greedyStep", "(II)I"⟩
abbrev cX1_bringsMost : ByteArray := prog_3_method_10_code
def yX1_bringsMost : MethodName := ⟨RX1, "bringsMost", "(I)I"⟩
abbrev cX1_leastMissed : ByteArray := prog_3_method_11_code
def yX1_leastMissed : MethodName := ⟨RX1, "leastMissed", "(I)I"⟩
def RX2 : String := "TwentyPhrases$Grammar"
def TX2 : u_T := fun k => match k with
  | _ => ("TwentyPhrases$Grammar", "tape", "LTwentyPhrases$Tape;", true)
def tyX2 : Nat → FieldType := fun k => match k with
  | _ => .object "TwentyPhrases$Tape"
abbrev wsX20 : List Cond := u_ws RX2 TX2 1
theorem nmX2 : ∀ a, a < 1 → ∀ b, b < 1 → a ≠ b → (TX2 a).2.1 ≠ (TX2 b).2.1 := by decide +kernel
theorem tyX2_ok : ∀ k, k < 1 → parseFieldDescriptor (TX2 k).2.2.1 = some (tyX2 k) := by decide +kernel
abbrev cX2_init : ByteArray := prog_4_method_1_code
def yX2_init : MethodName := ⟨RX2, "<init>", "()V"⟩
abbrev cX2_readBook : ByteArray := prog_4_method_2_code
def yX2_readBook : MethodName := ⟨RX2, "readBook", "(LTwentyPhrases$Book;)I"⟩
abbrev cX2_readItem : ByteArray := prog_4_method_3_code
def yX2_readItem : MethodName := ⟨RX2, "readItem", "(LTwentyPhrases$Book;)Z"⟩
abbrev cX2_kindNamed : ByteArray := prog_4_method_4_code
def yX2_kindNamed : MethodName := ⟨RX2, "kindNamed", "()I"⟩
abbrev cX2_readPhrase : ByteArray := prog_4_method_5_code
def yX2_readPhrase : MethodName := ⟨RX2, "readPhrase", "(LTwentyPhrases$Phrases;I)Z"⟩
abbrev cX2_readWant : ByteArray := prog_4_method_6_code
def yX2_readWant : MethodName := ⟨RX2, "readWant", "(LTwentyPhrases$Wants;)Z"⟩
abbrev cX2_readLine : ByteArray := prog_4_method_7_code
def yX2_readLine : MethodName := ⟨RX2, "readLine", "(LTwentyPhrases$Book;)Z"⟩
abbrev cX2_readOrder : ByteArray := prog_4_method_8_code
def yX2_readOrder : MethodName := ⟨RX2, "readOrder", "(LTwentyPhrases$Book;)Z"⟩
abbrev cX2_takeWord : ByteArray := prog_4_method_9_code
def yX2_takeWord : MethodName := ⟨RX2, "takeWord", "(Ljava/lang/String;)Z"⟩
abbrev cX2_takeNumber : ByteArray := prog_4_method_10_code
def yX2_takeNumber : MethodName := ⟨RX2, "takeNumber", "(II)I"⟩
def RX3 : String := "TwentyPhrases$Order"
def TX3 : u_T := fun k => match k with
  | 0 => ("TwentyPhrases$Order", "row", "[I", true)
  | _ => ("TwentyPhrases$Order", "size", "I", false)
def tyX3 : Nat → FieldType := fun k => match k with
  | 0 => .array .int
  | _ => .int
abbrev wsX30 : List Cond := u_ws RX3 TX3 2
theorem nmX3 : ∀ a, a < 2 → ∀ b, b < 2 → a ≠ b → (TX3 a).2.1 ≠ (TX3 b).2.1 := by decide +kernel
theorem tyX3_ok : ∀ k, k < 2 → parseFieldDescriptor (TX3 k).2.2.1 = some (tyX3 k) := by decide +kernel
abbrev cX3_init : ByteArray := prog_5_method_1_code
def yX3_init : MethodName := ⟨RX3, "<init>", "()V"⟩
abbrev cX3_placeOf : ByteArray := prog_5_method_2_code
def yX3_placeOf : MethodName := ⟨RX3, "placeOf", "(I)I"⟩
abbrev cX3_append : ByteArray := prog_5_method_3_code
def yX3_append : MethodName := ⟨RX3, "append", "(I)V"⟩
abbrev cX3_drop : ByteArray := prog_5_method_4_code
def yX3_drop : MethodName := ⟨RX3, "drop", "(I)I"⟩
abbrev cX3_arrangements : ByteArray := prog_5_method_5_code
def yX3_arrangements : MethodName := ⟨RX3, "arrangements", "(I)I"⟩
abbrev cX3_arrange : ByteArray := prog_5_method_6_code
def yX3_arrange : MethodName := ⟨RX3, "arrange", "(II)V"⟩
abbrev cX3_memberOf : ByteArray := prog_5_method_7_code
def yX3_memberOf : MethodName := ⟨RX3, "memberOf", "(II)I"⟩
abbrev cX3_takeFrom : ByteArray := prog_5_method_8_code
def yX3_takeFrom : MethodName := ⟨RX3, "takeFrom", "(LTwentyPhrases$Order;)V"⟩
def RX4 : String := "TwentyPhrases$Outlook"
def TX4 : u_T := fun k => match k with
  | _ => ("TwentyPhrases$Outlook", "trial", "LTwentyPhrases$Book;", true)
def tyX4 : Nat → FieldType := fun k => match k with
  | _ => .object "TwentyPhrases$Book"
abbrev wsX40 : List Cond := u_ws RX4 TX4 1
theorem nmX4 : ∀ a, a < 1 → ∀ b, b < 1 → a ≠ b → (TX4 a).2.1 ≠ (TX4 b).2.1 := by decide +kernel
theorem tyX4_ok : ∀ k, k < 1 → parseFieldDescriptor (TX4 k).2.2.1 = some (tyX4 k) := by decide +kernel
abbrev cX4_init : ByteArray := prog_6_method_1_code
def yX4_init : MethodName := ⟨RX4, "<init>", "()V"⟩
abbrev cX4_lookAhead : ByteArray := prog_6_method_2_code
def yX4_lookAhead : MethodName := ⟨RX4, "lookAhead", "(LTwentyPhrases$Book;I)V"⟩
abbrev cX4_daysTillForgotten : ByteArray := prog_6_method_3_code
def yX4_daysTillForgotten : MethodName := ⟨RX4, "daysTillForgotten", "(LTwentyPhrases$Book;I)I"⟩
abbrev cX4_neverUsed : ByteArray := prog_6_method_4_code
def yX4_neverUsed : MethodName := ⟨RX4, "neverUsed", "(LTwentyPhrases$Book;I)I"⟩
abbrev cX4_worthLearning : ByteArray := prog_6_method_5_code
def yX4_worthLearning : MethodName := ⟨RX4, "worthLearning", "(LTwentyPhrases$Book;I)I"⟩
abbrev cX4_placeOfBestOrder : ByteArray := prog_6_method_6_code
def yX4_placeOfBestOrder : MethodName := ⟨RX4, "placeOfBestOrder", "(LTwentyPhrases$Book;III)I"⟩
abbrev cX4_scoreByOrder : ByteArray := prog_6_method_7_code
def yX4_scoreByOrder : MethodName := ⟨RX4, "scoreByOrder", "(LTwentyPhrases$Book;IIII)I"⟩
abbrev cX4_firstWrong : ByteArray := prog_6_method_8_code
def yX4_firstWrong : MethodName := ⟨RX4, "firstWrong", "(LTwentyPhrases$Book;LTwentyPhrases$Sheets;I)I"⟩
def RX5 : String := "TwentyPhrases$Phrases"
def TX5 : u_T := fun k => match k with
  | 0 => ("TwentyPhrases$Phrases", "kind", "[I", true)
  | 1 => ("TwentyPhrases$Phrases", "topic", "[I", true)
  | 2 => ("TwentyPhrases$Phrases", "minutes", "[I", true)
  | 3 => ("TwentyPhrases$Phrases", "sound", "[I", true)
  | 4 => ("TwentyPhrases$Phrases", "held", "[I", true)
  | 5 => ("TwentyPhrases$Phrases", "used", "[I", true)
  | _ => ("TwentyPhrases$Phrases", "size", "I", false)
def tyX5 : Nat → FieldType := fun k => match k with
  | 0 => .array .int
  | 1 => .array .int
  | 2 => .array .int
  | 3 => .array .int
  | 4 => .array .int
  | 5 => .array .int
  | _ => .int
abbrev wsX50 : List Cond := u_ws RX5 TX5 7
theorem nmX5 : ∀ a, a < 7 → ∀ b, b < 7 → a ≠ b → (TX5 a).2.1 ≠ (TX5 b).2.1 := by decide +kernel
theorem tyX5_ok : ∀ k, k < 7 → parseFieldDescriptor (TX5 k).2.2.1 = some (tyX5 k) := by decide +kernel
abbrev cX5_init : ByteArray := prog_7_method_1_code
def yX5_init : MethodName := ⟨RX5, "<init>", "()V"⟩
abbrev cX5_isFull : ByteArray := prog_7_method_2_code
def yX5_isFull : MethodName := ⟨RX5, "isFull", "()Z"⟩
abbrev cX5_add : ByteArray := prog_7_method_3_code
def yX5_add : MethodName := ⟨RX5, "add", "(IIII)I"⟩
abbrev cX5_row : ByteArray := prog_7_method_4_code
def yX5_row : MethodName := ⟨RX5, "row", "(I)[I"⟩
abbrev cX5_maySet : ByteArray := prog_7_method_5_code
def yX5_maySet : MethodName := ⟨RX5, "maySet", "(II)Z"⟩
abbrev cX5_isUnder : ByteArray := prog_7_method_6_code
def yX5_isUnder : MethodName := ⟨RX5, "isUnder", "(II)Z"⟩
abbrev cX5_hasKind : ByteArray := prog_7_method_7_code
def yX5_hasKind : MethodName := ⟨RX5, "hasKind", "(II)Z"⟩
abbrev cX5_forgets : ByteArray := prog_7_method_8_code
def yX5_forgets : MethodName := ⟨RX5, "forgets", "(I)I"⟩
abbrev cX5_learnFor : ByteArray := prog_7_method_9_code
def yX5_learnFor : MethodName := ⟨RX5, "learnFor", "(II)V"⟩
abbrev cX5_passNight : ByteArray := prog_7_method_10_code
def yX5_passNight : MethodName := ⟨RX5, "passNight", "(I)V"⟩
abbrev cX5_takeFrom : ByteArray := prog_7_method_11_code
def yX5_takeFrom : MethodName := ⟨RX5, "takeFrom", "(LTwentyPhrases$Phrases;)V"⟩
def RX6 : String := "TwentyPhrases$Sheets"
def TX6 : u_T := fun k => match k with
  | 0 => ("TwentyPhrases$Sheets", "bits", "[I", true)
  | 1 => ("TwentyPhrases$Sheets", "size", "[I", true)
  | _ => ("TwentyPhrases$Sheets", "numbers", "[J", true)
def tyX6 : Nat → FieldType := fun k => match k with
  | 0 => .array .int
  | 1 => .array .int
  | _ => .array .long
abbrev wsX60 : List Cond := u_ws RX6 TX6 3
theorem nmX6 : ∀ a, a < 3 → ∀ b, b < 3 → a ≠ b → (TX6 a).2.1 ≠ (TX6 b).2.1 := by decide +kernel
theorem tyX6_ok : ∀ k, k < 3 → parseFieldDescriptor (TX6 k).2.2.1 = some (tyX6 k) := by decide +kernel
abbrev cX6_init : ByteArray := prog_8_method_1_code
def yX6_init : MethodName := ⟨RX6, "<init>", "()V"⟩
abbrev cX6_isSheet : ByteArray := prog_8_method_2_code
def yX6_isSheet : MethodName := ⟨RX6, "isSheet", "(I)Z"⟩
abbrev cX6_isMissing : ByteArray := prog_8_method_3_code
def yX6_isMissing : MethodName := ⟨RX6, "isMissing", "(I)Z"⟩
abbrev cX6_hasNumbers : ByteArray := prog_8_method_4_code
def yX6_hasNumbers : MethodName := ⟨RX6, "hasNumbers", "(III)Z"⟩
abbrev cX6_lay : ByteArray := prog_8_method_5_code
def yX6_lay : MethodName := ⟨RX6, "lay", "(III)I"⟩
abbrev cX6_at : ByteArray := prog_8_method_6_code
def yX6_at : MethodName := ⟨RX6, "at", "(II)J"⟩
abbrev cX6_replace : ByteArray := prog_8_method_7_code
def yX6_replace : MethodName := ⟨RX6, "replace", "(IIJ)J"⟩
abbrev cX6_cut : ByteArray := prog_8_method_8_code
def yX6_cut : MethodName := ⟨RX6, "cut", "(JI)J"⟩
abbrev cX6_move : ByteArray := prog_8_method_9_code
def yX6_move : MethodName := ⟨RX6, "move", "(IIIII)V"⟩
def RX7 : String := "TwentyPhrases$Tape"
def TX7 : u_T := fun k => match k with
  | 0 => ("TwentyPhrases$Tape", "bytes", "[I", true)
  | 1 => ("TwentyPhrases$Tape", "length", "I", false)
  | 2 => ("TwentyPhrases$Tape", "token", "I", false)
  | 3 => ("TwentyPhrases$Tape", "place", "I", false)
  | 4 => ("TwentyPhrases$Tape", "number", "I", false)
  | _ => ("TwentyPhrases$Tape", "behind", "I", false)
def tyX7 : Nat → FieldType := fun k => match k with
  | 0 => .array .int
  | 1 => .int
  | 2 => .int
  | 3 => .int
  | 4 => .int
  | _ => .int
abbrev wsX70 : List Cond := u_ws RX7 TX7 6
theorem nmX7 : ∀ a, a < 6 → ∀ b, b < 6 → a ≠ b → (TX7 a).2.1 ≠ (TX7 b).2.1 := by decide +kernel
theorem tyX7_ok : ∀ k, k < 6 → parseFieldDescriptor (TX7 k).2.2.1 = some (tyX7 k) := by decide +kernel
abbrev cX7_init : ByteArray := prog_9_method_1_code
def yX7_init : MethodName := ⟨RX7, "<init>", "()V"⟩
abbrev cX7_hasRoom : ByteArray := prog_9_method_2_code
def yX7_hasRoom : MethodName := ⟨RX7, "hasRoom", "(I)Z"⟩
abbrev cX7_append : ByteArray := prog_9_method_3_code
def yX7_append : MethodName := ⟨RX7, "append", "(I)V"⟩
abbrev cX7_clear : ByteArray := prog_9_method_4_code
def yX7_clear : MethodName := ⟨RX7, "clear", "()I"⟩
abbrev cX7_begin : ByteArray := prog_9_method_5_code
def yX7_begin : MethodName := ⟨RX7, "begin", "()V"⟩
abbrev cX7_advance : ByteArray := prog_9_method_6_code
def yX7_advance : MethodName := ⟨RX7, "advance", "()V"⟩
abbrev cX7_isLetter : ByteArray := prog_9_method_7_code
def yX7_isLetter : MethodName := ⟨RX7, "isLetter", "(I)Z"⟩
abbrev cX7_isDigit : ByteArray := prog_9_method_8_code
def yX7_isDigit : MethodName := ⟨RX7, "isDigit", "(I)Z"⟩
abbrev cX7_isWord : ByteArray := prog_9_method_9_code
def yX7_isWord : MethodName := ⟨RX7, "isWord", "(Ljava/lang/String;)Z"⟩
def RX8 : String := "TwentyPhrases$Wants"
def TX8 : u_T := fun k => match k with
  | 0 => ("TwentyPhrases$Wants", "topic", "[I", true)
  | 1 => ("TwentyPhrases$Wants", "worth", "[I", true)
  | 2 => ("TwentyPhrases$Wants", "day", "[I", true)
  | 3 => ("TwentyPhrases$Wants", "hurry", "[I", true)
  | 4 => ("TwentyPhrases$Wants", "number", "[I", true)
  | _ => ("TwentyPhrases$Wants", "size", "I", false)
def tyX8 : Nat → FieldType := fun k => match k with
  | 0 => .array .int
  | 1 => .array .int
  | 2 => .array .int
  | 3 => .array .int
  | 4 => .array .int
  | _ => .int
abbrev wsX80 : List Cond := u_ws RX8 TX8 6
theorem nmX8 : ∀ a, a < 6 → ∀ b, b < 6 → a ≠ b → (TX8 a).2.1 ≠ (TX8 b).2.1 := by decide +kernel
theorem tyX8_ok : ∀ k, k < 6 → parseFieldDescriptor (TX8 k).2.2.1 = some (tyX8 k) := by decide +kernel
abbrev cX8_init : ByteArray := prog_10_method_1_code
def yX8_init : MethodName := ⟨RX8, "<init>", "()V"⟩
abbrev cX8_isFull : ByteArray := prog_10_method_2_code
def yX8_isFull : MethodName := ⟨RX8, "isFull", "()Z"⟩
abbrev cX8_add : ByteArray := prog_10_method_3_code
def yX8_add : MethodName := ⟨RX8, "add", "(III)I"⟩
abbrev cX8_row : ByteArray := prog_10_method_4_code
def yX8_row : MethodName := ⟨RX8, "row", "(I)[I"⟩
abbrev cX8_mayChange : ByteArray := prog_10_method_5_code
def yX8_mayChange : MethodName := ⟨RX8, "mayChange", "(II)Z"⟩
abbrev cX8_howManyOn : ByteArray := prog_10_method_6_code
def yX8_howManyOn : MethodName := ⟨RX8, "howManyOn", "(I)I"⟩
abbrev cX8_takeFrom : ByteArray := prog_10_method_7_code
def yX8_takeFrom : MethodName := ⟨RX8, "takeFrom", "(LTwentyPhrases$Wants;)V"⟩
def RX9 : String := "TwentyPhrases"
def TX9 : u_T := fun k => match k with
  | 0 => ("TwentyPhrases", "told", "[I", true)
  | 1 => ("TwentyPhrases", "state", "LTwentyPhrases$Book;", true)
  | 2 => ("TwentyPhrases", "kept", "LTwentyPhrases$Book;", true)
  | 3 => ("TwentyPhrases", "isKept", "Z", false)
  | 4 => ("TwentyPhrases", "choice", "LTwentyPhrases$Choice;", true)
  | 5 => ("TwentyPhrases", "outlook", "LTwentyPhrases$Outlook;", true)
  | 6 => ("TwentyPhrases", "grammar", "LTwentyPhrases$Grammar;", true)
  | _ => ("TwentyPhrases", "sheets", "LTwentyPhrases$Sheets;", true)
def tyX9 : Nat → FieldType := fun k => match k with
  | 0 => .array .int
  | 1 => .object "TwentyPhrases$Book"
  | 2 => .object "TwentyPhrases$Book"
  | 3 => .boolean
  | 4 => .object "TwentyPhrases$Choice"
  | 5 => .object "TwentyPhrases$Outlook"
  | 6 => .object "TwentyPhrases$Grammar"
  | _ => .object "TwentyPhrases$Sheets"
abbrev wsX90 : List Cond := u_ws RX9 TX9 8
theorem nmX9 : ∀ a, a < 8 → ∀ b, b < 8 → a ≠ b → (TX9 a).2.1 ≠ (TX9 b).2.1 := by decide +kernel
theorem tyX9_ok : ∀ k, k < 8 → parseFieldDescriptor (TX9 k).2.2.1 = some (tyX9 k) := by decide +kernel
abbrev cX9_init : ByteArray := prog_1_method_1_code
def yX9_init : MethodName := ⟨RX9, "<init>", "()V"⟩
abbrev cX9_phrase : ByteArray := prog_1_method_2_code
def yX9_phrase : MethodName := ⟨RX9, "phrase", "(IIII)I"⟩
abbrev cX9_of : ByteArray := prog_1_method_3_code
def yX9_of : MethodName := ⟨RX9, "of", "(II)I"⟩
abbrev cX9_set : ByteArray := prog_1_method_4_code
def yX9_set : MethodName := ⟨RX9, "set", "(III)I"⟩
abbrev cX9_turn : ByteArray := prog_1_method_5_code
def yX9_turn : MethodName := ⟨RX9, "turn", "(II)I"⟩
abbrev cX9_as : ByteArray := prog_1_method_6_code
def yX9_as : MethodName := ⟨RX9, "as", "(II)I"⟩
abbrev cX9_want : ByteArray := prog_1_method_7_code
def yX9_want : MethodName := ⟨RX9, "want", "(III)I"⟩
abbrev cX9_wantOf : ByteArray := prog_1_method_8_code
def yX9_wantOf : MethodName := ⟨RX9, "wantOf", "(II)I"⟩
abbrev cX9_change : ByteArray := prog_1_method_9_code
def yX9_change : MethodName := ⟨RX9, "change", "(III)I"⟩
abbrev cX9_gain : ByteArray := prog_1_method_10_code
def yX9_gain : MethodName := ⟨RX9, "gain", "(III)I"⟩
abbrev cX9_met : ByteArray := prog_1_method_11_code
def yX9_met : MethodName := ⟨RX9, "met", "(II)I"⟩
abbrev cX9_value : ByteArray := prog_1_method_12_code
def yX9_value : MethodName := ⟨RX9, "value", "(I)I"⟩
abbrev cX9_by : ByteArray := prog_1_method_13_code
def yX9_by : MethodName := ⟨RX9, "by", "(II)I"⟩
abbrev cX9_best : ByteArray := prog_1_method_14_code
def yX9_best : MethodName := ⟨RX9, "best", "(II)I"⟩
abbrev cX9_greedy : ByteArray := prog_1_method_15_code
def yX9_greedy : MethodName := ⟨RX9, "greedy", "(II)I"⟩
abbrev cX9_next : ByteArray := prog_1_method_16_code
def yX9_next : MethodName := ⟨RX9, "next", "(I)I"⟩
abbrev cX9_spare : ByteArray := prog_1_method_17_code
def yX9_spare : MethodName := ⟨RX9, "spare", "(I)I"⟩
abbrev cX9_minutesFor : ByteArray := prog_1_method_18_code
def yX9_minutesFor : MethodName := ⟨RX9, "minutesFor", "(I)I"⟩
abbrev cX9_queue : ByteArray := prog_1_method_19_code
def yX9_queue : MethodName := ⟨RX9, "queue", "(I)I"⟩
abbrev cX9_skip : ByteArray := prog_1_method_20_code
def yX9_skip : MethodName := ⟨RX9, "skip", "(I)I"⟩
abbrev cX9_ith : ByteArray := prog_1_method_21_code
def yX9_ith : MethodName := ⟨RX9, "ith", "(I)I"⟩
abbrev cX9_learn : ByteArray := prog_1_method_22_code
def yX9_learn : MethodName := ⟨RX9, "learn", "(II)I"⟩
abbrev cX9_evening : ByteArray := prog_1_method_23_code
def yX9_evening : MethodName := ⟨RX9, "evening", "(I)I"⟩
abbrev cX9_line : ByteArray := prog_1_method_24_code
def yX9_line : MethodName := ⟨RX9, "line", "(I)I"⟩
abbrev cX9_known : ByteArray := prog_1_method_25_code
def yX9_known : MethodName := ⟨RX9, "known", "()I"⟩
abbrev cX9_days : ByteArray := prog_1_method_26_code
def yX9_days : MethodName := ⟨RX9, "days", "(I)I"⟩
abbrev cX9_now : ByteArray := prog_1_method_27_code
def yX9_now : MethodName := ⟨RX9, "now", "(I)I"⟩
abbrev cX9_on : ByteArray := prog_1_method_28_code
def yX9_on : MethodName := ⟨RX9, "on", "(II)I"⟩
abbrev cX9_forgot : ByteArray := prog_1_method_29_code
def yX9_forgot : MethodName := ⟨RX9, "forgot", "(I)I"⟩
abbrev cX9_useless : ByteArray := prog_1_method_30_code
def yX9_useless : MethodName := ⟨RX9, "useless", "(I)I"⟩
abbrev cX9_tonight : ByteArray := prog_1_method_31_code
def yX9_tonight : MethodName := ⟨RX9, "tonight", "(I)I"⟩
abbrev cX9_plan : ByteArray := prog_1_method_32_code
def yX9_plan : MethodName := ⟨RX9, "plan", "(IIII)I"⟩
abbrev cX9_feed : ByteArray := prog_1_method_33_code
def yX9_feed : MethodName := ⟨RX9, "feed", "(II)I"⟩
abbrev cX9_wipe : ByteArray := prog_1_method_34_code
def yX9_wipe : MethodName := ⟨RX9, "wipe", "()I"⟩
abbrev cX9_book : ByteArray := prog_1_method_35_code
def yX9_book : MethodName := ⟨RX9, "book", "()I"⟩
abbrev cX9_sheet : ByteArray := prog_1_method_36_code
def yX9_sheet : MethodName := ⟨RX9, "sheet", "(III)I"⟩
abbrev cX9_write : ByteArray := prog_1_method_37_code
def yX9_write : MethodName := ⟨RX9, "write", "(IIJ)J"⟩
abbrev cX9_copy : ByteArray := prog_1_method_38_code
def yX9_copy : MethodName := ⟨RX9, "copy", "(IIIII)I"⟩
abbrev cX9_lays : ByteArray := prog_1_method_39_code
def yX9_lays : MethodName := ⟨RX9, "lays", "(I)I"⟩
abbrev cX9_read : ByteArray := prog_1_method_40_code
def yX9_read : MethodName := ⟨RX9, "read", "(I)I"⟩
abbrev cX9_image : ByteArray := prog_1_method_41_code
def yX9_image : MethodName := ⟨RX9, "image", "()I"⟩
abbrev cX9_undo : ByteArray := prog_1_method_42_code
def yX9_undo : MethodName := ⟨RX9, "undo", "()I"⟩
abbrev cX9_tear : ByteArray := prog_1_method_43_code
def yX9_tear : MethodName := ⟨RX9, "tear", "()I"⟩
abbrev cX9_count : ByteArray := prog_1_method_44_code
def yX9_count : MethodName := ⟨RX9, "count", "(I)I"⟩
abbrev cX9_status : ByteArray := prog_1_method_45_code
def yX9_status : MethodName := ⟨RX9, "status", "(I)I"⟩
abbrev cX9_tell : ByteArray := prog_1_method_46_code
def yX9_tell : MethodName := ⟨RX9, "tell", "(I)I"⟩
abbrev cX9_orNone : ByteArray := prog_1_method_47_code
def yX9_orNone : MethodName := ⟨RX9, "orNone", "(I)I"⟩
abbrev cX9_isPhrase : ByteArray := prog_1_method_48_code
def yX9_isPhrase : MethodName := ⟨RX9, "isPhrase", "(I)Z"⟩
abbrev cX9_isWant : ByteArray := prog_1_method_49_code
def yX9_isWant : MethodName := ⟨RX9, "isWant", "(I)Z"⟩
abbrev cX9_isSet : ByteArray := prog_1_method_50_code
def yX9_isSet : MethodName := ⟨RX9, "isSet", "(I)Z"⟩
abbrev cX9_mayGo : ByteArray := prog_1_method_51_code
def yX9_mayGo : MethodName := ⟨RX9, "mayGo", "(I)Z"⟩
abbrev cX9_within : ByteArray := prog_1_method_52_code
def yX9_within : MethodName := ⟨RX9, "within", "(III)Z"⟩
abbrev cX9_isIn : ByteArray := prog_1_method_53_code
def yX9_isIn : MethodName := ⟨RX9, "isIn", "(II)Z"⟩
abbrev cX9_metFrom : ByteArray := prog_1_method_54_code
def yX9_metFrom : MethodName := ⟨RX9, "metFrom", "(IIZ)I"⟩
abbrev cX9_exchange : ByteArray := prog_1_method_55_code
def yX9_exchange : MethodName := ⟨RX9, "exchange", "([III)I"⟩
abbrev cX9_sum : ByteArray := prog_1_method_56_code
def yX9_sum : MethodName := ⟨RX9, "sum", "([II)I"⟩
def RX10 : String := "TwentyPhrasesModel"
def TX10 : u_T := fun k => match k with
  | 0 => ("TwentyPhrasesModel", "s", "[I", true)
  | 1 => ("TwentyPhrasesModel", "keptS", "[I", true)
  | 2 => ("TwentyPhrasesModel", "other", "[I", true)
  | 3 => ("TwentyPhrasesModel", "statuses", "[I", true)
  | 4 => ("TwentyPhrasesModel", "isKept", "Z", false)
  | 5 => ("TwentyPhrasesModel", "bestSet", "I", false)
  | 6 => ("TwentyPhrasesModel", "bestValue", "I", false)
  | 7 => ("TwentyPhrasesModel", "bestMinutes", "I", false)
  | 8 => ("TwentyPhrasesModel", "row", "[I", true)
  | 9 => ("TwentyPhrasesModel", "bestRow", "[I", true)
  | 10 => ("TwentyPhrasesModel", "bestScore", "I", false)
  | 11 => ("TwentyPhrasesModel", "tape", "[I", true)
  | 12 => ("TwentyPhrasesModel", "taped", "I", false)
  | 13 => ("TwentyPhrasesModel", "from", "I", false)
  | 14 => ("TwentyPhrasesModel", "to", "I", false)
  | 15 => ("TwentyPhrasesModel", "value", "I", false)
  | 16 => ("TwentyPhrasesModel", "isWrong", "Z", false)
  | 17 => ("TwentyPhrasesModel", "bitsOf", "[I", true)
  | 18 => ("TwentyPhrasesModel", "sizeOf", "[I", true)
  | 19 => ("TwentyPhrasesModel", "number", "[J", true)
  | _ => ("TwentyPhrasesModel", "moved", "[J", true)
def tyX10 : Nat → FieldType := fun k => match k with
  | 0 => .array .int
  | 1 => .array .int
  | 2 => .array .int
  | 3 => .array .int
  | 4 => .boolean
  | 5 => .int
  | 6 => .int
  | 7 => .int
  | 8 => .array .int
  | 9 => .array .int
  | 10 => .int
  | 11 => .array .int
  | 12 => .int
  | 13 => .int
  | 14 => .int
  | 15 => .int
  | 16 => .boolean
  | 17 => .array .int
  | 18 => .array .int
  | 19 => .array .long
  | _ => .array .long
abbrev wsX100 : List Cond := u_ws RX10 TX10 21
theorem nmX10 : ∀ a, a < 21 → ∀ b, b < 21 → a ≠ b → (TX10 a).2.1 ≠ (TX10 b).2.1 := by decide +kernel
theorem tyX10_ok : ∀ k, k < 21 → parseFieldDescriptor (TX10 k).2.2.1 = some (tyX10 k) := by decide +kernel
abbrev cX10_init : ByteArray := prog_12_method_1_code
def yX10_init : MethodName := ⟨RX10, "<init>", "()V"⟩
abbrev cX10_in : ByteArray := prog_12_method_2_code
def yX10_in : MethodName := ⟨RX10, "in", "(JJJ)Z"⟩
abbrev cX10_finds : ByteArray := prog_12_method_3_code
def yX10_finds : MethodName := ⟨RX10, "finds", "(I)I"⟩
abbrev cX10_has : ByteArray := prog_12_method_4_code
def yX10_has : MethodName := ⟨RX10, "has", "(II)Z"⟩
abbrev cX10_ones : ByteArray := prog_12_method_5_code
def yX10_ones : MethodName := ⟨RX10, "ones", "(I)I"⟩
abbrev cX10_isPhrase : ByteArray := prog_12_method_6_code
def yX10_isPhrase : MethodName := ⟨RX10, "isPhrase", "(I)Z"⟩
abbrev cX10_isWant : ByteArray := prog_12_method_7_code
def yX10_isWant : MethodName := ⟨RX10, "isWant", "(I)Z"⟩
abbrev cX10_isSet : ByteArray := prog_12_method_8_code
def yX10_isSet : MethodName := ⟨RX10, "isSet", "(I)Z"⟩
abbrev cX10_at : ByteArray := prog_12_method_9_code
def yX10_at : MethodName := ⟨RX10, "at", "(II)I"⟩
abbrev cX10_its : ByteArray := prog_12_method_10_code
def yX10_its : MethodName := ⟨RX10, "its", "(II)I"⟩
abbrev cX10_wants : ByteArray := prog_12_method_11_code
def yX10_wants : MethodName := ⟨RX10, "wants", "(II)I"⟩
abbrev cX10_puts : ByteArray := prog_12_method_12_code
def yX10_puts : MethodName := ⟨RX10, "puts", "()V"⟩
abbrev cX10_putsBack : ByteArray := prog_12_method_13_code
def yX10_putsBack : MethodName := ⟨RX10, "putsBack", "()V"⟩
abbrev cX10_isPart : ByteArray := prog_12_method_14_code
def yX10_isPart : MethodName := ⟨RX10, "isPart", "(II)Z"⟩
abbrev cX10_newPhrase : ByteArray := prog_12_method_15_code
def yX10_newPhrase : MethodName := ⟨RX10, "newPhrase", "(IIII)I"⟩
abbrev cX10_phrase : ByteArray := prog_12_method_16_code
def yX10_phrase : MethodName := ⟨RX10, "phrase", "(IIII)I"⟩
abbrev cX10_isKnown : ByteArray := prog_12_method_17_code
def yX10_isKnown : MethodName := ⟨RX10, "isKnown", "(I)Z"⟩
abbrev cX10_forgets : ByteArray := prog_12_method_18_code
def yX10_forgets : MethodName := ⟨RX10, "forgets", "(I)I"⟩
abbrev cX10_of : ByteArray := prog_12_method_19_code
def yX10_of : MethodName := ⟨RX10, "of", "(II)I"⟩
abbrev cX10_set : ByteArray := prog_12_method_20_code
def yX10_set : MethodName := ⟨RX10, "set", "(III)I"⟩
abbrev cX10_turn : ByteArray := prog_12_method_21_code
def yX10_turn : MethodName := ⟨RX10, "turn", "(II)I"⟩
abbrev cX10_as : ByteArray := prog_12_method_22_code
def yX10_as : MethodName := ⟨RX10, "as", "(II)I"⟩
abbrev cX10_newWant : ByteArray := prog_12_method_23_code
def yX10_newWant : MethodName := ⟨RX10, "newWant", "(III)I"⟩
abbrev cX10_want : ByteArray := prog_12_method_24_code
def yX10_want : MethodName := ⟨RX10, "want", "(III)I"⟩
abbrev cX10_wantOf : ByteArray := prog_12_method_25_code
def yX10_wantOf : MethodName := ⟨RX10, "wantOf", "(II)I"⟩
abbrev cX10_change : ByteArray := prog_12_method_26_code
def yX10_change : MethodName := ⟨RX10, "change", "(III)I"⟩
abbrev cX10_hasRope : ByteArray := prog_12_method_27_code
def yX10_hasRope : MethodName := ⟨RX10, "hasRope", "(I)Z"⟩
abbrev cX10_hasMending : ByteArray := prog_12_method_28_code
def yX10_hasMending : MethodName := ⟨RX10, "hasMending", "(I)Z"⟩
abbrev cX10_gainOf : ByteArray := prog_12_method_29_code
def yX10_gainOf : MethodName := ⟨RX10, "gainOf", "(IIZ)I"⟩
abbrev cX10_gain : ByteArray := prog_12_method_30_code
def yX10_gain : MethodName := ⟨RX10, "gain", "(III)I"⟩
abbrev cX10_metOf : ByteArray := prog_12_method_31_code
def yX10_metOf : MethodName := ⟨RX10, "metOf", "(IIZZ)I"⟩
abbrev cX10_met : ByteArray := prog_12_method_32_code
def yX10_met : MethodName := ⟨RX10, "met", "(II)I"⟩
abbrev cX10_valueOf : ByteArray := prog_12_method_33_code
def yX10_valueOf : MethodName := ⟨RX10, "valueOf", "(I)I"⟩
abbrev cX10_value : ByteArray := prog_12_method_34_code
def yX10_value : MethodName := ⟨RX10, "value", "(I)I"⟩
abbrev cX10_byOf : ByteArray := prog_12_method_35_code
def yX10_byOf : MethodName := ⟨RX10, "byOf", "(II)I"⟩
abbrev cX10_by : ByteArray := prog_12_method_36_code
def yX10_by : MethodName := ⟨RX10, "by", "(II)I"⟩
abbrev cX10_minutesOf : ByteArray := prog_12_method_37_code
def yX10_minutesOf : MethodName := ⟨RX10, "minutesOf", "(I)I"⟩
abbrev cX10_findBest : ByteArray := prog_12_method_38_code
def yX10_findBest : MethodName := ⟨RX10, "findBest", "(I)V"⟩
abbrev cX10_best : ByteArray := prog_12_method_39_code
def yX10_best : MethodName := ⟨RX10, "best", "(II)I"⟩
abbrev cX10_most : ByteArray := prog_12_method_40_code
def yX10_most : MethodName := ⟨RX10, "most", "(IIZ)I"⟩
abbrev cX10_greedy : ByteArray := prog_12_method_41_code
def yX10_greedy : MethodName := ⟨RX10, "greedy", "(II)I"⟩
abbrev cX10_next : ByteArray := prog_12_method_42_code
def yX10_next : MethodName := ⟨RX10, "next", "(I)I"⟩
abbrev cX10_spare : ByteArray := prog_12_method_43_code
def yX10_spare : MethodName := ⟨RX10, "spare", "(I)I"⟩
abbrev cX10_minutesFor : ByteArray := prog_12_method_44_code
def yX10_minutesFor : MethodName := ⟨RX10, "minutesFor", "(I)I"⟩
abbrev cX10_placeOf : ByteArray := prog_12_method_45_code
def yX10_placeOf : MethodName := ⟨RX10, "placeOf", "(I)I"⟩
abbrev cX10_leaves : ByteArray := prog_12_method_46_code
def yX10_leaves : MethodName := ⟨RX10, "leaves", "(I)V"⟩
abbrev cX10_queue : ByteArray := prog_12_method_47_code
def yX10_queue : MethodName := ⟨RX10, "queue", "(I)I"⟩
abbrev cX10_skip : ByteArray := prog_12_method_48_code
def yX10_skip : MethodName := ⟨RX10, "skip", "(I)I"⟩
abbrev cX10_ith : ByteArray := prog_12_method_49_code
def yX10_ith : MethodName := ⟨RX10, "ith", "(I)I"⟩
abbrev cX10_learns : ByteArray := prog_12_method_50_code
def yX10_learns : MethodName := ⟨RX10, "learns", "(II)V"⟩
abbrev cX10_learn : ByteArray := prog_12_method_51_code
def yX10_learn : MethodName := ⟨RX10, "learn", "(II)I"⟩
abbrev cX10_eveningOf : ByteArray := prog_12_method_52_code
def yX10_eveningOf : MethodName := ⟨RX10, "eveningOf", "(I)I"⟩
abbrev cX10_evening : ByteArray := prog_12_method_53_code
def yX10_evening : MethodName := ⟨RX10, "evening", "(I)I"⟩
abbrev cX10_line : ByteArray := prog_12_method_54_code
def yX10_line : MethodName := ⟨RX10, "line", "(I)I"⟩
abbrev cX10_knownSet : ByteArray := prog_12_method_55_code
def yX10_knownSet : MethodName := ⟨RX10, "knownSet", "()I"⟩
abbrev cX10_known : ByteArray := prog_12_method_56_code
def yX10_known : MethodName := ⟨RX10, "known", "()I"⟩
abbrev cX10_day : ByteArray := prog_12_method_57_code
def yX10_day : MethodName := ⟨RX10, "day", "()I"⟩
abbrev cX10_daysGo : ByteArray := prog_12_method_58_code
def yX10_daysGo : MethodName := ⟨RX10, "daysGo", "(I)I"⟩
abbrev cX10_isTooLate : ByteArray := prog_12_method_59_code
def yX10_isTooLate : MethodName := ⟨RX10, "isTooLate", "(I)Z"⟩
abbrev cX10_days : ByteArray := prog_12_method_60_code
def yX10_days : MethodName := ⟨RX10, "days", "(I)I"⟩
abbrev cX10_now : ByteArray := prog_12_method_61_code
def yX10_now : MethodName := ⟨RX10, "now", "(I)I"⟩
abbrev cX10_sumOf : ByteArray := prog_12_method_62_code
def yX10_sumOf : MethodName := ⟨RX10, "sumOf", "(I)I"⟩
abbrev cX10_on : ByteArray := prog_12_method_63_code
def yX10_on : MethodName := ⟨RX10, "on", "(II)I"⟩
abbrev cX10_forgot : ByteArray := prog_12_method_64_code
def yX10_forgot : MethodName := ⟨RX10, "forgot", "(I)I"⟩
abbrev cX10_useless : ByteArray := prog_12_method_65_code
def yX10_useless : MethodName := ⟨RX10, "useless", "(I)I"⟩
abbrev cX10_scoreOn : ByteArray := prog_12_method_66_code
def yX10_scoreOn : MethodName := ⟨RX10, "scoreOn", "(I)I"⟩
abbrev cX10_tonight : ByteArray := prog_12_method_67_code
def yX10_tonight : MethodName := ⟨RX10, "tonight", "(I)I"⟩
abbrev cX10_goesOn : ByteArray := prog_12_method_68_code
def yX10_goesOn : MethodName := ⟨RX10, "goesOn", "(I)Z"⟩
abbrev cX10_swaps : ByteArray := prog_12_method_69_code
def yX10_swaps : MethodName := ⟨RX10, "swaps", "(II)V"⟩
abbrev cX10_triesRow : ByteArray := prog_12_method_70_code
def yX10_triesRow : MethodName := ⟨RX10, "triesRow", "(IIIZ)V"⟩
abbrev cX10_plan : ByteArray := prog_12_method_71_code
def yX10_plan : MethodName := ⟨RX10, "plan", "(IIII)I"⟩
abbrev cX10_feed : ByteArray := prog_12_method_72_code
def yX10_feed : MethodName := ⟨RX10, "feed", "(II)I"⟩
abbrev cX10_wipe : ByteArray := prog_12_method_73_code
def yX10_wipe : MethodName := ⟨RX10, "wipe", "()I"⟩
abbrev cX10_byteAt : ByteArray := prog_12_method_74_code
def yX10_byteAt : MethodName := ⟨RX10, "byteAt", "(I)I"⟩
abbrev cX10_isLetter : ByteArray := prog_12_method_75_code
def yX10_isLetter : MethodName := ⟨RX10, "isLetter", "(I)Z"⟩
abbrev cX10_isDigit : ByteArray := prog_12_method_76_code
def yX10_isDigit : MethodName := ⟨RX10, "isDigit", "(I)Z"⟩
abbrev cX10_token : ByteArray := prog_12_method_77_code
def yX10_token : MethodName := ⟨RX10, "token", "()V"⟩
abbrev cX10_needs : ByteArray := prog_12_method_78_code
def yX10_needs : MethodName := ⟨RX10, "needs", "(Z)V"⟩
abbrev cX10_word : ByteArray := prog_12_method_79_code
def yX10_word : MethodName := ⟨RX10, "word", "()J"⟩
abbrev cX10_number : ByteArray := prog_12_method_80_code
def yX10_number : MethodName := ⟨RX10, "number", "(II)V"⟩
abbrev cX10_kindHere : ByteArray := prog_12_method_81_code
def yX10_kindHere : MethodName := ⟨RX10, "kindHere", "()I"⟩
abbrev cX10_perhaps : ByteArray := prog_12_method_82_code
def yX10_perhaps : MethodName := ⟨RX10, "perhaps", "(ZIII)I"⟩
abbrev cX10_phraseItem : ByteArray := prog_12_method_83_code
def yX10_phraseItem : MethodName := ⟨RX10, "phraseItem", "(I)V"⟩
abbrev cX10_wantItem : ByteArray := prog_12_method_84_code
def yX10_wantItem : MethodName := ⟨RX10, "wantItem", "()V"⟩
abbrev cX10_orderOne : ByteArray := prog_12_method_85_code
def yX10_orderOne : MethodName := ⟨RX10, "orderOne", "()V"⟩
abbrev cX10_orderItem : ByteArray := prog_12_method_86_code
def yX10_orderItem : MethodName := ⟨RX10, "orderItem", "()V"⟩
abbrev cX10_item : ByteArray := prog_12_method_87_code
def yX10_item : MethodName := ⟨RX10, "item", "()V"⟩
abbrev cX10_book : ByteArray := prog_12_method_88_code
def yX10_book : MethodName := ⟨RX10, "book", "()I"⟩
abbrev cX10_isOne : ByteArray := prog_12_method_89_code
def yX10_isOne : MethodName := ⟨RX10, "isOne", "(I)Z"⟩
abbrev cX10_sheet : ByteArray := prog_12_method_90_code
def yX10_sheet : MethodName := ⟨RX10, "sheet", "(III)I"⟩
abbrev cX10_narrowed : ByteArray := prog_12_method_91_code
def yX10_narrowed : MethodName := ⟨RX10, "narrowed", "(IJ)J"⟩
abbrev cX10_wrong : ByteArray := prog_12_method_92_code
def yX10_wrong : MethodName := ⟨RX10, "wrong", "(I)I"⟩
abbrev cX10_write : ByteArray := prog_12_method_93_code
def yX10_write : MethodName := ⟨RX10, "write", "(IIJ)J"⟩
abbrev cX10_copy : ByteArray := prog_12_method_94_code
def yX10_copy : MethodName := ⟨RX10, "copy", "(IIIII)I"⟩
abbrev cX10_lays : ByteArray := prog_12_method_95_code
def yX10_lays : MethodName := ⟨RX10, "lays", "(I)I"⟩
abbrev cX10_read : ByteArray := prog_12_method_96_code
def yX10_read : MethodName := ⟨RX10, "read", "(I)I"⟩
abbrev cX10_image : ByteArray := prog_12_method_97_code
def yX10_image : MethodName := ⟨RX10, "image", "()I"⟩
abbrev cX10_undo : ByteArray := prog_12_method_98_code
def yX10_undo : MethodName := ⟨RX10, "undo", "()I"⟩
abbrev cX10_tear : ByteArray := prog_12_method_99_code
def yX10_tear : MethodName := ⟨RX10, "tear", "()I"⟩
abbrev cX10_count : ByteArray := prog_12_method_100_code
def yX10_count : MethodName := ⟨RX10, "count", "(I)I"⟩
abbrev cX10_status : ByteArray := prog_12_method_101_code
def yX10_status : MethodName := ⟨RX10, "status", "(I)I"⟩
def RJ6 : String := "java/lang/Integer"
abbrev cJ6_numberOfTrailingZeros_0f7a4 : ByteArray := prog_13_method_48_code
def yJ6_numberOfTrailingZeros_0f7a4 : MethodName := ⟨RJ6, "numberOfTrailingZeros", "(I)I"⟩
abbrev cJ6_bitCount_0f7a4 : ByteArray := prog_13_method_49_code
def yJ6_bitCount_0f7a4 : MethodName := ⟨RJ6, "bitCount", "(I)I"⟩
def RJ9 : String := "java/lang/Math"
abbrev cJ9_max_7cf53 : ByteArray := prog_14_method_65_code
def yJ9_max_7cf53 : MethodName := ⟨RJ9, "max", "(II)I"⟩
abbrev cJ9_min_7cf53 : ByteArray := prog_14_method_69_code
def yJ9_min_7cf53 : MethodName := ⟨RJ9, "min", "(II)I"⟩
def RJ0 : String := "java/lang/String"
abbrev cJ0_length_8abf5 : ByteArray := prog_15_method_54_code
def yJ0_length_8abf5 : MethodName := ⟨RJ0, "length", "()I"⟩
abbrev cJ0_charAt_5068e : ByteArray := prog_15_method_56_code
def yJ0_charAt_5068e : MethodName := ⟨RJ0, "charAt", "(I)C"⟩
abbrev cJ0_coder_7d493 : ByteArray := prog_15_method_152_code
def yJ0_coder_7d493 : MethodName := ⟨RJ0, "coder", "()B"⟩
abbrev cJ0_isLatin1_aae02 : ByteArray := prog_15_method_154_code
def yJ0_isLatin1_aae02 : MethodName := ⟨RJ0, "isLatin1", "()Z"⟩
abbrev cJ0_checkIndex_df160 : ByteArray := prog_15_method_155_code
def yJ0_checkIndex_df160 : MethodName := ⟨RJ0, "checkIndex", "(II)V"⟩
def RJ1 : String := "java/lang/StringLatin1"
abbrev cJ1_charAt_3b067 : ByteArray := prog_16_method_2_code
def yJ1_charAt_3b067 : MethodName := ⟨RJ1, "charAt", "([BI)C"⟩
def RJ2 : String := "java/lang/StringUTF16"
abbrev cJ2_getChar_3b067 : ByteArray := prog_17_method_5_code
def yJ2_getChar_3b067 : MethodName := ⟨RJ2, "getChar", "([BI)C"⟩
abbrev cJ2_length_9d52b : ByteArray := prog_17_method_6_code
def yJ2_length_9d52b : MethodName := ⟨RJ2, "length", "([B)I"⟩
abbrev cJ2_charAt_3b067 : ByteArray := prog_17_method_83_code
def yJ2_charAt_3b067 : MethodName := ⟨RJ2, "charAt", "([BI)C"⟩
abbrev cJ2_checkIndex_2214a : ByteArray := prog_17_method_91_code
def yJ2_checkIndex_2214a : MethodName := ⟨RJ2, "checkIndex", "(I[B)V"⟩
def RJ10 : String := "java/lang/System"
def RJ3 : String := "jdk/internal/util/Preconditions"
abbrev cJ3_checkIndex_8e157 : ByteArray := prog_19_method_11_code
def yJ3_checkIndex_8e157 : MethodName := ⟨RJ3, "checkIndex", "(IILjava/util/function/BiFunction;)I"⟩
def RL : String := "TwentyPhrasesLaw"
abbrev cL_law : ByteArray := code
def yL_law : MethodName := ⟨RL, "law", "([I)Z"⟩
abbrev vwCl : List vw_C := [(RX0, TX0, 6), (RX1, TX1, 9), (RX2, TX2, 1), (RX3, TX3, 2), (RX4, TX4, 1), (RX5, TX5, 7), (RX6, TX6, 3), (RX7, TX7, 6), (RX8, TX8, 6), (RX9, TX9, 8), (RX10, TX10, 21)]
