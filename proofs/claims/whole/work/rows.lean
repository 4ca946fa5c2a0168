section
-- the tables' words (kit, SKELETON part A) and the printed names (claim/NAMES.whole)
/-- a private method of a class that the tables say can be made, by its rows of tables_1 -/
def lw_okq (q : MethodName × Nat) : Prop := (q.1.cls ≠ "java/lang/invoke/MethodHandle" ∧ q.1.cls ≠ "java/lang/invoke/VarHandle") ∧ Cond.instantiable q.1.cls q.2 ∈ tables_1 ∧ Cond.privateMethod q.1 ∈ tables_1 ∧ Cond.instanceMethod q.1 ∈ tables_1
theorem lw_p0 : lw_okq (⟨"TwentyPhrases", "tell", "(I)I"⟩, 8) := ⟨⟨by decide +kernel, by decide +kernel⟩, List.mem_of_getElem? (i := 20) (by decide +kernel), List.mem_of_getElem? (i := 308) (by decide +kernel), List.mem_of_getElem? (i := 309) (by decide +kernel)⟩
theorem lw_p1 : lw_okq (⟨"TwentyPhrases", "isPhrase", "(I)Z"⟩, 8) := ⟨⟨by decide +kernel, by decide +kernel⟩, List.mem_of_getElem? (i := 20) (by decide +kernel), List.mem_of_getElem? (i := 325) (by decide +kernel), List.mem_of_getElem? (i := 326) (by decide +kernel)⟩
theorem lw_p2 : lw_okq (⟨"TwentyPhrases", "isWant", "(I)Z"⟩, 8) := ⟨⟨by decide +kernel, by decide +kernel⟩, List.mem_of_getElem? (i := 20) (by decide +kernel), List.mem_of_getElem? (i := 391) (by decide +kernel), List.mem_of_getElem? (i := 392) (by decide +kernel)⟩
theorem lw_p3 : lw_okq (⟨"TwentyPhrases", "isSet", "(I)Z"⟩, 8) := ⟨⟨by decide +kernel, by decide +kernel⟩, List.mem_of_getElem? (i := 20) (by decide +kernel), List.mem_of_getElem? (i := 414) (by decide +kernel), List.mem_of_getElem? (i := 415) (by decide +kernel)⟩
theorem lw_p4 : lw_okq (⟨"TwentyPhrases$Choice", "listMembers", "(I)I"⟩, 9) := ⟨⟨by decide +kernel, by decide +kernel⟩, List.mem_of_getElem? (i := 168) (by decide +kernel), List.mem_of_getElem? (i := 464) (by decide +kernel), List.mem_of_getElem? (i := 465) (by decide +kernel)⟩
theorem lw_p5 : lw_okq (⟨"TwentyPhrases", "orNone", "(I)I"⟩, 8) := ⟨⟨by decide +kernel, by decide +kernel⟩, List.mem_of_getElem? (i := 20) (by decide +kernel), List.mem_of_getElem? (i := 474) (by decide +kernel), List.mem_of_getElem? (i := 475) (by decide +kernel)⟩
theorem lw_p6 : lw_okq (⟨"TwentyPhrases$Choice", "greedyStep", "(II)I"⟩, 9) := ⟨⟨by decide +kernel, by decide +kernel⟩, List.mem_of_getElem? (i := 168) (by decide +kernel), List.mem_of_getElem? (i := 501) (by decide +kernel), List.mem_of_getElem? (i := 502) (by decide +kernel)⟩
theorem lw_p7 : lw_okq (⟨"TwentyPhrases", "mayGo", "(I)Z"⟩, 8) := ⟨⟨by decide +kernel, by decide +kernel⟩, List.mem_of_getElem? (i := 20) (by decide +kernel), List.mem_of_getElem? (i := 589) (by decide +kernel), List.mem_of_getElem? (i := 590) (by decide +kernel)⟩
theorem lw_p8 : lw_okq (⟨"TwentyPhrases$Book", "meetWants", "(I)I"⟩, 6) := ⟨⟨by decide +kernel, by decide +kernel⟩, List.mem_of_getElem? (i := 28) (by decide +kernel), List.mem_of_getElem? (i := 603) (by decide +kernel), List.mem_of_getElem? (i := 604) (by decide +kernel)⟩
theorem lw_p9 : lw_okq (⟨"TwentyPhrases$Tape", "isLetter", "(I)Z"⟩, 6) := ⟨⟨by decide +kernel, by decide +kernel⟩, List.mem_of_getElem? (i := 221) (by decide +kernel), List.mem_of_getElem? (i := 759) (by decide +kernel), List.mem_of_getElem? (i := 760) (by decide +kernel)⟩
theorem lw_p10 : lw_okq (⟨"TwentyPhrases$Tape", "isDigit", "(I)Z"⟩, 6) := ⟨⟨by decide +kernel, by decide +kernel⟩, List.mem_of_getElem? (i := 221) (by decide +kernel), List.mem_of_getElem? (i := 763) (by decide +kernel), List.mem_of_getElem? (i := 764) (by decide +kernel)⟩
theorem lw_p11 : lw_okq (⟨"TwentyPhrases$Grammar", "readItem", "(LTwentyPhrases$Book;)Z"⟩, 1) := ⟨⟨by decide +kernel, by decide +kernel⟩, List.mem_of_getElem? (i := 215) (by decide +kernel), List.mem_of_getElem? (i := 768) (by decide +kernel), List.mem_of_getElem? (i := 769) (by decide +kernel)⟩
theorem lw_p12 : lw_okq (⟨"TwentyPhrases$Grammar", "kindNamed", "()I"⟩, 1) := ⟨⟨by decide +kernel, by decide +kernel⟩, List.mem_of_getElem? (i := 215) (by decide +kernel), List.mem_of_getElem? (i := 772) (by decide +kernel), List.mem_of_getElem? (i := 773) (by decide +kernel)⟩
theorem lw_p13 : lw_okq (⟨"TwentyPhrases$Grammar", "readPhrase", "(LTwentyPhrases$Phrases;I)Z"⟩, 1) := ⟨⟨by decide +kernel, by decide +kernel⟩, List.mem_of_getElem? (i := 215) (by decide +kernel), List.mem_of_getElem? (i := 834) (by decide +kernel), List.mem_of_getElem? (i := 835) (by decide +kernel)⟩
theorem lw_p14 : lw_okq (⟨"TwentyPhrases$Grammar", "takeNumber", "(II)I"⟩, 1) := ⟨⟨by decide +kernel, by decide +kernel⟩, List.mem_of_getElem? (i := 215) (by decide +kernel), List.mem_of_getElem? (i := 840) (by decide +kernel), List.mem_of_getElem? (i := 841) (by decide +kernel)⟩
theorem lw_p15 : lw_okq (⟨"TwentyPhrases$Grammar", "takeWord", "(Ljava/lang/String;)Z"⟩, 1) := ⟨⟨by decide +kernel, by decide +kernel⟩, List.mem_of_getElem? (i := 215) (by decide +kernel), List.mem_of_getElem? (i := 846) (by decide +kernel), List.mem_of_getElem? (i := 847) (by decide +kernel)⟩
def lw_privs_1 : List (MethodName × Nat) := [(⟨"TwentyPhrases", "tell", "(I)I"⟩, 8), (⟨"TwentyPhrases", "isPhrase", "(I)Z"⟩, 8), (⟨"TwentyPhrases", "isWant", "(I)Z"⟩, 8), (⟨"TwentyPhrases", "isSet", "(I)Z"⟩, 8), (⟨"TwentyPhrases$Choice", "listMembers", "(I)I"⟩, 9), (⟨"TwentyPhrases", "orNone", "(I)I"⟩, 8), (⟨"TwentyPhrases$Choice", "greedyStep", "(II)I"⟩, 9), (⟨"TwentyPhrases", "mayGo", "(I)Z"⟩, 8), (⟨"TwentyPhrases$Book", "meetWants", "(I)I"⟩, 6), (⟨"TwentyPhrases$Tape", "isLetter", "(I)Z"⟩, 6), (⟨"TwentyPhrases$Tape", "isDigit", "(I)Z"⟩, 6), (⟨"TwentyPhrases$Grammar", "readItem", "(LTwentyPhrases$Book;)Z"⟩, 1), (⟨"TwentyPhrases$Grammar", "kindNamed", "()I"⟩, 1), (⟨"TwentyPhrases$Grammar", "readPhrase", "(LTwentyPhrases$Phrases;I)Z"⟩, 1), (⟨"TwentyPhrases$Grammar", "takeNumber", "(II)I"⟩, 1), (⟨"TwentyPhrases$Grammar", "takeWord", "(Ljava/lang/String;)Z"⟩, 1)]
theorem lw_r1 : ∀ q ∈ lw_privs_1, lw_okq q := List.forall_mem_cons.mpr ⟨lw_p0, List.forall_mem_cons.mpr ⟨lw_p1, List.forall_mem_cons.mpr ⟨lw_p2, List.forall_mem_cons.mpr ⟨lw_p3, List.forall_mem_cons.mpr ⟨lw_p4, List.forall_mem_cons.mpr ⟨lw_p5, List.forall_mem_cons.mpr ⟨lw_p6, List.forall_mem_cons.mpr ⟨lw_p7, List.forall_mem_cons.mpr ⟨lw_p8, List.forall_mem_cons.mpr ⟨lw_p9, List.forall_mem_cons.mpr ⟨lw_p10, List.forall_mem_cons.mpr ⟨lw_p11, List.forall_mem_cons.mpr ⟨lw_p12, List.forall_mem_cons.mpr ⟨lw_p13, List.forall_mem_cons.mpr ⟨lw_p14, List.forall_mem_cons.mpr ⟨lw_p15, fun _ h => absurd h List.not_mem_nil⟩⟩⟩⟩⟩⟩⟩⟩⟩⟩⟩⟩⟩⟩⟩⟩
theorem lw_p16 : lw_okq (⟨"TwentyPhrases$Grammar", "readWant", "(LTwentyPhrases$Wants;)Z"⟩, 1) := ⟨⟨by decide +kernel, by decide +kernel⟩, List.mem_of_getElem? (i := 215) (by decide +kernel), List.mem_of_getElem? (i := 853) (by decide +kernel), List.mem_of_getElem? (i := 854) (by decide +kernel)⟩
theorem lw_p17 : lw_okq (⟨"TwentyPhrases$Grammar", "readLine", "(LTwentyPhrases$Book;)Z"⟩, 1) := ⟨⟨by decide +kernel, by decide +kernel⟩, List.mem_of_getElem? (i := 215) (by decide +kernel), List.mem_of_getElem? (i := 864) (by decide +kernel), List.mem_of_getElem? (i := 865) (by decide +kernel)⟩
theorem lw_p18 : lw_okq (⟨"TwentyPhrases$Grammar", "readOrder", "(LTwentyPhrases$Book;)Z"⟩, 1) := ⟨⟨by decide +kernel, by decide +kernel⟩, List.mem_of_getElem? (i := 215) (by decide +kernel), List.mem_of_getElem? (i := 869) (by decide +kernel), List.mem_of_getElem? (i := 870) (by decide +kernel)⟩
theorem lw_p19 : lw_okq (⟨"TwentyPhrasesModel", "finds", "(I)I"⟩, 21) := ⟨⟨by decide +kernel, by decide +kernel⟩, List.mem_of_getElem? (i := 956) (by decide +kernel), List.mem_of_getElem? (i := 1042) (by decide +kernel), List.mem_of_getElem? (i := 1043) (by decide +kernel)⟩
theorem lw_p20 : lw_okq (⟨"TwentyPhrasesModel", "newPhrase", "(IIII)I"⟩, 21) := ⟨⟨by decide +kernel, by decide +kernel⟩, List.mem_of_getElem? (i := 956) (by decide +kernel), List.mem_of_getElem? (i := 1047) (by decide +kernel), List.mem_of_getElem? (i := 1048) (by decide +kernel)⟩
theorem lw_p21 : lw_okq (⟨"TwentyPhrasesModel", "isPhrase", "(I)Z"⟩, 21) := ⟨⟨by decide +kernel, by decide +kernel⟩, List.mem_of_getElem? (i := 956) (by decide +kernel), List.mem_of_getElem? (i := 1058) (by decide +kernel), List.mem_of_getElem? (i := 1059) (by decide +kernel)⟩
theorem lw_p22 : lw_okq (⟨"TwentyPhrasesModel", "its", "(II)I"⟩, 21) := ⟨⟨by decide +kernel, by decide +kernel⟩, List.mem_of_getElem? (i := 956) (by decide +kernel), List.mem_of_getElem? (i := 1063) (by decide +kernel), List.mem_of_getElem? (i := 1064) (by decide +kernel)⟩
theorem lw_p23 : lw_okq (⟨"TwentyPhrasesModel", "isKnown", "(I)Z"⟩, 21) := ⟨⟨by decide +kernel, by decide +kernel⟩, List.mem_of_getElem? (i := 956) (by decide +kernel), List.mem_of_getElem? (i := 1067) (by decide +kernel), List.mem_of_getElem? (i := 1068) (by decide +kernel)⟩
theorem lw_p24 : lw_okq (⟨"TwentyPhrasesModel", "forgets", "(I)I"⟩, 21) := ⟨⟨by decide +kernel, by decide +kernel⟩, List.mem_of_getElem? (i := 956) (by decide +kernel), List.mem_of_getElem? (i := 1071) (by decide +kernel), List.mem_of_getElem? (i := 1072) (by decide +kernel)⟩
theorem lw_p25 : lw_okq (⟨"TwentyPhrasesModel", "newWant", "(III)I"⟩, 21) := ⟨⟨by decide +kernel, by decide +kernel⟩, List.mem_of_getElem? (i := 956) (by decide +kernel), List.mem_of_getElem? (i := 1094) (by decide +kernel), List.mem_of_getElem? (i := 1095) (by decide +kernel)⟩
theorem lw_p26 : lw_okq (⟨"TwentyPhrasesModel", "isWant", "(I)Z"⟩, 21) := ⟨⟨by decide +kernel, by decide +kernel⟩, List.mem_of_getElem? (i := 956) (by decide +kernel), List.mem_of_getElem? (i := 1102) (by decide +kernel), List.mem_of_getElem? (i := 1103) (by decide +kernel)⟩
theorem lw_p27 : lw_okq (⟨"TwentyPhrasesModel", "wants", "(II)I"⟩, 21) := ⟨⟨by decide +kernel, by decide +kernel⟩, List.mem_of_getElem? (i := 956) (by decide +kernel), List.mem_of_getElem? (i := 1106) (by decide +kernel), List.mem_of_getElem? (i := 1107) (by decide +kernel)⟩
theorem lw_p28 : lw_okq (⟨"TwentyPhrasesModel", "isSet", "(I)Z"⟩, 21) := ⟨⟨by decide +kernel, by decide +kernel⟩, List.mem_of_getElem? (i := 956) (by decide +kernel), List.mem_of_getElem? (i := 1118) (by decide +kernel), List.mem_of_getElem? (i := 1119) (by decide +kernel)⟩
theorem lw_p29 : lw_okq (⟨"TwentyPhrasesModel", "hasRope", "(I)Z"⟩, 21) := ⟨⟨by decide +kernel, by decide +kernel⟩, List.mem_of_getElem? (i := 956) (by decide +kernel), List.mem_of_getElem? (i := 1122) (by decide +kernel), List.mem_of_getElem? (i := 1123) (by decide +kernel)⟩
theorem lw_p30 : lw_okq (⟨"TwentyPhrasesModel", "gainOf", "(IIZ)I"⟩, 21) := ⟨⟨by decide +kernel, by decide +kernel⟩, List.mem_of_getElem? (i := 956) (by decide +kernel), List.mem_of_getElem? (i := 1129) (by decide +kernel), List.mem_of_getElem? (i := 1130) (by decide +kernel)⟩
theorem lw_p31 : lw_okq (⟨"TwentyPhrasesModel", "hasMending", "(I)Z"⟩, 21) := ⟨⟨by decide +kernel, by decide +kernel⟩, List.mem_of_getElem? (i := 956) (by decide +kernel), List.mem_of_getElem? (i := 1137) (by decide +kernel), List.mem_of_getElem? (i := 1138) (by decide +kernel)⟩
def lw_privs_2 : List (MethodName × Nat) := [(⟨"TwentyPhrases$Grammar", "readWant", "(LTwentyPhrases$Wants;)Z"⟩, 1), (⟨"TwentyPhrases$Grammar", "readLine", "(LTwentyPhrases$Book;)Z"⟩, 1), (⟨"TwentyPhrases$Grammar", "readOrder", "(LTwentyPhrases$Book;)Z"⟩, 1), (⟨"TwentyPhrasesModel", "finds", "(I)I"⟩, 21), (⟨"TwentyPhrasesModel", "newPhrase", "(IIII)I"⟩, 21), (⟨"TwentyPhrasesModel", "isPhrase", "(I)Z"⟩, 21), (⟨"TwentyPhrasesModel", "its", "(II)I"⟩, 21), (⟨"TwentyPhrasesModel", "isKnown", "(I)Z"⟩, 21), (⟨"TwentyPhrasesModel", "forgets", "(I)I"⟩, 21), (⟨"TwentyPhrasesModel", "newWant", "(III)I"⟩, 21), (⟨"TwentyPhrasesModel", "isWant", "(I)Z"⟩, 21), (⟨"TwentyPhrasesModel", "wants", "(II)I"⟩, 21), (⟨"TwentyPhrasesModel", "isSet", "(I)Z"⟩, 21), (⟨"TwentyPhrasesModel", "hasRope", "(I)Z"⟩, 21), (⟨"TwentyPhrasesModel", "gainOf", "(IIZ)I"⟩, 21), (⟨"TwentyPhrasesModel", "hasMending", "(I)Z"⟩, 21)]
theorem lw_r2 : ∀ q ∈ lw_privs_2, lw_okq q := List.forall_mem_cons.mpr ⟨lw_p16, List.forall_mem_cons.mpr ⟨lw_p17, List.forall_mem_cons.mpr ⟨lw_p18, List.forall_mem_cons.mpr ⟨lw_p19, List.forall_mem_cons.mpr ⟨lw_p20, List.forall_mem_cons.mpr ⟨lw_p21, List.forall_mem_cons.mpr ⟨lw_p22, List.forall_mem_cons.mpr ⟨lw_p23, List.forall_mem_cons.mpr ⟨lw_p24, List.forall_mem_cons.mpr ⟨lw_p25, List.forall_mem_cons.mpr ⟨lw_p26, List.forall_mem_cons.mpr ⟨lw_p27, List.forall_mem_cons.mpr ⟨lw_p28, List.forall_mem_cons.mpr ⟨lw_p29, List.forall_mem_cons.mpr ⟨lw_p30, List.forall_mem_cons.mpr ⟨lw_p31, fun _ h => absurd h List.not_mem_nil⟩⟩⟩⟩⟩⟩⟩⟩⟩⟩⟩⟩⟩⟩⟩⟩
theorem lw_p32 : lw_okq (⟨"TwentyPhrasesModel", "metOf", "(IIZZ)I"⟩, 21) := ⟨⟨by decide +kernel, by decide +kernel⟩, List.mem_of_getElem? (i := 956) (by decide +kernel), List.mem_of_getElem? (i := 1141) (by decide +kernel), List.mem_of_getElem? (i := 1142) (by decide +kernel)⟩
theorem lw_p33 : lw_okq (⟨"TwentyPhrasesModel", "valueOf", "(I)I"⟩, 21) := ⟨⟨by decide +kernel, by decide +kernel⟩, List.mem_of_getElem? (i := 956) (by decide +kernel), List.mem_of_getElem? (i := 1149) (by decide +kernel), List.mem_of_getElem? (i := 1150) (by decide +kernel)⟩
theorem lw_p34 : lw_okq (⟨"TwentyPhrasesModel", "byOf", "(II)I"⟩, 21) := ⟨⟨by decide +kernel, by decide +kernel⟩, List.mem_of_getElem? (i := 956) (by decide +kernel), List.mem_of_getElem? (i := 1157) (by decide +kernel), List.mem_of_getElem? (i := 1158) (by decide +kernel)⟩
theorem lw_p35 : lw_okq (⟨"TwentyPhrasesModel", "findBest", "(I)V"⟩, 21) := ⟨⟨by decide +kernel, by decide +kernel⟩, List.mem_of_getElem? (i := 956) (by decide +kernel), List.mem_of_getElem? (i := 1168) (by decide +kernel), List.mem_of_getElem? (i := 1169) (by decide +kernel)⟩
theorem lw_p36 : lw_okq (⟨"TwentyPhrasesModel", "minutesOf", "(I)I"⟩, 21) := ⟨⟨by decide +kernel, by decide +kernel⟩, List.mem_of_getElem? (i := 956) (by decide +kernel), List.mem_of_getElem? (i := 1172) (by decide +kernel), List.mem_of_getElem? (i := 1173) (by decide +kernel)⟩
theorem lw_p37 : lw_okq (⟨"TwentyPhrasesModel", "most", "(IIZ)I"⟩, 21) := ⟨⟨by decide +kernel, by decide +kernel⟩, List.mem_of_getElem? (i := 956) (by decide +kernel), List.mem_of_getElem? (i := 1180) (by decide +kernel), List.mem_of_getElem? (i := 1181) (by decide +kernel)⟩
theorem lw_p38 : lw_okq (⟨"TwentyPhrasesModel", "placeOf", "(I)I"⟩, 21) := ⟨⟨by decide +kernel, by decide +kernel⟩, List.mem_of_getElem? (i := 956) (by decide +kernel), List.mem_of_getElem? (i := 1200) (by decide +kernel), List.mem_of_getElem? (i := 1201) (by decide +kernel)⟩
theorem lw_p39 : lw_okq (⟨"TwentyPhrasesModel", "leaves", "(I)V"⟩, 21) := ⟨⟨by decide +kernel, by decide +kernel⟩, List.mem_of_getElem? (i := 956) (by decide +kernel), List.mem_of_getElem? (i := 1204) (by decide +kernel), List.mem_of_getElem? (i := 1205) (by decide +kernel)⟩
theorem lw_p40 : lw_okq (⟨"TwentyPhrasesModel", "learns", "(II)V"⟩, 21) := ⟨⟨by decide +kernel, by decide +kernel⟩, List.mem_of_getElem? (i := 956) (by decide +kernel), List.mem_of_getElem? (i := 1221) (by decide +kernel), List.mem_of_getElem? (i := 1222) (by decide +kernel)⟩
theorem lw_p41 : lw_okq (⟨"TwentyPhrasesModel", "eveningOf", "(I)I"⟩, 21) := ⟨⟨by decide +kernel, by decide +kernel⟩, List.mem_of_getElem? (i := 956) (by decide +kernel), List.mem_of_getElem? (i := 1229) (by decide +kernel), List.mem_of_getElem? (i := 1230) (by decide +kernel)⟩
theorem lw_p42 : lw_okq (⟨"TwentyPhrasesModel", "knownSet", "()I"⟩, 21) := ⟨⟨by decide +kernel, by decide +kernel⟩, List.mem_of_getElem? (i := 956) (by decide +kernel), List.mem_of_getElem? (i := 1241) (by decide +kernel), List.mem_of_getElem? (i := 1242) (by decide +kernel)⟩
theorem lw_p43 : lw_okq (⟨"TwentyPhrasesModel", "isTooLate", "(I)Z"⟩, 21) := ⟨⟨by decide +kernel, by decide +kernel⟩, List.mem_of_getElem? (i := 956) (by decide +kernel), List.mem_of_getElem? (i := 1250) (by decide +kernel), List.mem_of_getElem? (i := 1251) (by decide +kernel)⟩
theorem lw_p44 : lw_okq (⟨"TwentyPhrasesModel", "daysGo", "(I)I"⟩, 21) := ⟨⟨by decide +kernel, by decide +kernel⟩, List.mem_of_getElem? (i := 956) (by decide +kernel), List.mem_of_getElem? (i := 1255) (by decide +kernel), List.mem_of_getElem? (i := 1256) (by decide +kernel)⟩
theorem lw_p45 : lw_okq (⟨"TwentyPhrasesModel", "day", "()I"⟩, 21) := ⟨⟨by decide +kernel, by decide +kernel⟩, List.mem_of_getElem? (i := 956) (by decide +kernel), List.mem_of_getElem? (i := 1259) (by decide +kernel), List.mem_of_getElem? (i := 1260) (by decide +kernel)⟩
theorem lw_p46 : lw_okq (⟨"TwentyPhrasesModel", "puts", "()V"⟩, 21) := ⟨⟨by decide +kernel, by decide +kernel⟩, List.mem_of_getElem? (i := 956) (by decide +kernel), List.mem_of_getElem? (i := 1271) (by decide +kernel), List.mem_of_getElem? (i := 1272) (by decide +kernel)⟩
theorem lw_p47 : lw_okq (⟨"TwentyPhrasesModel", "sumOf", "(I)I"⟩, 21) := ⟨⟨by decide +kernel, by decide +kernel⟩, List.mem_of_getElem? (i := 956) (by decide +kernel), List.mem_of_getElem? (i := 1275) (by decide +kernel), List.mem_of_getElem? (i := 1276) (by decide +kernel)⟩
def lw_privs_3 : List (MethodName × Nat) := [(⟨"TwentyPhrasesModel", "metOf", "(IIZZ)I"⟩, 21), (⟨"TwentyPhrasesModel", "valueOf", "(I)I"⟩, 21), (⟨"TwentyPhrasesModel", "byOf", "(II)I"⟩, 21), (⟨"TwentyPhrasesModel", "findBest", "(I)V"⟩, 21), (⟨"TwentyPhrasesModel", "minutesOf", "(I)I"⟩, 21), (⟨"TwentyPhrasesModel", "most", "(IIZ)I"⟩, 21), (⟨"TwentyPhrasesModel", "placeOf", "(I)I"⟩, 21), (⟨"TwentyPhrasesModel", "leaves", "(I)V"⟩, 21), (⟨"TwentyPhrasesModel", "learns", "(II)V"⟩, 21), (⟨"TwentyPhrasesModel", "eveningOf", "(I)I"⟩, 21), (⟨"TwentyPhrasesModel", "knownSet", "()I"⟩, 21), (⟨"TwentyPhrasesModel", "isTooLate", "(I)Z"⟩, 21), (⟨"TwentyPhrasesModel", "daysGo", "(I)I"⟩, 21), (⟨"TwentyPhrasesModel", "day", "()I"⟩, 21), (⟨"TwentyPhrasesModel", "puts", "()V"⟩, 21), (⟨"TwentyPhrasesModel", "sumOf", "(I)I"⟩, 21)]
theorem lw_r3 : ∀ q ∈ lw_privs_3, lw_okq q := List.forall_mem_cons.mpr ⟨lw_p32, List.forall_mem_cons.mpr ⟨lw_p33, List.forall_mem_cons.mpr ⟨lw_p34, List.forall_mem_cons.mpr ⟨lw_p35, List.forall_mem_cons.mpr ⟨lw_p36, List.forall_mem_cons.mpr ⟨lw_p37, List.forall_mem_cons.mpr ⟨lw_p38, List.forall_mem_cons.mpr ⟨lw_p39, List.forall_mem_cons.mpr ⟨lw_p40, List.forall_mem_cons.mpr ⟨lw_p41, List.forall_mem_cons.mpr ⟨lw_p42, List.forall_mem_cons.mpr ⟨lw_p43, List.forall_mem_cons.mpr ⟨lw_p44, List.forall_mem_cons.mpr ⟨lw_p45, List.forall_mem_cons.mpr ⟨lw_p46, List.forall_mem_cons.mpr ⟨lw_p47, fun _ h => absurd h List.not_mem_nil⟩⟩⟩⟩⟩⟩⟩⟩⟩⟩⟩⟩⟩⟩⟩⟩
theorem lw_p48 : lw_okq (⟨"TwentyPhrasesModel", "putsBack", "()V"⟩, 21) := ⟨⟨by decide +kernel, by decide +kernel⟩, List.mem_of_getElem? (i := 956) (by decide +kernel), List.mem_of_getElem? (i := 1279) (by decide +kernel), List.mem_of_getElem? (i := 1280) (by decide +kernel)⟩
theorem lw_p49 : lw_okq (⟨"TwentyPhrasesModel", "scoreOn", "(I)I"⟩, 21) := ⟨⟨by decide +kernel, by decide +kernel⟩, List.mem_of_getElem? (i := 956) (by decide +kernel), List.mem_of_getElem? (i := 1295) (by decide +kernel), List.mem_of_getElem? (i := 1296) (by decide +kernel)⟩
theorem lw_p50 : lw_okq (⟨"TwentyPhrasesModel", "triesRow", "(IIIZ)V"⟩, 21) := ⟨⟨by decide +kernel, by decide +kernel⟩, List.mem_of_getElem? (i := 956) (by decide +kernel), List.mem_of_getElem? (i := 1308) (by decide +kernel), List.mem_of_getElem? (i := 1309) (by decide +kernel)⟩
theorem lw_p51 : lw_okq (⟨"TwentyPhrasesModel", "goesOn", "(I)Z"⟩, 21) := ⟨⟨by decide +kernel, by decide +kernel⟩, List.mem_of_getElem? (i := 956) (by decide +kernel), List.mem_of_getElem? (i := 1312) (by decide +kernel), List.mem_of_getElem? (i := 1313) (by decide +kernel)⟩
theorem lw_p52 : lw_okq (⟨"TwentyPhrasesModel", "swaps", "(II)V"⟩, 21) := ⟨⟨by decide +kernel, by decide +kernel⟩, List.mem_of_getElem? (i := 956) (by decide +kernel), List.mem_of_getElem? (i := 1316) (by decide +kernel), List.mem_of_getElem? (i := 1317) (by decide +kernel)⟩
theorem lw_p53 : lw_okq (⟨"TwentyPhrasesModel", "token", "()V"⟩, 21) := ⟨⟨by decide +kernel, by decide +kernel⟩, List.mem_of_getElem? (i := 956) (by decide +kernel), List.mem_of_getElem? (i := 1332) (by decide +kernel), List.mem_of_getElem? (i := 1333) (by decide +kernel)⟩
theorem lw_p54 : lw_okq (⟨"TwentyPhrasesModel", "byteAt", "(I)I"⟩, 21) := ⟨⟨by decide +kernel, by decide +kernel⟩, List.mem_of_getElem? (i := 956) (by decide +kernel), List.mem_of_getElem? (i := 1336) (by decide +kernel), List.mem_of_getElem? (i := 1337) (by decide +kernel)⟩
theorem lw_p55 : lw_okq (⟨"TwentyPhrasesModel", "item", "()V"⟩, 21) := ⟨⟨by decide +kernel, by decide +kernel⟩, List.mem_of_getElem? (i := 956) (by decide +kernel), List.mem_of_getElem? (i := 1350) (by decide +kernel), List.mem_of_getElem? (i := 1351) (by decide +kernel)⟩
theorem lw_p56 : lw_okq (⟨"TwentyPhrasesModel", "kindHere", "()I"⟩, 21) := ⟨⟨by decide +kernel, by decide +kernel⟩, List.mem_of_getElem? (i := 956) (by decide +kernel), List.mem_of_getElem? (i := 1354) (by decide +kernel), List.mem_of_getElem? (i := 1355) (by decide +kernel)⟩
theorem lw_p57 : lw_okq (⟨"TwentyPhrasesModel", "word", "()J"⟩, 21) := ⟨⟨by decide +kernel, by decide +kernel⟩, List.mem_of_getElem? (i := 956) (by decide +kernel), List.mem_of_getElem? (i := 1358) (by decide +kernel), List.mem_of_getElem? (i := 1359) (by decide +kernel)⟩
theorem lw_p58 : lw_okq (⟨"TwentyPhrasesModel", "phraseItem", "(I)V"⟩, 21) := ⟨⟨by decide +kernel, by decide +kernel⟩, List.mem_of_getElem? (i := 956) (by decide +kernel), List.mem_of_getElem? (i := 1370) (by decide +kernel), List.mem_of_getElem? (i := 1371) (by decide +kernel)⟩
theorem lw_p59 : lw_okq (⟨"TwentyPhrasesModel", "needs", "(Z)V"⟩, 21) := ⟨⟨by decide +kernel, by decide +kernel⟩, List.mem_of_getElem? (i := 956) (by decide +kernel), List.mem_of_getElem? (i := 1374) (by decide +kernel), List.mem_of_getElem? (i := 1375) (by decide +kernel)⟩
theorem lw_p60 : lw_okq (⟨"TwentyPhrasesModel", "number", "(II)V"⟩, 21) := ⟨⟨by decide +kernel, by decide +kernel⟩, List.mem_of_getElem? (i := 956) (by decide +kernel), List.mem_of_getElem? (i := 1378) (by decide +kernel), List.mem_of_getElem? (i := 1379) (by decide +kernel)⟩
theorem lw_p61 : lw_okq (⟨"TwentyPhrasesModel", "perhaps", "(ZIII)I"⟩, 21) := ⟨⟨by decide +kernel, by decide +kernel⟩, List.mem_of_getElem? (i := 956) (by decide +kernel), List.mem_of_getElem? (i := 1383) (by decide +kernel), List.mem_of_getElem? (i := 1384) (by decide +kernel)⟩
theorem lw_p62 : lw_okq (⟨"TwentyPhrasesModel", "wantItem", "()V"⟩, 21) := ⟨⟨by decide +kernel, by decide +kernel⟩, List.mem_of_getElem? (i := 956) (by decide +kernel), List.mem_of_getElem? (i := 1389) (by decide +kernel), List.mem_of_getElem? (i := 1390) (by decide +kernel)⟩
theorem lw_p63 : lw_okq (⟨"TwentyPhrasesModel", "orderItem", "()V"⟩, 21) := ⟨⟨by decide +kernel, by decide +kernel⟩, List.mem_of_getElem? (i := 956) (by decide +kernel), List.mem_of_getElem? (i := 1398) (by decide +kernel), List.mem_of_getElem? (i := 1399) (by decide +kernel)⟩
def lw_privs_4 : List (MethodName × Nat) := [(⟨"TwentyPhrasesModel", "putsBack", "()V"⟩, 21), (⟨"TwentyPhrasesModel", "scoreOn", "(I)I"⟩, 21), (⟨"TwentyPhrasesModel", "triesRow", "(IIIZ)V"⟩, 21), (⟨"TwentyPhrasesModel", "goesOn", "(I)Z"⟩, 21), (⟨"TwentyPhrasesModel", "swaps", "(II)V"⟩, 21), (⟨"TwentyPhrasesModel", "token", "()V"⟩, 21), (⟨"TwentyPhrasesModel", "byteAt", "(I)I"⟩, 21), (⟨"TwentyPhrasesModel", "item", "()V"⟩, 21), (⟨"TwentyPhrasesModel", "kindHere", "()I"⟩, 21), (⟨"TwentyPhrasesModel", "word", "()J"⟩, 21), (⟨"TwentyPhrasesModel", "phraseItem", "(I)V"⟩, 21), (⟨"TwentyPhrasesModel", "needs", "(Z)V"⟩, 21), (⟨"TwentyPhrasesModel", "number", "(II)V"⟩, 21), (⟨"TwentyPhrasesModel", "perhaps", "(ZIII)I"⟩, 21), (⟨"TwentyPhrasesModel", "wantItem", "()V"⟩, 21), (⟨"TwentyPhrasesModel", "orderItem", "()V"⟩, 21)]
theorem lw_r4 : ∀ q ∈ lw_privs_4, lw_okq q := List.forall_mem_cons.mpr ⟨lw_p48, List.forall_mem_cons.mpr ⟨lw_p49, List.forall_mem_cons.mpr ⟨lw_p50, List.forall_mem_cons.mpr ⟨lw_p51, List.forall_mem_cons.mpr ⟨lw_p52, List.forall_mem_cons.mpr ⟨lw_p53, List.forall_mem_cons.mpr ⟨lw_p54, List.forall_mem_cons.mpr ⟨lw_p55, List.forall_mem_cons.mpr ⟨lw_p56, List.forall_mem_cons.mpr ⟨lw_p57, List.forall_mem_cons.mpr ⟨lw_p58, List.forall_mem_cons.mpr ⟨lw_p59, List.forall_mem_cons.mpr ⟨lw_p60, List.forall_mem_cons.mpr ⟨lw_p61, List.forall_mem_cons.mpr ⟨lw_p62, List.forall_mem_cons.mpr ⟨lw_p63, fun _ h => absurd h List.not_mem_nil⟩⟩⟩⟩⟩⟩⟩⟩⟩⟩⟩⟩⟩⟩⟩⟩
theorem lw_p64 : lw_okq (⟨"TwentyPhrasesModel", "orderOne", "()V"⟩, 21) := ⟨⟨by decide +kernel, by decide +kernel⟩, List.mem_of_getElem? (i := 956) (by decide +kernel), List.mem_of_getElem? (i := 1403) (by decide +kernel), List.mem_of_getElem? (i := 1404) (by decide +kernel)⟩
theorem lw_p65 : lw_okq (⟨"TwentyPhrasesModel", "wrong", "(I)I"⟩, 21) := ⟨⟨by decide +kernel, by decide +kernel⟩, List.mem_of_getElem? (i := 956) (by decide +kernel), List.mem_of_getElem? (i := 1419) (by decide +kernel), List.mem_of_getElem? (i := 1420) (by decide +kernel)⟩
def lw_privs_5 : List (MethodName × Nat) := [(⟨"TwentyPhrasesModel", "orderOne", "()V"⟩, 21), (⟨"TwentyPhrasesModel", "wrong", "(I)I"⟩, 21)]
theorem lw_r5 : ∀ q ∈ lw_privs_5, lw_okq q := List.forall_mem_cons.mpr ⟨lw_p64, List.forall_mem_cons.mpr ⟨lw_p65, fun _ h => absurd h List.not_mem_nil⟩⟩
def lw_privs : List (MethodName × Nat) := lw_privs_1 ++ (lw_privs_2 ++ (lw_privs_3 ++ (lw_privs_4 ++ (lw_privs_5))))
def lw_tbl : List Cond := k2_sels lw_privs ++ tables_1
theorem lw_privs_ok : ∀ q ∈ lw_privs, lw_okq q := by
  show ∀ q ∈ lw_privs_1 ++ (lw_privs_2 ++ (lw_privs_3 ++ (lw_privs_4 ++ (lw_privs_5)))), lw_okq q
  exact List.forall_mem_append.mpr ⟨lw_r1, List.forall_mem_append.mpr ⟨lw_r2, List.forall_mem_append.mpr ⟨lw_r3, List.forall_mem_append.mpr ⟨lw_r4, lw_r5⟩⟩⟩⟩
def RX0 : String := "TwentyPhrases$Book"
def TX0 : u_T := fun k => match k with
  | 0 => ("TwentyPhrases$Book", "phrases", "LTwentyPhrases$Phrases;", true)
  | 1 => ("TwentyPhrases$Book", "wants", "LTwentyPhrases$Wants;", true)
  | 2 => ("TwentyPhrases$Book", "order", "LTwentyPhrases$Order;", true)
  | 3 => ("TwentyPhrases$Book", "line", "I", false)
  | 4 => ("TwentyPhrases$Book", "day", "I", false)
  | _ => ("TwentyPhrases$Book", "score", "I", false)
def tyX0 : Nat → FieldType := fun k => match k with
  | 0 => .object "TwentyPhrases$Phrases"
  | 1 => .object "TwentyPhrases$Wants"
  | 2 => .object "TwentyPhrases$Order"
  | 3 => .int
  | 4 => .int
  | _ => .int
abbrev wsX00 : List Cond := u_ws RX0 TX0 6
theorem nmX0 : ∀ a, a < 6 → ∀ b, b < 6 → a ≠ b → (TX0 a).2.1 ≠ (TX0 b).2.1 := by decide +kernel
theorem tyX0_ok : ∀ k, k < 6 → parseFieldDescriptor (TX0 k).2.2.1 = some (tyX0 k) := by decide +kernel
abbrev cX0_init : ByteArray := prog_2_method_1_code
def yX0_init : MethodName := ⟨RX0, "<init>", "()V"⟩
abbrev cX0_gainOf : ByteArray := prog_2_method_2_code
def yX0_gainOf : MethodName := ⟨RX0, "gainOf", "(IIZ)I"⟩
abbrev cX0_gainsMost : ByteArray := prog_2_method_3_code
def yX0_gainsMost : MethodName := ⟨RX0, "gainsMost", "(IIZ)I"⟩
abbrev cX0_metBy : ByteArray := prog_2_method_4_code
def yX0_metBy : MethodName := ⟨RX0, "metBy", "(IIZZ)I"⟩
abbrev cX0_isKnown : ByteArray := prog_2_method_5_code
def yX0_isKnown : MethodName := ⟨RX0, "isKnown", "(I)Z"⟩
abbrev cX0_knownSet : ByteArray := prog_2_method_6_code
def yX0_knownSet : MethodName := ⟨RX0, "knownSet", "()I"⟩
abbrev cX0_spendEvening : ByteArray := prog_2_method_7_code
def yX0_spendEvening : MethodName := ⟨RX0, "spendEvening", "(I)I"⟩
abbrev cX0_goDays : ByteArray := prog_2_method_8_code
def yX0_goDays : MethodName := ⟨RX0, "goDays", "(I)V"⟩
abbrev cX0_meetWants : ByteArray := prog_2_method_9_code
def yX0_meetWants : MethodName := ⟨RX0, "meetWants", "(I)I"⟩
abbrev cX0_takeFrom : ByteArray := prog_2_method_10_code
def yX0_takeFrom : MethodName := ⟨RX0, "takeFrom", "(LTwentyPhrases$Book;)V"⟩
def RX1 : String := "TwentyPhrases$Choice"
def TX1 : u_T := fun k => match k with
  | 0 => ("TwentyPhrases$Choice", "bare", "[I", true)
  | 1 => ("TwentyPhrases$Choice", "roped", "[I", true)
  | 2 => ("TwentyPhrases$Choice", "worth", "[I", true)
  | 3 => ("TwentyPhrases$Choice", "minutes", "[I", true)
  | 4 => ("TwentyPhrases$Choice", "members", "[I", true)
  | 5 => ("TwentyPhrases$Choice", "ropes", "I", false)
  | 6 => ("TwentyPhrases$Choice", "mendings", "I", false)
  | 7 => ("TwentyPhrases$Choice", "phrases", "I", false)
  | _ => ("TwentyPhrases$Choice", "wants", "I", false)
def tyX1 : Nat → FieldType := fun k => match k with
  | 0 => .array .int
  | 1 => .array .int
  | 2 => .array .int
  | 3 => .array .int
  | 4 => .array .int
  | 5 => .int
  | 6 => .int
  | 7 => .int
  | _ => .int
abbrev wsX10 : List Cond := u_ws RX1 TX1 9
theorem nmX1 : ∀ a, a < 9 → ∀ b, b < 9 → a ≠ b → (TX1 a).2.1 ≠ (TX1 b).2.1 := by decide +kernel
theorem tyX1_ok : ∀ k, k < 9 → parseFieldDescriptor (TX1 k).2.2.1 = some (tyX1 k) := by decide +kernel
abbrev cX1_init : ByteArray := prog_3_method_1_code
def yX1_init : MethodName := ⟨RX1, "<init>", "()V"⟩
abbrev cX1_lookAt : ByteArray := prog_3_method_2_code
def yX1_lookAt : MethodName := ⟨RX1, "lookAt", "(LTwentyPhrases$Book;)V"⟩
abbrev cX1_valueOf : ByteArray := prog_3_method_3_code
def yX1_valueOf : MethodName := ⟨RX1, "valueOf", "(I)I"⟩
abbrev cX1_listMembers : ByteArray := prog_3_method_4_code
def yX1_listMembers : MethodName := ⟨RX1, "listMembers", "(I)I"⟩
abbrev cX1_minutesOf : ByteArray := prog_3_method_5_code
def yX1_minutesOf : MethodName := ⟨RX1, "minutesOf", "(I)I"⟩
abbrev cX1_bestSet : ByteArray := prog_3_method_6_code
def yX1_bestSet : MethodName := ⟨RX1, "bestSet", "(I)I"⟩
abbrev cX1_fewestMinutes : ByteArray := prog_3_method_7_code
def yX1_fewestMinutes : MethodName := ⟨RX1, "fewestMinutes", "(I)I"⟩
abbrev cX1_greedySet : ByteArray := prog_3_method_8_code
def yX1_greedySet : MethodName := ⟨RX1, "greedySet", "(I)I"⟩
abbrev cX1_greedyStep : ByteArray := prog_3_method_9_code
def yX1_greedyStep : MethodName := ⟨RX1, "greedyStep", "(II)I"⟩
abbrev cX1_bringsMost : ByteArray := prog_3_method_10_code
def yX1_bringsMost : MethodName := ⟨RX1, "bringsMost", "(I)I"⟩
abbrev cX1_leastMissed : ByteArray := prog_3_method_11_code
def yX1_leastMissed : MethodName := ⟨RX1, "leastMissed", "(I)I"⟩
def RX2 : String := "TwentyPhrases$Grammar"
def TX2 : u_T := fun k => match k with
  | _ => ("TwentyPhrases$Grammar", "tape", "LTwentyPhrases$Tape;", true)
def tyX2 : Nat → FieldType := fun k => match k with
  | _ => .object "TwentyPhrases$Tape"
abbrev wsX20 : List Cond := u_ws RX2 TX2 1
theorem nmX2 : ∀ a, a < 1 → ∀ b, b < 1 → a ≠ b → (TX2 a).2.1 ≠ (TX2 b).2.1 := by decide +kernel
theorem tyX2_ok : ∀ k, k < 1 → parseFieldDescriptor (TX2 k).2.2.1 = some (tyX2 k) := by decide +kernel
abbrev cX2_init : ByteArray := prog_4_method_1_code
def yX2_init : MethodName := ⟨RX2, "<init>", "()V"⟩
abbrev cX2_readBook : ByteArray := prog_4_method_2_code
def yX2_readBook : MethodName := ⟨RX2, "readBook", "(LTwentyPhrases$Book;)I"⟩
abbrev cX2_readItem : ByteArray := prog_4_method_3_code
def yX2_readItem : MethodName := ⟨RX2, "readItem", "(LTwentyPhrases$Book;)Z"⟩
abbrev cX2_kindNamed : ByteArray := prog_4_method_4_code
def yX2_kindNamed : MethodName := ⟨RX2, "kindNamed", "()I"⟩
abbrev cX2_readPhrase : ByteArray := prog_4_method_5_code
def yX2_readPhrase : MethodName := ⟨RX2, "readPhrase", "(LTwentyPhrases$Phrases;I)Z"⟩
abbrev cX2_readWant : ByteArray := prog_4_method_6_code
def yX2_readWant : MethodName := ⟨RX2, "readWant", "(LTwentyPhrases$Wants;)Z"⟩
abbrev cX2_readLine : ByteArray := prog_4_method_7_code
def yX2_readLine : MethodName := ⟨RX2, "readLine", "(LTwentyPhrases$Book;)Z"⟩
abbrev cX2_readOrder : ByteArray := prog_4_method_8_code
def yX2_readOrder : MethodName := ⟨RX2, "readOrder", "(LTwentyPhrases$Book;)Z"⟩
abbrev cX2_takeWord : ByteArray := prog_4_method_9_code
def yX2_takeWord : MethodName := ⟨RX2, "takeWord", "(Ljava/lang/String;)Z"⟩
abbrev cX2_takeNumber : ByteArray := prog_4_method_10_code
def yX2_takeNumber : MethodName := ⟨RX2, "takeNumber", "(II)I"⟩
def RX3 : String := "TwentyPhrases$Order"
def TX3 : u_T := fun k => match k with
  | 0 => ("TwentyPhrases$Order", "row", "[I", true)
  | _ => ("TwentyPhrases$Order", "size", "I", false)
def tyX3 : Nat → FieldType := fun k => match k with
  | 0 => .array .int
  | _ => .int
abbrev wsX30 : List Cond := u_ws RX3 TX3 2
theorem nmX3 : ∀ a, a < 2 → ∀ b, b < 2 → a ≠ b → (TX3 a).2.1 ≠ (TX3 b).2.1 := by decide +kernel
theorem tyX3_ok : ∀ k, k < 2 → parseFieldDescriptor (TX3 k).2.2.1 = some (tyX3 k) := by decide +kernel
abbrev cX3_init : ByteArray := prog_5_method_1_code
def yX3_init : MethodName := ⟨RX3, "<init>", "()V"⟩
abbrev cX3_placeOf : ByteArray := prog_5_method_2_code
def yX3_placeOf : MethodName := ⟨RX3, "placeOf", "(I)I"⟩
abbrev cX3_append : ByteArray := prog_5_method_3_code
def yX3_append : MethodName := ⟨RX3, "append", "(I)V"⟩
abbrev cX3_drop : ByteArray := prog_5_method_4_code
def yX3_drop : MethodName := ⟨RX3, "drop", "(I)I"⟩
abbrev cX3_arrangements : ByteArray := prog_5_method_5_code
def yX3_arrangements : MethodName := ⟨RX3, "arrangements", "(I)I"⟩
abbrev cX3_arrange : ByteArray := prog_5_method_6_code
def yX3_arrange : MethodName := ⟨RX3, "arrange", "(II)V"⟩
abbrev cX3_memberOf : ByteArray := prog_5_method_7_code
def yX3_memberOf : MethodName := ⟨RX3, "memberOf", "(II)I"⟩
abbrev cX3_takeFrom : ByteArray := prog_5_method_8_code
def yX3_takeFrom : MethodName := ⟨RX3, "takeFrom", "(LTwentyPhrases$Order;)V"⟩
def RX4 : String := "TwentyPhrases$Outlook"
def TX4 : u_T := fun k => match k with
  | _ => ("TwentyPhrases$Outlook", "trial", "LTwentyPhrases$Book;", true)
def tyX4 : Nat → FieldType := fun k => match k with
  | _ => .object "TwentyPhrases$Book"
abbrev wsX40 : List Cond := u_ws RX4 TX4 1
theorem nmX4 : ∀ a, a < 1 → ∀ b, b < 1 → a ≠ b → (TX4 a).2.1 ≠ (TX4 b).2.1 := by decide +kernel
theorem tyX4_ok : ∀ k, k < 1 → parseFieldDescriptor (TX4 k).2.2.1 = some (tyX4 k) := by decide +kernel
abbrev cX4_init : ByteArray := prog_6_method_1_code
def yX4_init : MethodName := ⟨RX4, "<init>", "()V"⟩
abbrev cX4_lookAhead : ByteArray := prog_6_method_2_code
def yX4_lookAhead : MethodName := ⟨RX4, "lookAhead", "(LTwentyPhrases$Book;I)V"⟩
abbrev cX4_daysTillForgotten : ByteArray := prog_6_method_3_code
def yX4_daysTillForgotten : MethodName := ⟨RX4, "daysTillForgotten", "(LTwentyPhrases$Book;I)I"⟩
abbrev cX4_neverUsed : ByteArray := prog_6_method_4_code
def yX4_neverUsed : MethodName := ⟨RX4, "neverUsed", "(LTwentyPhrases$Book;I)I"⟩
abbrev cX4_worthLearning : ByteArray := prog_6_method_5_code
def yX4_worthLearning : MethodName := ⟨RX4, "worthLearning", "(LTwentyPhrases$Book;I)I"⟩
abbrev cX4_placeOfBestOrder : ByteArray := prog_6_method_6_code
def yX4_placeOfBestOrder : MethodName := ⟨RX4, "placeOfBestOrder", "(LTwentyPhrases$Book;III)I"⟩
abbrev cX4_scoreByOrder : ByteArray := prog_6_method_7_code
def yX4_scoreByOrder : MethodName := ⟨RX4, "scoreByOrder", "(LTwentyPhrases$Book;IIII)I"⟩
abbrev cX4_firstWrong : ByteArray := prog_6_method_8_code
def yX4_firstWrong : MethodName := ⟨RX4, "firstWrong", "(LTwentyPhrases$Book;LTwentyPhrases$Sheets;I)I"⟩
def RX5 : String := "TwentyPhrases$Phrases"
def TX5 : u_T := fun k => match k with
  | 0 => ("TwentyPhrases$Phrases", "kind", "[I", true)
  | 1 => ("TwentyPhrases$Phrases", "topic", "[I", true)
  | 2 => ("TwentyPhrases$Phrases", "minutes", "[I", true)
  | 3 => ("TwentyPhrases$Phrases", "sound", "[I", true)
  | 4 => ("TwentyPhrases$Phrases", "held", "[I", true)
  | 5 => ("TwentyPhrases$Phrases", "used", "[I", true)
  | _ => ("TwentyPhrases$Phrases", "size", "I", false)
def tyX5 : Nat → FieldType := fun k => match k with
  | 0 => .array .int
  | 1 => .array .int
  | 2 => .array .int
  | 3 => .array .int
  | 4 => .array .int
  | 5 => .array .int
  | _ => .int
abbrev wsX50 : List Cond := u_ws RX5 TX5 7
theorem nmX5 : ∀ a, a < 7 → ∀ b, b < 7 → a ≠ b → (TX5 a).2.1 ≠ (TX5 b).2.1 := by decide +kernel
theorem tyX5_ok : ∀ k, k < 7 → parseFieldDescriptor (TX5 k).2.2.1 = some (tyX5 k) := by decide +kernel
abbrev cX5_init : ByteArray := prog_7_method_1_code
def yX5_init : MethodName := ⟨RX5, "<init>", "()V"⟩
abbrev cX5_isFull : ByteArray := prog_7_method_2_code
def yX5_isFull : MethodName := ⟨RX5, "isFull", "()Z"⟩
abbrev cX5_add : ByteArray := prog_7_method_3_code
def yX5_add : MethodName := ⟨RX5, "add", "(IIII)I"⟩
abbrev cX5_row : ByteArray := prog_7_method_4_code
def yX5_row : MethodName := ⟨RX5, "row", "(I)[I"⟩
abbrev cX5_maySet : ByteArray := prog_7_method_5_code
def yX5_maySet : MethodName := ⟨RX5, "maySet", "(II)Z"⟩
abbrev cX5_isUnder : ByteArray := prog_7_method_6_code
def yX5_isUnder : MethodName := ⟨RX5, "isUnder", "(II)Z"⟩
abbrev cX5_hasKind : ByteArray := prog_7_method_7_code
def yX5_hasKind : MethodName := ⟨RX5, "hasKind", "(II)Z"⟩
abbrev cX5_forgets : ByteArray := prog_7_method_8_code
def yX5_forgets : MethodName := ⟨RX5, "forgets", "(I)I"⟩
abbrev cX5_learnFor : ByteArray := prog_7_method_9_code
def yX5_learnFor : MethodName := ⟨RX5, "learnFor", "(II)V"⟩
abbrev cX5_passNight : ByteArray := prog_7_method_10_code
def yX5_passNight : MethodName := ⟨RX5, "passNight", "(I)V"⟩
abbrev cX5_takeFrom : ByteArray := prog_7_method_11_code
def yX5_takeFrom : MethodName := ⟨RX5, "takeFrom", "(LTwentyPhrases$Phrases;)V"⟩
def RX6 : String := "TwentyPhrases$Sheets"
def TX6 : u_T := fun k => match k with
  | 0 => ("TwentyPhrases$Sheets", "bits", "[I", true)
  | 1 => ("TwentyPhrases$Sheets", "size", "[I", true)
  | _ => ("TwentyPhrases$Sheets", "numbers", "[J", true)
def tyX6 : Nat → FieldType := fun k => match k with
  | 0 => .array .int
  | 1 => .array .int
  | _ => .array .long
abbrev wsX60 : List Cond := u_ws RX6 TX6 3
theorem nmX6 : ∀ a, a < 3 → ∀ b, b < 3 → a ≠ b → (TX6 a).2.1 ≠ (TX6 b).2.1 := by decide +kernel
theorem tyX6_ok : ∀ k, k < 3 → parseFieldDescriptor (TX6 k).2.2.1 = some (tyX6 k) := by decide +kernel
abbrev cX6_init : ByteArray := prog_8_method_1_code
def yX6_init : MethodName := ⟨RX6, "<init>", "()V"⟩
abbrev cX6_isSheet : ByteArray := prog_8_method_2_code
def yX6_isSheet : MethodName := ⟨RX6, "isSheet", "(I)Z"⟩
abbrev cX6_isMissing : ByteArray := prog_8_method_3_code
def yX6_isMissing : MethodName := ⟨RX6, "isMissing", "(I)Z"⟩
abbrev cX6_hasNumbers : ByteArray := prog_8_method_4_code
def yX6_hasNumbers : MethodName := ⟨RX6, "hasNumbers", "(III)Z"⟩
abbrev cX6_lay : ByteArray := prog_8_method_5_code
def yX6_lay : MethodName := ⟨RX6, "lay", "(III)I"⟩
abbrev cX6_at : ByteArray := prog_8_method_6_code
def yX6_at : MethodName := ⟨RX6, "at", "(II)J"⟩
abbrev cX6_replace : ByteArray := prog_8_method_7_code
def yX6_replace : MethodName := ⟨RX6, "replace", "(IIJ)J"⟩
abbrev cX6_cut : ByteArray := prog_8_method_8_code
def yX6_cut : MethodName := ⟨RX6, "cut", "(JI)J"⟩
abbrev cX6_move : ByteArray := prog_8_method_9_code
def yX6_move : MethodName := ⟨RX6, "move", "(IIIII)V"⟩
def RX7 : String := "TwentyPhrases$Tape"
def TX7 : u_T := fun k => match k with
  | 0 => ("TwentyPhrases$Tape", "bytes", "[I", true)
  | 1 => ("TwentyPhrases$Tape", "length", "I", false)
  | 2 => ("TwentyPhrases$Tape", "token", "I", false)
  | 3 => ("TwentyPhrases$Tape", "place", "I", false)
  | 4 => ("TwentyPhrases$Tape", "number", "I", false)
  | _ => ("TwentyPhrases$Tape", "behind", "I", false)
def tyX7 : Nat → FieldType := fun k => match k with
  | 0 => .array .int
  | 1 => .int
  | 2 => .int
  | 3 => .int
  | 4 => .int
  | _ => .int
abbrev wsX70 : List Cond := u_ws RX7 TX7 6
theorem nmX7 : ∀ a, a < 6 → ∀ b, b < 6 → a ≠ b → (TX7 a).2.1 ≠ (TX7 b).2.1 := by decide +kernel
theorem tyX7_ok : ∀ k, k < 6 → parseFieldDescriptor (TX7 k).2.2.1 = some (tyX7 k) := by decide +kernel
abbrev cX7_init : ByteArray := prog_9_method_1_code
def yX7_init : MethodName := ⟨RX7, "<init>", "()V"⟩
abbrev cX7_hasRoom : ByteArray := prog_9_method_2_code
def yX7_hasRoom : MethodName := ⟨RX7, "hasRoom", "(I)Z"⟩
abbrev cX7_append : ByteArray := prog_9_method_3_code
def yX7_append : MethodName := ⟨RX7, "append", "(I)V"⟩
abbrev cX7_clear : ByteArray := prog_9_method_4_code
def yX7_clear : MethodName := ⟨RX7, "clear", "()I"⟩
abbrev cX7_begin : ByteArray := prog_9_method_5_code
def yX7_begin : MethodName := ⟨RX7, "begin", "()V"⟩
abbrev cX7_advance : ByteArray := prog_9_method_6_code
def yX7_advance : MethodName := ⟨RX7, "advance", "()V"⟩
abbrev cX7_isLetter : ByteArray := prog_9_method_7_code
def yX7_isLetter : MethodName := ⟨RX7, "isLetter", "(I)Z"⟩
abbrev cX7_isDigit : ByteArray := prog_9_method_8_code
def yX7_isDigit : MethodName := ⟨RX7, "isDigit", "(I)Z"⟩
abbrev cX7_isWord : ByteArray := prog_9_method_9_code
def yX7_isWord : MethodName := ⟨RX7, "isWord", "(Ljava/lang/String;)Z"⟩
def RX8 : String := "TwentyPhrases$Wants"
def TX8 : u_T := fun k => match k with
  | 0 => ("TwentyPhrases$Wants", "topic", "[I", true)
  | 1 => ("TwentyPhrases$Wants", "worth", "[I", true)
  | 2 => ("TwentyPhrases$Wants", "day", "[I", true)
  | 3 => ("TwentyPhrases$Wants", "hurry", "[I", true)
  | 4 => ("TwentyPhrases$Wants", "number", "[I", true)
  | _ => ("TwentyPhrases$Wants", "size", "I", false)
def tyX8 : Nat → FieldType := fun k => match k with
  | 0 => .array .int
  | 1 => .array .int
  | 2 => .array .int
  | 3 => .array .int
  | 4 => .array .int
  | _ => .int
abbrev wsX80 : List Cond := u_ws RX8 TX8 6
theorem nmX8 : ∀ a, a < 6 → ∀ b, b < 6 → a ≠ b → (TX8 a).2.1 ≠ (TX8 b).2.1 := by decide +kernel
theorem tyX8_ok : ∀ k, k < 6 → parseFieldDescriptor (TX8 k).2.2.1 = some (tyX8 k) := by decide +kernel
abbrev cX8_init : ByteArray := prog_10_method_1_code
def yX8_init : MethodName := ⟨RX8, "<init>", "()V"⟩
abbrev cX8_isFull : ByteArray := prog_10_method_2_code
def yX8_isFull : MethodName := ⟨RX8, "isFull", "()Z"⟩
abbrev cX8_add : ByteArray := prog_10_method_3_code
def yX8_add : MethodName := ⟨RX8, "add", "(III)I"⟩
abbrev cX8_row : ByteArray := prog_10_method_4_code
def yX8_row : MethodName := ⟨RX8, "row", "(I)[I"⟩
abbrev cX8_mayChange : ByteArray := prog_10_method_5_code
def yX8_mayChange : MethodName := ⟨RX8, "mayChange", "(II)Z"⟩
abbrev cX8_howManyOn : ByteArray := prog_10_method_6_code
def yX8_howManyOn : MethodName := ⟨RX8, "howManyOn", "(I)I"⟩
abbrev cX8_takeFrom : ByteArray := prog_10_method_7_code
def yX8_takeFrom : MethodName := ⟨RX8, "takeFrom", "(LTwentyPhrases$Wants;)V"⟩
def RX9 : String := "TwentyPhrases"
def TX9 : u_T := fun k => match k with
  | 0 => ("TwentyPhrases", "told", "[I", true)
  | 1 => ("TwentyPhrases", "state", "LTwentyPhrases$Book;", true)
  | 2 => ("TwentyPhrases", "kept", "LTwentyPhrases$Book;", true)
  | 3 => ("TwentyPhrases", "isKept", "Z", false)
  | 4 => ("TwentyPhrases", "choice", "LTwentyPhrases$Choice;", true)
  | 5 => ("TwentyPhrases", "outlook", "LTwentyPhrases$Outlook;", true)
  | 6 => ("TwentyPhrases", "grammar", "LTwentyPhrases$Grammar;", true)
  | _ => ("TwentyPhrases", "sheets", "LTwentyPhrases$Sheets;", true)
def tyX9 : Nat → FieldType := fun k => match k with
  | 0 => .array .int
  | 1 => .object "TwentyPhrases$Book"
  | 2 => .object "TwentyPhrases$Book"
  | 3 => .boolean
  | 4 => .object "TwentyPhrases$Choice"
  | 5 => .object "TwentyPhrases$Outlook"
  | 6 => .object "TwentyPhrases$Grammar"
  | _ => .object "TwentyPhrases$Sheets"
abbrev wsX90 : List Cond := u_ws RX9 TX9 8
theorem nmX9 : ∀ a, a < 8 → ∀ b, b < 8 → a ≠ b → (TX9 a).2.1 ≠ (TX9 b).2.1 := by decide +kernel
theorem tyX9_ok : ∀ k, k < 8 → parseFieldDescriptor (TX9 k).2.2.1 = some (tyX9 k) := by decide +kernel
abbrev cX9_init : ByteArray := prog_1_method_1_code
def yX9_init : MethodName := ⟨RX9, "<init>", "()V"⟩
abbrev cX9_phrase : ByteArray := prog_1_method_2_code
def yX9_phrase : MethodName := ⟨RX9, "phrase", "(IIII)I"⟩
abbrev cX9_of : ByteArray := prog_1_method_3_code
def yX9_of : MethodName := ⟨RX9, "of", "(II)I"⟩
abbrev cX9_set : ByteArray := prog_1_method_4_code
def yX9_set : MethodName := ⟨RX9, "set", "(III)I"⟩
abbrev cX9_turn : ByteArray := prog_1_method_5_code
def yX9_turn : MethodName := ⟨RX9, "turn", "(II)I"⟩
abbrev cX9_as : ByteArray := prog_1_method_6_code
def yX9_as : MethodName := ⟨RX9, "as", "(II)I"⟩
abbrev cX9_want : ByteArray := prog_1_method_7_code
def yX9_want : MethodName := ⟨RX9, "want", "(III)I"⟩
abbrev cX9_wantOf : ByteArray := prog_1_method_8_code
def yX9_wantOf : MethodName := ⟨RX9, "wantOf", "(II)I"⟩
abbrev cX9_change : ByteArray := prog_1_method_9_code
def yX9_change : MethodName := ⟨RX9, "change", "(III)I"⟩
abbrev cX9_gain : ByteArray := prog_1_method_10_code
def yX9_gain : MethodName := ⟨RX9, "gain", "(III)I"⟩
abbrev cX9_met : ByteArray := prog_1_method_11_code
def yX9_met : MethodName := ⟨RX9, "met", "(II)I"⟩
abbrev cX9_value : ByteArray := prog_1_method_12_code
def yX9_value : MethodName := ⟨RX9, "value", "(I)I"⟩
abbrev cX9_by : ByteArray := prog_1_method_13_code
def yX9_by : MethodName := ⟨RX9, "by", "(II)I"⟩
abbrev cX9_best : ByteArray := prog_1_method_14_code
def yX9_best : MethodName := ⟨RX9, "best", "(II)I"⟩
abbrev cX9_greedy : ByteArray := prog_1_method_15_code
def yX9_greedy : MethodName := ⟨RX9, "greedy", "(II)I"⟩
abbrev cX9_next : ByteArray := prog_1_method_16_code
def yX9_next : MethodName := ⟨RX9, "next", "(I)I"⟩
abbrev cX9_spare : ByteArray := prog_1_method_17_code
def yX9_spare : MethodName := ⟨RX9, "spare", "(I)I"⟩
abbrev cX9_minutesFor : ByteArray := prog_1_method_18_code
def yX9_minutesFor : MethodName := ⟨RX9, "minutesFor", "(I)I"⟩
abbrev cX9_queue : ByteArray := prog_1_method_19_code
def yX9_queue : MethodName := ⟨RX9, "queue", "(I)I"⟩
abbrev cX9_skip : ByteArray := prog_1_method_20_code
def yX9_skip : MethodName := ⟨RX9, "skip", "(I)I"⟩
abbrev cX9_ith : ByteArray := prog_1_method_21_code
def yX9_ith : MethodName := ⟨RX9, "ith", "(I)I"⟩
abbrev cX9_learn : ByteArray := prog_1_method_22_code
def yX9_learn : MethodName := ⟨RX9, "learn", "(II)I"⟩
abbrev cX9_evening : ByteArray := prog_1_method_23_code
def yX9_evening : MethodName := ⟨RX9, "evening", "(I)I"⟩
abbrev cX9_line : ByteArray := prog_1_method_24_code
def yX9_line : MethodName := ⟨RX9, "line", "(I)I"⟩
abbrev cX9_known : ByteArray := prog_1_method_25_code
def yX9_known : MethodName := ⟨RX9, "known", "()I"⟩
abbrev cX9_days : ByteArray := prog_1_method_26_code
def yX9_days : MethodName := ⟨RX9, "days", "(I)I"⟩
abbrev cX9_now : ByteArray := prog_1_method_27_code
def yX9_now : MethodName := ⟨RX9, "now", "(I)I"⟩
abbrev cX9_on : ByteArray := prog_1_method_28_code
def yX9_on : MethodName := ⟨RX9, "on", "(II)I"⟩
abbrev cX9_forgot : ByteArray := prog_1_method_29_code
def yX9_forgot : MethodName := ⟨RX9, "forgot", "(I)I"⟩
abbrev cX9_useless : ByteArray := prog_1_method_30_code
def yX9_useless : MethodName := ⟨RX9, "useless", "(I)I"⟩
abbrev cX9_tonight : ByteArray := prog_1_method_31_code
def yX9_tonight : MethodName := ⟨RX9, "tonight", "(I)I"⟩
abbrev cX9_plan : ByteArray := prog_1_method_32_code
def yX9_plan : MethodName := ⟨RX9, "plan", "(IIII)I"⟩
abbrev cX9_feed : ByteArray := prog_1_method_33_code
def yX9_feed : MethodName := ⟨RX9, "feed", "(II)I"⟩
abbrev cX9_wipe : ByteArray := prog_1_method_34_code
def yX9_wipe : MethodName := ⟨RX9, "wipe", "()I"⟩
abbrev cX9_book : ByteArray := prog_1_method_35_code
def yX9_book : MethodName := ⟨RX9, "book", "()I"⟩
abbrev cX9_sheet : ByteArray := prog_1_method_36_code
def yX9_sheet : MethodName := ⟨RX9, "sheet", "(III)I"⟩
abbrev cX9_write : ByteArray := prog_1_method_37_code
def yX9_write : MethodName := ⟨RX9, "write", "(IIJ)J"⟩
abbrev cX9_copy : ByteArray := prog_1_method_38_code
def yX9_copy : MethodName := ⟨RX9, "copy", "(IIIII)I"⟩
abbrev cX9_lays : ByteArray := prog_1_method_39_code
def yX9_lays : MethodName := ⟨RX9, "lays", "(I)I"⟩
abbrev cX9_read : ByteArray := prog_1_method_40_code
def yX9_read : MethodName := ⟨RX9, "read", "(I)I"⟩
abbrev cX9_image : ByteArray := prog_1_method_41_code
def yX9_image : MethodName := ⟨RX9, "image", "()I"⟩
abbrev cX9_undo : ByteArray := prog_1_method_42_code
def yX9_undo : MethodName := ⟨RX9, "undo", "()I"⟩
abbrev cX9_tear : ByteArray := prog_1_method_43_code
def yX9_tear : MethodName := ⟨RX9, "tear", "()I"⟩
abbrev cX9_count : ByteArray := prog_1_method_44_code
def yX9_count : MethodName := ⟨RX9, "count", "(I)I"⟩
abbrev cX9_status : ByteArray := prog_1_method_45_code
def yX9_status : MethodName := ⟨RX9, "status", "(I)I"⟩
abbrev cX9_tell : ByteArray := prog_1_method_46_code
def yX9_tell : MethodName := ⟨RX9, "tell", "(I)I"⟩
abbrev cX9_orNone : ByteArray := prog_1_method_47_code
def yX9_orNone : MethodName := ⟨RX9, "orNone", "(I)I"⟩
abbrev cX9_isPhrase : ByteArray := prog_1_method_48_code
def yX9_isPhrase : MethodName := ⟨RX9, "isPhrase", "(I)Z"⟩
abbrev cX9_isWant : ByteArray := prog_1_method_49_code
def yX9_isWant : MethodName := ⟨RX9, "isWant", "(I)Z"⟩
abbrev cX9_isSet : ByteArray := prog_1_method_50_code
def yX9_isSet : MethodName := ⟨RX9, "isSet", "(I)Z"⟩
abbrev cX9_mayGo : ByteArray := prog_1_method_51_code
def yX9_mayGo : MethodName := ⟨RX9, "mayGo", "(I)Z"⟩
abbrev cX9_within : ByteArray := prog_1_method_52_code
def yX9_within : MethodName := ⟨RX9, "within", "(III)Z"⟩
abbrev cX9_isIn : ByteArray := prog_1_method_53_code
def yX9_isIn : MethodName := ⟨RX9, "isIn", "(II)Z"⟩
abbrev cX9_metFrom : ByteArray := prog_1_method_54_code
def yX9_metFrom : MethodName := ⟨RX9, "metFrom", "(IIZ)I"⟩
abbrev cX9_exchange : ByteArray := prog_1_method_55_code
def yX9_exchange : MethodName := ⟨RX9, "exchange", "([III)I"⟩
abbrev cX9_sum : ByteArray := prog_1_method_56_code
def yX9_sum : MethodName := ⟨RX9, "sum", "([II)I"⟩
def RX10 : String := "TwentyPhrasesModel"
def TX10 : u_T := fun k => match k with
  | 0 => ("TwentyPhrasesModel", "s", "[I", true)
  | 1 => ("TwentyPhrasesModel", "keptS", "[I", true)
  | 2 => ("TwentyPhrasesModel", "other", "[I", true)
  | 3 => ("TwentyPhrasesModel", "statuses", "[I", true)
  | 4 => ("TwentyPhrasesModel", "isKept", "Z", false)
  | 5 => ("TwentyPhrasesModel", "bestSet", "I", false)
  | 6 => ("TwentyPhrasesModel", "bestValue", "I", false)
  | 7 => ("TwentyPhrasesModel", "bestMinutes", "I", false)
  | 8 => ("TwentyPhrasesModel", "row", "[I", true)
  | 9 => ("TwentyPhrasesModel", "bestRow", "[I", true)
  | 10 => ("TwentyPhrasesModel", "bestScore", "I", false)
  | 11 => ("TwentyPhrasesModel", "tape", "[I", true)
  | 12 => ("TwentyPhrasesModel", "taped", "I", false)
  | 13 => ("TwentyPhrasesModel", "from", "I", false)
  | 14 => ("TwentyPhrasesModel", "to", "I", false)
  | 15 => ("TwentyPhrasesModel", "value", "I", false)
  | 16 => ("TwentyPhrasesModel", "isWrong", "Z", false)
  | 17 => ("TwentyPhrasesModel", "bitsOf", "[I", true)
  | 18 => ("TwentyPhrasesModel", "sizeOf", "[I", true)
  | 19 => ("TwentyPhrasesModel", "number", "[J", true)
  | _ => ("TwentyPhrasesModel", "moved", "[J", true)
def tyX10 : Nat → FieldType := fun k => match k with
  | 0 => .array .int
  | 1 => .array .int
  | 2 => .array .int
  | 3 => .array .int
  | 4 => .boolean
  | 5 => .int
  | 6 => .int
  | 7 => .int
  | 8 => .array .int
  | 9 => .array .int
  | 10 => .int
  | 11 => .array .int
  | 12 => .int
  | 13 => .int
  | 14 => .int
  | 15 => .int
  | 16 => .boolean
  | 17 => .array .int
  | 18 => .array .int
  | 19 => .array .long
  | _ => .array .long
abbrev wsX100 : List Cond := u_ws RX10 TX10 21
theorem nmX10 : ∀ a, a < 21 → ∀ b, b < 21 → a ≠ b → (TX10 a).2.1 ≠ (TX10 b).2.1 := by decide +kernel
theorem tyX10_ok : ∀ k, k < 21 → parseFieldDescriptor (TX10 k).2.2.1 = some (tyX10 k) := by decide +kernel
abbrev cX10_init : ByteArray := prog_12_method_1_code
def yX10_init : MethodName := ⟨RX10, "<init>", "()V"⟩
abbrev cX10_in : ByteArray := prog_12_method_2_code
def yX10_in : MethodName := ⟨RX10, "in", "(JJJ)Z"⟩
abbrev cX10_finds : ByteArray := prog_12_method_3_code
def yX10_finds : MethodName := ⟨RX10, "finds", "(I)I"⟩
abbrev cX10_has : ByteArray := prog_12_method_4_code
def yX10_has : MethodName := ⟨RX10, "has", "(II)Z"⟩
abbrev cX10_ones : ByteArray := prog_12_method_5_code
def yX10_ones : MethodName := ⟨RX10, "ones", "(I)I"⟩
abbrev cX10_isPhrase : ByteArray := prog_12_method_6_code
def yX10_isPhrase : MethodName := ⟨RX10, "isPhrase", "(I)Z"⟩
abbrev cX10_isWant : ByteArray := prog_12_method_7_code
def yX10_isWant : MethodName := ⟨RX10, "isWant", "(I)Z"⟩
abbrev cX10_isSet : ByteArray := prog_12_method_8_code
def yX10_isSet : MethodName := ⟨RX10, "isSet", "(I)Z"⟩
abbrev cX10_at : ByteArray := prog_12_method_9_code
def yX10_at : MethodName := ⟨RX10, "at", "(II)I"⟩
abbrev cX10_its : ByteArray := prog_12_method_10_code
def yX10_its : MethodName := ⟨RX10, "its", "(II)I"⟩
abbrev cX10_wants : ByteArray := prog_12_method_11_code
def yX10_wants : MethodName := ⟨RX10, "wants", "(II)I"⟩
abbrev cX10_puts : ByteArray := prog_12_method_12_code
def yX10_puts : MethodName := ⟨RX10, "puts", "()V"⟩
abbrev cX10_putsBack : ByteArray := prog_12_method_13_code
def yX10_putsBack : MethodName := ⟨RX10, "putsBack", "()V"⟩
abbrev cX10_isPart : ByteArray := prog_12_method_14_code
def yX10_isPart : MethodName := ⟨RX10, "isPart", "(II)Z"⟩
abbrev cX10_newPhrase : ByteArray := prog_12_method_15_code
def yX10_newPhrase : MethodName := ⟨RX10, "newPhrase", "(IIII)I"⟩
abbrev cX10_phrase : ByteArray := prog_12_method_16_code
def yX10_phrase : MethodName := ⟨RX10, "phrase", "(IIII)I"⟩
abbrev cX10_isKnown : ByteArray := prog_12_method_17_code
def yX10_isKnown : MethodName := ⟨RX10, "isKnown", "(I)Z"⟩
abbrev cX10_forgets : ByteArray := prog_12_method_18_code
def yX10_forgets : MethodName := ⟨RX10, "forgets", "(I)I"⟩
abbrev cX10_of : ByteArray := prog_12_method_19_code
def yX10_of : MethodName := ⟨RX10, "of", "(II)I"⟩
abbrev cX10_set : ByteArray := prog_12_method_20_code
def yX10_set : MethodName := ⟨RX10, "set", "(III)I"⟩
abbrev cX10_turn : ByteArray := prog_12_method_21_code
def yX10_turn : MethodName := ⟨RX10, "turn", "(II)I"⟩
abbrev cX10_as : ByteArray := prog_12_method_22_code
def yX10_as : MethodName := ⟨RX10, "as", "(II)I"⟩
abbrev cX10_newWant : ByteArray := prog_12_method_23_code
def yX10_newWant : MethodName := ⟨RX10, "newWant", "(III)I"⟩
abbrev cX10_want : ByteArray := prog_12_method_24_code
def yX10_want : MethodName := ⟨RX10, "want", "(III)I"⟩
abbrev cX10_wantOf : ByteArray := prog_12_method_25_code
def yX10_wantOf : MethodName := ⟨RX10, "wantOf", "(II)I"⟩
abbrev cX10_change : ByteArray := prog_12_method_26_code
def yX10_change : MethodName := ⟨RX10, "change", "(III)I"⟩
abbrev cX10_hasRope : ByteArray := prog_12_method_27_code
def yX10_hasRope : MethodName := ⟨RX10, "hasRope", "(I)Z"⟩
abbrev cX10_hasMending : ByteArray := prog_12_method_28_code
def yX10_hasMending : MethodName := ⟨RX10, "hasMending", "(I)Z"⟩
abbrev cX10_gainOf : ByteArray := prog_12_method_29_code
def yX10_gainOf : MethodName := ⟨RX10, "gainOf", "(IIZ)I"⟩
abbrev cX10_gain : ByteArray := prog_12_method_30_code
def yX10_gain : MethodName := ⟨RX10, "gain", "(III)I"⟩
abbrev cX10_metOf : ByteArray := prog_12_method_31_code
def yX10_metOf : MethodName := ⟨RX10, "metOf", "(IIZZ)I"⟩
abbrev cX10_met : ByteArray := prog_12_method_32_code
def yX10_met : MethodName := ⟨RX10, "met", "(II)I"⟩
abbrev cX10_valueOf : ByteArray := prog_12_method_33_code
def yX10_valueOf : MethodName := ⟨RX10, "valueOf", "(I)I"⟩
abbrev cX10_value : ByteArray := prog_12_method_34_code
def yX10_value : MethodName := ⟨RX10, "value", "(I)I"⟩
abbrev cX10_byOf : ByteArray := prog_12_method_35_code
def yX10_byOf : MethodName := ⟨RX10, "byOf", "(II)I"⟩
abbrev cX10_by : ByteArray := prog_12_method_36_code
def yX10_by : MethodName := ⟨RX10, "by", "(II)I"⟩
abbrev cX10_minutesOf : ByteArray := prog_12_method_37_code
def yX10_minutesOf : MethodName := ⟨RX10, "minutesOf", "(I)I"⟩
abbrev cX10_findBest : ByteArray := prog_12_method_38_code
def yX10_findBest : MethodName := ⟨RX10, "findBest", "(I)V"⟩
abbrev cX10_best : ByteArray := prog_12_method_39_code
def yX10_best : MethodName := ⟨RX10, "best", "(II)I"⟩
abbrev cX10_most : ByteArray := prog_12_method_40_code
def yX10_most : MethodName := ⟨RX10, "most", "(IIZ)I"⟩
abbrev cX10_greedy : ByteArray := prog_12_method_41_code
def yX10_greedy : MethodName := ⟨RX10, "greedy", "(II)I"⟩
abbrev cX10_next : ByteArray := prog_12_method_42_code
def yX10_next : MethodName := ⟨RX10, "next", "(I)I"⟩
abbrev cX10_spare : ByteArray := prog_12_method_43_code
def yX10_spare : MethodName := ⟨RX10, "spare", "(I)I"⟩
abbrev cX10_minutesFor : ByteArray := prog_12_method_44_code
def yX10_minutesFor : MethodName := ⟨RX10, "minutesFor", "(I)I"⟩
abbrev cX10_placeOf : ByteArray := prog_12_method_45_code
def yX10_placeOf : MethodName := ⟨RX10, "placeOf", "(I)I"⟩
abbrev cX10_leaves : ByteArray := prog_12_method_46_code
def yX10_leaves : MethodName := ⟨RX10, "leaves", "(I)V"⟩
abbrev cX10_queue : ByteArray := prog_12_method_47_code
def yX10_queue : MethodName := ⟨RX10, "queue", "(I)I"⟩
abbrev cX10_skip : ByteArray := prog_12_method_48_code
def yX10_skip : MethodName := ⟨RX10, "skip", "(I)I"⟩
abbrev cX10_ith : ByteArray := prog_12_method_49_code
def yX10_ith : MethodName := ⟨RX10, "ith", "(I)I"⟩
abbrev cX10_learns : ByteArray := prog_12_method_50_code
def yX10_learns : MethodName := ⟨RX10, "learns", "(II)V"⟩
abbrev cX10_learn : ByteArray := prog_12_method_51_code
def yX10_learn : MethodName := ⟨RX10, "learn", "(II)I"⟩
abbrev cX10_eveningOf : ByteArray := prog_12_method_52_code
def yX10_eveningOf : MethodName := ⟨RX10, "eveningOf", "(I)I"⟩
abbrev cX10_evening : ByteArray := prog_12_method_53_code
def yX10_evening : MethodName := ⟨RX10, "evening", "(I)I"⟩
abbrev cX10_line : ByteArray := prog_12_method_54_code
def yX10_line : MethodName := ⟨RX10, "line", "(I)I"⟩
abbrev cX10_knownSet : ByteArray := prog_12_method_55_code
def yX10_knownSet : MethodName := ⟨RX10, "knownSet", "()I"⟩
abbrev cX10_known : ByteArray := prog_12_method_56_code
def yX10_known : MethodName := ⟨RX10, "known", "()I"⟩
abbrev cX10_day : ByteArray := prog_12_method_57_code
def yX10_day : MethodName := ⟨RX10, "day", "()I"⟩
abbrev cX10_daysGo : ByteArray := prog_12_method_58_code
def yX10_daysGo : MethodName := ⟨RX10, "daysGo", "(I)I"⟩
abbrev cX10_isTooLate : ByteArray := prog_12_method_59_code
def yX10_isTooLate : MethodName := ⟨RX10, "isTooLate", "(I)Z"⟩
abbrev cX10_days : ByteArray := prog_12_method_60_code
def yX10_days : MethodName := ⟨RX10, "days", "(I)I"⟩
abbrev cX10_now : ByteArray := prog_12_method_61_code
def yX10_now : MethodName := ⟨RX10, "now", "(I)I"⟩
abbrev cX10_sumOf : ByteArray := prog_12_method_62_code
def yX10_sumOf : MethodName := ⟨RX10, "sumOf", "(I)I"⟩
abbrev cX10_on : ByteArray := prog_12_method_63_code
def yX10_on : MethodName := ⟨RX10, "on", "(II)I"⟩
abbrev cX10_forgot : ByteArray := prog_12_method_64_code
def yX10_forgot : MethodName := ⟨RX10, "forgot", "(I)I"⟩
abbrev cX10_useless : ByteArray := prog_12_method_65_code
def yX10_useless : MethodName := ⟨RX10, "useless", "(I)I"⟩
abbrev cX10_scoreOn : ByteArray := prog_12_method_66_code
def yX10_scoreOn : MethodName := ⟨RX10, "scoreOn", "(I)I"⟩
abbrev cX10_tonight : ByteArray := prog_12_method_67_code
def yX10_tonight : MethodName := ⟨RX10, "tonight", "(I)I"⟩
abbrev cX10_goesOn : ByteArray := prog_12_method_68_code
def yX10_goesOn : MethodName := ⟨RX10, "goesOn", "(I)Z"⟩
abbrev cX10_swaps : ByteArray := prog_12_method_69_code
def yX10_swaps : MethodName := ⟨RX10, "swaps", "(II)V"⟩
abbrev cX10_triesRow : ByteArray := prog_12_method_70_code
def yX10_triesRow : MethodName := ⟨RX10, "triesRow", "(IIIZ)V"⟩
abbrev cX10_plan : ByteArray := prog_12_method_71_code
def yX10_plan : MethodName := ⟨RX10, "plan", "(IIII)I"⟩
abbrev cX10_feed : ByteArray := prog_12_method_72_code
def yX10_feed : MethodName := ⟨RX10, "feed", "(II)I"⟩
abbrev cX10_wipe : ByteArray := prog_12_method_73_code
def yX10_wipe : MethodName := ⟨RX10, "wipe", "()I"⟩
abbrev cX10_byteAt : ByteArray := prog_12_method_74_code
def yX10_byteAt : MethodName := ⟨RX10, "byteAt", "(I)I"⟩
abbrev cX10_isLetter : ByteArray := prog_12_method_75_code
def yX10_isLetter : MethodName := ⟨RX10, "isLetter", "(I)Z"⟩
abbrev cX10_isDigit : ByteArray := prog_12_method_76_code
def yX10_isDigit : MethodName := ⟨RX10, "isDigit", "(I)Z"⟩
abbrev cX10_token : ByteArray := prog_12_method_77_code
def yX10_token : MethodName := ⟨RX10, "token", "()V"⟩
abbrev cX10_needs : ByteArray := prog_12_method_78_code
def yX10_needs : MethodName := ⟨RX10, "needs", "(Z)V"⟩
abbrev cX10_word : ByteArray := prog_12_method_79_code
def yX10_word : MethodName := ⟨RX10, "word", "()J"⟩
abbrev cX10_number : ByteArray := prog_12_method_80_code
def yX10_number : MethodName := ⟨RX10, "number", "(II)V"⟩
abbrev cX10_kindHere : ByteArray := prog_12_method_81_code
def yX10_kindHere : MethodName := ⟨RX10, "kindHere", "()I"⟩
abbrev cX10_perhaps : ByteArray := prog_12_method_82_code
def yX10_perhaps : MethodName := ⟨RX10, "perhaps", "(ZIII)I"⟩
abbrev cX10_phraseItem : ByteArray := prog_12_method_83_code
def yX10_phraseItem : MethodName := ⟨RX10, "phraseItem", "(I)V"⟩
abbrev cX10_wantItem : ByteArray := prog_12_method_84_code
def yX10_wantItem : MethodName := ⟨RX10, "wantItem", "()V"⟩
abbrev cX10_orderOne : ByteArray := prog_12_method_85_code
def yX10_orderOne : MethodName := ⟨RX10, "orderOne", "()V"⟩
abbrev cX10_orderItem : ByteArray := prog_12_method_86_code
def yX10_orderItem : MethodName := ⟨RX10, "orderItem", "()V"⟩
abbrev cX10_item : ByteArray := prog_12_method_87_code
def yX10_item : MethodName := ⟨RX10, "item", "()V"⟩
abbrev cX10_book : ByteArray := prog_12_method_88_code
def yX10_book : MethodName := ⟨RX10, "book", "()I"⟩
abbrev cX10_isOne : ByteArray := prog_12_method_89_code
def yX10_isOne : MethodName := ⟨RX10, "isOne", "(I)Z"⟩
abbrev cX10_sheet : ByteArray := prog_12_method_90_code
def yX10_sheet : MethodName := ⟨RX10, "sheet", "(III)I"⟩
abbrev cX10_narrowed : ByteArray := prog_12_method_91_code
def yX10_narrowed : MethodName := ⟨RX10, "narrowed", "(IJ)J"⟩
abbrev cX10_wrong : ByteArray := prog_12_method_92_code
def yX10_wrong : MethodName := ⟨RX10, "wrong", "(I)I"⟩
abbrev cX10_write : ByteArray := prog_12_method_93_code
def yX10_write : MethodName := ⟨RX10, "write", "(IIJ)J"⟩
abbrev cX10_copy : ByteArray := prog_12_method_94_code
def yX10_copy : MethodName := ⟨RX10, "copy", "(IIIII)I"⟩
abbrev cX10_lays : ByteArray := prog_12_method_95_code
def yX10_lays : MethodName := ⟨RX10, "lays", "(I)I"⟩
abbrev cX10_read : ByteArray := prog_12_method_96_code
def yX10_read : MethodName := ⟨RX10, "read", "(I)I"⟩
abbrev cX10_image : ByteArray := prog_12_method_97_code
def yX10_image : MethodName := ⟨RX10, "image", "()I"⟩
abbrev cX10_undo : ByteArray := prog_12_method_98_code
def yX10_undo : MethodName := ⟨RX10, "undo", "()I"⟩
abbrev cX10_tear : ByteArray := prog_12_method_99_code
def yX10_tear : MethodName := ⟨RX10, "tear", "()I"⟩
abbrev cX10_count : ByteArray := prog_12_method_100_code
def yX10_count : MethodName := ⟨RX10, "count", "(I)I"⟩
abbrev cX10_status : ByteArray := prog_12_method_101_code
def yX10_status : MethodName := ⟨RX10, "status", "(I)I"⟩
def RJ6 : String := "java/lang/Integer"
abbrev cJ6_numberOfTrailingZeros_0f7a4 : ByteArray := prog_13_method_48_code
def yJ6_numberOfTrailingZeros_0f7a4 : MethodName := ⟨RJ6, "numberOfTrailingZeros", "(I)I"⟩
abbrev cJ6_bitCount_0f7a4 : ByteArray := prog_13_method_49_code
def yJ6_bitCount_0f7a4 : MethodName := ⟨RJ6, "bitCount", "(I)I"⟩
def RJ9 : String := "java/lang/Math"
abbrev cJ9_max_7cf53 : ByteArray := prog_14_method_65_code
def yJ9_max_7cf53 : MethodName := ⟨RJ9, "max", "(II)I"⟩
abbrev cJ9_min_7cf53 : ByteArray := prog_14_method_69_code
def yJ9_min_7cf53 : MethodName := ⟨RJ9, "min", "(II)I"⟩
def RJ0 : String := "java/lang/String"
abbrev cJ0_length_8abf5 : ByteArray := prog_15_method_54_code
def yJ0_length_8abf5 : MethodName := ⟨RJ0, "length", "()I"⟩
abbrev cJ0_charAt_5068e : ByteArray := prog_15_method_56_code
def yJ0_charAt_5068e : MethodName := ⟨RJ0, "charAt", "(I)C"⟩
abbrev cJ0_coder_7d493 : ByteArray := prog_15_method_152_code
def yJ0_coder_7d493 : MethodName := ⟨RJ0, "coder", "()B"⟩
abbrev cJ0_isLatin1_aae02 : ByteArray := prog_15_method_154_code
def yJ0_isLatin1_aae02 : MethodName := ⟨RJ0, "isLatin1", "()Z"⟩
abbrev cJ0_checkIndex_df160 : ByteArray := prog_15_method_155_code
def yJ0_checkIndex_df160 : MethodName := ⟨RJ0, "checkIndex", "(II)V"⟩
def RJ1 : String := "java/lang/StringLatin1"
abbrev cJ1_charAt_3b067 : ByteArray := prog_16_method_2_code
def yJ1_charAt_3b067 : MethodName := ⟨RJ1, "charAt", "([BI)C"⟩
def RJ2 : String := "java/lang/StringUTF16"
abbrev cJ2_getChar_3b067 : ByteArray := prog_17_method_5_code
def yJ2_getChar_3b067 : MethodName := ⟨RJ2, "getChar", "([BI)C"⟩
abbrev cJ2_length_9d52b : ByteArray := prog_17_method_6_code
def yJ2_length_9d52b : MethodName := ⟨RJ2, "length", "([B)I"⟩
abbrev cJ2_charAt_3b067 : ByteArray := prog_17_method_83_code
def yJ2_charAt_3b067 : MethodName := ⟨RJ2, "charAt", "([BI)C"⟩
abbrev cJ2_checkIndex_2214a : ByteArray := prog_17_method_91_code
def yJ2_checkIndex_2214a : MethodName := ⟨RJ2, "checkIndex", "(I[B)V"⟩
def RJ10 : String := "java/lang/System"
def RJ3 : String := "jdk/internal/util/Preconditions"
abbrev cJ3_checkIndex_8e157 : ByteArray := prog_19_method_11_code
def yJ3_checkIndex_8e157 : MethodName := ⟨RJ3, "checkIndex", "(IILjava/util/function/BiFunction;)I"⟩
def RL : String := "TwentyPhrasesLaw"
abbrev cL_law : ByteArray := code
def yL_law : MethodName := ⟨RL, "law", "([I)Z"⟩
abbrev vwCl : List vw_C := [(RX0, TX0, 6), (RX1, TX1, 9), (RX2, TX2, 1), (RX3, TX3, 2), (RX4, TX4, 1), (RX5, TX5, 7), (RX6, TX6, 3), (RX7, TX7, 6), (RX8, TX8, 6), (RX9, TX9, 8), (RX10, TX10, 21)]
end
section
-- decode rows, printed (claim/NAMES.whole)
theorem dX0_init_0 : decode cX0_init 0 = .ok (.aload_n 0, 1) := by decide +kernel
theorem dX0_init_1 : decode cX0_init 1 = .ok (.invokespecial 3, 3) := by decide +kernel
theorem dX0_init_4 : decode cX0_init 4 = .ok (.aload_n 0, 1) := by decide +kernel
theorem dX0_init_5 : decode cX0_init 5 = .ok (.new 9, 3) := by decide +kernel
theorem dX0_init_8 : decode cX0_init 8 = .ok (.dup, 1) := by decide +kernel
theorem dX0_init_9 : decode cX0_init 9 = .ok (.invokespecial 11, 3) := by decide +kernel
theorem dX0_init_12 : decode cX0_init 12 = .ok (.putfield 12, 3) := by decide +kernel
theorem dX0_init_15 : decode cX0_init 15 = .ok (.aload_n 0, 1) := by decide +kernel
theorem dX0_init_16 : decode cX0_init 16 = .ok (.new 18, 3) := by decide +kernel
theorem dX0_init_19 : decode cX0_init 19 = .ok (.dup, 1) := by decide +kernel
theorem dX0_init_20 : decode cX0_init 20 = .ok (.invokespecial 20, 3) := by decide +kernel
theorem dX0_init_23 : decode cX0_init 23 = .ok (.putfield 21, 3) := by decide +kernel
theorem dX0_init_26 : decode cX0_init 26 = .ok (.aload_n 0, 1) := by decide +kernel
theorem dX0_init_27 : decode cX0_init 27 = .ok (.new 25, 3) := by decide +kernel
theorem dX0_init_30 : decode cX0_init 30 = .ok (.dup, 1) := by decide +kernel
theorem dX0_init_31 : decode cX0_init 31 = .ok (.invokespecial 27, 3) := by decide +kernel
theorem dX0_init_34 : decode cX0_init 34 = .ok (.putfield 28, 3) := by decide +kernel
theorem dX0_init_37 : decode cX0_init 37 = .ok (.aload_n 0, 1) := by decide +kernel
theorem dX0_init_38 : decode cX0_init 38 = .ok (.bipush 60, 2) := by decide +kernel
theorem dX0_init_40 : decode cX0_init 40 = .ok (.putfield 32, 3) := by decide +kernel
theorem dX0_init_43 : decode cX0_init 43 = .ok (.aload_n 0, 1) := by decide +kernel
theorem dX0_init_44 : decode cX0_init 44 = .ok (.iconst 0, 1) := by decide +kernel
theorem dX0_init_45 : decode cX0_init 45 = .ok (.putfield 36, 3) := by decide +kernel
theorem dX0_init_48 : decode cX0_init 48 = .ok (.aload_n 0, 1) := by decide +kernel
theorem dX0_init_49 : decode cX0_init 49 = .ok (.iconst 0, 1) := by decide +kernel
theorem dX0_init_50 : decode cX0_init 50 = .ok (.putfield 39, 3) := by decide +kernel
theorem dX0_init_53 : decode cX0_init 53 = .ok (.return_, 1) := by decide +kernel
theorem dX0_gainOf_0 : decode cX0_gainOf 0 = .ok (.aload_n 0, 1) := by decide +kernel
theorem dX0_gainOf_1 : decode cX0_gainOf 1 = .ok (.getfield 21, 3) := by decide +kernel
theorem dX0_gainOf_4 : decode cX0_gainOf 4 = .ok (.getfield 42, 3) := by decide +kernel
theorem dX0_gainOf_7 : decode cX0_gainOf 7 = .ok (.iload_n 2, 1) := by decide +kernel
theorem dX0_gainOf_8 : decode cX0_gainOf 8 = .ok (.iaload, 1) := by decide +kernel
theorem dX0_gainOf_9 : decode cX0_gainOf 9 = .ok (.istore 4, 2) := by decide +kernel
theorem dX0_gainOf_11 : decode cX0_gainOf 11 = .ok (.aload_n 0, 1) := by decide +kernel
theorem dX0_gainOf_12 : decode cX0_gainOf 12 = .ok (.getfield 12, 3) := by decide +kernel
theorem dX0_gainOf_15 : decode cX0_gainOf 15 = .ok (.getfield 46, 3) := by decide +kernel
theorem dX0_gainOf_18 : decode cX0_gainOf 18 = .ok (.iload_n 1, 1) := by decide +kernel
theorem dX0_gainOf_19 : decode cX0_gainOf 19 = .ok (.iaload, 1) := by decide +kernel
theorem dX0_gainOf_20 : decode cX0_gainOf 20 = .ok (.aload_n 0, 1) := by decide +kernel
theorem dX0_gainOf_21 : decode cX0_gainOf 21 = .ok (.getfield 21, 3) := by decide +kernel
theorem dX0_gainOf_24 : decode cX0_gainOf 24 = .ok (.getfield 49, 3) := by decide +kernel
theorem dX0_gainOf_27 : decode cX0_gainOf 27 = .ok (.iload_n 2, 1) := by decide +kernel
theorem dX0_gainOf_28 : decode cX0_gainOf 28 = .ok (.iaload, 1) := by decide +kernel
theorem dX0_gainOf_29 : decode cX0_gainOf 29 = .ok (.if_icmp .ne 7, 3) := by decide +kernel
theorem dX0_gainOf_32 : decode cX0_gainOf 32 = .ok (.iconst 1, 1) := by decide +kernel
theorem dX0_gainOf_33 : decode cX0_gainOf 33 = .ok (.goto 4, 3) := by decide +kernel
theorem dX0_gainOf_36 : decode cX0_gainOf 36 = .ok (.iconst 0, 1) := by decide +kernel
theorem dX0_gainOf_37 : decode cX0_gainOf 37 = .ok (.istore 5, 2) := by decide +kernel
theorem dX0_gainOf_39 : decode cX0_gainOf 39 = .ok (.iload 5, 2) := by decide +kernel
theorem dX0_gainOf_41 : decode cX0_gainOf 41 = .ok (.ifCond .eq 21, 3) := by decide +kernel
theorem dX0_gainOf_44 : decode cX0_gainOf 44 = .ok (.iload 4, 2) := by decide +kernel
theorem dX0_gainOf_46 : decode cX0_gainOf 46 = .ok (.aload_n 0, 1) := by decide +kernel
theorem dX0_gainOf_47 : decode cX0_gainOf 47 = .ok (.getfield 12, 3) := by decide +kernel
theorem dX0_gainOf_50 : decode cX0_gainOf 50 = .ok (.getfield 50, 3) := by decide +kernel
theorem dX0_gainOf_53 : decode cX0_gainOf 53 = .ok (.iload_n 1, 1) := by decide +kernel
theorem dX0_gainOf_54 : decode cX0_gainOf 54 = .ok (.iaload, 1) := by decide +kernel
theorem dX0_gainOf_55 : decode cX0_gainOf 55 = .ok (.imul, 1) := by decide +kernel
theorem dX0_gainOf_56 : decode cX0_gainOf 56 = .ok (.bipush 10, 2) := by decide +kernel
theorem dX0_gainOf_58 : decode cX0_gainOf 58 = .ok (.idiv, 1) := by decide +kernel
theorem dX0_gainOf_59 : decode cX0_gainOf 59 = .ok (.goto 4, 3) := by decide +kernel
theorem dX0_gainOf_62 : decode cX0_gainOf 62 = .ok (.iconst 0, 1) := by decide +kernel
theorem dX0_gainOf_63 : decode cX0_gainOf 63 = .ok (.istore 6, 2) := by decide +kernel
theorem dX0_gainOf_65 : decode cX0_gainOf 65 = .ok (.iload_n 3, 1) := by decide +kernel
theorem dX0_gainOf_66 : decode cX0_gainOf 66 = .ok (.ifCond .eq 8, 3) := by decide +kernel
theorem dX0_gainOf_69 : decode cX0_gainOf 69 = .ok (.iload 6, 2) := by decide +kernel
theorem dX0_gainOf_71 : decode cX0_gainOf 71 = .ok (.goto 7, 3) := by decide +kernel
theorem dX0_gainOf_74 : decode cX0_gainOf 74 = .ok (.iload 6, 2) := by decide +kernel
theorem dX0_gainOf_76 : decode cX0_gainOf 76 = .ok (.iconst 2, 1) := by decide +kernel
theorem dX0_gainOf_77 : decode cX0_gainOf 77 = .ok (.idiv, 1) := by decide +kernel
theorem dX0_gainOf_78 : decode cX0_gainOf 78 = .ok (.istore 7, 2) := by decide +kernel
theorem dX0_gainOf_80 : decode cX0_gainOf 80 = .ok (.aload_n 0, 1) := by decide +kernel
theorem dX0_gainOf_81 : decode cX0_gainOf 81 = .ok (.getfield 12, 3) := by decide +kernel
theorem dX0_gainOf_84 : decode cX0_gainOf 84 = .ok (.getfield 53, 3) := by decide +kernel
theorem dX0_gainOf_87 : decode cX0_gainOf 87 = .ok (.iload_n 1, 1) := by decide +kernel
theorem dX0_gainOf_88 : decode cX0_gainOf 88 = .ok (.iaload, 1) := by decide +kernel
theorem dX0_gainOf_89 : decode cX0_gainOf 89 = .ok (.tableswitch 96 1 5 #[35, 38, 43, 66, 73], 35) := by decide +kernel
theorem dX0_gainOf_124 : decode cX0_gainOf 124 = .ok (.iload 7, 2) := by decide +kernel
theorem dX0_gainOf_126 : decode cX0_gainOf 126 = .ok (.ireturn, 1) := by decide +kernel
theorem dX0_gainOf_127 : decode cX0_gainOf 127 = .ok (.iload 4, 2) := by decide +kernel
theorem dX0_gainOf_129 : decode cX0_gainOf 129 = .ok (.iconst 4, 1) := by decide +kernel
theorem dX0_gainOf_130 : decode cX0_gainOf 130 = .ok (.idiv, 1) := by decide +kernel
theorem dX0_gainOf_131 : decode cX0_gainOf 131 = .ok (.ireturn, 1) := by decide +kernel
theorem dX0_gainOf_132 : decode cX0_gainOf 132 = .ok (.aload_n 0, 1) := by decide +kernel
theorem dX0_gainOf_133 : decode cX0_gainOf 133 = .ok (.getfield 21, 3) := by decide +kernel
theorem dX0_gainOf_136 : decode cX0_gainOf 136 = .ok (.getfield 56, 3) := by decide +kernel
theorem dX0_gainOf_139 : decode cX0_gainOf 139 = .ok (.iload_n 2, 1) := by decide +kernel
theorem dX0_gainOf_140 : decode cX0_gainOf 140 = .ok (.iaload, 1) := by decide +kernel
theorem dX0_gainOf_141 : decode cX0_gainOf 141 = .ok (.iconst 1, 1) := by decide +kernel
theorem dX0_gainOf_142 : decode cX0_gainOf 142 = .ok (.if_icmp .ne 8, 3) := by decide +kernel
theorem dX0_gainOf_145 : decode cX0_gainOf 145 = .ok (.iload 7, 2) := by decide +kernel
theorem dX0_gainOf_147 : decode cX0_gainOf 147 = .ok (.goto 7, 3) := by decide +kernel
theorem dX0_gainOf_150 : decode cX0_gainOf 150 = .ok (.iload 7, 2) := by decide +kernel
theorem dX0_gainOf_152 : decode cX0_gainOf 152 = .ok (.iconst 3, 1) := by decide +kernel
theorem dX0_gainOf_153 : decode cX0_gainOf 153 = .ok (.idiv, 1) := by decide +kernel
theorem dX0_gainOf_154 : decode cX0_gainOf 154 = .ok (.ireturn, 1) := by decide +kernel
theorem dX0_gainOf_155 : decode cX0_gainOf 155 = .ok (.iload 4, 2) := by decide +kernel
theorem dX0_gainOf_157 : decode cX0_gainOf 157 = .ok (.iconst 4, 1) := by decide +kernel
theorem dX0_gainOf_158 : decode cX0_gainOf 158 = .ok (.idiv, 1) := by decide +kernel
theorem dX0_gainOf_159 : decode cX0_gainOf 159 = .ok (.iconst 1, 1) := by decide +kernel
theorem dX0_gainOf_160 : decode cX0_gainOf 160 = .ok (.iadd, 1) := by decide +kernel
theorem dX0_gainOf_161 : decode cX0_gainOf 161 = .ok (.ireturn, 1) := by decide +kernel
theorem dX0_gainOf_162 : decode cX0_gainOf 162 = .ok (.aload_n 0, 1) := by decide +kernel
theorem dX0_gainOf_163 : decode cX0_gainOf 163 = .ok (.getfield 21, 3) := by decide +kernel
theorem dX0_gainOf_166 : decode cX0_gainOf 166 = .ok (.getfield 59, 3) := by decide +kernel
theorem dX0_gainOf_169 : decode cX0_gainOf 169 = .ok (.iload_n 2, 1) := by decide +kernel
theorem dX0_gainOf_170 : decode cX0_gainOf 170 = .ok (.iaload, 1) := by decide +kernel
theorem dX0_gainOf_171 : decode cX0_gainOf 171 = .ok (.iconst 1, 1) := by decide +kernel
theorem dX0_gainOf_172 : decode cX0_gainOf 172 = .ok (.if_icmp .ne 10, 3) := by decide +kernel
theorem dX0_gainOf_175 : decode cX0_gainOf 175 = .ok (.iconst 3, 1) := by decide +kernel
theorem dX0_gainOf_176 : decode cX0_gainOf 176 = .ok (.iload 6, 2) := by decide +kernel
theorem dX0_gainOf_178 : decode cX0_gainOf 178 = .ok (.imul, 1) := by decide +kernel
theorem dX0_gainOf_179 : decode cX0_gainOf 179 = .ok (.goto 5, 3) := by decide +kernel
theorem dX0_gainOf_182 : decode cX0_gainOf 182 = .ok (.iload 6, 2) := by decide +kernel
theorem dX0_gainOf_184 : decode cX0_gainOf 184 = .ok (.ireturn, 1) := by decide +kernel
theorem dX0_gainOf_185 : decode cX0_gainOf 185 = .ok (.iload 6, 2) := by decide +kernel
theorem dX0_gainOf_187 : decode cX0_gainOf 187 = .ok (.ireturn, 1) := by decide +kernel
theorem dX0_gainsMost_0 : decode cX0_gainsMost 0 = .ok (.aload_n 0, 1) := by decide +kernel
theorem dX0_gainsMost_1 : decode cX0_gainsMost 1 = .ok (.getfield 21, 3) := by decide +kernel
theorem dX0_gainsMost_4 : decode cX0_gainsMost 4 = .ok (.getfield 42, 3) := by decide +kernel
theorem dX0_gainsMost_7 : decode cX0_gainsMost 7 = .ok (.iload_n 1, 1) := by decide +kernel
theorem dX0_gainsMost_8 : decode cX0_gainsMost 8 = .ok (.iaload, 1) := by decide +kernel
theorem dX0_gainsMost_9 : decode cX0_gainsMost 9 = .ok (.bipush 10, 2) := by decide +kernel
theorem dX0_gainsMost_11 : decode cX0_gainsMost 11 = .ok (.idiv, 1) := by decide +kernel
theorem dX0_gainsMost_12 : decode cX0_gainsMost 12 = .ok (.istore 4, 2) := by decide +kernel
theorem dX0_gainsMost_14 : decode cX0_gainsMost 14 = .ok (.iconst (-1), 1) := by decide +kernel
theorem dX0_gainsMost_15 : decode cX0_gainsMost 15 = .ok (.istore 5, 2) := by decide +kernel
theorem dX0_gainsMost_17 : decode cX0_gainsMost 17 = .ok (.iconst 0, 1) := by decide +kernel
theorem dX0_gainsMost_18 : decode cX0_gainsMost 18 = .ok (.istore 6, 2) := by decide +kernel
theorem dX0_gainsMost_20 : decode cX0_gainsMost 20 = .ok (.iload 6, 2) := by decide +kernel
theorem dX0_gainsMost_22 : decode cX0_gainsMost 22 = .ok (.aload_n 0, 1) := by decide +kernel
theorem dX0_gainsMost_23 : decode cX0_gainsMost 23 = .ok (.getfield 12, 3) := by decide +kernel
theorem dX0_gainsMost_26 : decode cX0_gainsMost 26 = .ok (.getfield 62, 3) := by decide +kernel
theorem dX0_gainsMost_29 : decode cX0_gainsMost 29 = .ok (.if_icmp .ge 43, 3) := by decide +kernel
theorem dX0_gainsMost_32 : decode cX0_gainsMost 32 = .ok (.iload_n 2, 1) := by decide +kernel
theorem dX0_gainsMost_33 : decode cX0_gainsMost 33 = .ok (.iload 6, 2) := by decide +kernel
theorem dX0_gainsMost_35 : decode cX0_gainsMost 35 = .ok (.invokestatic 65, 3) := by decide +kernel
theorem dX0_gainsMost_38 : decode cX0_gainsMost 38 = .ok (.ifCond .eq 28, 3) := by decide +kernel
theorem dX0_gainsMost_41 : decode cX0_gainsMost 41 = .ok (.aload_n 0, 1) := by decide +kernel
theorem dX0_gainsMost_42 : decode cX0_gainsMost 42 = .ok (.iload 6, 2) := by decide +kernel
theorem dX0_gainsMost_44 : decode cX0_gainsMost 44 = .ok (.iload_n 1, 1) := by decide +kernel
theorem dX0_gainsMost_45 : decode cX0_gainsMost 45 = .ok (.iload_n 3, 1) := by decide +kernel
theorem dX0_gainsMost_46 : decode cX0_gainsMost 46 = .ok (.invokevirtual 69, 3) := by decide +kernel
theorem dX0_gainsMost_49 : decode cX0_gainsMost 49 = .ok (.istore 7, 2) := by decide +kernel
theorem dX0_gainsMost_51 : decode cX0_gainsMost 51 = .ok (.iload 7, 2) := by decide +kernel
theorem dX0_gainsMost_53 : decode cX0_gainsMost 53 = .ok (.iload 4, 2) := by decide +kernel
theorem dX0_gainsMost_55 : decode cX0_gainsMost 55 = .ok (.if_icmp .le 11, 3) := by decide +kernel
theorem dX0_gainsMost_58 : decode cX0_gainsMost 58 = .ok (.iload 7, 2) := by decide +kernel
theorem dX0_gainsMost_60 : decode cX0_gainsMost 60 = .ok (.istore 4, 2) := by decide +kernel
theorem dX0_gainsMost_62 : decode cX0_gainsMost 62 = .ok (.iload 6, 2) := by decide +kernel
theorem dX0_gainsMost_64 : decode cX0_gainsMost 64 = .ok (.istore 5, 2) := by decide +kernel
theorem dX0_gainsMost_66 : decode cX0_gainsMost 66 = .ok (.iinc 6 1, 3) := by decide +kernel
theorem dX0_gainsMost_69 : decode cX0_gainsMost 69 = .ok (.goto (-49), 3) := by decide +kernel
theorem dX0_gainsMost_72 : decode cX0_gainsMost 72 = .ok (.iload 5, 2) := by decide +kernel
theorem dX0_gainsMost_74 : decode cX0_gainsMost 74 = .ok (.ireturn, 1) := by decide +kernel
theorem dX0_metBy_0 : decode cX0_metBy 0 = .ok (.aload_n 0, 1) := by decide +kernel
theorem dX0_metBy_1 : decode cX0_metBy 1 = .ok (.getfield 21, 3) := by decide +kernel
theorem dX0_metBy_4 : decode cX0_metBy 4 = .ok (.getfield 42, 3) := by decide +kernel
theorem dX0_metBy_7 : decode cX0_metBy 7 = .ok (.iload_n 1, 1) := by decide +kernel
theorem dX0_metBy_8 : decode cX0_metBy 8 = .ok (.iaload, 1) := by decide +kernel
theorem dX0_metBy_9 : decode cX0_metBy 9 = .ok (.istore 5, 2) := by decide +kernel
theorem dX0_metBy_11 : decode cX0_metBy 11 = .ok (.iload_n 2, 1) := by decide +kernel
theorem dX0_metBy_12 : decode cX0_metBy 12 = .ok (.ifCond .ge 11, 3) := by decide +kernel
theorem dX0_metBy_15 : decode cX0_metBy 15 = .ok (.iload 5, 2) := by decide +kernel
theorem dX0_metBy_17 : decode cX0_metBy 17 = .ok (.bipush 10, 2) := by decide +kernel
theorem dX0_metBy_19 : decode cX0_metBy 19 = .ok (.idiv, 1) := by decide +kernel
theorem dX0_metBy_20 : decode cX0_metBy 20 = .ok (.goto 10, 3) := by decide +kernel
theorem dX0_metBy_23 : decode cX0_metBy 23 = .ok (.aload_n 0, 1) := by decide +kernel
theorem dX0_metBy_24 : decode cX0_metBy 24 = .ok (.iload_n 2, 1) := by decide +kernel
theorem dX0_metBy_25 : decode cX0_metBy 25 = .ok (.iload_n 1, 1) := by decide +kernel
theorem dX0_metBy_26 : decode cX0_metBy 26 = .ok (.iload_n 3, 1) := by decide +kernel
theorem dX0_metBy_27 : decode cX0_metBy 27 = .ok (.invokevirtual 69, 3) := by decide +kernel
theorem dX0_metBy_30 : decode cX0_metBy 30 = .ok (.istore 6, 2) := by decide +kernel
theorem dX0_metBy_32 : decode cX0_metBy 32 = .ok (.iload 5, 2) := by decide +kernel
theorem dX0_metBy_34 : decode cX0_metBy 34 = .ok (.iload 6, 2) := by decide +kernel
theorem dX0_metBy_36 : decode cX0_metBy 36 = .ok (.iload 4, 2) := by decide +kernel
theorem dX0_metBy_38 : decode cX0_metBy 38 = .ok (.invokestatic 73, 3) := by decide +kernel
theorem dX0_metBy_41 : decode cX0_metBy 41 = .ok (.ireturn, 1) := by decide +kernel
theorem dX0_isKnown_0 : decode cX0_isKnown 0 = .ok (.aload_n 0, 1) := by decide +kernel
theorem dX0_isKnown_1 : decode cX0_isKnown 1 = .ok (.getfield 12, 3) := by decide +kernel
theorem dX0_isKnown_4 : decode cX0_isKnown 4 = .ok (.getfield 76, 3) := by decide +kernel
theorem dX0_isKnown_7 : decode cX0_isKnown 7 = .ok (.iload_n 1, 1) := by decide +kernel
theorem dX0_isKnown_8 : decode cX0_isKnown 8 = .ok (.iaload, 1) := by decide +kernel
theorem dX0_isKnown_9 : decode cX0_isKnown 9 = .ok (.aload_n 0, 1) := by decide +kernel
theorem dX0_isKnown_10 : decode cX0_isKnown 10 = .ok (.getfield 32, 3) := by decide +kernel
theorem dX0_isKnown_13 : decode cX0_isKnown 13 = .ok (.if_icmp .lt 7, 3) := by decide +kernel
theorem dX0_isKnown_16 : decode cX0_isKnown 16 = .ok (.iconst 1, 1) := by decide +kernel
theorem dX0_isKnown_17 : decode cX0_isKnown 17 = .ok (.goto 4, 3) := by decide +kernel
theorem dX0_isKnown_20 : decode cX0_isKnown 20 = .ok (.iconst 0, 1) := by decide +kernel
theorem dX0_isKnown_21 : decode cX0_isKnown 21 = .ok (.ireturn, 1) := by decide +kernel
theorem dX0_knownSet_0 : decode cX0_knownSet 0 = .ok (.iconst 0, 1) := by decide +kernel
theorem dX0_knownSet_1 : decode cX0_knownSet 1 = .ok (.istore_n 1, 1) := by decide +kernel
theorem dX0_knownSet_2 : decode cX0_knownSet 2 = .ok (.iconst 0, 1) := by decide +kernel
theorem dX0_knownSet_3 : decode cX0_knownSet 3 = .ok (.istore_n 2, 1) := by decide +kernel
theorem dX0_knownSet_4 : decode cX0_knownSet 4 = .ok (.iload_n 2, 1) := by decide +kernel
theorem dX0_knownSet_5 : decode cX0_knownSet 5 = .ok (.aload_n 0, 1) := by decide +kernel
theorem dX0_knownSet_6 : decode cX0_knownSet 6 = .ok (.getfield 12, 3) := by decide +kernel
theorem dX0_knownSet_9 : decode cX0_knownSet 9 = .ok (.getfield 62, 3) := by decide +kernel
theorem dX0_knownSet_12 : decode cX0_knownSet 12 = .ok (.if_icmp .ge 23, 3) := by decide +kernel
theorem dX0_knownSet_15 : decode cX0_knownSet 15 = .ok (.aload_n 0, 1) := by decide +kernel
theorem dX0_knownSet_16 : decode cX0_knownSet 16 = .ok (.iload_n 2, 1) := by decide +kernel
theorem dX0_knownSet_17 : decode cX0_knownSet 17 = .ok (.invokevirtual 79, 3) := by decide +kernel
theorem dX0_knownSet_20 : decode cX0_knownSet 20 = .ok (.ifCond .eq 9, 3) := by decide +kernel
theorem dX0_knownSet_23 : decode cX0_knownSet 23 = .ok (.iload_n 1, 1) := by decide +kernel
theorem dX0_knownSet_24 : decode cX0_knownSet 24 = .ok (.iconst 1, 1) := by decide +kernel
theorem dX0_knownSet_25 : decode cX0_knownSet 25 = .ok (.iload_n 2, 1) := by decide +kernel
theorem dX0_knownSet_26 : decode cX0_knownSet 26 = .ok (.ishl, 1) := by decide +kernel
theorem dX0_knownSet_27 : decode cX0_knownSet 27 = .ok (.ior, 1) := by decide +kernel
theorem dX0_knownSet_28 : decode cX0_knownSet 28 = .ok (.istore_n 1, 1) := by decide +kernel
theorem dX0_knownSet_29 : decode cX0_knownSet 29 = .ok (.iinc 2 1, 3) := by decide +kernel
theorem dX0_knownSet_32 : decode cX0_knownSet 32 = .ok (.goto (-28), 3) := by decide +kernel
theorem dX0_knownSet_35 : decode cX0_knownSet 35 = .ok (.iload_n 1, 1) := by decide +kernel
theorem dX0_knownSet_36 : decode cX0_knownSet 36 = .ok (.ireturn, 1) := by decide +kernel
theorem dX0_spendEvening_0 : decode cX0_spendEvening 0 = .ok (.iload_n 1, 1) := by decide +kernel
theorem dX0_spendEvening_1 : decode cX0_spendEvening 1 = .ok (.istore_n 2, 1) := by decide +kernel
theorem dX0_spendEvening_2 : decode cX0_spendEvening 2 = .ok (.iconst 0, 1) := by decide +kernel
theorem dX0_spendEvening_3 : decode cX0_spendEvening 3 = .ok (.istore_n 3, 1) := by decide +kernel
theorem dX0_spendEvening_4 : decode cX0_spendEvening 4 = .ok (.iload_n 3, 1) := by decide +kernel
theorem dX0_spendEvening_5 : decode cX0_spendEvening 5 = .ok (.aload_n 0, 1) := by decide +kernel
theorem dX0_spendEvening_6 : decode cX0_spendEvening 6 = .ok (.getfield 28, 3) := by decide +kernel
theorem dX0_spendEvening_9 : decode cX0_spendEvening 9 = .ok (.getfield 83, 3) := by decide +kernel
theorem dX0_spendEvening_12 : decode cX0_spendEvening 12 = .ok (.if_icmp .ge 65, 3) := by decide +kernel
theorem dX0_spendEvening_15 : decode cX0_spendEvening 15 = .ok (.iload_n 2, 1) := by decide +kernel
theorem dX0_spendEvening_16 : decode cX0_spendEvening 16 = .ok (.ifCond .le 61, 3) := by decide +kernel
theorem dX0_spendEvening_19 : decode cX0_spendEvening 19 = .ok (.aload_n 0, 1) := by decide +kernel
theorem dX0_spendEvening_20 : decode cX0_spendEvening 20 = .ok (.getfield 28, 3) := by decide +kernel
theorem dX0_spendEvening_23 : decode cX0_spendEvening 23 = .ok (.getfield 84, 3) := by decide +kernel
theorem dX0_spendEvening_26 : decode cX0_spendEvening 26 = .ok (.iload_n 3, 1) := by decide +kernel
theorem dX0_spendEvening_27 : decode cX0_spendEvening 27 = .ok (.iaload, 1) := by decide +kernel
theorem dX0_spendEvening_28 : decode cX0_spendEvening 28 = .ok (.istore 4, 2) := by decide +kernel
theorem dX0_spendEvening_30 : decode cX0_spendEvening 30 = .ok (.aload_n 0, 1) := by decide +kernel
theorem dX0_spendEvening_31 : decode cX0_spendEvening 31 = .ok (.iload 4, 2) := by decide +kernel
theorem dX0_spendEvening_33 : decode cX0_spendEvening 33 = .ok (.invokevirtual 79, 3) := by decide +kernel
theorem dX0_spendEvening_36 : decode cX0_spendEvening 36 = .ok (.ifCond .ne 35, 3) := by decide +kernel
theorem dX0_spendEvening_39 : decode cX0_spendEvening 39 = .ok (.iload_n 2, 1) := by decide +kernel
theorem dX0_spendEvening_40 : decode cX0_spendEvening 40 = .ok (.aload_n 0, 1) := by decide +kernel
theorem dX0_spendEvening_41 : decode cX0_spendEvening 41 = .ok (.getfield 12, 3) := by decide +kernel
theorem dX0_spendEvening_44 : decode cX0_spendEvening 44 = .ok (.getfield 87, 3) := by decide +kernel
theorem dX0_spendEvening_47 : decode cX0_spendEvening 47 = .ok (.iload 4, 2) := by decide +kernel
theorem dX0_spendEvening_49 : decode cX0_spendEvening 49 = .ok (.iaload, 1) := by decide +kernel
theorem dX0_spendEvening_50 : decode cX0_spendEvening 50 = .ok (.invokestatic 90, 3) := by decide +kernel
theorem dX0_spendEvening_53 : decode cX0_spendEvening 53 = .ok (.istore 5, 2) := by decide +kernel
theorem dX0_spendEvening_55 : decode cX0_spendEvening 55 = .ok (.aload_n 0, 1) := by decide +kernel
theorem dX0_spendEvening_56 : decode cX0_spendEvening 56 = .ok (.getfield 12, 3) := by decide +kernel
theorem dX0_spendEvening_59 : decode cX0_spendEvening 59 = .ok (.iload 4, 2) := by decide +kernel
theorem dX0_spendEvening_61 : decode cX0_spendEvening 61 = .ok (.iload 5, 2) := by decide +kernel
theorem dX0_spendEvening_63 : decode cX0_spendEvening 63 = .ok (.invokevirtual 96, 3) := by decide +kernel
theorem dX0_spendEvening_66 : decode cX0_spendEvening 66 = .ok (.iload_n 2, 1) := by decide +kernel
theorem dX0_spendEvening_67 : decode cX0_spendEvening 67 = .ok (.iload 5, 2) := by decide +kernel
theorem dX0_spendEvening_69 : decode cX0_spendEvening 69 = .ok (.isub, 1) := by decide +kernel
theorem dX0_spendEvening_70 : decode cX0_spendEvening 70 = .ok (.istore_n 2, 1) := by decide +kernel
theorem dX0_spendEvening_71 : decode cX0_spendEvening 71 = .ok (.iinc 3 1, 3) := by decide +kernel
theorem dX0_spendEvening_74 : decode cX0_spendEvening 74 = .ok (.goto (-70), 3) := by decide +kernel
theorem dX0_spendEvening_77 : decode cX0_spendEvening 77 = .ok (.iload_n 2, 1) := by decide +kernel
theorem dX0_spendEvening_78 : decode cX0_spendEvening 78 = .ok (.ireturn, 1) := by decide +kernel
theorem dX0_goDays_0 : decode cX0_goDays 0 = .ok (.iconst 0, 1) := by decide +kernel
theorem dX0_goDays_1 : decode cX0_goDays 1 = .ok (.istore_n 2, 1) := by decide +kernel
theorem dX0_goDays_2 : decode cX0_goDays 2 = .ok (.iload_n 2, 1) := by decide +kernel
theorem dX0_goDays_3 : decode cX0_goDays 3 = .ok (.iload_n 1, 1) := by decide +kernel
theorem dX0_goDays_4 : decode cX0_goDays 4 = .ok (.if_icmp .ge 62, 3) := by decide +kernel
theorem dX0_goDays_7 : decode cX0_goDays 7 = .ok (.aload_n 0, 1) := by decide +kernel
theorem dX0_goDays_8 : decode cX0_goDays 8 = .ok (.getfield 21, 3) := by decide +kernel
theorem dX0_goDays_11 : decode cX0_goDays 11 = .ok (.aload_n 0, 1) := by decide +kernel
theorem dX0_goDays_12 : decode cX0_goDays 12 = .ok (.getfield 36, 3) := by decide +kernel
theorem dX0_goDays_15 : decode cX0_goDays 15 = .ok (.invokevirtual 100, 3) := by decide +kernel
theorem dX0_goDays_18 : decode cX0_goDays 18 = .ok (.ifCond .le 7, 3) := by decide +kernel
theorem dX0_goDays_21 : decode cX0_goDays 21 = .ok (.iconst 1, 1) := by decide +kernel
theorem dX0_goDays_22 : decode cX0_goDays 22 = .ok (.goto 4, 3) := by decide +kernel
theorem dX0_goDays_25 : decode cX0_goDays 25 = .ok (.iconst 0, 1) := by decide +kernel
theorem dX0_goDays_26 : decode cX0_goDays 26 = .ok (.istore_n 3, 1) := by decide +kernel
theorem dX0_goDays_27 : decode cX0_goDays 27 = .ok (.aload_n 0, 1) := by decide +kernel
theorem dX0_goDays_28 : decode cX0_goDays 28 = .ok (.getfield 12, 3) := by decide +kernel
theorem dX0_goDays_31 : decode cX0_goDays 31 = .ok (.iload_n 3, 1) := by decide +kernel
theorem dX0_goDays_32 : decode cX0_goDays 32 = .ok (.ifCond .eq 14, 3) := by decide +kernel
theorem dX0_goDays_35 : decode cX0_goDays 35 = .ok (.aload_n 0, 1) := by decide +kernel
theorem dX0_goDays_36 : decode cX0_goDays 36 = .ok (.aload_n 0, 1) := by decide +kernel
theorem dX0_goDays_37 : decode cX0_goDays 37 = .ok (.invokevirtual 104, 3) := by decide +kernel
theorem dX0_goDays_40 : decode cX0_goDays 40 = .ok (.invokevirtual 108, 3) := by decide +kernel
theorem dX0_goDays_43 : decode cX0_goDays 43 = .ok (.goto 4, 3) := by decide +kernel
theorem dX0_goDays_46 : decode cX0_goDays 46 = .ok (.iconst 0, 1) := by decide +kernel
theorem dX0_goDays_47 : decode cX0_goDays 47 = .ok (.invokevirtual 111, 3) := by decide +kernel
theorem dX0_goDays_50 : decode cX0_goDays 50 = .ok (.aload_n 0, 1) := by decide +kernel
theorem dX0_goDays_51 : decode cX0_goDays 51 = .ok (.dup, 1) := by decide +kernel
theorem dX0_goDays_52 : decode cX0_goDays 52 = .ok (.getfield 36, 3) := by decide +kernel
theorem dX0_goDays_55 : decode cX0_goDays 55 = .ok (.iconst 1, 1) := by decide +kernel
theorem dX0_goDays_56 : decode cX0_goDays 56 = .ok (.iadd, 1) := by decide +kernel
theorem dX0_goDays_57 : decode cX0_goDays 57 = .ok (.putfield 36, 3) := by decide +kernel
theorem dX0_goDays_60 : decode cX0_goDays 60 = .ok (.iinc 2 1, 3) := by decide +kernel
theorem dX0_goDays_63 : decode cX0_goDays 63 = .ok (.goto (-61), 3) := by decide +kernel
theorem dX0_goDays_66 : decode cX0_goDays 66 = .ok (.return_, 1) := by decide +kernel
theorem dX0_meetWants_0 : decode cX0_meetWants 0 = .ok (.aload_n 0, 1) := by decide +kernel
theorem dX0_meetWants_1 : decode cX0_meetWants 1 = .ok (.getfield 12, 3) := by decide +kernel
theorem dX0_meetWants_4 : decode cX0_meetWants 4 = .ok (.iload_n 1, 1) := by decide +kernel
theorem dX0_meetWants_5 : decode cX0_meetWants 5 = .ok (.iconst 2, 1) := by decide +kernel
theorem dX0_meetWants_6 : decode cX0_meetWants 6 = .ok (.invokevirtual 115, 3) := by decide +kernel
theorem dX0_meetWants_9 : decode cX0_meetWants 9 = .ok (.istore_n 2, 1) := by decide +kernel
theorem dX0_meetWants_10 : decode cX0_meetWants 10 = .ok (.aload_n 0, 1) := by decide +kernel
theorem dX0_meetWants_11 : decode cX0_meetWants 11 = .ok (.getfield 12, 3) := by decide +kernel
theorem dX0_meetWants_14 : decode cX0_meetWants 14 = .ok (.iload_n 1, 1) := by decide +kernel
theorem dX0_meetWants_15 : decode cX0_meetWants 15 = .ok (.iconst 4, 1) := by decide +kernel
theorem dX0_meetWants_16 : decode cX0_meetWants 16 = .ok (.invokevirtual 115, 3) := by decide +kernel
theorem dX0_meetWants_19 : decode cX0_meetWants 19 = .ok (.istore_n 3, 1) := by decide +kernel
theorem dX0_meetWants_20 : decode cX0_meetWants 20 = .ok (.iconst 0, 1) := by decide +kernel
theorem dX0_meetWants_21 : decode cX0_meetWants 21 = .ok (.istore 4, 2) := by decide +kernel
theorem dX0_meetWants_23 : decode cX0_meetWants 23 = .ok (.iconst 0, 1) := by decide +kernel
theorem dX0_meetWants_24 : decode cX0_meetWants 24 = .ok (.istore 5, 2) := by decide +kernel
theorem dX0_meetWants_26 : decode cX0_meetWants 26 = .ok (.iload 5, 2) := by decide +kernel
theorem dX0_meetWants_28 : decode cX0_meetWants 28 = .ok (.aload_n 0, 1) := by decide +kernel
theorem dX0_meetWants_29 : decode cX0_meetWants 29 = .ok (.getfield 21, 3) := by decide +kernel
theorem dX0_meetWants_32 : decode cX0_meetWants 32 = .ok (.getfield 118, 3) := by decide +kernel
theorem dX0_meetWants_35 : decode cX0_meetWants 35 = .ok (.if_icmp .ge 83, 3) := by decide +kernel
theorem dX0_meetWants_38 : decode cX0_meetWants 38 = .ok (.aload_n 0, 1) := by decide +kernel
theorem dX0_meetWants_39 : decode cX0_meetWants 39 = .ok (.getfield 21, 3) := by decide +kernel
theorem dX0_meetWants_42 : decode cX0_meetWants 42 = .ok (.getfield 119, 3) := by decide +kernel
theorem dX0_meetWants_45 : decode cX0_meetWants 45 = .ok (.iload 5, 2) := by decide +kernel
theorem dX0_meetWants_47 : decode cX0_meetWants 47 = .ok (.iaload, 1) := by decide +kernel
theorem dX0_meetWants_48 : decode cX0_meetWants 48 = .ok (.aload_n 0, 1) := by decide +kernel
theorem dX0_meetWants_49 : decode cX0_meetWants 49 = .ok (.getfield 36, 3) := by decide +kernel
theorem dX0_meetWants_52 : decode cX0_meetWants 52 = .ok (.if_icmp .ne 60, 3) := by decide +kernel
theorem dX0_meetWants_55 : decode cX0_meetWants 55 = .ok (.aload_n 0, 1) := by decide +kernel
theorem dX0_meetWants_56 : decode cX0_meetWants 56 = .ok (.iload 5, 2) := by decide +kernel
theorem dX0_meetWants_58 : decode cX0_meetWants 58 = .ok (.iload_n 1, 1) := by decide +kernel
theorem dX0_meetWants_59 : decode cX0_meetWants 59 = .ok (.iload_n 2, 1) := by decide +kernel
theorem dX0_meetWants_60 : decode cX0_meetWants 60 = .ok (.invokevirtual 121, 3) := by decide +kernel
theorem dX0_meetWants_63 : decode cX0_meetWants 63 = .ok (.istore 6, 2) := by decide +kernel
theorem dX0_meetWants_65 : decode cX0_meetWants 65 = .ok (.aload_n 0, 1) := by decide +kernel
theorem dX0_meetWants_66 : decode cX0_meetWants 66 = .ok (.dup, 1) := by decide +kernel
theorem dX0_meetWants_67 : decode cX0_meetWants 67 = .ok (.getfield 39, 3) := by decide +kernel
theorem dX0_meetWants_70 : decode cX0_meetWants 70 = .ok (.aload_n 0, 1) := by decide +kernel
theorem dX0_meetWants_71 : decode cX0_meetWants 71 = .ok (.iload 5, 2) := by decide +kernel
theorem dX0_meetWants_73 : decode cX0_meetWants 73 = .ok (.iload 6, 2) := by decide +kernel
theorem dX0_meetWants_75 : decode cX0_meetWants 75 = .ok (.iload_n 2, 1) := by decide +kernel
theorem dX0_meetWants_76 : decode cX0_meetWants 76 = .ok (.iload_n 3, 1) := by decide +kernel
theorem dX0_meetWants_77 : decode cX0_meetWants 77 = .ok (.invokevirtual 124, 3) := by decide +kernel
theorem dX0_meetWants_80 : decode cX0_meetWants 80 = .ok (.iadd, 1) := by decide +kernel
theorem dX0_meetWants_81 : decode cX0_meetWants 81 = .ok (.putfield 39, 3) := by decide +kernel
theorem dX0_meetWants_84 : decode cX0_meetWants 84 = .ok (.iload 6, 2) := by decide +kernel
theorem dX0_meetWants_86 : decode cX0_meetWants 86 = .ok (.ifCond .lt 26, 3) := by decide +kernel
theorem dX0_meetWants_89 : decode cX0_meetWants 89 = .ok (.aload_n 0, 1) := by decide +kernel
theorem dX0_meetWants_90 : decode cX0_meetWants 90 = .ok (.getfield 12, 3) := by decide +kernel
theorem dX0_meetWants_93 : decode cX0_meetWants 93 = .ok (.getfield 128, 3) := by decide +kernel
theorem dX0_meetWants_96 : decode cX0_meetWants 96 = .ok (.iload 6, 2) := by decide +kernel
theorem dX0_meetWants_98 : decode cX0_meetWants 98 = .ok (.dup2, 1) := by decide +kernel
theorem dX0_meetWants_99 : decode cX0_meetWants 99 = .ok (.iaload, 1) := by decide +kernel
theorem dX0_meetWants_100 : decode cX0_meetWants 100 = .ok (.iconst 1, 1) := by decide +kernel
theorem dX0_meetWants_101 : decode cX0_meetWants 101 = .ok (.iadd, 1) := by decide +kernel
theorem dX0_meetWants_102 : decode cX0_meetWants 102 = .ok (.iastore, 1) := by decide +kernel
theorem dX0_meetWants_103 : decode cX0_meetWants 103 = .ok (.iload 4, 2) := by decide +kernel
theorem dX0_meetWants_105 : decode cX0_meetWants 105 = .ok (.iconst 1, 1) := by decide +kernel
theorem dX0_meetWants_106 : decode cX0_meetWants 106 = .ok (.iload 6, 2) := by decide +kernel
theorem dX0_meetWants_108 : decode cX0_meetWants 108 = .ok (.ishl, 1) := by decide +kernel
theorem dX0_meetWants_109 : decode cX0_meetWants 109 = .ok (.ior, 1) := by decide +kernel
theorem dX0_meetWants_110 : decode cX0_meetWants 110 = .ok (.istore 4, 2) := by decide +kernel
theorem dX0_meetWants_112 : decode cX0_meetWants 112 = .ok (.iinc 5 1, 3) := by decide +kernel
theorem dX0_meetWants_115 : decode cX0_meetWants 115 = .ok (.goto (-89), 3) := by decide +kernel
theorem dX0_meetWants_118 : decode cX0_meetWants 118 = .ok (.iload 4, 2) := by decide +kernel
theorem dX0_meetWants_120 : decode cX0_meetWants 120 = .ok (.ireturn, 1) := by decide +kernel
theorem dX0_takeFrom_0 : decode cX0_takeFrom 0 = .ok (.aload_n 0, 1) := by decide +kernel
theorem dX0_takeFrom_1 : decode cX0_takeFrom 1 = .ok (.getfield 12, 3) := by decide +kernel
theorem dX0_takeFrom_4 : decode cX0_takeFrom 4 = .ok (.aload_n 1, 1) := by decide +kernel
theorem dX0_takeFrom_5 : decode cX0_takeFrom 5 = .ok (.getfield 12, 3) := by decide +kernel
theorem dX0_takeFrom_8 : decode cX0_takeFrom 8 = .ok (.invokevirtual 131, 3) := by decide +kernel
theorem dX0_takeFrom_11 : decode cX0_takeFrom 11 = .ok (.aload_n 0, 1) := by decide +kernel
theorem dX0_takeFrom_12 : decode cX0_takeFrom 12 = .ok (.getfield 21, 3) := by decide +kernel
theorem dX0_takeFrom_15 : decode cX0_takeFrom 15 = .ok (.aload_n 1, 1) := by decide +kernel
theorem dX0_takeFrom_16 : decode cX0_takeFrom 16 = .ok (.getfield 21, 3) := by decide +kernel
theorem dX0_takeFrom_19 : decode cX0_takeFrom 19 = .ok (.invokevirtual 135, 3) := by decide +kernel
theorem dX0_takeFrom_22 : decode cX0_takeFrom 22 = .ok (.aload_n 0, 1) := by decide +kernel
theorem dX0_takeFrom_23 : decode cX0_takeFrom 23 = .ok (.getfield 28, 3) := by decide +kernel
theorem dX0_takeFrom_26 : decode cX0_takeFrom 26 = .ok (.aload_n 1, 1) := by decide +kernel
theorem dX0_takeFrom_27 : decode cX0_takeFrom 27 = .ok (.getfield 28, 3) := by decide +kernel
theorem dX0_takeFrom_30 : decode cX0_takeFrom 30 = .ok (.invokevirtual 138, 3) := by decide +kernel
theorem dX0_takeFrom_33 : decode cX0_takeFrom 33 = .ok (.aload_n 0, 1) := by decide +kernel
theorem dX0_takeFrom_34 : decode cX0_takeFrom 34 = .ok (.aload_n 1, 1) := by decide +kernel
theorem dX0_takeFrom_35 : decode cX0_takeFrom 35 = .ok (.getfield 32, 3) := by decide +kernel
theorem dX0_takeFrom_38 : decode cX0_takeFrom 38 = .ok (.putfield 32, 3) := by decide +kernel
theorem dX0_takeFrom_41 : decode cX0_takeFrom 41 = .ok (.aload_n 0, 1) := by decide +kernel
theorem dX0_takeFrom_42 : decode cX0_takeFrom 42 = .ok (.aload_n 1, 1) := by decide +kernel
theorem dX0_takeFrom_43 : decode cX0_takeFrom 43 = .ok (.getfield 36, 3) := by decide +kernel
theorem dX0_takeFrom_46 : decode cX0_takeFrom 46 = .ok (.putfield 36, 3) := by decide +kernel
theorem dX0_takeFrom_49 : decode cX0_takeFrom 49 = .ok (.aload_n 0, 1) := by decide +kernel
theorem dX0_takeFrom_50 : decode cX0_takeFrom 50 = .ok (.aload_n 1, 1) := by decide +kernel
theorem dX0_takeFrom_51 : decode cX0_takeFrom 51 = .ok (.getfield 39, 3) := by decide +kernel
theorem dX0_takeFrom_54 : decode cX0_takeFrom 54 = .ok (.putfield 39, 3) := by decide +kernel
theorem dX0_takeFrom_57 : decode cX0_takeFrom 57 = .ok (.return_, 1) := by decide +kernel
theorem dX1_init_0 : decode cX1_init 0 = .ok (.aload_n 0, 1) := by decide +kernel
theorem dX1_init_1 : decode cX1_init 1 = .ok (.invokespecial 3, 3) := by decide +kernel
theorem dX1_init_4 : decode cX1_init 4 = .ok (.aload_n 0, 1) := by decide +kernel
theorem dX1_init_5 : decode cX1_init 5 = .ok (.sipush 144, 3) := by decide +kernel
theorem dX1_init_8 : decode cX1_init 8 = .ok (.newarray .int, 2) := by decide +kernel
theorem dX1_init_10 : decode cX1_init 10 = .ok (.putfield 9, 3) := by decide +kernel
theorem dX1_init_13 : decode cX1_init 13 = .ok (.aload_n 0, 1) := by decide +kernel
theorem dX1_init_14 : decode cX1_init 14 = .ok (.sipush 144, 3) := by decide +kernel
theorem dX1_init_17 : decode cX1_init 17 = .ok (.newarray .int, 2) := by decide +kernel
theorem dX1_init_19 : decode cX1_init 19 = .ok (.putfield 15, 3) := by decide +kernel
theorem dX1_init_22 : decode cX1_init 22 = .ok (.aload_n 0, 1) := by decide +kernel
theorem dX1_init_23 : decode cX1_init 23 = .ok (.bipush 12, 2) := by decide +kernel
theorem dX1_init_25 : decode cX1_init 25 = .ok (.newarray .int, 2) := by decide +kernel
theorem dX1_init_27 : decode cX1_init 27 = .ok (.putfield 18, 3) := by decide +kernel
theorem dX1_init_30 : decode cX1_init 30 = .ok (.aload_n 0, 1) := by decide +kernel
theorem dX1_init_31 : decode cX1_init 31 = .ok (.bipush 12, 2) := by decide +kernel
theorem dX1_init_33 : decode cX1_init 33 = .ok (.newarray .int, 2) := by decide +kernel
theorem dX1_init_35 : decode cX1_init 35 = .ok (.putfield 21, 3) := by decide +kernel
theorem dX1_init_38 : decode cX1_init 38 = .ok (.aload_n 0, 1) := by decide +kernel
theorem dX1_init_39 : decode cX1_init 39 = .ok (.bipush 12, 2) := by decide +kernel
theorem dX1_init_41 : decode cX1_init 41 = .ok (.newarray .int, 2) := by decide +kernel
theorem dX1_init_43 : decode cX1_init 43 = .ok (.putfield 24, 3) := by decide +kernel
theorem dX1_init_46 : decode cX1_init 46 = .ok (.aload_n 0, 1) := by decide +kernel
theorem dX1_init_47 : decode cX1_init 47 = .ok (.iconst 0, 1) := by decide +kernel
theorem dX1_init_48 : decode cX1_init 48 = .ok (.putfield 27, 3) := by decide +kernel
theorem dX1_init_51 : decode cX1_init 51 = .ok (.aload_n 0, 1) := by decide +kernel
theorem dX1_init_52 : decode cX1_init 52 = .ok (.iconst 0, 1) := by decide +kernel
theorem dX1_init_53 : decode cX1_init 53 = .ok (.putfield 31, 3) := by decide +kernel
theorem dX1_init_56 : decode cX1_init 56 = .ok (.aload_n 0, 1) := by decide +kernel
theorem dX1_init_57 : decode cX1_init 57 = .ok (.iconst 0, 1) := by decide +kernel
theorem dX1_init_58 : decode cX1_init 58 = .ok (.putfield 34, 3) := by decide +kernel
theorem dX1_init_61 : decode cX1_init 61 = .ok (.aload_n 0, 1) := by decide +kernel
theorem dX1_init_62 : decode cX1_init 62 = .ok (.iconst 0, 1) := by decide +kernel
theorem dX1_init_63 : decode cX1_init 63 = .ok (.putfield 37, 3) := by decide +kernel
theorem dX1_init_66 : decode cX1_init 66 = .ok (.return_, 1) := by decide +kernel
theorem dX1_lookAt_0 : decode cX1_lookAt 0 = .ok (.aload_n 0, 1) := by decide +kernel
theorem dX1_lookAt_1 : decode cX1_lookAt 1 = .ok (.aload_n 1, 1) := by decide +kernel
theorem dX1_lookAt_2 : decode cX1_lookAt 2 = .ok (.getfield 40, 3) := by decide +kernel
theorem dX1_lookAt_5 : decode cX1_lookAt 5 = .ok (.getfield 45, 3) := by decide +kernel
theorem dX1_lookAt_8 : decode cX1_lookAt 8 = .ok (.putfield 34, 3) := by decide +kernel
theorem dX1_lookAt_11 : decode cX1_lookAt 11 = .ok (.aload_n 0, 1) := by decide +kernel
theorem dX1_lookAt_12 : decode cX1_lookAt 12 = .ok (.aload_n 1, 1) := by decide +kernel
theorem dX1_lookAt_13 : decode cX1_lookAt 13 = .ok (.getfield 50, 3) := by decide +kernel
theorem dX1_lookAt_16 : decode cX1_lookAt 16 = .ok (.getfield 53, 3) := by decide +kernel
theorem dX1_lookAt_19 : decode cX1_lookAt 19 = .ok (.putfield 37, 3) := by decide +kernel
theorem dX1_lookAt_22 : decode cX1_lookAt 22 = .ok (.aload_n 0, 1) := by decide +kernel
theorem dX1_lookAt_23 : decode cX1_lookAt 23 = .ok (.iconst 0, 1) := by decide +kernel
theorem dX1_lookAt_24 : decode cX1_lookAt 24 = .ok (.putfield 27, 3) := by decide +kernel
theorem dX1_lookAt_27 : decode cX1_lookAt 27 = .ok (.aload_n 0, 1) := by decide +kernel
theorem dX1_lookAt_28 : decode cX1_lookAt 28 = .ok (.iconst 0, 1) := by decide +kernel
theorem dX1_lookAt_29 : decode cX1_lookAt 29 = .ok (.putfield 31, 3) := by decide +kernel
theorem dX1_lookAt_32 : decode cX1_lookAt 32 = .ok (.iconst 0, 1) := by decide +kernel
theorem dX1_lookAt_33 : decode cX1_lookAt 33 = .ok (.istore_n 2, 1) := by decide +kernel
theorem dX1_lookAt_34 : decode cX1_lookAt 34 = .ok (.iload_n 2, 1) := by decide +kernel
theorem dX1_lookAt_35 : decode cX1_lookAt 35 = .ok (.aload_n 0, 1) := by decide +kernel
theorem dX1_lookAt_36 : decode cX1_lookAt 36 = .ok (.getfield 34, 3) := by decide +kernel
theorem dX1_lookAt_39 : decode cX1_lookAt 39 = .ok (.if_icmp .ge 80, 3) := by decide +kernel
theorem dX1_lookAt_42 : decode cX1_lookAt 42 = .ok (.aload_n 0, 1) := by decide +kernel
theorem dX1_lookAt_43 : decode cX1_lookAt 43 = .ok (.getfield 21, 3) := by decide +kernel
theorem dX1_lookAt_46 : decode cX1_lookAt 46 = .ok (.iload_n 2, 1) := by decide +kernel
theorem dX1_lookAt_47 : decode cX1_lookAt 47 = .ok (.aload_n 1, 1) := by decide +kernel
theorem dX1_lookAt_48 : decode cX1_lookAt 48 = .ok (.getfield 40, 3) := by decide +kernel
theorem dX1_lookAt_51 : decode cX1_lookAt 51 = .ok (.getfield 56, 3) := by decide +kernel
theorem dX1_lookAt_54 : decode cX1_lookAt 54 = .ok (.iload_n 2, 1) := by decide +kernel
theorem dX1_lookAt_55 : decode cX1_lookAt 55 = .ok (.iaload, 1) := by decide +kernel
theorem dX1_lookAt_56 : decode cX1_lookAt 56 = .ok (.iastore, 1) := by decide +kernel
theorem dX1_lookAt_57 : decode cX1_lookAt 57 = .ok (.aload_n 0, 1) := by decide +kernel
theorem dX1_lookAt_58 : decode cX1_lookAt 58 = .ok (.dup, 1) := by decide +kernel
theorem dX1_lookAt_59 : decode cX1_lookAt 59 = .ok (.getfield 27, 3) := by decide +kernel
theorem dX1_lookAt_62 : decode cX1_lookAt 62 = .ok (.aload_n 1, 1) := by decide +kernel
theorem dX1_lookAt_63 : decode cX1_lookAt 63 = .ok (.getfield 40, 3) := by decide +kernel
theorem dX1_lookAt_66 : decode cX1_lookAt 66 = .ok (.iload_n 2, 1) := by decide +kernel
theorem dX1_lookAt_67 : decode cX1_lookAt 67 = .ok (.iconst 2, 1) := by decide +kernel
theorem dX1_lookAt_68 : decode cX1_lookAt 68 = .ok (.invokevirtual 57, 3) := by decide +kernel
theorem dX1_lookAt_71 : decode cX1_lookAt 71 = .ok (.ifCond .eq 9, 3) := by decide +kernel
theorem dX1_lookAt_74 : decode cX1_lookAt 74 = .ok (.iconst 1, 1) := by decide +kernel
theorem dX1_lookAt_75 : decode cX1_lookAt 75 = .ok (.iload_n 2, 1) := by decide +kernel
theorem dX1_lookAt_76 : decode cX1_lookAt 76 = .ok (.ishl, 1) := by decide +kernel
theorem dX1_lookAt_77 : decode cX1_lookAt 77 = .ok (.goto 4, 3) := by decide +kernel
theorem dX1_lookAt_80 : decode cX1_lookAt 80 = .ok (.iconst 0, 1) := by decide +kernel
theorem dX1_lookAt_81 : decode cX1_lookAt 81 = .ok (.ior, 1) := by decide +kernel
theorem dX1_lookAt_82 : decode cX1_lookAt 82 = .ok (.putfield 27, 3) := by decide +kernel
theorem dX1_lookAt_85 : decode cX1_lookAt 85 = .ok (.aload_n 0, 1) := by decide +kernel
theorem dX1_lookAt_86 : decode cX1_lookAt 86 = .ok (.dup, 1) := by decide +kernel
theorem dX1_lookAt_87 : decode cX1_lookAt 87 = .ok (.getfield 31, 3) := by decide +kernel
theorem dX1_lookAt_90 : decode cX1_lookAt 90 = .ok (.aload_n 1, 1) := by decide +kernel
theorem dX1_lookAt_91 : decode cX1_lookAt 91 = .ok (.getfield 40, 3) := by decide +kernel
theorem dX1_lookAt_94 : decode cX1_lookAt 94 = .ok (.iload_n 2, 1) := by decide +kernel
theorem dX1_lookAt_95 : decode cX1_lookAt 95 = .ok (.iconst 4, 1) := by decide +kernel
theorem dX1_lookAt_96 : decode cX1_lookAt 96 = .ok (.invokevirtual 57, 3) := by decide +kernel
theorem dX1_lookAt_99 : decode cX1_lookAt 99 = .ok (.ifCond .eq 9, 3) := by decide +kernel
theorem dX1_lookAt_102 : decode cX1_lookAt 102 = .ok (.iconst 1, 1) := by decide +kernel
theorem dX1_lookAt_103 : decode cX1_lookAt 103 = .ok (.iload_n 2, 1) := by decide +kernel
theorem dX1_lookAt_104 : decode cX1_lookAt 104 = .ok (.ishl, 1) := by decide +kernel
theorem dX1_lookAt_105 : decode cX1_lookAt 105 = .ok (.goto 4, 3) := by decide +kernel
theorem dX1_lookAt_108 : decode cX1_lookAt 108 = .ok (.iconst 0, 1) := by decide +kernel
theorem dX1_lookAt_109 : decode cX1_lookAt 109 = .ok (.ior, 1) := by decide +kernel
theorem dX1_lookAt_110 : decode cX1_lookAt 110 = .ok (.putfield 31, 3) := by decide +kernel
theorem dX1_lookAt_113 : decode cX1_lookAt 113 = .ok (.iinc 2 1, 3) := by decide +kernel
theorem dX1_lookAt_116 : decode cX1_lookAt 116 = .ok (.goto (-82), 3) := by decide +kernel
theorem dX1_lookAt_119 : decode cX1_lookAt 119 = .ok (.iconst 0, 1) := by decide +kernel
theorem dX1_lookAt_120 : decode cX1_lookAt 120 = .ok (.istore_n 2, 1) := by decide +kernel
theorem dX1_lookAt_121 : decode cX1_lookAt 121 = .ok (.iload_n 2, 1) := by decide +kernel
theorem dX1_lookAt_122 : decode cX1_lookAt 122 = .ok (.aload_n 0, 1) := by decide +kernel
theorem dX1_lookAt_123 : decode cX1_lookAt 123 = .ok (.getfield 37, 3) := by decide +kernel
theorem dX1_lookAt_126 : decode cX1_lookAt 126 = .ok (.if_icmp .ge 76, 3) := by decide +kernel
theorem dX1_lookAt_129 : decode cX1_lookAt 129 = .ok (.aload_n 0, 1) := by decide +kernel
theorem dX1_lookAt_130 : decode cX1_lookAt 130 = .ok (.getfield 18, 3) := by decide +kernel
theorem dX1_lookAt_133 : decode cX1_lookAt 133 = .ok (.iload_n 2, 1) := by decide +kernel
theorem dX1_lookAt_134 : decode cX1_lookAt 134 = .ok (.aload_n 1, 1) := by decide +kernel
theorem dX1_lookAt_135 : decode cX1_lookAt 135 = .ok (.getfield 50, 3) := by decide +kernel
theorem dX1_lookAt_138 : decode cX1_lookAt 138 = .ok (.getfield 61, 3) := by decide +kernel
theorem dX1_lookAt_141 : decode cX1_lookAt 141 = .ok (.iload_n 2, 1) := by decide +kernel
theorem dX1_lookAt_142 : decode cX1_lookAt 142 = .ok (.iaload, 1) := by decide +kernel
theorem dX1_lookAt_143 : decode cX1_lookAt 143 = .ok (.iastore, 1) := by decide +kernel
theorem dX1_lookAt_144 : decode cX1_lookAt 144 = .ok (.iconst 0, 1) := by decide +kernel
theorem dX1_lookAt_145 : decode cX1_lookAt 145 = .ok (.istore_n 3, 1) := by decide +kernel
theorem dX1_lookAt_146 : decode cX1_lookAt 146 = .ok (.iload_n 3, 1) := by decide +kernel
theorem dX1_lookAt_147 : decode cX1_lookAt 147 = .ok (.aload_n 0, 1) := by decide +kernel
theorem dX1_lookAt_148 : decode cX1_lookAt 148 = .ok (.getfield 34, 3) := by decide +kernel
theorem dX1_lookAt_151 : decode cX1_lookAt 151 = .ok (.if_icmp .ge 45, 3) := by decide +kernel
theorem dX1_lookAt_154 : decode cX1_lookAt 154 = .ok (.aload_n 0, 1) := by decide +kernel
theorem dX1_lookAt_155 : decode cX1_lookAt 155 = .ok (.getfield 9, 3) := by decide +kernel
theorem dX1_lookAt_158 : decode cX1_lookAt 158 = .ok (.iload_n 2, 1) := by decide +kernel
theorem dX1_lookAt_159 : decode cX1_lookAt 159 = .ok (.bipush 12, 2) := by decide +kernel
theorem dX1_lookAt_161 : decode cX1_lookAt 161 = .ok (.imul, 1) := by decide +kernel
theorem dX1_lookAt_162 : decode cX1_lookAt 162 = .ok (.iload_n 3, 1) := by decide +kernel
theorem dX1_lookAt_163 : decode cX1_lookAt 163 = .ok (.iadd, 1) := by decide +kernel
theorem dX1_lookAt_164 : decode cX1_lookAt 164 = .ok (.aload_n 1, 1) := by decide +kernel
theorem dX1_lookAt_165 : decode cX1_lookAt 165 = .ok (.iload_n 3, 1) := by decide +kernel
theorem dX1_lookAt_166 : decode cX1_lookAt 166 = .ok (.iload_n 2, 1) := by decide +kernel
theorem dX1_lookAt_167 : decode cX1_lookAt 167 = .ok (.iconst 0, 1) := by decide +kernel
theorem dX1_lookAt_168 : decode cX1_lookAt 168 = .ok (.invokevirtual 62, 3) := by decide +kernel
theorem dX1_lookAt_171 : decode cX1_lookAt 171 = .ok (.iastore, 1) := by decide +kernel
theorem dX1_lookAt_172 : decode cX1_lookAt 172 = .ok (.aload_n 0, 1) := by decide +kernel
theorem dX1_lookAt_173 : decode cX1_lookAt 173 = .ok (.getfield 15, 3) := by decide +kernel
theorem dX1_lookAt_176 : decode cX1_lookAt 176 = .ok (.iload_n 2, 1) := by decide +kernel
theorem dX1_lookAt_177 : decode cX1_lookAt 177 = .ok (.bipush 12, 2) := by decide +kernel
theorem dX1_lookAt_179 : decode cX1_lookAt 179 = .ok (.imul, 1) := by decide +kernel
theorem dX1_lookAt_180 : decode cX1_lookAt 180 = .ok (.iload_n 3, 1) := by decide +kernel
theorem dX1_lookAt_181 : decode cX1_lookAt 181 = .ok (.iadd, 1) := by decide +kernel
theorem dX1_lookAt_182 : decode cX1_lookAt 182 = .ok (.aload_n 1, 1) := by decide +kernel
theorem dX1_lookAt_183 : decode cX1_lookAt 183 = .ok (.iload_n 3, 1) := by decide +kernel
theorem dX1_lookAt_184 : decode cX1_lookAt 184 = .ok (.iload_n 2, 1) := by decide +kernel
theorem dX1_lookAt_185 : decode cX1_lookAt 185 = .ok (.iconst 1, 1) := by decide +kernel
theorem dX1_lookAt_186 : decode cX1_lookAt 186 = .ok (.invokevirtual 62, 3) := by decide +kernel
theorem dX1_lookAt_189 : decode cX1_lookAt 189 = .ok (.iastore, 1) := by decide +kernel
theorem dX1_lookAt_190 : decode cX1_lookAt 190 = .ok (.iinc 3 1, 3) := by decide +kernel
theorem dX1_lookAt_193 : decode cX1_lookAt 193 = .ok (.goto (-47), 3) := by decide +kernel
theorem dX1_lookAt_196 : decode cX1_lookAt 196 = .ok (.iinc 2 1, 3) := by decide +kernel
theorem dX1_lookAt_199 : decode cX1_lookAt 199 = .ok (.goto (-78), 3) := by decide +kernel
theorem dX1_lookAt_202 : decode cX1_lookAt 202 = .ok (.return_, 1) := by decide +kernel
theorem dX1_valueOf_0 : decode cX1_valueOf 0 = .ok (.iload_n 1, 1) := by decide +kernel
theorem dX1_valueOf_1 : decode cX1_valueOf 1 = .ok (.aload_n 0, 1) := by decide +kernel
theorem dX1_valueOf_2 : decode cX1_valueOf 2 = .ok (.getfield 27, 3) := by decide +kernel
theorem dX1_valueOf_5 : decode cX1_valueOf 5 = .ok (.iand, 1) := by decide +kernel
theorem dX1_valueOf_6 : decode cX1_valueOf 6 = .ok (.ifCond .eq 10, 3) := by decide +kernel
theorem dX1_valueOf_9 : decode cX1_valueOf 9 = .ok (.aload_n 0, 1) := by decide +kernel
theorem dX1_valueOf_10 : decode cX1_valueOf 10 = .ok (.getfield 15, 3) := by decide +kernel
theorem dX1_valueOf_13 : decode cX1_valueOf 13 = .ok (.goto 7, 3) := by decide +kernel
theorem dX1_valueOf_16 : decode cX1_valueOf 16 = .ok (.aload_n 0, 1) := by decide +kernel
theorem dX1_valueOf_17 : decode cX1_valueOf 17 = .ok (.getfield 9, 3) := by decide +kernel
theorem dX1_valueOf_20 : decode cX1_valueOf 20 = .ok (.astore_n 2, 1) := by decide +kernel
theorem dX1_valueOf_21 : decode cX1_valueOf 21 = .ok (.iload_n 1, 1) := by decide +kernel
theorem dX1_valueOf_22 : decode cX1_valueOf 22 = .ok (.aload_n 0, 1) := by decide +kernel
theorem dX1_valueOf_23 : decode cX1_valueOf 23 = .ok (.getfield 31, 3) := by decide +kernel
theorem dX1_valueOf_26 : decode cX1_valueOf 26 = .ok (.iand, 1) := by decide +kernel
theorem dX1_valueOf_27 : decode cX1_valueOf 27 = .ok (.ifCond .eq 7, 3) := by decide +kernel
theorem dX1_valueOf_30 : decode cX1_valueOf 30 = .ok (.iconst 1, 1) := by decide +kernel
theorem dX1_valueOf_31 : decode cX1_valueOf 31 = .ok (.goto 4, 3) := by decide +kernel
theorem dX1_valueOf_34 : decode cX1_valueOf 34 = .ok (.iconst 0, 1) := by decide +kernel
theorem dX1_valueOf_35 : decode cX1_valueOf 35 = .ok (.istore_n 3, 1) := by decide +kernel
theorem dX1_valueOf_36 : decode cX1_valueOf 36 = .ok (.aload_n 0, 1) := by decide +kernel
theorem dX1_valueOf_37 : decode cX1_valueOf 37 = .ok (.iload_n 1, 1) := by decide +kernel
theorem dX1_valueOf_38 : decode cX1_valueOf 38 = .ok (.invokevirtual 66, 3) := by decide +kernel
theorem dX1_valueOf_41 : decode cX1_valueOf 41 = .ok (.istore 4, 2) := by decide +kernel
theorem dX1_valueOf_43 : decode cX1_valueOf 43 = .ok (.iconst 0, 1) := by decide +kernel
theorem dX1_valueOf_44 : decode cX1_valueOf 44 = .ok (.istore 5, 2) := by decide +kernel
theorem dX1_valueOf_46 : decode cX1_valueOf 46 = .ok (.iconst 0, 1) := by decide +kernel
theorem dX1_valueOf_47 : decode cX1_valueOf 47 = .ok (.istore 6, 2) := by decide +kernel
theorem dX1_valueOf_49 : decode cX1_valueOf 49 = .ok (.iload 6, 2) := by decide +kernel
theorem dX1_valueOf_51 : decode cX1_valueOf 51 = .ok (.aload_n 0, 1) := by decide +kernel
theorem dX1_valueOf_52 : decode cX1_valueOf 52 = .ok (.getfield 37, 3) := by decide +kernel
theorem dX1_valueOf_55 : decode cX1_valueOf 55 = .ok (.if_icmp .ge 83, 3) := by decide +kernel
theorem dX1_valueOf_58 : decode cX1_valueOf 58 = .ok (.aload_n 0, 1) := by decide +kernel
theorem dX1_valueOf_59 : decode cX1_valueOf 59 = .ok (.getfield 18, 3) := by decide +kernel
theorem dX1_valueOf_62 : decode cX1_valueOf 62 = .ok (.iload 6, 2) := by decide +kernel
theorem dX1_valueOf_64 : decode cX1_valueOf 64 = .ok (.iaload, 1) := by decide +kernel
theorem dX1_valueOf_65 : decode cX1_valueOf 65 = .ok (.bipush 10, 2) := by decide +kernel
theorem dX1_valueOf_67 : decode cX1_valueOf 67 = .ok (.idiv, 1) := by decide +kernel
theorem dX1_valueOf_68 : decode cX1_valueOf 68 = .ok (.istore 7, 2) := by decide +kernel
theorem dX1_valueOf_70 : decode cX1_valueOf 70 = .ok (.iconst 0, 1) := by decide +kernel
theorem dX1_valueOf_71 : decode cX1_valueOf 71 = .ok (.istore 8, 2) := by decide +kernel
theorem dX1_valueOf_73 : decode cX1_valueOf 73 = .ok (.iload 8, 2) := by decide +kernel
theorem dX1_valueOf_75 : decode cX1_valueOf 75 = .ok (.iload 4, 2) := by decide +kernel
theorem dX1_valueOf_77 : decode cX1_valueOf 77 = .ok (.if_icmp .ge 37, 3) := by decide +kernel
theorem dX1_valueOf_80 : decode cX1_valueOf 80 = .ok (.aload_n 2, 1) := by decide +kernel
theorem dX1_valueOf_81 : decode cX1_valueOf 81 = .ok (.iload 6, 2) := by decide +kernel
theorem dX1_valueOf_83 : decode cX1_valueOf 83 = .ok (.bipush 12, 2) := by decide +kernel
theorem dX1_valueOf_85 : decode cX1_valueOf 85 = .ok (.imul, 1) := by decide +kernel
theorem dX1_valueOf_86 : decode cX1_valueOf 86 = .ok (.aload_n 0, 1) := by decide +kernel
theorem dX1_valueOf_87 : decode cX1_valueOf 87 = .ok (.getfield 24, 3) := by decide +kernel
theorem dX1_valueOf_90 : decode cX1_valueOf 90 = .ok (.iload 8, 2) := by decide +kernel
theorem dX1_valueOf_92 : decode cX1_valueOf 92 = .ok (.iaload, 1) := by decide +kernel
theorem dX1_valueOf_93 : decode cX1_valueOf 93 = .ok (.iadd, 1) := by decide +kernel
theorem dX1_valueOf_94 : decode cX1_valueOf 94 = .ok (.iaload, 1) := by decide +kernel
theorem dX1_valueOf_95 : decode cX1_valueOf 95 = .ok (.istore 9, 2) := by decide +kernel
theorem dX1_valueOf_97 : decode cX1_valueOf 97 = .ok (.iload 9, 2) := by decide +kernel
theorem dX1_valueOf_99 : decode cX1_valueOf 99 = .ok (.iload 7, 2) := by decide +kernel
theorem dX1_valueOf_101 : decode cX1_valueOf 101 = .ok (.if_icmp .le 7, 3) := by decide +kernel
theorem dX1_valueOf_104 : decode cX1_valueOf 104 = .ok (.iload 9, 2) := by decide +kernel
theorem dX1_valueOf_106 : decode cX1_valueOf 106 = .ok (.istore 7, 2) := by decide +kernel
theorem dX1_valueOf_108 : decode cX1_valueOf 108 = .ok (.iinc 8 1, 3) := by decide +kernel
theorem dX1_valueOf_111 : decode cX1_valueOf 111 = .ok (.goto (-38), 3) := by decide +kernel
theorem dX1_valueOf_114 : decode cX1_valueOf 114 = .ok (.iload 5, 2) := by decide +kernel
theorem dX1_valueOf_116 : decode cX1_valueOf 116 = .ok (.aload_n 0, 1) := by decide +kernel
theorem dX1_valueOf_117 : decode cX1_valueOf 117 = .ok (.getfield 18, 3) := by decide +kernel
theorem dX1_valueOf_120 : decode cX1_valueOf 120 = .ok (.iload 6, 2) := by decide +kernel
theorem dX1_valueOf_122 : decode cX1_valueOf 122 = .ok (.iaload, 1) := by decide +kernel
theorem dX1_valueOf_123 : decode cX1_valueOf 123 = .ok (.iload 7, 2) := by decide +kernel
theorem dX1_valueOf_125 : decode cX1_valueOf 125 = .ok (.iload_n 3, 1) := by decide +kernel
theorem dX1_valueOf_126 : decode cX1_valueOf 126 = .ok (.invokestatic 70, 3) := by decide +kernel
theorem dX1_valueOf_129 : decode cX1_valueOf 129 = .ok (.iadd, 1) := by decide +kernel
theorem dX1_valueOf_130 : decode cX1_valueOf 130 = .ok (.istore 5, 2) := by decide +kernel
theorem dX1_valueOf_132 : decode cX1_valueOf 132 = .ok (.iinc 6 1, 3) := by decide +kernel
theorem dX1_valueOf_135 : decode cX1_valueOf 135 = .ok (.goto (-86), 3) := by decide +kernel
theorem dX1_valueOf_138 : decode cX1_valueOf 138 = .ok (.iload 5, 2) := by decide +kernel
theorem dX1_valueOf_140 : decode cX1_valueOf 140 = .ok (.ireturn, 1) := by decide +kernel
theorem dX1_listMembers_0 : decode cX1_listMembers 0 = .ok (.iconst 0, 1) := by decide +kernel
theorem dX1_listMembers_1 : decode cX1_listMembers 1 = .ok (.istore_n 2, 1) := by decide +kernel
theorem dX1_listMembers_2 : decode cX1_listMembers 2 = .ok (.iconst 0, 1) := by decide +kernel
theorem dX1_listMembers_3 : decode cX1_listMembers 3 = .ok (.istore_n 3, 1) := by decide +kernel
theorem dX1_listMembers_4 : decode cX1_listMembers 4 = .ok (.iload_n 3, 1) := by decide +kernel
theorem dX1_listMembers_5 : decode cX1_listMembers 5 = .ok (.aload_n 0, 1) := by decide +kernel
theorem dX1_listMembers_6 : decode cX1_listMembers 6 = .ok (.getfield 34, 3) := by decide +kernel
theorem dX1_listMembers_9 : decode cX1_listMembers 9 = .ok (.if_icmp .ge 27, 3) := by decide +kernel
theorem dX1_listMembers_12 : decode cX1_listMembers 12 = .ok (.iload_n 1, 1) := by decide +kernel
theorem dX1_listMembers_13 : decode cX1_listMembers 13 = .ok (.iload_n 3, 1) := by decide +kernel
theorem dX1_listMembers_14 : decode cX1_listMembers 14 = .ok (.invokestatic 73, 3) := by decide +kernel
theorem dX1_listMembers_17 : decode cX1_listMembers 17 = .ok (.ifCond .eq 13, 3) := by decide +kernel
theorem dX1_listMembers_20 : decode cX1_listMembers 20 = .ok (.aload_n 0, 1) := by decide +kernel
theorem dX1_listMembers_21 : decode cX1_listMembers 21 = .ok (.getfield 24, 3) := by decide +kernel
theorem dX1_listMembers_24 : decode cX1_listMembers 24 = .ok (.iload_n 2, 1) := by decide +kernel
theorem dX1_listMembers_25 : decode cX1_listMembers 25 = .ok (.iload_n 3, 1) := by decide +kernel
theorem dX1_listMembers_26 : decode cX1_listMembers 26 = .ok (.iastore, 1) := by decide +kernel
theorem dX1_listMembers_27 : decode cX1_listMembers 27 = .ok (.iinc 2 1, 3) := by decide +kernel
theorem dX1_listMembers_30 : decode cX1_listMembers 30 = .ok (.iinc 3 1, 3) := by decide +kernel
theorem dX1_listMembers_33 : decode cX1_listMembers 33 = .ok (.goto (-29), 3) := by decide +kernel
theorem dX1_listMembers_36 : decode cX1_listMembers 36 = .ok (.iload_n 2, 1) := by decide +kernel
theorem dX1_listMembers_37 : decode cX1_listMembers 37 = .ok (.ireturn, 1) := by decide +kernel
theorem dX1_minutesOf_0 : decode cX1_minutesOf 0 = .ok (.iconst 0, 1) := by decide +kernel
theorem dX1_minutesOf_1 : decode cX1_minutesOf 1 = .ok (.istore_n 2, 1) := by decide +kernel
theorem dX1_minutesOf_2 : decode cX1_minutesOf 2 = .ok (.iconst 0, 1) := by decide +kernel
theorem dX1_minutesOf_3 : decode cX1_minutesOf 3 = .ok (.istore_n 3, 1) := by decide +kernel
theorem dX1_minutesOf_4 : decode cX1_minutesOf 4 = .ok (.iload_n 3, 1) := by decide +kernel
theorem dX1_minutesOf_5 : decode cX1_minutesOf 5 = .ok (.aload_n 0, 1) := by decide +kernel
theorem dX1_minutesOf_6 : decode cX1_minutesOf 6 = .ok (.getfield 34, 3) := by decide +kernel
theorem dX1_minutesOf_9 : decode cX1_minutesOf 9 = .ok (.if_icmp .ge 26, 3) := by decide +kernel
theorem dX1_minutesOf_12 : decode cX1_minutesOf 12 = .ok (.iload_n 1, 1) := by decide +kernel
theorem dX1_minutesOf_13 : decode cX1_minutesOf 13 = .ok (.iload_n 3, 1) := by decide +kernel
theorem dX1_minutesOf_14 : decode cX1_minutesOf 14 = .ok (.invokestatic 73, 3) := by decide +kernel
theorem dX1_minutesOf_17 : decode cX1_minutesOf 17 = .ok (.ifCond .eq 12, 3) := by decide +kernel
theorem dX1_minutesOf_20 : decode cX1_minutesOf 20 = .ok (.iload_n 2, 1) := by decide +kernel
theorem dX1_minutesOf_21 : decode cX1_minutesOf 21 = .ok (.aload_n 0, 1) := by decide +kernel
theorem dX1_minutesOf_22 : decode cX1_minutesOf 22 = .ok (.getfield 21, 3) := by decide +kernel
theorem dX1_minutesOf_25 : decode cX1_minutesOf 25 = .ok (.iload_n 3, 1) := by decide +kernel
theorem dX1_minutesOf_26 : decode cX1_minutesOf 26 = .ok (.iaload, 1) := by decide +kernel
theorem dX1_minutesOf_27 : decode cX1_minutesOf 27 = .ok (.iadd, 1) := by decide +kernel
theorem dX1_minutesOf_28 : decode cX1_minutesOf 28 = .ok (.istore_n 2, 1) := by decide +kernel
theorem dX1_minutesOf_29 : decode cX1_minutesOf 29 = .ok (.iinc 3 1, 3) := by decide +kernel
theorem dX1_minutesOf_32 : decode cX1_minutesOf 32 = .ok (.goto (-28), 3) := by decide +kernel
theorem dX1_minutesOf_35 : decode cX1_minutesOf 35 = .ok (.iload_n 2, 1) := by decide +kernel
theorem dX1_minutesOf_36 : decode cX1_minutesOf 36 = .ok (.ireturn, 1) := by decide +kernel
theorem dX1_bestSet_0 : decode cX1_bestSet 0 = .ok (.iconst 0, 1) := by decide +kernel
theorem dX1_bestSet_1 : decode cX1_bestSet 1 = .ok (.istore_n 2, 1) := by decide +kernel
theorem dX1_bestSet_2 : decode cX1_bestSet 2 = .ok (.aload_n 0, 1) := by decide +kernel
theorem dX1_bestSet_3 : decode cX1_bestSet 3 = .ok (.iconst 0, 1) := by decide +kernel
theorem dX1_bestSet_4 : decode cX1_bestSet 4 = .ok (.invokevirtual 76, 3) := by decide +kernel
theorem dX1_bestSet_7 : decode cX1_bestSet 7 = .ok (.istore_n 3, 1) := by decide +kernel
theorem dX1_bestSet_8 : decode cX1_bestSet 8 = .ok (.iconst 0, 1) := by decide +kernel
theorem dX1_bestSet_9 : decode cX1_bestSet 9 = .ok (.istore 4, 2) := by decide +kernel
theorem dX1_bestSet_11 : decode cX1_bestSet 11 = .ok (.iconst 1, 1) := by decide +kernel
theorem dX1_bestSet_12 : decode cX1_bestSet 12 = .ok (.istore 5, 2) := by decide +kernel
theorem dX1_bestSet_14 : decode cX1_bestSet 14 = .ok (.iload 5, 2) := by decide +kernel
theorem dX1_bestSet_16 : decode cX1_bestSet 16 = .ok (.iconst 1, 1) := by decide +kernel
theorem dX1_bestSet_17 : decode cX1_bestSet 17 = .ok (.aload_n 0, 1) := by decide +kernel
theorem dX1_bestSet_18 : decode cX1_bestSet 18 = .ok (.getfield 34, 3) := by decide +kernel
theorem dX1_bestSet_21 : decode cX1_bestSet 21 = .ok (.ishl, 1) := by decide +kernel
theorem dX1_bestSet_22 : decode cX1_bestSet 22 = .ok (.if_icmp .ge 60, 3) := by decide +kernel
theorem dX1_bestSet_25 : decode cX1_bestSet 25 = .ok (.aload_n 0, 1) := by decide +kernel
theorem dX1_bestSet_26 : decode cX1_bestSet 26 = .ok (.iload 5, 2) := by decide +kernel
theorem dX1_bestSet_28 : decode cX1_bestSet 28 = .ok (.invokevirtual 79, 3) := by decide +kernel
theorem dX1_bestSet_31 : decode cX1_bestSet 31 = .ok (.istore 6, 2) := by decide +kernel
theorem dX1_bestSet_33 : decode cX1_bestSet 33 = .ok (.iload 6, 2) := by decide +kernel
theorem dX1_bestSet_35 : decode cX1_bestSet 35 = .ok (.iload_n 1, 1) := by decide +kernel
theorem dX1_bestSet_36 : decode cX1_bestSet 36 = .ok (.if_icmp .gt 40, 3) := by decide +kernel
theorem dX1_bestSet_39 : decode cX1_bestSet 39 = .ok (.aload_n 0, 1) := by decide +kernel
theorem dX1_bestSet_40 : decode cX1_bestSet 40 = .ok (.iload 5, 2) := by decide +kernel
theorem dX1_bestSet_42 : decode cX1_bestSet 42 = .ok (.invokevirtual 76, 3) := by decide +kernel
theorem dX1_bestSet_45 : decode cX1_bestSet 45 = .ok (.istore 7, 2) := by decide +kernel
theorem dX1_bestSet_47 : decode cX1_bestSet 47 = .ok (.iload 7, 2) := by decide +kernel
theorem dX1_bestSet_49 : decode cX1_bestSet 49 = .ok (.iload_n 3, 1) := by decide +kernel
theorem dX1_bestSet_50 : decode cX1_bestSet 50 = .ok (.if_icmp .gt 16, 3) := by decide +kernel
theorem dX1_bestSet_53 : decode cX1_bestSet 53 = .ok (.iload 7, 2) := by decide +kernel
theorem dX1_bestSet_55 : decode cX1_bestSet 55 = .ok (.iload_n 3, 1) := by decide +kernel
theorem dX1_bestSet_56 : decode cX1_bestSet 56 = .ok (.if_icmp .ne 20, 3) := by decide +kernel
theorem dX1_bestSet_59 : decode cX1_bestSet 59 = .ok (.iload 6, 2) := by decide +kernel
theorem dX1_bestSet_61 : decode cX1_bestSet 61 = .ok (.iload 4, 2) := by decide +kernel
theorem dX1_bestSet_63 : decode cX1_bestSet 63 = .ok (.if_icmp .ge 13, 3) := by decide +kernel
theorem dX1_bestSet_66 : decode cX1_bestSet 66 = .ok (.iload 5, 2) := by decide +kernel
theorem dX1_bestSet_68 : decode cX1_bestSet 68 = .ok (.istore_n 2, 1) := by decide +kernel
theorem dX1_bestSet_69 : decode cX1_bestSet 69 = .ok (.iload 7, 2) := by decide +kernel
theorem dX1_bestSet_71 : decode cX1_bestSet 71 = .ok (.istore_n 3, 1) := by decide +kernel
theorem dX1_bestSet_72 : decode cX1_bestSet 72 = .ok (.iload 6, 2) := by decide +kernel
theorem dX1_bestSet_74 : decode cX1_bestSet 74 = .ok (.istore 4, 2) := by decide +kernel
theorem dX1_bestSet_76 : decode cX1_bestSet 76 = .ok (.iinc 5 1, 3) := by decide +kernel
theorem dX1_bestSet_79 : decode cX1_bestSet 79 = .ok (.goto (-65), 3) := by decide +kernel
theorem dX1_bestSet_82 : decode cX1_bestSet 82 = .ok (.iload_n 2, 1) := by decide +kernel
theorem dX1_bestSet_83 : decode cX1_bestSet 83 = .ok (.ireturn, 1) := by decide +kernel
theorem dX1_fewestMinutes_0 : decode cX1_fewestMinutes 0 = .ok (.iconst (-1), 1) := by decide +kernel
theorem dX1_fewestMinutes_1 : decode cX1_fewestMinutes 1 = .ok (.istore_n 2, 1) := by decide +kernel
theorem dX1_fewestMinutes_2 : decode cX1_fewestMinutes 2 = .ok (.iconst 0, 1) := by decide +kernel
theorem dX1_fewestMinutes_3 : decode cX1_fewestMinutes 3 = .ok (.istore_n 3, 1) := by decide +kernel
theorem dX1_fewestMinutes_4 : decode cX1_fewestMinutes 4 = .ok (.iload_n 3, 1) := by decide +kernel
theorem dX1_fewestMinutes_5 : decode cX1_fewestMinutes 5 = .ok (.iconst 1, 1) := by decide +kernel
theorem dX1_fewestMinutes_6 : decode cX1_fewestMinutes 6 = .ok (.aload_n 0, 1) := by decide +kernel
theorem dX1_fewestMinutes_7 : decode cX1_fewestMinutes 7 = .ok (.getfield 34, 3) := by decide +kernel
theorem dX1_fewestMinutes_10 : decode cX1_fewestMinutes 10 = .ok (.ishl, 1) := by decide +kernel
theorem dX1_fewestMinutes_11 : decode cX1_fewestMinutes 11 = .ok (.if_icmp .ge 38, 3) := by decide +kernel
theorem dX1_fewestMinutes_14 : decode cX1_fewestMinutes 14 = .ok (.aload_n 0, 1) := by decide +kernel
theorem dX1_fewestMinutes_15 : decode cX1_fewestMinutes 15 = .ok (.iload_n 3, 1) := by decide +kernel
theorem dX1_fewestMinutes_16 : decode cX1_fewestMinutes 16 = .ok (.invokevirtual 79, 3) := by decide +kernel
theorem dX1_fewestMinutes_19 : decode cX1_fewestMinutes 19 = .ok (.istore 4, 2) := by decide +kernel
theorem dX1_fewestMinutes_21 : decode cX1_fewestMinutes 21 = .ok (.iload_n 2, 1) := by decide +kernel
theorem dX1_fewestMinutes_22 : decode cX1_fewestMinutes 22 = .ok (.ifCond .lt 9, 3) := by decide +kernel
theorem dX1_fewestMinutes_25 : decode cX1_fewestMinutes 25 = .ok (.iload 4, 2) := by decide +kernel
theorem dX1_fewestMinutes_27 : decode cX1_fewestMinutes 27 = .ok (.iload_n 2, 1) := by decide +kernel
theorem dX1_fewestMinutes_28 : decode cX1_fewestMinutes 28 = .ok (.if_icmp .ge 15, 3) := by decide +kernel
theorem dX1_fewestMinutes_31 : decode cX1_fewestMinutes 31 = .ok (.aload_n 0, 1) := by decide +kernel
theorem dX1_fewestMinutes_32 : decode cX1_fewestMinutes 32 = .ok (.iload_n 3, 1) := by decide +kernel
theorem dX1_fewestMinutes_33 : decode cX1_fewestMinutes 33 = .ok (.invokevirtual 76, 3) := by decide +kernel
theorem dX1_fewestMinutes_36 : decode cX1_fewestMinutes 36 = .ok (.iload_n 1, 1) := by decide +kernel
theorem dX1_fewestMinutes_37 : decode cX1_fewestMinutes 37 = .ok (.if_icmp .lt 6, 3) := by decide +kernel
theorem dX1_fewestMinutes_40 : decode cX1_fewestMinutes 40 = .ok (.iload 4, 2) := by decide +kernel
theorem dX1_fewestMinutes_42 : decode cX1_fewestMinutes 42 = .ok (.istore_n 2, 1) := by decide +kernel
theorem dX1_fewestMinutes_43 : decode cX1_fewestMinutes 43 = .ok (.iinc 3 1, 3) := by decide +kernel
theorem dX1_fewestMinutes_46 : decode cX1_fewestMinutes 46 = .ok (.goto (-42), 3) := by decide +kernel
theorem dX1_fewestMinutes_49 : decode cX1_fewestMinutes 49 = .ok (.iload_n 2, 1) := by decide +kernel
theorem dX1_fewestMinutes_50 : decode cX1_fewestMinutes 50 = .ok (.ireturn, 1) := by decide +kernel
theorem dX1_greedySet_0 : decode cX1_greedySet 0 = .ok (.iconst 0, 1) := by decide +kernel
theorem dX1_greedySet_1 : decode cX1_greedySet 1 = .ok (.istore_n 2, 1) := by decide +kernel
theorem dX1_greedySet_2 : decode cX1_greedySet 2 = .ok (.iload_n 1, 1) := by decide +kernel
theorem dX1_greedySet_3 : decode cX1_greedySet 3 = .ok (.istore_n 3, 1) := by decide +kernel
theorem dX1_greedySet_4 : decode cX1_greedySet 4 = .ok (.iconst 0, 1) := by decide +kernel
theorem dX1_greedySet_5 : decode cX1_greedySet 5 = .ok (.istore 4, 2) := by decide +kernel
theorem dX1_greedySet_7 : decode cX1_greedySet 7 = .ok (.iload 4, 2) := by decide +kernel
theorem dX1_greedySet_9 : decode cX1_greedySet 9 = .ok (.aload_n 0, 1) := by decide +kernel
theorem dX1_greedySet_10 : decode cX1_greedySet 10 = .ok (.getfield 34, 3) := by decide +kernel
theorem dX1_greedySet_13 : decode cX1_greedySet 13 = .ok (.if_icmp .ge 42, 3) := by decide +kernel
theorem dX1_greedySet_16 : decode cX1_greedySet 16 = .ok (.aload_n 0, 1) := by decide +kernel
theorem dX1_greedySet_17 : decode cX1_greedySet 17 = .ok (.iload_n 2, 1) := by decide +kernel
theorem dX1_greedySet_18 : decode cX1_greedySet 18 = .ok (.iload_n 3, 1) := by decide +kernel
theorem dX1_greedySet_19 : decode cX1_greedySet 19 = .ok (.invokevirtual 82, 3) := by decide +kernel
theorem dX1_greedySet_22 : decode cX1_greedySet 22 = .ok (.istore 5, 2) := by decide +kernel
theorem dX1_greedySet_24 : decode cX1_greedySet 24 = .ok (.iload 5, 2) := by decide +kernel
theorem dX1_greedySet_26 : decode cX1_greedySet 26 = .ok (.ifCond .ge 6, 3) := by decide +kernel
theorem dX1_greedySet_29 : decode cX1_greedySet 29 = .ok (.goto 26, 3) := by decide +kernel
theorem dX1_greedySet_32 : decode cX1_greedySet 32 = .ok (.iload_n 2, 1) := by decide +kernel
theorem dX1_greedySet_33 : decode cX1_greedySet 33 = .ok (.iconst 1, 1) := by decide +kernel
theorem dX1_greedySet_34 : decode cX1_greedySet 34 = .ok (.iload 5, 2) := by decide +kernel
theorem dX1_greedySet_36 : decode cX1_greedySet 36 = .ok (.ishl, 1) := by decide +kernel
theorem dX1_greedySet_37 : decode cX1_greedySet 37 = .ok (.ior, 1) := by decide +kernel
theorem dX1_greedySet_38 : decode cX1_greedySet 38 = .ok (.istore_n 2, 1) := by decide +kernel
theorem dX1_greedySet_39 : decode cX1_greedySet 39 = .ok (.iload_n 3, 1) := by decide +kernel
theorem dX1_greedySet_40 : decode cX1_greedySet 40 = .ok (.aload_n 0, 1) := by decide +kernel
theorem dX1_greedySet_41 : decode cX1_greedySet 41 = .ok (.getfield 21, 3) := by decide +kernel
theorem dX1_greedySet_44 : decode cX1_greedySet 44 = .ok (.iload 5, 2) := by decide +kernel
theorem dX1_greedySet_46 : decode cX1_greedySet 46 = .ok (.iaload, 1) := by decide +kernel
theorem dX1_greedySet_47 : decode cX1_greedySet 47 = .ok (.isub, 1) := by decide +kernel
theorem dX1_greedySet_48 : decode cX1_greedySet 48 = .ok (.istore_n 3, 1) := by decide +kernel
theorem dX1_greedySet_49 : decode cX1_greedySet 49 = .ok (.iinc 4 1, 3) := by decide +kernel
theorem dX1_greedySet_52 : decode cX1_greedySet 52 = .ok (.goto (-45), 3) := by decide +kernel
theorem dX1_greedySet_55 : decode cX1_greedySet 55 = .ok (.iload_n 2, 1) := by decide +kernel
theorem dX1_greedySet_56 : decode cX1_greedySet 56 = .ok (.ireturn, 1) := by decide +kernel
theorem dX1_greedyStep_0 : decode cX1_greedyStep 0 = .ok (.aload_n 0, 1) := by decide +kernel
theorem dX1_greedyStep_1 : decode cX1_greedyStep 1 = .ok (.iload_n 1, 1) := by decide +kernel
theorem dX1_greedyStep_2 : decode cX1_greedyStep 2 = .ok (.invokevirtual 76, 3) := by decide +kernel
theorem dX1_greedyStep_5 : decode cX1_greedyStep 5 = .ok (.istore_n 3, 1) := by decide +kernel
theorem dX1_greedyStep_6 : decode cX1_greedyStep 6 = .ok (.iconst (-1), 1) := by decide +kernel
theorem dX1_greedyStep_7 : decode cX1_greedyStep 7 = .ok (.istore 4, 2) := by decide +kernel
theorem dX1_greedyStep_9 : decode cX1_greedyStep 9 = .ok (.iconst 0, 1) := by decide +kernel
theorem dX1_greedyStep_10 : decode cX1_greedyStep 10 = .ok (.istore 5, 2) := by decide +kernel
theorem dX1_greedyStep_12 : decode cX1_greedyStep 12 = .ok (.iload 5, 2) := by decide +kernel
theorem dX1_greedyStep_14 : decode cX1_greedyStep 14 = .ok (.aload_n 0, 1) := by decide +kernel
theorem dX1_greedyStep_15 : decode cX1_greedyStep 15 = .ok (.getfield 34, 3) := by decide +kernel
theorem dX1_greedyStep_18 : decode cX1_greedyStep 18 = .ok (.if_icmp .ge 94, 3) := by decide +kernel
theorem dX1_greedyStep_21 : decode cX1_greedyStep 21 = .ok (.iload_n 1, 1) := by decide +kernel
theorem dX1_greedyStep_22 : decode cX1_greedyStep 22 = .ok (.iload 5, 2) := by decide +kernel
theorem dX1_greedyStep_24 : decode cX1_greedyStep 24 = .ok (.invokestatic 73, 3) := by decide +kernel
theorem dX1_greedyStep_27 : decode cX1_greedyStep 27 = .ok (.ifCond .ne 79, 3) := by decide +kernel
theorem dX1_greedyStep_30 : decode cX1_greedyStep 30 = .ok (.aload_n 0, 1) := by decide +kernel
theorem dX1_greedyStep_31 : decode cX1_greedyStep 31 = .ok (.getfield 21, 3) := by decide +kernel
theorem dX1_greedyStep_34 : decode cX1_greedyStep 34 = .ok (.iload 5, 2) := by decide +kernel
theorem dX1_greedyStep_36 : decode cX1_greedyStep 36 = .ok (.iaload, 1) := by decide +kernel
theorem dX1_greedyStep_37 : decode cX1_greedyStep 37 = .ok (.iload_n 2, 1) := by decide +kernel
theorem dX1_greedyStep_38 : decode cX1_greedyStep 38 = .ok (.if_icmp .gt 68, 3) := by decide +kernel
theorem dX1_greedyStep_41 : decode cX1_greedyStep 41 = .ok (.aload_n 0, 1) := by decide +kernel
theorem dX1_greedyStep_42 : decode cX1_greedyStep 42 = .ok (.iload_n 1, 1) := by decide +kernel
theorem dX1_greedyStep_43 : decode cX1_greedyStep 43 = .ok (.iconst 1, 1) := by decide +kernel
theorem dX1_greedyStep_44 : decode cX1_greedyStep 44 = .ok (.iload 5, 2) := by decide +kernel
theorem dX1_greedyStep_46 : decode cX1_greedyStep 46 = .ok (.ishl, 1) := by decide +kernel
theorem dX1_greedyStep_47 : decode cX1_greedyStep 47 = .ok (.ior, 1) := by decide +kernel
theorem dX1_greedyStep_48 : decode cX1_greedyStep 48 = .ok (.invokevirtual 76, 3) := by decide +kernel
theorem dX1_greedyStep_51 : decode cX1_greedyStep 51 = .ok (.istore 6, 2) := by decide +kernel
theorem dX1_greedyStep_53 : decode cX1_greedyStep 53 = .ok (.iload 4, 2) := by decide +kernel
theorem dX1_greedyStep_55 : decode cX1_greedyStep 55 = .ok (.ifCond .lt 30, 3) := by decide +kernel
theorem dX1_greedyStep_58 : decode cX1_greedyStep 58 = .ok (.iload 6, 2) := by decide +kernel
theorem dX1_greedyStep_60 : decode cX1_greedyStep 60 = .ok (.iload_n 3, 1) := by decide +kernel
theorem dX1_greedyStep_61 : decode cX1_greedyStep 61 = .ok (.if_icmp .ne 24, 3) := by decide +kernel
theorem dX1_greedyStep_64 : decode cX1_greedyStep 64 = .ok (.aload_n 0, 1) := by decide +kernel
theorem dX1_greedyStep_65 : decode cX1_greedyStep 65 = .ok (.getfield 21, 3) := by decide +kernel
theorem dX1_greedyStep_68 : decode cX1_greedyStep 68 = .ok (.iload 5, 2) := by decide +kernel
theorem dX1_greedyStep_70 : decode cX1_greedyStep 70 = .ok (.iaload, 1) := by decide +kernel
theorem dX1_greedyStep_71 : decode cX1_greedyStep 71 = .ok (.aload_n 0, 1) := by decide +kernel
theorem dX1_greedyStep_72 : decode cX1_greedyStep 72 = .ok (.getfield 21, 3) := by decide +kernel
theorem dX1_greedyStep_75 : decode cX1_greedyStep 75 = .ok (.iload 4, 2) := by decide +kernel
theorem dX1_greedyStep_77 : decode cX1_greedyStep 77 = .ok (.iaload, 1) := by decide +kernel
theorem dX1_greedyStep_78 : decode cX1_greedyStep 78 = .ok (.if_icmp .ge 7, 3) := by decide +kernel
theorem dX1_greedyStep_81 : decode cX1_greedyStep 81 = .ok (.iconst 1, 1) := by decide +kernel
theorem dX1_greedyStep_82 : decode cX1_greedyStep 82 = .ok (.goto 4, 3) := by decide +kernel
theorem dX1_greedyStep_85 : decode cX1_greedyStep 85 = .ok (.iconst 0, 1) := by decide +kernel
theorem dX1_greedyStep_86 : decode cX1_greedyStep 86 = .ok (.istore 7, 2) := by decide +kernel
theorem dX1_greedyStep_88 : decode cX1_greedyStep 88 = .ok (.iload 6, 2) := by decide +kernel
theorem dX1_greedyStep_90 : decode cX1_greedyStep 90 = .ok (.iload_n 3, 1) := by decide +kernel
theorem dX1_greedyStep_91 : decode cX1_greedyStep 91 = .ok (.if_icmp .gt 8, 3) := by decide +kernel
theorem dX1_greedyStep_94 : decode cX1_greedyStep 94 = .ok (.iload 7, 2) := by decide +kernel
theorem dX1_greedyStep_96 : decode cX1_greedyStep 96 = .ok (.ifCond .eq 10, 3) := by decide +kernel
theorem dX1_greedyStep_99 : decode cX1_greedyStep 99 = .ok (.iload 6, 2) := by decide +kernel
theorem dX1_greedyStep_101 : decode cX1_greedyStep 101 = .ok (.istore_n 3, 1) := by decide +kernel
theorem dX1_greedyStep_102 : decode cX1_greedyStep 102 = .ok (.iload 5, 2) := by decide +kernel
theorem dX1_greedyStep_104 : decode cX1_greedyStep 104 = .ok (.istore 4, 2) := by decide +kernel
theorem dX1_greedyStep_106 : decode cX1_greedyStep 106 = .ok (.iinc 5 1, 3) := by decide +kernel
theorem dX1_greedyStep_109 : decode cX1_greedyStep 109 = .ok (.goto (-97), 3) := by decide +kernel
theorem dX1_greedyStep_112 : decode cX1_greedyStep 112 = .ok (.iload 4, 2) := by decide +kernel
theorem dX1_greedyStep_114 : decode cX1_greedyStep 114 = .ok (.ireturn, 1) := by decide +kernel
theorem dX1_bringsMost_0 : decode cX1_bringsMost 0 = .ok (.aload_n 0, 1) := by decide +kernel
theorem dX1_bringsMost_1 : decode cX1_bringsMost 1 = .ok (.iload_n 1, 1) := by decide +kernel
theorem dX1_bringsMost_2 : decode cX1_bringsMost 2 = .ok (.invokevirtual 76, 3) := by decide +kernel
theorem dX1_bringsMost_5 : decode cX1_bringsMost 5 = .ok (.istore_n 2, 1) := by decide +kernel
theorem dX1_bringsMost_6 : decode cX1_bringsMost 6 = .ok (.iconst (-1), 1) := by decide +kernel
theorem dX1_bringsMost_7 : decode cX1_bringsMost 7 = .ok (.istore_n 3, 1) := by decide +kernel
theorem dX1_bringsMost_8 : decode cX1_bringsMost 8 = .ok (.iconst 0, 1) := by decide +kernel
theorem dX1_bringsMost_9 : decode cX1_bringsMost 9 = .ok (.istore 4, 2) := by decide +kernel
theorem dX1_bringsMost_11 : decode cX1_bringsMost 11 = .ok (.iload 4, 2) := by decide +kernel
theorem dX1_bringsMost_13 : decode cX1_bringsMost 13 = .ok (.aload_n 0, 1) := by decide +kernel
theorem dX1_bringsMost_14 : decode cX1_bringsMost 14 = .ok (.getfield 34, 3) := by decide +kernel
theorem dX1_bringsMost_17 : decode cX1_bringsMost 17 = .ok (.if_icmp .ge 42, 3) := by decide +kernel
theorem dX1_bringsMost_20 : decode cX1_bringsMost 20 = .ok (.iload_n 1, 1) := by decide +kernel
theorem dX1_bringsMost_21 : decode cX1_bringsMost 21 = .ok (.iload 4, 2) := by decide +kernel
theorem dX1_bringsMost_23 : decode cX1_bringsMost 23 = .ok (.invokestatic 73, 3) := by decide +kernel
theorem dX1_bringsMost_26 : decode cX1_bringsMost 26 = .ok (.ifCond .ne 27, 3) := by decide +kernel
theorem dX1_bringsMost_29 : decode cX1_bringsMost 29 = .ok (.aload_n 0, 1) := by decide +kernel
theorem dX1_bringsMost_30 : decode cX1_bringsMost 30 = .ok (.iload_n 1, 1) := by decide +kernel
theorem dX1_bringsMost_31 : decode cX1_bringsMost 31 = .ok (.iconst 1, 1) := by decide +kernel
theorem dX1_bringsMost_32 : decode cX1_bringsMost 32 = .ok (.iload 4, 2) := by decide +kernel
theorem dX1_bringsMost_34 : decode cX1_bringsMost 34 = .ok (.ishl, 1) := by decide +kernel
theorem dX1_bringsMost_35 : decode cX1_bringsMost 35 = .ok (.ior, 1) := by decide +kernel
theorem dX1_bringsMost_36 : decode cX1_bringsMost 36 = .ok (.invokevirtual 76, 3) := by decide +kernel
theorem dX1_bringsMost_39 : decode cX1_bringsMost 39 = .ok (.istore 5, 2) := by decide +kernel
theorem dX1_bringsMost_41 : decode cX1_bringsMost 41 = .ok (.iload 5, 2) := by decide +kernel
theorem dX1_bringsMost_43 : decode cX1_bringsMost 43 = .ok (.iload_n 2, 1) := by decide +kernel
theorem dX1_bringsMost_44 : decode cX1_bringsMost 44 = .ok (.if_icmp .le 9, 3) := by decide +kernel
theorem dX1_bringsMost_47 : decode cX1_bringsMost 47 = .ok (.iload 5, 2) := by decide +kernel
theorem dX1_bringsMost_49 : decode cX1_bringsMost 49 = .ok (.istore_n 2, 1) := by decide +kernel
theorem dX1_bringsMost_50 : decode cX1_bringsMost 50 = .ok (.iload 4, 2) := by decide +kernel
theorem dX1_bringsMost_52 : decode cX1_bringsMost 52 = .ok (.istore_n 3, 1) := by decide +kernel
theorem dX1_bringsMost_53 : decode cX1_bringsMost 53 = .ok (.iinc 4 1, 3) := by decide +kernel
theorem dX1_bringsMost_56 : decode cX1_bringsMost 56 = .ok (.goto (-45), 3) := by decide +kernel
theorem dX1_bringsMost_59 : decode cX1_bringsMost 59 = .ok (.iload_n 3, 1) := by decide +kernel
theorem dX1_bringsMost_60 : decode cX1_bringsMost 60 = .ok (.ireturn, 1) := by decide +kernel
theorem dX1_leastMissed_0 : decode cX1_leastMissed 0 = .ok (.iconst (-1), 1) := by decide +kernel
theorem dX1_leastMissed_1 : decode cX1_leastMissed 1 = .ok (.istore_n 2, 1) := by decide +kernel
theorem dX1_leastMissed_2 : decode cX1_leastMissed 2 = .ok (.iconst (-1), 1) := by decide +kernel
theorem dX1_leastMissed_3 : decode cX1_leastMissed 3 = .ok (.istore_n 3, 1) := by decide +kernel
theorem dX1_leastMissed_4 : decode cX1_leastMissed 4 = .ok (.iconst 0, 1) := by decide +kernel
theorem dX1_leastMissed_5 : decode cX1_leastMissed 5 = .ok (.istore 4, 2) := by decide +kernel
theorem dX1_leastMissed_7 : decode cX1_leastMissed 7 = .ok (.iload 4, 2) := by decide +kernel
theorem dX1_leastMissed_9 : decode cX1_leastMissed 9 = .ok (.aload_n 0, 1) := by decide +kernel
theorem dX1_leastMissed_10 : decode cX1_leastMissed 10 = .ok (.getfield 34, 3) := by decide +kernel
theorem dX1_leastMissed_13 : decode cX1_leastMissed 13 = .ok (.if_icmp .ge 44, 3) := by decide +kernel
theorem dX1_leastMissed_16 : decode cX1_leastMissed 16 = .ok (.iload_n 1, 1) := by decide +kernel
theorem dX1_leastMissed_17 : decode cX1_leastMissed 17 = .ok (.iload 4, 2) := by decide +kernel
theorem dX1_leastMissed_19 : decode cX1_leastMissed 19 = .ok (.invokestatic 73, 3) := by decide +kernel
theorem dX1_leastMissed_22 : decode cX1_leastMissed 22 = .ok (.ifCond .eq 29, 3) := by decide +kernel
theorem dX1_leastMissed_25 : decode cX1_leastMissed 25 = .ok (.aload_n 0, 1) := by decide +kernel
theorem dX1_leastMissed_26 : decode cX1_leastMissed 26 = .ok (.iload_n 1, 1) := by decide +kernel
theorem dX1_leastMissed_27 : decode cX1_leastMissed 27 = .ok (.iconst 1, 1) := by decide +kernel
theorem dX1_leastMissed_28 : decode cX1_leastMissed 28 = .ok (.iload 4, 2) := by decide +kernel
theorem dX1_leastMissed_30 : decode cX1_leastMissed 30 = .ok (.ishl, 1) := by decide +kernel
theorem dX1_leastMissed_31 : decode cX1_leastMissed 31 = .ok (.iconst (-1), 1) := by decide +kernel
theorem dX1_leastMissed_32 : decode cX1_leastMissed 32 = .ok (.ixor, 1) := by decide +kernel
theorem dX1_leastMissed_33 : decode cX1_leastMissed 33 = .ok (.iand, 1) := by decide +kernel
theorem dX1_leastMissed_34 : decode cX1_leastMissed 34 = .ok (.invokevirtual 76, 3) := by decide +kernel
theorem dX1_leastMissed_37 : decode cX1_leastMissed 37 = .ok (.istore 5, 2) := by decide +kernel
theorem dX1_leastMissed_39 : decode cX1_leastMissed 39 = .ok (.iload 5, 2) := by decide +kernel
theorem dX1_leastMissed_41 : decode cX1_leastMissed 41 = .ok (.iload_n 2, 1) := by decide +kernel
theorem dX1_leastMissed_42 : decode cX1_leastMissed 42 = .ok (.if_icmp .le 9, 3) := by decide +kernel
theorem dX1_leastMissed_45 : decode cX1_leastMissed 45 = .ok (.iload 5, 2) := by decide +kernel
theorem dX1_leastMissed_47 : decode cX1_leastMissed 47 = .ok (.istore_n 2, 1) := by decide +kernel
theorem dX1_leastMissed_48 : decode cX1_leastMissed 48 = .ok (.iload 4, 2) := by decide +kernel
theorem dX1_leastMissed_50 : decode cX1_leastMissed 50 = .ok (.istore_n 3, 1) := by decide +kernel
theorem dX1_leastMissed_51 : decode cX1_leastMissed 51 = .ok (.iinc 4 1, 3) := by decide +kernel
theorem dX1_leastMissed_54 : decode cX1_leastMissed 54 = .ok (.goto (-47), 3) := by decide +kernel
theorem dX1_leastMissed_57 : decode cX1_leastMissed 57 = .ok (.iload_n 3, 1) := by decide +kernel
theorem dX1_leastMissed_58 : decode cX1_leastMissed 58 = .ok (.ireturn, 1) := by decide +kernel
theorem dX2_init_0 : decode cX2_init 0 = .ok (.aload_n 0, 1) := by decide +kernel
theorem dX2_init_1 : decode cX2_init 1 = .ok (.invokespecial 3, 3) := by decide +kernel
theorem dX2_init_4 : decode cX2_init 4 = .ok (.aload_n 0, 1) := by decide +kernel
theorem dX2_init_5 : decode cX2_init 5 = .ok (.new 9, 3) := by decide +kernel
theorem dX2_init_8 : decode cX2_init 8 = .ok (.dup, 1) := by decide +kernel
theorem dX2_init_9 : decode cX2_init 9 = .ok (.invokespecial 11, 3) := by decide +kernel
theorem dX2_init_12 : decode cX2_init 12 = .ok (.putfield 12, 3) := by decide +kernel
theorem dX2_init_15 : decode cX2_init 15 = .ok (.return_, 1) := by decide +kernel
theorem dX2_readBook_0 : decode cX2_readBook 0 = .ok (.aload_n 0, 1) := by decide +kernel
theorem dX2_readBook_1 : decode cX2_readBook 1 = .ok (.getfield 12, 3) := by decide +kernel
theorem dX2_readBook_4 : decode cX2_readBook 4 = .ok (.invokevirtual 18, 3) := by decide +kernel
theorem dX2_readBook_7 : decode cX2_readBook 7 = .ok (.iconst 1, 1) := by decide +kernel
theorem dX2_readBook_8 : decode cX2_readBook 8 = .ok (.istore_n 2, 1) := by decide +kernel
theorem dX2_readBook_9 : decode cX2_readBook 9 = .ok (.iload_n 2, 1) := by decide +kernel
theorem dX2_readBook_10 : decode cX2_readBook 10 = .ok (.bipush 120, 2) := by decide +kernel
theorem dX2_readBook_12 : decode cX2_readBook 12 = .ok (.if_icmp .gt 53, 3) := by decide +kernel
theorem dX2_readBook_15 : decode cX2_readBook 15 = .ok (.aload_n 0, 1) := by decide +kernel
theorem dX2_readBook_16 : decode cX2_readBook 16 = .ok (.aload_n 1, 1) := by decide +kernel
theorem dX2_readBook_17 : decode cX2_readBook 17 = .ok (.invokevirtual 21, 3) := by decide +kernel
theorem dX2_readBook_20 : decode cX2_readBook 20 = .ok (.ifCond .ne 6, 3) := by decide +kernel
theorem dX2_readBook_23 : decode cX2_readBook 23 = .ok (.goto 42, 3) := by decide +kernel
theorem dX2_readBook_26 : decode cX2_readBook 26 = .ok (.aload_n 0, 1) := by decide +kernel
theorem dX2_readBook_27 : decode cX2_readBook 27 = .ok (.getfield 12, 3) := by decide +kernel
theorem dX2_readBook_30 : decode cX2_readBook 30 = .ok (.getfield 25, 3) := by decide +kernel
theorem dX2_readBook_33 : decode cX2_readBook 33 = .ok (.ifCond .ne 5, 3) := by decide +kernel
theorem dX2_readBook_36 : decode cX2_readBook 36 = .ok (.iload_n 2, 1) := by decide +kernel
theorem dX2_readBook_37 : decode cX2_readBook 37 = .ok (.ireturn, 1) := by decide +kernel
theorem dX2_readBook_38 : decode cX2_readBook 38 = .ok (.aload_n 0, 1) := by decide +kernel
theorem dX2_readBook_39 : decode cX2_readBook 39 = .ok (.getfield 12, 3) := by decide +kernel
theorem dX2_readBook_42 : decode cX2_readBook 42 = .ok (.getfield 25, 3) := by decide +kernel
theorem dX2_readBook_45 : decode cX2_readBook 45 = .ok (.iconst 3, 1) := by decide +kernel
theorem dX2_readBook_46 : decode cX2_readBook 46 = .ok (.if_icmp .eq 6, 3) := by decide +kernel
theorem dX2_readBook_49 : decode cX2_readBook 49 = .ok (.goto 16, 3) := by decide +kernel
theorem dX2_readBook_52 : decode cX2_readBook 52 = .ok (.aload_n 0, 1) := by decide +kernel
theorem dX2_readBook_53 : decode cX2_readBook 53 = .ok (.getfield 12, 3) := by decide +kernel
theorem dX2_readBook_56 : decode cX2_readBook 56 = .ok (.invokevirtual 29, 3) := by decide +kernel
theorem dX2_readBook_59 : decode cX2_readBook 59 = .ok (.iinc 2 1, 3) := by decide +kernel
theorem dX2_readBook_62 : decode cX2_readBook 62 = .ok (.goto (-53), 3) := by decide +kernel
theorem dX2_readBook_65 : decode cX2_readBook 65 = .ok (.iconst (-1), 1) := by decide +kernel
theorem dX2_readBook_66 : decode cX2_readBook 66 = .ok (.aload_n 0, 1) := by decide +kernel
theorem dX2_readBook_67 : decode cX2_readBook 67 = .ok (.getfield 12, 3) := by decide +kernel
theorem dX2_readBook_70 : decode cX2_readBook 70 = .ok (.getfield 32, 3) := by decide +kernel
theorem dX2_readBook_73 : decode cX2_readBook 73 = .ok (.isub, 1) := by decide +kernel
theorem dX2_readBook_74 : decode cX2_readBook 74 = .ok (.ireturn, 1) := by decide +kernel
theorem dX2_readItem_0 : decode cX2_readItem 0 = .ok (.aload_n 0, 1) := by decide +kernel
theorem dX2_readItem_1 : decode cX2_readItem 1 = .ok (.invokevirtual 35, 3) := by decide +kernel
theorem dX2_readItem_4 : decode cX2_readItem 4 = .ok (.istore_n 2, 1) := by decide +kernel
theorem dX2_readItem_5 : decode cX2_readItem 5 = .ok (.iload_n 2, 1) := by decide +kernel
theorem dX2_readItem_6 : decode cX2_readItem 6 = .ok (.ifCond .lt 13, 3) := by decide +kernel
theorem dX2_readItem_9 : decode cX2_readItem 9 = .ok (.aload_n 0, 1) := by decide +kernel
theorem dX2_readItem_10 : decode cX2_readItem 10 = .ok (.aload_n 1, 1) := by decide +kernel
theorem dX2_readItem_11 : decode cX2_readItem 11 = .ok (.getfield 39, 3) := by decide +kernel
theorem dX2_readItem_14 : decode cX2_readItem 14 = .ok (.iload_n 2, 1) := by decide +kernel
theorem dX2_readItem_15 : decode cX2_readItem 15 = .ok (.invokevirtual 45, 3) := by decide +kernel
theorem dX2_readItem_18 : decode cX2_readItem 18 = .ok (.ireturn, 1) := by decide +kernel
theorem dX2_readItem_19 : decode cX2_readItem 19 = .ok (.aload_n 0, 1) := by decide +kernel
theorem dX2_readItem_20 : decode cX2_readItem 20 = .ok (.getfield 12, 3) := by decide +kernel
theorem dX2_readItem_23 : decode cX2_readItem 23 = .ok (.ldc 49, 2) := by decide +kernel
theorem dX2_readItem_25 : decode cX2_readItem 25 = .ok (.invokevirtual 51, 3) := by decide +kernel
theorem dX2_readItem_28 : decode cX2_readItem 28 = .ok (.ifCond .eq 12, 3) := by decide +kernel
theorem dX2_readItem_31 : decode cX2_readItem 31 = .ok (.aload_n 0, 1) := by decide +kernel
theorem dX2_readItem_32 : decode cX2_readItem 32 = .ok (.aload_n 1, 1) := by decide +kernel
theorem dX2_readItem_33 : decode cX2_readItem 33 = .ok (.getfield 55, 3) := by decide +kernel
theorem dX2_readItem_36 : decode cX2_readItem 36 = .ok (.invokevirtual 59, 3) := by decide +kernel
theorem dX2_readItem_39 : decode cX2_readItem 39 = .ok (.ireturn, 1) := by decide +kernel
theorem dX2_readItem_40 : decode cX2_readItem 40 = .ok (.aload_n 0, 1) := by decide +kernel
theorem dX2_readItem_41 : decode cX2_readItem 41 = .ok (.getfield 12, 3) := by decide +kernel
theorem dX2_readItem_44 : decode cX2_readItem 44 = .ok (.ldc 63, 2) := by decide +kernel
theorem dX2_readItem_46 : decode cX2_readItem 46 = .ok (.invokevirtual 51, 3) := by decide +kernel
theorem dX2_readItem_49 : decode cX2_readItem 49 = .ok (.ifCond .eq 9, 3) := by decide +kernel
theorem dX2_readItem_52 : decode cX2_readItem 52 = .ok (.aload_n 0, 1) := by decide +kernel
theorem dX2_readItem_53 : decode cX2_readItem 53 = .ok (.aload_n 1, 1) := by decide +kernel
theorem dX2_readItem_54 : decode cX2_readItem 54 = .ok (.invokevirtual 65, 3) := by decide +kernel
theorem dX2_readItem_57 : decode cX2_readItem 57 = .ok (.ireturn, 1) := by decide +kernel
theorem dX2_readItem_58 : decode cX2_readItem 58 = .ok (.aload_n 0, 1) := by decide +kernel
theorem dX2_readItem_59 : decode cX2_readItem 59 = .ok (.getfield 12, 3) := by decide +kernel
theorem dX2_readItem_62 : decode cX2_readItem 62 = .ok (.ldc 68, 2) := by decide +kernel
theorem dX2_readItem_64 : decode cX2_readItem 64 = .ok (.invokevirtual 51, 3) := by decide +kernel
theorem dX2_readItem_67 : decode cX2_readItem 67 = .ok (.ifCond .eq 15, 3) := by decide +kernel
theorem dX2_readItem_70 : decode cX2_readItem 70 = .ok (.aload_n 0, 1) := by decide +kernel
theorem dX2_readItem_71 : decode cX2_readItem 71 = .ok (.aload_n 1, 1) := by decide +kernel
theorem dX2_readItem_72 : decode cX2_readItem 72 = .ok (.invokevirtual 70, 3) := by decide +kernel
theorem dX2_readItem_75 : decode cX2_readItem 75 = .ok (.ifCond .eq 7, 3) := by decide +kernel
theorem dX2_readItem_78 : decode cX2_readItem 78 = .ok (.iconst 1, 1) := by decide +kernel
theorem dX2_readItem_79 : decode cX2_readItem 79 = .ok (.goto 4, 3) := by decide +kernel
theorem dX2_readItem_82 : decode cX2_readItem 82 = .ok (.iconst 0, 1) := by decide +kernel
theorem dX2_readItem_83 : decode cX2_readItem 83 = .ok (.ireturn, 1) := by decide +kernel
theorem dX2_kindNamed_0 : decode cX2_kindNamed 0 = .ok (.aload_n 0, 1) := by decide +kernel
theorem dX2_kindNamed_1 : decode cX2_kindNamed 1 = .ok (.getfield 12, 3) := by decide +kernel
theorem dX2_kindNamed_4 : decode cX2_kindNamed 4 = .ok (.ldc 73, 2) := by decide +kernel
theorem dX2_kindNamed_6 : decode cX2_kindNamed 6 = .ok (.invokevirtual 51, 3) := by decide +kernel
theorem dX2_kindNamed_9 : decode cX2_kindNamed 9 = .ok (.ifCond .eq 5, 3) := by decide +kernel
theorem dX2_kindNamed_12 : decode cX2_kindNamed 12 = .ok (.iconst 0, 1) := by decide +kernel
theorem dX2_kindNamed_13 : decode cX2_kindNamed 13 = .ok (.ireturn, 1) := by decide +kernel
theorem dX2_kindNamed_14 : decode cX2_kindNamed 14 = .ok (.aload_n 0, 1) := by decide +kernel
theorem dX2_kindNamed_15 : decode cX2_kindNamed 15 = .ok (.getfield 12, 3) := by decide +kernel
theorem dX2_kindNamed_18 : decode cX2_kindNamed 18 = .ok (.ldc 75, 2) := by decide +kernel
theorem dX2_kindNamed_20 : decode cX2_kindNamed 20 = .ok (.invokevirtual 51, 3) := by decide +kernel
theorem dX2_kindNamed_23 : decode cX2_kindNamed 23 = .ok (.ifCond .eq 5, 3) := by decide +kernel
theorem dX2_kindNamed_26 : decode cX2_kindNamed 26 = .ok (.iconst 1, 1) := by decide +kernel
theorem dX2_kindNamed_27 : decode cX2_kindNamed 27 = .ok (.ireturn, 1) := by decide +kernel
theorem dX2_kindNamed_28 : decode cX2_kindNamed 28 = .ok (.aload_n 0, 1) := by decide +kernel
theorem dX2_kindNamed_29 : decode cX2_kindNamed 29 = .ok (.getfield 12, 3) := by decide +kernel
theorem dX2_kindNamed_32 : decode cX2_kindNamed 32 = .ok (.ldc 79, 2) := by decide +kernel
theorem dX2_kindNamed_34 : decode cX2_kindNamed 34 = .ok (.invokevirtual 51, 3) := by decide +kernel
theorem dX2_kindNamed_37 : decode cX2_kindNamed 37 = .ok (.ifCond .eq 5, 3) := by decide +kernel
theorem dX2_kindNamed_40 : decode cX2_kindNamed 40 = .ok (.iconst 2, 1) := by decide +kernel
theorem dX2_kindNamed_41 : decode cX2_kindNamed 41 = .ok (.ireturn, 1) := by decide +kernel
theorem dX2_kindNamed_42 : decode cX2_kindNamed 42 = .ok (.aload_n 0, 1) := by decide +kernel
theorem dX2_kindNamed_43 : decode cX2_kindNamed 43 = .ok (.getfield 12, 3) := by decide +kernel
theorem dX2_kindNamed_46 : decode cX2_kindNamed 46 = .ok (.ldc 81, 2) := by decide +kernel
theorem dX2_kindNamed_48 : decode cX2_kindNamed 48 = .ok (.invokevirtual 51, 3) := by decide +kernel
theorem dX2_kindNamed_51 : decode cX2_kindNamed 51 = .ok (.ifCond .eq 5, 3) := by decide +kernel
theorem dX2_kindNamed_54 : decode cX2_kindNamed 54 = .ok (.iconst 3, 1) := by decide +kernel
theorem dX2_kindNamed_55 : decode cX2_kindNamed 55 = .ok (.ireturn, 1) := by decide +kernel
theorem dX2_kindNamed_56 : decode cX2_kindNamed 56 = .ok (.aload_n 0, 1) := by decide +kernel
theorem dX2_kindNamed_57 : decode cX2_kindNamed 57 = .ok (.getfield 12, 3) := by decide +kernel
theorem dX2_kindNamed_60 : decode cX2_kindNamed 60 = .ok (.ldc 83, 2) := by decide +kernel
theorem dX2_kindNamed_62 : decode cX2_kindNamed 62 = .ok (.invokevirtual 51, 3) := by decide +kernel
theorem dX2_kindNamed_65 : decode cX2_kindNamed 65 = .ok (.ifCond .eq 5, 3) := by decide +kernel
theorem dX2_kindNamed_68 : decode cX2_kindNamed 68 = .ok (.iconst 4, 1) := by decide +kernel
theorem dX2_kindNamed_69 : decode cX2_kindNamed 69 = .ok (.ireturn, 1) := by decide +kernel
theorem dX2_kindNamed_70 : decode cX2_kindNamed 70 = .ok (.aload_n 0, 1) := by decide +kernel
theorem dX2_kindNamed_71 : decode cX2_kindNamed 71 = .ok (.getfield 12, 3) := by decide +kernel
theorem dX2_kindNamed_74 : decode cX2_kindNamed 74 = .ok (.ldc 85, 2) := by decide +kernel
theorem dX2_kindNamed_76 : decode cX2_kindNamed 76 = .ok (.invokevirtual 51, 3) := by decide +kernel
theorem dX2_kindNamed_79 : decode cX2_kindNamed 79 = .ok (.ifCond .eq 7, 3) := by decide +kernel
theorem dX2_kindNamed_82 : decode cX2_kindNamed 82 = .ok (.iconst 5, 1) := by decide +kernel
theorem dX2_kindNamed_83 : decode cX2_kindNamed 83 = .ok (.goto 4, 3) := by decide +kernel
theorem dX2_kindNamed_86 : decode cX2_kindNamed 86 = .ok (.iconst (-1), 1) := by decide +kernel
theorem dX2_kindNamed_87 : decode cX2_kindNamed 87 = .ok (.ireturn, 1) := by decide +kernel
theorem dX2_readPhrase_0 : decode cX2_readPhrase 0 = .ok (.aload_n 1, 1) := by decide +kernel
theorem dX2_readPhrase_1 : decode cX2_readPhrase 1 = .ok (.invokevirtual 87, 3) := by decide +kernel
theorem dX2_readPhrase_4 : decode cX2_readPhrase 4 = .ok (.ifCond .eq 5, 3) := by decide +kernel
theorem dX2_readPhrase_7 : decode cX2_readPhrase 7 = .ok (.iconst 0, 1) := by decide +kernel
theorem dX2_readPhrase_8 : decode cX2_readPhrase 8 = .ok (.ireturn, 1) := by decide +kernel
theorem dX2_readPhrase_9 : decode cX2_readPhrase 9 = .ok (.aload_n 0, 1) := by decide +kernel
theorem dX2_readPhrase_10 : decode cX2_readPhrase 10 = .ok (.getfield 12, 3) := by decide +kernel
theorem dX2_readPhrase_13 : decode cX2_readPhrase 13 = .ok (.invokevirtual 29, 3) := by decide +kernel
theorem dX2_readPhrase_16 : decode cX2_readPhrase 16 = .ok (.aload_n 0, 1) := by decide +kernel
theorem dX2_readPhrase_17 : decode cX2_readPhrase 17 = .ok (.iconst 0, 1) := by decide +kernel
theorem dX2_readPhrase_18 : decode cX2_readPhrase 18 = .ok (.bipush 9, 2) := by decide +kernel
theorem dX2_readPhrase_20 : decode cX2_readPhrase 20 = .ok (.invokevirtual 91, 3) := by decide +kernel
theorem dX2_readPhrase_23 : decode cX2_readPhrase 23 = .ok (.istore_n 3, 1) := by decide +kernel
theorem dX2_readPhrase_24 : decode cX2_readPhrase 24 = .ok (.iload_n 3, 1) := by decide +kernel
theorem dX2_readPhrase_25 : decode cX2_readPhrase 25 = .ok (.ifCond .ge 5, 3) := by decide +kernel
theorem dX2_readPhrase_28 : decode cX2_readPhrase 28 = .ok (.iconst 0, 1) := by decide +kernel
theorem dX2_readPhrase_29 : decode cX2_readPhrase 29 = .ok (.ireturn, 1) := by decide +kernel
theorem dX2_readPhrase_30 : decode cX2_readPhrase 30 = .ok (.aload_n 0, 1) := by decide +kernel
theorem dX2_readPhrase_31 : decode cX2_readPhrase 31 = .ok (.ldc 95, 2) := by decide +kernel
theorem dX2_readPhrase_33 : decode cX2_readPhrase 33 = .ok (.invokevirtual 97, 3) := by decide +kernel
theorem dX2_readPhrase_36 : decode cX2_readPhrase 36 = .ok (.ifCond .eq 13, 3) := by decide +kernel
theorem dX2_readPhrase_39 : decode cX2_readPhrase 39 = .ok (.aload_n 0, 1) := by decide +kernel
theorem dX2_readPhrase_40 : decode cX2_readPhrase 40 = .ok (.iconst 1, 1) := by decide +kernel
theorem dX2_readPhrase_41 : decode cX2_readPhrase 41 = .ok (.bipush 60, 2) := by decide +kernel
theorem dX2_readPhrase_43 : decode cX2_readPhrase 43 = .ok (.invokevirtual 91, 3) := by decide +kernel
theorem dX2_readPhrase_46 : decode cX2_readPhrase 46 = .ok (.goto 4, 3) := by decide +kernel
theorem dX2_readPhrase_49 : decode cX2_readPhrase 49 = .ok (.iconst 5, 1) := by decide +kernel
theorem dX2_readPhrase_50 : decode cX2_readPhrase 50 = .ok (.istore 4, 2) := by decide +kernel
theorem dX2_readPhrase_52 : decode cX2_readPhrase 52 = .ok (.iload 4, 2) := by decide +kernel
theorem dX2_readPhrase_54 : decode cX2_readPhrase 54 = .ok (.ifCond .ge 5, 3) := by decide +kernel
theorem dX2_readPhrase_57 : decode cX2_readPhrase 57 = .ok (.iconst 0, 1) := by decide +kernel
theorem dX2_readPhrase_58 : decode cX2_readPhrase 58 = .ok (.ireturn, 1) := by decide +kernel
theorem dX2_readPhrase_59 : decode cX2_readPhrase 59 = .ok (.aload_n 0, 1) := by decide +kernel
theorem dX2_readPhrase_60 : decode cX2_readPhrase 60 = .ok (.ldc 100, 2) := by decide +kernel
theorem dX2_readPhrase_62 : decode cX2_readPhrase 62 = .ok (.invokevirtual 97, 3) := by decide +kernel
theorem dX2_readPhrase_65 : decode cX2_readPhrase 65 = .ok (.ifCond .eq 13, 3) := by decide +kernel
theorem dX2_readPhrase_68 : decode cX2_readPhrase 68 = .ok (.aload_n 0, 1) := by decide +kernel
theorem dX2_readPhrase_69 : decode cX2_readPhrase 69 = .ok (.iconst 0, 1) := by decide +kernel
theorem dX2_readPhrase_70 : decode cX2_readPhrase 70 = .ok (.bipush 10, 2) := by decide +kernel
theorem dX2_readPhrase_72 : decode cX2_readPhrase 72 = .ok (.invokevirtual 91, 3) := by decide +kernel
theorem dX2_readPhrase_75 : decode cX2_readPhrase 75 = .ok (.goto 5, 3) := by decide +kernel
theorem dX2_readPhrase_78 : decode cX2_readPhrase 78 = .ok (.bipush 7, 2) := by decide +kernel
theorem dX2_readPhrase_80 : decode cX2_readPhrase 80 = .ok (.istore 5, 2) := by decide +kernel
theorem dX2_readPhrase_82 : decode cX2_readPhrase 82 = .ok (.iload 5, 2) := by decide +kernel
theorem dX2_readPhrase_84 : decode cX2_readPhrase 84 = .ok (.ifCond .ge 5, 3) := by decide +kernel
theorem dX2_readPhrase_87 : decode cX2_readPhrase 87 = .ok (.iconst 0, 1) := by decide +kernel
theorem dX2_readPhrase_88 : decode cX2_readPhrase 88 = .ok (.ireturn, 1) := by decide +kernel
theorem dX2_readPhrase_89 : decode cX2_readPhrase 89 = .ok (.aload_n 1, 1) := by decide +kernel
theorem dX2_readPhrase_90 : decode cX2_readPhrase 90 = .ok (.iload_n 2, 1) := by decide +kernel
theorem dX2_readPhrase_91 : decode cX2_readPhrase 91 = .ok (.iload_n 3, 1) := by decide +kernel
theorem dX2_readPhrase_92 : decode cX2_readPhrase 92 = .ok (.iload 4, 2) := by decide +kernel
theorem dX2_readPhrase_94 : decode cX2_readPhrase 94 = .ok (.iload 5, 2) := by decide +kernel
theorem dX2_readPhrase_96 : decode cX2_readPhrase 96 = .ok (.invokevirtual 102, 3) := by decide +kernel
theorem dX2_readPhrase_99 : decode cX2_readPhrase 99 = .ok (.pop, 1) := by decide +kernel
theorem dX2_readPhrase_100 : decode cX2_readPhrase 100 = .ok (.iconst 1, 1) := by decide +kernel
theorem dX2_readPhrase_101 : decode cX2_readPhrase 101 = .ok (.ireturn, 1) := by decide +kernel
theorem dX2_readWant_0 : decode cX2_readWant 0 = .ok (.aload_n 1, 1) := by decide +kernel
theorem dX2_readWant_1 : decode cX2_readWant 1 = .ok (.invokevirtual 106, 3) := by decide +kernel
theorem dX2_readWant_4 : decode cX2_readWant 4 = .ok (.ifCond .eq 5, 3) := by decide +kernel
theorem dX2_readWant_7 : decode cX2_readWant 7 = .ok (.iconst 0, 1) := by decide +kernel
theorem dX2_readWant_8 : decode cX2_readWant 8 = .ok (.ireturn, 1) := by decide +kernel
theorem dX2_readWant_9 : decode cX2_readWant 9 = .ok (.aload_n 0, 1) := by decide +kernel
theorem dX2_readWant_10 : decode cX2_readWant 10 = .ok (.getfield 12, 3) := by decide +kernel
theorem dX2_readWant_13 : decode cX2_readWant 13 = .ok (.invokevirtual 29, 3) := by decide +kernel
theorem dX2_readWant_16 : decode cX2_readWant 16 = .ok (.aload_n 0, 1) := by decide +kernel
theorem dX2_readWant_17 : decode cX2_readWant 17 = .ok (.iconst 0, 1) := by decide +kernel
theorem dX2_readWant_18 : decode cX2_readWant 18 = .ok (.bipush 9, 2) := by decide +kernel
theorem dX2_readWant_20 : decode cX2_readWant 20 = .ok (.invokevirtual 91, 3) := by decide +kernel
theorem dX2_readWant_23 : decode cX2_readWant 23 = .ok (.istore_n 2, 1) := by decide +kernel
theorem dX2_readWant_24 : decode cX2_readWant 24 = .ok (.iload_n 2, 1) := by decide +kernel
theorem dX2_readWant_25 : decode cX2_readWant 25 = .ok (.ifCond .lt 12, 3) := by decide +kernel
theorem dX2_readWant_28 : decode cX2_readWant 28 = .ok (.aload_n 0, 1) := by decide +kernel
theorem dX2_readWant_29 : decode cX2_readWant 29 = .ok (.ldc 109, 2) := by decide +kernel
theorem dX2_readWant_31 : decode cX2_readWant 31 = .ok (.invokevirtual 97, 3) := by decide +kernel
theorem dX2_readWant_34 : decode cX2_readWant 34 = .ok (.ifCond .ne 5, 3) := by decide +kernel
theorem dX2_readWant_37 : decode cX2_readWant 37 = .ok (.iconst 0, 1) := by decide +kernel
theorem dX2_readWant_38 : decode cX2_readWant 38 = .ok (.ireturn, 1) := by decide +kernel
theorem dX2_readWant_39 : decode cX2_readWant 39 = .ok (.aload_n 0, 1) := by decide +kernel
theorem dX2_readWant_40 : decode cX2_readWant 40 = .ok (.iconst 0, 1) := by decide +kernel
theorem dX2_readWant_41 : decode cX2_readWant 41 = .ok (.bipush 99, 2) := by decide +kernel
theorem dX2_readWant_43 : decode cX2_readWant 43 = .ok (.invokevirtual 91, 3) := by decide +kernel
theorem dX2_readWant_46 : decode cX2_readWant 46 = .ok (.istore_n 3, 1) := by decide +kernel
theorem dX2_readWant_47 : decode cX2_readWant 47 = .ok (.iload_n 3, 1) := by decide +kernel
theorem dX2_readWant_48 : decode cX2_readWant 48 = .ok (.ifCond .lt 12, 3) := by decide +kernel
theorem dX2_readWant_51 : decode cX2_readWant 51 = .ok (.aload_n 0, 1) := by decide +kernel
theorem dX2_readWant_52 : decode cX2_readWant 52 = .ok (.ldc 111, 2) := by decide +kernel
theorem dX2_readWant_54 : decode cX2_readWant 54 = .ok (.invokevirtual 97, 3) := by decide +kernel
theorem dX2_readWant_57 : decode cX2_readWant 57 = .ok (.ifCond .ne 5, 3) := by decide +kernel
theorem dX2_readWant_60 : decode cX2_readWant 60 = .ok (.iconst 0, 1) := by decide +kernel
theorem dX2_readWant_61 : decode cX2_readWant 61 = .ok (.ireturn, 1) := by decide +kernel
theorem dX2_readWant_62 : decode cX2_readWant 62 = .ok (.aload_n 0, 1) := by decide +kernel
theorem dX2_readWant_63 : decode cX2_readWant 63 = .ok (.iconst 0, 1) := by decide +kernel
theorem dX2_readWant_64 : decode cX2_readWant 64 = .ok (.bipush 99, 2) := by decide +kernel
theorem dX2_readWant_66 : decode cX2_readWant 66 = .ok (.invokevirtual 91, 3) := by decide +kernel
theorem dX2_readWant_69 : decode cX2_readWant 69 = .ok (.istore 4, 2) := by decide +kernel
theorem dX2_readWant_71 : decode cX2_readWant 71 = .ok (.iload 4, 2) := by decide +kernel
theorem dX2_readWant_73 : decode cX2_readWant 73 = .ok (.ifCond .ge 5, 3) := by decide +kernel
theorem dX2_readWant_76 : decode cX2_readWant 76 = .ok (.iconst 0, 1) := by decide +kernel
theorem dX2_readWant_77 : decode cX2_readWant 77 = .ok (.ireturn, 1) := by decide +kernel
theorem dX2_readWant_78 : decode cX2_readWant 78 = .ok (.aload_n 1, 1) := by decide +kernel
theorem dX2_readWant_79 : decode cX2_readWant 79 = .ok (.iload_n 2, 1) := by decide +kernel
theorem dX2_readWant_80 : decode cX2_readWant 80 = .ok (.iload_n 3, 1) := by decide +kernel
theorem dX2_readWant_81 : decode cX2_readWant 81 = .ok (.iload 4, 2) := by decide +kernel
theorem dX2_readWant_83 : decode cX2_readWant 83 = .ok (.invokevirtual 113, 3) := by decide +kernel
theorem dX2_readWant_86 : decode cX2_readWant 86 = .ok (.istore 5, 2) := by decide +kernel
theorem dX2_readWant_88 : decode cX2_readWant 88 = .ok (.aload_n 1, 1) := by decide +kernel
theorem dX2_readWant_89 : decode cX2_readWant 89 = .ok (.getfield 116, 3) := by decide +kernel
theorem dX2_readWant_92 : decode cX2_readWant 92 = .ok (.iload 5, 2) := by decide +kernel
theorem dX2_readWant_94 : decode cX2_readWant 94 = .ok (.aload_n 0, 1) := by decide +kernel
theorem dX2_readWant_95 : decode cX2_readWant 95 = .ok (.ldc 120, 2) := by decide +kernel
theorem dX2_readWant_97 : decode cX2_readWant 97 = .ok (.invokevirtual 97, 3) := by decide +kernel
theorem dX2_readWant_100 : decode cX2_readWant 100 = .ok (.ifCond .eq 7, 3) := by decide +kernel
theorem dX2_readWant_103 : decode cX2_readWant 103 = .ok (.iconst 1, 1) := by decide +kernel
theorem dX2_readWant_104 : decode cX2_readWant 104 = .ok (.goto 4, 3) := by decide +kernel
theorem dX2_readWant_107 : decode cX2_readWant 107 = .ok (.iconst 0, 1) := by decide +kernel
theorem dX2_readWant_108 : decode cX2_readWant 108 = .ok (.iastore, 1) := by decide +kernel
theorem dX2_readWant_109 : decode cX2_readWant 109 = .ok (.aload_n 1, 1) := by decide +kernel
theorem dX2_readWant_110 : decode cX2_readWant 110 = .ok (.getfield 121, 3) := by decide +kernel
theorem dX2_readWant_113 : decode cX2_readWant 113 = .ok (.iload 5, 2) := by decide +kernel
theorem dX2_readWant_115 : decode cX2_readWant 115 = .ok (.aload_n 0, 1) := by decide +kernel
theorem dX2_readWant_116 : decode cX2_readWant 116 = .ok (.ldc 123, 2) := by decide +kernel
theorem dX2_readWant_118 : decode cX2_readWant 118 = .ok (.invokevirtual 97, 3) := by decide +kernel
theorem dX2_readWant_121 : decode cX2_readWant 121 = .ok (.ifCond .eq 7, 3) := by decide +kernel
theorem dX2_readWant_124 : decode cX2_readWant 124 = .ok (.iconst 1, 1) := by decide +kernel
theorem dX2_readWant_125 : decode cX2_readWant 125 = .ok (.goto 4, 3) := by decide +kernel
theorem dX2_readWant_128 : decode cX2_readWant 128 = .ok (.iconst 0, 1) := by decide +kernel
theorem dX2_readWant_129 : decode cX2_readWant 129 = .ok (.iastore, 1) := by decide +kernel
theorem dX2_readWant_130 : decode cX2_readWant 130 = .ok (.iconst 1, 1) := by decide +kernel
theorem dX2_readWant_131 : decode cX2_readWant 131 = .ok (.ireturn, 1) := by decide +kernel
theorem dX2_readLine_0 : decode cX2_readLine 0 = .ok (.aload_n 0, 1) := by decide +kernel
theorem dX2_readLine_1 : decode cX2_readLine 1 = .ok (.getfield 12, 3) := by decide +kernel
theorem dX2_readLine_4 : decode cX2_readLine 4 = .ok (.invokevirtual 29, 3) := by decide +kernel
theorem dX2_readLine_7 : decode cX2_readLine 7 = .ok (.aload_n 0, 1) := by decide +kernel
theorem dX2_readLine_8 : decode cX2_readLine 8 = .ok (.iconst 1, 1) := by decide +kernel
theorem dX2_readLine_9 : decode cX2_readLine 9 = .ok (.bipush 100, 2) := by decide +kernel
theorem dX2_readLine_11 : decode cX2_readLine 11 = .ok (.invokevirtual 91, 3) := by decide +kernel
theorem dX2_readLine_14 : decode cX2_readLine 14 = .ok (.istore_n 2, 1) := by decide +kernel
theorem dX2_readLine_15 : decode cX2_readLine 15 = .ok (.iload_n 2, 1) := by decide +kernel
theorem dX2_readLine_16 : decode cX2_readLine 16 = .ok (.ifCond .ge 5, 3) := by decide +kernel
theorem dX2_readLine_19 : decode cX2_readLine 19 = .ok (.iconst 0, 1) := by decide +kernel
theorem dX2_readLine_20 : decode cX2_readLine 20 = .ok (.ireturn, 1) := by decide +kernel
theorem dX2_readLine_21 : decode cX2_readLine 21 = .ok (.aload_n 1, 1) := by decide +kernel
theorem dX2_readLine_22 : decode cX2_readLine 22 = .ok (.iload_n 2, 1) := by decide +kernel
theorem dX2_readLine_23 : decode cX2_readLine 23 = .ok (.putfield 125, 3) := by decide +kernel
theorem dX2_readLine_26 : decode cX2_readLine 26 = .ok (.iconst 1, 1) := by decide +kernel
theorem dX2_readLine_27 : decode cX2_readLine 27 = .ok (.ireturn, 1) := by decide +kernel
theorem dX2_readOrder_0 : decode cX2_readOrder 0 = .ok (.aload_n 0, 1) := by decide +kernel
theorem dX2_readOrder_1 : decode cX2_readOrder 1 = .ok (.getfield 12, 3) := by decide +kernel
theorem dX2_readOrder_4 : decode cX2_readOrder 4 = .ok (.invokevirtual 29, 3) := by decide +kernel
theorem dX2_readOrder_7 : decode cX2_readOrder 7 = .ok (.aload_n 1, 1) := by decide +kernel
theorem dX2_readOrder_8 : decode cX2_readOrder 8 = .ok (.getfield 127, 3) := by decide +kernel
theorem dX2_readOrder_11 : decode cX2_readOrder 11 = .ok (.iconst 0, 1) := by decide +kernel
theorem dX2_readOrder_12 : decode cX2_readOrder 12 = .ok (.putfield 130, 3) := by decide +kernel
theorem dX2_readOrder_15 : decode cX2_readOrder 15 = .ok (.iconst 0, 1) := by decide +kernel
theorem dX2_readOrder_16 : decode cX2_readOrder 16 = .ok (.istore_n 2, 1) := by decide +kernel
theorem dX2_readOrder_17 : decode cX2_readOrder 17 = .ok (.iload_n 2, 1) := by decide +kernel
theorem dX2_readOrder_18 : decode cX2_readOrder 18 = .ok (.bipush 12, 2) := by decide +kernel
theorem dX2_readOrder_20 : decode cX2_readOrder 20 = .ok (.if_icmp .gt 85, 3) := by decide +kernel
theorem dX2_readOrder_23 : decode cX2_readOrder 23 = .ok (.iload_n 2, 1) := by decide +kernel
theorem dX2_readOrder_24 : decode cX2_readOrder 24 = .ok (.ifCond .le 16, 3) := by decide +kernel
theorem dX2_readOrder_27 : decode cX2_readOrder 27 = .ok (.aload_n 0, 1) := by decide +kernel
theorem dX2_readOrder_28 : decode cX2_readOrder 28 = .ok (.getfield 12, 3) := by decide +kernel
theorem dX2_readOrder_31 : decode cX2_readOrder 31 = .ok (.getfield 25, 3) := by decide +kernel
theorem dX2_readOrder_34 : decode cX2_readOrder 34 = .ok (.iconst 2, 1) := by decide +kernel
theorem dX2_readOrder_35 : decode cX2_readOrder 35 = .ok (.if_icmp .eq 5, 3) := by decide +kernel
theorem dX2_readOrder_38 : decode cX2_readOrder 38 = .ok (.iconst 1, 1) := by decide +kernel
theorem dX2_readOrder_39 : decode cX2_readOrder 39 = .ok (.ireturn, 1) := by decide +kernel
theorem dX2_readOrder_40 : decode cX2_readOrder 40 = .ok (.aload_n 0, 1) := by decide +kernel
theorem dX2_readOrder_41 : decode cX2_readOrder 41 = .ok (.getfield 12, 3) := by decide +kernel
theorem dX2_readOrder_44 : decode cX2_readOrder 44 = .ok (.getfield 25, 3) := by decide +kernel
theorem dX2_readOrder_47 : decode cX2_readOrder 47 = .ok (.iconst 2, 1) := by decide +kernel
theorem dX2_readOrder_48 : decode cX2_readOrder 48 = .ok (.if_icmp .ne 22, 3) := by decide +kernel
theorem dX2_readOrder_51 : decode cX2_readOrder 51 = .ok (.aload_n 1, 1) := by decide +kernel
theorem dX2_readOrder_52 : decode cX2_readOrder 52 = .ok (.getfield 127, 3) := by decide +kernel
theorem dX2_readOrder_55 : decode cX2_readOrder 55 = .ok (.aload_n 0, 1) := by decide +kernel
theorem dX2_readOrder_56 : decode cX2_readOrder 56 = .ok (.getfield 12, 3) := by decide +kernel
theorem dX2_readOrder_59 : decode cX2_readOrder 59 = .ok (.getfield 135, 3) := by decide +kernel
theorem dX2_readOrder_62 : decode cX2_readOrder 62 = .ok (.invokevirtual 137, 3) := by decide +kernel
theorem dX2_readOrder_65 : decode cX2_readOrder 65 = .ok (.ifCond .lt 5, 3) := by decide +kernel
theorem dX2_readOrder_68 : decode cX2_readOrder 68 = .ok (.iconst 0, 1) := by decide +kernel
theorem dX2_readOrder_69 : decode cX2_readOrder 69 = .ok (.ireturn, 1) := by decide +kernel
theorem dX2_readOrder_70 : decode cX2_readOrder 70 = .ok (.aload_n 0, 1) := by decide +kernel
theorem dX2_readOrder_71 : decode cX2_readOrder 71 = .ok (.iconst 0, 1) := by decide +kernel
theorem dX2_readOrder_72 : decode cX2_readOrder 72 = .ok (.aload_n 1, 1) := by decide +kernel
theorem dX2_readOrder_73 : decode cX2_readOrder 73 = .ok (.getfield 39, 3) := by decide +kernel
theorem dX2_readOrder_76 : decode cX2_readOrder 76 = .ok (.getfield 141, 3) := by decide +kernel
theorem dX2_readOrder_79 : decode cX2_readOrder 79 = .ok (.iconst 1, 1) := by decide +kernel
theorem dX2_readOrder_80 : decode cX2_readOrder 80 = .ok (.isub, 1) := by decide +kernel
theorem dX2_readOrder_81 : decode cX2_readOrder 81 = .ok (.invokevirtual 91, 3) := by decide +kernel
theorem dX2_readOrder_84 : decode cX2_readOrder 84 = .ok (.istore_n 3, 1) := by decide +kernel
theorem dX2_readOrder_85 : decode cX2_readOrder 85 = .ok (.iload_n 3, 1) := by decide +kernel
theorem dX2_readOrder_86 : decode cX2_readOrder 86 = .ok (.ifCond .ge 5, 3) := by decide +kernel
theorem dX2_readOrder_89 : decode cX2_readOrder 89 = .ok (.iconst 0, 1) := by decide +kernel
theorem dX2_readOrder_90 : decode cX2_readOrder 90 = .ok (.ireturn, 1) := by decide +kernel
theorem dX2_readOrder_91 : decode cX2_readOrder 91 = .ok (.aload_n 1, 1) := by decide +kernel
theorem dX2_readOrder_92 : decode cX2_readOrder 92 = .ok (.getfield 127, 3) := by decide +kernel
theorem dX2_readOrder_95 : decode cX2_readOrder 95 = .ok (.iload_n 3, 1) := by decide +kernel
theorem dX2_readOrder_96 : decode cX2_readOrder 96 = .ok (.invokevirtual 142, 3) := by decide +kernel
theorem dX2_readOrder_99 : decode cX2_readOrder 99 = .ok (.iinc 2 1, 3) := by decide +kernel
theorem dX2_readOrder_102 : decode cX2_readOrder 102 = .ok (.goto (-85), 3) := by decide +kernel
theorem dX2_readOrder_105 : decode cX2_readOrder 105 = .ok (.iconst 0, 1) := by decide +kernel
theorem dX2_readOrder_106 : decode cX2_readOrder 106 = .ok (.ireturn, 1) := by decide +kernel
theorem dX2_takeWord_0 : decode cX2_takeWord 0 = .ok (.aload_n 0, 1) := by decide +kernel
theorem dX2_takeWord_1 : decode cX2_takeWord 1 = .ok (.getfield 12, 3) := by decide +kernel
theorem dX2_takeWord_4 : decode cX2_takeWord 4 = .ok (.aload_n 1, 1) := by decide +kernel
theorem dX2_takeWord_5 : decode cX2_takeWord 5 = .ok (.invokevirtual 51, 3) := by decide +kernel
theorem dX2_takeWord_8 : decode cX2_takeWord 8 = .ok (.ifCond .ne 5, 3) := by decide +kernel
theorem dX2_takeWord_11 : decode cX2_takeWord 11 = .ok (.iconst 0, 1) := by decide +kernel
theorem dX2_takeWord_12 : decode cX2_takeWord 12 = .ok (.ireturn, 1) := by decide +kernel
theorem dX2_takeWord_13 : decode cX2_takeWord 13 = .ok (.aload_n 0, 1) := by decide +kernel
theorem dX2_takeWord_14 : decode cX2_takeWord 14 = .ok (.getfield 12, 3) := by decide +kernel
theorem dX2_takeWord_17 : decode cX2_takeWord 17 = .ok (.invokevirtual 29, 3) := by decide +kernel
theorem dX2_takeWord_20 : decode cX2_takeWord 20 = .ok (.iconst 1, 1) := by decide +kernel
theorem dX2_takeWord_21 : decode cX2_takeWord 21 = .ok (.ireturn, 1) := by decide +kernel
theorem dX2_takeNumber_0 : decode cX2_takeNumber 0 = .ok (.aload_n 0, 1) := by decide +kernel
theorem dX2_takeNumber_1 : decode cX2_takeNumber 1 = .ok (.getfield 12, 3) := by decide +kernel
theorem dX2_takeNumber_4 : decode cX2_takeNumber 4 = .ok (.getfield 25, 3) := by decide +kernel
theorem dX2_takeNumber_7 : decode cX2_takeNumber 7 = .ok (.iconst 2, 1) := by decide +kernel
theorem dX2_takeNumber_8 : decode cX2_takeNumber 8 = .ok (.if_icmp .ne 18, 3) := by decide +kernel
theorem dX2_takeNumber_11 : decode cX2_takeNumber 11 = .ok (.aload_n 0, 1) := by decide +kernel
theorem dX2_takeNumber_12 : decode cX2_takeNumber 12 = .ok (.getfield 12, 3) := by decide +kernel
theorem dX2_takeNumber_15 : decode cX2_takeNumber 15 = .ok (.getfield 135, 3) := by decide +kernel
theorem dX2_takeNumber_18 : decode cX2_takeNumber 18 = .ok (.iload_n 1, 1) := by decide +kernel
theorem dX2_takeNumber_19 : decode cX2_takeNumber 19 = .ok (.iload_n 2, 1) := by decide +kernel
theorem dX2_takeNumber_20 : decode cX2_takeNumber 20 = .ok (.invokestatic 146, 3) := by decide +kernel
theorem dX2_takeNumber_23 : decode cX2_takeNumber 23 = .ok (.ifCond .ne 5, 3) := by decide +kernel
theorem dX2_takeNumber_26 : decode cX2_takeNumber 26 = .ok (.iconst (-1), 1) := by decide +kernel
theorem dX2_takeNumber_27 : decode cX2_takeNumber 27 = .ok (.ireturn, 1) := by decide +kernel
theorem dX2_takeNumber_28 : decode cX2_takeNumber 28 = .ok (.aload_n 0, 1) := by decide +kernel
theorem dX2_takeNumber_29 : decode cX2_takeNumber 29 = .ok (.getfield 12, 3) := by decide +kernel
theorem dX2_takeNumber_32 : decode cX2_takeNumber 32 = .ok (.getfield 135, 3) := by decide +kernel
theorem dX2_takeNumber_35 : decode cX2_takeNumber 35 = .ok (.istore_n 3, 1) := by decide +kernel
theorem dX2_takeNumber_36 : decode cX2_takeNumber 36 = .ok (.aload_n 0, 1) := by decide +kernel
theorem dX2_takeNumber_37 : decode cX2_takeNumber 37 = .ok (.getfield 12, 3) := by decide +kernel
theorem dX2_takeNumber_40 : decode cX2_takeNumber 40 = .ok (.invokevirtual 29, 3) := by decide +kernel
theorem dX2_takeNumber_43 : decode cX2_takeNumber 43 = .ok (.iload_n 3, 1) := by decide +kernel
theorem dX2_takeNumber_44 : decode cX2_takeNumber 44 = .ok (.ireturn, 1) := by decide +kernel
theorem dX3_init_0 : decode cX3_init 0 = .ok (.aload_n 0, 1) := by decide +kernel
theorem dX3_init_1 : decode cX3_init 1 = .ok (.invokespecial 3, 3) := by decide +kernel
theorem dX3_init_4 : decode cX3_init 4 = .ok (.aload_n 0, 1) := by decide +kernel
theorem dX3_init_5 : decode cX3_init 5 = .ok (.bipush 12, 2) := by decide +kernel
theorem dX3_init_7 : decode cX3_init 7 = .ok (.newarray .int, 2) := by decide +kernel
theorem dX3_init_9 : decode cX3_init 9 = .ok (.putfield 9, 3) := by decide +kernel
theorem dX3_init_12 : decode cX3_init 12 = .ok (.aload_n 0, 1) := by decide +kernel
theorem dX3_init_13 : decode cX3_init 13 = .ok (.iconst 0, 1) := by decide +kernel
theorem dX3_init_14 : decode cX3_init 14 = .ok (.putfield 15, 3) := by decide +kernel
theorem dX3_init_17 : decode cX3_init 17 = .ok (.return_, 1) := by decide +kernel
theorem dX3_placeOf_0 : decode cX3_placeOf 0 = .ok (.iconst 0, 1) := by decide +kernel
theorem dX3_placeOf_1 : decode cX3_placeOf 1 = .ok (.istore_n 2, 1) := by decide +kernel
theorem dX3_placeOf_2 : decode cX3_placeOf 2 = .ok (.iload_n 2, 1) := by decide +kernel
theorem dX3_placeOf_3 : decode cX3_placeOf 3 = .ok (.aload_n 0, 1) := by decide +kernel
theorem dX3_placeOf_4 : decode cX3_placeOf 4 = .ok (.getfield 15, 3) := by decide +kernel
theorem dX3_placeOf_7 : decode cX3_placeOf 7 = .ok (.if_icmp .ge 21, 3) := by decide +kernel
theorem dX3_placeOf_10 : decode cX3_placeOf 10 = .ok (.aload_n 0, 1) := by decide +kernel
theorem dX3_placeOf_11 : decode cX3_placeOf 11 = .ok (.getfield 9, 3) := by decide +kernel
theorem dX3_placeOf_14 : decode cX3_placeOf 14 = .ok (.iload_n 2, 1) := by decide +kernel
theorem dX3_placeOf_15 : decode cX3_placeOf 15 = .ok (.iaload, 1) := by decide +kernel
theorem dX3_placeOf_16 : decode cX3_placeOf 16 = .ok (.iload_n 1, 1) := by decide +kernel
theorem dX3_placeOf_17 : decode cX3_placeOf 17 = .ok (.if_icmp .ne 5, 3) := by decide +kernel
theorem dX3_placeOf_20 : decode cX3_placeOf 20 = .ok (.iload_n 2, 1) := by decide +kernel
theorem dX3_placeOf_21 : decode cX3_placeOf 21 = .ok (.ireturn, 1) := by decide +kernel
theorem dX3_placeOf_22 : decode cX3_placeOf 22 = .ok (.iinc 2 1, 3) := by decide +kernel
theorem dX3_placeOf_25 : decode cX3_placeOf 25 = .ok (.goto (-23), 3) := by decide +kernel
theorem dX3_placeOf_28 : decode cX3_placeOf 28 = .ok (.iconst (-1), 1) := by decide +kernel
theorem dX3_placeOf_29 : decode cX3_placeOf 29 = .ok (.ireturn, 1) := by decide +kernel
theorem dX3_append_0 : decode cX3_append 0 = .ok (.aload_n 0, 1) := by decide +kernel
theorem dX3_append_1 : decode cX3_append 1 = .ok (.getfield 15, 3) := by decide +kernel
theorem dX3_append_4 : decode cX3_append 4 = .ok (.bipush 12, 2) := by decide +kernel
theorem dX3_append_6 : decode cX3_append 6 = .ok (.if_icmp .ge 31, 3) := by decide +kernel
theorem dX3_append_9 : decode cX3_append 9 = .ok (.aload_n 0, 1) := by decide +kernel
theorem dX3_append_10 : decode cX3_append 10 = .ok (.iload_n 1, 1) := by decide +kernel
theorem dX3_append_11 : decode cX3_append 11 = .ok (.invokevirtual 19, 3) := by decide +kernel
theorem dX3_append_14 : decode cX3_append 14 = .ok (.ifCond .ge 23, 3) := by decide +kernel
theorem dX3_append_17 : decode cX3_append 17 = .ok (.aload_n 0, 1) := by decide +kernel
theorem dX3_append_18 : decode cX3_append 18 = .ok (.getfield 9, 3) := by decide +kernel
theorem dX3_append_21 : decode cX3_append 21 = .ok (.aload_n 0, 1) := by decide +kernel
theorem dX3_append_22 : decode cX3_append 22 = .ok (.getfield 15, 3) := by decide +kernel
theorem dX3_append_25 : decode cX3_append 25 = .ok (.iload_n 1, 1) := by decide +kernel
theorem dX3_append_26 : decode cX3_append 26 = .ok (.iastore, 1) := by decide +kernel
theorem dX3_append_27 : decode cX3_append 27 = .ok (.aload_n 0, 1) := by decide +kernel
theorem dX3_append_28 : decode cX3_append 28 = .ok (.dup, 1) := by decide +kernel
theorem dX3_append_29 : decode cX3_append 29 = .ok (.getfield 15, 3) := by decide +kernel
theorem dX3_append_32 : decode cX3_append 32 = .ok (.iconst 1, 1) := by decide +kernel
theorem dX3_append_33 : decode cX3_append 33 = .ok (.iadd, 1) := by decide +kernel
theorem dX3_append_34 : decode cX3_append 34 = .ok (.putfield 15, 3) := by decide +kernel
theorem dX3_append_37 : decode cX3_append 37 = .ok (.return_, 1) := by decide +kernel
theorem dX3_drop_0 : decode cX3_drop 0 = .ok (.aload_n 0, 1) := by decide +kernel
theorem dX3_drop_1 : decode cX3_drop 1 = .ok (.iload_n 1, 1) := by decide +kernel
theorem dX3_drop_2 : decode cX3_drop 2 = .ok (.invokevirtual 19, 3) := by decide +kernel
theorem dX3_drop_5 : decode cX3_drop 5 = .ok (.istore_n 2, 1) := by decide +kernel
theorem dX3_drop_6 : decode cX3_drop 6 = .ok (.iload_n 2, 1) := by decide +kernel
theorem dX3_drop_7 : decode cX3_drop 7 = .ok (.ifCond .lt 43, 3) := by decide +kernel
theorem dX3_drop_10 : decode cX3_drop 10 = .ok (.aload_n 0, 1) := by decide +kernel
theorem dX3_drop_11 : decode cX3_drop 11 = .ok (.dup, 1) := by decide +kernel
theorem dX3_drop_12 : decode cX3_drop 12 = .ok (.getfield 15, 3) := by decide +kernel
theorem dX3_drop_15 : decode cX3_drop 15 = .ok (.iconst 1, 1) := by decide +kernel
theorem dX3_drop_16 : decode cX3_drop 16 = .ok (.isub, 1) := by decide +kernel
theorem dX3_drop_17 : decode cX3_drop 17 = .ok (.putfield 15, 3) := by decide +kernel
theorem dX3_drop_20 : decode cX3_drop 20 = .ok (.iload_n 2, 1) := by decide +kernel
theorem dX3_drop_21 : decode cX3_drop 21 = .ok (.istore_n 3, 1) := by decide +kernel
theorem dX3_drop_22 : decode cX3_drop 22 = .ok (.iload_n 3, 1) := by decide +kernel
theorem dX3_drop_23 : decode cX3_drop 23 = .ok (.aload_n 0, 1) := by decide +kernel
theorem dX3_drop_24 : decode cX3_drop 24 = .ok (.getfield 15, 3) := by decide +kernel
theorem dX3_drop_27 : decode cX3_drop 27 = .ok (.if_icmp .ge 23, 3) := by decide +kernel
theorem dX3_drop_30 : decode cX3_drop 30 = .ok (.aload_n 0, 1) := by decide +kernel
theorem dX3_drop_31 : decode cX3_drop 31 = .ok (.getfield 9, 3) := by decide +kernel
theorem dX3_drop_34 : decode cX3_drop 34 = .ok (.iload_n 3, 1) := by decide +kernel
theorem dX3_drop_35 : decode cX3_drop 35 = .ok (.aload_n 0, 1) := by decide +kernel
theorem dX3_drop_36 : decode cX3_drop 36 = .ok (.getfield 9, 3) := by decide +kernel
theorem dX3_drop_39 : decode cX3_drop 39 = .ok (.iload_n 3, 1) := by decide +kernel
theorem dX3_drop_40 : decode cX3_drop 40 = .ok (.iconst 1, 1) := by decide +kernel
theorem dX3_drop_41 : decode cX3_drop 41 = .ok (.iadd, 1) := by decide +kernel
theorem dX3_drop_42 : decode cX3_drop 42 = .ok (.iaload, 1) := by decide +kernel
theorem dX3_drop_43 : decode cX3_drop 43 = .ok (.iastore, 1) := by decide +kernel
theorem dX3_drop_44 : decode cX3_drop 44 = .ok (.iinc 3 1, 3) := by decide +kernel
theorem dX3_drop_47 : decode cX3_drop 47 = .ok (.goto (-25), 3) := by decide +kernel
theorem dX3_drop_50 : decode cX3_drop 50 = .ok (.iload_n 2, 1) := by decide +kernel
theorem dX3_drop_51 : decode cX3_drop 51 = .ok (.ireturn, 1) := by decide +kernel
theorem dX3_arrangements_0 : decode cX3_arrangements 0 = .ok (.getstatic 23, 3) := by decide +kernel
theorem dX3_arrangements_3 : decode cX3_arrangements 3 = .ok (.iload_n 0, 1) := by decide +kernel
theorem dX3_arrangements_4 : decode cX3_arrangements 4 = .ok (.invokestatic 26, 3) := by decide +kernel
theorem dX3_arrangements_7 : decode cX3_arrangements 7 = .ok (.iconst 5, 1) := by decide +kernel
theorem dX3_arrangements_8 : decode cX3_arrangements 8 = .ok (.invokestatic 31, 3) := by decide +kernel
theorem dX3_arrangements_11 : decode cX3_arrangements 11 = .ok (.iaload, 1) := by decide +kernel
theorem dX3_arrangements_12 : decode cX3_arrangements 12 = .ok (.ireturn, 1) := by decide +kernel
theorem dX3_arrange_0 : decode cX3_arrange 0 = .ok (.aload_n 0, 1) := by decide +kernel
theorem dX3_arrange_1 : decode cX3_arrange 1 = .ok (.iconst 0, 1) := by decide +kernel
theorem dX3_arrange_2 : decode cX3_arrange 2 = .ok (.putfield 15, 3) := by decide +kernel
theorem dX3_arrange_5 : decode cX3_arrange 5 = .ok (.iload_n 1, 1) := by decide +kernel
theorem dX3_arrange_6 : decode cX3_arrange 6 = .ok (.istore_n 3, 1) := by decide +kernel
theorem dX3_arrange_7 : decode cX3_arrange 7 = .ok (.iload_n 2, 1) := by decide +kernel
theorem dX3_arrange_8 : decode cX3_arrange 8 = .ok (.istore 4, 2) := by decide +kernel
theorem dX3_arrange_10 : decode cX3_arrange 10 = .ok (.iload_n 1, 1) := by decide +kernel
theorem dX3_arrange_11 : decode cX3_arrange 11 = .ok (.invokestatic 26, 3) := by decide +kernel
theorem dX3_arrange_14 : decode cX3_arrange 14 = .ok (.iconst 5, 1) := by decide +kernel
theorem dX3_arrange_15 : decode cX3_arrange 15 = .ok (.invokestatic 31, 3) := by decide +kernel
theorem dX3_arrange_18 : decode cX3_arrange 18 = .ok (.iconst 1, 1) := by decide +kernel
theorem dX3_arrange_19 : decode cX3_arrange 19 = .ok (.isub, 1) := by decide +kernel
theorem dX3_arrange_20 : decode cX3_arrange 20 = .ok (.istore 5, 2) := by decide +kernel
theorem dX3_arrange_22 : decode cX3_arrange 22 = .ok (.iload 5, 2) := by decide +kernel
theorem dX3_arrange_24 : decode cX3_arrange 24 = .ok (.ifCond .lt 54, 3) := by decide +kernel
theorem dX3_arrange_27 : decode cX3_arrange 27 = .ok (.iconst 1, 1) := by decide +kernel
theorem dX3_arrange_28 : decode cX3_arrange 28 = .ok (.getstatic 23, 3) := by decide +kernel
theorem dX3_arrange_31 : decode cX3_arrange 31 = .ok (.iload 5, 2) := by decide +kernel
theorem dX3_arrange_33 : decode cX3_arrange 33 = .ok (.iaload, 1) := by decide +kernel
theorem dX3_arrange_34 : decode cX3_arrange 34 = .ok (.invokestatic 37, 3) := by decide +kernel
theorem dX3_arrange_37 : decode cX3_arrange 37 = .ok (.istore 6, 2) := by decide +kernel
theorem dX3_arrange_39 : decode cX3_arrange 39 = .ok (.iload_n 3, 1) := by decide +kernel
theorem dX3_arrange_40 : decode cX3_arrange 40 = .ok (.iload 4, 2) := by decide +kernel
theorem dX3_arrange_42 : decode cX3_arrange 42 = .ok (.iload 6, 2) := by decide +kernel
theorem dX3_arrange_44 : decode cX3_arrange 44 = .ok (.idiv, 1) := by decide +kernel
theorem dX3_arrange_45 : decode cX3_arrange 45 = .ok (.invokestatic 40, 3) := by decide +kernel
theorem dX3_arrange_48 : decode cX3_arrange 48 = .ok (.istore 7, 2) := by decide +kernel
theorem dX3_arrange_50 : decode cX3_arrange 50 = .ok (.iload 4, 2) := by decide +kernel
theorem dX3_arrange_52 : decode cX3_arrange 52 = .ok (.iload 6, 2) := by decide +kernel
theorem dX3_arrange_54 : decode cX3_arrange 54 = .ok (.irem, 1) := by decide +kernel
theorem dX3_arrange_55 : decode cX3_arrange 55 = .ok (.istore 4, 2) := by decide +kernel
theorem dX3_arrange_57 : decode cX3_arrange 57 = .ok (.iload_n 3, 1) := by decide +kernel
theorem dX3_arrange_58 : decode cX3_arrange 58 = .ok (.iconst 1, 1) := by decide +kernel
theorem dX3_arrange_59 : decode cX3_arrange 59 = .ok (.iload 7, 2) := by decide +kernel
theorem dX3_arrange_61 : decode cX3_arrange 61 = .ok (.ishl, 1) := by decide +kernel
theorem dX3_arrange_62 : decode cX3_arrange 62 = .ok (.iconst (-1), 1) := by decide +kernel
theorem dX3_arrange_63 : decode cX3_arrange 63 = .ok (.ixor, 1) := by decide +kernel
theorem dX3_arrange_64 : decode cX3_arrange 64 = .ok (.iand, 1) := by decide +kernel
theorem dX3_arrange_65 : decode cX3_arrange 65 = .ok (.istore_n 3, 1) := by decide +kernel
theorem dX3_arrange_66 : decode cX3_arrange 66 = .ok (.aload_n 0, 1) := by decide +kernel
theorem dX3_arrange_67 : decode cX3_arrange 67 = .ok (.iload 7, 2) := by decide +kernel
theorem dX3_arrange_69 : decode cX3_arrange 69 = .ok (.invokevirtual 43, 3) := by decide +kernel
theorem dX3_arrange_72 : decode cX3_arrange 72 = .ok (.iinc 5 (-1), 3) := by decide +kernel
theorem dX3_arrange_75 : decode cX3_arrange 75 = .ok (.goto (-53), 3) := by decide +kernel
theorem dX3_arrange_78 : decode cX3_arrange 78 = .ok (.return_, 1) := by decide +kernel
theorem dX3_memberOf_0 : decode cX3_memberOf 0 = .ok (.iload_n 0, 1) := by decide +kernel
theorem dX3_memberOf_1 : decode cX3_memberOf 1 = .ok (.istore_n 2, 1) := by decide +kernel
theorem dX3_memberOf_2 : decode cX3_memberOf 2 = .ok (.iconst 0, 1) := by decide +kernel
theorem dX3_memberOf_3 : decode cX3_memberOf 3 = .ok (.istore_n 3, 1) := by decide +kernel
theorem dX3_memberOf_4 : decode cX3_memberOf 4 = .ok (.iload_n 3, 1) := by decide +kernel
theorem dX3_memberOf_5 : decode cX3_memberOf 5 = .ok (.iload_n 1, 1) := by decide +kernel
theorem dX3_memberOf_6 : decode cX3_memberOf 6 = .ok (.if_icmp .ge 21, 3) := by decide +kernel
theorem dX3_memberOf_9 : decode cX3_memberOf 9 = .ok (.iload_n 3, 1) := by decide +kernel
theorem dX3_memberOf_10 : decode cX3_memberOf 10 = .ok (.bipush 12, 2) := by decide +kernel
theorem dX3_memberOf_12 : decode cX3_memberOf 12 = .ok (.if_icmp .ge 15, 3) := by decide +kernel
theorem dX3_memberOf_15 : decode cX3_memberOf 15 = .ok (.iload_n 2, 1) := by decide +kernel
theorem dX3_memberOf_16 : decode cX3_memberOf 16 = .ok (.iload_n 2, 1) := by decide +kernel
theorem dX3_memberOf_17 : decode cX3_memberOf 17 = .ok (.iconst 1, 1) := by decide +kernel
theorem dX3_memberOf_18 : decode cX3_memberOf 18 = .ok (.isub, 1) := by decide +kernel
theorem dX3_memberOf_19 : decode cX3_memberOf 19 = .ok (.iand, 1) := by decide +kernel
theorem dX3_memberOf_20 : decode cX3_memberOf 20 = .ok (.istore_n 2, 1) := by decide +kernel
theorem dX3_memberOf_21 : decode cX3_memberOf 21 = .ok (.iinc 3 1, 3) := by decide +kernel
theorem dX3_memberOf_24 : decode cX3_memberOf 24 = .ok (.goto (-20), 3) := by decide +kernel
theorem dX3_memberOf_27 : decode cX3_memberOf 27 = .ok (.iload_n 2, 1) := by decide +kernel
theorem dX3_memberOf_28 : decode cX3_memberOf 28 = .ok (.invokestatic 47, 3) := by decide +kernel
theorem dX3_memberOf_31 : decode cX3_memberOf 31 = .ok (.ireturn, 1) := by decide +kernel
theorem dX3_takeFrom_0 : decode cX3_takeFrom 0 = .ok (.aload_n 0, 1) := by decide +kernel
theorem dX3_takeFrom_1 : decode cX3_takeFrom 1 = .ok (.aload_n 1, 1) := by decide +kernel
theorem dX3_takeFrom_2 : decode cX3_takeFrom 2 = .ok (.getfield 15, 3) := by decide +kernel
theorem dX3_takeFrom_5 : decode cX3_takeFrom 5 = .ok (.putfield 15, 3) := by decide +kernel
theorem dX3_takeFrom_8 : decode cX3_takeFrom 8 = .ok (.aload_n 1, 1) := by decide +kernel
theorem dX3_takeFrom_9 : decode cX3_takeFrom 9 = .ok (.getfield 9, 3) := by decide +kernel
theorem dX3_takeFrom_12 : decode cX3_takeFrom 12 = .ok (.iconst 0, 1) := by decide +kernel
theorem dX3_takeFrom_13 : decode cX3_takeFrom 13 = .ok (.aload_n 0, 1) := by decide +kernel
theorem dX3_takeFrom_14 : decode cX3_takeFrom 14 = .ok (.getfield 9, 3) := by decide +kernel
theorem dX3_takeFrom_17 : decode cX3_takeFrom 17 = .ok (.iconst 0, 1) := by decide +kernel
theorem dX3_takeFrom_18 : decode cX3_takeFrom 18 = .ok (.bipush 12, 2) := by decide +kernel
theorem dX3_takeFrom_20 : decode cX3_takeFrom 20 = .ok (.invokestatic 50, 3) := by decide +kernel
theorem dX3_takeFrom_23 : decode cX3_takeFrom 23 = .ok (.return_, 1) := by decide +kernel
theorem dX4_init_0 : decode cX4_init 0 = .ok (.aload_n 0, 1) := by decide +kernel
theorem dX4_init_1 : decode cX4_init 1 = .ok (.invokespecial 3, 3) := by decide +kernel
theorem dX4_init_4 : decode cX4_init 4 = .ok (.aload_n 0, 1) := by decide +kernel
theorem dX4_init_5 : decode cX4_init 5 = .ok (.new 9, 3) := by decide +kernel
theorem dX4_init_8 : decode cX4_init 8 = .ok (.dup, 1) := by decide +kernel
theorem dX4_init_9 : decode cX4_init 9 = .ok (.invokespecial 11, 3) := by decide +kernel
theorem dX4_init_12 : decode cX4_init 12 = .ok (.putfield 12, 3) := by decide +kernel
theorem dX4_init_15 : decode cX4_init 15 = .ok (.return_, 1) := by decide +kernel
theorem dX4_lookAhead_0 : decode cX4_lookAhead 0 = .ok (.aload_n 0, 1) := by decide +kernel
theorem dX4_lookAhead_1 : decode cX4_lookAhead 1 = .ok (.getfield 12, 3) := by decide +kernel
theorem dX4_lookAhead_4 : decode cX4_lookAhead 4 = .ok (.aload_n 1, 1) := by decide +kernel
theorem dX4_lookAhead_5 : decode cX4_lookAhead 5 = .ok (.invokevirtual 18, 3) := by decide +kernel
theorem dX4_lookAhead_8 : decode cX4_lookAhead 8 = .ok (.aload_n 0, 1) := by decide +kernel
theorem dX4_lookAhead_9 : decode cX4_lookAhead 9 = .ok (.getfield 12, 3) := by decide +kernel
theorem dX4_lookAhead_12 : decode cX4_lookAhead 12 = .ok (.iload_n 2, 1) := by decide +kernel
theorem dX4_lookAhead_13 : decode cX4_lookAhead 13 = .ok (.invokevirtual 22, 3) := by decide +kernel
theorem dX4_lookAhead_16 : decode cX4_lookAhead 16 = .ok (.return_, 1) := by decide +kernel
theorem dX4_daysTillForgotten_0 : decode cX4_daysTillForgotten 0 = .ok (.aload_n 0, 1) := by decide +kernel
theorem dX4_daysTillForgotten_1 : decode cX4_daysTillForgotten 1 = .ok (.getfield 12, 3) := by decide +kernel
theorem dX4_daysTillForgotten_4 : decode cX4_daysTillForgotten 4 = .ok (.aload_n 1, 1) := by decide +kernel
theorem dX4_daysTillForgotten_5 : decode cX4_daysTillForgotten 5 = .ok (.invokevirtual 18, 3) := by decide +kernel
theorem dX4_daysTillForgotten_8 : decode cX4_daysTillForgotten 8 = .ok (.iconst 0, 1) := by decide +kernel
theorem dX4_daysTillForgotten_9 : decode cX4_daysTillForgotten 9 = .ok (.istore_n 3, 1) := by decide +kernel
theorem dX4_daysTillForgotten_10 : decode cX4_daysTillForgotten 10 = .ok (.iload_n 3, 1) := by decide +kernel
theorem dX4_daysTillForgotten_11 : decode cX4_daysTillForgotten 11 = .ok (.bipush 60, 2) := by decide +kernel
theorem dX4_daysTillForgotten_13 : decode cX4_daysTillForgotten 13 = .ok (.if_icmp .gt 30, 3) := by decide +kernel
theorem dX4_daysTillForgotten_16 : decode cX4_daysTillForgotten 16 = .ok (.aload_n 0, 1) := by decide +kernel
theorem dX4_daysTillForgotten_17 : decode cX4_daysTillForgotten 17 = .ok (.getfield 12, 3) := by decide +kernel
theorem dX4_daysTillForgotten_20 : decode cX4_daysTillForgotten 20 = .ok (.iload_n 2, 1) := by decide +kernel
theorem dX4_daysTillForgotten_21 : decode cX4_daysTillForgotten 21 = .ok (.invokevirtual 26, 3) := by decide +kernel
theorem dX4_daysTillForgotten_24 : decode cX4_daysTillForgotten 24 = .ok (.ifCond .ne 5, 3) := by decide +kernel
theorem dX4_daysTillForgotten_27 : decode cX4_daysTillForgotten 27 = .ok (.iload_n 3, 1) := by decide +kernel
theorem dX4_daysTillForgotten_28 : decode cX4_daysTillForgotten 28 = .ok (.ireturn, 1) := by decide +kernel
theorem dX4_daysTillForgotten_29 : decode cX4_daysTillForgotten 29 = .ok (.aload_n 0, 1) := by decide +kernel
theorem dX4_daysTillForgotten_30 : decode cX4_daysTillForgotten 30 = .ok (.getfield 12, 3) := by decide +kernel
theorem dX4_daysTillForgotten_33 : decode cX4_daysTillForgotten 33 = .ok (.iconst 1, 1) := by decide +kernel
theorem dX4_daysTillForgotten_34 : decode cX4_daysTillForgotten 34 = .ok (.invokevirtual 22, 3) := by decide +kernel
theorem dX4_daysTillForgotten_37 : decode cX4_daysTillForgotten 37 = .ok (.iinc 3 1, 3) := by decide +kernel
theorem dX4_daysTillForgotten_40 : decode cX4_daysTillForgotten 40 = .ok (.goto (-30), 3) := by decide +kernel
theorem dX4_daysTillForgotten_43 : decode cX4_daysTillForgotten 43 = .ok (.iconst (-1), 1) := by decide +kernel
theorem dX4_daysTillForgotten_44 : decode cX4_daysTillForgotten 44 = .ok (.ireturn, 1) := by decide +kernel
theorem dX4_neverUsed_0 : decode cX4_neverUsed 0 = .ok (.aload_n 0, 1) := by decide +kernel
theorem dX4_neverUsed_1 : decode cX4_neverUsed 1 = .ok (.aload_n 1, 1) := by decide +kernel
theorem dX4_neverUsed_2 : decode cX4_neverUsed 2 = .ok (.iload_n 2, 1) := by decide +kernel
theorem dX4_neverUsed_3 : decode cX4_neverUsed 3 = .ok (.invokevirtual 30, 3) := by decide +kernel
theorem dX4_neverUsed_6 : decode cX4_neverUsed 6 = .ok (.iconst 0, 1) := by decide +kernel
theorem dX4_neverUsed_7 : decode cX4_neverUsed 7 = .ok (.istore_n 3, 1) := by decide +kernel
theorem dX4_neverUsed_8 : decode cX4_neverUsed 8 = .ok (.iconst 0, 1) := by decide +kernel
theorem dX4_neverUsed_9 : decode cX4_neverUsed 9 = .ok (.istore 4, 2) := by decide +kernel
theorem dX4_neverUsed_11 : decode cX4_neverUsed 11 = .ok (.iload 4, 2) := by decide +kernel
theorem dX4_neverUsed_13 : decode cX4_neverUsed 13 = .ok (.aload_n 1, 1) := by decide +kernel
theorem dX4_neverUsed_14 : decode cX4_neverUsed 14 = .ok (.getfield 34, 3) := by decide +kernel
theorem dX4_neverUsed_17 : decode cX4_neverUsed 17 = .ok (.getfield 38, 3) := by decide +kernel
theorem dX4_neverUsed_20 : decode cX4_neverUsed 20 = .ok (.if_icmp .ge 42, 3) := by decide +kernel
theorem dX4_neverUsed_23 : decode cX4_neverUsed 23 = .ok (.aload_n 0, 1) := by decide +kernel
theorem dX4_neverUsed_24 : decode cX4_neverUsed 24 = .ok (.getfield 12, 3) := by decide +kernel
theorem dX4_neverUsed_27 : decode cX4_neverUsed 27 = .ok (.getfield 34, 3) := by decide +kernel
theorem dX4_neverUsed_30 : decode cX4_neverUsed 30 = .ok (.getfield 44, 3) := by decide +kernel
theorem dX4_neverUsed_33 : decode cX4_neverUsed 33 = .ok (.iload 4, 2) := by decide +kernel
theorem dX4_neverUsed_35 : decode cX4_neverUsed 35 = .ok (.iaload, 1) := by decide +kernel
theorem dX4_neverUsed_36 : decode cX4_neverUsed 36 = .ok (.aload_n 1, 1) := by decide +kernel
theorem dX4_neverUsed_37 : decode cX4_neverUsed 37 = .ok (.getfield 34, 3) := by decide +kernel
theorem dX4_neverUsed_40 : decode cX4_neverUsed 40 = .ok (.getfield 44, 3) := by decide +kernel
theorem dX4_neverUsed_43 : decode cX4_neverUsed 43 = .ok (.iload 4, 2) := by decide +kernel
theorem dX4_neverUsed_45 : decode cX4_neverUsed 45 = .ok (.iaload, 1) := by decide +kernel
theorem dX4_neverUsed_46 : decode cX4_neverUsed 46 = .ok (.if_icmp .ne 10, 3) := by decide +kernel
theorem dX4_neverUsed_49 : decode cX4_neverUsed 49 = .ok (.iload_n 3, 1) := by decide +kernel
theorem dX4_neverUsed_50 : decode cX4_neverUsed 50 = .ok (.iconst 1, 1) := by decide +kernel
theorem dX4_neverUsed_51 : decode cX4_neverUsed 51 = .ok (.iload 4, 2) := by decide +kernel
theorem dX4_neverUsed_53 : decode cX4_neverUsed 53 = .ok (.ishl, 1) := by decide +kernel
theorem dX4_neverUsed_54 : decode cX4_neverUsed 54 = .ok (.ior, 1) := by decide +kernel
theorem dX4_neverUsed_55 : decode cX4_neverUsed 55 = .ok (.istore_n 3, 1) := by decide +kernel
theorem dX4_neverUsed_56 : decode cX4_neverUsed 56 = .ok (.iinc 4 1, 3) := by decide +kernel
theorem dX4_neverUsed_59 : decode cX4_neverUsed 59 = .ok (.goto (-48), 3) := by decide +kernel
theorem dX4_neverUsed_62 : decode cX4_neverUsed 62 = .ok (.iload_n 3, 1) := by decide +kernel
theorem dX4_neverUsed_63 : decode cX4_neverUsed 63 = .ok (.ireturn, 1) := by decide +kernel
theorem dX4_worthLearning_0 : decode cX4_worthLearning 0 = .ok (.aload_n 0, 1) := by decide +kernel
theorem dX4_worthLearning_1 : decode cX4_worthLearning 1 = .ok (.aload_n 1, 1) := by decide +kernel
theorem dX4_worthLearning_2 : decode cX4_worthLearning 2 = .ok (.iload_n 2, 1) := by decide +kernel
theorem dX4_worthLearning_3 : decode cX4_worthLearning 3 = .ok (.invokevirtual 30, 3) := by decide +kernel
theorem dX4_worthLearning_6 : decode cX4_worthLearning 6 = .ok (.aload_n 0, 1) := by decide +kernel
theorem dX4_worthLearning_7 : decode cX4_worthLearning 7 = .ok (.getfield 12, 3) := by decide +kernel
theorem dX4_worthLearning_10 : decode cX4_worthLearning 10 = .ok (.getfield 48, 3) := by decide +kernel
theorem dX4_worthLearning_13 : decode cX4_worthLearning 13 = .ok (.istore_n 3, 1) := by decide +kernel
theorem dX4_worthLearning_14 : decode cX4_worthLearning 14 = .ok (.iconst (-1), 1) := by decide +kernel
theorem dX4_worthLearning_15 : decode cX4_worthLearning 15 = .ok (.istore 4, 2) := by decide +kernel
theorem dX4_worthLearning_17 : decode cX4_worthLearning 17 = .ok (.iconst 0, 1) := by decide +kernel
theorem dX4_worthLearning_18 : decode cX4_worthLearning 18 = .ok (.istore 5, 2) := by decide +kernel
theorem dX4_worthLearning_20 : decode cX4_worthLearning 20 = .ok (.iload 5, 2) := by decide +kernel
theorem dX4_worthLearning_22 : decode cX4_worthLearning 22 = .ok (.aload_n 1, 1) := by decide +kernel
theorem dX4_worthLearning_23 : decode cX4_worthLearning 23 = .ok (.getfield 34, 3) := by decide +kernel
theorem dX4_worthLearning_26 : decode cX4_worthLearning 26 = .ok (.getfield 38, 3) := by decide +kernel
theorem dX4_worthLearning_29 : decode cX4_worthLearning 29 = .ok (.if_icmp .ge 73, 3) := by decide +kernel
theorem dX4_worthLearning_32 : decode cX4_worthLearning 32 = .ok (.aload_n 0, 1) := by decide +kernel
theorem dX4_worthLearning_33 : decode cX4_worthLearning 33 = .ok (.getfield 12, 3) := by decide +kernel
theorem dX4_worthLearning_36 : decode cX4_worthLearning 36 = .ok (.aload_n 1, 1) := by decide +kernel
theorem dX4_worthLearning_37 : decode cX4_worthLearning 37 = .ok (.invokevirtual 18, 3) := by decide +kernel
theorem dX4_worthLearning_40 : decode cX4_worthLearning 40 = .ok (.aload_n 0, 1) := by decide +kernel
theorem dX4_worthLearning_41 : decode cX4_worthLearning 41 = .ok (.getfield 12, 3) := by decide +kernel
theorem dX4_worthLearning_44 : decode cX4_worthLearning 44 = .ok (.getfield 34, 3) := by decide +kernel
theorem dX4_worthLearning_47 : decode cX4_worthLearning 47 = .ok (.iload 5, 2) := by decide +kernel
theorem dX4_worthLearning_49 : decode cX4_worthLearning 49 = .ok (.aload_n 0, 1) := by decide +kernel
theorem dX4_worthLearning_50 : decode cX4_worthLearning 50 = .ok (.getfield 12, 3) := by decide +kernel
theorem dX4_worthLearning_53 : decode cX4_worthLearning 53 = .ok (.getfield 34, 3) := by decide +kernel
theorem dX4_worthLearning_56 : decode cX4_worthLearning 56 = .ok (.getfield 51, 3) := by decide +kernel
theorem dX4_worthLearning_59 : decode cX4_worthLearning 59 = .ok (.iload 5, 2) := by decide +kernel
theorem dX4_worthLearning_61 : decode cX4_worthLearning 61 = .ok (.iaload, 1) := by decide +kernel
theorem dX4_worthLearning_62 : decode cX4_worthLearning 62 = .ok (.invokevirtual 54, 3) := by decide +kernel
theorem dX4_worthLearning_65 : decode cX4_worthLearning 65 = .ok (.aload_n 0, 1) := by decide +kernel
theorem dX4_worthLearning_66 : decode cX4_worthLearning 66 = .ok (.getfield 12, 3) := by decide +kernel
theorem dX4_worthLearning_69 : decode cX4_worthLearning 69 = .ok (.iload_n 2, 1) := by decide +kernel
theorem dX4_worthLearning_70 : decode cX4_worthLearning 70 = .ok (.invokevirtual 22, 3) := by decide +kernel
theorem dX4_worthLearning_73 : decode cX4_worthLearning 73 = .ok (.aload_n 0, 1) := by decide +kernel
theorem dX4_worthLearning_74 : decode cX4_worthLearning 74 = .ok (.getfield 12, 3) := by decide +kernel
theorem dX4_worthLearning_77 : decode cX4_worthLearning 77 = .ok (.getfield 48, 3) := by decide +kernel
theorem dX4_worthLearning_80 : decode cX4_worthLearning 80 = .ok (.iload_n 3, 1) := by decide +kernel
theorem dX4_worthLearning_81 : decode cX4_worthLearning 81 = .ok (.if_icmp .le 15, 3) := by decide +kernel
theorem dX4_worthLearning_84 : decode cX4_worthLearning 84 = .ok (.aload_n 0, 1) := by decide +kernel
theorem dX4_worthLearning_85 : decode cX4_worthLearning 85 = .ok (.getfield 12, 3) := by decide +kernel
theorem dX4_worthLearning_88 : decode cX4_worthLearning 88 = .ok (.getfield 48, 3) := by decide +kernel
theorem dX4_worthLearning_91 : decode cX4_worthLearning 91 = .ok (.istore_n 3, 1) := by decide +kernel
theorem dX4_worthLearning_92 : decode cX4_worthLearning 92 = .ok (.iload 5, 2) := by decide +kernel
theorem dX4_worthLearning_94 : decode cX4_worthLearning 94 = .ok (.istore 4, 2) := by decide +kernel
theorem dX4_worthLearning_96 : decode cX4_worthLearning 96 = .ok (.iinc 5 1, 3) := by decide +kernel
theorem dX4_worthLearning_99 : decode cX4_worthLearning 99 = .ok (.goto (-79), 3) := by decide +kernel
theorem dX4_worthLearning_102 : decode cX4_worthLearning 102 = .ok (.iload 4, 2) := by decide +kernel
theorem dX4_worthLearning_104 : decode cX4_worthLearning 104 = .ok (.ireturn, 1) := by decide +kernel
theorem dX4_placeOfBestOrder_0 : decode cX4_placeOfBestOrder 0 = .ok (.iconst (-1), 1) := by decide +kernel
theorem dX4_placeOfBestOrder_1 : decode cX4_placeOfBestOrder 1 = .ok (.istore 5, 2) := by decide +kernel
theorem dX4_placeOfBestOrder_3 : decode cX4_placeOfBestOrder 3 = .ok (.iconst 0, 1) := by decide +kernel
theorem dX4_placeOfBestOrder_4 : decode cX4_placeOfBestOrder 4 = .ok (.istore 6, 2) := by decide +kernel
theorem dX4_placeOfBestOrder_6 : decode cX4_placeOfBestOrder 6 = .ok (.iconst 0, 1) := by decide +kernel
theorem dX4_placeOfBestOrder_7 : decode cX4_placeOfBestOrder 7 = .ok (.istore 7, 2) := by decide +kernel
theorem dX4_placeOfBestOrder_9 : decode cX4_placeOfBestOrder 9 = .ok (.iload 7, 2) := by decide +kernel
theorem dX4_placeOfBestOrder_11 : decode cX4_placeOfBestOrder 11 = .ok (.iload_n 2, 1) := by decide +kernel
theorem dX4_placeOfBestOrder_12 : decode cX4_placeOfBestOrder 12 = .ok (.invokestatic 58, 3) := by decide +kernel
theorem dX4_placeOfBestOrder_15 : decode cX4_placeOfBestOrder 15 = .ok (.if_icmp .ge 37, 3) := by decide +kernel
theorem dX4_placeOfBestOrder_18 : decode cX4_placeOfBestOrder 18 = .ok (.aload_n 0, 1) := by decide +kernel
theorem dX4_placeOfBestOrder_19 : decode cX4_placeOfBestOrder 19 = .ok (.aload_n 1, 1) := by decide +kernel
theorem dX4_placeOfBestOrder_20 : decode cX4_placeOfBestOrder 20 = .ok (.iload_n 2, 1) := by decide +kernel
theorem dX4_placeOfBestOrder_21 : decode cX4_placeOfBestOrder 21 = .ok (.iload 7, 2) := by decide +kernel
theorem dX4_placeOfBestOrder_23 : decode cX4_placeOfBestOrder 23 = .ok (.iload_n 3, 1) := by decide +kernel
theorem dX4_placeOfBestOrder_24 : decode cX4_placeOfBestOrder 24 = .ok (.iload 4, 2) := by decide +kernel
theorem dX4_placeOfBestOrder_26 : decode cX4_placeOfBestOrder 26 = .ok (.invokevirtual 64, 3) := by decide +kernel
theorem dX4_placeOfBestOrder_29 : decode cX4_placeOfBestOrder 29 = .ok (.istore 8, 2) := by decide +kernel
theorem dX4_placeOfBestOrder_31 : decode cX4_placeOfBestOrder 31 = .ok (.iload 8, 2) := by decide +kernel
theorem dX4_placeOfBestOrder_33 : decode cX4_placeOfBestOrder 33 = .ok (.iload 5, 2) := by decide +kernel
theorem dX4_placeOfBestOrder_35 : decode cX4_placeOfBestOrder 35 = .ok (.if_icmp .le 11, 3) := by decide +kernel
theorem dX4_placeOfBestOrder_38 : decode cX4_placeOfBestOrder 38 = .ok (.iload 8, 2) := by decide +kernel
theorem dX4_placeOfBestOrder_40 : decode cX4_placeOfBestOrder 40 = .ok (.istore 5, 2) := by decide +kernel
theorem dX4_placeOfBestOrder_42 : decode cX4_placeOfBestOrder 42 = .ok (.iload 7, 2) := by decide +kernel
theorem dX4_placeOfBestOrder_44 : decode cX4_placeOfBestOrder 44 = .ok (.istore 6, 2) := by decide +kernel
theorem dX4_placeOfBestOrder_46 : decode cX4_placeOfBestOrder 46 = .ok (.iinc 7 1, 3) := by decide +kernel
theorem dX4_placeOfBestOrder_49 : decode cX4_placeOfBestOrder 49 = .ok (.goto (-40), 3) := by decide +kernel
theorem dX4_placeOfBestOrder_52 : decode cX4_placeOfBestOrder 52 = .ok (.iload 6, 2) := by decide +kernel
theorem dX4_placeOfBestOrder_54 : decode cX4_placeOfBestOrder 54 = .ok (.ireturn, 1) := by decide +kernel
theorem dX4_scoreByOrder_0 : decode cX4_scoreByOrder 0 = .ok (.aload_n 0, 1) := by decide +kernel
theorem dX4_scoreByOrder_1 : decode cX4_scoreByOrder 1 = .ok (.getfield 12, 3) := by decide +kernel
theorem dX4_scoreByOrder_4 : decode cX4_scoreByOrder 4 = .ok (.aload_n 1, 1) := by decide +kernel
theorem dX4_scoreByOrder_5 : decode cX4_scoreByOrder 5 = .ok (.invokevirtual 18, 3) := by decide +kernel
theorem dX4_scoreByOrder_8 : decode cX4_scoreByOrder 8 = .ok (.aload_n 0, 1) := by decide +kernel
theorem dX4_scoreByOrder_9 : decode cX4_scoreByOrder 9 = .ok (.getfield 12, 3) := by decide +kernel
theorem dX4_scoreByOrder_12 : decode cX4_scoreByOrder 12 = .ok (.getfield 68, 3) := by decide +kernel
theorem dX4_scoreByOrder_15 : decode cX4_scoreByOrder 15 = .ok (.iload_n 2, 1) := by decide +kernel
theorem dX4_scoreByOrder_16 : decode cX4_scoreByOrder 16 = .ok (.iload_n 3, 1) := by decide +kernel
theorem dX4_scoreByOrder_17 : decode cX4_scoreByOrder 17 = .ok (.invokevirtual 72, 3) := by decide +kernel
theorem dX4_scoreByOrder_20 : decode cX4_scoreByOrder 20 = .ok (.aload_n 0, 1) := by decide +kernel
theorem dX4_scoreByOrder_21 : decode cX4_scoreByOrder 21 = .ok (.getfield 12, 3) := by decide +kernel
theorem dX4_scoreByOrder_24 : decode cX4_scoreByOrder 24 = .ok (.iload 4, 2) := by decide +kernel
theorem dX4_scoreByOrder_26 : decode cX4_scoreByOrder 26 = .ok (.invokevirtual 75, 3) := by decide +kernel
theorem dX4_scoreByOrder_29 : decode cX4_scoreByOrder 29 = .ok (.pop, 1) := by decide +kernel
theorem dX4_scoreByOrder_30 : decode cX4_scoreByOrder 30 = .ok (.aload_n 0, 1) := by decide +kernel
theorem dX4_scoreByOrder_31 : decode cX4_scoreByOrder 31 = .ok (.getfield 12, 3) := by decide +kernel
theorem dX4_scoreByOrder_34 : decode cX4_scoreByOrder 34 = .ok (.iload 5, 2) := by decide +kernel
theorem dX4_scoreByOrder_36 : decode cX4_scoreByOrder 36 = .ok (.invokevirtual 22, 3) := by decide +kernel
theorem dX4_scoreByOrder_39 : decode cX4_scoreByOrder 39 = .ok (.aload_n 0, 1) := by decide +kernel
theorem dX4_scoreByOrder_40 : decode cX4_scoreByOrder 40 = .ok (.getfield 12, 3) := by decide +kernel
theorem dX4_scoreByOrder_43 : decode cX4_scoreByOrder 43 = .ok (.getfield 48, 3) := by decide +kernel
theorem dX4_scoreByOrder_46 : decode cX4_scoreByOrder 46 = .ok (.ireturn, 1) := by decide +kernel
theorem dX4_firstWrong_0 : decode cX4_firstWrong 0 = .ok (.aload_n 0, 1) := by decide +kernel
theorem dX4_firstWrong_1 : decode cX4_firstWrong 1 = .ok (.getfield 12, 3) := by decide +kernel
theorem dX4_firstWrong_4 : decode cX4_firstWrong 4 = .ok (.aload_n 1, 1) := by decide +kernel
theorem dX4_firstWrong_5 : decode cX4_firstWrong 5 = .ok (.invokevirtual 18, 3) := by decide +kernel
theorem dX4_firstWrong_8 : decode cX4_firstWrong 8 = .ok (.iconst 0, 1) := by decide +kernel
theorem dX4_firstWrong_9 : decode cX4_firstWrong 9 = .ok (.istore 4, 2) := by decide +kernel
theorem dX4_firstWrong_11 : decode cX4_firstWrong 11 = .ok (.iload 4, 2) := by decide +kernel
theorem dX4_firstWrong_13 : decode cX4_firstWrong 13 = .ok (.aload_n 2, 1) := by decide +kernel
theorem dX4_firstWrong_14 : decode cX4_firstWrong 14 = .ok (.getfield 78, 3) := by decide +kernel
theorem dX4_firstWrong_17 : decode cX4_firstWrong 17 = .ok (.iload_n 3, 1) := by decide +kernel
theorem dX4_firstWrong_18 : decode cX4_firstWrong 18 = .ok (.iaload, 1) := by decide +kernel
theorem dX4_firstWrong_19 : decode cX4_firstWrong 19 = .ok (.if_icmp .ge 41, 3) := by decide +kernel
theorem dX4_firstWrong_22 : decode cX4_firstWrong 22 = .ok (.aload_n 2, 1) := by decide +kernel
theorem dX4_firstWrong_23 : decode cX4_firstWrong 23 = .ok (.iload_n 3, 1) := by decide +kernel
theorem dX4_firstWrong_24 : decode cX4_firstWrong 24 = .ok (.iload 4, 2) := by decide +kernel
theorem dX4_firstWrong_26 : decode cX4_firstWrong 26 = .ok (.invokevirtual 82, 3) := by decide +kernel
theorem dX4_firstWrong_29 : decode cX4_firstWrong 29 = .ok (.aload_n 0, 1) := by decide +kernel
theorem dX4_firstWrong_30 : decode cX4_firstWrong 30 = .ok (.getfield 12, 3) := by decide +kernel
theorem dX4_firstWrong_33 : decode cX4_firstWrong 33 = .ok (.getfield 48, 3) := by decide +kernel
theorem dX4_firstWrong_36 : decode cX4_firstWrong 36 = .ok (.i2l, 1) := by decide +kernel
theorem dX4_firstWrong_37 : decode cX4_firstWrong 37 = .ok (.lcmp, 1) := by decide +kernel
theorem dX4_firstWrong_38 : decode cX4_firstWrong 38 = .ok (.ifCond .eq 8, 3) := by decide +kernel
theorem dX4_firstWrong_41 : decode cX4_firstWrong 41 = .ok (.iconst 1, 1) := by decide +kernel
theorem dX4_firstWrong_42 : decode cX4_firstWrong 42 = .ok (.iload 4, 2) := by decide +kernel
theorem dX4_firstWrong_44 : decode cX4_firstWrong 44 = .ok (.iadd, 1) := by decide +kernel
theorem dX4_firstWrong_45 : decode cX4_firstWrong 45 = .ok (.ireturn, 1) := by decide +kernel
theorem dX4_firstWrong_46 : decode cX4_firstWrong 46 = .ok (.aload_n 0, 1) := by decide +kernel
theorem dX4_firstWrong_47 : decode cX4_firstWrong 47 = .ok (.getfield 12, 3) := by decide +kernel
theorem dX4_firstWrong_50 : decode cX4_firstWrong 50 = .ok (.iconst 1, 1) := by decide +kernel
theorem dX4_firstWrong_51 : decode cX4_firstWrong 51 = .ok (.invokevirtual 22, 3) := by decide +kernel
theorem dX4_firstWrong_54 : decode cX4_firstWrong 54 = .ok (.iinc 4 1, 3) := by decide +kernel
theorem dX4_firstWrong_57 : decode cX4_firstWrong 57 = .ok (.goto (-46), 3) := by decide +kernel
theorem dX4_firstWrong_60 : decode cX4_firstWrong 60 = .ok (.iconst 0, 1) := by decide +kernel
theorem dX4_firstWrong_61 : decode cX4_firstWrong 61 = .ok (.ireturn, 1) := by decide +kernel
theorem dX5_init_0 : decode cX5_init 0 = .ok (.aload_n 0, 1) := by decide +kernel
theorem dX5_init_1 : decode cX5_init 1 = .ok (.invokespecial 3, 3) := by decide +kernel
theorem dX5_init_4 : decode cX5_init 4 = .ok (.aload_n 0, 1) := by decide +kernel
theorem dX5_init_5 : decode cX5_init 5 = .ok (.bipush 12, 2) := by decide +kernel
theorem dX5_init_7 : decode cX5_init 7 = .ok (.newarray .int, 2) := by decide +kernel
theorem dX5_init_9 : decode cX5_init 9 = .ok (.putfield 9, 3) := by decide +kernel
theorem dX5_init_12 : decode cX5_init 12 = .ok (.aload_n 0, 1) := by decide +kernel
theorem dX5_init_13 : decode cX5_init 13 = .ok (.bipush 12, 2) := by decide +kernel
theorem dX5_init_15 : decode cX5_init 15 = .ok (.newarray .int, 2) := by decide +kernel
theorem dX5_init_17 : decode cX5_init 17 = .ok (.putfield 15, 3) := by decide +kernel
theorem dX5_init_20 : decode cX5_init 20 = .ok (.aload_n 0, 1) := by decide +kernel
theorem dX5_init_21 : decode cX5_init 21 = .ok (.bipush 12, 2) := by decide +kernel
theorem dX5_init_23 : decode cX5_init 23 = .ok (.newarray .int, 2) := by decide +kernel
theorem dX5_init_25 : decode cX5_init 25 = .ok (.putfield 18, 3) := by decide +kernel
theorem dX5_init_28 : decode cX5_init 28 = .ok (.aload_n 0, 1) := by decide +kernel
theorem dX5_init_29 : decode cX5_init 29 = .ok (.bipush 12, 2) := by decide +kernel
theorem dX5_init_31 : decode cX5_init 31 = .ok (.newarray .int, 2) := by decide +kernel
theorem dX5_init_33 : decode cX5_init 33 = .ok (.putfield 21, 3) := by decide +kernel
theorem dX5_init_36 : decode cX5_init 36 = .ok (.aload_n 0, 1) := by decide +kernel
theorem dX5_init_37 : decode cX5_init 37 = .ok (.bipush 12, 2) := by decide +kernel
theorem dX5_init_39 : decode cX5_init 39 = .ok (.newarray .int, 2) := by decide +kernel
theorem dX5_init_41 : decode cX5_init 41 = .ok (.putfield 24, 3) := by decide +kernel
theorem dX5_init_44 : decode cX5_init 44 = .ok (.aload_n 0, 1) := by decide +kernel
theorem dX5_init_45 : decode cX5_init 45 = .ok (.bipush 12, 2) := by decide +kernel
theorem dX5_init_47 : decode cX5_init 47 = .ok (.newarray .int, 2) := by decide +kernel
theorem dX5_init_49 : decode cX5_init 49 = .ok (.putfield 27, 3) := by decide +kernel
theorem dX5_init_52 : decode cX5_init 52 = .ok (.aload_n 0, 1) := by decide +kernel
theorem dX5_init_53 : decode cX5_init 53 = .ok (.iconst 0, 1) := by decide +kernel
theorem dX5_init_54 : decode cX5_init 54 = .ok (.putfield 30, 3) := by decide +kernel
theorem dX5_init_57 : decode cX5_init 57 = .ok (.return_, 1) := by decide +kernel
theorem dX5_isFull_0 : decode cX5_isFull 0 = .ok (.aload_n 0, 1) := by decide +kernel
theorem dX5_isFull_1 : decode cX5_isFull 1 = .ok (.getfield 30, 3) := by decide +kernel
theorem dX5_isFull_4 : decode cX5_isFull 4 = .ok (.bipush 12, 2) := by decide +kernel
theorem dX5_isFull_6 : decode cX5_isFull 6 = .ok (.if_icmp .lt 7, 3) := by decide +kernel
theorem dX5_isFull_9 : decode cX5_isFull 9 = .ok (.iconst 1, 1) := by decide +kernel
theorem dX5_isFull_10 : decode cX5_isFull 10 = .ok (.goto 4, 3) := by decide +kernel
theorem dX5_isFull_13 : decode cX5_isFull 13 = .ok (.iconst 0, 1) := by decide +kernel
theorem dX5_isFull_14 : decode cX5_isFull 14 = .ok (.ireturn, 1) := by decide +kernel
theorem dX5_add_0 : decode cX5_add 0 = .ok (.aload_n 0, 1) := by decide +kernel
theorem dX5_add_1 : decode cX5_add 1 = .ok (.getfield 9, 3) := by decide +kernel
theorem dX5_add_4 : decode cX5_add 4 = .ok (.aload_n 0, 1) := by decide +kernel
theorem dX5_add_5 : decode cX5_add 5 = .ok (.getfield 30, 3) := by decide +kernel
theorem dX5_add_8 : decode cX5_add 8 = .ok (.iload_n 1, 1) := by decide +kernel
theorem dX5_add_9 : decode cX5_add 9 = .ok (.iastore, 1) := by decide +kernel
theorem dX5_add_10 : decode cX5_add 10 = .ok (.aload_n 0, 1) := by decide +kernel
theorem dX5_add_11 : decode cX5_add 11 = .ok (.getfield 15, 3) := by decide +kernel
theorem dX5_add_14 : decode cX5_add 14 = .ok (.aload_n 0, 1) := by decide +kernel
theorem dX5_add_15 : decode cX5_add 15 = .ok (.getfield 30, 3) := by decide +kernel
theorem dX5_add_18 : decode cX5_add 18 = .ok (.iload_n 2, 1) := by decide +kernel
theorem dX5_add_19 : decode cX5_add 19 = .ok (.iastore, 1) := by decide +kernel
theorem dX5_add_20 : decode cX5_add 20 = .ok (.aload_n 0, 1) := by decide +kernel
theorem dX5_add_21 : decode cX5_add 21 = .ok (.getfield 18, 3) := by decide +kernel
theorem dX5_add_24 : decode cX5_add 24 = .ok (.aload_n 0, 1) := by decide +kernel
theorem dX5_add_25 : decode cX5_add 25 = .ok (.getfield 30, 3) := by decide +kernel
theorem dX5_add_28 : decode cX5_add 28 = .ok (.iload_n 3, 1) := by decide +kernel
theorem dX5_add_29 : decode cX5_add 29 = .ok (.iastore, 1) := by decide +kernel
theorem dX5_add_30 : decode cX5_add 30 = .ok (.aload_n 0, 1) := by decide +kernel
theorem dX5_add_31 : decode cX5_add 31 = .ok (.getfield 21, 3) := by decide +kernel
theorem dX5_add_34 : decode cX5_add 34 = .ok (.aload_n 0, 1) := by decide +kernel
theorem dX5_add_35 : decode cX5_add 35 = .ok (.getfield 30, 3) := by decide +kernel
theorem dX5_add_38 : decode cX5_add 38 = .ok (.iload 4, 2) := by decide +kernel
theorem dX5_add_40 : decode cX5_add 40 = .ok (.iastore, 1) := by decide +kernel
theorem dX5_add_41 : decode cX5_add 41 = .ok (.aload_n 0, 1) := by decide +kernel
theorem dX5_add_42 : decode cX5_add 42 = .ok (.getfield 24, 3) := by decide +kernel
theorem dX5_add_45 : decode cX5_add 45 = .ok (.aload_n 0, 1) := by decide +kernel
theorem dX5_add_46 : decode cX5_add 46 = .ok (.getfield 30, 3) := by decide +kernel
theorem dX5_add_49 : decode cX5_add 49 = .ok (.iconst 0, 1) := by decide +kernel
theorem dX5_add_50 : decode cX5_add 50 = .ok (.iastore, 1) := by decide +kernel
theorem dX5_add_51 : decode cX5_add 51 = .ok (.aload_n 0, 1) := by decide +kernel
theorem dX5_add_52 : decode cX5_add 52 = .ok (.getfield 27, 3) := by decide +kernel
theorem dX5_add_55 : decode cX5_add 55 = .ok (.aload_n 0, 1) := by decide +kernel
theorem dX5_add_56 : decode cX5_add 56 = .ok (.getfield 30, 3) := by decide +kernel
theorem dX5_add_59 : decode cX5_add 59 = .ok (.iconst 0, 1) := by decide +kernel
theorem dX5_add_60 : decode cX5_add 60 = .ok (.iastore, 1) := by decide +kernel
theorem dX5_add_61 : decode cX5_add 61 = .ok (.aload_n 0, 1) := by decide +kernel
theorem dX5_add_62 : decode cX5_add 62 = .ok (.dup, 1) := by decide +kernel
theorem dX5_add_63 : decode cX5_add 63 = .ok (.getfield 30, 3) := by decide +kernel
theorem dX5_add_66 : decode cX5_add 66 = .ok (.iconst 1, 1) := by decide +kernel
theorem dX5_add_67 : decode cX5_add 67 = .ok (.iadd, 1) := by decide +kernel
theorem dX5_add_68 : decode cX5_add 68 = .ok (.putfield 30, 3) := by decide +kernel
theorem dX5_add_71 : decode cX5_add 71 = .ok (.aload_n 0, 1) := by decide +kernel
theorem dX5_add_72 : decode cX5_add 72 = .ok (.getfield 30, 3) := by decide +kernel
theorem dX5_add_75 : decode cX5_add 75 = .ok (.iconst 1, 1) := by decide +kernel
theorem dX5_add_76 : decode cX5_add 76 = .ok (.isub, 1) := by decide +kernel
theorem dX5_add_77 : decode cX5_add 77 = .ok (.ireturn, 1) := by decide +kernel
theorem dX5_row_0 : decode cX5_row 0 = .ok (.iload_n 1, 1) := by decide +kernel
theorem dX5_row_1 : decode cX5_row 1 = .ok (.tableswitch 60 0 4 #[35, 40, 45, 50, 55], 35) := by decide +kernel
theorem dX5_row_36 : decode cX5_row 36 = .ok (.aload_n 0, 1) := by decide +kernel
theorem dX5_row_37 : decode cX5_row 37 = .ok (.getfield 9, 3) := by decide +kernel
theorem dX5_row_40 : decode cX5_row 40 = .ok (.areturn, 1) := by decide +kernel
theorem dX5_row_41 : decode cX5_row 41 = .ok (.aload_n 0, 1) := by decide +kernel
theorem dX5_row_42 : decode cX5_row 42 = .ok (.getfield 15, 3) := by decide +kernel
theorem dX5_row_45 : decode cX5_row 45 = .ok (.areturn, 1) := by decide +kernel
theorem dX5_row_46 : decode cX5_row 46 = .ok (.aload_n 0, 1) := by decide +kernel
theorem dX5_row_47 : decode cX5_row 47 = .ok (.getfield 18, 3) := by decide +kernel
theorem dX5_row_50 : decode cX5_row 50 = .ok (.areturn, 1) := by decide +kernel
theorem dX5_row_51 : decode cX5_row 51 = .ok (.aload_n 0, 1) := by decide +kernel
theorem dX5_row_52 : decode cX5_row 52 = .ok (.getfield 21, 3) := by decide +kernel
theorem dX5_row_55 : decode cX5_row 55 = .ok (.areturn, 1) := by decide +kernel
theorem dX5_row_56 : decode cX5_row 56 = .ok (.aload_n 0, 1) := by decide +kernel
theorem dX5_row_57 : decode cX5_row 57 = .ok (.getfield 24, 3) := by decide +kernel
theorem dX5_row_60 : decode cX5_row 60 = .ok (.areturn, 1) := by decide +kernel
theorem dX5_row_61 : decode cX5_row 61 = .ok (.aload_n 0, 1) := by decide +kernel
theorem dX5_row_62 : decode cX5_row 62 = .ok (.getfield 27, 3) := by decide +kernel
theorem dX5_row_65 : decode cX5_row 65 = .ok (.areturn, 1) := by decide +kernel
theorem dX5_maySet_0 : decode cX5_maySet 0 = .ok (.iload_n 1, 1) := by decide +kernel
theorem dX5_maySet_1 : decode cX5_maySet 1 = .ok (.iconst 1, 1) := by decide +kernel
theorem dX5_maySet_2 : decode cX5_maySet 2 = .ok (.if_icmp .lt 32, 3) := by decide +kernel
theorem dX5_maySet_5 : decode cX5_maySet 5 = .ok (.iload_n 1, 1) := by decide +kernel
theorem dX5_maySet_6 : decode cX5_maySet 6 = .ok (.getstatic 34, 3) := by decide +kernel
theorem dX5_maySet_9 : decode cX5_maySet 9 = .ok (.arraylength, 1) := by decide +kernel
theorem dX5_maySet_10 : decode cX5_maySet 10 = .ok (.if_icmp .ge 24, 3) := by decide +kernel
theorem dX5_maySet_13 : decode cX5_maySet 13 = .ok (.iload_n 2, 1) := by decide +kernel
theorem dX5_maySet_14 : decode cX5_maySet 14 = .ok (.getstatic 37, 3) := by decide +kernel
theorem dX5_maySet_17 : decode cX5_maySet 17 = .ok (.iload_n 1, 1) := by decide +kernel
theorem dX5_maySet_18 : decode cX5_maySet 18 = .ok (.iaload, 1) := by decide +kernel
theorem dX5_maySet_19 : decode cX5_maySet 19 = .ok (.getstatic 34, 3) := by decide +kernel
theorem dX5_maySet_22 : decode cX5_maySet 22 = .ok (.iload_n 1, 1) := by decide +kernel
theorem dX5_maySet_23 : decode cX5_maySet 23 = .ok (.iaload, 1) := by decide +kernel
theorem dX5_maySet_24 : decode cX5_maySet 24 = .ok (.invokestatic 40, 3) := by decide +kernel
theorem dX5_maySet_27 : decode cX5_maySet 27 = .ok (.ifCond .eq 7, 3) := by decide +kernel
theorem dX5_maySet_30 : decode cX5_maySet 30 = .ok (.iconst 1, 1) := by decide +kernel
theorem dX5_maySet_31 : decode cX5_maySet 31 = .ok (.goto 4, 3) := by decide +kernel
theorem dX5_maySet_34 : decode cX5_maySet 34 = .ok (.iconst 0, 1) := by decide +kernel
theorem dX5_maySet_35 : decode cX5_maySet 35 = .ok (.ireturn, 1) := by decide +kernel
theorem dX5_isUnder_0 : decode cX5_isUnder 0 = .ok (.aload_n 0, 1) := by decide +kernel
theorem dX5_isUnder_1 : decode cX5_isUnder 1 = .ok (.getfield 9, 3) := by decide +kernel
theorem dX5_isUnder_4 : decode cX5_isUnder 4 = .ok (.iload_n 1, 1) := by decide +kernel
theorem dX5_isUnder_5 : decode cX5_isUnder 5 = .ok (.iaload, 1) := by decide +kernel
theorem dX5_isUnder_6 : decode cX5_isUnder 6 = .ok (.istore_n 3, 1) := by decide +kernel
theorem dX5_isUnder_7 : decode cX5_isUnder 7 = .ok (.iconst 0, 1) := by decide +kernel
theorem dX5_isUnder_8 : decode cX5_isUnder 8 = .ok (.istore 4, 2) := by decide +kernel
theorem dX5_isUnder_10 : decode cX5_isUnder 10 = .ok (.iload 4, 2) := by decide +kernel
theorem dX5_isUnder_12 : decode cX5_isUnder 12 = .ok (.getstatic 44, 3) := by decide +kernel
theorem dX5_isUnder_15 : decode cX5_isUnder 15 = .ok (.arraylength, 1) := by decide +kernel
theorem dX5_isUnder_16 : decode cX5_isUnder 16 = .ok (.if_icmp .ge 26, 3) := by decide +kernel
theorem dX5_isUnder_19 : decode cX5_isUnder 19 = .ok (.iload_n 3, 1) := by decide +kernel
theorem dX5_isUnder_20 : decode cX5_isUnder 20 = .ok (.ifCond .lt 22, 3) := by decide +kernel
theorem dX5_isUnder_23 : decode cX5_isUnder 23 = .ok (.iload_n 3, 1) := by decide +kernel
theorem dX5_isUnder_24 : decode cX5_isUnder 24 = .ok (.iload_n 2, 1) := by decide +kernel
theorem dX5_isUnder_25 : decode cX5_isUnder 25 = .ok (.if_icmp .ne 5, 3) := by decide +kernel
theorem dX5_isUnder_28 : decode cX5_isUnder 28 = .ok (.iconst 1, 1) := by decide +kernel
theorem dX5_isUnder_29 : decode cX5_isUnder 29 = .ok (.ireturn, 1) := by decide +kernel
theorem dX5_isUnder_30 : decode cX5_isUnder 30 = .ok (.getstatic 44, 3) := by decide +kernel
theorem dX5_isUnder_33 : decode cX5_isUnder 33 = .ok (.iload_n 3, 1) := by decide +kernel
theorem dX5_isUnder_34 : decode cX5_isUnder 34 = .ok (.iaload, 1) := by decide +kernel
theorem dX5_isUnder_35 : decode cX5_isUnder 35 = .ok (.istore_n 3, 1) := by decide +kernel
theorem dX5_isUnder_36 : decode cX5_isUnder 36 = .ok (.iinc 4 1, 3) := by decide +kernel
theorem dX5_isUnder_39 : decode cX5_isUnder 39 = .ok (.goto (-29), 3) := by decide +kernel
theorem dX5_isUnder_42 : decode cX5_isUnder 42 = .ok (.iconst 0, 1) := by decide +kernel
theorem dX5_isUnder_43 : decode cX5_isUnder 43 = .ok (.ireturn, 1) := by decide +kernel
theorem dX5_hasKind_0 : decode cX5_hasKind 0 = .ok (.iconst 0, 1) := by decide +kernel
theorem dX5_hasKind_1 : decode cX5_hasKind 1 = .ok (.istore_n 3, 1) := by decide +kernel
theorem dX5_hasKind_2 : decode cX5_hasKind 2 = .ok (.iload_n 3, 1) := by decide +kernel
theorem dX5_hasKind_3 : decode cX5_hasKind 3 = .ok (.aload_n 0, 1) := by decide +kernel
theorem dX5_hasKind_4 : decode cX5_hasKind 4 = .ok (.getfield 30, 3) := by decide +kernel
theorem dX5_hasKind_7 : decode cX5_hasKind 7 = .ok (.if_icmp .ge 28, 3) := by decide +kernel
theorem dX5_hasKind_10 : decode cX5_hasKind 10 = .ok (.iload_n 1, 1) := by decide +kernel
theorem dX5_hasKind_11 : decode cX5_hasKind 11 = .ok (.iload_n 3, 1) := by decide +kernel
theorem dX5_hasKind_12 : decode cX5_hasKind 12 = .ok (.invokestatic 47, 3) := by decide +kernel
theorem dX5_hasKind_15 : decode cX5_hasKind 15 = .ok (.ifCond .eq 14, 3) := by decide +kernel
theorem dX5_hasKind_18 : decode cX5_hasKind 18 = .ok (.aload_n 0, 1) := by decide +kernel
theorem dX5_hasKind_19 : decode cX5_hasKind 19 = .ok (.iload_n 3, 1) := by decide +kernel
theorem dX5_hasKind_20 : decode cX5_hasKind 20 = .ok (.iload_n 2, 1) := by decide +kernel
theorem dX5_hasKind_21 : decode cX5_hasKind 21 = .ok (.invokevirtual 51, 3) := by decide +kernel
theorem dX5_hasKind_24 : decode cX5_hasKind 24 = .ok (.ifCond .eq 5, 3) := by decide +kernel
theorem dX5_hasKind_27 : decode cX5_hasKind 27 = .ok (.iconst 1, 1) := by decide +kernel
theorem dX5_hasKind_28 : decode cX5_hasKind 28 = .ok (.ireturn, 1) := by decide +kernel
theorem dX5_hasKind_29 : decode cX5_hasKind 29 = .ok (.iinc 3 1, 3) := by decide +kernel
theorem dX5_hasKind_32 : decode cX5_hasKind 32 = .ok (.goto (-30), 3) := by decide +kernel
theorem dX5_hasKind_35 : decode cX5_hasKind 35 = .ok (.iconst 0, 1) := by decide +kernel
theorem dX5_hasKind_36 : decode cX5_hasKind 36 = .ok (.ireturn, 1) := by decide +kernel
theorem dX5_forgets_0 : decode cX5_forgets 0 = .ok (.aload_n 0, 1) := by decide +kernel
theorem dX5_forgets_1 : decode cX5_forgets 1 = .ok (.getfield 9, 3) := by decide +kernel
theorem dX5_forgets_4 : decode cX5_forgets 4 = .ok (.iload_n 1, 1) := by decide +kernel
theorem dX5_forgets_5 : decode cX5_forgets 5 = .ok (.iaload, 1) := by decide +kernel
theorem dX5_forgets_6 : decode cX5_forgets 6 = .ok (.tableswitch 61 1 5 #[34, 37, 39, 37, 42], 34) := by decide +kernel
theorem dX5_forgets_40 : decode cX5_forgets 40 = .ok (.bipush 15, 2) := by decide +kernel
theorem dX5_forgets_42 : decode cX5_forgets 42 = .ok (.ireturn, 1) := by decide +kernel
theorem dX5_forgets_43 : decode cX5_forgets 43 = .ok (.iconst 5, 1) := by decide +kernel
theorem dX5_forgets_44 : decode cX5_forgets 44 = .ok (.ireturn, 1) := by decide +kernel
theorem dX5_forgets_45 : decode cX5_forgets 45 = .ok (.bipush 20, 2) := by decide +kernel
theorem dX5_forgets_47 : decode cX5_forgets 47 = .ok (.ireturn, 1) := by decide +kernel
theorem dX5_forgets_48 : decode cX5_forgets 48 = .ok (.bipush 10, 2) := by decide +kernel
theorem dX5_forgets_50 : decode cX5_forgets 50 = .ok (.iconst 0, 1) := by decide +kernel
theorem dX5_forgets_51 : decode cX5_forgets 51 = .ok (.aload_n 0, 1) := by decide +kernel
theorem dX5_forgets_52 : decode cX5_forgets 52 = .ok (.getfield 24, 3) := by decide +kernel
theorem dX5_forgets_55 : decode cX5_forgets 55 = .ok (.iload_n 1, 1) := by decide +kernel
theorem dX5_forgets_56 : decode cX5_forgets 56 = .ok (.iaload, 1) := by decide +kernel
theorem dX5_forgets_57 : decode cX5_forgets 57 = .ok (.bipush 50, 2) := by decide +kernel
theorem dX5_forgets_59 : decode cX5_forgets 59 = .ok (.isub, 1) := by decide +kernel
theorem dX5_forgets_60 : decode cX5_forgets 60 = .ok (.invokestatic 54, 3) := by decide +kernel
theorem dX5_forgets_63 : decode cX5_forgets 63 = .ok (.iconst 2, 1) := by decide +kernel
theorem dX5_forgets_64 : decode cX5_forgets 64 = .ok (.idiv, 1) := by decide +kernel
theorem dX5_forgets_65 : decode cX5_forgets 65 = .ok (.iadd, 1) := by decide +kernel
theorem dX5_forgets_66 : decode cX5_forgets 66 = .ok (.ireturn, 1) := by decide +kernel
theorem dX5_forgets_67 : decode cX5_forgets 67 = .ok (.bipush 10, 2) := by decide +kernel
theorem dX5_forgets_69 : decode cX5_forgets 69 = .ok (.ireturn, 1) := by decide +kernel
theorem dX5_learnFor_0 : decode cX5_learnFor 0 = .ok (.bipush 100, 2) := by decide +kernel
theorem dX5_learnFor_2 : decode cX5_learnFor 2 = .ok (.iload_n 2, 1) := by decide +kernel
theorem dX5_learnFor_3 : decode cX5_learnFor 3 = .ok (.imul, 1) := by decide +kernel
theorem dX5_learnFor_4 : decode cX5_learnFor 4 = .ok (.iconst 1, 1) := by decide +kernel
theorem dX5_learnFor_5 : decode cX5_learnFor 5 = .ok (.aload_n 0, 1) := by decide +kernel
theorem dX5_learnFor_6 : decode cX5_learnFor 6 = .ok (.getfield 18, 3) := by decide +kernel
theorem dX5_learnFor_9 : decode cX5_learnFor 9 = .ok (.iload_n 1, 1) := by decide +kernel
theorem dX5_learnFor_10 : decode cX5_learnFor 10 = .ok (.iaload, 1) := by decide +kernel
theorem dX5_learnFor_11 : decode cX5_learnFor 11 = .ok (.invokestatic 54, 3) := by decide +kernel
theorem dX5_learnFor_14 : decode cX5_learnFor 14 = .ok (.idiv, 1) := by decide +kernel
theorem dX5_learnFor_15 : decode cX5_learnFor 15 = .ok (.istore_n 3, 1) := by decide +kernel
theorem dX5_learnFor_16 : decode cX5_learnFor 16 = .ok (.aload_n 0, 1) := by decide +kernel
theorem dX5_learnFor_17 : decode cX5_learnFor 17 = .ok (.getfield 24, 3) := by decide +kernel
theorem dX5_learnFor_20 : decode cX5_learnFor 20 = .ok (.iload_n 1, 1) := by decide +kernel
theorem dX5_learnFor_21 : decode cX5_learnFor 21 = .ok (.bipush 100, 2) := by decide +kernel
theorem dX5_learnFor_23 : decode cX5_learnFor 23 = .ok (.aload_n 0, 1) := by decide +kernel
theorem dX5_learnFor_24 : decode cX5_learnFor 24 = .ok (.getfield 24, 3) := by decide +kernel
theorem dX5_learnFor_27 : decode cX5_learnFor 27 = .ok (.iload_n 1, 1) := by decide +kernel
theorem dX5_learnFor_28 : decode cX5_learnFor 28 = .ok (.iaload, 1) := by decide +kernel
theorem dX5_learnFor_29 : decode cX5_learnFor 29 = .ok (.iload_n 3, 1) := by decide +kernel
theorem dX5_learnFor_30 : decode cX5_learnFor 30 = .ok (.iadd, 1) := by decide +kernel
theorem dX5_learnFor_31 : decode cX5_learnFor 31 = .ok (.invokestatic 60, 3) := by decide +kernel
theorem dX5_learnFor_34 : decode cX5_learnFor 34 = .ok (.iastore, 1) := by decide +kernel
theorem dX5_learnFor_35 : decode cX5_learnFor 35 = .ok (.return_, 1) := by decide +kernel
theorem dX5_passNight_0 : decode cX5_passNight 0 = .ok (.iconst 0, 1) := by decide +kernel
theorem dX5_passNight_1 : decode cX5_passNight 1 = .ok (.istore_n 2, 1) := by decide +kernel
theorem dX5_passNight_2 : decode cX5_passNight 2 = .ok (.iload_n 2, 1) := by decide +kernel
theorem dX5_passNight_3 : decode cX5_passNight 3 = .ok (.aload_n 0, 1) := by decide +kernel
theorem dX5_passNight_4 : decode cX5_passNight 4 = .ok (.getfield 30, 3) := by decide +kernel
theorem dX5_passNight_7 : decode cX5_passNight 7 = .ok (.if_icmp .ge 62, 3) := by decide +kernel
theorem dX5_passNight_10 : decode cX5_passNight 10 = .ok (.iload_n 1, 1) := by decide +kernel
theorem dX5_passNight_11 : decode cX5_passNight 11 = .ok (.iload_n 2, 1) := by decide +kernel
theorem dX5_passNight_12 : decode cX5_passNight 12 = .ok (.invokestatic 47, 3) := by decide +kernel
theorem dX5_passNight_15 : decode cX5_passNight 15 = .ok (.ifCond .eq 26, 3) := by decide +kernel
theorem dX5_passNight_18 : decode cX5_passNight 18 = .ok (.aload_n 0, 1) := by decide +kernel
theorem dX5_passNight_19 : decode cX5_passNight 19 = .ok (.getfield 24, 3) := by decide +kernel
theorem dX5_passNight_22 : decode cX5_passNight 22 = .ok (.iload_n 2, 1) := by decide +kernel
theorem dX5_passNight_23 : decode cX5_passNight 23 = .ok (.bipush 100, 2) := by decide +kernel
theorem dX5_passNight_25 : decode cX5_passNight 25 = .ok (.aload_n 0, 1) := by decide +kernel
theorem dX5_passNight_26 : decode cX5_passNight 26 = .ok (.getfield 24, 3) := by decide +kernel
theorem dX5_passNight_29 : decode cX5_passNight 29 = .ok (.iload_n 2, 1) := by decide +kernel
theorem dX5_passNight_30 : decode cX5_passNight 30 = .ok (.iaload, 1) := by decide +kernel
theorem dX5_passNight_31 : decode cX5_passNight 31 = .ok (.bipush 10, 2) := by decide +kernel
theorem dX5_passNight_33 : decode cX5_passNight 33 = .ok (.iadd, 1) := by decide +kernel
theorem dX5_passNight_34 : decode cX5_passNight 34 = .ok (.invokestatic 60, 3) := by decide +kernel
theorem dX5_passNight_37 : decode cX5_passNight 37 = .ok (.iastore, 1) := by decide +kernel
theorem dX5_passNight_38 : decode cX5_passNight 38 = .ok (.goto 25, 3) := by decide +kernel
theorem dX5_passNight_41 : decode cX5_passNight 41 = .ok (.aload_n 0, 1) := by decide +kernel
theorem dX5_passNight_42 : decode cX5_passNight 42 = .ok (.getfield 24, 3) := by decide +kernel
theorem dX5_passNight_45 : decode cX5_passNight 45 = .ok (.iload_n 2, 1) := by decide +kernel
theorem dX5_passNight_46 : decode cX5_passNight 46 = .ok (.iconst 0, 1) := by decide +kernel
theorem dX5_passNight_47 : decode cX5_passNight 47 = .ok (.aload_n 0, 1) := by decide +kernel
theorem dX5_passNight_48 : decode cX5_passNight 48 = .ok (.getfield 24, 3) := by decide +kernel
theorem dX5_passNight_51 : decode cX5_passNight 51 = .ok (.iload_n 2, 1) := by decide +kernel
theorem dX5_passNight_52 : decode cX5_passNight 52 = .ok (.iaload, 1) := by decide +kernel
theorem dX5_passNight_53 : decode cX5_passNight 53 = .ok (.aload_n 0, 1) := by decide +kernel
theorem dX5_passNight_54 : decode cX5_passNight 54 = .ok (.iload_n 2, 1) := by decide +kernel
theorem dX5_passNight_55 : decode cX5_passNight 55 = .ok (.invokevirtual 63, 3) := by decide +kernel
theorem dX5_passNight_58 : decode cX5_passNight 58 = .ok (.isub, 1) := by decide +kernel
theorem dX5_passNight_59 : decode cX5_passNight 59 = .ok (.invokestatic 54, 3) := by decide +kernel
theorem dX5_passNight_62 : decode cX5_passNight 62 = .ok (.iastore, 1) := by decide +kernel
theorem dX5_passNight_63 : decode cX5_passNight 63 = .ok (.iinc 2 1, 3) := by decide +kernel
theorem dX5_passNight_66 : decode cX5_passNight 66 = .ok (.goto (-64), 3) := by decide +kernel
theorem dX5_passNight_69 : decode cX5_passNight 69 = .ok (.return_, 1) := by decide +kernel
theorem dX5_takeFrom_0 : decode cX5_takeFrom 0 = .ok (.aload_n 0, 1) := by decide +kernel
theorem dX5_takeFrom_1 : decode cX5_takeFrom 1 = .ok (.aload_n 1, 1) := by decide +kernel
theorem dX5_takeFrom_2 : decode cX5_takeFrom 2 = .ok (.getfield 30, 3) := by decide +kernel
theorem dX5_takeFrom_5 : decode cX5_takeFrom 5 = .ok (.putfield 30, 3) := by decide +kernel
theorem dX5_takeFrom_8 : decode cX5_takeFrom 8 = .ok (.aload_n 1, 1) := by decide +kernel
theorem dX5_takeFrom_9 : decode cX5_takeFrom 9 = .ok (.getfield 9, 3) := by decide +kernel
theorem dX5_takeFrom_12 : decode cX5_takeFrom 12 = .ok (.iconst 0, 1) := by decide +kernel
theorem dX5_takeFrom_13 : decode cX5_takeFrom 13 = .ok (.aload_n 0, 1) := by decide +kernel
theorem dX5_takeFrom_14 : decode cX5_takeFrom 14 = .ok (.getfield 9, 3) := by decide +kernel
theorem dX5_takeFrom_17 : decode cX5_takeFrom 17 = .ok (.iconst 0, 1) := by decide +kernel
theorem dX5_takeFrom_18 : decode cX5_takeFrom 18 = .ok (.bipush 12, 2) := by decide +kernel
theorem dX5_takeFrom_20 : decode cX5_takeFrom 20 = .ok (.invokestatic 67, 3) := by decide +kernel
theorem dX5_takeFrom_23 : decode cX5_takeFrom 23 = .ok (.aload_n 1, 1) := by decide +kernel
theorem dX5_takeFrom_24 : decode cX5_takeFrom 24 = .ok (.getfield 15, 3) := by decide +kernel
theorem dX5_takeFrom_27 : decode cX5_takeFrom 27 = .ok (.iconst 0, 1) := by decide +kernel
theorem dX5_takeFrom_28 : decode cX5_takeFrom 28 = .ok (.aload_n 0, 1) := by decide +kernel
theorem dX5_takeFrom_29 : decode cX5_takeFrom 29 = .ok (.getfield 15, 3) := by decide +kernel
theorem dX5_takeFrom_32 : decode cX5_takeFrom 32 = .ok (.iconst 0, 1) := by decide +kernel
theorem dX5_takeFrom_33 : decode cX5_takeFrom 33 = .ok (.bipush 12, 2) := by decide +kernel
theorem dX5_takeFrom_35 : decode cX5_takeFrom 35 = .ok (.invokestatic 67, 3) := by decide +kernel
theorem dX5_takeFrom_38 : decode cX5_takeFrom 38 = .ok (.aload_n 1, 1) := by decide +kernel
theorem dX5_takeFrom_39 : decode cX5_takeFrom 39 = .ok (.getfield 18, 3) := by decide +kernel
theorem dX5_takeFrom_42 : decode cX5_takeFrom 42 = .ok (.iconst 0, 1) := by decide +kernel
theorem dX5_takeFrom_43 : decode cX5_takeFrom 43 = .ok (.aload_n 0, 1) := by decide +kernel
theorem dX5_takeFrom_44 : decode cX5_takeFrom 44 = .ok (.getfield 18, 3) := by decide +kernel
theorem dX5_takeFrom_47 : decode cX5_takeFrom 47 = .ok (.iconst 0, 1) := by decide +kernel
theorem dX5_takeFrom_48 : decode cX5_takeFrom 48 = .ok (.bipush 12, 2) := by decide +kernel
theorem dX5_takeFrom_50 : decode cX5_takeFrom 50 = .ok (.invokestatic 67, 3) := by decide +kernel
theorem dX5_takeFrom_53 : decode cX5_takeFrom 53 = .ok (.aload_n 1, 1) := by decide +kernel
theorem dX5_takeFrom_54 : decode cX5_takeFrom 54 = .ok (.getfield 21, 3) := by decide +kernel
theorem dX5_takeFrom_57 : decode cX5_takeFrom 57 = .ok (.iconst 0, 1) := by decide +kernel
theorem dX5_takeFrom_58 : decode cX5_takeFrom 58 = .ok (.aload_n 0, 1) := by decide +kernel
theorem dX5_takeFrom_59 : decode cX5_takeFrom 59 = .ok (.getfield 21, 3) := by decide +kernel
theorem dX5_takeFrom_62 : decode cX5_takeFrom 62 = .ok (.iconst 0, 1) := by decide +kernel
theorem dX5_takeFrom_63 : decode cX5_takeFrom 63 = .ok (.bipush 12, 2) := by decide +kernel
theorem dX5_takeFrom_65 : decode cX5_takeFrom 65 = .ok (.invokestatic 67, 3) := by decide +kernel
theorem dX5_takeFrom_68 : decode cX5_takeFrom 68 = .ok (.aload_n 1, 1) := by decide +kernel
theorem dX5_takeFrom_69 : decode cX5_takeFrom 69 = .ok (.getfield 24, 3) := by decide +kernel
theorem dX5_takeFrom_72 : decode cX5_takeFrom 72 = .ok (.iconst 0, 1) := by decide +kernel
theorem dX5_takeFrom_73 : decode cX5_takeFrom 73 = .ok (.aload_n 0, 1) := by decide +kernel
theorem dX5_takeFrom_74 : decode cX5_takeFrom 74 = .ok (.getfield 24, 3) := by decide +kernel
theorem dX5_takeFrom_77 : decode cX5_takeFrom 77 = .ok (.iconst 0, 1) := by decide +kernel
theorem dX5_takeFrom_78 : decode cX5_takeFrom 78 = .ok (.bipush 12, 2) := by decide +kernel
theorem dX5_takeFrom_80 : decode cX5_takeFrom 80 = .ok (.invokestatic 67, 3) := by decide +kernel
theorem dX5_takeFrom_83 : decode cX5_takeFrom 83 = .ok (.aload_n 1, 1) := by decide +kernel
theorem dX5_takeFrom_84 : decode cX5_takeFrom 84 = .ok (.getfield 27, 3) := by decide +kernel
theorem dX5_takeFrom_87 : decode cX5_takeFrom 87 = .ok (.iconst 0, 1) := by decide +kernel
theorem dX5_takeFrom_88 : decode cX5_takeFrom 88 = .ok (.aload_n 0, 1) := by decide +kernel
theorem dX5_takeFrom_89 : decode cX5_takeFrom 89 = .ok (.getfield 27, 3) := by decide +kernel
theorem dX5_takeFrom_92 : decode cX5_takeFrom 92 = .ok (.iconst 0, 1) := by decide +kernel
theorem dX5_takeFrom_93 : decode cX5_takeFrom 93 = .ok (.bipush 12, 2) := by decide +kernel
theorem dX5_takeFrom_95 : decode cX5_takeFrom 95 = .ok (.invokestatic 67, 3) := by decide +kernel
theorem dX5_takeFrom_98 : decode cX5_takeFrom 98 = .ok (.return_, 1) := by decide +kernel
theorem dX6_init_0 : decode cX6_init 0 = .ok (.aload_n 0, 1) := by decide +kernel
theorem dX6_init_1 : decode cX6_init 1 = .ok (.invokespecial 1, 3) := by decide +kernel
theorem dX6_init_4 : decode cX6_init 4 = .ok (.aload_n 0, 1) := by decide +kernel
theorem dX6_init_5 : decode cX6_init 5 = .ok (.iconst 4, 1) := by decide +kernel
theorem dX6_init_6 : decode cX6_init 6 = .ok (.newarray .int, 2) := by decide +kernel
theorem dX6_init_8 : decode cX6_init 8 = .ok (.putfield 9, 3) := by decide +kernel
theorem dX6_init_11 : decode cX6_init 11 = .ok (.aload_n 0, 1) := by decide +kernel
theorem dX6_init_12 : decode cX6_init 12 = .ok (.iconst 4, 1) := by decide +kernel
theorem dX6_init_13 : decode cX6_init 13 = .ok (.newarray .int, 2) := by decide +kernel
theorem dX6_init_15 : decode cX6_init 15 = .ok (.putfield 13, 3) := by decide +kernel
theorem dX6_init_18 : decode cX6_init 18 = .ok (.aload_n 0, 1) := by decide +kernel
theorem dX6_init_19 : decode cX6_init 19 = .ok (.sipush 160, 3) := by decide +kernel
theorem dX6_init_22 : decode cX6_init 22 = .ok (.newarray .long, 2) := by decide +kernel
theorem dX6_init_24 : decode cX6_init 24 = .ok (.putfield 16, 3) := by decide +kernel
theorem dX6_init_27 : decode cX6_init 27 = .ok (.return_, 1) := by decide +kernel
theorem dX6_isSheet_0 : decode cX6_isSheet 0 = .ok (.iload_n 1, 1) := by decide +kernel
theorem dX6_isSheet_1 : decode cX6_isSheet 1 = .ok (.ifCond .lt 12, 3) := by decide +kernel
theorem dX6_isSheet_4 : decode cX6_isSheet 4 = .ok (.iload_n 1, 1) := by decide +kernel
theorem dX6_isSheet_5 : decode cX6_isSheet 5 = .ok (.iconst 4, 1) := by decide +kernel
theorem dX6_isSheet_6 : decode cX6_isSheet 6 = .ok (.if_icmp .ge 7, 3) := by decide +kernel
theorem dX6_isSheet_9 : decode cX6_isSheet 9 = .ok (.iconst 1, 1) := by decide +kernel
theorem dX6_isSheet_10 : decode cX6_isSheet 10 = .ok (.goto 4, 3) := by decide +kernel
theorem dX6_isSheet_13 : decode cX6_isSheet 13 = .ok (.iconst 0, 1) := by decide +kernel
theorem dX6_isSheet_14 : decode cX6_isSheet 14 = .ok (.ireturn, 1) := by decide +kernel
theorem dX6_isMissing_0 : decode cX6_isMissing 0 = .ok (.aload_n 0, 1) := by decide +kernel
theorem dX6_isMissing_1 : decode cX6_isMissing 1 = .ok (.getfield 9, 3) := by decide +kernel
theorem dX6_isMissing_4 : decode cX6_isMissing 4 = .ok (.iload_n 1, 1) := by decide +kernel
theorem dX6_isMissing_5 : decode cX6_isMissing 5 = .ok (.iaload, 1) := by decide +kernel
theorem dX6_isMissing_6 : decode cX6_isMissing 6 = .ok (.ifCond .ne 7, 3) := by decide +kernel
theorem dX6_isMissing_9 : decode cX6_isMissing 9 = .ok (.iconst 1, 1) := by decide +kernel
theorem dX6_isMissing_10 : decode cX6_isMissing 10 = .ok (.goto 4, 3) := by decide +kernel
theorem dX6_isMissing_13 : decode cX6_isMissing 13 = .ok (.iconst 0, 1) := by decide +kernel
theorem dX6_isMissing_14 : decode cX6_isMissing 14 = .ok (.ireturn, 1) := by decide +kernel
theorem dX6_hasNumbers_0 : decode cX6_hasNumbers 0 = .ok (.iload_n 2, 1) := by decide +kernel
theorem dX6_hasNumbers_1 : decode cX6_hasNumbers 1 = .ok (.ifCond .lt 33, 3) := by decide +kernel
theorem dX6_hasNumbers_4 : decode cX6_hasNumbers 4 = .ok (.iload_n 3, 1) := by decide +kernel
theorem dX6_hasNumbers_5 : decode cX6_hasNumbers 5 = .ok (.ifCond .lt 29, 3) := by decide +kernel
theorem dX6_hasNumbers_8 : decode cX6_hasNumbers 8 = .ok (.iload_n 2, 1) := by decide +kernel
theorem dX6_hasNumbers_9 : decode cX6_hasNumbers 9 = .ok (.aload_n 0, 1) := by decide +kernel
theorem dX6_hasNumbers_10 : decode cX6_hasNumbers 10 = .ok (.getfield 13, 3) := by decide +kernel
theorem dX6_hasNumbers_13 : decode cX6_hasNumbers 13 = .ok (.iload_n 1, 1) := by decide +kernel
theorem dX6_hasNumbers_14 : decode cX6_hasNumbers 14 = .ok (.iaload, 1) := by decide +kernel
theorem dX6_hasNumbers_15 : decode cX6_hasNumbers 15 = .ok (.if_icmp .gt 19, 3) := by decide +kernel
theorem dX6_hasNumbers_18 : decode cX6_hasNumbers 18 = .ok (.iload_n 3, 1) := by decide +kernel
theorem dX6_hasNumbers_19 : decode cX6_hasNumbers 19 = .ok (.aload_n 0, 1) := by decide +kernel
theorem dX6_hasNumbers_20 : decode cX6_hasNumbers 20 = .ok (.getfield 13, 3) := by decide +kernel
theorem dX6_hasNumbers_23 : decode cX6_hasNumbers 23 = .ok (.iload_n 1, 1) := by decide +kernel
theorem dX6_hasNumbers_24 : decode cX6_hasNumbers 24 = .ok (.iaload, 1) := by decide +kernel
theorem dX6_hasNumbers_25 : decode cX6_hasNumbers 25 = .ok (.iload_n 2, 1) := by decide +kernel
theorem dX6_hasNumbers_26 : decode cX6_hasNumbers 26 = .ok (.isub, 1) := by decide +kernel
theorem dX6_hasNumbers_27 : decode cX6_hasNumbers 27 = .ok (.if_icmp .gt 7, 3) := by decide +kernel
theorem dX6_hasNumbers_30 : decode cX6_hasNumbers 30 = .ok (.iconst 1, 1) := by decide +kernel
theorem dX6_hasNumbers_31 : decode cX6_hasNumbers 31 = .ok (.goto 4, 3) := by decide +kernel
theorem dX6_hasNumbers_34 : decode cX6_hasNumbers 34 = .ok (.iconst 0, 1) := by decide +kernel
theorem dX6_hasNumbers_35 : decode cX6_hasNumbers 35 = .ok (.ireturn, 1) := by decide +kernel
theorem dX6_lay_0 : decode cX6_lay 0 = .ok (.aload_n 0, 1) := by decide +kernel
theorem dX6_lay_1 : decode cX6_lay 1 = .ok (.getfield 9, 3) := by decide +kernel
theorem dX6_lay_4 : decode cX6_lay 4 = .ok (.iload_n 1, 1) := by decide +kernel
theorem dX6_lay_5 : decode cX6_lay 5 = .ok (.iload_n 2, 1) := by decide +kernel
theorem dX6_lay_6 : decode cX6_lay 6 = .ok (.iastore, 1) := by decide +kernel
theorem dX6_lay_7 : decode cX6_lay 7 = .ok (.aload_n 0, 1) := by decide +kernel
theorem dX6_lay_8 : decode cX6_lay 8 = .ok (.getfield 13, 3) := by decide +kernel
theorem dX6_lay_11 : decode cX6_lay 11 = .ok (.iload_n 1, 1) := by decide +kernel
theorem dX6_lay_12 : decode cX6_lay 12 = .ok (.iload_n 2, 1) := by decide +kernel
theorem dX6_lay_13 : decode cX6_lay 13 = .ok (.ifCond .ne 7, 3) := by decide +kernel
theorem dX6_lay_16 : decode cX6_lay 16 = .ok (.iconst 0, 1) := by decide +kernel
theorem dX6_lay_17 : decode cX6_lay 17 = .ok (.goto 4, 3) := by decide +kernel
theorem dX6_lay_20 : decode cX6_lay 20 = .ok (.iload_n 3, 1) := by decide +kernel
theorem dX6_lay_21 : decode cX6_lay 21 = .ok (.iastore, 1) := by decide +kernel
theorem dX6_lay_22 : decode cX6_lay 22 = .ok (.iconst 0, 1) := by decide +kernel
theorem dX6_lay_23 : decode cX6_lay 23 = .ok (.istore 4, 2) := by decide +kernel
theorem dX6_lay_25 : decode cX6_lay 25 = .ok (.iload 4, 2) := by decide +kernel
theorem dX6_lay_27 : decode cX6_lay 27 = .ok (.bipush 40, 2) := by decide +kernel
theorem dX6_lay_29 : decode cX6_lay 29 = .ok (.if_icmp .ge 22, 3) := by decide +kernel
theorem dX6_lay_32 : decode cX6_lay 32 = .ok (.aload_n 0, 1) := by decide +kernel
theorem dX6_lay_33 : decode cX6_lay 33 = .ok (.getfield 16, 3) := by decide +kernel
theorem dX6_lay_36 : decode cX6_lay 36 = .ok (.iload_n 1, 1) := by decide +kernel
theorem dX6_lay_37 : decode cX6_lay 37 = .ok (.bipush 40, 2) := by decide +kernel
theorem dX6_lay_39 : decode cX6_lay 39 = .ok (.imul, 1) := by decide +kernel
theorem dX6_lay_40 : decode cX6_lay 40 = .ok (.iload 4, 2) := by decide +kernel
theorem dX6_lay_42 : decode cX6_lay 42 = .ok (.iadd, 1) := by decide +kernel
theorem dX6_lay_43 : decode cX6_lay 43 = .ok (.lconst 0, 1) := by decide +kernel
theorem dX6_lay_44 : decode cX6_lay 44 = .ok (.lastore, 1) := by decide +kernel
theorem dX6_lay_45 : decode cX6_lay 45 = .ok (.iinc 4 1, 3) := by decide +kernel
theorem dX6_lay_48 : decode cX6_lay 48 = .ok (.goto (-23), 3) := by decide +kernel
theorem dX6_lay_51 : decode cX6_lay 51 = .ok (.aload_n 0, 1) := by decide +kernel
theorem dX6_lay_52 : decode cX6_lay 52 = .ok (.getfield 13, 3) := by decide +kernel
theorem dX6_lay_55 : decode cX6_lay 55 = .ok (.iload_n 1, 1) := by decide +kernel
theorem dX6_lay_56 : decode cX6_lay 56 = .ok (.iaload, 1) := by decide +kernel
theorem dX6_lay_57 : decode cX6_lay 57 = .ok (.ireturn, 1) := by decide +kernel
theorem dX6_at_0 : decode cX6_at 0 = .ok (.aload_n 0, 1) := by decide +kernel
theorem dX6_at_1 : decode cX6_at 1 = .ok (.getfield 16, 3) := by decide +kernel
theorem dX6_at_4 : decode cX6_at 4 = .ok (.iload_n 1, 1) := by decide +kernel
theorem dX6_at_5 : decode cX6_at 5 = .ok (.bipush 40, 2) := by decide +kernel
theorem dX6_at_7 : decode cX6_at 7 = .ok (.imul, 1) := by decide +kernel
theorem dX6_at_8 : decode cX6_at 8 = .ok (.iload_n 2, 1) := by decide +kernel
theorem dX6_at_9 : decode cX6_at 9 = .ok (.iadd, 1) := by decide +kernel
theorem dX6_at_10 : decode cX6_at 10 = .ok (.laload, 1) := by decide +kernel
theorem dX6_at_11 : decode cX6_at 11 = .ok (.lreturn, 1) := by decide +kernel
theorem dX6_replace_0 : decode cX6_replace 0 = .ok (.aload_n 0, 1) := by decide +kernel
theorem dX6_replace_1 : decode cX6_replace 1 = .ok (.iload_n 1, 1) := by decide +kernel
theorem dX6_replace_2 : decode cX6_replace 2 = .ok (.iload_n 2, 1) := by decide +kernel
theorem dX6_replace_3 : decode cX6_replace 3 = .ok (.invokevirtual 20, 3) := by decide +kernel
theorem dX6_replace_6 : decode cX6_replace 6 = .ok (.lstore 5, 2) := by decide +kernel
theorem dX6_replace_8 : decode cX6_replace 8 = .ok (.aload_n 0, 1) := by decide +kernel
theorem dX6_replace_9 : decode cX6_replace 9 = .ok (.getfield 16, 3) := by decide +kernel
theorem dX6_replace_12 : decode cX6_replace 12 = .ok (.iload_n 1, 1) := by decide +kernel
theorem dX6_replace_13 : decode cX6_replace 13 = .ok (.bipush 40, 2) := by decide +kernel
theorem dX6_replace_15 : decode cX6_replace 15 = .ok (.imul, 1) := by decide +kernel
theorem dX6_replace_16 : decode cX6_replace 16 = .ok (.iload_n 2, 1) := by decide +kernel
theorem dX6_replace_17 : decode cX6_replace 17 = .ok (.iadd, 1) := by decide +kernel
theorem dX6_replace_18 : decode cX6_replace 18 = .ok (.lload_n 3, 1) := by decide +kernel
theorem dX6_replace_19 : decode cX6_replace 19 = .ok (.aload_n 0, 1) := by decide +kernel
theorem dX6_replace_20 : decode cX6_replace 20 = .ok (.getfield 9, 3) := by decide +kernel
theorem dX6_replace_23 : decode cX6_replace 23 = .ok (.iload_n 1, 1) := by decide +kernel
theorem dX6_replace_24 : decode cX6_replace 24 = .ok (.iaload, 1) := by decide +kernel
theorem dX6_replace_25 : decode cX6_replace 25 = .ok (.invokestatic 24, 3) := by decide +kernel
theorem dX6_replace_28 : decode cX6_replace 28 = .ok (.lastore, 1) := by decide +kernel
theorem dX6_replace_29 : decode cX6_replace 29 = .ok (.lload 5, 2) := by decide +kernel
theorem dX6_replace_31 : decode cX6_replace 31 = .ok (.lreturn, 1) := by decide +kernel
theorem dX6_cut_0 : decode cX6_cut 0 = .ok (.iload_n 2, 1) := by decide +kernel
theorem dX6_cut_1 : decode cX6_cut 1 = .ok (.bipush 8, 2) := by decide +kernel
theorem dX6_cut_3 : decode cX6_cut 3 = .ok (.if_icmp .ne 8, 3) := by decide +kernel
theorem dX6_cut_6 : decode cX6_cut 6 = .ok (.lload_n 0, 1) := by decide +kernel
theorem dX6_cut_7 : decode cX6_cut 7 = .ok (.l2i, 1) := by decide +kernel
theorem dX6_cut_8 : decode cX6_cut 8 = .ok (.i2b, 1) := by decide +kernel
theorem dX6_cut_9 : decode cX6_cut 9 = .ok (.i2l, 1) := by decide +kernel
theorem dX6_cut_10 : decode cX6_cut 10 = .ok (.lreturn, 1) := by decide +kernel
theorem dX6_cut_11 : decode cX6_cut 11 = .ok (.iload_n 2, 1) := by decide +kernel
theorem dX6_cut_12 : decode cX6_cut 12 = .ok (.bipush 16, 2) := by decide +kernel
theorem dX6_cut_14 : decode cX6_cut 14 = .ok (.if_icmp .ne 10, 3) := by decide +kernel
theorem dX6_cut_17 : decode cX6_cut 17 = .ok (.lload_n 0, 1) := by decide +kernel
theorem dX6_cut_18 : decode cX6_cut 18 = .ok (.l2i, 1) := by decide +kernel
theorem dX6_cut_19 : decode cX6_cut 19 = .ok (.i2s, 1) := by decide +kernel
theorem dX6_cut_20 : decode cX6_cut 20 = .ok (.i2l, 1) := by decide +kernel
theorem dX6_cut_21 : decode cX6_cut 21 = .ok (.goto 4, 3) := by decide +kernel
theorem dX6_cut_24 : decode cX6_cut 24 = .ok (.lload_n 0, 1) := by decide +kernel
theorem dX6_cut_25 : decode cX6_cut 25 = .ok (.lreturn, 1) := by decide +kernel
theorem dX6_move_0 : decode cX6_move 0 = .ok (.aload_n 0, 1) := by decide +kernel
theorem dX6_move_1 : decode cX6_move 1 = .ok (.getfield 16, 3) := by decide +kernel
theorem dX6_move_4 : decode cX6_move 4 = .ok (.iload_n 1, 1) := by decide +kernel
theorem dX6_move_5 : decode cX6_move 5 = .ok (.bipush 40, 2) := by decide +kernel
theorem dX6_move_7 : decode cX6_move 7 = .ok (.imul, 1) := by decide +kernel
theorem dX6_move_8 : decode cX6_move 8 = .ok (.iload_n 2, 1) := by decide +kernel
theorem dX6_move_9 : decode cX6_move 9 = .ok (.iadd, 1) := by decide +kernel
theorem dX6_move_10 : decode cX6_move 10 = .ok (.aload_n 0, 1) := by decide +kernel
theorem dX6_move_11 : decode cX6_move 11 = .ok (.getfield 16, 3) := by decide +kernel
theorem dX6_move_14 : decode cX6_move 14 = .ok (.iload_n 3, 1) := by decide +kernel
theorem dX6_move_15 : decode cX6_move 15 = .ok (.bipush 40, 2) := by decide +kernel
theorem dX6_move_17 : decode cX6_move 17 = .ok (.imul, 1) := by decide +kernel
theorem dX6_move_18 : decode cX6_move 18 = .ok (.iload 4, 2) := by decide +kernel
theorem dX6_move_20 : decode cX6_move 20 = .ok (.iadd, 1) := by decide +kernel
theorem dX6_move_21 : decode cX6_move 21 = .ok (.iload 5, 2) := by decide +kernel
theorem dX6_move_23 : decode cX6_move 23 = .ok (.invokestatic 28, 3) := by decide +kernel
theorem dX6_move_26 : decode cX6_move 26 = .ok (.return_, 1) := by decide +kernel
theorem dX7_init_0 : decode cX7_init 0 = .ok (.aload_n 0, 1) := by decide +kernel
theorem dX7_init_1 : decode cX7_init 1 = .ok (.invokespecial 1, 3) := by decide +kernel
theorem dX7_init_4 : decode cX7_init 4 = .ok (.aload_n 0, 1) := by decide +kernel
theorem dX7_init_5 : decode cX7_init 5 = .ok (.bipush 120, 2) := by decide +kernel
theorem dX7_init_7 : decode cX7_init 7 = .ok (.newarray .int, 2) := by decide +kernel
theorem dX7_init_9 : decode cX7_init 9 = .ok (.putfield 9, 3) := by decide +kernel
theorem dX7_init_12 : decode cX7_init 12 = .ok (.aload_n 0, 1) := by decide +kernel
theorem dX7_init_13 : decode cX7_init 13 = .ok (.iconst 0, 1) := by decide +kernel
theorem dX7_init_14 : decode cX7_init 14 = .ok (.putfield 13, 3) := by decide +kernel
theorem dX7_init_17 : decode cX7_init 17 = .ok (.aload_n 0, 1) := by decide +kernel
theorem dX7_init_18 : decode cX7_init 18 = .ok (.iconst 0, 1) := by decide +kernel
theorem dX7_init_19 : decode cX7_init 19 = .ok (.putfield 17, 3) := by decide +kernel
theorem dX7_init_22 : decode cX7_init 22 = .ok (.aload_n 0, 1) := by decide +kernel
theorem dX7_init_23 : decode cX7_init 23 = .ok (.iconst 0, 1) := by decide +kernel
theorem dX7_init_24 : decode cX7_init 24 = .ok (.putfield 20, 3) := by decide +kernel
theorem dX7_init_27 : decode cX7_init 27 = .ok (.aload_n 0, 1) := by decide +kernel
theorem dX7_init_28 : decode cX7_init 28 = .ok (.iconst 0, 1) := by decide +kernel
theorem dX7_init_29 : decode cX7_init 29 = .ok (.putfield 23, 3) := by decide +kernel
theorem dX7_init_32 : decode cX7_init 32 = .ok (.aload_n 0, 1) := by decide +kernel
theorem dX7_init_33 : decode cX7_init 33 = .ok (.iconst 0, 1) := by decide +kernel
theorem dX7_init_34 : decode cX7_init 34 = .ok (.putfield 26, 3) := by decide +kernel
theorem dX7_init_37 : decode cX7_init 37 = .ok (.return_, 1) := by decide +kernel
theorem dX7_hasRoom_0 : decode cX7_hasRoom 0 = .ok (.aload_n 0, 1) := by decide +kernel
theorem dX7_hasRoom_1 : decode cX7_hasRoom 1 = .ok (.getfield 13, 3) := by decide +kernel
theorem dX7_hasRoom_4 : decode cX7_hasRoom 4 = .ok (.iload_n 1, 1) := by decide +kernel
theorem dX7_hasRoom_5 : decode cX7_hasRoom 5 = .ok (.iadd, 1) := by decide +kernel
theorem dX7_hasRoom_6 : decode cX7_hasRoom 6 = .ok (.bipush 120, 2) := by decide +kernel
theorem dX7_hasRoom_8 : decode cX7_hasRoom 8 = .ok (.if_icmp .gt 7, 3) := by decide +kernel
theorem dX7_hasRoom_11 : decode cX7_hasRoom 11 = .ok (.iconst 1, 1) := by decide +kernel
theorem dX7_hasRoom_12 : decode cX7_hasRoom 12 = .ok (.goto 4, 3) := by decide +kernel
theorem dX7_hasRoom_15 : decode cX7_hasRoom 15 = .ok (.iconst 0, 1) := by decide +kernel
theorem dX7_hasRoom_16 : decode cX7_hasRoom 16 = .ok (.ireturn, 1) := by decide +kernel
theorem dX7_append_0 : decode cX7_append 0 = .ok (.aload_n 0, 1) := by decide +kernel
theorem dX7_append_1 : decode cX7_append 1 = .ok (.getfield 13, 3) := by decide +kernel
theorem dX7_append_4 : decode cX7_append 4 = .ok (.bipush 120, 2) := by decide +kernel
theorem dX7_append_6 : decode cX7_append 6 = .ok (.if_icmp .ge 23, 3) := by decide +kernel
theorem dX7_append_9 : decode cX7_append 9 = .ok (.aload_n 0, 1) := by decide +kernel
theorem dX7_append_10 : decode cX7_append 10 = .ok (.getfield 9, 3) := by decide +kernel
theorem dX7_append_13 : decode cX7_append 13 = .ok (.aload_n 0, 1) := by decide +kernel
theorem dX7_append_14 : decode cX7_append 14 = .ok (.getfield 13, 3) := by decide +kernel
theorem dX7_append_17 : decode cX7_append 17 = .ok (.iload_n 1, 1) := by decide +kernel
theorem dX7_append_18 : decode cX7_append 18 = .ok (.iastore, 1) := by decide +kernel
theorem dX7_append_19 : decode cX7_append 19 = .ok (.aload_n 0, 1) := by decide +kernel
theorem dX7_append_20 : decode cX7_append 20 = .ok (.dup, 1) := by decide +kernel
theorem dX7_append_21 : decode cX7_append 21 = .ok (.getfield 13, 3) := by decide +kernel
theorem dX7_append_24 : decode cX7_append 24 = .ok (.iconst 1, 1) := by decide +kernel
theorem dX7_append_25 : decode cX7_append 25 = .ok (.iadd, 1) := by decide +kernel
theorem dX7_append_26 : decode cX7_append 26 = .ok (.putfield 13, 3) := by decide +kernel
theorem dX7_append_29 : decode cX7_append 29 = .ok (.return_, 1) := by decide +kernel
theorem dX7_clear_0 : decode cX7_clear 0 = .ok (.aload_n 0, 1) := by decide +kernel
theorem dX7_clear_1 : decode cX7_clear 1 = .ok (.getfield 13, 3) := by decide +kernel
theorem dX7_clear_4 : decode cX7_clear 4 = .ok (.istore_n 1, 1) := by decide +kernel
theorem dX7_clear_5 : decode cX7_clear 5 = .ok (.aload_n 0, 1) := by decide +kernel
theorem dX7_clear_6 : decode cX7_clear 6 = .ok (.iconst 0, 1) := by decide +kernel
theorem dX7_clear_7 : decode cX7_clear 7 = .ok (.putfield 13, 3) := by decide +kernel
theorem dX7_clear_10 : decode cX7_clear 10 = .ok (.iload_n 1, 1) := by decide +kernel
theorem dX7_clear_11 : decode cX7_clear 11 = .ok (.ireturn, 1) := by decide +kernel
theorem dX7_begin_0 : decode cX7_begin 0 = .ok (.aload_n 0, 1) := by decide +kernel
theorem dX7_begin_1 : decode cX7_begin 1 = .ok (.iconst 0, 1) := by decide +kernel
theorem dX7_begin_2 : decode cX7_begin 2 = .ok (.putfield 26, 3) := by decide +kernel
theorem dX7_begin_5 : decode cX7_begin 5 = .ok (.aload_n 0, 1) := by decide +kernel
theorem dX7_begin_6 : decode cX7_begin 6 = .ok (.invokevirtual 29, 3) := by decide +kernel
theorem dX7_begin_9 : decode cX7_begin 9 = .ok (.return_, 1) := by decide +kernel
theorem dX7_advance_0 : decode cX7_advance 0 = .ok (.aload_n 0, 1) := by decide +kernel
theorem dX7_advance_1 : decode cX7_advance 1 = .ok (.aload_n 0, 1) := by decide +kernel
theorem dX7_advance_2 : decode cX7_advance 2 = .ok (.getfield 26, 3) := by decide +kernel
theorem dX7_advance_5 : decode cX7_advance 5 = .ok (.putfield 20, 3) := by decide +kernel
theorem dX7_advance_8 : decode cX7_advance 8 = .ok (.aload_n 0, 1) := by decide +kernel
theorem dX7_advance_9 : decode cX7_advance 9 = .ok (.getfield 20, 3) := by decide +kernel
theorem dX7_advance_12 : decode cX7_advance 12 = .ok (.aload_n 0, 1) := by decide +kernel
theorem dX7_advance_13 : decode cX7_advance 13 = .ok (.getfield 13, 3) := by decide +kernel
theorem dX7_advance_16 : decode cX7_advance 16 = .ok (.if_icmp .ge 30, 3) := by decide +kernel
theorem dX7_advance_19 : decode cX7_advance 19 = .ok (.aload_n 0, 1) := by decide +kernel
theorem dX7_advance_20 : decode cX7_advance 20 = .ok (.getfield 9, 3) := by decide +kernel
theorem dX7_advance_23 : decode cX7_advance 23 = .ok (.aload_n 0, 1) := by decide +kernel
theorem dX7_advance_24 : decode cX7_advance 24 = .ok (.getfield 20, 3) := by decide +kernel
theorem dX7_advance_27 : decode cX7_advance 27 = .ok (.iaload, 1) := by decide +kernel
theorem dX7_advance_28 : decode cX7_advance 28 = .ok (.bipush 32, 2) := by decide +kernel
theorem dX7_advance_30 : decode cX7_advance 30 = .ok (.if_icmp .ne 16, 3) := by decide +kernel
theorem dX7_advance_33 : decode cX7_advance 33 = .ok (.aload_n 0, 1) := by decide +kernel
theorem dX7_advance_34 : decode cX7_advance 34 = .ok (.dup, 1) := by decide +kernel
theorem dX7_advance_35 : decode cX7_advance 35 = .ok (.getfield 20, 3) := by decide +kernel
theorem dX7_advance_38 : decode cX7_advance 38 = .ok (.iconst 1, 1) := by decide +kernel
theorem dX7_advance_39 : decode cX7_advance 39 = .ok (.iadd, 1) := by decide +kernel
theorem dX7_advance_40 : decode cX7_advance 40 = .ok (.putfield 20, 3) := by decide +kernel
theorem dX7_advance_43 : decode cX7_advance 43 = .ok (.goto (-35), 3) := by decide +kernel
theorem dX7_advance_46 : decode cX7_advance 46 = .ok (.aload_n 0, 1) := by decide +kernel
theorem dX7_advance_47 : decode cX7_advance 47 = .ok (.aload_n 0, 1) := by decide +kernel
theorem dX7_advance_48 : decode cX7_advance 48 = .ok (.getfield 20, 3) := by decide +kernel
theorem dX7_advance_51 : decode cX7_advance 51 = .ok (.putfield 26, 3) := by decide +kernel
theorem dX7_advance_54 : decode cX7_advance 54 = .ok (.aload_n 0, 1) := by decide +kernel
theorem dX7_advance_55 : decode cX7_advance 55 = .ok (.getfield 20, 3) := by decide +kernel
theorem dX7_advance_58 : decode cX7_advance 58 = .ok (.aload_n 0, 1) := by decide +kernel
theorem dX7_advance_59 : decode cX7_advance 59 = .ok (.getfield 13, 3) := by decide +kernel
theorem dX7_advance_62 : decode cX7_advance 62 = .ok (.if_icmp .lt 11, 3) := by decide +kernel
theorem dX7_advance_65 : decode cX7_advance 65 = .ok (.aload_n 0, 1) := by decide +kernel
theorem dX7_advance_66 : decode cX7_advance 66 = .ok (.iconst 0, 1) := by decide +kernel
theorem dX7_advance_67 : decode cX7_advance 67 = .ok (.putfield 17, 3) := by decide +kernel
theorem dX7_advance_70 : decode cX7_advance 70 = .ok (.goto 173, 3) := by decide +kernel
theorem dX7_advance_73 : decode cX7_advance 73 = .ok (.aload_n 0, 1) := by decide +kernel
theorem dX7_advance_74 : decode cX7_advance 74 = .ok (.aload_n 0, 1) := by decide +kernel
theorem dX7_advance_75 : decode cX7_advance 75 = .ok (.getfield 20, 3) := by decide +kernel
theorem dX7_advance_78 : decode cX7_advance 78 = .ok (.invokevirtual 32, 3) := by decide +kernel
theorem dX7_advance_81 : decode cX7_advance 81 = .ok (.ifCond .eq 43, 3) := by decide +kernel
theorem dX7_advance_84 : decode cX7_advance 84 = .ok (.aload_n 0, 1) := by decide +kernel
theorem dX7_advance_85 : decode cX7_advance 85 = .ok (.iconst 1, 1) := by decide +kernel
theorem dX7_advance_86 : decode cX7_advance 86 = .ok (.putfield 17, 3) := by decide +kernel
theorem dX7_advance_89 : decode cX7_advance 89 = .ok (.aload_n 0, 1) := by decide +kernel
theorem dX7_advance_90 : decode cX7_advance 90 = .ok (.getfield 26, 3) := by decide +kernel
theorem dX7_advance_93 : decode cX7_advance 93 = .ok (.aload_n 0, 1) := by decide +kernel
theorem dX7_advance_94 : decode cX7_advance 94 = .ok (.getfield 13, 3) := by decide +kernel
theorem dX7_advance_97 : decode cX7_advance 97 = .ok (.if_icmp .ge 146, 3) := by decide +kernel
theorem dX7_advance_100 : decode cX7_advance 100 = .ok (.aload_n 0, 1) := by decide +kernel
theorem dX7_advance_101 : decode cX7_advance 101 = .ok (.aload_n 0, 1) := by decide +kernel
theorem dX7_advance_102 : decode cX7_advance 102 = .ok (.getfield 26, 3) := by decide +kernel
theorem dX7_advance_105 : decode cX7_advance 105 = .ok (.invokevirtual 32, 3) := by decide +kernel
theorem dX7_advance_108 : decode cX7_advance 108 = .ok (.ifCond .eq 135, 3) := by decide +kernel
theorem dX7_advance_111 : decode cX7_advance 111 = .ok (.aload_n 0, 1) := by decide +kernel
theorem dX7_advance_112 : decode cX7_advance 112 = .ok (.dup, 1) := by decide +kernel
theorem dX7_advance_113 : decode cX7_advance 113 = .ok (.getfield 26, 3) := by decide +kernel
theorem dX7_advance_116 : decode cX7_advance 116 = .ok (.iconst 1, 1) := by decide +kernel
theorem dX7_advance_117 : decode cX7_advance 117 = .ok (.iadd, 1) := by decide +kernel
theorem dX7_advance_118 : decode cX7_advance 118 = .ok (.putfield 26, 3) := by decide +kernel
theorem dX7_advance_121 : decode cX7_advance 121 = .ok (.goto (-32), 3) := by decide +kernel
theorem dX7_advance_124 : decode cX7_advance 124 = .ok (.aload_n 0, 1) := by decide +kernel
theorem dX7_advance_125 : decode cX7_advance 125 = .ok (.aload_n 0, 1) := by decide +kernel
theorem dX7_advance_126 : decode cX7_advance 126 = .ok (.getfield 20, 3) := by decide +kernel
theorem dX7_advance_129 : decode cX7_advance 129 = .ok (.invokevirtual 36, 3) := by decide +kernel
theorem dX7_advance_132 : decode cX7_advance 132 = .ok (.ifCond .eq 78, 3) := by decide +kernel
theorem dX7_advance_135 : decode cX7_advance 135 = .ok (.aload_n 0, 1) := by decide +kernel
theorem dX7_advance_136 : decode cX7_advance 136 = .ok (.iconst 2, 1) := by decide +kernel
theorem dX7_advance_137 : decode cX7_advance 137 = .ok (.putfield 17, 3) := by decide +kernel
theorem dX7_advance_140 : decode cX7_advance 140 = .ok (.aload_n 0, 1) := by decide +kernel
theorem dX7_advance_141 : decode cX7_advance 141 = .ok (.iconst 0, 1) := by decide +kernel
theorem dX7_advance_142 : decode cX7_advance 142 = .ok (.putfield 23, 3) := by decide +kernel
theorem dX7_advance_145 : decode cX7_advance 145 = .ok (.aload_n 0, 1) := by decide +kernel
theorem dX7_advance_146 : decode cX7_advance 146 = .ok (.getfield 26, 3) := by decide +kernel
theorem dX7_advance_149 : decode cX7_advance 149 = .ok (.aload_n 0, 1) := by decide +kernel
theorem dX7_advance_150 : decode cX7_advance 150 = .ok (.getfield 13, 3) := by decide +kernel
theorem dX7_advance_153 : decode cX7_advance 153 = .ok (.if_icmp .ge 90, 3) := by decide +kernel
theorem dX7_advance_156 : decode cX7_advance 156 = .ok (.aload_n 0, 1) := by decide +kernel
theorem dX7_advance_157 : decode cX7_advance 157 = .ok (.aload_n 0, 1) := by decide +kernel
theorem dX7_advance_158 : decode cX7_advance 158 = .ok (.getfield 26, 3) := by decide +kernel
theorem dX7_advance_161 : decode cX7_advance 161 = .ok (.invokevirtual 36, 3) := by decide +kernel
theorem dX7_advance_164 : decode cX7_advance 164 = .ok (.ifCond .eq 79, 3) := by decide +kernel
theorem dX7_advance_167 : decode cX7_advance 167 = .ok (.aload_n 0, 1) := by decide +kernel
theorem dX7_advance_168 : decode cX7_advance 168 = .ok (.sipush 1000, 3) := by decide +kernel
theorem dX7_advance_171 : decode cX7_advance 171 = .ok (.aload_n 0, 1) := by decide +kernel
theorem dX7_advance_172 : decode cX7_advance 172 = .ok (.getfield 23, 3) := by decide +kernel
theorem dX7_advance_175 : decode cX7_advance 175 = .ok (.bipush 10, 2) := by decide +kernel
theorem dX7_advance_177 : decode cX7_advance 177 = .ok (.imul, 1) := by decide +kernel
theorem dX7_advance_178 : decode cX7_advance 178 = .ok (.aload_n 0, 1) := by decide +kernel
theorem dX7_advance_179 : decode cX7_advance 179 = .ok (.getfield 9, 3) := by decide +kernel
theorem dX7_advance_182 : decode cX7_advance 182 = .ok (.aload_n 0, 1) := by decide +kernel
theorem dX7_advance_183 : decode cX7_advance 183 = .ok (.getfield 26, 3) := by decide +kernel
theorem dX7_advance_186 : decode cX7_advance 186 = .ok (.iaload, 1) := by decide +kernel
theorem dX7_advance_187 : decode cX7_advance 187 = .ok (.iadd, 1) := by decide +kernel
theorem dX7_advance_188 : decode cX7_advance 188 = .ok (.bipush 48, 2) := by decide +kernel
theorem dX7_advance_190 : decode cX7_advance 190 = .ok (.isub, 1) := by decide +kernel
theorem dX7_advance_191 : decode cX7_advance 191 = .ok (.invokestatic 39, 3) := by decide +kernel
theorem dX7_advance_194 : decode cX7_advance 194 = .ok (.putfield 23, 3) := by decide +kernel
theorem dX7_advance_197 : decode cX7_advance 197 = .ok (.aload_n 0, 1) := by decide +kernel
theorem dX7_advance_198 : decode cX7_advance 198 = .ok (.dup, 1) := by decide +kernel
theorem dX7_advance_199 : decode cX7_advance 199 = .ok (.getfield 26, 3) := by decide +kernel
theorem dX7_advance_202 : decode cX7_advance 202 = .ok (.iconst 1, 1) := by decide +kernel
theorem dX7_advance_203 : decode cX7_advance 203 = .ok (.iadd, 1) := by decide +kernel
theorem dX7_advance_204 : decode cX7_advance 204 = .ok (.putfield 26, 3) := by decide +kernel
theorem dX7_advance_207 : decode cX7_advance 207 = .ok (.goto (-62), 3) := by decide +kernel
theorem dX7_advance_210 : decode cX7_advance 210 = .ok (.aload_n 0, 1) := by decide +kernel
theorem dX7_advance_211 : decode cX7_advance 211 = .ok (.aload_n 0, 1) := by decide +kernel
theorem dX7_advance_212 : decode cX7_advance 212 = .ok (.getfield 9, 3) := by decide +kernel
theorem dX7_advance_215 : decode cX7_advance 215 = .ok (.aload_n 0, 1) := by decide +kernel
theorem dX7_advance_216 : decode cX7_advance 216 = .ok (.getfield 20, 3) := by decide +kernel
theorem dX7_advance_219 : decode cX7_advance 219 = .ok (.iaload, 1) := by decide +kernel
theorem dX7_advance_220 : decode cX7_advance 220 = .ok (.bipush 59, 2) := by decide +kernel
theorem dX7_advance_222 : decode cX7_advance 222 = .ok (.if_icmp .ne 7, 3) := by decide +kernel
theorem dX7_advance_225 : decode cX7_advance 225 = .ok (.iconst 3, 1) := by decide +kernel
theorem dX7_advance_226 : decode cX7_advance 226 = .ok (.goto 4, 3) := by decide +kernel
theorem dX7_advance_229 : decode cX7_advance 229 = .ok (.iconst 4, 1) := by decide +kernel
theorem dX7_advance_230 : decode cX7_advance 230 = .ok (.putfield 17, 3) := by decide +kernel
theorem dX7_advance_233 : decode cX7_advance 233 = .ok (.aload_n 0, 1) := by decide +kernel
theorem dX7_advance_234 : decode cX7_advance 234 = .ok (.aload_n 0, 1) := by decide +kernel
theorem dX7_advance_235 : decode cX7_advance 235 = .ok (.getfield 20, 3) := by decide +kernel
theorem dX7_advance_238 : decode cX7_advance 238 = .ok (.iconst 1, 1) := by decide +kernel
theorem dX7_advance_239 : decode cX7_advance 239 = .ok (.iadd, 1) := by decide +kernel
theorem dX7_advance_240 : decode cX7_advance 240 = .ok (.putfield 26, 3) := by decide +kernel
theorem dX7_advance_243 : decode cX7_advance 243 = .ok (.return_, 1) := by decide +kernel
theorem dX7_isLetter_0 : decode cX7_isLetter 0 = .ok (.aload_n 0, 1) := by decide +kernel
theorem dX7_isLetter_1 : decode cX7_isLetter 1 = .ok (.getfield 9, 3) := by decide +kernel
theorem dX7_isLetter_4 : decode cX7_isLetter 4 = .ok (.iload_n 1, 1) := by decide +kernel
theorem dX7_isLetter_5 : decode cX7_isLetter 5 = .ok (.iaload, 1) := by decide +kernel
theorem dX7_isLetter_6 : decode cX7_isLetter 6 = .ok (.bipush 97, 2) := by decide +kernel
theorem dX7_isLetter_8 : decode cX7_isLetter 8 = .ok (.if_icmp .lt 18, 3) := by decide +kernel
theorem dX7_isLetter_11 : decode cX7_isLetter 11 = .ok (.aload_n 0, 1) := by decide +kernel
theorem dX7_isLetter_12 : decode cX7_isLetter 12 = .ok (.getfield 9, 3) := by decide +kernel
theorem dX7_isLetter_15 : decode cX7_isLetter 15 = .ok (.iload_n 1, 1) := by decide +kernel
theorem dX7_isLetter_16 : decode cX7_isLetter 16 = .ok (.iaload, 1) := by decide +kernel
theorem dX7_isLetter_17 : decode cX7_isLetter 17 = .ok (.bipush 122, 2) := by decide +kernel
theorem dX7_isLetter_19 : decode cX7_isLetter 19 = .ok (.if_icmp .gt 7, 3) := by decide +kernel
theorem dX7_isLetter_22 : decode cX7_isLetter 22 = .ok (.iconst 1, 1) := by decide +kernel
theorem dX7_isLetter_23 : decode cX7_isLetter 23 = .ok (.goto 4, 3) := by decide +kernel
theorem dX7_isLetter_26 : decode cX7_isLetter 26 = .ok (.iconst 0, 1) := by decide +kernel
theorem dX7_isLetter_27 : decode cX7_isLetter 27 = .ok (.ireturn, 1) := by decide +kernel
theorem dX7_isDigit_0 : decode cX7_isDigit 0 = .ok (.aload_n 0, 1) := by decide +kernel
theorem dX7_isDigit_1 : decode cX7_isDigit 1 = .ok (.getfield 9, 3) := by decide +kernel
theorem dX7_isDigit_4 : decode cX7_isDigit 4 = .ok (.iload_n 1, 1) := by decide +kernel
theorem dX7_isDigit_5 : decode cX7_isDigit 5 = .ok (.iaload, 1) := by decide +kernel
theorem dX7_isDigit_6 : decode cX7_isDigit 6 = .ok (.bipush 48, 2) := by decide +kernel
theorem dX7_isDigit_8 : decode cX7_isDigit 8 = .ok (.if_icmp .lt 18, 3) := by decide +kernel
theorem dX7_isDigit_11 : decode cX7_isDigit 11 = .ok (.aload_n 0, 1) := by decide +kernel
theorem dX7_isDigit_12 : decode cX7_isDigit 12 = .ok (.getfield 9, 3) := by decide +kernel
theorem dX7_isDigit_15 : decode cX7_isDigit 15 = .ok (.iload_n 1, 1) := by decide +kernel
theorem dX7_isDigit_16 : decode cX7_isDigit 16 = .ok (.iaload, 1) := by decide +kernel
theorem dX7_isDigit_17 : decode cX7_isDigit 17 = .ok (.bipush 57, 2) := by decide +kernel
theorem dX7_isDigit_19 : decode cX7_isDigit 19 = .ok (.if_icmp .gt 7, 3) := by decide +kernel
theorem dX7_isDigit_22 : decode cX7_isDigit 22 = .ok (.iconst 1, 1) := by decide +kernel
theorem dX7_isDigit_23 : decode cX7_isDigit 23 = .ok (.goto 4, 3) := by decide +kernel
theorem dX7_isDigit_26 : decode cX7_isDigit 26 = .ok (.iconst 0, 1) := by decide +kernel
theorem dX7_isDigit_27 : decode cX7_isDigit 27 = .ok (.ireturn, 1) := by decide +kernel
theorem dX7_isWord_0 : decode cX7_isWord 0 = .ok (.aload_n 0, 1) := by decide +kernel
theorem dX7_isWord_1 : decode cX7_isWord 1 = .ok (.getfield 17, 3) := by decide +kernel
theorem dX7_isWord_4 : decode cX7_isWord 4 = .ok (.iconst 1, 1) := by decide +kernel
theorem dX7_isWord_5 : decode cX7_isWord 5 = .ok (.if_icmp .ne 19, 3) := by decide +kernel
theorem dX7_isWord_8 : decode cX7_isWord 8 = .ok (.aload_n 0, 1) := by decide +kernel
theorem dX7_isWord_9 : decode cX7_isWord 9 = .ok (.getfield 26, 3) := by decide +kernel
theorem dX7_isWord_12 : decode cX7_isWord 12 = .ok (.aload_n 0, 1) := by decide +kernel
theorem dX7_isWord_13 : decode cX7_isWord 13 = .ok (.getfield 20, 3) := by decide +kernel
theorem dX7_isWord_16 : decode cX7_isWord 16 = .ok (.isub, 1) := by decide +kernel
theorem dX7_isWord_17 : decode cX7_isWord 17 = .ok (.aload_n 1, 1) := by decide +kernel
theorem dX7_isWord_18 : decode cX7_isWord 18 = .ok (.invokevirtual 45, 3) := by decide +kernel
theorem dX7_isWord_21 : decode cX7_isWord 21 = .ok (.if_icmp .eq 5, 3) := by decide +kernel
theorem dX7_isWord_24 : decode cX7_isWord 24 = .ok (.iconst 0, 1) := by decide +kernel
theorem dX7_isWord_25 : decode cX7_isWord 25 = .ok (.ireturn, 1) := by decide +kernel
theorem dX7_isWord_26 : decode cX7_isWord 26 = .ok (.iconst 0, 1) := by decide +kernel
theorem dX7_isWord_27 : decode cX7_isWord 27 = .ok (.istore_n 2, 1) := by decide +kernel
theorem dX7_isWord_28 : decode cX7_isWord 28 = .ok (.iload_n 2, 1) := by decide +kernel
theorem dX7_isWord_29 : decode cX7_isWord 29 = .ok (.aload_n 1, 1) := by decide +kernel
theorem dX7_isWord_30 : decode cX7_isWord 30 = .ok (.invokevirtual 45, 3) := by decide +kernel
theorem dX7_isWord_33 : decode cX7_isWord 33 = .ok (.if_icmp .ge 30, 3) := by decide +kernel
theorem dX7_isWord_36 : decode cX7_isWord 36 = .ok (.aload_n 0, 1) := by decide +kernel
theorem dX7_isWord_37 : decode cX7_isWord 37 = .ok (.getfield 9, 3) := by decide +kernel
theorem dX7_isWord_40 : decode cX7_isWord 40 = .ok (.aload_n 0, 1) := by decide +kernel
theorem dX7_isWord_41 : decode cX7_isWord 41 = .ok (.getfield 20, 3) := by decide +kernel
theorem dX7_isWord_44 : decode cX7_isWord 44 = .ok (.iload_n 2, 1) := by decide +kernel
theorem dX7_isWord_45 : decode cX7_isWord 45 = .ok (.iadd, 1) := by decide +kernel
theorem dX7_isWord_46 : decode cX7_isWord 46 = .ok (.iaload, 1) := by decide +kernel
theorem dX7_isWord_47 : decode cX7_isWord 47 = .ok (.aload_n 1, 1) := by decide +kernel
theorem dX7_isWord_48 : decode cX7_isWord 48 = .ok (.iload_n 2, 1) := by decide +kernel
theorem dX7_isWord_49 : decode cX7_isWord 49 = .ok (.invokevirtual 50, 3) := by decide +kernel
theorem dX7_isWord_52 : decode cX7_isWord 52 = .ok (.if_icmp .eq 5, 3) := by decide +kernel
theorem dX7_isWord_55 : decode cX7_isWord 55 = .ok (.iconst 0, 1) := by decide +kernel
theorem dX7_isWord_56 : decode cX7_isWord 56 = .ok (.ireturn, 1) := by decide +kernel
theorem dX7_isWord_57 : decode cX7_isWord 57 = .ok (.iinc 2 1, 3) := by decide +kernel
theorem dX7_isWord_60 : decode cX7_isWord 60 = .ok (.goto (-32), 3) := by decide +kernel
theorem dX7_isWord_63 : decode cX7_isWord 63 = .ok (.iconst 1, 1) := by decide +kernel
theorem dX7_isWord_64 : decode cX7_isWord 64 = .ok (.ireturn, 1) := by decide +kernel
theorem dX8_init_0 : decode cX8_init 0 = .ok (.aload_n 0, 1) := by decide +kernel
theorem dX8_init_1 : decode cX8_init 1 = .ok (.invokespecial 3, 3) := by decide +kernel
theorem dX8_init_4 : decode cX8_init 4 = .ok (.aload_n 0, 1) := by decide +kernel
theorem dX8_init_5 : decode cX8_init 5 = .ok (.bipush 12, 2) := by decide +kernel
theorem dX8_init_7 : decode cX8_init 7 = .ok (.newarray .int, 2) := by decide +kernel
theorem dX8_init_9 : decode cX8_init 9 = .ok (.putfield 9, 3) := by decide +kernel
theorem dX8_init_12 : decode cX8_init 12 = .ok (.aload_n 0, 1) := by decide +kernel
theorem dX8_init_13 : decode cX8_init 13 = .ok (.bipush 12, 2) := by decide +kernel
theorem dX8_init_15 : decode cX8_init 15 = .ok (.newarray .int, 2) := by decide +kernel
theorem dX8_init_17 : decode cX8_init 17 = .ok (.putfield 15, 3) := by decide +kernel
theorem dX8_init_20 : decode cX8_init 20 = .ok (.aload_n 0, 1) := by decide +kernel
theorem dX8_init_21 : decode cX8_init 21 = .ok (.bipush 12, 2) := by decide +kernel
theorem dX8_init_23 : decode cX8_init 23 = .ok (.newarray .int, 2) := by decide +kernel
theorem dX8_init_25 : decode cX8_init 25 = .ok (.putfield 18, 3) := by decide +kernel
theorem dX8_init_28 : decode cX8_init 28 = .ok (.aload_n 0, 1) := by decide +kernel
theorem dX8_init_29 : decode cX8_init 29 = .ok (.bipush 12, 2) := by decide +kernel
theorem dX8_init_31 : decode cX8_init 31 = .ok (.newarray .int, 2) := by decide +kernel
theorem dX8_init_33 : decode cX8_init 33 = .ok (.putfield 21, 3) := by decide +kernel
theorem dX8_init_36 : decode cX8_init 36 = .ok (.aload_n 0, 1) := by decide +kernel
theorem dX8_init_37 : decode cX8_init 37 = .ok (.bipush 12, 2) := by decide +kernel
theorem dX8_init_39 : decode cX8_init 39 = .ok (.newarray .int, 2) := by decide +kernel
theorem dX8_init_41 : decode cX8_init 41 = .ok (.putfield 24, 3) := by decide +kernel
theorem dX8_init_44 : decode cX8_init 44 = .ok (.aload_n 0, 1) := by decide +kernel
theorem dX8_init_45 : decode cX8_init 45 = .ok (.iconst 0, 1) := by decide +kernel
theorem dX8_init_46 : decode cX8_init 46 = .ok (.putfield 27, 3) := by decide +kernel
theorem dX8_init_49 : decode cX8_init 49 = .ok (.return_, 1) := by decide +kernel
theorem dX8_isFull_0 : decode cX8_isFull 0 = .ok (.aload_n 0, 1) := by decide +kernel
theorem dX8_isFull_1 : decode cX8_isFull 1 = .ok (.getfield 27, 3) := by decide +kernel
theorem dX8_isFull_4 : decode cX8_isFull 4 = .ok (.bipush 12, 2) := by decide +kernel
theorem dX8_isFull_6 : decode cX8_isFull 6 = .ok (.if_icmp .lt 7, 3) := by decide +kernel
theorem dX8_isFull_9 : decode cX8_isFull 9 = .ok (.iconst 1, 1) := by decide +kernel
theorem dX8_isFull_10 : decode cX8_isFull 10 = .ok (.goto 4, 3) := by decide +kernel
theorem dX8_isFull_13 : decode cX8_isFull 13 = .ok (.iconst 0, 1) := by decide +kernel
theorem dX8_isFull_14 : decode cX8_isFull 14 = .ok (.ireturn, 1) := by decide +kernel
theorem dX8_add_0 : decode cX8_add 0 = .ok (.aload_n 0, 1) := by decide +kernel
theorem dX8_add_1 : decode cX8_add 1 = .ok (.getfield 9, 3) := by decide +kernel
theorem dX8_add_4 : decode cX8_add 4 = .ok (.aload_n 0, 1) := by decide +kernel
theorem dX8_add_5 : decode cX8_add 5 = .ok (.getfield 27, 3) := by decide +kernel
theorem dX8_add_8 : decode cX8_add 8 = .ok (.iload_n 1, 1) := by decide +kernel
theorem dX8_add_9 : decode cX8_add 9 = .ok (.iastore, 1) := by decide +kernel
theorem dX8_add_10 : decode cX8_add 10 = .ok (.aload_n 0, 1) := by decide +kernel
theorem dX8_add_11 : decode cX8_add 11 = .ok (.getfield 15, 3) := by decide +kernel
theorem dX8_add_14 : decode cX8_add 14 = .ok (.aload_n 0, 1) := by decide +kernel
theorem dX8_add_15 : decode cX8_add 15 = .ok (.getfield 27, 3) := by decide +kernel
theorem dX8_add_18 : decode cX8_add 18 = .ok (.iload_n 2, 1) := by decide +kernel
theorem dX8_add_19 : decode cX8_add 19 = .ok (.iastore, 1) := by decide +kernel
theorem dX8_add_20 : decode cX8_add 20 = .ok (.aload_n 0, 1) := by decide +kernel
theorem dX8_add_21 : decode cX8_add 21 = .ok (.getfield 18, 3) := by decide +kernel
theorem dX8_add_24 : decode cX8_add 24 = .ok (.aload_n 0, 1) := by decide +kernel
theorem dX8_add_25 : decode cX8_add 25 = .ok (.getfield 27, 3) := by decide +kernel
theorem dX8_add_28 : decode cX8_add 28 = .ok (.iload_n 3, 1) := by decide +kernel
theorem dX8_add_29 : decode cX8_add 29 = .ok (.iastore, 1) := by decide +kernel
theorem dX8_add_30 : decode cX8_add 30 = .ok (.aload_n 0, 1) := by decide +kernel
theorem dX8_add_31 : decode cX8_add 31 = .ok (.getfield 21, 3) := by decide +kernel
theorem dX8_add_34 : decode cX8_add 34 = .ok (.aload_n 0, 1) := by decide +kernel
theorem dX8_add_35 : decode cX8_add 35 = .ok (.getfield 27, 3) := by decide +kernel
theorem dX8_add_38 : decode cX8_add 38 = .ok (.iconst 0, 1) := by decide +kernel
theorem dX8_add_39 : decode cX8_add 39 = .ok (.iastore, 1) := by decide +kernel
theorem dX8_add_40 : decode cX8_add 40 = .ok (.aload_n 0, 1) := by decide +kernel
theorem dX8_add_41 : decode cX8_add 41 = .ok (.getfield 24, 3) := by decide +kernel
theorem dX8_add_44 : decode cX8_add 44 = .ok (.aload_n 0, 1) := by decide +kernel
theorem dX8_add_45 : decode cX8_add 45 = .ok (.getfield 27, 3) := by decide +kernel
theorem dX8_add_48 : decode cX8_add 48 = .ok (.iconst 0, 1) := by decide +kernel
theorem dX8_add_49 : decode cX8_add 49 = .ok (.iastore, 1) := by decide +kernel
theorem dX8_add_50 : decode cX8_add 50 = .ok (.aload_n 0, 1) := by decide +kernel
theorem dX8_add_51 : decode cX8_add 51 = .ok (.dup, 1) := by decide +kernel
theorem dX8_add_52 : decode cX8_add 52 = .ok (.getfield 27, 3) := by decide +kernel
theorem dX8_add_55 : decode cX8_add 55 = .ok (.iconst 1, 1) := by decide +kernel
theorem dX8_add_56 : decode cX8_add 56 = .ok (.iadd, 1) := by decide +kernel
theorem dX8_add_57 : decode cX8_add 57 = .ok (.putfield 27, 3) := by decide +kernel
theorem dX8_add_60 : decode cX8_add 60 = .ok (.aload_n 0, 1) := by decide +kernel
theorem dX8_add_61 : decode cX8_add 61 = .ok (.getfield 27, 3) := by decide +kernel
theorem dX8_add_64 : decode cX8_add 64 = .ok (.iconst 1, 1) := by decide +kernel
theorem dX8_add_65 : decode cX8_add 65 = .ok (.isub, 1) := by decide +kernel
theorem dX8_add_66 : decode cX8_add 66 = .ok (.ireturn, 1) := by decide +kernel
theorem dX8_row_0 : decode cX8_row 0 = .ok (.iload_n 1, 1) := by decide +kernel
theorem dX8_row_1 : decode cX8_row 1 = .ok (.tableswitch 51 0 3 #[31, 36, 41, 46], 31) := by decide +kernel
theorem dX8_row_32 : decode cX8_row 32 = .ok (.aload_n 0, 1) := by decide +kernel
theorem dX8_row_33 : decode cX8_row 33 = .ok (.getfield 9, 3) := by decide +kernel
theorem dX8_row_36 : decode cX8_row 36 = .ok (.areturn, 1) := by decide +kernel
theorem dX8_row_37 : decode cX8_row 37 = .ok (.aload_n 0, 1) := by decide +kernel
theorem dX8_row_38 : decode cX8_row 38 = .ok (.getfield 15, 3) := by decide +kernel
theorem dX8_row_41 : decode cX8_row 41 = .ok (.areturn, 1) := by decide +kernel
theorem dX8_row_42 : decode cX8_row 42 = .ok (.aload_n 0, 1) := by decide +kernel
theorem dX8_row_43 : decode cX8_row 43 = .ok (.getfield 18, 3) := by decide +kernel
theorem dX8_row_46 : decode cX8_row 46 = .ok (.areturn, 1) := by decide +kernel
theorem dX8_row_47 : decode cX8_row 47 = .ok (.aload_n 0, 1) := by decide +kernel
theorem dX8_row_48 : decode cX8_row 48 = .ok (.getfield 21, 3) := by decide +kernel
theorem dX8_row_51 : decode cX8_row 51 = .ok (.areturn, 1) := by decide +kernel
theorem dX8_row_52 : decode cX8_row 52 = .ok (.aload_n 0, 1) := by decide +kernel
theorem dX8_row_53 : decode cX8_row 53 = .ok (.getfield 24, 3) := by decide +kernel
theorem dX8_row_56 : decode cX8_row 56 = .ok (.areturn, 1) := by decide +kernel
theorem dX8_mayChange_0 : decode cX8_mayChange 0 = .ok (.iload_n 1, 1) := by decide +kernel
theorem dX8_mayChange_1 : decode cX8_mayChange 1 = .ok (.iconst 1, 1) := by decide +kernel
theorem dX8_mayChange_2 : decode cX8_mayChange 2 = .ok (.if_icmp .lt 28, 3) := by decide +kernel
theorem dX8_mayChange_5 : decode cX8_mayChange 5 = .ok (.iload_n 1, 1) := by decide +kernel
theorem dX8_mayChange_6 : decode cX8_mayChange 6 = .ok (.getstatic 31, 3) := by decide +kernel
theorem dX8_mayChange_9 : decode cX8_mayChange 9 = .ok (.arraylength, 1) := by decide +kernel
theorem dX8_mayChange_10 : decode cX8_mayChange 10 = .ok (.if_icmp .ge 20, 3) := by decide +kernel
theorem dX8_mayChange_13 : decode cX8_mayChange 13 = .ok (.iload_n 2, 1) := by decide +kernel
theorem dX8_mayChange_14 : decode cX8_mayChange 14 = .ok (.iconst 0, 1) := by decide +kernel
theorem dX8_mayChange_15 : decode cX8_mayChange 15 = .ok (.getstatic 31, 3) := by decide +kernel
theorem dX8_mayChange_18 : decode cX8_mayChange 18 = .ok (.iload_n 1, 1) := by decide +kernel
theorem dX8_mayChange_19 : decode cX8_mayChange 19 = .ok (.iaload, 1) := by decide +kernel
theorem dX8_mayChange_20 : decode cX8_mayChange 20 = .ok (.invokestatic 34, 3) := by decide +kernel
theorem dX8_mayChange_23 : decode cX8_mayChange 23 = .ok (.ifCond .eq 7, 3) := by decide +kernel
theorem dX8_mayChange_26 : decode cX8_mayChange 26 = .ok (.iconst 1, 1) := by decide +kernel
theorem dX8_mayChange_27 : decode cX8_mayChange 27 = .ok (.goto 4, 3) := by decide +kernel
theorem dX8_mayChange_30 : decode cX8_mayChange 30 = .ok (.iconst 0, 1) := by decide +kernel
theorem dX8_mayChange_31 : decode cX8_mayChange 31 = .ok (.ireturn, 1) := by decide +kernel
theorem dX8_howManyOn_0 : decode cX8_howManyOn 0 = .ok (.iconst 0, 1) := by decide +kernel
theorem dX8_howManyOn_1 : decode cX8_howManyOn 1 = .ok (.istore_n 2, 1) := by decide +kernel
theorem dX8_howManyOn_2 : decode cX8_howManyOn 2 = .ok (.iconst 0, 1) := by decide +kernel
theorem dX8_howManyOn_3 : decode cX8_howManyOn 3 = .ok (.istore_n 3, 1) := by decide +kernel
theorem dX8_howManyOn_4 : decode cX8_howManyOn 4 = .ok (.iload_n 3, 1) := by decide +kernel
theorem dX8_howManyOn_5 : decode cX8_howManyOn 5 = .ok (.aload_n 0, 1) := by decide +kernel
theorem dX8_howManyOn_6 : decode cX8_howManyOn 6 = .ok (.getfield 27, 3) := by decide +kernel
theorem dX8_howManyOn_9 : decode cX8_howManyOn 9 = .ok (.if_icmp .ge 22, 3) := by decide +kernel
theorem dX8_howManyOn_12 : decode cX8_howManyOn 12 = .ok (.aload_n 0, 1) := by decide +kernel
theorem dX8_howManyOn_13 : decode cX8_howManyOn 13 = .ok (.getfield 18, 3) := by decide +kernel
theorem dX8_howManyOn_16 : decode cX8_howManyOn 16 = .ok (.iload_n 3, 1) := by decide +kernel
theorem dX8_howManyOn_17 : decode cX8_howManyOn 17 = .ok (.iaload, 1) := by decide +kernel
theorem dX8_howManyOn_18 : decode cX8_howManyOn 18 = .ok (.iload_n 1, 1) := by decide +kernel
theorem dX8_howManyOn_19 : decode cX8_howManyOn 19 = .ok (.if_icmp .ne 6, 3) := by decide +kernel
theorem dX8_howManyOn_22 : decode cX8_howManyOn 22 = .ok (.iinc 2 1, 3) := by decide +kernel
theorem dX8_howManyOn_25 : decode cX8_howManyOn 25 = .ok (.iinc 3 1, 3) := by decide +kernel
theorem dX8_howManyOn_28 : decode cX8_howManyOn 28 = .ok (.goto (-24), 3) := by decide +kernel
theorem dX8_howManyOn_31 : decode cX8_howManyOn 31 = .ok (.iload_n 2, 1) := by decide +kernel
theorem dX8_howManyOn_32 : decode cX8_howManyOn 32 = .ok (.ireturn, 1) := by decide +kernel
theorem dX8_takeFrom_0 : decode cX8_takeFrom 0 = .ok (.aload_n 0, 1) := by decide +kernel
theorem dX8_takeFrom_1 : decode cX8_takeFrom 1 = .ok (.aload_n 1, 1) := by decide +kernel
theorem dX8_takeFrom_2 : decode cX8_takeFrom 2 = .ok (.getfield 27, 3) := by decide +kernel
theorem dX8_takeFrom_5 : decode cX8_takeFrom 5 = .ok (.putfield 27, 3) := by decide +kernel
theorem dX8_takeFrom_8 : decode cX8_takeFrom 8 = .ok (.aload_n 1, 1) := by decide +kernel
theorem dX8_takeFrom_9 : decode cX8_takeFrom 9 = .ok (.getfield 9, 3) := by decide +kernel
theorem dX8_takeFrom_12 : decode cX8_takeFrom 12 = .ok (.iconst 0, 1) := by decide +kernel
theorem dX8_takeFrom_13 : decode cX8_takeFrom 13 = .ok (.aload_n 0, 1) := by decide +kernel
theorem dX8_takeFrom_14 : decode cX8_takeFrom 14 = .ok (.getfield 9, 3) := by decide +kernel
theorem dX8_takeFrom_17 : decode cX8_takeFrom 17 = .ok (.iconst 0, 1) := by decide +kernel
theorem dX8_takeFrom_18 : decode cX8_takeFrom 18 = .ok (.bipush 12, 2) := by decide +kernel
theorem dX8_takeFrom_20 : decode cX8_takeFrom 20 = .ok (.invokestatic 38, 3) := by decide +kernel
theorem dX8_takeFrom_23 : decode cX8_takeFrom 23 = .ok (.aload_n 1, 1) := by decide +kernel
theorem dX8_takeFrom_24 : decode cX8_takeFrom 24 = .ok (.getfield 15, 3) := by decide +kernel
theorem dX8_takeFrom_27 : decode cX8_takeFrom 27 = .ok (.iconst 0, 1) := by decide +kernel
theorem dX8_takeFrom_28 : decode cX8_takeFrom 28 = .ok (.aload_n 0, 1) := by decide +kernel
theorem dX8_takeFrom_29 : decode cX8_takeFrom 29 = .ok (.getfield 15, 3) := by decide +kernel
theorem dX8_takeFrom_32 : decode cX8_takeFrom 32 = .ok (.iconst 0, 1) := by decide +kernel
theorem dX8_takeFrom_33 : decode cX8_takeFrom 33 = .ok (.bipush 12, 2) := by decide +kernel
theorem dX8_takeFrom_35 : decode cX8_takeFrom 35 = .ok (.invokestatic 38, 3) := by decide +kernel
theorem dX8_takeFrom_38 : decode cX8_takeFrom 38 = .ok (.aload_n 1, 1) := by decide +kernel
theorem dX8_takeFrom_39 : decode cX8_takeFrom 39 = .ok (.getfield 18, 3) := by decide +kernel
theorem dX8_takeFrom_42 : decode cX8_takeFrom 42 = .ok (.iconst 0, 1) := by decide +kernel
theorem dX8_takeFrom_43 : decode cX8_takeFrom 43 = .ok (.aload_n 0, 1) := by decide +kernel
theorem dX8_takeFrom_44 : decode cX8_takeFrom 44 = .ok (.getfield 18, 3) := by decide +kernel
theorem dX8_takeFrom_47 : decode cX8_takeFrom 47 = .ok (.iconst 0, 1) := by decide +kernel
theorem dX8_takeFrom_48 : decode cX8_takeFrom 48 = .ok (.bipush 12, 2) := by decide +kernel
theorem dX8_takeFrom_50 : decode cX8_takeFrom 50 = .ok (.invokestatic 38, 3) := by decide +kernel
theorem dX8_takeFrom_53 : decode cX8_takeFrom 53 = .ok (.aload_n 1, 1) := by decide +kernel
theorem dX8_takeFrom_54 : decode cX8_takeFrom 54 = .ok (.getfield 21, 3) := by decide +kernel
theorem dX8_takeFrom_57 : decode cX8_takeFrom 57 = .ok (.iconst 0, 1) := by decide +kernel
theorem dX8_takeFrom_58 : decode cX8_takeFrom 58 = .ok (.aload_n 0, 1) := by decide +kernel
theorem dX8_takeFrom_59 : decode cX8_takeFrom 59 = .ok (.getfield 21, 3) := by decide +kernel
theorem dX8_takeFrom_62 : decode cX8_takeFrom 62 = .ok (.iconst 0, 1) := by decide +kernel
theorem dX8_takeFrom_63 : decode cX8_takeFrom 63 = .ok (.bipush 12, 2) := by decide +kernel
theorem dX8_takeFrom_65 : decode cX8_takeFrom 65 = .ok (.invokestatic 38, 3) := by decide +kernel
theorem dX8_takeFrom_68 : decode cX8_takeFrom 68 = .ok (.aload_n 1, 1) := by decide +kernel
theorem dX8_takeFrom_69 : decode cX8_takeFrom 69 = .ok (.getfield 24, 3) := by decide +kernel
theorem dX8_takeFrom_72 : decode cX8_takeFrom 72 = .ok (.iconst 0, 1) := by decide +kernel
theorem dX8_takeFrom_73 : decode cX8_takeFrom 73 = .ok (.aload_n 0, 1) := by decide +kernel
theorem dX8_takeFrom_74 : decode cX8_takeFrom 74 = .ok (.getfield 24, 3) := by decide +kernel
theorem dX8_takeFrom_77 : decode cX8_takeFrom 77 = .ok (.iconst 0, 1) := by decide +kernel
theorem dX8_takeFrom_78 : decode cX8_takeFrom 78 = .ok (.bipush 12, 2) := by decide +kernel
theorem dX8_takeFrom_80 : decode cX8_takeFrom 80 = .ok (.invokestatic 38, 3) := by decide +kernel
theorem dX8_takeFrom_83 : decode cX8_takeFrom 83 = .ok (.return_, 1) := by decide +kernel
end
section
-- decode rows, printed (claim/NAMES.whole)
theorem dX9_init_0 : decode cX9_init 0 = .ok (.aload_n 0, 1) := by decide +kernel
theorem dX9_init_1 : decode cX9_init 1 = .ok (.invokespecial 3, 3) := by decide +kernel
theorem dX9_init_4 : decode cX9_init 4 = .ok (.aload_n 0, 1) := by decide +kernel
theorem dX9_init_5 : decode cX9_init 5 = .ok (.bipush 7, 2) := by decide +kernel
theorem dX9_init_7 : decode cX9_init 7 = .ok (.newarray .int, 2) := by decide +kernel
theorem dX9_init_9 : decode cX9_init 9 = .ok (.putfield 9, 3) := by decide +kernel
theorem dX9_init_12 : decode cX9_init 12 = .ok (.aload_n 0, 1) := by decide +kernel
theorem dX9_init_13 : decode cX9_init 13 = .ok (.new 13, 3) := by decide +kernel
theorem dX9_init_16 : decode cX9_init 16 = .ok (.dup, 1) := by decide +kernel
theorem dX9_init_17 : decode cX9_init 17 = .ok (.invokespecial 15, 3) := by decide +kernel
theorem dX9_init_20 : decode cX9_init 20 = .ok (.putfield 16, 3) := by decide +kernel
theorem dX9_init_23 : decode cX9_init 23 = .ok (.aload_n 0, 1) := by decide +kernel
theorem dX9_init_24 : decode cX9_init 24 = .ok (.new 13, 3) := by decide +kernel
theorem dX9_init_27 : decode cX9_init 27 = .ok (.dup, 1) := by decide +kernel
theorem dX9_init_28 : decode cX9_init 28 = .ok (.invokespecial 15, 3) := by decide +kernel
theorem dX9_init_31 : decode cX9_init 31 = .ok (.putfield 20, 3) := by decide +kernel
theorem dX9_init_34 : decode cX9_init 34 = .ok (.aload_n 0, 1) := by decide +kernel
theorem dX9_init_35 : decode cX9_init 35 = .ok (.iconst 0, 1) := by decide +kernel
theorem dX9_init_36 : decode cX9_init 36 = .ok (.putfield 23, 3) := by decide +kernel
theorem dX9_init_39 : decode cX9_init 39 = .ok (.aload_n 0, 1) := by decide +kernel
theorem dX9_init_40 : decode cX9_init 40 = .ok (.new 27, 3) := by decide +kernel
theorem dX9_init_43 : decode cX9_init 43 = .ok (.dup, 1) := by decide +kernel
theorem dX9_init_44 : decode cX9_init 44 = .ok (.invokespecial 29, 3) := by decide +kernel
theorem dX9_init_47 : decode cX9_init 47 = .ok (.putfield 30, 3) := by decide +kernel
theorem dX9_init_50 : decode cX9_init 50 = .ok (.aload_n 0, 1) := by decide +kernel
theorem dX9_init_51 : decode cX9_init 51 = .ok (.new 34, 3) := by decide +kernel
theorem dX9_init_54 : decode cX9_init 54 = .ok (.dup, 1) := by decide +kernel
theorem dX9_init_55 : decode cX9_init 55 = .ok (.invokespecial 36, 3) := by decide +kernel
theorem dX9_init_58 : decode cX9_init 58 = .ok (.putfield 37, 3) := by decide +kernel
theorem dX9_init_61 : decode cX9_init 61 = .ok (.aload_n 0, 1) := by decide +kernel
theorem dX9_init_62 : decode cX9_init 62 = .ok (.new 41, 3) := by decide +kernel
theorem dX9_init_65 : decode cX9_init 65 = .ok (.dup, 1) := by decide +kernel
theorem dX9_init_66 : decode cX9_init 66 = .ok (.invokespecial 43, 3) := by decide +kernel
theorem dX9_init_69 : decode cX9_init 69 = .ok (.putfield 44, 3) := by decide +kernel
theorem dX9_init_72 : decode cX9_init 72 = .ok (.aload_n 0, 1) := by decide +kernel
theorem dX9_init_73 : decode cX9_init 73 = .ok (.new 48, 3) := by decide +kernel
theorem dX9_init_76 : decode cX9_init 76 = .ok (.dup, 1) := by decide +kernel
theorem dX9_init_77 : decode cX9_init 77 = .ok (.invokespecial 50, 3) := by decide +kernel
theorem dX9_init_80 : decode cX9_init 80 = .ok (.putfield 51, 3) := by decide +kernel
theorem dX9_init_83 : decode cX9_init 83 = .ok (.return_, 1) := by decide +kernel
theorem dX9_phrase_0 : decode cX9_phrase 0 = .ok (.iload_n 1, 1) := by decide +kernel
theorem dX9_phrase_1 : decode cX9_phrase 1 = .ok (.iconst 0, 1) := by decide +kernel
theorem dX9_phrase_2 : decode cX9_phrase 2 = .ok (.iconst 5, 1) := by decide +kernel
theorem dX9_phrase_3 : decode cX9_phrase 3 = .ok (.invokestatic 55, 3) := by decide +kernel
theorem dX9_phrase_6 : decode cX9_phrase 6 = .ok (.ifCond .eq 34, 3) := by decide +kernel
theorem dX9_phrase_9 : decode cX9_phrase 9 = .ok (.iload_n 2, 1) := by decide +kernel
theorem dX9_phrase_10 : decode cX9_phrase 10 = .ok (.iconst 0, 1) := by decide +kernel
theorem dX9_phrase_11 : decode cX9_phrase 11 = .ok (.bipush 9, 2) := by decide +kernel
theorem dX9_phrase_13 : decode cX9_phrase 13 = .ok (.invokestatic 55, 3) := by decide +kernel
theorem dX9_phrase_16 : decode cX9_phrase 16 = .ok (.ifCond .eq 24, 3) := by decide +kernel
theorem dX9_phrase_19 : decode cX9_phrase 19 = .ok (.iload_n 3, 1) := by decide +kernel
theorem dX9_phrase_20 : decode cX9_phrase 20 = .ok (.iconst 1, 1) := by decide +kernel
theorem dX9_phrase_21 : decode cX9_phrase 21 = .ok (.bipush 60, 2) := by decide +kernel
theorem dX9_phrase_23 : decode cX9_phrase 23 = .ok (.invokestatic 55, 3) := by decide +kernel
theorem dX9_phrase_26 : decode cX9_phrase 26 = .ok (.ifCond .eq 14, 3) := by decide +kernel
theorem dX9_phrase_29 : decode cX9_phrase 29 = .ok (.iload 4, 2) := by decide +kernel
theorem dX9_phrase_31 : decode cX9_phrase 31 = .ok (.iconst 0, 1) := by decide +kernel
theorem dX9_phrase_32 : decode cX9_phrase 32 = .ok (.bipush 10, 2) := by decide +kernel
theorem dX9_phrase_34 : decode cX9_phrase 34 = .ok (.invokestatic 55, 3) := by decide +kernel
theorem dX9_phrase_37 : decode cX9_phrase 37 = .ok (.ifCond .ne 10, 3) := by decide +kernel
theorem dX9_phrase_40 : decode cX9_phrase 40 = .ok (.aload_n 0, 1) := by decide +kernel
theorem dX9_phrase_41 : decode cX9_phrase 41 = .ok (.ldc 59, 2) := by decide +kernel
theorem dX9_phrase_43 : decode cX9_phrase 43 = .ok (.invokevirtual 60, 3) := by decide +kernel
theorem dX9_phrase_46 : decode cX9_phrase 46 = .ok (.ireturn, 1) := by decide +kernel
theorem dX9_phrase_47 : decode cX9_phrase 47 = .ok (.aload_n 0, 1) := by decide +kernel
theorem dX9_phrase_48 : decode cX9_phrase 48 = .ok (.getfield 16, 3) := by decide +kernel
theorem dX9_phrase_51 : decode cX9_phrase 51 = .ok (.getfield 64, 3) := by decide +kernel
theorem dX9_phrase_54 : decode cX9_phrase 54 = .ok (.invokevirtual 68, 3) := by decide +kernel
theorem dX9_phrase_57 : decode cX9_phrase 57 = .ok (.ifCond .eq 10, 3) := by decide +kernel
theorem dX9_phrase_60 : decode cX9_phrase 60 = .ok (.aload_n 0, 1) := by decide +kernel
theorem dX9_phrase_61 : decode cX9_phrase 61 = .ok (.ldc 74, 2) := by decide +kernel
theorem dX9_phrase_63 : decode cX9_phrase 63 = .ok (.invokevirtual 60, 3) := by decide +kernel
theorem dX9_phrase_66 : decode cX9_phrase 66 = .ok (.ireturn, 1) := by decide +kernel
theorem dX9_phrase_67 : decode cX9_phrase 67 = .ok (.aload_n 0, 1) := by decide +kernel
theorem dX9_phrase_68 : decode cX9_phrase 68 = .ok (.getfield 16, 3) := by decide +kernel
theorem dX9_phrase_71 : decode cX9_phrase 71 = .ok (.getfield 64, 3) := by decide +kernel
theorem dX9_phrase_74 : decode cX9_phrase 74 = .ok (.iload_n 1, 1) := by decide +kernel
theorem dX9_phrase_75 : decode cX9_phrase 75 = .ok (.iload_n 2, 1) := by decide +kernel
theorem dX9_phrase_76 : decode cX9_phrase 76 = .ok (.iload_n 3, 1) := by decide +kernel
theorem dX9_phrase_77 : decode cX9_phrase 77 = .ok (.iload 4, 2) := by decide +kernel
theorem dX9_phrase_79 : decode cX9_phrase 79 = .ok (.invokevirtual 75, 3) := by decide +kernel
theorem dX9_phrase_82 : decode cX9_phrase 82 = .ok (.ireturn, 1) := by decide +kernel
theorem dX9_of_0 : decode cX9_of 0 = .ok (.aload_n 0, 1) := by decide +kernel
theorem dX9_of_1 : decode cX9_of 1 = .ok (.iload_n 1, 1) := by decide +kernel
theorem dX9_of_2 : decode cX9_of 2 = .ok (.invokevirtual 79, 3) := by decide +kernel
theorem dX9_of_5 : decode cX9_of 5 = .ok (.ifCond .eq 13, 3) := by decide +kernel
theorem dX9_of_8 : decode cX9_of 8 = .ok (.iload_n 2, 1) := by decide +kernel
theorem dX9_of_9 : decode cX9_of 9 = .ok (.iconst 0, 1) := by decide +kernel
theorem dX9_of_10 : decode cX9_of 10 = .ok (.bipush 7, 2) := by decide +kernel
theorem dX9_of_12 : decode cX9_of 12 = .ok (.invokestatic 55, 3) := by decide +kernel
theorem dX9_of_15 : decode cX9_of 15 = .ok (.ifCond .ne 10, 3) := by decide +kernel
theorem dX9_of_18 : decode cX9_of 18 = .ok (.aload_n 0, 1) := by decide +kernel
theorem dX9_of_19 : decode cX9_of 19 = .ok (.ldc 59, 2) := by decide +kernel
theorem dX9_of_21 : decode cX9_of 21 = .ok (.invokevirtual 60, 3) := by decide +kernel
theorem dX9_of_24 : decode cX9_of 24 = .ok (.ireturn, 1) := by decide +kernel
theorem dX9_of_25 : decode cX9_of 25 = .ok (.iload_n 2, 1) := by decide +kernel
theorem dX9_of_26 : decode cX9_of 26 = .ok (.bipush 6, 2) := by decide +kernel
theorem dX9_of_28 : decode cX9_of 28 = .ok (.if_icmp .ne 20, 3) := by decide +kernel
theorem dX9_of_31 : decode cX9_of 31 = .ok (.aload_n 0, 1) := by decide +kernel
theorem dX9_of_32 : decode cX9_of 32 = .ok (.getfield 16, 3) := by decide +kernel
theorem dX9_of_35 : decode cX9_of 35 = .ok (.iload_n 1, 1) := by decide +kernel
theorem dX9_of_36 : decode cX9_of 36 = .ok (.invokevirtual 83, 3) := by decide +kernel
theorem dX9_of_39 : decode cX9_of 39 = .ok (.ifCond .eq 7, 3) := by decide +kernel
theorem dX9_of_42 : decode cX9_of 42 = .ok (.iconst 1, 1) := by decide +kernel
theorem dX9_of_43 : decode cX9_of 43 = .ok (.goto 4, 3) := by decide +kernel
theorem dX9_of_46 : decode cX9_of 46 = .ok (.iconst 0, 1) := by decide +kernel
theorem dX9_of_47 : decode cX9_of 47 = .ok (.ireturn, 1) := by decide +kernel
theorem dX9_of_48 : decode cX9_of 48 = .ok (.iload_n 2, 1) := by decide +kernel
theorem dX9_of_49 : decode cX9_of 49 = .ok (.bipush 7, 2) := by decide +kernel
theorem dX9_of_51 : decode cX9_of 51 = .ok (.if_icmp .ne 15, 3) := by decide +kernel
theorem dX9_of_54 : decode cX9_of 54 = .ok (.aload_n 0, 1) := by decide +kernel
theorem dX9_of_55 : decode cX9_of 55 = .ok (.getfield 16, 3) := by decide +kernel
theorem dX9_of_58 : decode cX9_of 58 = .ok (.getfield 64, 3) := by decide +kernel
theorem dX9_of_61 : decode cX9_of 61 = .ok (.iload_n 1, 1) := by decide +kernel
theorem dX9_of_62 : decode cX9_of 62 = .ok (.invokevirtual 86, 3) := by decide +kernel
theorem dX9_of_65 : decode cX9_of 65 = .ok (.ireturn, 1) := by decide +kernel
theorem dX9_of_66 : decode cX9_of 66 = .ok (.aload_n 0, 1) := by decide +kernel
theorem dX9_of_67 : decode cX9_of 67 = .ok (.getfield 16, 3) := by decide +kernel
theorem dX9_of_70 : decode cX9_of 70 = .ok (.getfield 64, 3) := by decide +kernel
theorem dX9_of_73 : decode cX9_of 73 = .ok (.iload_n 2, 1) := by decide +kernel
theorem dX9_of_74 : decode cX9_of 74 = .ok (.invokevirtual 89, 3) := by decide +kernel
theorem dX9_of_77 : decode cX9_of 77 = .ok (.iload_n 1, 1) := by decide +kernel
theorem dX9_of_78 : decode cX9_of 78 = .ok (.iaload, 1) := by decide +kernel
theorem dX9_of_79 : decode cX9_of 79 = .ok (.ireturn, 1) := by decide +kernel
theorem dX9_set_0 : decode cX9_set 0 = .ok (.aload_n 0, 1) := by decide +kernel
theorem dX9_set_1 : decode cX9_set 1 = .ok (.iload_n 1, 1) := by decide +kernel
theorem dX9_set_2 : decode cX9_set 2 = .ok (.invokevirtual 79, 3) := by decide +kernel
theorem dX9_set_5 : decode cX9_set 5 = .ok (.ifCond .eq 18, 3) := by decide +kernel
theorem dX9_set_8 : decode cX9_set 8 = .ok (.aload_n 0, 1) := by decide +kernel
theorem dX9_set_9 : decode cX9_set 9 = .ok (.getfield 16, 3) := by decide +kernel
theorem dX9_set_12 : decode cX9_set 12 = .ok (.getfield 64, 3) := by decide +kernel
theorem dX9_set_15 : decode cX9_set 15 = .ok (.iload_n 2, 1) := by decide +kernel
theorem dX9_set_16 : decode cX9_set 16 = .ok (.iload_n 3, 1) := by decide +kernel
theorem dX9_set_17 : decode cX9_set 17 = .ok (.invokevirtual 93, 3) := by decide +kernel
theorem dX9_set_20 : decode cX9_set 20 = .ok (.ifCond .ne 10, 3) := by decide +kernel
theorem dX9_set_23 : decode cX9_set 23 = .ok (.aload_n 0, 1) := by decide +kernel
theorem dX9_set_24 : decode cX9_set 24 = .ok (.ldc 59, 2) := by decide +kernel
theorem dX9_set_26 : decode cX9_set 26 = .ok (.invokevirtual 60, 3) := by decide +kernel
theorem dX9_set_29 : decode cX9_set 29 = .ok (.ireturn, 1) := by decide +kernel
theorem dX9_set_30 : decode cX9_set 30 = .ok (.aload_n 0, 1) := by decide +kernel
theorem dX9_set_31 : decode cX9_set 31 = .ok (.getfield 16, 3) := by decide +kernel
theorem dX9_set_34 : decode cX9_set 34 = .ok (.getfield 64, 3) := by decide +kernel
theorem dX9_set_37 : decode cX9_set 37 = .ok (.iload_n 2, 1) := by decide +kernel
theorem dX9_set_38 : decode cX9_set 38 = .ok (.invokevirtual 89, 3) := by decide +kernel
theorem dX9_set_41 : decode cX9_set 41 = .ok (.iload_n 1, 1) := by decide +kernel
theorem dX9_set_42 : decode cX9_set 42 = .ok (.iload_n 3, 1) := by decide +kernel
theorem dX9_set_43 : decode cX9_set 43 = .ok (.invokestatic 97, 3) := by decide +kernel
theorem dX9_set_46 : decode cX9_set 46 = .ok (.ireturn, 1) := by decide +kernel
theorem dX9_turn_0 : decode cX9_turn 0 = .ok (.aload_n 0, 1) := by decide +kernel
theorem dX9_turn_1 : decode cX9_turn 1 = .ok (.iload_n 1, 1) := by decide +kernel
theorem dX9_turn_2 : decode cX9_turn 2 = .ok (.invokevirtual 79, 3) := by decide +kernel
theorem dX9_turn_5 : decode cX9_turn 5 = .ok (.ifCond .eq 12, 3) := by decide +kernel
theorem dX9_turn_8 : decode cX9_turn 8 = .ok (.iload_n 2, 1) := by decide +kernel
theorem dX9_turn_9 : decode cX9_turn 9 = .ok (.iconst 0, 1) := by decide +kernel
theorem dX9_turn_10 : decode cX9_turn 10 = .ok (.iconst 5, 1) := by decide +kernel
theorem dX9_turn_11 : decode cX9_turn 11 = .ok (.invokestatic 55, 3) := by decide +kernel
theorem dX9_turn_14 : decode cX9_turn 14 = .ok (.ifCond .ne 10, 3) := by decide +kernel
theorem dX9_turn_17 : decode cX9_turn 17 = .ok (.aload_n 0, 1) := by decide +kernel
theorem dX9_turn_18 : decode cX9_turn 18 = .ok (.ldc 59, 2) := by decide +kernel
theorem dX9_turn_20 : decode cX9_turn 20 = .ok (.invokevirtual 60, 3) := by decide +kernel
theorem dX9_turn_23 : decode cX9_turn 23 = .ok (.ireturn, 1) := by decide +kernel
theorem dX9_turn_24 : decode cX9_turn 24 = .ok (.aload_n 0, 1) := by decide +kernel
theorem dX9_turn_25 : decode cX9_turn 25 = .ok (.getfield 16, 3) := by decide +kernel
theorem dX9_turn_28 : decode cX9_turn 28 = .ok (.getfield 64, 3) := by decide +kernel
theorem dX9_turn_31 : decode cX9_turn 31 = .ok (.getfield 101, 3) := by decide +kernel
theorem dX9_turn_34 : decode cX9_turn 34 = .ok (.iload_n 1, 1) := by decide +kernel
theorem dX9_turn_35 : decode cX9_turn 35 = .ok (.iload_n 2, 1) := by decide +kernel
theorem dX9_turn_36 : decode cX9_turn 36 = .ok (.invokestatic 97, 3) := by decide +kernel
theorem dX9_turn_39 : decode cX9_turn 39 = .ok (.ireturn, 1) := by decide +kernel
theorem dX9_as_0 : decode cX9_as 0 = .ok (.aload_n 0, 1) := by decide +kernel
theorem dX9_as_1 : decode cX9_as 1 = .ok (.iload_n 1, 1) := by decide +kernel
theorem dX9_as_2 : decode cX9_as 2 = .ok (.invokevirtual 79, 3) := by decide +kernel
theorem dX9_as_5 : decode cX9_as 5 = .ok (.ifCond .eq 12, 3) := by decide +kernel
theorem dX9_as_8 : decode cX9_as 8 = .ok (.iload_n 2, 1) := by decide +kernel
theorem dX9_as_9 : decode cX9_as 9 = .ok (.iconst 0, 1) := by decide +kernel
theorem dX9_as_10 : decode cX9_as 10 = .ok (.iconst 5, 1) := by decide +kernel
theorem dX9_as_11 : decode cX9_as 11 = .ok (.invokestatic 55, 3) := by decide +kernel
theorem dX9_as_14 : decode cX9_as 14 = .ok (.ifCond .ne 10, 3) := by decide +kernel
theorem dX9_as_17 : decode cX9_as 17 = .ok (.aload_n 0, 1) := by decide +kernel
theorem dX9_as_18 : decode cX9_as 18 = .ok (.ldc 59, 2) := by decide +kernel
theorem dX9_as_20 : decode cX9_as 20 = .ok (.invokevirtual 60, 3) := by decide +kernel
theorem dX9_as_23 : decode cX9_as 23 = .ok (.ireturn, 1) := by decide +kernel
theorem dX9_as_24 : decode cX9_as 24 = .ok (.aload_n 0, 1) := by decide +kernel
theorem dX9_as_25 : decode cX9_as 25 = .ok (.getfield 16, 3) := by decide +kernel
theorem dX9_as_28 : decode cX9_as 28 = .ok (.getfield 64, 3) := by decide +kernel
theorem dX9_as_31 : decode cX9_as 31 = .ok (.iload_n 1, 1) := by decide +kernel
theorem dX9_as_32 : decode cX9_as 32 = .ok (.iload_n 2, 1) := by decide +kernel
theorem dX9_as_33 : decode cX9_as 33 = .ok (.invokevirtual 104, 3) := by decide +kernel
theorem dX9_as_36 : decode cX9_as 36 = .ok (.ifCond .ne 10, 3) := by decide +kernel
theorem dX9_as_39 : decode cX9_as 39 = .ok (.aload_n 0, 1) := by decide +kernel
theorem dX9_as_40 : decode cX9_as 40 = .ok (.ldc 107, 2) := by decide +kernel
theorem dX9_as_42 : decode cX9_as 42 = .ok (.invokevirtual 60, 3) := by decide +kernel
theorem dX9_as_45 : decode cX9_as 45 = .ok (.ireturn, 1) := by decide +kernel
theorem dX9_as_46 : decode cX9_as 46 = .ok (.aload_n 0, 1) := by decide +kernel
theorem dX9_as_47 : decode cX9_as 47 = .ok (.getfield 16, 3) := by decide +kernel
theorem dX9_as_50 : decode cX9_as 50 = .ok (.getfield 64, 3) := by decide +kernel
theorem dX9_as_53 : decode cX9_as 53 = .ok (.getfield 108, 3) := by decide +kernel
theorem dX9_as_56 : decode cX9_as 56 = .ok (.iload_n 1, 1) := by decide +kernel
theorem dX9_as_57 : decode cX9_as 57 = .ok (.iaload, 1) := by decide +kernel
theorem dX9_as_58 : decode cX9_as 58 = .ok (.ireturn, 1) := by decide +kernel
theorem dX9_want_0 : decode cX9_want 0 = .ok (.iload_n 1, 1) := by decide +kernel
theorem dX9_want_1 : decode cX9_want 1 = .ok (.iconst 0, 1) := by decide +kernel
theorem dX9_want_2 : decode cX9_want 2 = .ok (.bipush 9, 2) := by decide +kernel
theorem dX9_want_4 : decode cX9_want 4 = .ok (.invokestatic 55, 3) := by decide +kernel
theorem dX9_want_7 : decode cX9_want 7 = .ok (.ifCond .eq 23, 3) := by decide +kernel
theorem dX9_want_10 : decode cX9_want 10 = .ok (.iload_n 2, 1) := by decide +kernel
theorem dX9_want_11 : decode cX9_want 11 = .ok (.iconst 0, 1) := by decide +kernel
theorem dX9_want_12 : decode cX9_want 12 = .ok (.bipush 99, 2) := by decide +kernel
theorem dX9_want_14 : decode cX9_want 14 = .ok (.invokestatic 55, 3) := by decide +kernel
theorem dX9_want_17 : decode cX9_want 17 = .ok (.ifCond .eq 13, 3) := by decide +kernel
theorem dX9_want_20 : decode cX9_want 20 = .ok (.iload_n 3, 1) := by decide +kernel
theorem dX9_want_21 : decode cX9_want 21 = .ok (.iconst 0, 1) := by decide +kernel
theorem dX9_want_22 : decode cX9_want 22 = .ok (.bipush 99, 2) := by decide +kernel
theorem dX9_want_24 : decode cX9_want 24 = .ok (.invokestatic 55, 3) := by decide +kernel
theorem dX9_want_27 : decode cX9_want 27 = .ok (.ifCond .ne 10, 3) := by decide +kernel
theorem dX9_want_30 : decode cX9_want 30 = .ok (.aload_n 0, 1) := by decide +kernel
theorem dX9_want_31 : decode cX9_want 31 = .ok (.ldc 59, 2) := by decide +kernel
theorem dX9_want_33 : decode cX9_want 33 = .ok (.invokevirtual 60, 3) := by decide +kernel
theorem dX9_want_36 : decode cX9_want 36 = .ok (.ireturn, 1) := by decide +kernel
theorem dX9_want_37 : decode cX9_want 37 = .ok (.aload_n 0, 1) := by decide +kernel
theorem dX9_want_38 : decode cX9_want 38 = .ok (.getfield 16, 3) := by decide +kernel
theorem dX9_want_41 : decode cX9_want 41 = .ok (.getfield 111, 3) := by decide +kernel
theorem dX9_want_44 : decode cX9_want 44 = .ok (.invokevirtual 115, 3) := by decide +kernel
theorem dX9_want_47 : decode cX9_want 47 = .ok (.ifCond .eq 10, 3) := by decide +kernel
theorem dX9_want_50 : decode cX9_want 50 = .ok (.aload_n 0, 1) := by decide +kernel
theorem dX9_want_51 : decode cX9_want 51 = .ok (.ldc 74, 2) := by decide +kernel
theorem dX9_want_53 : decode cX9_want 53 = .ok (.invokevirtual 60, 3) := by decide +kernel
theorem dX9_want_56 : decode cX9_want 56 = .ok (.ireturn, 1) := by decide +kernel
theorem dX9_want_57 : decode cX9_want 57 = .ok (.aload_n 0, 1) := by decide +kernel
theorem dX9_want_58 : decode cX9_want 58 = .ok (.getfield 16, 3) := by decide +kernel
theorem dX9_want_61 : decode cX9_want 61 = .ok (.getfield 111, 3) := by decide +kernel
theorem dX9_want_64 : decode cX9_want 64 = .ok (.iload_n 1, 1) := by decide +kernel
theorem dX9_want_65 : decode cX9_want 65 = .ok (.iload_n 2, 1) := by decide +kernel
theorem dX9_want_66 : decode cX9_want 66 = .ok (.iload_n 3, 1) := by decide +kernel
theorem dX9_want_67 : decode cX9_want 67 = .ok (.invokevirtual 118, 3) := by decide +kernel
theorem dX9_want_70 : decode cX9_want 70 = .ok (.ireturn, 1) := by decide +kernel
theorem dX9_wantOf_0 : decode cX9_wantOf 0 = .ok (.aload_n 0, 1) := by decide +kernel
theorem dX9_wantOf_1 : decode cX9_wantOf 1 = .ok (.iload_n 1, 1) := by decide +kernel
theorem dX9_wantOf_2 : decode cX9_wantOf 2 = .ok (.invokevirtual 121, 3) := by decide +kernel
theorem dX9_wantOf_5 : decode cX9_wantOf 5 = .ok (.ifCond .eq 12, 3) := by decide +kernel
theorem dX9_wantOf_8 : decode cX9_wantOf 8 = .ok (.iload_n 2, 1) := by decide +kernel
theorem dX9_wantOf_9 : decode cX9_wantOf 9 = .ok (.iconst 0, 1) := by decide +kernel
theorem dX9_wantOf_10 : decode cX9_wantOf 10 = .ok (.iconst 4, 1) := by decide +kernel
theorem dX9_wantOf_11 : decode cX9_wantOf 11 = .ok (.invokestatic 55, 3) := by decide +kernel
theorem dX9_wantOf_14 : decode cX9_wantOf 14 = .ok (.ifCond .ne 10, 3) := by decide +kernel
theorem dX9_wantOf_17 : decode cX9_wantOf 17 = .ok (.aload_n 0, 1) := by decide +kernel
theorem dX9_wantOf_18 : decode cX9_wantOf 18 = .ok (.ldc 59, 2) := by decide +kernel
theorem dX9_wantOf_20 : decode cX9_wantOf 20 = .ok (.invokevirtual 60, 3) := by decide +kernel
theorem dX9_wantOf_23 : decode cX9_wantOf 23 = .ok (.ireturn, 1) := by decide +kernel
theorem dX9_wantOf_24 : decode cX9_wantOf 24 = .ok (.aload_n 0, 1) := by decide +kernel
theorem dX9_wantOf_25 : decode cX9_wantOf 25 = .ok (.getfield 16, 3) := by decide +kernel
theorem dX9_wantOf_28 : decode cX9_wantOf 28 = .ok (.getfield 111, 3) := by decide +kernel
theorem dX9_wantOf_31 : decode cX9_wantOf 31 = .ok (.iload_n 2, 1) := by decide +kernel
theorem dX9_wantOf_32 : decode cX9_wantOf 32 = .ok (.invokevirtual 124, 3) := by decide +kernel
theorem dX9_wantOf_35 : decode cX9_wantOf 35 = .ok (.iload_n 1, 1) := by decide +kernel
theorem dX9_wantOf_36 : decode cX9_wantOf 36 = .ok (.iaload, 1) := by decide +kernel
theorem dX9_wantOf_37 : decode cX9_wantOf 37 = .ok (.ireturn, 1) := by decide +kernel
theorem dX9_change_0 : decode cX9_change 0 = .ok (.aload_n 0, 1) := by decide +kernel
theorem dX9_change_1 : decode cX9_change 1 = .ok (.iload_n 1, 1) := by decide +kernel
theorem dX9_change_2 : decode cX9_change 2 = .ok (.invokevirtual 121, 3) := by decide +kernel
theorem dX9_change_5 : decode cX9_change 5 = .ok (.ifCond .eq 18, 3) := by decide +kernel
theorem dX9_change_8 : decode cX9_change 8 = .ok (.aload_n 0, 1) := by decide +kernel
theorem dX9_change_9 : decode cX9_change 9 = .ok (.getfield 16, 3) := by decide +kernel
theorem dX9_change_12 : decode cX9_change 12 = .ok (.getfield 111, 3) := by decide +kernel
theorem dX9_change_15 : decode cX9_change 15 = .ok (.iload_n 2, 1) := by decide +kernel
theorem dX9_change_16 : decode cX9_change 16 = .ok (.iload_n 3, 1) := by decide +kernel
theorem dX9_change_17 : decode cX9_change 17 = .ok (.invokevirtual 125, 3) := by decide +kernel
theorem dX9_change_20 : decode cX9_change 20 = .ok (.ifCond .ne 10, 3) := by decide +kernel
theorem dX9_change_23 : decode cX9_change 23 = .ok (.aload_n 0, 1) := by decide +kernel
theorem dX9_change_24 : decode cX9_change 24 = .ok (.ldc 59, 2) := by decide +kernel
theorem dX9_change_26 : decode cX9_change 26 = .ok (.invokevirtual 60, 3) := by decide +kernel
theorem dX9_change_29 : decode cX9_change 29 = .ok (.ireturn, 1) := by decide +kernel
theorem dX9_change_30 : decode cX9_change 30 = .ok (.aload_n 0, 1) := by decide +kernel
theorem dX9_change_31 : decode cX9_change 31 = .ok (.getfield 16, 3) := by decide +kernel
theorem dX9_change_34 : decode cX9_change 34 = .ok (.getfield 111, 3) := by decide +kernel
theorem dX9_change_37 : decode cX9_change 37 = .ok (.iload_n 2, 1) := by decide +kernel
theorem dX9_change_38 : decode cX9_change 38 = .ok (.invokevirtual 124, 3) := by decide +kernel
theorem dX9_change_41 : decode cX9_change 41 = .ok (.iload_n 1, 1) := by decide +kernel
theorem dX9_change_42 : decode cX9_change 42 = .ok (.iload_n 3, 1) := by decide +kernel
theorem dX9_change_43 : decode cX9_change 43 = .ok (.invokestatic 97, 3) := by decide +kernel
theorem dX9_change_46 : decode cX9_change 46 = .ok (.ireturn, 1) := by decide +kernel
theorem dX9_gain_0 : decode cX9_gain 0 = .ok (.aload_n 0, 1) := by decide +kernel
theorem dX9_gain_1 : decode cX9_gain 1 = .ok (.iload_n 1, 1) := by decide +kernel
theorem dX9_gain_2 : decode cX9_gain 2 = .ok (.invokevirtual 79, 3) := by decide +kernel
theorem dX9_gain_5 : decode cX9_gain 5 = .ok (.ifCond .eq 19, 3) := by decide +kernel
theorem dX9_gain_8 : decode cX9_gain 8 = .ok (.aload_n 0, 1) := by decide +kernel
theorem dX9_gain_9 : decode cX9_gain 9 = .ok (.iload_n 2, 1) := by decide +kernel
theorem dX9_gain_10 : decode cX9_gain 10 = .ok (.invokevirtual 121, 3) := by decide +kernel
theorem dX9_gain_13 : decode cX9_gain 13 = .ok (.ifCond .eq 11, 3) := by decide +kernel
theorem dX9_gain_16 : decode cX9_gain 16 = .ok (.aload_n 0, 1) := by decide +kernel
theorem dX9_gain_17 : decode cX9_gain 17 = .ok (.iload_n 3, 1) := by decide +kernel
theorem dX9_gain_18 : decode cX9_gain 18 = .ok (.invokevirtual 128, 3) := by decide +kernel
theorem dX9_gain_21 : decode cX9_gain 21 = .ok (.ifCond .ne 10, 3) := by decide +kernel
theorem dX9_gain_24 : decode cX9_gain 24 = .ok (.aload_n 0, 1) := by decide +kernel
theorem dX9_gain_25 : decode cX9_gain 25 = .ok (.ldc 59, 2) := by decide +kernel
theorem dX9_gain_27 : decode cX9_gain 27 = .ok (.invokevirtual 60, 3) := by decide +kernel
theorem dX9_gain_30 : decode cX9_gain 30 = .ok (.ireturn, 1) := by decide +kernel
theorem dX9_gain_31 : decode cX9_gain 31 = .ok (.aload_n 0, 1) := by decide +kernel
theorem dX9_gain_32 : decode cX9_gain 32 = .ok (.getfield 16, 3) := by decide +kernel
theorem dX9_gain_35 : decode cX9_gain 35 = .ok (.iload_n 1, 1) := by decide +kernel
theorem dX9_gain_36 : decode cX9_gain 36 = .ok (.iload_n 2, 1) := by decide +kernel
theorem dX9_gain_37 : decode cX9_gain 37 = .ok (.aload_n 0, 1) := by decide +kernel
theorem dX9_gain_38 : decode cX9_gain 38 = .ok (.getfield 16, 3) := by decide +kernel
theorem dX9_gain_41 : decode cX9_gain 41 = .ok (.getfield 64, 3) := by decide +kernel
theorem dX9_gain_44 : decode cX9_gain 44 = .ok (.iload_n 3, 1) := by decide +kernel
theorem dX9_gain_45 : decode cX9_gain 45 = .ok (.iconst 2, 1) := by decide +kernel
theorem dX9_gain_46 : decode cX9_gain 46 = .ok (.invokevirtual 131, 3) := by decide +kernel
theorem dX9_gain_49 : decode cX9_gain 49 = .ok (.invokevirtual 134, 3) := by decide +kernel
theorem dX9_gain_52 : decode cX9_gain 52 = .ok (.ireturn, 1) := by decide +kernel
theorem dX9_met_0 : decode cX9_met 0 = .ok (.aload_n 0, 1) := by decide +kernel
theorem dX9_met_1 : decode cX9_met 1 = .ok (.iload_n 1, 1) := by decide +kernel
theorem dX9_met_2 : decode cX9_met 2 = .ok (.invokevirtual 121, 3) := by decide +kernel
theorem dX9_met_5 : decode cX9_met 5 = .ok (.ifCond .eq 11, 3) := by decide +kernel
theorem dX9_met_8 : decode cX9_met 8 = .ok (.aload_n 0, 1) := by decide +kernel
theorem dX9_met_9 : decode cX9_met 9 = .ok (.iload_n 2, 1) := by decide +kernel
theorem dX9_met_10 : decode cX9_met 10 = .ok (.invokevirtual 128, 3) := by decide +kernel
theorem dX9_met_13 : decode cX9_met 13 = .ok (.ifCond .ne 10, 3) := by decide +kernel
theorem dX9_met_16 : decode cX9_met 16 = .ok (.aload_n 0, 1) := by decide +kernel
theorem dX9_met_17 : decode cX9_met 17 = .ok (.ldc 59, 2) := by decide +kernel
theorem dX9_met_19 : decode cX9_met 19 = .ok (.invokevirtual 60, 3) := by decide +kernel
theorem dX9_met_22 : decode cX9_met 22 = .ok (.ireturn, 1) := by decide +kernel
theorem dX9_met_23 : decode cX9_met 23 = .ok (.aload_n 0, 1) := by decide +kernel
theorem dX9_met_24 : decode cX9_met 24 = .ok (.getfield 16, 3) := by decide +kernel
theorem dX9_met_27 : decode cX9_met 27 = .ok (.getfield 64, 3) := by decide +kernel
theorem dX9_met_30 : decode cX9_met 30 = .ok (.iload_n 2, 1) := by decide +kernel
theorem dX9_met_31 : decode cX9_met 31 = .ok (.iconst 2, 1) := by decide +kernel
theorem dX9_met_32 : decode cX9_met 32 = .ok (.invokevirtual 131, 3) := by decide +kernel
theorem dX9_met_35 : decode cX9_met 35 = .ok (.istore_n 3, 1) := by decide +kernel
theorem dX9_met_36 : decode cX9_met 36 = .ok (.aload_n 0, 1) := by decide +kernel
theorem dX9_met_37 : decode cX9_met 37 = .ok (.getfield 16, 3) := by decide +kernel
theorem dX9_met_40 : decode cX9_met 40 = .ok (.getfield 64, 3) := by decide +kernel
theorem dX9_met_43 : decode cX9_met 43 = .ok (.iload_n 2, 1) := by decide +kernel
theorem dX9_met_44 : decode cX9_met 44 = .ok (.iconst 4, 1) := by decide +kernel
theorem dX9_met_45 : decode cX9_met 45 = .ok (.invokevirtual 131, 3) := by decide +kernel
theorem dX9_met_48 : decode cX9_met 48 = .ok (.istore 4, 2) := by decide +kernel
theorem dX9_met_50 : decode cX9_met 50 = .ok (.aload_n 0, 1) := by decide +kernel
theorem dX9_met_51 : decode cX9_met 51 = .ok (.getfield 16, 3) := by decide +kernel
theorem dX9_met_54 : decode cX9_met 54 = .ok (.iload_n 1, 1) := by decide +kernel
theorem dX9_met_55 : decode cX9_met 55 = .ok (.aload_n 0, 1) := by decide +kernel
theorem dX9_met_56 : decode cX9_met 56 = .ok (.getfield 16, 3) := by decide +kernel
theorem dX9_met_59 : decode cX9_met 59 = .ok (.iload_n 1, 1) := by decide +kernel
theorem dX9_met_60 : decode cX9_met 60 = .ok (.iload_n 2, 1) := by decide +kernel
theorem dX9_met_61 : decode cX9_met 61 = .ok (.iload_n 3, 1) := by decide +kernel
theorem dX9_met_62 : decode cX9_met 62 = .ok (.invokevirtual 138, 3) := by decide +kernel
theorem dX9_met_65 : decode cX9_met 65 = .ok (.iload_n 3, 1) := by decide +kernel
theorem dX9_met_66 : decode cX9_met 66 = .ok (.iload 4, 2) := by decide +kernel
theorem dX9_met_68 : decode cX9_met 68 = .ok (.invokevirtual 141, 3) := by decide +kernel
theorem dX9_met_71 : decode cX9_met 71 = .ok (.ireturn, 1) := by decide +kernel
theorem dX9_value_0 : decode cX9_value 0 = .ok (.aload_n 0, 1) := by decide +kernel
theorem dX9_value_1 : decode cX9_value 1 = .ok (.iload_n 1, 1) := by decide +kernel
theorem dX9_value_2 : decode cX9_value 2 = .ok (.invokevirtual 128, 3) := by decide +kernel
theorem dX9_value_5 : decode cX9_value 5 = .ok (.ifCond .ne 10, 3) := by decide +kernel
theorem dX9_value_8 : decode cX9_value 8 = .ok (.aload_n 0, 1) := by decide +kernel
theorem dX9_value_9 : decode cX9_value 9 = .ok (.ldc 59, 2) := by decide +kernel
theorem dX9_value_11 : decode cX9_value 11 = .ok (.invokevirtual 60, 3) := by decide +kernel
theorem dX9_value_14 : decode cX9_value 14 = .ok (.ireturn, 1) := by decide +kernel
theorem dX9_value_15 : decode cX9_value 15 = .ok (.aload_n 0, 1) := by decide +kernel
theorem dX9_value_16 : decode cX9_value 16 = .ok (.getfield 30, 3) := by decide +kernel
theorem dX9_value_19 : decode cX9_value 19 = .ok (.aload_n 0, 1) := by decide +kernel
theorem dX9_value_20 : decode cX9_value 20 = .ok (.getfield 16, 3) := by decide +kernel
theorem dX9_value_23 : decode cX9_value 23 = .ok (.invokevirtual 145, 3) := by decide +kernel
theorem dX9_value_26 : decode cX9_value 26 = .ok (.aload_n 0, 1) := by decide +kernel
theorem dX9_value_27 : decode cX9_value 27 = .ok (.getfield 30, 3) := by decide +kernel
theorem dX9_value_30 : decode cX9_value 30 = .ok (.iload_n 1, 1) := by decide +kernel
theorem dX9_value_31 : decode cX9_value 31 = .ok (.invokevirtual 149, 3) := by decide +kernel
theorem dX9_value_34 : decode cX9_value 34 = .ok (.ireturn, 1) := by decide +kernel
theorem dX9_by_0 : decode cX9_by 0 = .ok (.aload_n 0, 1) := by decide +kernel
theorem dX9_by_1 : decode cX9_by 1 = .ok (.iload_n 1, 1) := by decide +kernel
theorem dX9_by_2 : decode cX9_by 2 = .ok (.invokevirtual 121, 3) := by decide +kernel
theorem dX9_by_5 : decode cX9_by 5 = .ok (.ifCond .eq 11, 3) := by decide +kernel
theorem dX9_by_8 : decode cX9_by 8 = .ok (.aload_n 0, 1) := by decide +kernel
theorem dX9_by_9 : decode cX9_by 9 = .ok (.iload_n 2, 1) := by decide +kernel
theorem dX9_by_10 : decode cX9_by 10 = .ok (.invokevirtual 128, 3) := by decide +kernel
theorem dX9_by_13 : decode cX9_by 13 = .ok (.ifCond .ne 10, 3) := by decide +kernel
theorem dX9_by_16 : decode cX9_by 16 = .ok (.aload_n 0, 1) := by decide +kernel
theorem dX9_by_17 : decode cX9_by 17 = .ok (.ldc 59, 2) := by decide +kernel
theorem dX9_by_19 : decode cX9_by 19 = .ok (.invokevirtual 60, 3) := by decide +kernel
theorem dX9_by_22 : decode cX9_by 22 = .ok (.ireturn, 1) := by decide +kernel
theorem dX9_by_23 : decode cX9_by 23 = .ok (.aload_n 0, 1) := by decide +kernel
theorem dX9_by_24 : decode cX9_by 24 = .ok (.getfield 16, 3) := by decide +kernel
theorem dX9_by_27 : decode cX9_by 27 = .ok (.getfield 64, 3) := by decide +kernel
theorem dX9_by_30 : decode cX9_by 30 = .ok (.iload_n 2, 1) := by decide +kernel
theorem dX9_by_31 : decode cX9_by 31 = .ok (.iconst 2, 1) := by decide +kernel
theorem dX9_by_32 : decode cX9_by 32 = .ok (.invokevirtual 131, 3) := by decide +kernel
theorem dX9_by_35 : decode cX9_by 35 = .ok (.istore_n 3, 1) := by decide +kernel
theorem dX9_by_36 : decode cX9_by 36 = .ok (.aload_n 0, 1) := by decide +kernel
theorem dX9_by_37 : decode cX9_by 37 = .ok (.aload_n 0, 1) := by decide +kernel
theorem dX9_by_38 : decode cX9_by 38 = .ok (.getfield 16, 3) := by decide +kernel
theorem dX9_by_41 : decode cX9_by 41 = .ok (.iload_n 1, 1) := by decide +kernel
theorem dX9_by_42 : decode cX9_by 42 = .ok (.iload_n 2, 1) := by decide +kernel
theorem dX9_by_43 : decode cX9_by 43 = .ok (.iload_n 3, 1) := by decide +kernel
theorem dX9_by_44 : decode cX9_by 44 = .ok (.invokevirtual 138, 3) := by decide +kernel
theorem dX9_by_47 : decode cX9_by 47 = .ok (.invokevirtual 152, 3) := by decide +kernel
theorem dX9_by_50 : decode cX9_by 50 = .ok (.ireturn, 1) := by decide +kernel
theorem dX9_best_0 : decode cX9_best 0 = .ok (.iload_n 1, 1) := by decide +kernel
theorem dX9_best_1 : decode cX9_best 1 = .ok (.iconst 0, 1) := by decide +kernel
theorem dX9_best_2 : decode cX9_best 2 = .ok (.sipush 720, 3) := by decide +kernel
theorem dX9_best_5 : decode cX9_best 5 = .ok (.invokestatic 55, 3) := by decide +kernel
theorem dX9_best_8 : decode cX9_best 8 = .ok (.ifCond .eq 12, 3) := by decide +kernel
theorem dX9_best_11 : decode cX9_best 11 = .ok (.iload_n 2, 1) := by decide +kernel
theorem dX9_best_12 : decode cX9_best 12 = .ok (.iconst 0, 1) := by decide +kernel
theorem dX9_best_13 : decode cX9_best 13 = .ok (.iconst 2, 1) := by decide +kernel
theorem dX9_best_14 : decode cX9_best 14 = .ok (.invokestatic 55, 3) := by decide +kernel
theorem dX9_best_17 : decode cX9_best 17 = .ok (.ifCond .ne 10, 3) := by decide +kernel
theorem dX9_best_20 : decode cX9_best 20 = .ok (.aload_n 0, 1) := by decide +kernel
theorem dX9_best_21 : decode cX9_best 21 = .ok (.ldc 59, 2) := by decide +kernel
theorem dX9_best_23 : decode cX9_best 23 = .ok (.invokevirtual 60, 3) := by decide +kernel
theorem dX9_best_26 : decode cX9_best 26 = .ok (.ireturn, 1) := by decide +kernel
theorem dX9_best_27 : decode cX9_best 27 = .ok (.aload_n 0, 1) := by decide +kernel
theorem dX9_best_28 : decode cX9_best 28 = .ok (.getfield 30, 3) := by decide +kernel
theorem dX9_best_31 : decode cX9_best 31 = .ok (.aload_n 0, 1) := by decide +kernel
theorem dX9_best_32 : decode cX9_best 32 = .ok (.getfield 16, 3) := by decide +kernel
theorem dX9_best_35 : decode cX9_best 35 = .ok (.invokevirtual 145, 3) := by decide +kernel
theorem dX9_best_38 : decode cX9_best 38 = .ok (.aload_n 0, 1) := by decide +kernel
theorem dX9_best_39 : decode cX9_best 39 = .ok (.getfield 30, 3) := by decide +kernel
theorem dX9_best_42 : decode cX9_best 42 = .ok (.iload_n 1, 1) := by decide +kernel
theorem dX9_best_43 : decode cX9_best 43 = .ok (.invokevirtual 155, 3) := by decide +kernel
theorem dX9_best_46 : decode cX9_best 46 = .ok (.istore_n 3, 1) := by decide +kernel
theorem dX9_best_47 : decode cX9_best 47 = .ok (.iload_n 2, 1) := by decide +kernel
theorem dX9_best_48 : decode cX9_best 48 = .ok (.ifCond .ne 12, 3) := by decide +kernel
theorem dX9_best_51 : decode cX9_best 51 = .ok (.aload_n 0, 1) := by decide +kernel
theorem dX9_best_52 : decode cX9_best 52 = .ok (.getfield 30, 3) := by decide +kernel
theorem dX9_best_55 : decode cX9_best 55 = .ok (.iload_n 3, 1) := by decide +kernel
theorem dX9_best_56 : decode cX9_best 56 = .ok (.invokevirtual 149, 3) := by decide +kernel
theorem dX9_best_59 : decode cX9_best 59 = .ok (.ireturn, 1) := by decide +kernel
theorem dX9_best_60 : decode cX9_best 60 = .ok (.iload_n 2, 1) := by decide +kernel
theorem dX9_best_61 : decode cX9_best 61 = .ok (.iconst 1, 1) := by decide +kernel
theorem dX9_best_62 : decode cX9_best 62 = .ok (.if_icmp .ne 7, 3) := by decide +kernel
theorem dX9_best_65 : decode cX9_best 65 = .ok (.iload_n 3, 1) := by decide +kernel
theorem dX9_best_66 : decode cX9_best 66 = .ok (.goto 11, 3) := by decide +kernel
theorem dX9_best_69 : decode cX9_best 69 = .ok (.aload_n 0, 1) := by decide +kernel
theorem dX9_best_70 : decode cX9_best 70 = .ok (.getfield 30, 3) := by decide +kernel
theorem dX9_best_73 : decode cX9_best 73 = .ok (.iload_n 3, 1) := by decide +kernel
theorem dX9_best_74 : decode cX9_best 74 = .ok (.invokevirtual 158, 3) := by decide +kernel
theorem dX9_best_77 : decode cX9_best 77 = .ok (.ireturn, 1) := by decide +kernel
theorem dX9_greedy_0 : decode cX9_greedy 0 = .ok (.iload_n 1, 1) := by decide +kernel
theorem dX9_greedy_1 : decode cX9_greedy 1 = .ok (.iconst 0, 1) := by decide +kernel
theorem dX9_greedy_2 : decode cX9_greedy 2 = .ok (.sipush 720, 3) := by decide +kernel
theorem dX9_greedy_5 : decode cX9_greedy 5 = .ok (.invokestatic 55, 3) := by decide +kernel
theorem dX9_greedy_8 : decode cX9_greedy 8 = .ok (.ifCond .eq 12, 3) := by decide +kernel
theorem dX9_greedy_11 : decode cX9_greedy 11 = .ok (.iload_n 2, 1) := by decide +kernel
theorem dX9_greedy_12 : decode cX9_greedy 12 = .ok (.iconst 0, 1) := by decide +kernel
theorem dX9_greedy_13 : decode cX9_greedy 13 = .ok (.iconst 1, 1) := by decide +kernel
theorem dX9_greedy_14 : decode cX9_greedy 14 = .ok (.invokestatic 55, 3) := by decide +kernel
theorem dX9_greedy_17 : decode cX9_greedy 17 = .ok (.ifCond .ne 10, 3) := by decide +kernel
theorem dX9_greedy_20 : decode cX9_greedy 20 = .ok (.aload_n 0, 1) := by decide +kernel
theorem dX9_greedy_21 : decode cX9_greedy 21 = .ok (.ldc 59, 2) := by decide +kernel
theorem dX9_greedy_23 : decode cX9_greedy 23 = .ok (.invokevirtual 60, 3) := by decide +kernel
theorem dX9_greedy_26 : decode cX9_greedy 26 = .ok (.ireturn, 1) := by decide +kernel
theorem dX9_greedy_27 : decode cX9_greedy 27 = .ok (.aload_n 0, 1) := by decide +kernel
theorem dX9_greedy_28 : decode cX9_greedy 28 = .ok (.getfield 30, 3) := by decide +kernel
theorem dX9_greedy_31 : decode cX9_greedy 31 = .ok (.aload_n 0, 1) := by decide +kernel
theorem dX9_greedy_32 : decode cX9_greedy 32 = .ok (.getfield 16, 3) := by decide +kernel
theorem dX9_greedy_35 : decode cX9_greedy 35 = .ok (.invokevirtual 145, 3) := by decide +kernel
theorem dX9_greedy_38 : decode cX9_greedy 38 = .ok (.aload_n 0, 1) := by decide +kernel
theorem dX9_greedy_39 : decode cX9_greedy 39 = .ok (.getfield 30, 3) := by decide +kernel
theorem dX9_greedy_42 : decode cX9_greedy 42 = .ok (.iload_n 1, 1) := by decide +kernel
theorem dX9_greedy_43 : decode cX9_greedy 43 = .ok (.invokevirtual 161, 3) := by decide +kernel
theorem dX9_greedy_46 : decode cX9_greedy 46 = .ok (.istore_n 3, 1) := by decide +kernel
theorem dX9_greedy_47 : decode cX9_greedy 47 = .ok (.iload_n 2, 1) := by decide +kernel
theorem dX9_greedy_48 : decode cX9_greedy 48 = .ok (.ifCond .ne 14, 3) := by decide +kernel
theorem dX9_greedy_51 : decode cX9_greedy 51 = .ok (.aload_n 0, 1) := by decide +kernel
theorem dX9_greedy_52 : decode cX9_greedy 52 = .ok (.getfield 30, 3) := by decide +kernel
theorem dX9_greedy_55 : decode cX9_greedy 55 = .ok (.iload_n 3, 1) := by decide +kernel
theorem dX9_greedy_56 : decode cX9_greedy 56 = .ok (.invokevirtual 149, 3) := by decide +kernel
theorem dX9_greedy_59 : decode cX9_greedy 59 = .ok (.goto 4, 3) := by decide +kernel
theorem dX9_greedy_62 : decode cX9_greedy 62 = .ok (.iload_n 3, 1) := by decide +kernel
theorem dX9_greedy_63 : decode cX9_greedy 63 = .ok (.ireturn, 1) := by decide +kernel
theorem dX9_next_0 : decode cX9_next 0 = .ok (.aload_n 0, 1) := by decide +kernel
theorem dX9_next_1 : decode cX9_next 1 = .ok (.iload_n 1, 1) := by decide +kernel
theorem dX9_next_2 : decode cX9_next 2 = .ok (.invokevirtual 128, 3) := by decide +kernel
theorem dX9_next_5 : decode cX9_next 5 = .ok (.ifCond .ne 10, 3) := by decide +kernel
theorem dX9_next_8 : decode cX9_next 8 = .ok (.aload_n 0, 1) := by decide +kernel
theorem dX9_next_9 : decode cX9_next 9 = .ok (.ldc 59, 2) := by decide +kernel
theorem dX9_next_11 : decode cX9_next 11 = .ok (.invokevirtual 60, 3) := by decide +kernel
theorem dX9_next_14 : decode cX9_next 14 = .ok (.ireturn, 1) := by decide +kernel
theorem dX9_next_15 : decode cX9_next 15 = .ok (.aload_n 0, 1) := by decide +kernel
theorem dX9_next_16 : decode cX9_next 16 = .ok (.getfield 30, 3) := by decide +kernel
theorem dX9_next_19 : decode cX9_next 19 = .ok (.aload_n 0, 1) := by decide +kernel
theorem dX9_next_20 : decode cX9_next 20 = .ok (.getfield 16, 3) := by decide +kernel
theorem dX9_next_23 : decode cX9_next 23 = .ok (.invokevirtual 145, 3) := by decide +kernel
theorem dX9_next_26 : decode cX9_next 26 = .ok (.aload_n 0, 1) := by decide +kernel
theorem dX9_next_27 : decode cX9_next 27 = .ok (.aload_n 0, 1) := by decide +kernel
theorem dX9_next_28 : decode cX9_next 28 = .ok (.getfield 30, 3) := by decide +kernel
theorem dX9_next_31 : decode cX9_next 31 = .ok (.iload_n 1, 1) := by decide +kernel
theorem dX9_next_32 : decode cX9_next 32 = .ok (.invokevirtual 164, 3) := by decide +kernel
theorem dX9_next_35 : decode cX9_next 35 = .ok (.invokevirtual 152, 3) := by decide +kernel
theorem dX9_next_38 : decode cX9_next 38 = .ok (.ireturn, 1) := by decide +kernel
theorem dX9_spare_0 : decode cX9_spare 0 = .ok (.aload_n 0, 1) := by decide +kernel
theorem dX9_spare_1 : decode cX9_spare 1 = .ok (.iload_n 1, 1) := by decide +kernel
theorem dX9_spare_2 : decode cX9_spare 2 = .ok (.invokevirtual 128, 3) := by decide +kernel
theorem dX9_spare_5 : decode cX9_spare 5 = .ok (.ifCond .ne 10, 3) := by decide +kernel
theorem dX9_spare_8 : decode cX9_spare 8 = .ok (.aload_n 0, 1) := by decide +kernel
theorem dX9_spare_9 : decode cX9_spare 9 = .ok (.ldc 59, 2) := by decide +kernel
theorem dX9_spare_11 : decode cX9_spare 11 = .ok (.invokevirtual 60, 3) := by decide +kernel
theorem dX9_spare_14 : decode cX9_spare 14 = .ok (.ireturn, 1) := by decide +kernel
theorem dX9_spare_15 : decode cX9_spare 15 = .ok (.aload_n 0, 1) := by decide +kernel
theorem dX9_spare_16 : decode cX9_spare 16 = .ok (.getfield 30, 3) := by decide +kernel
theorem dX9_spare_19 : decode cX9_spare 19 = .ok (.aload_n 0, 1) := by decide +kernel
theorem dX9_spare_20 : decode cX9_spare 20 = .ok (.getfield 16, 3) := by decide +kernel
theorem dX9_spare_23 : decode cX9_spare 23 = .ok (.invokevirtual 145, 3) := by decide +kernel
theorem dX9_spare_26 : decode cX9_spare 26 = .ok (.aload_n 0, 1) := by decide +kernel
theorem dX9_spare_27 : decode cX9_spare 27 = .ok (.aload_n 0, 1) := by decide +kernel
theorem dX9_spare_28 : decode cX9_spare 28 = .ok (.getfield 30, 3) := by decide +kernel
theorem dX9_spare_31 : decode cX9_spare 31 = .ok (.iload_n 1, 1) := by decide +kernel
theorem dX9_spare_32 : decode cX9_spare 32 = .ok (.invokevirtual 167, 3) := by decide +kernel
theorem dX9_spare_35 : decode cX9_spare 35 = .ok (.invokevirtual 152, 3) := by decide +kernel
theorem dX9_spare_38 : decode cX9_spare 38 = .ok (.ireturn, 1) := by decide +kernel
theorem dX9_minutesFor_0 : decode cX9_minutesFor 0 = .ok (.iload_n 1, 1) := by decide +kernel
theorem dX9_minutesFor_1 : decode cX9_minutesFor 1 = .ok (.ifCond .ge 10, 3) := by decide +kernel
theorem dX9_minutesFor_4 : decode cX9_minutesFor 4 = .ok (.aload_n 0, 1) := by decide +kernel
theorem dX9_minutesFor_5 : decode cX9_minutesFor 5 = .ok (.ldc 59, 2) := by decide +kernel
theorem dX9_minutesFor_7 : decode cX9_minutesFor 7 = .ok (.invokevirtual 60, 3) := by decide +kernel
theorem dX9_minutesFor_10 : decode cX9_minutesFor 10 = .ok (.ireturn, 1) := by decide +kernel
theorem dX9_minutesFor_11 : decode cX9_minutesFor 11 = .ok (.aload_n 0, 1) := by decide +kernel
theorem dX9_minutesFor_12 : decode cX9_minutesFor 12 = .ok (.getfield 30, 3) := by decide +kernel
theorem dX9_minutesFor_15 : decode cX9_minutesFor 15 = .ok (.aload_n 0, 1) := by decide +kernel
theorem dX9_minutesFor_16 : decode cX9_minutesFor 16 = .ok (.getfield 16, 3) := by decide +kernel
theorem dX9_minutesFor_19 : decode cX9_minutesFor 19 = .ok (.invokevirtual 145, 3) := by decide +kernel
theorem dX9_minutesFor_22 : decode cX9_minutesFor 22 = .ok (.aload_n 0, 1) := by decide +kernel
theorem dX9_minutesFor_23 : decode cX9_minutesFor 23 = .ok (.aload_n 0, 1) := by decide +kernel
theorem dX9_minutesFor_24 : decode cX9_minutesFor 24 = .ok (.getfield 30, 3) := by decide +kernel
theorem dX9_minutesFor_27 : decode cX9_minutesFor 27 = .ok (.iload_n 1, 1) := by decide +kernel
theorem dX9_minutesFor_28 : decode cX9_minutesFor 28 = .ok (.invokevirtual 170, 3) := by decide +kernel
theorem dX9_minutesFor_31 : decode cX9_minutesFor 31 = .ok (.invokevirtual 152, 3) := by decide +kernel
theorem dX9_minutesFor_34 : decode cX9_minutesFor 34 = .ok (.ireturn, 1) := by decide +kernel
theorem dX9_queue_0 : decode cX9_queue 0 = .ok (.aload_n 0, 1) := by decide +kernel
theorem dX9_queue_1 : decode cX9_queue 1 = .ok (.iload_n 1, 1) := by decide +kernel
theorem dX9_queue_2 : decode cX9_queue 2 = .ok (.invokevirtual 79, 3) := by decide +kernel
theorem dX9_queue_5 : decode cX9_queue 5 = .ok (.ifCond .ne 10, 3) := by decide +kernel
theorem dX9_queue_8 : decode cX9_queue 8 = .ok (.aload_n 0, 1) := by decide +kernel
theorem dX9_queue_9 : decode cX9_queue 9 = .ok (.ldc 59, 2) := by decide +kernel
theorem dX9_queue_11 : decode cX9_queue 11 = .ok (.invokevirtual 60, 3) := by decide +kernel
theorem dX9_queue_14 : decode cX9_queue 14 = .ok (.ireturn, 1) := by decide +kernel
theorem dX9_queue_15 : decode cX9_queue 15 = .ok (.aload_n 0, 1) := by decide +kernel
theorem dX9_queue_16 : decode cX9_queue 16 = .ok (.getfield 16, 3) := by decide +kernel
theorem dX9_queue_19 : decode cX9_queue 19 = .ok (.getfield 173, 3) := by decide +kernel
theorem dX9_queue_22 : decode cX9_queue 22 = .ok (.iload_n 1, 1) := by decide +kernel
theorem dX9_queue_23 : decode cX9_queue 23 = .ok (.invokevirtual 177, 3) := by decide +kernel
theorem dX9_queue_26 : decode cX9_queue 26 = .ok (.pop, 1) := by decide +kernel
theorem dX9_queue_27 : decode cX9_queue 27 = .ok (.aload_n 0, 1) := by decide +kernel
theorem dX9_queue_28 : decode cX9_queue 28 = .ok (.getfield 16, 3) := by decide +kernel
theorem dX9_queue_31 : decode cX9_queue 31 = .ok (.getfield 173, 3) := by decide +kernel
theorem dX9_queue_34 : decode cX9_queue 34 = .ok (.iload_n 1, 1) := by decide +kernel
theorem dX9_queue_35 : decode cX9_queue 35 = .ok (.invokevirtual 182, 3) := by decide +kernel
theorem dX9_queue_38 : decode cX9_queue 38 = .ok (.aload_n 0, 1) := by decide +kernel
theorem dX9_queue_39 : decode cX9_queue 39 = .ok (.getfield 16, 3) := by decide +kernel
theorem dX9_queue_42 : decode cX9_queue 42 = .ok (.getfield 173, 3) := by decide +kernel
theorem dX9_queue_45 : decode cX9_queue 45 = .ok (.getfield 186, 3) := by decide +kernel
theorem dX9_queue_48 : decode cX9_queue 48 = .ok (.ireturn, 1) := by decide +kernel
theorem dX9_skip_0 : decode cX9_skip 0 = .ok (.aload_n 0, 1) := by decide +kernel
theorem dX9_skip_1 : decode cX9_skip 1 = .ok (.iload_n 1, 1) := by decide +kernel
theorem dX9_skip_2 : decode cX9_skip 2 = .ok (.invokevirtual 79, 3) := by decide +kernel
theorem dX9_skip_5 : decode cX9_skip 5 = .ok (.ifCond .ne 10, 3) := by decide +kernel
theorem dX9_skip_8 : decode cX9_skip 8 = .ok (.aload_n 0, 1) := by decide +kernel
theorem dX9_skip_9 : decode cX9_skip 9 = .ok (.ldc 59, 2) := by decide +kernel
theorem dX9_skip_11 : decode cX9_skip 11 = .ok (.invokevirtual 60, 3) := by decide +kernel
theorem dX9_skip_14 : decode cX9_skip 14 = .ok (.ireturn, 1) := by decide +kernel
theorem dX9_skip_15 : decode cX9_skip 15 = .ok (.aload_n 0, 1) := by decide +kernel
theorem dX9_skip_16 : decode cX9_skip 16 = .ok (.aload_n 0, 1) := by decide +kernel
theorem dX9_skip_17 : decode cX9_skip 17 = .ok (.getfield 16, 3) := by decide +kernel
theorem dX9_skip_20 : decode cX9_skip 20 = .ok (.getfield 173, 3) := by decide +kernel
theorem dX9_skip_23 : decode cX9_skip 23 = .ok (.iload_n 1, 1) := by decide +kernel
theorem dX9_skip_24 : decode cX9_skip 24 = .ok (.invokevirtual 177, 3) := by decide +kernel
theorem dX9_skip_27 : decode cX9_skip 27 = .ok (.invokevirtual 152, 3) := by decide +kernel
theorem dX9_skip_30 : decode cX9_skip 30 = .ok (.ireturn, 1) := by decide +kernel
theorem dX9_ith_0 : decode cX9_ith 0 = .ok (.iload_n 1, 1) := by decide +kernel
theorem dX9_ith_1 : decode cX9_ith 1 = .ok (.iconst 0, 1) := by decide +kernel
theorem dX9_ith_2 : decode cX9_ith 2 = .ok (.aload_n 0, 1) := by decide +kernel
theorem dX9_ith_3 : decode cX9_ith 3 = .ok (.getfield 16, 3) := by decide +kernel
theorem dX9_ith_6 : decode cX9_ith 6 = .ok (.getfield 173, 3) := by decide +kernel
theorem dX9_ith_9 : decode cX9_ith 9 = .ok (.getfield 186, 3) := by decide +kernel
theorem dX9_ith_12 : decode cX9_ith 12 = .ok (.iconst 1, 1) := by decide +kernel
theorem dX9_ith_13 : decode cX9_ith 13 = .ok (.isub, 1) := by decide +kernel
theorem dX9_ith_14 : decode cX9_ith 14 = .ok (.invokestatic 55, 3) := by decide +kernel
theorem dX9_ith_17 : decode cX9_ith 17 = .ok (.ifCond .ne 10, 3) := by decide +kernel
theorem dX9_ith_20 : decode cX9_ith 20 = .ok (.aload_n 0, 1) := by decide +kernel
theorem dX9_ith_21 : decode cX9_ith 21 = .ok (.ldc 59, 2) := by decide +kernel
theorem dX9_ith_23 : decode cX9_ith 23 = .ok (.invokevirtual 60, 3) := by decide +kernel
theorem dX9_ith_26 : decode cX9_ith 26 = .ok (.ireturn, 1) := by decide +kernel
theorem dX9_ith_27 : decode cX9_ith 27 = .ok (.aload_n 0, 1) := by decide +kernel
theorem dX9_ith_28 : decode cX9_ith 28 = .ok (.getfield 16, 3) := by decide +kernel
theorem dX9_ith_31 : decode cX9_ith 31 = .ok (.getfield 173, 3) := by decide +kernel
theorem dX9_ith_34 : decode cX9_ith 34 = .ok (.getfield 190, 3) := by decide +kernel
theorem dX9_ith_37 : decode cX9_ith 37 = .ok (.iload_n 1, 1) := by decide +kernel
theorem dX9_ith_38 : decode cX9_ith 38 = .ok (.iaload, 1) := by decide +kernel
theorem dX9_ith_39 : decode cX9_ith 39 = .ok (.ireturn, 1) := by decide +kernel
theorem dX9_learn_0 : decode cX9_learn 0 = .ok (.aload_n 0, 1) := by decide +kernel
theorem dX9_learn_1 : decode cX9_learn 1 = .ok (.iload_n 1, 1) := by decide +kernel
theorem dX9_learn_2 : decode cX9_learn 2 = .ok (.invokevirtual 79, 3) := by decide +kernel
theorem dX9_learn_5 : decode cX9_learn 5 = .ok (.ifCond .eq 14, 3) := by decide +kernel
theorem dX9_learn_8 : decode cX9_learn 8 = .ok (.iload_n 2, 1) := by decide +kernel
theorem dX9_learn_9 : decode cX9_learn 9 = .ok (.iconst 1, 1) := by decide +kernel
theorem dX9_learn_10 : decode cX9_learn 10 = .ok (.sipush 600, 3) := by decide +kernel
theorem dX9_learn_13 : decode cX9_learn 13 = .ok (.invokestatic 55, 3) := by decide +kernel
theorem dX9_learn_16 : decode cX9_learn 16 = .ok (.ifCond .ne 10, 3) := by decide +kernel
theorem dX9_learn_19 : decode cX9_learn 19 = .ok (.aload_n 0, 1) := by decide +kernel
theorem dX9_learn_20 : decode cX9_learn 20 = .ok (.ldc 59, 2) := by decide +kernel
theorem dX9_learn_22 : decode cX9_learn 22 = .ok (.invokevirtual 60, 3) := by decide +kernel
theorem dX9_learn_25 : decode cX9_learn 25 = .ok (.ireturn, 1) := by decide +kernel
theorem dX9_learn_26 : decode cX9_learn 26 = .ok (.aload_n 0, 1) := by decide +kernel
theorem dX9_learn_27 : decode cX9_learn 27 = .ok (.getfield 16, 3) := by decide +kernel
theorem dX9_learn_30 : decode cX9_learn 30 = .ok (.getfield 64, 3) := by decide +kernel
theorem dX9_learn_33 : decode cX9_learn 33 = .ok (.iload_n 1, 1) := by decide +kernel
theorem dX9_learn_34 : decode cX9_learn 34 = .ok (.iload_n 2, 1) := by decide +kernel
theorem dX9_learn_35 : decode cX9_learn 35 = .ok (.invokevirtual 192, 3) := by decide +kernel
theorem dX9_learn_38 : decode cX9_learn 38 = .ok (.aload_n 0, 1) := by decide +kernel
theorem dX9_learn_39 : decode cX9_learn 39 = .ok (.getfield 16, 3) := by decide +kernel
theorem dX9_learn_42 : decode cX9_learn 42 = .ok (.getfield 64, 3) := by decide +kernel
theorem dX9_learn_45 : decode cX9_learn 45 = .ok (.getfield 108, 3) := by decide +kernel
theorem dX9_learn_48 : decode cX9_learn 48 = .ok (.iload_n 1, 1) := by decide +kernel
theorem dX9_learn_49 : decode cX9_learn 49 = .ok (.iaload, 1) := by decide +kernel
theorem dX9_learn_50 : decode cX9_learn 50 = .ok (.ireturn, 1) := by decide +kernel
theorem dX9_evening_0 : decode cX9_evening 0 = .ok (.iload_n 1, 1) := by decide +kernel
theorem dX9_evening_1 : decode cX9_evening 1 = .ok (.iconst 0, 1) := by decide +kernel
theorem dX9_evening_2 : decode cX9_evening 2 = .ok (.sipush 600, 3) := by decide +kernel
theorem dX9_evening_5 : decode cX9_evening 5 = .ok (.invokestatic 55, 3) := by decide +kernel
theorem dX9_evening_8 : decode cX9_evening 8 = .ok (.ifCond .ne 10, 3) := by decide +kernel
theorem dX9_evening_11 : decode cX9_evening 11 = .ok (.aload_n 0, 1) := by decide +kernel
theorem dX9_evening_12 : decode cX9_evening 12 = .ok (.ldc 59, 2) := by decide +kernel
theorem dX9_evening_14 : decode cX9_evening 14 = .ok (.invokevirtual 60, 3) := by decide +kernel
theorem dX9_evening_17 : decode cX9_evening 17 = .ok (.ireturn, 1) := by decide +kernel
theorem dX9_evening_18 : decode cX9_evening 18 = .ok (.aload_n 0, 1) := by decide +kernel
theorem dX9_evening_19 : decode cX9_evening 19 = .ok (.getfield 16, 3) := by decide +kernel
theorem dX9_evening_22 : decode cX9_evening 22 = .ok (.iload_n 1, 1) := by decide +kernel
theorem dX9_evening_23 : decode cX9_evening 23 = .ok (.invokevirtual 196, 3) := by decide +kernel
theorem dX9_evening_26 : decode cX9_evening 26 = .ok (.ireturn, 1) := by decide +kernel
theorem dX9_line_0 : decode cX9_line 0 = .ok (.iload_n 1, 1) := by decide +kernel
theorem dX9_line_1 : decode cX9_line 1 = .ok (.iconst 1, 1) := by decide +kernel
theorem dX9_line_2 : decode cX9_line 2 = .ok (.bipush 100, 2) := by decide +kernel
theorem dX9_line_4 : decode cX9_line 4 = .ok (.invokestatic 55, 3) := by decide +kernel
theorem dX9_line_7 : decode cX9_line 7 = .ok (.ifCond .ne 10, 3) := by decide +kernel
theorem dX9_line_10 : decode cX9_line 10 = .ok (.aload_n 0, 1) := by decide +kernel
theorem dX9_line_11 : decode cX9_line 11 = .ok (.ldc 59, 2) := by decide +kernel
theorem dX9_line_13 : decode cX9_line 13 = .ok (.invokevirtual 60, 3) := by decide +kernel
theorem dX9_line_16 : decode cX9_line 16 = .ok (.ireturn, 1) := by decide +kernel
theorem dX9_line_17 : decode cX9_line 17 = .ok (.aload_n 0, 1) := by decide +kernel
theorem dX9_line_18 : decode cX9_line 18 = .ok (.getfield 16, 3) := by decide +kernel
theorem dX9_line_21 : decode cX9_line 21 = .ok (.getfield 199, 3) := by decide +kernel
theorem dX9_line_24 : decode cX9_line 24 = .ok (.istore_n 2, 1) := by decide +kernel
theorem dX9_line_25 : decode cX9_line 25 = .ok (.aload_n 0, 1) := by decide +kernel
theorem dX9_line_26 : decode cX9_line 26 = .ok (.getfield 16, 3) := by decide +kernel
theorem dX9_line_29 : decode cX9_line 29 = .ok (.iload_n 1, 1) := by decide +kernel
theorem dX9_line_30 : decode cX9_line 30 = .ok (.putfield 199, 3) := by decide +kernel
theorem dX9_line_33 : decode cX9_line 33 = .ok (.iload_n 2, 1) := by decide +kernel
theorem dX9_line_34 : decode cX9_line 34 = .ok (.ireturn, 1) := by decide +kernel
theorem dX9_known_0 : decode cX9_known 0 = .ok (.aload_n 0, 1) := by decide +kernel
theorem dX9_known_1 : decode cX9_known 1 = .ok (.getfield 16, 3) := by decide +kernel
theorem dX9_known_4 : decode cX9_known 4 = .ok (.invokevirtual 202, 3) := by decide +kernel
theorem dX9_known_7 : decode cX9_known 7 = .ok (.ireturn, 1) := by decide +kernel
theorem dX9_days_0 : decode cX9_days 0 = .ok (.iload_n 1, 1) := by decide +kernel
theorem dX9_days_1 : decode cX9_days 1 = .ok (.iconst 1, 1) := by decide +kernel
theorem dX9_days_2 : decode cX9_days 2 = .ok (.bipush 30, 2) := by decide +kernel
theorem dX9_days_4 : decode cX9_days 4 = .ok (.invokestatic 55, 3) := by decide +kernel
theorem dX9_days_7 : decode cX9_days 7 = .ok (.ifCond .ne 10, 3) := by decide +kernel
theorem dX9_days_10 : decode cX9_days 10 = .ok (.aload_n 0, 1) := by decide +kernel
theorem dX9_days_11 : decode cX9_days 11 = .ok (.ldc 59, 2) := by decide +kernel
theorem dX9_days_13 : decode cX9_days 13 = .ok (.invokevirtual 60, 3) := by decide +kernel
theorem dX9_days_16 : decode cX9_days 16 = .ok (.ireturn, 1) := by decide +kernel
theorem dX9_days_17 : decode cX9_days 17 = .ok (.aload_n 0, 1) := by decide +kernel
theorem dX9_days_18 : decode cX9_days 18 = .ok (.iload_n 1, 1) := by decide +kernel
theorem dX9_days_19 : decode cX9_days 19 = .ok (.invokevirtual 206, 3) := by decide +kernel
theorem dX9_days_22 : decode cX9_days 22 = .ok (.ifCond .ne 10, 3) := by decide +kernel
theorem dX9_days_25 : decode cX9_days 25 = .ok (.aload_n 0, 1) := by decide +kernel
theorem dX9_days_26 : decode cX9_days 26 = .ok (.ldc 209, 2) := by decide +kernel
theorem dX9_days_28 : decode cX9_days 28 = .ok (.invokevirtual 60, 3) := by decide +kernel
theorem dX9_days_31 : decode cX9_days 31 = .ok (.ireturn, 1) := by decide +kernel
theorem dX9_days_32 : decode cX9_days 32 = .ok (.aload_n 0, 1) := by decide +kernel
theorem dX9_days_33 : decode cX9_days 33 = .ok (.getfield 16, 3) := by decide +kernel
theorem dX9_days_36 : decode cX9_days 36 = .ok (.getfield 210, 3) := by decide +kernel
theorem dX9_days_39 : decode cX9_days 39 = .ok (.istore_n 2, 1) := by decide +kernel
theorem dX9_days_40 : decode cX9_days 40 = .ok (.aload_n 0, 1) := by decide +kernel
theorem dX9_days_41 : decode cX9_days 41 = .ok (.getfield 16, 3) := by decide +kernel
theorem dX9_days_44 : decode cX9_days 44 = .ok (.iload_n 1, 1) := by decide +kernel
theorem dX9_days_45 : decode cX9_days 45 = .ok (.invokevirtual 213, 3) := by decide +kernel
theorem dX9_days_48 : decode cX9_days 48 = .ok (.aload_n 0, 1) := by decide +kernel
theorem dX9_days_49 : decode cX9_days 49 = .ok (.getfield 16, 3) := by decide +kernel
theorem dX9_days_52 : decode cX9_days 52 = .ok (.getfield 210, 3) := by decide +kernel
theorem dX9_days_55 : decode cX9_days 55 = .ok (.iload_n 2, 1) := by decide +kernel
theorem dX9_days_56 : decode cX9_days 56 = .ok (.isub, 1) := by decide +kernel
theorem dX9_days_57 : decode cX9_days 57 = .ok (.ireturn, 1) := by decide +kernel
theorem dX9_now_0 : decode cX9_now 0 = .ok (.iload_n 1, 1) := by decide +kernel
theorem dX9_now_1 : decode cX9_now 1 = .ok (.tableswitch 73 0 3 #[31, 39, 47, 55], 31) := by decide +kernel
theorem dX9_now_32 : decode cX9_now 32 = .ok (.aload_n 0, 1) := by decide +kernel
theorem dX9_now_33 : decode cX9_now 33 = .ok (.getfield 16, 3) := by decide +kernel
theorem dX9_now_36 : decode cX9_now 36 = .ok (.getfield 216, 3) := by decide +kernel
theorem dX9_now_39 : decode cX9_now 39 = .ok (.ireturn, 1) := by decide +kernel
theorem dX9_now_40 : decode cX9_now 40 = .ok (.aload_n 0, 1) := by decide +kernel
theorem dX9_now_41 : decode cX9_now 41 = .ok (.getfield 16, 3) := by decide +kernel
theorem dX9_now_44 : decode cX9_now 44 = .ok (.getfield 199, 3) := by decide +kernel
theorem dX9_now_47 : decode cX9_now 47 = .ok (.ireturn, 1) := by decide +kernel
theorem dX9_now_48 : decode cX9_now 48 = .ok (.aload_n 0, 1) := by decide +kernel
theorem dX9_now_49 : decode cX9_now 49 = .ok (.getfield 16, 3) := by decide +kernel
theorem dX9_now_52 : decode cX9_now 52 = .ok (.getfield 210, 3) := by decide +kernel
theorem dX9_now_55 : decode cX9_now 55 = .ok (.ireturn, 1) := by decide +kernel
theorem dX9_now_56 : decode cX9_now 56 = .ok (.aload_n 0, 1) := by decide +kernel
theorem dX9_now_57 : decode cX9_now 57 = .ok (.getfield 16, 3) := by decide +kernel
theorem dX9_now_60 : decode cX9_now 60 = .ok (.getfield 111, 3) := by decide +kernel
theorem dX9_now_63 : decode cX9_now 63 = .ok (.aload_n 0, 1) := by decide +kernel
theorem dX9_now_64 : decode cX9_now 64 = .ok (.getfield 16, 3) := by decide +kernel
theorem dX9_now_67 : decode cX9_now 67 = .ok (.getfield 216, 3) := by decide +kernel
theorem dX9_now_70 : decode cX9_now 70 = .ok (.invokevirtual 219, 3) := by decide +kernel
theorem dX9_now_73 : decode cX9_now 73 = .ok (.ireturn, 1) := by decide +kernel
theorem dX9_now_74 : decode cX9_now 74 = .ok (.aload_n 0, 1) := by decide +kernel
theorem dX9_now_75 : decode cX9_now 75 = .ok (.ldc 59, 2) := by decide +kernel
theorem dX9_now_77 : decode cX9_now 77 = .ok (.invokevirtual 60, 3) := by decide +kernel
theorem dX9_now_80 : decode cX9_now 80 = .ok (.ireturn, 1) := by decide +kernel
theorem dX9_on_0 : decode cX9_on 0 = .ok (.iload_n 1, 1) := by decide +kernel
theorem dX9_on_1 : decode cX9_on 1 = .ok (.iconst 0, 1) := by decide +kernel
theorem dX9_on_2 : decode cX9_on 2 = .ok (.bipush 60, 2) := by decide +kernel
theorem dX9_on_4 : decode cX9_on 4 = .ok (.invokestatic 55, 3) := by decide +kernel
theorem dX9_on_7 : decode cX9_on 7 = .ok (.ifCond .eq 12, 3) := by decide +kernel
theorem dX9_on_10 : decode cX9_on 10 = .ok (.iload_n 2, 1) := by decide +kernel
theorem dX9_on_11 : decode cX9_on 11 = .ok (.iconst 0, 1) := by decide +kernel
theorem dX9_on_12 : decode cX9_on 12 = .ok (.iconst 2, 1) := by decide +kernel
theorem dX9_on_13 : decode cX9_on 13 = .ok (.invokestatic 55, 3) := by decide +kernel
theorem dX9_on_16 : decode cX9_on 16 = .ok (.ifCond .ne 10, 3) := by decide +kernel
theorem dX9_on_19 : decode cX9_on 19 = .ok (.aload_n 0, 1) := by decide +kernel
theorem dX9_on_20 : decode cX9_on 20 = .ok (.ldc 59, 2) := by decide +kernel
theorem dX9_on_22 : decode cX9_on 22 = .ok (.invokevirtual 60, 3) := by decide +kernel
theorem dX9_on_25 : decode cX9_on 25 = .ok (.ireturn, 1) := by decide +kernel
theorem dX9_on_26 : decode cX9_on 26 = .ok (.aload_n 0, 1) := by decide +kernel
theorem dX9_on_27 : decode cX9_on 27 = .ok (.iload_n 1, 1) := by decide +kernel
theorem dX9_on_28 : decode cX9_on 28 = .ok (.invokevirtual 206, 3) := by decide +kernel
theorem dX9_on_31 : decode cX9_on 31 = .ok (.ifCond .ne 10, 3) := by decide +kernel
theorem dX9_on_34 : decode cX9_on 34 = .ok (.aload_n 0, 1) := by decide +kernel
theorem dX9_on_35 : decode cX9_on 35 = .ok (.ldc 209, 2) := by decide +kernel
theorem dX9_on_37 : decode cX9_on 37 = .ok (.invokevirtual 60, 3) := by decide +kernel
theorem dX9_on_40 : decode cX9_on 40 = .ok (.ireturn, 1) := by decide +kernel
theorem dX9_on_41 : decode cX9_on 41 = .ok (.aload_n 0, 1) := by decide +kernel
theorem dX9_on_42 : decode cX9_on 42 = .ok (.getfield 37, 3) := by decide +kernel
theorem dX9_on_45 : decode cX9_on 45 = .ok (.aload_n 0, 1) := by decide +kernel
theorem dX9_on_46 : decode cX9_on 46 = .ok (.getfield 16, 3) := by decide +kernel
theorem dX9_on_49 : decode cX9_on 49 = .ok (.iload_n 1, 1) := by decide +kernel
theorem dX9_on_50 : decode cX9_on 50 = .ok (.invokevirtual 222, 3) := by decide +kernel
theorem dX9_on_53 : decode cX9_on 53 = .ok (.aload_n 0, 1) := by decide +kernel
theorem dX9_on_54 : decode cX9_on 54 = .ok (.getfield 37, 3) := by decide +kernel
theorem dX9_on_57 : decode cX9_on 57 = .ok (.getfield 226, 3) := by decide +kernel
theorem dX9_on_60 : decode cX9_on 60 = .ok (.astore_n 3, 1) := by decide +kernel
theorem dX9_on_61 : decode cX9_on 61 = .ok (.iload_n 2, 1) := by decide +kernel
theorem dX9_on_62 : decode cX9_on 62 = .ok (.ifCond .ne 8, 3) := by decide +kernel
theorem dX9_on_65 : decode cX9_on 65 = .ok (.aload_n 3, 1) := by decide +kernel
theorem dX9_on_66 : decode cX9_on 66 = .ok (.getfield 210, 3) := by decide +kernel
theorem dX9_on_69 : decode cX9_on 69 = .ok (.ireturn, 1) := by decide +kernel
theorem dX9_on_70 : decode cX9_on 70 = .ok (.iload_n 2, 1) := by decide +kernel
theorem dX9_on_71 : decode cX9_on 71 = .ok (.iconst 1, 1) := by decide +kernel
theorem dX9_on_72 : decode cX9_on 72 = .ok (.if_icmp .ne 10, 3) := by decide +kernel
theorem dX9_on_75 : decode cX9_on 75 = .ok (.aload_n 3, 1) := by decide +kernel
theorem dX9_on_76 : decode cX9_on 76 = .ok (.invokevirtual 202, 3) := by decide +kernel
theorem dX9_on_79 : decode cX9_on 79 = .ok (.goto 20, 3) := by decide +kernel
theorem dX9_on_82 : decode cX9_on 82 = .ok (.aload_n 3, 1) := by decide +kernel
theorem dX9_on_83 : decode cX9_on 83 = .ok (.getfield 64, 3) := by decide +kernel
theorem dX9_on_86 : decode cX9_on 86 = .ok (.getfield 108, 3) := by decide +kernel
theorem dX9_on_89 : decode cX9_on 89 = .ok (.aload_n 3, 1) := by decide +kernel
theorem dX9_on_90 : decode cX9_on 90 = .ok (.getfield 64, 3) := by decide +kernel
theorem dX9_on_93 : decode cX9_on 93 = .ok (.getfield 229, 3) := by decide +kernel
theorem dX9_on_96 : decode cX9_on 96 = .ok (.invokestatic 230, 3) := by decide +kernel
theorem dX9_on_99 : decode cX9_on 99 = .ok (.ireturn, 1) := by decide +kernel
theorem dX9_forgot_0 : decode cX9_forgot 0 = .ok (.aload_n 0, 1) := by decide +kernel
theorem dX9_forgot_1 : decode cX9_forgot 1 = .ok (.iload_n 1, 1) := by decide +kernel
theorem dX9_forgot_2 : decode cX9_forgot 2 = .ok (.invokevirtual 79, 3) := by decide +kernel
theorem dX9_forgot_5 : decode cX9_forgot 5 = .ok (.ifCond .ne 10, 3) := by decide +kernel
theorem dX9_forgot_8 : decode cX9_forgot 8 = .ok (.aload_n 0, 1) := by decide +kernel
theorem dX9_forgot_9 : decode cX9_forgot 9 = .ok (.ldc 59, 2) := by decide +kernel
theorem dX9_forgot_11 : decode cX9_forgot 11 = .ok (.invokevirtual 60, 3) := by decide +kernel
theorem dX9_forgot_14 : decode cX9_forgot 14 = .ok (.ireturn, 1) := by decide +kernel
theorem dX9_forgot_15 : decode cX9_forgot 15 = .ok (.aload_n 0, 1) := by decide +kernel
theorem dX9_forgot_16 : decode cX9_forgot 16 = .ok (.bipush 60, 2) := by decide +kernel
theorem dX9_forgot_18 : decode cX9_forgot 18 = .ok (.invokevirtual 206, 3) := by decide +kernel
theorem dX9_forgot_21 : decode cX9_forgot 21 = .ok (.ifCond .ne 10, 3) := by decide +kernel
theorem dX9_forgot_24 : decode cX9_forgot 24 = .ok (.aload_n 0, 1) := by decide +kernel
theorem dX9_forgot_25 : decode cX9_forgot 25 = .ok (.ldc 209, 2) := by decide +kernel
theorem dX9_forgot_27 : decode cX9_forgot 27 = .ok (.invokevirtual 60, 3) := by decide +kernel
theorem dX9_forgot_30 : decode cX9_forgot 30 = .ok (.ireturn, 1) := by decide +kernel
theorem dX9_forgot_31 : decode cX9_forgot 31 = .ok (.aload_n 0, 1) := by decide +kernel
theorem dX9_forgot_32 : decode cX9_forgot 32 = .ok (.aload_n 0, 1) := by decide +kernel
theorem dX9_forgot_33 : decode cX9_forgot 33 = .ok (.getfield 37, 3) := by decide +kernel
theorem dX9_forgot_36 : decode cX9_forgot 36 = .ok (.aload_n 0, 1) := by decide +kernel
theorem dX9_forgot_37 : decode cX9_forgot 37 = .ok (.getfield 16, 3) := by decide +kernel
theorem dX9_forgot_40 : decode cX9_forgot 40 = .ok (.iload_n 1, 1) := by decide +kernel
theorem dX9_forgot_41 : decode cX9_forgot 41 = .ok (.invokevirtual 234, 3) := by decide +kernel
theorem dX9_forgot_44 : decode cX9_forgot 44 = .ok (.invokevirtual 152, 3) := by decide +kernel
theorem dX9_forgot_47 : decode cX9_forgot 47 = .ok (.ireturn, 1) := by decide +kernel
theorem dX9_useless_0 : decode cX9_useless 0 = .ok (.iload_n 1, 1) := by decide +kernel
theorem dX9_useless_1 : decode cX9_useless 1 = .ok (.iconst 1, 1) := by decide +kernel
theorem dX9_useless_2 : decode cX9_useless 2 = .ok (.bipush 60, 2) := by decide +kernel
theorem dX9_useless_4 : decode cX9_useless 4 = .ok (.invokestatic 55, 3) := by decide +kernel
theorem dX9_useless_7 : decode cX9_useless 7 = .ok (.ifCond .ne 10, 3) := by decide +kernel
theorem dX9_useless_10 : decode cX9_useless 10 = .ok (.aload_n 0, 1) := by decide +kernel
theorem dX9_useless_11 : decode cX9_useless 11 = .ok (.ldc 59, 2) := by decide +kernel
theorem dX9_useless_13 : decode cX9_useless 13 = .ok (.invokevirtual 60, 3) := by decide +kernel
theorem dX9_useless_16 : decode cX9_useless 16 = .ok (.ireturn, 1) := by decide +kernel
theorem dX9_useless_17 : decode cX9_useless 17 = .ok (.aload_n 0, 1) := by decide +kernel
theorem dX9_useless_18 : decode cX9_useless 18 = .ok (.iload_n 1, 1) := by decide +kernel
theorem dX9_useless_19 : decode cX9_useless 19 = .ok (.invokevirtual 206, 3) := by decide +kernel
theorem dX9_useless_22 : decode cX9_useless 22 = .ok (.ifCond .ne 10, 3) := by decide +kernel
theorem dX9_useless_25 : decode cX9_useless 25 = .ok (.aload_n 0, 1) := by decide +kernel
theorem dX9_useless_26 : decode cX9_useless 26 = .ok (.ldc 209, 2) := by decide +kernel
theorem dX9_useless_28 : decode cX9_useless 28 = .ok (.invokevirtual 60, 3) := by decide +kernel
theorem dX9_useless_31 : decode cX9_useless 31 = .ok (.ireturn, 1) := by decide +kernel
theorem dX9_useless_32 : decode cX9_useless 32 = .ok (.aload_n 0, 1) := by decide +kernel
theorem dX9_useless_33 : decode cX9_useless 33 = .ok (.getfield 37, 3) := by decide +kernel
theorem dX9_useless_36 : decode cX9_useless 36 = .ok (.aload_n 0, 1) := by decide +kernel
theorem dX9_useless_37 : decode cX9_useless 37 = .ok (.getfield 16, 3) := by decide +kernel
theorem dX9_useless_40 : decode cX9_useless 40 = .ok (.iload_n 1, 1) := by decide +kernel
theorem dX9_useless_41 : decode cX9_useless 41 = .ok (.invokevirtual 238, 3) := by decide +kernel
theorem dX9_useless_44 : decode cX9_useless 44 = .ok (.ireturn, 1) := by decide +kernel
theorem dX9_tonight_0 : decode cX9_tonight 0 = .ok (.iload_n 1, 1) := by decide +kernel
theorem dX9_tonight_1 : decode cX9_tonight 1 = .ok (.iconst 1, 1) := by decide +kernel
theorem dX9_tonight_2 : decode cX9_tonight 2 = .ok (.bipush 60, 2) := by decide +kernel
theorem dX9_tonight_4 : decode cX9_tonight 4 = .ok (.invokestatic 55, 3) := by decide +kernel
theorem dX9_tonight_7 : decode cX9_tonight 7 = .ok (.ifCond .ne 10, 3) := by decide +kernel
theorem dX9_tonight_10 : decode cX9_tonight 10 = .ok (.aload_n 0, 1) := by decide +kernel
theorem dX9_tonight_11 : decode cX9_tonight 11 = .ok (.ldc 59, 2) := by decide +kernel
theorem dX9_tonight_13 : decode cX9_tonight 13 = .ok (.invokevirtual 60, 3) := by decide +kernel
theorem dX9_tonight_16 : decode cX9_tonight 16 = .ok (.ireturn, 1) := by decide +kernel
theorem dX9_tonight_17 : decode cX9_tonight 17 = .ok (.aload_n 0, 1) := by decide +kernel
theorem dX9_tonight_18 : decode cX9_tonight 18 = .ok (.iload_n 1, 1) := by decide +kernel
theorem dX9_tonight_19 : decode cX9_tonight 19 = .ok (.invokevirtual 206, 3) := by decide +kernel
theorem dX9_tonight_22 : decode cX9_tonight 22 = .ok (.ifCond .ne 10, 3) := by decide +kernel
theorem dX9_tonight_25 : decode cX9_tonight 25 = .ok (.aload_n 0, 1) := by decide +kernel
theorem dX9_tonight_26 : decode cX9_tonight 26 = .ok (.ldc 209, 2) := by decide +kernel
theorem dX9_tonight_28 : decode cX9_tonight 28 = .ok (.invokevirtual 60, 3) := by decide +kernel
theorem dX9_tonight_31 : decode cX9_tonight 31 = .ok (.ireturn, 1) := by decide +kernel
theorem dX9_tonight_32 : decode cX9_tonight 32 = .ok (.aload_n 0, 1) := by decide +kernel
theorem dX9_tonight_33 : decode cX9_tonight 33 = .ok (.aload_n 0, 1) := by decide +kernel
theorem dX9_tonight_34 : decode cX9_tonight 34 = .ok (.getfield 37, 3) := by decide +kernel
theorem dX9_tonight_37 : decode cX9_tonight 37 = .ok (.aload_n 0, 1) := by decide +kernel
theorem dX9_tonight_38 : decode cX9_tonight 38 = .ok (.getfield 16, 3) := by decide +kernel
theorem dX9_tonight_41 : decode cX9_tonight 41 = .ok (.iload_n 1, 1) := by decide +kernel
theorem dX9_tonight_42 : decode cX9_tonight 42 = .ok (.invokevirtual 241, 3) := by decide +kernel
theorem dX9_tonight_45 : decode cX9_tonight 45 = .ok (.invokevirtual 152, 3) := by decide +kernel
theorem dX9_tonight_48 : decode cX9_tonight 48 = .ok (.ireturn, 1) := by decide +kernel
theorem dX9_plan_0 : decode cX9_plan 0 = .ok (.aload_n 0, 1) := by decide +kernel
theorem dX9_plan_1 : decode cX9_plan 1 = .ok (.iload_n 1, 1) := by decide +kernel
theorem dX9_plan_2 : decode cX9_plan 2 = .ok (.invokevirtual 128, 3) := by decide +kernel
theorem dX9_plan_5 : decode cX9_plan 5 = .ok (.ifCond .eq 34, 3) := by decide +kernel
theorem dX9_plan_8 : decode cX9_plan 8 = .ok (.iload_n 2, 1) := by decide +kernel
theorem dX9_plan_9 : decode cX9_plan 9 = .ok (.iconst 0, 1) := by decide +kernel
theorem dX9_plan_10 : decode cX9_plan 10 = .ok (.sipush 600, 3) := by decide +kernel
theorem dX9_plan_13 : decode cX9_plan 13 = .ok (.invokestatic 55, 3) := by decide +kernel
theorem dX9_plan_16 : decode cX9_plan 16 = .ok (.ifCond .eq 23, 3) := by decide +kernel
theorem dX9_plan_19 : decode cX9_plan 19 = .ok (.iload_n 3, 1) := by decide +kernel
theorem dX9_plan_20 : decode cX9_plan 20 = .ok (.iconst 1, 1) := by decide +kernel
theorem dX9_plan_21 : decode cX9_plan 21 = .ok (.bipush 60, 2) := by decide +kernel
theorem dX9_plan_23 : decode cX9_plan 23 = .ok (.invokestatic 55, 3) := by decide +kernel
theorem dX9_plan_26 : decode cX9_plan 26 = .ok (.ifCond .eq 13, 3) := by decide +kernel
theorem dX9_plan_29 : decode cX9_plan 29 = .ok (.iload 4, 2) := by decide +kernel
theorem dX9_plan_31 : decode cX9_plan 31 = .ok (.iconst (-1), 1) := by decide +kernel
theorem dX9_plan_32 : decode cX9_plan 32 = .ok (.iconst 4, 1) := by decide +kernel
theorem dX9_plan_33 : decode cX9_plan 33 = .ok (.invokestatic 55, 3) := by decide +kernel
theorem dX9_plan_36 : decode cX9_plan 36 = .ok (.ifCond .ne 10, 3) := by decide +kernel
theorem dX9_plan_39 : decode cX9_plan 39 = .ok (.aload_n 0, 1) := by decide +kernel
theorem dX9_plan_40 : decode cX9_plan 40 = .ok (.ldc 59, 2) := by decide +kernel
theorem dX9_plan_42 : decode cX9_plan 42 = .ok (.invokevirtual 60, 3) := by decide +kernel
theorem dX9_plan_45 : decode cX9_plan 45 = .ok (.ireturn, 1) := by decide +kernel
theorem dX9_plan_46 : decode cX9_plan 46 = .ok (.iload_n 1, 1) := by decide +kernel
theorem dX9_plan_47 : decode cX9_plan 47 = .ok (.invokestatic 244, 3) := by decide +kernel
theorem dX9_plan_50 : decode cX9_plan 50 = .ok (.istore 5, 2) := by decide +kernel
theorem dX9_plan_52 : decode cX9_plan 52 = .ok (.iload 5, 2) := by decide +kernel
theorem dX9_plan_54 : decode cX9_plan 54 = .ok (.iconst 5, 1) := by decide +kernel
theorem dX9_plan_55 : decode cX9_plan 55 = .ok (.if_icmp .le 10, 3) := by decide +kernel
theorem dX9_plan_58 : decode cX9_plan 58 = .ok (.aload_n 0, 1) := by decide +kernel
theorem dX9_plan_59 : decode cX9_plan 59 = .ok (.ldc 249, 2) := by decide +kernel
theorem dX9_plan_61 : decode cX9_plan 61 = .ok (.invokevirtual 60, 3) := by decide +kernel
theorem dX9_plan_64 : decode cX9_plan 64 = .ok (.ireturn, 1) := by decide +kernel
theorem dX9_plan_65 : decode cX9_plan 65 = .ok (.aload_n 0, 1) := by decide +kernel
theorem dX9_plan_66 : decode cX9_plan 66 = .ok (.iload_n 3, 1) := by decide +kernel
theorem dX9_plan_67 : decode cX9_plan 67 = .ok (.invokevirtual 206, 3) := by decide +kernel
theorem dX9_plan_70 : decode cX9_plan 70 = .ok (.ifCond .ne 10, 3) := by decide +kernel
theorem dX9_plan_73 : decode cX9_plan 73 = .ok (.aload_n 0, 1) := by decide +kernel
theorem dX9_plan_74 : decode cX9_plan 74 = .ok (.ldc 209, 2) := by decide +kernel
theorem dX9_plan_76 : decode cX9_plan 76 = .ok (.invokevirtual 60, 3) := by decide +kernel
theorem dX9_plan_79 : decode cX9_plan 79 = .ok (.ireturn, 1) := by decide +kernel
theorem dX9_plan_80 : decode cX9_plan 80 = .ok (.iload 4, 2) := by decide +kernel
theorem dX9_plan_82 : decode cX9_plan 82 = .ok (.iload 5, 2) := by decide +kernel
theorem dX9_plan_84 : decode cX9_plan 84 = .ok (.if_icmp .lt 10, 3) := by decide +kernel
theorem dX9_plan_87 : decode cX9_plan 87 = .ok (.aload_n 0, 1) := by decide +kernel
theorem dX9_plan_88 : decode cX9_plan 88 = .ok (.ldc 250, 2) := by decide +kernel
theorem dX9_plan_90 : decode cX9_plan 90 = .ok (.invokevirtual 60, 3) := by decide +kernel
theorem dX9_plan_93 : decode cX9_plan 93 = .ok (.ireturn, 1) := by decide +kernel
theorem dX9_plan_94 : decode cX9_plan 94 = .ok (.aload_n 0, 1) := by decide +kernel
theorem dX9_plan_95 : decode cX9_plan 95 = .ok (.getfield 37, 3) := by decide +kernel
theorem dX9_plan_98 : decode cX9_plan 98 = .ok (.aload_n 0, 1) := by decide +kernel
theorem dX9_plan_99 : decode cX9_plan 99 = .ok (.getfield 16, 3) := by decide +kernel
theorem dX9_plan_102 : decode cX9_plan 102 = .ok (.iload_n 1, 1) := by decide +kernel
theorem dX9_plan_103 : decode cX9_plan 103 = .ok (.iload_n 2, 1) := by decide +kernel
theorem dX9_plan_104 : decode cX9_plan 104 = .ok (.iload_n 3, 1) := by decide +kernel
theorem dX9_plan_105 : decode cX9_plan 105 = .ok (.invokevirtual 251, 3) := by decide +kernel
theorem dX9_plan_108 : decode cX9_plan 108 = .ok (.istore 6, 2) := by decide +kernel
theorem dX9_plan_110 : decode cX9_plan 110 = .ok (.iload 4, 2) := by decide +kernel
theorem dX9_plan_112 : decode cX9_plan 112 = .ok (.ifCond .ge 20, 3) := by decide +kernel
theorem dX9_plan_115 : decode cX9_plan 115 = .ok (.aload_n 0, 1) := by decide +kernel
theorem dX9_plan_116 : decode cX9_plan 116 = .ok (.getfield 37, 3) := by decide +kernel
theorem dX9_plan_119 : decode cX9_plan 119 = .ok (.aload_n 0, 1) := by decide +kernel
theorem dX9_plan_120 : decode cX9_plan 120 = .ok (.getfield 16, 3) := by decide +kernel
theorem dX9_plan_123 : decode cX9_plan 123 = .ok (.iload_n 1, 1) := by decide +kernel
theorem dX9_plan_124 : decode cX9_plan 124 = .ok (.iload 6, 2) := by decide +kernel
theorem dX9_plan_126 : decode cX9_plan 126 = .ok (.iload_n 2, 1) := by decide +kernel
theorem dX9_plan_127 : decode cX9_plan 127 = .ok (.iload_n 3, 1) := by decide +kernel
theorem dX9_plan_128 : decode cX9_plan 128 = .ok (.invokevirtual 255, 3) := by decide +kernel
theorem dX9_plan_131 : decode cX9_plan 131 = .ok (.ireturn, 1) := by decide +kernel
theorem dX9_plan_132 : decode cX9_plan 132 = .ok (.aload_n 0, 1) := by decide +kernel
theorem dX9_plan_133 : decode cX9_plan 133 = .ok (.getfield 37, 3) := by decide +kernel
theorem dX9_plan_136 : decode cX9_plan 136 = .ok (.getfield 226, 3) := by decide +kernel
theorem dX9_plan_139 : decode cX9_plan 139 = .ok (.getfield 173, 3) := by decide +kernel
theorem dX9_plan_142 : decode cX9_plan 142 = .ok (.astore 7, 2) := by decide +kernel
theorem dX9_plan_144 : decode cX9_plan 144 = .ok (.aload 7, 2) := by decide +kernel
theorem dX9_plan_146 : decode cX9_plan 146 = .ok (.iload_n 1, 1) := by decide +kernel
theorem dX9_plan_147 : decode cX9_plan 147 = .ok (.iload 6, 2) := by decide +kernel
theorem dX9_plan_149 : decode cX9_plan 149 = .ok (.invokevirtual 259, 3) := by decide +kernel
theorem dX9_plan_152 : decode cX9_plan 152 = .ok (.aload 7, 2) := by decide +kernel
theorem dX9_plan_154 : decode cX9_plan 154 = .ok (.getfield 190, 3) := by decide +kernel
theorem dX9_plan_157 : decode cX9_plan 157 = .ok (.iload 4, 2) := by decide +kernel
theorem dX9_plan_159 : decode cX9_plan 159 = .ok (.iaload, 1) := by decide +kernel
theorem dX9_plan_160 : decode cX9_plan 160 = .ok (.ireturn, 1) := by decide +kernel
theorem dX9_feed_0 : decode cX9_feed 0 = .ok (.iload_n 2, 1) := by decide +kernel
theorem dX9_feed_1 : decode cX9_feed 1 = .ok (.iconst 1, 1) := by decide +kernel
theorem dX9_feed_2 : decode cX9_feed 2 = .ok (.iconst 4, 1) := by decide +kernel
theorem dX9_feed_3 : decode cX9_feed 3 = .ok (.invokestatic 55, 3) := by decide +kernel
theorem dX9_feed_6 : decode cX9_feed 6 = .ok (.ifCond .ne 10, 3) := by decide +kernel
theorem dX9_feed_9 : decode cX9_feed 9 = .ok (.aload_n 0, 1) := by decide +kernel
theorem dX9_feed_10 : decode cX9_feed 10 = .ok (.ldc 59, 2) := by decide +kernel
theorem dX9_feed_12 : decode cX9_feed 12 = .ok (.invokevirtual 60, 3) := by decide +kernel
theorem dX9_feed_15 : decode cX9_feed 15 = .ok (.ireturn, 1) := by decide +kernel
theorem dX9_feed_16 : decode cX9_feed 16 = .ok (.aload_n 0, 1) := by decide +kernel
theorem dX9_feed_17 : decode cX9_feed 17 = .ok (.getfield 44, 3) := by decide +kernel
theorem dX9_feed_20 : decode cX9_feed 20 = .ok (.getfield 262, 3) := by decide +kernel
theorem dX9_feed_23 : decode cX9_feed 23 = .ok (.astore_n 3, 1) := by decide +kernel
theorem dX9_feed_24 : decode cX9_feed 24 = .ok (.aload_n 3, 1) := by decide +kernel
theorem dX9_feed_25 : decode cX9_feed 25 = .ok (.iload_n 2, 1) := by decide +kernel
theorem dX9_feed_26 : decode cX9_feed 26 = .ok (.invokevirtual 266, 3) := by decide +kernel
theorem dX9_feed_29 : decode cX9_feed 29 = .ok (.ifCond .ne 10, 3) := by decide +kernel
theorem dX9_feed_32 : decode cX9_feed 32 = .ok (.aload_n 0, 1) := by decide +kernel
theorem dX9_feed_33 : decode cX9_feed 33 = .ok (.ldc 74, 2) := by decide +kernel
theorem dX9_feed_35 : decode cX9_feed 35 = .ok (.invokevirtual 60, 3) := by decide +kernel
theorem dX9_feed_38 : decode cX9_feed 38 = .ok (.ireturn, 1) := by decide +kernel
theorem dX9_feed_39 : decode cX9_feed 39 = .ok (.iload_n 2, 1) := by decide +kernel
theorem dX9_feed_40 : decode cX9_feed 40 = .ok (.iconst 1, 1) := by decide +kernel
theorem dX9_feed_41 : decode cX9_feed 41 = .ok (.isub, 1) := by decide +kernel
theorem dX9_feed_42 : decode cX9_feed 42 = .ok (.istore 4, 2) := by decide +kernel
theorem dX9_feed_44 : decode cX9_feed 44 = .ok (.iload 4, 2) := by decide +kernel
theorem dX9_feed_46 : decode cX9_feed 46 = .ok (.ifCond .lt 24, 3) := by decide +kernel
theorem dX9_feed_49 : decode cX9_feed 49 = .ok (.aload_n 3, 1) := by decide +kernel
theorem dX9_feed_50 : decode cX9_feed 50 = .ok (.iload_n 1, 1) := by decide +kernel
theorem dX9_feed_51 : decode cX9_feed 51 = .ok (.bipush 8, 2) := by decide +kernel
theorem dX9_feed_53 : decode cX9_feed 53 = .ok (.iload 4, 2) := by decide +kernel
theorem dX9_feed_55 : decode cX9_feed 55 = .ok (.imul, 1) := by decide +kernel
theorem dX9_feed_56 : decode cX9_feed 56 = .ok (.iushr, 1) := by decide +kernel
theorem dX9_feed_57 : decode cX9_feed 57 = .ok (.sipush 255, 3) := by decide +kernel
theorem dX9_feed_60 : decode cX9_feed 60 = .ok (.iand, 1) := by decide +kernel
theorem dX9_feed_61 : decode cX9_feed 61 = .ok (.invokevirtual 271, 3) := by decide +kernel
theorem dX9_feed_64 : decode cX9_feed 64 = .ok (.iinc 4 (-1), 3) := by decide +kernel
theorem dX9_feed_67 : decode cX9_feed 67 = .ok (.goto (-23), 3) := by decide +kernel
theorem dX9_feed_70 : decode cX9_feed 70 = .ok (.aload_n 3, 1) := by decide +kernel
theorem dX9_feed_71 : decode cX9_feed 71 = .ok (.getfield 272, 3) := by decide +kernel
theorem dX9_feed_74 : decode cX9_feed 74 = .ok (.ireturn, 1) := by decide +kernel
theorem dX9_wipe_0 : decode cX9_wipe 0 = .ok (.aload_n 0, 1) := by decide +kernel
theorem dX9_wipe_1 : decode cX9_wipe 1 = .ok (.getfield 44, 3) := by decide +kernel
theorem dX9_wipe_4 : decode cX9_wipe 4 = .ok (.getfield 262, 3) := by decide +kernel
theorem dX9_wipe_7 : decode cX9_wipe 7 = .ok (.invokevirtual 275, 3) := by decide +kernel
theorem dX9_wipe_10 : decode cX9_wipe 10 = .ok (.ireturn, 1) := by decide +kernel
theorem dX9_book_0 : decode cX9_book 0 = .ok (.aload_n 0, 1) := by decide +kernel
theorem dX9_book_1 : decode cX9_book 1 = .ok (.getfield 37, 3) := by decide +kernel
theorem dX9_book_4 : decode cX9_book 4 = .ok (.getfield 226, 3) := by decide +kernel
theorem dX9_book_7 : decode cX9_book 7 = .ok (.astore_n 1, 1) := by decide +kernel
theorem dX9_book_8 : decode cX9_book 8 = .ok (.aload_n 1, 1) := by decide +kernel
theorem dX9_book_9 : decode cX9_book 9 = .ok (.aload_n 0, 1) := by decide +kernel
theorem dX9_book_10 : decode cX9_book 10 = .ok (.getfield 16, 3) := by decide +kernel
theorem dX9_book_13 : decode cX9_book 13 = .ok (.invokevirtual 278, 3) := by decide +kernel
theorem dX9_book_16 : decode cX9_book 16 = .ok (.aload_n 0, 1) := by decide +kernel
theorem dX9_book_17 : decode cX9_book 17 = .ok (.getfield 44, 3) := by decide +kernel
theorem dX9_book_20 : decode cX9_book 20 = .ok (.aload_n 1, 1) := by decide +kernel
theorem dX9_book_21 : decode cX9_book 21 = .ok (.invokevirtual 281, 3) := by decide +kernel
theorem dX9_book_24 : decode cX9_book 24 = .ok (.istore_n 2, 1) := by decide +kernel
theorem dX9_book_25 : decode cX9_book 25 = .ok (.iload_n 2, 1) := by decide +kernel
theorem dX9_book_26 : decode cX9_book 26 = .ok (.ifCond .lt 11, 3) := by decide +kernel
theorem dX9_book_29 : decode cX9_book 29 = .ok (.aload_n 0, 1) := by decide +kernel
theorem dX9_book_30 : decode cX9_book 30 = .ok (.getfield 16, 3) := by decide +kernel
theorem dX9_book_33 : decode cX9_book 33 = .ok (.aload_n 1, 1) := by decide +kernel
theorem dX9_book_34 : decode cX9_book 34 = .ok (.invokevirtual 278, 3) := by decide +kernel
theorem dX9_book_37 : decode cX9_book 37 = .ok (.aload_n 0, 1) := by decide +kernel
theorem dX9_book_38 : decode cX9_book 38 = .ok (.getfield 44, 3) := by decide +kernel
theorem dX9_book_41 : decode cX9_book 41 = .ok (.getfield 262, 3) := by decide +kernel
theorem dX9_book_44 : decode cX9_book 44 = .ok (.invokevirtual 275, 3) := by decide +kernel
theorem dX9_book_47 : decode cX9_book 47 = .ok (.pop, 1) := by decide +kernel
theorem dX9_book_48 : decode cX9_book 48 = .ok (.iload_n 2, 1) := by decide +kernel
theorem dX9_book_49 : decode cX9_book 49 = .ok (.ireturn, 1) := by decide +kernel
theorem dX9_sheet_0 : decode cX9_sheet 0 = .ok (.aload_n 0, 1) := by decide +kernel
theorem dX9_sheet_1 : decode cX9_sheet 1 = .ok (.getfield 51, 3) := by decide +kernel
theorem dX9_sheet_4 : decode cX9_sheet 4 = .ok (.iload_n 1, 1) := by decide +kernel
theorem dX9_sheet_5 : decode cX9_sheet 5 = .ok (.invokevirtual 285, 3) := by decide +kernel
theorem dX9_sheet_8 : decode cX9_sheet 8 = .ok (.ifCond .eq 25, 3) := by decide +kernel
theorem dX9_sheet_11 : decode cX9_sheet 11 = .ok (.iload_n 2, 1) := by decide +kernel
theorem dX9_sheet_12 : decode cX9_sheet 12 = .ok (.ifCond .eq 28, 3) := by decide +kernel
theorem dX9_sheet_15 : decode cX9_sheet 15 = .ok (.iload_n 2, 1) := by decide +kernel
theorem dX9_sheet_16 : decode cX9_sheet 16 = .ok (.bipush 8, 2) := by decide +kernel
theorem dX9_sheet_18 : decode cX9_sheet 18 = .ok (.if_icmp .eq 22, 3) := by decide +kernel
theorem dX9_sheet_21 : decode cX9_sheet 21 = .ok (.iload_n 2, 1) := by decide +kernel
theorem dX9_sheet_22 : decode cX9_sheet 22 = .ok (.bipush 16, 2) := by decide +kernel
theorem dX9_sheet_24 : decode cX9_sheet 24 = .ok (.if_icmp .eq 16, 3) := by decide +kernel
theorem dX9_sheet_27 : decode cX9_sheet 27 = .ok (.iload_n 2, 1) := by decide +kernel
theorem dX9_sheet_28 : decode cX9_sheet 28 = .ok (.bipush 64, 2) := by decide +kernel
theorem dX9_sheet_30 : decode cX9_sheet 30 = .ok (.if_icmp .eq 10, 3) := by decide +kernel
theorem dX9_sheet_33 : decode cX9_sheet 33 = .ok (.aload_n 0, 1) := by decide +kernel
theorem dX9_sheet_34 : decode cX9_sheet 34 = .ok (.ldc 59, 2) := by decide +kernel
theorem dX9_sheet_36 : decode cX9_sheet 36 = .ok (.invokevirtual 60, 3) := by decide +kernel
theorem dX9_sheet_39 : decode cX9_sheet 39 = .ok (.ireturn, 1) := by decide +kernel
theorem dX9_sheet_40 : decode cX9_sheet 40 = .ok (.iload_n 3, 1) := by decide +kernel
theorem dX9_sheet_41 : decode cX9_sheet 41 = .ok (.ifCond .ge 10, 3) := by decide +kernel
theorem dX9_sheet_44 : decode cX9_sheet 44 = .ok (.aload_n 0, 1) := by decide +kernel
theorem dX9_sheet_45 : decode cX9_sheet 45 = .ok (.ldc 249, 2) := by decide +kernel
theorem dX9_sheet_47 : decode cX9_sheet 47 = .ok (.invokevirtual 60, 3) := by decide +kernel
theorem dX9_sheet_50 : decode cX9_sheet 50 = .ok (.ireturn, 1) := by decide +kernel
theorem dX9_sheet_51 : decode cX9_sheet 51 = .ok (.iload_n 3, 1) := by decide +kernel
theorem dX9_sheet_52 : decode cX9_sheet 52 = .ok (.bipush 40, 2) := by decide +kernel
theorem dX9_sheet_54 : decode cX9_sheet 54 = .ok (.if_icmp .le 10, 3) := by decide +kernel
theorem dX9_sheet_57 : decode cX9_sheet 57 = .ok (.aload_n 0, 1) := by decide +kernel
theorem dX9_sheet_58 : decode cX9_sheet 58 = .ok (.ldc 59, 2) := by decide +kernel
theorem dX9_sheet_60 : decode cX9_sheet 60 = .ok (.invokevirtual 60, 3) := by decide +kernel
theorem dX9_sheet_63 : decode cX9_sheet 63 = .ok (.ireturn, 1) := by decide +kernel
theorem dX9_sheet_64 : decode cX9_sheet 64 = .ok (.aload_n 0, 1) := by decide +kernel
theorem dX9_sheet_65 : decode cX9_sheet 65 = .ok (.getfield 51, 3) := by decide +kernel
theorem dX9_sheet_68 : decode cX9_sheet 68 = .ok (.iload_n 1, 1) := by decide +kernel
theorem dX9_sheet_69 : decode cX9_sheet 69 = .ok (.iload_n 2, 1) := by decide +kernel
theorem dX9_sheet_70 : decode cX9_sheet 70 = .ok (.iload_n 3, 1) := by decide +kernel
theorem dX9_sheet_71 : decode cX9_sheet 71 = .ok (.invokevirtual 288, 3) := by decide +kernel
theorem dX9_sheet_74 : decode cX9_sheet 74 = .ok (.ireturn, 1) := by decide +kernel
theorem dX9_write_0 : decode cX9_write 0 = .ok (.aload_n 0, 1) := by decide +kernel
theorem dX9_write_1 : decode cX9_write 1 = .ok (.getfield 51, 3) := by decide +kernel
theorem dX9_write_4 : decode cX9_write 4 = .ok (.iload_n 1, 1) := by decide +kernel
theorem dX9_write_5 : decode cX9_write 5 = .ok (.invokevirtual 285, 3) := by decide +kernel
theorem dX9_write_8 : decode cX9_write 8 = .ok (.ifCond .ne 11, 3) := by decide +kernel
theorem dX9_write_11 : decode cX9_write 11 = .ok (.aload_n 0, 1) := by decide +kernel
theorem dX9_write_12 : decode cX9_write 12 = .ok (.ldc 59, 2) := by decide +kernel
theorem dX9_write_14 : decode cX9_write 14 = .ok (.invokevirtual 60, 3) := by decide +kernel
theorem dX9_write_17 : decode cX9_write 17 = .ok (.i2l, 1) := by decide +kernel
theorem dX9_write_18 : decode cX9_write 18 = .ok (.lreturn, 1) := by decide +kernel
theorem dX9_write_19 : decode cX9_write 19 = .ok (.aload_n 0, 1) := by decide +kernel
theorem dX9_write_20 : decode cX9_write 20 = .ok (.getfield 51, 3) := by decide +kernel
theorem dX9_write_23 : decode cX9_write 23 = .ok (.iload_n 1, 1) := by decide +kernel
theorem dX9_write_24 : decode cX9_write 24 = .ok (.invokevirtual 291, 3) := by decide +kernel
theorem dX9_write_27 : decode cX9_write 27 = .ok (.ifCond .eq 12, 3) := by decide +kernel
theorem dX9_write_30 : decode cX9_write 30 = .ok (.aload_n 0, 1) := by decide +kernel
theorem dX9_write_31 : decode cX9_write 31 = .ok (.ldc_w 294, 3) := by decide +kernel
theorem dX9_write_34 : decode cX9_write 34 = .ok (.invokevirtual 60, 3) := by decide +kernel
theorem dX9_write_37 : decode cX9_write 37 = .ok (.i2l, 1) := by decide +kernel
theorem dX9_write_38 : decode cX9_write 38 = .ok (.lreturn, 1) := by decide +kernel
theorem dX9_write_39 : decode cX9_write 39 = .ok (.aload_n 0, 1) := by decide +kernel
theorem dX9_write_40 : decode cX9_write 40 = .ok (.getfield 51, 3) := by decide +kernel
theorem dX9_write_43 : decode cX9_write 43 = .ok (.iload_n 1, 1) := by decide +kernel
theorem dX9_write_44 : decode cX9_write 44 = .ok (.iload_n 2, 1) := by decide +kernel
theorem dX9_write_45 : decode cX9_write 45 = .ok (.iconst 1, 1) := by decide +kernel
theorem dX9_write_46 : decode cX9_write 46 = .ok (.invokevirtual 295, 3) := by decide +kernel
theorem dX9_write_49 : decode cX9_write 49 = .ok (.ifCond .ne 11, 3) := by decide +kernel
theorem dX9_write_52 : decode cX9_write 52 = .ok (.aload_n 0, 1) := by decide +kernel
theorem dX9_write_53 : decode cX9_write 53 = .ok (.ldc 59, 2) := by decide +kernel
theorem dX9_write_55 : decode cX9_write 55 = .ok (.invokevirtual 60, 3) := by decide +kernel
theorem dX9_write_58 : decode cX9_write 58 = .ok (.i2l, 1) := by decide +kernel
theorem dX9_write_59 : decode cX9_write 59 = .ok (.lreturn, 1) := by decide +kernel
theorem dX9_write_60 : decode cX9_write 60 = .ok (.aload_n 0, 1) := by decide +kernel
theorem dX9_write_61 : decode cX9_write 61 = .ok (.getfield 51, 3) := by decide +kernel
theorem dX9_write_64 : decode cX9_write 64 = .ok (.iload_n 1, 1) := by decide +kernel
theorem dX9_write_65 : decode cX9_write 65 = .ok (.iload_n 2, 1) := by decide +kernel
theorem dX9_write_66 : decode cX9_write 66 = .ok (.lload_n 3, 1) := by decide +kernel
theorem dX9_write_67 : decode cX9_write 67 = .ok (.invokevirtual 298, 3) := by decide +kernel
theorem dX9_write_70 : decode cX9_write 70 = .ok (.lreturn, 1) := by decide +kernel
theorem dX9_copy_0 : decode cX9_copy 0 = .ok (.aload_n 0, 1) := by decide +kernel
theorem dX9_copy_1 : decode cX9_copy 1 = .ok (.getfield 51, 3) := by decide +kernel
theorem dX9_copy_4 : decode cX9_copy 4 = .ok (.iload_n 1, 1) := by decide +kernel
theorem dX9_copy_5 : decode cX9_copy 5 = .ok (.invokevirtual 285, 3) := by decide +kernel
theorem dX9_copy_8 : decode cX9_copy 8 = .ok (.ifCond .eq 14, 3) := by decide +kernel
theorem dX9_copy_11 : decode cX9_copy 11 = .ok (.aload_n 0, 1) := by decide +kernel
theorem dX9_copy_12 : decode cX9_copy 12 = .ok (.getfield 51, 3) := by decide +kernel
theorem dX9_copy_15 : decode cX9_copy 15 = .ok (.iload_n 3, 1) := by decide +kernel
theorem dX9_copy_16 : decode cX9_copy 16 = .ok (.invokevirtual 285, 3) := by decide +kernel
theorem dX9_copy_19 : decode cX9_copy 19 = .ok (.ifCond .ne 10, 3) := by decide +kernel
theorem dX9_copy_22 : decode cX9_copy 22 = .ok (.aload_n 0, 1) := by decide +kernel
theorem dX9_copy_23 : decode cX9_copy 23 = .ok (.ldc 59, 2) := by decide +kernel
theorem dX9_copy_25 : decode cX9_copy 25 = .ok (.invokevirtual 60, 3) := by decide +kernel
theorem dX9_copy_28 : decode cX9_copy 28 = .ok (.ireturn, 1) := by decide +kernel
theorem dX9_copy_29 : decode cX9_copy 29 = .ok (.aload_n 0, 1) := by decide +kernel
theorem dX9_copy_30 : decode cX9_copy 30 = .ok (.getfield 51, 3) := by decide +kernel
theorem dX9_copy_33 : decode cX9_copy 33 = .ok (.iload_n 1, 1) := by decide +kernel
theorem dX9_copy_34 : decode cX9_copy 34 = .ok (.invokevirtual 291, 3) := by decide +kernel
theorem dX9_copy_37 : decode cX9_copy 37 = .ok (.ifCond .ne 14, 3) := by decide +kernel
theorem dX9_copy_40 : decode cX9_copy 40 = .ok (.aload_n 0, 1) := by decide +kernel
theorem dX9_copy_41 : decode cX9_copy 41 = .ok (.getfield 51, 3) := by decide +kernel
theorem dX9_copy_44 : decode cX9_copy 44 = .ok (.iload_n 3, 1) := by decide +kernel
theorem dX9_copy_45 : decode cX9_copy 45 = .ok (.invokevirtual 291, 3) := by decide +kernel
theorem dX9_copy_48 : decode cX9_copy 48 = .ok (.ifCond .eq 11, 3) := by decide +kernel
theorem dX9_copy_51 : decode cX9_copy 51 = .ok (.aload_n 0, 1) := by decide +kernel
theorem dX9_copy_52 : decode cX9_copy 52 = .ok (.ldc_w 294, 3) := by decide +kernel
theorem dX9_copy_55 : decode cX9_copy 55 = .ok (.invokevirtual 60, 3) := by decide +kernel
theorem dX9_copy_58 : decode cX9_copy 58 = .ok (.ireturn, 1) := by decide +kernel
theorem dX9_copy_59 : decode cX9_copy 59 = .ok (.aload_n 0, 1) := by decide +kernel
theorem dX9_copy_60 : decode cX9_copy 60 = .ok (.getfield 51, 3) := by decide +kernel
theorem dX9_copy_63 : decode cX9_copy 63 = .ok (.getfield 302, 3) := by decide +kernel
theorem dX9_copy_66 : decode cX9_copy 66 = .ok (.iload_n 1, 1) := by decide +kernel
theorem dX9_copy_67 : decode cX9_copy 67 = .ok (.iaload, 1) := by decide +kernel
theorem dX9_copy_68 : decode cX9_copy 68 = .ok (.aload_n 0, 1) := by decide +kernel
theorem dX9_copy_69 : decode cX9_copy 69 = .ok (.getfield 51, 3) := by decide +kernel
theorem dX9_copy_72 : decode cX9_copy 72 = .ok (.getfield 302, 3) := by decide +kernel
theorem dX9_copy_75 : decode cX9_copy 75 = .ok (.iload_n 3, 1) := by decide +kernel
theorem dX9_copy_76 : decode cX9_copy 76 = .ok (.iaload, 1) := by decide +kernel
theorem dX9_copy_77 : decode cX9_copy 77 = .ok (.if_icmp .eq 10, 3) := by decide +kernel
theorem dX9_copy_80 : decode cX9_copy 80 = .ok (.aload_n 0, 1) := by decide +kernel
theorem dX9_copy_81 : decode cX9_copy 81 = .ok (.ldc 107, 2) := by decide +kernel
theorem dX9_copy_83 : decode cX9_copy 83 = .ok (.invokevirtual 60, 3) := by decide +kernel
theorem dX9_copy_86 : decode cX9_copy 86 = .ok (.ireturn, 1) := by decide +kernel
theorem dX9_copy_87 : decode cX9_copy 87 = .ok (.aload_n 0, 1) := by decide +kernel
theorem dX9_copy_88 : decode cX9_copy 88 = .ok (.getfield 51, 3) := by decide +kernel
theorem dX9_copy_91 : decode cX9_copy 91 = .ok (.iload_n 1, 1) := by decide +kernel
theorem dX9_copy_92 : decode cX9_copy 92 = .ok (.iload_n 2, 1) := by decide +kernel
theorem dX9_copy_93 : decode cX9_copy 93 = .ok (.iload 5, 2) := by decide +kernel
theorem dX9_copy_95 : decode cX9_copy 95 = .ok (.invokevirtual 295, 3) := by decide +kernel
theorem dX9_copy_98 : decode cX9_copy 98 = .ok (.ifCond .eq 18, 3) := by decide +kernel
theorem dX9_copy_101 : decode cX9_copy 101 = .ok (.aload_n 0, 1) := by decide +kernel
theorem dX9_copy_102 : decode cX9_copy 102 = .ok (.getfield 51, 3) := by decide +kernel
theorem dX9_copy_105 : decode cX9_copy 105 = .ok (.iload_n 3, 1) := by decide +kernel
theorem dX9_copy_106 : decode cX9_copy 106 = .ok (.iload 4, 2) := by decide +kernel
theorem dX9_copy_108 : decode cX9_copy 108 = .ok (.iload 5, 2) := by decide +kernel
theorem dX9_copy_110 : decode cX9_copy 110 = .ok (.invokevirtual 295, 3) := by decide +kernel
theorem dX9_copy_113 : decode cX9_copy 113 = .ok (.ifCond .ne 10, 3) := by decide +kernel
theorem dX9_copy_116 : decode cX9_copy 116 = .ok (.aload_n 0, 1) := by decide +kernel
theorem dX9_copy_117 : decode cX9_copy 117 = .ok (.ldc 59, 2) := by decide +kernel
theorem dX9_copy_119 : decode cX9_copy 119 = .ok (.invokevirtual 60, 3) := by decide +kernel
theorem dX9_copy_122 : decode cX9_copy 122 = .ok (.ireturn, 1) := by decide +kernel
theorem dX9_copy_123 : decode cX9_copy 123 = .ok (.aload_n 0, 1) := by decide +kernel
theorem dX9_copy_124 : decode cX9_copy 124 = .ok (.getfield 51, 3) := by decide +kernel
theorem dX9_copy_127 : decode cX9_copy 127 = .ok (.iload_n 1, 1) := by decide +kernel
theorem dX9_copy_128 : decode cX9_copy 128 = .ok (.iload_n 2, 1) := by decide +kernel
theorem dX9_copy_129 : decode cX9_copy 129 = .ok (.iload_n 3, 1) := by decide +kernel
theorem dX9_copy_130 : decode cX9_copy 130 = .ok (.iload 4, 2) := by decide +kernel
theorem dX9_copy_132 : decode cX9_copy 132 = .ok (.iload 5, 2) := by decide +kernel
theorem dX9_copy_134 : decode cX9_copy 134 = .ok (.invokevirtual 305, 3) := by decide +kernel
theorem dX9_copy_137 : decode cX9_copy 137 = .ok (.iload 5, 2) := by decide +kernel
theorem dX9_copy_139 : decode cX9_copy 139 = .ok (.ireturn, 1) := by decide +kernel
theorem dX9_lays_0 : decode cX9_lays 0 = .ok (.aload_n 0, 1) := by decide +kernel
theorem dX9_lays_1 : decode cX9_lays 1 = .ok (.getfield 51, 3) := by decide +kernel
theorem dX9_lays_4 : decode cX9_lays 4 = .ok (.iload_n 1, 1) := by decide +kernel
theorem dX9_lays_5 : decode cX9_lays 5 = .ok (.invokevirtual 285, 3) := by decide +kernel
theorem dX9_lays_8 : decode cX9_lays 8 = .ok (.ifCond .ne 10, 3) := by decide +kernel
theorem dX9_lays_11 : decode cX9_lays 11 = .ok (.aload_n 0, 1) := by decide +kernel
theorem dX9_lays_12 : decode cX9_lays 12 = .ok (.ldc 59, 2) := by decide +kernel
theorem dX9_lays_14 : decode cX9_lays 14 = .ok (.invokevirtual 60, 3) := by decide +kernel
theorem dX9_lays_17 : decode cX9_lays 17 = .ok (.ireturn, 1) := by decide +kernel
theorem dX9_lays_18 : decode cX9_lays 18 = .ok (.aload_n 0, 1) := by decide +kernel
theorem dX9_lays_19 : decode cX9_lays 19 = .ok (.getfield 51, 3) := by decide +kernel
theorem dX9_lays_22 : decode cX9_lays 22 = .ok (.iload_n 1, 1) := by decide +kernel
theorem dX9_lays_23 : decode cX9_lays 23 = .ok (.invokevirtual 291, 3) := by decide +kernel
theorem dX9_lays_26 : decode cX9_lays 26 = .ok (.ifCond .eq 11, 3) := by decide +kernel
theorem dX9_lays_29 : decode cX9_lays 29 = .ok (.aload_n 0, 1) := by decide +kernel
theorem dX9_lays_30 : decode cX9_lays 30 = .ok (.ldc_w 294, 3) := by decide +kernel
theorem dX9_lays_33 : decode cX9_lays 33 = .ok (.invokevirtual 60, 3) := by decide +kernel
theorem dX9_lays_36 : decode cX9_lays 36 = .ok (.ireturn, 1) := by decide +kernel
theorem dX9_lays_37 : decode cX9_lays 37 = .ok (.iconst 0, 1) := by decide +kernel
theorem dX9_lays_38 : decode cX9_lays 38 = .ok (.istore_n 2, 1) := by decide +kernel
theorem dX9_lays_39 : decode cX9_lays 39 = .ok (.aload_n 0, 1) := by decide +kernel
theorem dX9_lays_40 : decode cX9_lays 40 = .ok (.getfield 51, 3) := by decide +kernel
theorem dX9_lays_43 : decode cX9_lays 43 = .ok (.getfield 309, 3) := by decide +kernel
theorem dX9_lays_46 : decode cX9_lays 46 = .ok (.iload_n 1, 1) := by decide +kernel
theorem dX9_lays_47 : decode cX9_lays 47 = .ok (.iaload, 1) := by decide +kernel
theorem dX9_lays_48 : decode cX9_lays 48 = .ok (.aload_n 0, 1) := by decide +kernel
theorem dX9_lays_49 : decode cX9_lays 49 = .ok (.getfield 16, 3) := by decide +kernel
theorem dX9_lays_52 : decode cX9_lays 52 = .ok (.getfield 64, 3) := by decide +kernel
theorem dX9_lays_55 : decode cX9_lays 55 = .ok (.getfield 229, 3) := by decide +kernel
theorem dX9_lays_58 : decode cX9_lays 58 = .ok (.invokestatic 311, 3) := by decide +kernel
theorem dX9_lays_61 : decode cX9_lays 61 = .ok (.istore_n 3, 1) := by decide +kernel
theorem dX9_lays_62 : decode cX9_lays 62 = .ok (.iconst 0, 1) := by decide +kernel
theorem dX9_lays_63 : decode cX9_lays 63 = .ok (.istore 4, 2) := by decide +kernel
theorem dX9_lays_65 : decode cX9_lays 65 = .ok (.iload 4, 2) := by decide +kernel
theorem dX9_lays_67 : decode cX9_lays 67 = .ok (.iload_n 3, 1) := by decide +kernel
theorem dX9_lays_68 : decode cX9_lays 68 = .ok (.if_icmp .ge 56, 3) := by decide +kernel
theorem dX9_lays_71 : decode cX9_lays 71 = .ok (.aload_n 0, 1) := by decide +kernel
theorem dX9_lays_72 : decode cX9_lays 72 = .ok (.getfield 51, 3) := by decide +kernel
theorem dX9_lays_75 : decode cX9_lays 75 = .ok (.iload_n 1, 1) := by decide +kernel
theorem dX9_lays_76 : decode cX9_lays 76 = .ok (.iload 4, 2) := by decide +kernel
theorem dX9_lays_78 : decode cX9_lays 78 = .ok (.invokevirtual 317, 3) := by decide +kernel
theorem dX9_lays_81 : decode cX9_lays 81 = .ok (.lstore 5, 2) := by decide +kernel
theorem dX9_lays_83 : decode cX9_lays 83 = .ok (.lload 5, 2) := by decide +kernel
theorem dX9_lays_85 : decode cX9_lays 85 = .ok (.lconst 0, 1) := by decide +kernel
theorem dX9_lays_86 : decode cX9_lays 86 = .ok (.lcmp, 1) := by decide +kernel
theorem dX9_lays_87 : decode cX9_lays 87 = .ok (.ifCond .lt 31, 3) := by decide +kernel
theorem dX9_lays_90 : decode cX9_lays 90 = .ok (.lload 5, 2) := by decide +kernel
theorem dX9_lays_92 : decode cX9_lays 92 = .ok (.ldc2_w 321, 3) := by decide +kernel
theorem dX9_lays_95 : decode cX9_lays 95 = .ok (.lcmp, 1) := by decide +kernel
theorem dX9_lays_96 : decode cX9_lays 96 = .ok (.ifCond .gt 22, 3) := by decide +kernel
theorem dX9_lays_99 : decode cX9_lays 99 = .ok (.aload_n 0, 1) := by decide +kernel
theorem dX9_lays_100 : decode cX9_lays 100 = .ok (.getfield 16, 3) := by decide +kernel
theorem dX9_lays_103 : decode cX9_lays 103 = .ok (.getfield 64, 3) := by decide +kernel
theorem dX9_lays_106 : decode cX9_lays 106 = .ok (.getfield 108, 3) := by decide +kernel
theorem dX9_lays_109 : decode cX9_lays 109 = .ok (.iload 4, 2) := by decide +kernel
theorem dX9_lays_111 : decode cX9_lays 111 = .ok (.lload 5, 2) := by decide +kernel
theorem dX9_lays_113 : decode cX9_lays 113 = .ok (.l2i, 1) := by decide +kernel
theorem dX9_lays_114 : decode cX9_lays 114 = .ok (.iastore, 1) := by decide +kernel
theorem dX9_lays_115 : decode cX9_lays 115 = .ok (.iinc 2 1, 3) := by decide +kernel
theorem dX9_lays_118 : decode cX9_lays 118 = .ok (.iinc 4 1, 3) := by decide +kernel
theorem dX9_lays_121 : decode cX9_lays 121 = .ok (.goto (-56), 3) := by decide +kernel
theorem dX9_lays_124 : decode cX9_lays 124 = .ok (.iload_n 2, 1) := by decide +kernel
theorem dX9_lays_125 : decode cX9_lays 125 = .ok (.ireturn, 1) := by decide +kernel
theorem dX9_read_0 : decode cX9_read 0 = .ok (.aload_n 0, 1) := by decide +kernel
theorem dX9_read_1 : decode cX9_read 1 = .ok (.getfield 51, 3) := by decide +kernel
theorem dX9_read_4 : decode cX9_read 4 = .ok (.iload_n 1, 1) := by decide +kernel
theorem dX9_read_5 : decode cX9_read 5 = .ok (.invokevirtual 285, 3) := by decide +kernel
theorem dX9_read_8 : decode cX9_read 8 = .ok (.ifCond .ne 10, 3) := by decide +kernel
theorem dX9_read_11 : decode cX9_read 11 = .ok (.aload_n 0, 1) := by decide +kernel
theorem dX9_read_12 : decode cX9_read 12 = .ok (.ldc 59, 2) := by decide +kernel
theorem dX9_read_14 : decode cX9_read 14 = .ok (.invokevirtual 60, 3) := by decide +kernel
theorem dX9_read_17 : decode cX9_read 17 = .ok (.ireturn, 1) := by decide +kernel
theorem dX9_read_18 : decode cX9_read 18 = .ok (.aload_n 0, 1) := by decide +kernel
theorem dX9_read_19 : decode cX9_read 19 = .ok (.getfield 51, 3) := by decide +kernel
theorem dX9_read_22 : decode cX9_read 22 = .ok (.iload_n 1, 1) := by decide +kernel
theorem dX9_read_23 : decode cX9_read 23 = .ok (.invokevirtual 291, 3) := by decide +kernel
theorem dX9_read_26 : decode cX9_read 26 = .ok (.ifCond .eq 11, 3) := by decide +kernel
theorem dX9_read_29 : decode cX9_read 29 = .ok (.aload_n 0, 1) := by decide +kernel
theorem dX9_read_30 : decode cX9_read 30 = .ok (.ldc_w 294, 3) := by decide +kernel
theorem dX9_read_33 : decode cX9_read 33 = .ok (.invokevirtual 60, 3) := by decide +kernel
theorem dX9_read_36 : decode cX9_read 36 = .ok (.ireturn, 1) := by decide +kernel
theorem dX9_read_37 : decode cX9_read 37 = .ok (.aload_n 0, 1) := by decide +kernel
theorem dX9_read_38 : decode cX9_read 38 = .ok (.bipush 40, 2) := by decide +kernel
theorem dX9_read_40 : decode cX9_read 40 = .ok (.invokevirtual 206, 3) := by decide +kernel
theorem dX9_read_43 : decode cX9_read 43 = .ok (.ifCond .ne 10, 3) := by decide +kernel
theorem dX9_read_46 : decode cX9_read 46 = .ok (.aload_n 0, 1) := by decide +kernel
theorem dX9_read_47 : decode cX9_read 47 = .ok (.ldc 209, 2) := by decide +kernel
theorem dX9_read_49 : decode cX9_read 49 = .ok (.invokevirtual 60, 3) := by decide +kernel
theorem dX9_read_52 : decode cX9_read 52 = .ok (.ireturn, 1) := by decide +kernel
theorem dX9_read_53 : decode cX9_read 53 = .ok (.aload_n 0, 1) := by decide +kernel
theorem dX9_read_54 : decode cX9_read 54 = .ok (.getfield 37, 3) := by decide +kernel
theorem dX9_read_57 : decode cX9_read 57 = .ok (.aload_n 0, 1) := by decide +kernel
theorem dX9_read_58 : decode cX9_read 58 = .ok (.getfield 16, 3) := by decide +kernel
theorem dX9_read_61 : decode cX9_read 61 = .ok (.aload_n 0, 1) := by decide +kernel
theorem dX9_read_62 : decode cX9_read 62 = .ok (.getfield 51, 3) := by decide +kernel
theorem dX9_read_65 : decode cX9_read 65 = .ok (.iload_n 1, 1) := by decide +kernel
theorem dX9_read_66 : decode cX9_read 66 = .ok (.invokevirtual 323, 3) := by decide +kernel
theorem dX9_read_69 : decode cX9_read 69 = .ok (.ireturn, 1) := by decide +kernel
theorem dX9_image_0 : decode cX9_image 0 = .ok (.aload_n 0, 1) := by decide +kernel
theorem dX9_image_1 : decode cX9_image 1 = .ok (.getfield 20, 3) := by decide +kernel
theorem dX9_image_4 : decode cX9_image 4 = .ok (.aload_n 0, 1) := by decide +kernel
theorem dX9_image_5 : decode cX9_image 5 = .ok (.getfield 16, 3) := by decide +kernel
theorem dX9_image_8 : decode cX9_image 8 = .ok (.invokevirtual 278, 3) := by decide +kernel
theorem dX9_image_11 : decode cX9_image 11 = .ok (.aload_n 0, 1) := by decide +kernel
theorem dX9_image_12 : decode cX9_image 12 = .ok (.iconst 1, 1) := by decide +kernel
theorem dX9_image_13 : decode cX9_image 13 = .ok (.putfield 23, 3) := by decide +kernel
theorem dX9_image_16 : decode cX9_image 16 = .ok (.iconst 1, 1) := by decide +kernel
theorem dX9_image_17 : decode cX9_image 17 = .ok (.ireturn, 1) := by decide +kernel
theorem dX9_undo_0 : decode cX9_undo 0 = .ok (.aload_n 0, 1) := by decide +kernel
theorem dX9_undo_1 : decode cX9_undo 1 = .ok (.getfield 23, 3) := by decide +kernel
theorem dX9_undo_4 : decode cX9_undo 4 = .ok (.ifCond .ne 10, 3) := by decide +kernel
theorem dX9_undo_7 : decode cX9_undo 7 = .ok (.aload_n 0, 1) := by decide +kernel
theorem dX9_undo_8 : decode cX9_undo 8 = .ok (.ldc 250, 2) := by decide +kernel
theorem dX9_undo_10 : decode cX9_undo 10 = .ok (.invokevirtual 60, 3) := by decide +kernel
theorem dX9_undo_13 : decode cX9_undo 13 = .ok (.ireturn, 1) := by decide +kernel
theorem dX9_undo_14 : decode cX9_undo 14 = .ok (.aload_n 0, 1) := by decide +kernel
theorem dX9_undo_15 : decode cX9_undo 15 = .ok (.getfield 16, 3) := by decide +kernel
theorem dX9_undo_18 : decode cX9_undo 18 = .ok (.aload_n 0, 1) := by decide +kernel
theorem dX9_undo_19 : decode cX9_undo 19 = .ok (.getfield 20, 3) := by decide +kernel
theorem dX9_undo_22 : decode cX9_undo 22 = .ok (.invokevirtual 278, 3) := by decide +kernel
theorem dX9_undo_25 : decode cX9_undo 25 = .ok (.aload_n 0, 1) := by decide +kernel
theorem dX9_undo_26 : decode cX9_undo 26 = .ok (.getfield 16, 3) := by decide +kernel
theorem dX9_undo_29 : decode cX9_undo 29 = .ok (.getfield 64, 3) := by decide +kernel
theorem dX9_undo_32 : decode cX9_undo 32 = .ok (.getfield 229, 3) := by decide +kernel
theorem dX9_undo_35 : decode cX9_undo 35 = .ok (.ireturn, 1) := by decide +kernel
theorem dX9_tear_0 : decode cX9_tear 0 = .ok (.aload_n 0, 1) := by decide +kernel
theorem dX9_tear_1 : decode cX9_tear 1 = .ok (.getfield 23, 3) := by decide +kernel
theorem dX9_tear_4 : decode cX9_tear 4 = .ok (.ifCond .eq 7, 3) := by decide +kernel
theorem dX9_tear_7 : decode cX9_tear 7 = .ok (.iconst 1, 1) := by decide +kernel
theorem dX9_tear_8 : decode cX9_tear 8 = .ok (.goto 4, 3) := by decide +kernel
theorem dX9_tear_11 : decode cX9_tear 11 = .ok (.iconst 0, 1) := by decide +kernel
theorem dX9_tear_12 : decode cX9_tear 12 = .ok (.istore_n 1, 1) := by decide +kernel
theorem dX9_tear_13 : decode cX9_tear 13 = .ok (.aload_n 0, 1) := by decide +kernel
theorem dX9_tear_14 : decode cX9_tear 14 = .ok (.iconst 0, 1) := by decide +kernel
theorem dX9_tear_15 : decode cX9_tear 15 = .ok (.putfield 23, 3) := by decide +kernel
theorem dX9_tear_18 : decode cX9_tear 18 = .ok (.iload_n 1, 1) := by decide +kernel
theorem dX9_tear_19 : decode cX9_tear 19 = .ok (.ireturn, 1) := by decide +kernel
theorem dX9_count_0 : decode cX9_count 0 = .ok (.iload_n 1, 1) := by decide +kernel
theorem dX9_count_1 : decode cX9_count 1 = .ok (.tableswitch 131 0 5 #[39, 50, 61, 72, 83, 107], 39) := by decide +kernel
theorem dX9_count_40 : decode cX9_count 40 = .ok (.aload_n 0, 1) := by decide +kernel
theorem dX9_count_41 : decode cX9_count 41 = .ok (.getfield 16, 3) := by decide +kernel
theorem dX9_count_44 : decode cX9_count 44 = .ok (.getfield 64, 3) := by decide +kernel
theorem dX9_count_47 : decode cX9_count 47 = .ok (.getfield 229, 3) := by decide +kernel
theorem dX9_count_50 : decode cX9_count 50 = .ok (.ireturn, 1) := by decide +kernel
theorem dX9_count_51 : decode cX9_count 51 = .ok (.aload_n 0, 1) := by decide +kernel
theorem dX9_count_52 : decode cX9_count 52 = .ok (.getfield 16, 3) := by decide +kernel
theorem dX9_count_55 : decode cX9_count 55 = .ok (.getfield 111, 3) := by decide +kernel
theorem dX9_count_58 : decode cX9_count 58 = .ok (.getfield 327, 3) := by decide +kernel
theorem dX9_count_61 : decode cX9_count 61 = .ok (.ireturn, 1) := by decide +kernel
theorem dX9_count_62 : decode cX9_count 62 = .ok (.aload_n 0, 1) := by decide +kernel
theorem dX9_count_63 : decode cX9_count 63 = .ok (.getfield 16, 3) := by decide +kernel
theorem dX9_count_66 : decode cX9_count 66 = .ok (.getfield 173, 3) := by decide +kernel
theorem dX9_count_69 : decode cX9_count 69 = .ok (.getfield 186, 3) := by decide +kernel
theorem dX9_count_72 : decode cX9_count 72 = .ok (.ireturn, 1) := by decide +kernel
theorem dX9_count_73 : decode cX9_count 73 = .ok (.aload_n 0, 1) := by decide +kernel
theorem dX9_count_74 : decode cX9_count 74 = .ok (.getfield 44, 3) := by decide +kernel
theorem dX9_count_77 : decode cX9_count 77 = .ok (.getfield 262, 3) := by decide +kernel
theorem dX9_count_80 : decode cX9_count 80 = .ok (.getfield 272, 3) := by decide +kernel
theorem dX9_count_83 : decode cX9_count 83 = .ok (.ireturn, 1) := by decide +kernel
theorem dX9_count_84 : decode cX9_count 84 = .ok (.aload_n 0, 1) := by decide +kernel
theorem dX9_count_85 : decode cX9_count 85 = .ok (.getfield 16, 3) := by decide +kernel
theorem dX9_count_88 : decode cX9_count 88 = .ok (.getfield 64, 3) := by decide +kernel
theorem dX9_count_91 : decode cX9_count 91 = .ok (.getfield 108, 3) := by decide +kernel
theorem dX9_count_94 : decode cX9_count 94 = .ok (.aload_n 0, 1) := by decide +kernel
theorem dX9_count_95 : decode cX9_count 95 = .ok (.getfield 16, 3) := by decide +kernel
theorem dX9_count_98 : decode cX9_count 98 = .ok (.getfield 64, 3) := by decide +kernel
theorem dX9_count_101 : decode cX9_count 101 = .ok (.getfield 229, 3) := by decide +kernel
theorem dX9_count_104 : decode cX9_count 104 = .ok (.invokestatic 230, 3) := by decide +kernel
theorem dX9_count_107 : decode cX9_count 107 = .ok (.ireturn, 1) := by decide +kernel
theorem dX9_count_108 : decode cX9_count 108 = .ok (.aload_n 0, 1) := by decide +kernel
theorem dX9_count_109 : decode cX9_count 109 = .ok (.getfield 16, 3) := by decide +kernel
theorem dX9_count_112 : decode cX9_count 112 = .ok (.getfield 64, 3) := by decide +kernel
theorem dX9_count_115 : decode cX9_count 115 = .ok (.getfield 328, 3) := by decide +kernel
theorem dX9_count_118 : decode cX9_count 118 = .ok (.aload_n 0, 1) := by decide +kernel
theorem dX9_count_119 : decode cX9_count 119 = .ok (.getfield 16, 3) := by decide +kernel
theorem dX9_count_122 : decode cX9_count 122 = .ok (.getfield 64, 3) := by decide +kernel
theorem dX9_count_125 : decode cX9_count 125 = .ok (.getfield 229, 3) := by decide +kernel
theorem dX9_count_128 : decode cX9_count 128 = .ok (.invokestatic 230, 3) := by decide +kernel
theorem dX9_count_131 : decode cX9_count 131 = .ok (.ireturn, 1) := by decide +kernel
theorem dX9_count_132 : decode cX9_count 132 = .ok (.aload_n 0, 1) := by decide +kernel
theorem dX9_count_133 : decode cX9_count 133 = .ok (.ldc 59, 2) := by decide +kernel
theorem dX9_count_135 : decode cX9_count 135 = .ok (.invokevirtual 60, 3) := by decide +kernel
theorem dX9_count_138 : decode cX9_count 138 = .ok (.ireturn, 1) := by decide +kernel
theorem dX9_status_0 : decode cX9_status 0 = .ok (.iload_n 1, 1) := by decide +kernel
theorem dX9_status_1 : decode cX9_status 1 = .ok (.iconst (-1), 1) := by decide +kernel
theorem dX9_status_2 : decode cX9_status 2 = .ok (.if_icmp .ne 13, 3) := by decide +kernel
theorem dX9_status_5 : decode cX9_status 5 = .ok (.aload_n 0, 1) := by decide +kernel
theorem dX9_status_6 : decode cX9_status 6 = .ok (.getfield 9, 3) := by decide +kernel
theorem dX9_status_9 : decode cX9_status 9 = .ok (.bipush 7, 2) := by decide +kernel
theorem dX9_status_11 : decode cX9_status 11 = .ok (.invokestatic 230, 3) := by decide +kernel
theorem dX9_status_14 : decode cX9_status 14 = .ok (.ireturn, 1) := by decide +kernel
theorem dX9_status_15 : decode cX9_status 15 = .ok (.iload_n 1, 1) := by decide +kernel
theorem dX9_status_16 : decode cX9_status 16 = .ok (.iconst 0, 1) := by decide +kernel
theorem dX9_status_17 : decode cX9_status 17 = .ok (.bipush 6, 2) := by decide +kernel
theorem dX9_status_19 : decode cX9_status 19 = .ok (.invokestatic 55, 3) := by decide +kernel
theorem dX9_status_22 : decode cX9_status 22 = .ok (.ifCond .ne 10, 3) := by decide +kernel
theorem dX9_status_25 : decode cX9_status 25 = .ok (.aload_n 0, 1) := by decide +kernel
theorem dX9_status_26 : decode cX9_status 26 = .ok (.ldc 59, 2) := by decide +kernel
theorem dX9_status_28 : decode cX9_status 28 = .ok (.invokevirtual 60, 3) := by decide +kernel
theorem dX9_status_31 : decode cX9_status 31 = .ok (.ireturn, 1) := by decide +kernel
theorem dX9_status_32 : decode cX9_status 32 = .ok (.aload_n 0, 1) := by decide +kernel
theorem dX9_status_33 : decode cX9_status 33 = .ok (.getfield 9, 3) := by decide +kernel
theorem dX9_status_36 : decode cX9_status 36 = .ok (.iload_n 1, 1) := by decide +kernel
theorem dX9_status_37 : decode cX9_status 37 = .ok (.iaload, 1) := by decide +kernel
theorem dX9_status_38 : decode cX9_status 38 = .ok (.ireturn, 1) := by decide +kernel
theorem dX9_tell_0 : decode cX9_tell 0 = .ok (.ldc 59, 2) := by decide +kernel
theorem dX9_tell_2 : decode cX9_tell 2 = .ok (.iload_n 1, 1) := by decide +kernel
theorem dX9_tell_3 : decode cX9_tell 3 = .ok (.isub, 1) := by decide +kernel
theorem dX9_tell_4 : decode cX9_tell 4 = .ok (.istore_n 2, 1) := by decide +kernel
theorem dX9_tell_5 : decode cX9_tell 5 = .ok (.iload_n 2, 1) := by decide +kernel
theorem dX9_tell_6 : decode cX9_tell 6 = .ok (.ifCond .lt 19, 3) := by decide +kernel
theorem dX9_tell_9 : decode cX9_tell 9 = .ok (.iload_n 2, 1) := by decide +kernel
theorem dX9_tell_10 : decode cX9_tell 10 = .ok (.bipush 7, 2) := by decide +kernel
theorem dX9_tell_12 : decode cX9_tell 12 = .ok (.if_icmp .ge 13, 3) := by decide +kernel
theorem dX9_tell_15 : decode cX9_tell 15 = .ok (.aload_n 0, 1) := by decide +kernel
theorem dX9_tell_16 : decode cX9_tell 16 = .ok (.getfield 9, 3) := by decide +kernel
theorem dX9_tell_19 : decode cX9_tell 19 = .ok (.iload_n 2, 1) := by decide +kernel
theorem dX9_tell_20 : decode cX9_tell 20 = .ok (.dup2, 1) := by decide +kernel
theorem dX9_tell_21 : decode cX9_tell 21 = .ok (.iaload, 1) := by decide +kernel
theorem dX9_tell_22 : decode cX9_tell 22 = .ok (.iconst 1, 1) := by decide +kernel
theorem dX9_tell_23 : decode cX9_tell 23 = .ok (.iadd, 1) := by decide +kernel
theorem dX9_tell_24 : decode cX9_tell 24 = .ok (.iastore, 1) := by decide +kernel
theorem dX9_tell_25 : decode cX9_tell 25 = .ok (.iload_n 1, 1) := by decide +kernel
theorem dX9_tell_26 : decode cX9_tell 26 = .ok (.ireturn, 1) := by decide +kernel
theorem dX9_orNone_0 : decode cX9_orNone 0 = .ok (.iload_n 1, 1) := by decide +kernel
theorem dX9_orNone_1 : decode cX9_orNone 1 = .ok (.ifCond .ge 12, 3) := by decide +kernel
theorem dX9_orNone_4 : decode cX9_orNone 4 = .ok (.aload_n 0, 1) := by decide +kernel
theorem dX9_orNone_5 : decode cX9_orNone 5 = .ok (.ldc 250, 2) := by decide +kernel
theorem dX9_orNone_7 : decode cX9_orNone 7 = .ok (.invokevirtual 60, 3) := by decide +kernel
theorem dX9_orNone_10 : decode cX9_orNone 10 = .ok (.goto 4, 3) := by decide +kernel
theorem dX9_orNone_13 : decode cX9_orNone 13 = .ok (.iload_n 1, 1) := by decide +kernel
theorem dX9_orNone_14 : decode cX9_orNone 14 = .ok (.ireturn, 1) := by decide +kernel
theorem dX9_isPhrase_0 : decode cX9_isPhrase 0 = .ok (.iload_n 1, 1) := by decide +kernel
theorem dX9_isPhrase_1 : decode cX9_isPhrase 1 = .ok (.ifCond .lt 21, 3) := by decide +kernel
theorem dX9_isPhrase_4 : decode cX9_isPhrase 4 = .ok (.iload_n 1, 1) := by decide +kernel
theorem dX9_isPhrase_5 : decode cX9_isPhrase 5 = .ok (.aload_n 0, 1) := by decide +kernel
theorem dX9_isPhrase_6 : decode cX9_isPhrase 6 = .ok (.getfield 16, 3) := by decide +kernel
theorem dX9_isPhrase_9 : decode cX9_isPhrase 9 = .ok (.getfield 64, 3) := by decide +kernel
theorem dX9_isPhrase_12 : decode cX9_isPhrase 12 = .ok (.getfield 229, 3) := by decide +kernel
theorem dX9_isPhrase_15 : decode cX9_isPhrase 15 = .ok (.if_icmp .ge 7, 3) := by decide +kernel
theorem dX9_isPhrase_18 : decode cX9_isPhrase 18 = .ok (.iconst 1, 1) := by decide +kernel
theorem dX9_isPhrase_19 : decode cX9_isPhrase 19 = .ok (.goto 4, 3) := by decide +kernel
theorem dX9_isPhrase_22 : decode cX9_isPhrase 22 = .ok (.iconst 0, 1) := by decide +kernel
theorem dX9_isPhrase_23 : decode cX9_isPhrase 23 = .ok (.ireturn, 1) := by decide +kernel
theorem dX9_isWant_0 : decode cX9_isWant 0 = .ok (.iload_n 1, 1) := by decide +kernel
theorem dX9_isWant_1 : decode cX9_isWant 1 = .ok (.ifCond .lt 21, 3) := by decide +kernel
theorem dX9_isWant_4 : decode cX9_isWant 4 = .ok (.iload_n 1, 1) := by decide +kernel
theorem dX9_isWant_5 : decode cX9_isWant 5 = .ok (.aload_n 0, 1) := by decide +kernel
theorem dX9_isWant_6 : decode cX9_isWant 6 = .ok (.getfield 16, 3) := by decide +kernel
theorem dX9_isWant_9 : decode cX9_isWant 9 = .ok (.getfield 111, 3) := by decide +kernel
theorem dX9_isWant_12 : decode cX9_isWant 12 = .ok (.getfield 327, 3) := by decide +kernel
theorem dX9_isWant_15 : decode cX9_isWant 15 = .ok (.if_icmp .ge 7, 3) := by decide +kernel
theorem dX9_isWant_18 : decode cX9_isWant 18 = .ok (.iconst 1, 1) := by decide +kernel
theorem dX9_isWant_19 : decode cX9_isWant 19 = .ok (.goto 4, 3) := by decide +kernel
theorem dX9_isWant_22 : decode cX9_isWant 22 = .ok (.iconst 0, 1) := by decide +kernel
theorem dX9_isWant_23 : decode cX9_isWant 23 = .ok (.ireturn, 1) := by decide +kernel
theorem dX9_isSet_0 : decode cX9_isSet 0 = .ok (.iload_n 1, 1) := by decide +kernel
theorem dX9_isSet_1 : decode cX9_isSet 1 = .ok (.ifCond .lt 23, 3) := by decide +kernel
theorem dX9_isSet_4 : decode cX9_isSet 4 = .ok (.iload_n 1, 1) := by decide +kernel
theorem dX9_isSet_5 : decode cX9_isSet 5 = .ok (.iconst 1, 1) := by decide +kernel
theorem dX9_isSet_6 : decode cX9_isSet 6 = .ok (.aload_n 0, 1) := by decide +kernel
theorem dX9_isSet_7 : decode cX9_isSet 7 = .ok (.getfield 16, 3) := by decide +kernel
theorem dX9_isSet_10 : decode cX9_isSet 10 = .ok (.getfield 64, 3) := by decide +kernel
theorem dX9_isSet_13 : decode cX9_isSet 13 = .ok (.getfield 229, 3) := by decide +kernel
theorem dX9_isSet_16 : decode cX9_isSet 16 = .ok (.ishl, 1) := by decide +kernel
theorem dX9_isSet_17 : decode cX9_isSet 17 = .ok (.if_icmp .ge 7, 3) := by decide +kernel
theorem dX9_isSet_20 : decode cX9_isSet 20 = .ok (.iconst 1, 1) := by decide +kernel
theorem dX9_isSet_21 : decode cX9_isSet 21 = .ok (.goto 4, 3) := by decide +kernel
theorem dX9_isSet_24 : decode cX9_isSet 24 = .ok (.iconst 0, 1) := by decide +kernel
theorem dX9_isSet_25 : decode cX9_isSet 25 = .ok (.ireturn, 1) := by decide +kernel
theorem dX9_mayGo_0 : decode cX9_mayGo 0 = .ok (.aload_n 0, 1) := by decide +kernel
theorem dX9_mayGo_1 : decode cX9_mayGo 1 = .ok (.getfield 16, 3) := by decide +kernel
theorem dX9_mayGo_4 : decode cX9_mayGo 4 = .ok (.getfield 216, 3) := by decide +kernel
theorem dX9_mayGo_7 : decode cX9_mayGo 7 = .ok (.iload_n 1, 1) := by decide +kernel
theorem dX9_mayGo_8 : decode cX9_mayGo 8 = .ok (.iadd, 1) := by decide +kernel
theorem dX9_mayGo_9 : decode cX9_mayGo 9 = .ok (.bipush 99, 2) := by decide +kernel
theorem dX9_mayGo_11 : decode cX9_mayGo 11 = .ok (.if_icmp .gt 7, 3) := by decide +kernel
theorem dX9_mayGo_14 : decode cX9_mayGo 14 = .ok (.iconst 1, 1) := by decide +kernel
theorem dX9_mayGo_15 : decode cX9_mayGo 15 = .ok (.goto 4, 3) := by decide +kernel
theorem dX9_mayGo_18 : decode cX9_mayGo 18 = .ok (.iconst 0, 1) := by decide +kernel
theorem dX9_mayGo_19 : decode cX9_mayGo 19 = .ok (.ireturn, 1) := by decide +kernel
theorem dX9_within_0 : decode cX9_within 0 = .ok (.iload_n 0, 1) := by decide +kernel
theorem dX9_within_1 : decode cX9_within 1 = .ok (.iload_n 1, 1) := by decide +kernel
theorem dX9_within_2 : decode cX9_within 2 = .ok (.if_icmp .lt 12, 3) := by decide +kernel
theorem dX9_within_5 : decode cX9_within 5 = .ok (.iload_n 0, 1) := by decide +kernel
theorem dX9_within_6 : decode cX9_within 6 = .ok (.iload_n 2, 1) := by decide +kernel
theorem dX9_within_7 : decode cX9_within 7 = .ok (.if_icmp .gt 7, 3) := by decide +kernel
theorem dX9_within_10 : decode cX9_within 10 = .ok (.iconst 1, 1) := by decide +kernel
theorem dX9_within_11 : decode cX9_within 11 = .ok (.goto 4, 3) := by decide +kernel
theorem dX9_within_14 : decode cX9_within 14 = .ok (.iconst 0, 1) := by decide +kernel
theorem dX9_within_15 : decode cX9_within 15 = .ok (.ireturn, 1) := by decide +kernel
theorem dX9_isIn_0 : decode cX9_isIn 0 = .ok (.iload_n 0, 1) := by decide +kernel
theorem dX9_isIn_1 : decode cX9_isIn 1 = .ok (.iload_n 1, 1) := by decide +kernel
theorem dX9_isIn_2 : decode cX9_isIn 2 = .ok (.ishr, 1) := by decide +kernel
theorem dX9_isIn_3 : decode cX9_isIn 3 = .ok (.iconst 1, 1) := by decide +kernel
theorem dX9_isIn_4 : decode cX9_isIn 4 = .ok (.iand, 1) := by decide +kernel
theorem dX9_isIn_5 : decode cX9_isIn 5 = .ok (.ifCond .eq 7, 3) := by decide +kernel
theorem dX9_isIn_8 : decode cX9_isIn 8 = .ok (.iconst 1, 1) := by decide +kernel
theorem dX9_isIn_9 : decode cX9_isIn 9 = .ok (.goto 4, 3) := by decide +kernel
theorem dX9_isIn_12 : decode cX9_isIn 12 = .ok (.iconst 0, 1) := by decide +kernel
theorem dX9_isIn_13 : decode cX9_isIn 13 = .ok (.ireturn, 1) := by decide +kernel
theorem dX9_metFrom_0 : decode cX9_metFrom 0 = .ok (.iload_n 0, 1) := by decide +kernel
theorem dX9_metFrom_1 : decode cX9_metFrom 1 = .ok (.iload_n 2, 1) := by decide +kernel
theorem dX9_metFrom_2 : decode cX9_metFrom 2 = .ok (.ifCond .eq 11, 3) := by decide +kernel
theorem dX9_metFrom_5 : decode cX9_metFrom 5 = .ok (.iload_n 1, 1) := by decide +kernel
theorem dX9_metFrom_6 : decode cX9_metFrom 6 = .ok (.iload_n 0, 1) := by decide +kernel
theorem dX9_metFrom_7 : decode cX9_metFrom 7 = .ok (.iconst 5, 1) := by decide +kernel
theorem dX9_metFrom_8 : decode cX9_metFrom 8 = .ok (.idiv, 1) := by decide +kernel
theorem dX9_metFrom_9 : decode cX9_metFrom 9 = .ok (.iadd, 1) := by decide +kernel
theorem dX9_metFrom_10 : decode cX9_metFrom 10 = .ok (.goto 4, 3) := by decide +kernel
theorem dX9_metFrom_13 : decode cX9_metFrom 13 = .ok (.iload_n 1, 1) := by decide +kernel
theorem dX9_metFrom_14 : decode cX9_metFrom 14 = .ok (.invokestatic 311, 3) := by decide +kernel
theorem dX9_metFrom_17 : decode cX9_metFrom 17 = .ok (.ireturn, 1) := by decide +kernel
theorem dX9_exchange_0 : decode cX9_exchange 0 = .ok (.aload_n 0, 1) := by decide +kernel
theorem dX9_exchange_1 : decode cX9_exchange 1 = .ok (.iload_n 1, 1) := by decide +kernel
theorem dX9_exchange_2 : decode cX9_exchange 2 = .ok (.iaload, 1) := by decide +kernel
theorem dX9_exchange_3 : decode cX9_exchange 3 = .ok (.istore_n 3, 1) := by decide +kernel
theorem dX9_exchange_4 : decode cX9_exchange 4 = .ok (.aload_n 0, 1) := by decide +kernel
theorem dX9_exchange_5 : decode cX9_exchange 5 = .ok (.iload_n 1, 1) := by decide +kernel
theorem dX9_exchange_6 : decode cX9_exchange 6 = .ok (.iload_n 2, 1) := by decide +kernel
theorem dX9_exchange_7 : decode cX9_exchange 7 = .ok (.iastore, 1) := by decide +kernel
theorem dX9_exchange_8 : decode cX9_exchange 8 = .ok (.iload_n 3, 1) := by decide +kernel
theorem dX9_exchange_9 : decode cX9_exchange 9 = .ok (.ireturn, 1) := by decide +kernel
theorem dX9_sum_0 : decode cX9_sum 0 = .ok (.iconst 0, 1) := by decide +kernel
theorem dX9_sum_1 : decode cX9_sum 1 = .ok (.istore_n 2, 1) := by decide +kernel
theorem dX9_sum_2 : decode cX9_sum 2 = .ok (.iconst 0, 1) := by decide +kernel
theorem dX9_sum_3 : decode cX9_sum 3 = .ok (.istore_n 3, 1) := by decide +kernel
theorem dX9_sum_4 : decode cX9_sum 4 = .ok (.iload_n 3, 1) := by decide +kernel
theorem dX9_sum_5 : decode cX9_sum 5 = .ok (.iload_n 1, 1) := by decide +kernel
theorem dX9_sum_6 : decode cX9_sum 6 = .ok (.if_icmp .ge 15, 3) := by decide +kernel
theorem dX9_sum_9 : decode cX9_sum 9 = .ok (.iload_n 2, 1) := by decide +kernel
theorem dX9_sum_10 : decode cX9_sum 10 = .ok (.aload_n 0, 1) := by decide +kernel
theorem dX9_sum_11 : decode cX9_sum 11 = .ok (.iload_n 3, 1) := by decide +kernel
theorem dX9_sum_12 : decode cX9_sum 12 = .ok (.iaload, 1) := by decide +kernel
theorem dX9_sum_13 : decode cX9_sum 13 = .ok (.iadd, 1) := by decide +kernel
theorem dX9_sum_14 : decode cX9_sum 14 = .ok (.istore_n 2, 1) := by decide +kernel
theorem dX9_sum_15 : decode cX9_sum 15 = .ok (.iinc 3 1, 3) := by decide +kernel
theorem dX9_sum_18 : decode cX9_sum 18 = .ok (.goto (-14), 3) := by decide +kernel
theorem dX9_sum_21 : decode cX9_sum 21 = .ok (.iload_n 2, 1) := by decide +kernel
theorem dX9_sum_22 : decode cX9_sum 22 = .ok (.ireturn, 1) := by decide +kernel
theorem dJ6_numberOfTrailingZeros_0f7a4_0 : decode cJ6_numberOfTrailingZeros_0f7a4 0 = .ok (.iload_n 0, 1) := by decide +kernel
theorem dJ6_numberOfTrailingZeros_0f7a4_1 : decode cJ6_numberOfTrailingZeros_0f7a4 1 = .ok (.iconst (-1), 1) := by decide +kernel
theorem dJ6_numberOfTrailingZeros_0f7a4_2 : decode cJ6_numberOfTrailingZeros_0f7a4 2 = .ok (.ixor, 1) := by decide +kernel
theorem dJ6_numberOfTrailingZeros_0f7a4_3 : decode cJ6_numberOfTrailingZeros_0f7a4 3 = .ok (.iload_n 0, 1) := by decide +kernel
theorem dJ6_numberOfTrailingZeros_0f7a4_4 : decode cJ6_numberOfTrailingZeros_0f7a4 4 = .ok (.iconst 1, 1) := by decide +kernel
theorem dJ6_numberOfTrailingZeros_0f7a4_5 : decode cJ6_numberOfTrailingZeros_0f7a4 5 = .ok (.isub, 1) := by decide +kernel
theorem dJ6_numberOfTrailingZeros_0f7a4_6 : decode cJ6_numberOfTrailingZeros_0f7a4 6 = .ok (.iand, 1) := by decide +kernel
theorem dJ6_numberOfTrailingZeros_0f7a4_7 : decode cJ6_numberOfTrailingZeros_0f7a4 7 = .ok (.istore_n 0, 1) := by decide +kernel
theorem dJ6_numberOfTrailingZeros_0f7a4_8 : decode cJ6_numberOfTrailingZeros_0f7a4 8 = .ok (.iload_n 0, 1) := by decide +kernel
theorem dJ6_numberOfTrailingZeros_0f7a4_9 : decode cJ6_numberOfTrailingZeros_0f7a4 9 = .ok (.ifCond .gt 8, 3) := by decide +kernel
theorem dJ6_numberOfTrailingZeros_0f7a4_12 : decode cJ6_numberOfTrailingZeros_0f7a4 12 = .ok (.iload_n 0, 1) := by decide +kernel
theorem dJ6_numberOfTrailingZeros_0f7a4_13 : decode cJ6_numberOfTrailingZeros_0f7a4 13 = .ok (.bipush 32, 2) := by decide +kernel
theorem dJ6_numberOfTrailingZeros_0f7a4_15 : decode cJ6_numberOfTrailingZeros_0f7a4 15 = .ok (.iand, 1) := by decide +kernel
theorem dJ6_numberOfTrailingZeros_0f7a4_16 : decode cJ6_numberOfTrailingZeros_0f7a4 16 = .ok (.ireturn, 1) := by decide +kernel
theorem dJ6_numberOfTrailingZeros_0f7a4_17 : decode cJ6_numberOfTrailingZeros_0f7a4 17 = .ok (.iconst 1, 1) := by decide +kernel
theorem dJ6_numberOfTrailingZeros_0f7a4_18 : decode cJ6_numberOfTrailingZeros_0f7a4 18 = .ok (.istore_n 1, 1) := by decide +kernel
theorem dJ6_numberOfTrailingZeros_0f7a4_19 : decode cJ6_numberOfTrailingZeros_0f7a4 19 = .ok (.iload_n 0, 1) := by decide +kernel
theorem dJ6_numberOfTrailingZeros_0f7a4_20 : decode cJ6_numberOfTrailingZeros_0f7a4 20 = .ok (.ldc_w 264, 3) := by decide +kernel
theorem dJ6_numberOfTrailingZeros_0f7a4_23 : decode cJ6_numberOfTrailingZeros_0f7a4 23 = .ok (.if_icmp .le 11, 3) := by decide +kernel
theorem dJ6_numberOfTrailingZeros_0f7a4_26 : decode cJ6_numberOfTrailingZeros_0f7a4 26 = .ok (.iinc 1 16, 3) := by decide +kernel
theorem dJ6_numberOfTrailingZeros_0f7a4_29 : decode cJ6_numberOfTrailingZeros_0f7a4 29 = .ok (.iload_n 0, 1) := by decide +kernel
theorem dJ6_numberOfTrailingZeros_0f7a4_30 : decode cJ6_numberOfTrailingZeros_0f7a4 30 = .ok (.bipush 16, 2) := by decide +kernel
theorem dJ6_numberOfTrailingZeros_0f7a4_32 : decode cJ6_numberOfTrailingZeros_0f7a4 32 = .ok (.iushr, 1) := by decide +kernel
theorem dJ6_numberOfTrailingZeros_0f7a4_33 : decode cJ6_numberOfTrailingZeros_0f7a4 33 = .ok (.istore_n 0, 1) := by decide +kernel
theorem dJ6_numberOfTrailingZeros_0f7a4_34 : decode cJ6_numberOfTrailingZeros_0f7a4 34 = .ok (.iload_n 0, 1) := by decide +kernel
theorem dJ6_numberOfTrailingZeros_0f7a4_35 : decode cJ6_numberOfTrailingZeros_0f7a4 35 = .ok (.sipush 256, 3) := by decide +kernel
theorem dJ6_numberOfTrailingZeros_0f7a4_38 : decode cJ6_numberOfTrailingZeros_0f7a4 38 = .ok (.if_icmp .le 11, 3) := by decide +kernel
theorem dJ6_numberOfTrailingZeros_0f7a4_41 : decode cJ6_numberOfTrailingZeros_0f7a4 41 = .ok (.iinc 1 8, 3) := by decide +kernel
theorem dJ6_numberOfTrailingZeros_0f7a4_44 : decode cJ6_numberOfTrailingZeros_0f7a4 44 = .ok (.iload_n 0, 1) := by decide +kernel
theorem dJ6_numberOfTrailingZeros_0f7a4_45 : decode cJ6_numberOfTrailingZeros_0f7a4 45 = .ok (.bipush 8, 2) := by decide +kernel
theorem dJ6_numberOfTrailingZeros_0f7a4_47 : decode cJ6_numberOfTrailingZeros_0f7a4 47 = .ok (.iushr, 1) := by decide +kernel
theorem dJ6_numberOfTrailingZeros_0f7a4_48 : decode cJ6_numberOfTrailingZeros_0f7a4 48 = .ok (.istore_n 0, 1) := by decide +kernel
theorem dJ6_numberOfTrailingZeros_0f7a4_49 : decode cJ6_numberOfTrailingZeros_0f7a4 49 = .ok (.iload_n 0, 1) := by decide +kernel
theorem dJ6_numberOfTrailingZeros_0f7a4_50 : decode cJ6_numberOfTrailingZeros_0f7a4 50 = .ok (.bipush 16, 2) := by decide +kernel
theorem dJ6_numberOfTrailingZeros_0f7a4_52 : decode cJ6_numberOfTrailingZeros_0f7a4 52 = .ok (.if_icmp .le 10, 3) := by decide +kernel
theorem dJ6_numberOfTrailingZeros_0f7a4_55 : decode cJ6_numberOfTrailingZeros_0f7a4 55 = .ok (.iinc 1 4, 3) := by decide +kernel
theorem dJ6_numberOfTrailingZeros_0f7a4_58 : decode cJ6_numberOfTrailingZeros_0f7a4 58 = .ok (.iload_n 0, 1) := by decide +kernel
theorem dJ6_numberOfTrailingZeros_0f7a4_59 : decode cJ6_numberOfTrailingZeros_0f7a4 59 = .ok (.iconst 4, 1) := by decide +kernel
theorem dJ6_numberOfTrailingZeros_0f7a4_60 : decode cJ6_numberOfTrailingZeros_0f7a4 60 = .ok (.iushr, 1) := by decide +kernel
theorem dJ6_numberOfTrailingZeros_0f7a4_61 : decode cJ6_numberOfTrailingZeros_0f7a4 61 = .ok (.istore_n 0, 1) := by decide +kernel
theorem dJ6_numberOfTrailingZeros_0f7a4_62 : decode cJ6_numberOfTrailingZeros_0f7a4 62 = .ok (.iload_n 0, 1) := by decide +kernel
theorem dJ6_numberOfTrailingZeros_0f7a4_63 : decode cJ6_numberOfTrailingZeros_0f7a4 63 = .ok (.iconst 4, 1) := by decide +kernel
theorem dJ6_numberOfTrailingZeros_0f7a4_64 : decode cJ6_numberOfTrailingZeros_0f7a4 64 = .ok (.if_icmp .le 10, 3) := by decide +kernel
theorem dJ6_numberOfTrailingZeros_0f7a4_67 : decode cJ6_numberOfTrailingZeros_0f7a4 67 = .ok (.iinc 1 2, 3) := by decide +kernel
theorem dJ6_numberOfTrailingZeros_0f7a4_70 : decode cJ6_numberOfTrailingZeros_0f7a4 70 = .ok (.iload_n 0, 1) := by decide +kernel
theorem dJ6_numberOfTrailingZeros_0f7a4_71 : decode cJ6_numberOfTrailingZeros_0f7a4 71 = .ok (.iconst 2, 1) := by decide +kernel
theorem dJ6_numberOfTrailingZeros_0f7a4_72 : decode cJ6_numberOfTrailingZeros_0f7a4 72 = .ok (.iushr, 1) := by decide +kernel
theorem dJ6_numberOfTrailingZeros_0f7a4_73 : decode cJ6_numberOfTrailingZeros_0f7a4 73 = .ok (.istore_n 0, 1) := by decide +kernel
theorem dJ6_numberOfTrailingZeros_0f7a4_74 : decode cJ6_numberOfTrailingZeros_0f7a4 74 = .ok (.iload_n 1, 1) := by decide +kernel
theorem dJ6_numberOfTrailingZeros_0f7a4_75 : decode cJ6_numberOfTrailingZeros_0f7a4 75 = .ok (.iload_n 0, 1) := by decide +kernel
theorem dJ6_numberOfTrailingZeros_0f7a4_76 : decode cJ6_numberOfTrailingZeros_0f7a4 76 = .ok (.iconst 1, 1) := by decide +kernel
theorem dJ6_numberOfTrailingZeros_0f7a4_77 : decode cJ6_numberOfTrailingZeros_0f7a4 77 = .ok (.iushr, 1) := by decide +kernel
theorem dJ6_numberOfTrailingZeros_0f7a4_78 : decode cJ6_numberOfTrailingZeros_0f7a4 78 = .ok (.iadd, 1) := by decide +kernel
theorem dJ6_numberOfTrailingZeros_0f7a4_79 : decode cJ6_numberOfTrailingZeros_0f7a4 79 = .ok (.ireturn, 1) := by decide +kernel
theorem dJ6_bitCount_0f7a4_0 : decode cJ6_bitCount_0f7a4 0 = .ok (.iload_n 0, 1) := by decide +kernel
theorem dJ6_bitCount_0f7a4_1 : decode cJ6_bitCount_0f7a4 1 = .ok (.iload_n 0, 1) := by decide +kernel
theorem dJ6_bitCount_0f7a4_2 : decode cJ6_bitCount_0f7a4 2 = .ok (.iconst 1, 1) := by decide +kernel
theorem dJ6_bitCount_0f7a4_3 : decode cJ6_bitCount_0f7a4 3 = .ok (.iushr, 1) := by decide +kernel
theorem dJ6_bitCount_0f7a4_4 : decode cJ6_bitCount_0f7a4 4 = .ok (.ldc_w 265, 3) := by decide +kernel
theorem dJ6_bitCount_0f7a4_7 : decode cJ6_bitCount_0f7a4 7 = .ok (.iand, 1) := by decide +kernel
theorem dJ6_bitCount_0f7a4_8 : decode cJ6_bitCount_0f7a4 8 = .ok (.isub, 1) := by decide +kernel
theorem dJ6_bitCount_0f7a4_9 : decode cJ6_bitCount_0f7a4 9 = .ok (.istore_n 0, 1) := by decide +kernel
theorem dJ6_bitCount_0f7a4_10 : decode cJ6_bitCount_0f7a4 10 = .ok (.iload_n 0, 1) := by decide +kernel
theorem dJ6_bitCount_0f7a4_11 : decode cJ6_bitCount_0f7a4 11 = .ok (.ldc_w 266, 3) := by decide +kernel
theorem dJ6_bitCount_0f7a4_14 : decode cJ6_bitCount_0f7a4 14 = .ok (.iand, 1) := by decide +kernel
theorem dJ6_bitCount_0f7a4_15 : decode cJ6_bitCount_0f7a4 15 = .ok (.iload_n 0, 1) := by decide +kernel
theorem dJ6_bitCount_0f7a4_16 : decode cJ6_bitCount_0f7a4 16 = .ok (.iconst 2, 1) := by decide +kernel
theorem dJ6_bitCount_0f7a4_17 : decode cJ6_bitCount_0f7a4 17 = .ok (.iushr, 1) := by decide +kernel
theorem dJ6_bitCount_0f7a4_18 : decode cJ6_bitCount_0f7a4 18 = .ok (.ldc_w 266, 3) := by decide +kernel
theorem dJ6_bitCount_0f7a4_21 : decode cJ6_bitCount_0f7a4 21 = .ok (.iand, 1) := by decide +kernel
theorem dJ6_bitCount_0f7a4_22 : decode cJ6_bitCount_0f7a4 22 = .ok (.iadd, 1) := by decide +kernel
theorem dJ6_bitCount_0f7a4_23 : decode cJ6_bitCount_0f7a4 23 = .ok (.istore_n 0, 1) := by decide +kernel
theorem dJ6_bitCount_0f7a4_24 : decode cJ6_bitCount_0f7a4 24 = .ok (.iload_n 0, 1) := by decide +kernel
theorem dJ6_bitCount_0f7a4_25 : decode cJ6_bitCount_0f7a4 25 = .ok (.iload_n 0, 1) := by decide +kernel
theorem dJ6_bitCount_0f7a4_26 : decode cJ6_bitCount_0f7a4 26 = .ok (.iconst 4, 1) := by decide +kernel
theorem dJ6_bitCount_0f7a4_27 : decode cJ6_bitCount_0f7a4 27 = .ok (.iushr, 1) := by decide +kernel
theorem dJ6_bitCount_0f7a4_28 : decode cJ6_bitCount_0f7a4 28 = .ok (.iadd, 1) := by decide +kernel
theorem dJ6_bitCount_0f7a4_29 : decode cJ6_bitCount_0f7a4 29 = .ok (.ldc_w 267, 3) := by decide +kernel
theorem dJ6_bitCount_0f7a4_32 : decode cJ6_bitCount_0f7a4 32 = .ok (.iand, 1) := by decide +kernel
theorem dJ6_bitCount_0f7a4_33 : decode cJ6_bitCount_0f7a4 33 = .ok (.istore_n 0, 1) := by decide +kernel
theorem dJ6_bitCount_0f7a4_34 : decode cJ6_bitCount_0f7a4 34 = .ok (.iload_n 0, 1) := by decide +kernel
theorem dJ6_bitCount_0f7a4_35 : decode cJ6_bitCount_0f7a4 35 = .ok (.iload_n 0, 1) := by decide +kernel
theorem dJ6_bitCount_0f7a4_36 : decode cJ6_bitCount_0f7a4 36 = .ok (.bipush 8, 2) := by decide +kernel
theorem dJ6_bitCount_0f7a4_38 : decode cJ6_bitCount_0f7a4 38 = .ok (.iushr, 1) := by decide +kernel
theorem dJ6_bitCount_0f7a4_39 : decode cJ6_bitCount_0f7a4 39 = .ok (.iadd, 1) := by decide +kernel
theorem dJ6_bitCount_0f7a4_40 : decode cJ6_bitCount_0f7a4 40 = .ok (.istore_n 0, 1) := by decide +kernel
theorem dJ6_bitCount_0f7a4_41 : decode cJ6_bitCount_0f7a4 41 = .ok (.iload_n 0, 1) := by decide +kernel
theorem dJ6_bitCount_0f7a4_42 : decode cJ6_bitCount_0f7a4 42 = .ok (.iload_n 0, 1) := by decide +kernel
theorem dJ6_bitCount_0f7a4_43 : decode cJ6_bitCount_0f7a4 43 = .ok (.bipush 16, 2) := by decide +kernel
theorem dJ6_bitCount_0f7a4_45 : decode cJ6_bitCount_0f7a4 45 = .ok (.iushr, 1) := by decide +kernel
theorem dJ6_bitCount_0f7a4_46 : decode cJ6_bitCount_0f7a4 46 = .ok (.iadd, 1) := by decide +kernel
theorem dJ6_bitCount_0f7a4_47 : decode cJ6_bitCount_0f7a4 47 = .ok (.istore_n 0, 1) := by decide +kernel
theorem dJ6_bitCount_0f7a4_48 : decode cJ6_bitCount_0f7a4 48 = .ok (.iload_n 0, 1) := by decide +kernel
theorem dJ6_bitCount_0f7a4_49 : decode cJ6_bitCount_0f7a4 49 = .ok (.bipush 63, 2) := by decide +kernel
theorem dJ6_bitCount_0f7a4_51 : decode cJ6_bitCount_0f7a4 51 = .ok (.iand, 1) := by decide +kernel
theorem dJ6_bitCount_0f7a4_52 : decode cJ6_bitCount_0f7a4 52 = .ok (.ireturn, 1) := by decide +kernel
theorem dJ9_max_7cf53_0 : decode cJ9_max_7cf53 0 = .ok (.iload_n 0, 1) := by decide +kernel
theorem dJ9_max_7cf53_1 : decode cJ9_max_7cf53 1 = .ok (.iload_n 1, 1) := by decide +kernel
theorem dJ9_max_7cf53_2 : decode cJ9_max_7cf53 2 = .ok (.if_icmp .lt 7, 3) := by decide +kernel
theorem dJ9_max_7cf53_5 : decode cJ9_max_7cf53 5 = .ok (.iload_n 0, 1) := by decide +kernel
theorem dJ9_max_7cf53_6 : decode cJ9_max_7cf53 6 = .ok (.goto 4, 3) := by decide +kernel
theorem dJ9_max_7cf53_9 : decode cJ9_max_7cf53 9 = .ok (.iload_n 1, 1) := by decide +kernel
theorem dJ9_max_7cf53_10 : decode cJ9_max_7cf53 10 = .ok (.ireturn, 1) := by decide +kernel
theorem dJ9_min_7cf53_0 : decode cJ9_min_7cf53 0 = .ok (.iload_n 0, 1) := by decide +kernel
theorem dJ9_min_7cf53_1 : decode cJ9_min_7cf53 1 = .ok (.iload_n 1, 1) := by decide +kernel
theorem dJ9_min_7cf53_2 : decode cJ9_min_7cf53 2 = .ok (.if_icmp .gt 7, 3) := by decide +kernel
theorem dJ9_min_7cf53_5 : decode cJ9_min_7cf53 5 = .ok (.iload_n 0, 1) := by decide +kernel
theorem dJ9_min_7cf53_6 : decode cJ9_min_7cf53 6 = .ok (.goto 4, 3) := by decide +kernel
theorem dJ9_min_7cf53_9 : decode cJ9_min_7cf53 9 = .ok (.iload_n 1, 1) := by decide +kernel
theorem dJ9_min_7cf53_10 : decode cJ9_min_7cf53 10 = .ok (.ireturn, 1) := by decide +kernel
theorem dJ0_length_8abf5_0 : decode cJ0_length_8abf5 0 = .ok (.aload_n 0, 1) := by decide +kernel
theorem dJ0_length_8abf5_1 : decode cJ0_length_8abf5 1 = .ok (.getfield 9, 3) := by decide +kernel
theorem dJ0_length_8abf5_4 : decode cJ0_length_8abf5 4 = .ok (.arraylength, 1) := by decide +kernel
theorem dJ0_length_8abf5_5 : decode cJ0_length_8abf5 5 = .ok (.aload_n 0, 1) := by decide +kernel
theorem dJ0_length_8abf5_6 : decode cJ0_length_8abf5 6 = .ok (.invokevirtual 335, 3) := by decide +kernel
theorem dJ0_length_8abf5_9 : decode cJ0_length_8abf5 9 = .ok (.ishr, 1) := by decide +kernel
theorem dJ0_length_8abf5_10 : decode cJ0_length_8abf5 10 = .ok (.ireturn, 1) := by decide +kernel
theorem dJ0_charAt_5068e_0 : decode cJ0_charAt_5068e 0 = .ok (.aload_n 0, 1) := by decide +kernel
theorem dJ0_charAt_5068e_1 : decode cJ0_charAt_5068e 1 = .ok (.invokevirtual 492, 3) := by decide +kernel
theorem dJ0_charAt_5068e_4 : decode cJ0_charAt_5068e 4 = .ok (.ifCond .eq 12, 3) := by decide +kernel
theorem dJ0_charAt_5068e_7 : decode cJ0_charAt_5068e 7 = .ok (.aload_n 0, 1) := by decide +kernel
theorem dJ0_charAt_5068e_8 : decode cJ0_charAt_5068e 8 = .ok (.getfield 9, 3) := by decide +kernel
theorem dJ0_charAt_5068e_11 : decode cJ0_charAt_5068e 11 = .ok (.iload_n 1, 1) := by decide +kernel
theorem dJ0_charAt_5068e_12 : decode cJ0_charAt_5068e 12 = .ok (.invokestatic 495, 3) := by decide +kernel
theorem dJ0_charAt_5068e_15 : decode cJ0_charAt_5068e 15 = .ok (.ireturn, 1) := by decide +kernel
theorem dJ0_charAt_5068e_16 : decode cJ0_charAt_5068e 16 = .ok (.aload_n 0, 1) := by decide +kernel
theorem dJ0_charAt_5068e_17 : decode cJ0_charAt_5068e 17 = .ok (.getfield 9, 3) := by decide +kernel
theorem dJ0_charAt_5068e_20 : decode cJ0_charAt_5068e 20 = .ok (.iload_n 1, 1) := by decide +kernel
theorem dJ0_charAt_5068e_21 : decode cJ0_charAt_5068e 21 = .ok (.invokestatic 498, 3) := by decide +kernel
theorem dJ0_charAt_5068e_24 : decode cJ0_charAt_5068e 24 = .ok (.ireturn, 1) := by decide +kernel
theorem dJ0_coder_7d493_0 : decode cJ0_coder_7d493 0 = .ok (.getstatic 38, 3) := by decide +kernel
theorem dJ0_coder_7d493_3 : decode cJ0_coder_7d493 3 = .ok (.ifCond .eq 10, 3) := by decide +kernel
theorem dJ0_coder_7d493_6 : decode cJ0_coder_7d493 6 = .ok (.aload_n 0, 1) := by decide +kernel
theorem dJ0_coder_7d493_7 : decode cJ0_coder_7d493 7 = .ok (.getfield 15, 3) := by decide +kernel
theorem dJ0_coder_7d493_10 : decode cJ0_coder_7d493 10 = .ok (.goto 4, 3) := by decide +kernel
theorem dJ0_coder_7d493_13 : decode cJ0_coder_7d493 13 = .ok (.iconst 1, 1) := by decide +kernel
theorem dJ0_coder_7d493_14 : decode cJ0_coder_7d493 14 = .ok (.ireturn, 1) := by decide +kernel
theorem dJ0_isLatin1_aae02_0 : decode cJ0_isLatin1_aae02 0 = .ok (.getstatic 38, 3) := by decide +kernel
theorem dJ0_isLatin1_aae02_3 : decode cJ0_isLatin1_aae02 3 = .ok (.ifCond .eq 14, 3) := by decide +kernel
theorem dJ0_isLatin1_aae02_6 : decode cJ0_isLatin1_aae02 6 = .ok (.aload_n 0, 1) := by decide +kernel
theorem dJ0_isLatin1_aae02_7 : decode cJ0_isLatin1_aae02 7 = .ok (.getfield 15, 3) := by decide +kernel
theorem dJ0_isLatin1_aae02_10 : decode cJ0_isLatin1_aae02 10 = .ok (.ifCond .ne 7, 3) := by decide +kernel
theorem dJ0_isLatin1_aae02_13 : decode cJ0_isLatin1_aae02 13 = .ok (.iconst 1, 1) := by decide +kernel
theorem dJ0_isLatin1_aae02_14 : decode cJ0_isLatin1_aae02 14 = .ok (.goto 4, 3) := by decide +kernel
theorem dJ0_isLatin1_aae02_17 : decode cJ0_isLatin1_aae02 17 = .ok (.iconst 0, 1) := by decide +kernel
theorem dJ0_isLatin1_aae02_18 : decode cJ0_isLatin1_aae02 18 = .ok (.ireturn, 1) := by decide +kernel
theorem dJ0_checkIndex_df160_0 : decode cJ0_checkIndex_df160 0 = .ok (.iload_n 0, 1) := by decide +kernel
theorem dJ0_checkIndex_df160_1 : decode cJ0_checkIndex_df160 1 = .ok (.iload_n 1, 1) := by decide +kernel
theorem dJ0_checkIndex_df160_2 : decode cJ0_checkIndex_df160 2 = .ok (.getstatic 1053, 3) := by decide +kernel
theorem dJ0_checkIndex_df160_5 : decode cJ0_checkIndex_df160 5 = .ok (.invokestatic 1059, 3) := by decide +kernel
theorem dJ0_checkIndex_df160_8 : decode cJ0_checkIndex_df160 8 = .ok (.pop, 1) := by decide +kernel
theorem dJ0_checkIndex_df160_9 : decode cJ0_checkIndex_df160 9 = .ok (.return_, 1) := by decide +kernel
theorem dJ1_charAt_3b067_0 : decode cJ1_charAt_3b067 0 = .ok (.iload_n 1, 1) := by decide +kernel
theorem dJ1_charAt_3b067_1 : decode cJ1_charAt_3b067 1 = .ok (.aload_n 0, 1) := by decide +kernel
theorem dJ1_charAt_3b067_2 : decode cJ1_charAt_3b067 2 = .ok (.arraylength, 1) := by decide +kernel
theorem dJ1_charAt_3b067_3 : decode cJ1_charAt_3b067 3 = .ok (.invokestatic 9, 3) := by decide +kernel
theorem dJ1_charAt_3b067_6 : decode cJ1_charAt_3b067 6 = .ok (.aload_n 0, 1) := by decide +kernel
theorem dJ1_charAt_3b067_7 : decode cJ1_charAt_3b067 7 = .ok (.iload_n 1, 1) := by decide +kernel
theorem dJ1_charAt_3b067_8 : decode cJ1_charAt_3b067 8 = .ok (.baload, 1) := by decide +kernel
theorem dJ1_charAt_3b067_9 : decode cJ1_charAt_3b067 9 = .ok (.sipush 255, 3) := by decide +kernel
theorem dJ1_charAt_3b067_12 : decode cJ1_charAt_3b067 12 = .ok (.iand, 1) := by decide +kernel
theorem dJ1_charAt_3b067_13 : decode cJ1_charAt_3b067 13 = .ok (.i2c, 1) := by decide +kernel
theorem dJ1_charAt_3b067_14 : decode cJ1_charAt_3b067 14 = .ok (.ireturn, 1) := by decide +kernel
theorem dJ2_getChar_3b067_0 : decode cJ2_getChar_3b067 0 = .ok (.getstatic 44, 3) := by decide +kernel
theorem dJ2_getChar_3b067_3 : decode cJ2_getChar_3b067 3 = .ok (.ifCond .ne 25, 3) := by decide +kernel
theorem dJ2_getChar_3b067_6 : decode cJ2_getChar_3b067 6 = .ok (.iload_n 1, 1) := by decide +kernel
theorem dJ2_getChar_3b067_7 : decode cJ2_getChar_3b067 7 = .ok (.ifCond .lt 11, 3) := by decide +kernel
theorem dJ2_getChar_3b067_10 : decode cJ2_getChar_3b067 10 = .ok (.iload_n 1, 1) := by decide +kernel
theorem dJ2_getChar_3b067_11 : decode cJ2_getChar_3b067 11 = .ok (.aload_n 0, 1) := by decide +kernel
theorem dJ2_getChar_3b067_12 : decode cJ2_getChar_3b067 12 = .ok (.invokestatic 48, 3) := by decide +kernel
theorem dJ2_getChar_3b067_15 : decode cJ2_getChar_3b067 15 = .ok (.if_icmp .lt 13, 3) := by decide +kernel
theorem dJ2_getChar_3b067_18 : decode cJ2_getChar_3b067 18 = .ok (.new 52, 3) := by decide +kernel
theorem dJ2_getChar_3b067_21 : decode cJ2_getChar_3b067 21 = .ok (.dup, 1) := by decide +kernel
theorem dJ2_getChar_3b067_22 : decode cJ2_getChar_3b067 22 = .ok (.ldc 54, 2) := by decide +kernel
theorem dJ2_getChar_3b067_24 : decode cJ2_getChar_3b067 24 = .ok (.invokespecial 56, 3) := by decide +kernel
theorem dJ2_getChar_3b067_27 : decode cJ2_getChar_3b067 27 = .ok (.athrow, 1) := by decide +kernel
theorem dJ2_getChar_3b067_28 : decode cJ2_getChar_3b067 28 = .ok (.iload_n 1, 1) := by decide +kernel
theorem dJ2_getChar_3b067_29 : decode cJ2_getChar_3b067 29 = .ok (.iconst 1, 1) := by decide +kernel
theorem dJ2_getChar_3b067_30 : decode cJ2_getChar_3b067 30 = .ok (.ishl, 1) := by decide +kernel
theorem dJ2_getChar_3b067_31 : decode cJ2_getChar_3b067 31 = .ok (.istore_n 1, 1) := by decide +kernel
theorem dJ2_getChar_3b067_32 : decode cJ2_getChar_3b067 32 = .ok (.aload_n 0, 1) := by decide +kernel
theorem dJ2_getChar_3b067_33 : decode cJ2_getChar_3b067 33 = .ok (.iload_n 1, 1) := by decide +kernel
theorem dJ2_getChar_3b067_34 : decode cJ2_getChar_3b067 34 = .ok (.iinc 1 1, 3) := by decide +kernel
theorem dJ2_getChar_3b067_37 : decode cJ2_getChar_3b067 37 = .ok (.baload, 1) := by decide +kernel
theorem dJ2_getChar_3b067_38 : decode cJ2_getChar_3b067 38 = .ok (.sipush 255, 3) := by decide +kernel
theorem dJ2_getChar_3b067_41 : decode cJ2_getChar_3b067 41 = .ok (.iand, 1) := by decide +kernel
theorem dJ2_getChar_3b067_42 : decode cJ2_getChar_3b067 42 = .ok (.getstatic 59, 3) := by decide +kernel
theorem dJ2_getChar_3b067_45 : decode cJ2_getChar_3b067 45 = .ok (.ishl, 1) := by decide +kernel
theorem dJ2_getChar_3b067_46 : decode cJ2_getChar_3b067 46 = .ok (.aload_n 0, 1) := by decide +kernel
theorem dJ2_getChar_3b067_47 : decode cJ2_getChar_3b067 47 = .ok (.iload_n 1, 1) := by decide +kernel
theorem dJ2_getChar_3b067_48 : decode cJ2_getChar_3b067 48 = .ok (.baload, 1) := by decide +kernel
theorem dJ2_getChar_3b067_49 : decode cJ2_getChar_3b067 49 = .ok (.sipush 255, 3) := by decide +kernel
theorem dJ2_getChar_3b067_52 : decode cJ2_getChar_3b067 52 = .ok (.iand, 1) := by decide +kernel
theorem dJ2_getChar_3b067_53 : decode cJ2_getChar_3b067 53 = .ok (.getstatic 63, 3) := by decide +kernel
theorem dJ2_getChar_3b067_56 : decode cJ2_getChar_3b067 56 = .ok (.ishl, 1) := by decide +kernel
theorem dJ2_getChar_3b067_57 : decode cJ2_getChar_3b067 57 = .ok (.ior, 1) := by decide +kernel
theorem dJ2_getChar_3b067_58 : decode cJ2_getChar_3b067 58 = .ok (.i2c, 1) := by decide +kernel
theorem dJ2_getChar_3b067_59 : decode cJ2_getChar_3b067 59 = .ok (.ireturn, 1) := by decide +kernel
theorem dJ2_length_9d52b_0 : decode cJ2_length_9d52b 0 = .ok (.aload_n 0, 1) := by decide +kernel
theorem dJ2_length_9d52b_1 : decode cJ2_length_9d52b 1 = .ok (.arraylength, 1) := by decide +kernel
theorem dJ2_length_9d52b_2 : decode cJ2_length_9d52b 2 = .ok (.iconst 1, 1) := by decide +kernel
theorem dJ2_length_9d52b_3 : decode cJ2_length_9d52b 3 = .ok (.ishr, 1) := by decide +kernel
theorem dJ2_length_9d52b_4 : decode cJ2_length_9d52b 4 = .ok (.ireturn, 1) := by decide +kernel
theorem dJ2_charAt_3b067_0 : decode cJ2_charAt_3b067 0 = .ok (.iload_n 1, 1) := by decide +kernel
theorem dJ2_charAt_3b067_1 : decode cJ2_charAt_3b067 1 = .ok (.aload_n 0, 1) := by decide +kernel
theorem dJ2_charAt_3b067_2 : decode cJ2_charAt_3b067 2 = .ok (.invokestatic 67, 3) := by decide +kernel
theorem dJ2_charAt_3b067_5 : decode cJ2_charAt_3b067 5 = .ok (.aload_n 0, 1) := by decide +kernel
theorem dJ2_charAt_3b067_6 : decode cJ2_charAt_3b067 6 = .ok (.iload_n 1, 1) := by decide +kernel
theorem dJ2_charAt_3b067_7 : decode cJ2_charAt_3b067 7 = .ok (.invokestatic 71, 3) := by decide +kernel
theorem dJ2_charAt_3b067_10 : decode cJ2_charAt_3b067 10 = .ok (.ireturn, 1) := by decide +kernel
theorem dJ2_checkIndex_2214a_0 : decode cJ2_checkIndex_2214a 0 = .ok (.iload_n 0, 1) := by decide +kernel
theorem dJ2_checkIndex_2214a_1 : decode cJ2_checkIndex_2214a 1 = .ok (.aload_n 1, 1) := by decide +kernel
theorem dJ2_checkIndex_2214a_2 : decode cJ2_checkIndex_2214a 2 = .ok (.invokestatic 48, 3) := by decide +kernel
theorem dJ2_checkIndex_2214a_5 : decode cJ2_checkIndex_2214a 5 = .ok (.invokestatic 414, 3) := by decide +kernel
theorem dJ2_checkIndex_2214a_8 : decode cJ2_checkIndex_2214a 8 = .ok (.return_, 1) := by decide +kernel
theorem dJ3_checkIndex_8e157_0 : decode cJ3_checkIndex_8e157 0 = .ok (.iload_n 0, 1) := by decide +kernel
theorem dJ3_checkIndex_8e157_1 : decode cJ3_checkIndex_8e157 1 = .ok (.ifCond .lt 8, 3) := by decide +kernel
theorem dJ3_checkIndex_8e157_4 : decode cJ3_checkIndex_8e157 4 = .ok (.iload_n 0, 1) := by decide +kernel
theorem dJ3_checkIndex_8e157_5 : decode cJ3_checkIndex_8e157 5 = .ok (.iload_n 1, 1) := by decide +kernel
theorem dJ3_checkIndex_8e157_6 : decode cJ3_checkIndex_8e157 6 = .ok (.if_icmp .lt 10, 3) := by decide +kernel
theorem dJ3_checkIndex_8e157_9 : decode cJ3_checkIndex_8e157 9 = .ok (.aload_n 2, 1) := by decide +kernel
theorem dJ3_checkIndex_8e157_10 : decode cJ3_checkIndex_8e157 10 = .ok (.iload_n 0, 1) := by decide +kernel
theorem dJ3_checkIndex_8e157_11 : decode cJ3_checkIndex_8e157 11 = .ok (.iload_n 1, 1) := by decide +kernel
theorem dJ3_checkIndex_8e157_12 : decode cJ3_checkIndex_8e157 12 = .ok (.invokestatic 95, 3) := by decide +kernel
theorem dJ3_checkIndex_8e157_15 : decode cJ3_checkIndex_8e157 15 = .ok (.athrow, 1) := by decide +kernel
theorem dJ3_checkIndex_8e157_16 : decode cJ3_checkIndex_8e157 16 = .ok (.iload_n 0, 1) := by decide +kernel
theorem dJ3_checkIndex_8e157_17 : decode cJ3_checkIndex_8e157 17 = .ok (.ireturn, 1) := by decide +kernel
end
section
-- decode rows, printed (claim/NAMES.whole)
theorem dX10_init_0 : decode cX10_init 0 = .ok (.aload_n 0, 1) := by decide +kernel
theorem dX10_init_1 : decode cX10_init 1 = .ok (.invokespecial 1, 3) := by decide +kernel
theorem dX10_init_4 : decode cX10_init 4 = .ok (.aload_n 0, 1) := by decide +kernel
theorem dX10_init_5 : decode cX10_init 5 = .ok (.sipush 150, 3) := by decide +kernel
theorem dX10_init_8 : decode cX10_init 8 = .ok (.newarray .int, 2) := by decide +kernel
theorem dX10_init_10 : decode cX10_init 10 = .ok (.putfield 7, 3) := by decide +kernel
theorem dX10_init_13 : decode cX10_init 13 = .ok (.aload_n 0, 1) := by decide +kernel
theorem dX10_init_14 : decode cX10_init 14 = .ok (.sipush 150, 3) := by decide +kernel
theorem dX10_init_17 : decode cX10_init 17 = .ok (.newarray .int, 2) := by decide +kernel
theorem dX10_init_19 : decode cX10_init 19 = .ok (.putfield 13, 3) := by decide +kernel
theorem dX10_init_22 : decode cX10_init 22 = .ok (.aload_n 0, 1) := by decide +kernel
theorem dX10_init_23 : decode cX10_init 23 = .ok (.sipush 150, 3) := by decide +kernel
theorem dX10_init_26 : decode cX10_init 26 = .ok (.newarray .int, 2) := by decide +kernel
theorem dX10_init_28 : decode cX10_init 28 = .ok (.putfield 16, 3) := by decide +kernel
theorem dX10_init_31 : decode cX10_init 31 = .ok (.aload_n 0, 1) := by decide +kernel
theorem dX10_init_32 : decode cX10_init 32 = .ok (.bipush 7, 2) := by decide +kernel
theorem dX10_init_34 : decode cX10_init 34 = .ok (.newarray .int, 2) := by decide +kernel
theorem dX10_init_36 : decode cX10_init 36 = .ok (.putfield 19, 3) := by decide +kernel
theorem dX10_init_39 : decode cX10_init 39 = .ok (.aload_n 0, 1) := by decide +kernel
theorem dX10_init_40 : decode cX10_init 40 = .ok (.iconst 5, 1) := by decide +kernel
theorem dX10_init_41 : decode cX10_init 41 = .ok (.newarray .int, 2) := by decide +kernel
theorem dX10_init_43 : decode cX10_init 43 = .ok (.putfield 22, 3) := by decide +kernel
theorem dX10_init_46 : decode cX10_init 46 = .ok (.aload_n 0, 1) := by decide +kernel
theorem dX10_init_47 : decode cX10_init 47 = .ok (.iconst 5, 1) := by decide +kernel
theorem dX10_init_48 : decode cX10_init 48 = .ok (.newarray .int, 2) := by decide +kernel
theorem dX10_init_50 : decode cX10_init 50 = .ok (.putfield 25, 3) := by decide +kernel
theorem dX10_init_53 : decode cX10_init 53 = .ok (.aload_n 0, 1) := by decide +kernel
theorem dX10_init_54 : decode cX10_init 54 = .ok (.bipush 120, 2) := by decide +kernel
theorem dX10_init_56 : decode cX10_init 56 = .ok (.newarray .int, 2) := by decide +kernel
theorem dX10_init_58 : decode cX10_init 58 = .ok (.putfield 28, 3) := by decide +kernel
theorem dX10_init_61 : decode cX10_init 61 = .ok (.aload_n 0, 1) := by decide +kernel
theorem dX10_init_62 : decode cX10_init 62 = .ok (.iconst 4, 1) := by decide +kernel
theorem dX10_init_63 : decode cX10_init 63 = .ok (.newarray .int, 2) := by decide +kernel
theorem dX10_init_65 : decode cX10_init 65 = .ok (.putfield 31, 3) := by decide +kernel
theorem dX10_init_68 : decode cX10_init 68 = .ok (.aload_n 0, 1) := by decide +kernel
theorem dX10_init_69 : decode cX10_init 69 = .ok (.iconst 4, 1) := by decide +kernel
theorem dX10_init_70 : decode cX10_init 70 = .ok (.newarray .int, 2) := by decide +kernel
theorem dX10_init_72 : decode cX10_init 72 = .ok (.putfield 34, 3) := by decide +kernel
theorem dX10_init_75 : decode cX10_init 75 = .ok (.aload_n 0, 1) := by decide +kernel
theorem dX10_init_76 : decode cX10_init 76 = .ok (.sipush 160, 3) := by decide +kernel
theorem dX10_init_79 : decode cX10_init 79 = .ok (.newarray .long, 2) := by decide +kernel
theorem dX10_init_81 : decode cX10_init 81 = .ok (.putfield 37, 3) := by decide +kernel
theorem dX10_init_84 : decode cX10_init 84 = .ok (.aload_n 0, 1) := by decide +kernel
theorem dX10_init_85 : decode cX10_init 85 = .ok (.bipush 40, 2) := by decide +kernel
theorem dX10_init_87 : decode cX10_init 87 = .ok (.newarray .long, 2) := by decide +kernel
theorem dX10_init_89 : decode cX10_init 89 = .ok (.putfield 41, 3) := by decide +kernel
theorem dX10_init_92 : decode cX10_init 92 = .ok (.aload_n 0, 1) := by decide +kernel
theorem dX10_init_93 : decode cX10_init 93 = .ok (.getfield 7, 3) := by decide +kernel
theorem dX10_init_96 : decode cX10_init 96 = .ok (.iconst 2, 1) := by decide +kernel
theorem dX10_init_97 : decode cX10_init 97 = .ok (.bipush 60, 2) := by decide +kernel
theorem dX10_init_99 : decode cX10_init 99 = .ok (.iastore, 1) := by decide +kernel
theorem dX10_init_100 : decode cX10_init 100 = .ok (.return_, 1) := by decide +kernel
theorem dX10_in_0 : decode cX10_in 0 = .ok (.lload_n 0, 1) := by decide +kernel
theorem dX10_in_1 : decode cX10_in 1 = .ok (.lload_n 2, 1) := by decide +kernel
theorem dX10_in_2 : decode cX10_in 2 = .ok (.lcmp, 1) := by decide +kernel
theorem dX10_in_3 : decode cX10_in 3 = .ok (.ifCond .lt 14, 3) := by decide +kernel
theorem dX10_in_6 : decode cX10_in 6 = .ok (.lload_n 0, 1) := by decide +kernel
theorem dX10_in_7 : decode cX10_in 7 = .ok (.lload 4, 2) := by decide +kernel
theorem dX10_in_9 : decode cX10_in 9 = .ok (.lcmp, 1) := by decide +kernel
theorem dX10_in_10 : decode cX10_in 10 = .ok (.ifCond .gt 7, 3) := by decide +kernel
theorem dX10_in_13 : decode cX10_in 13 = .ok (.iconst 1, 1) := by decide +kernel
theorem dX10_in_14 : decode cX10_in 14 = .ok (.goto 4, 3) := by decide +kernel
theorem dX10_in_17 : decode cX10_in 17 = .ok (.iconst 0, 1) := by decide +kernel
theorem dX10_in_18 : decode cX10_in 18 = .ok (.ireturn, 1) := by decide +kernel
theorem dX10_finds_0 : decode cX10_finds 0 = .ok (.aload_n 0, 1) := by decide +kernel
theorem dX10_finds_1 : decode cX10_finds 1 = .ok (.getfield 19, 3) := by decide +kernel
theorem dX10_finds_4 : decode cX10_finds 4 = .ok (.ldc 44, 2) := by decide +kernel
theorem dX10_finds_6 : decode cX10_finds 6 = .ok (.iload_n 1, 1) := by decide +kernel
theorem dX10_finds_7 : decode cX10_finds 7 = .ok (.isub, 1) := by decide +kernel
theorem dX10_finds_8 : decode cX10_finds 8 = .ok (.dup2, 1) := by decide +kernel
theorem dX10_finds_9 : decode cX10_finds 9 = .ok (.iaload, 1) := by decide +kernel
theorem dX10_finds_10 : decode cX10_finds 10 = .ok (.iconst 1, 1) := by decide +kernel
theorem dX10_finds_11 : decode cX10_finds 11 = .ok (.iadd, 1) := by decide +kernel
theorem dX10_finds_12 : decode cX10_finds 12 = .ok (.iastore, 1) := by decide +kernel
theorem dX10_finds_13 : decode cX10_finds 13 = .ok (.iload_n 1, 1) := by decide +kernel
theorem dX10_finds_14 : decode cX10_finds 14 = .ok (.ireturn, 1) := by decide +kernel
theorem dX10_has_0 : decode cX10_has 0 = .ok (.iload_n 0, 1) := by decide +kernel
theorem dX10_has_1 : decode cX10_has 1 = .ok (.iload_n 1, 1) := by decide +kernel
theorem dX10_has_2 : decode cX10_has 2 = .ok (.ishr, 1) := by decide +kernel
theorem dX10_has_3 : decode cX10_has 3 = .ok (.iconst 1, 1) := by decide +kernel
theorem dX10_has_4 : decode cX10_has 4 = .ok (.iand, 1) := by decide +kernel
theorem dX10_has_5 : decode cX10_has 5 = .ok (.iconst 1, 1) := by decide +kernel
theorem dX10_has_6 : decode cX10_has 6 = .ok (.if_icmp .ne 7, 3) := by decide +kernel
theorem dX10_has_9 : decode cX10_has 9 = .ok (.iconst 1, 1) := by decide +kernel
theorem dX10_has_10 : decode cX10_has 10 = .ok (.goto 4, 3) := by decide +kernel
theorem dX10_has_13 : decode cX10_has 13 = .ok (.iconst 0, 1) := by decide +kernel
theorem dX10_has_14 : decode cX10_has 14 = .ok (.ireturn, 1) := by decide +kernel
theorem dX10_ones_0 : decode cX10_ones 0 = .ok (.iconst 0, 1) := by decide +kernel
theorem dX10_ones_1 : decode cX10_ones 1 = .ok (.istore_n 1, 1) := by decide +kernel
theorem dX10_ones_2 : decode cX10_ones 2 = .ok (.iload_n 0, 1) := by decide +kernel
theorem dX10_ones_3 : decode cX10_ones 3 = .ok (.istore_n 2, 1) := by decide +kernel
theorem dX10_ones_4 : decode cX10_ones 4 = .ok (.iload_n 2, 1) := by decide +kernel
theorem dX10_ones_5 : decode cX10_ones 5 = .ok (.ifCond .eq 15, 3) := by decide +kernel
theorem dX10_ones_8 : decode cX10_ones 8 = .ok (.iinc 1 1, 3) := by decide +kernel
theorem dX10_ones_11 : decode cX10_ones 11 = .ok (.iload_n 2, 1) := by decide +kernel
theorem dX10_ones_12 : decode cX10_ones 12 = .ok (.iload_n 2, 1) := by decide +kernel
theorem dX10_ones_13 : decode cX10_ones 13 = .ok (.iconst 1, 1) := by decide +kernel
theorem dX10_ones_14 : decode cX10_ones 14 = .ok (.isub, 1) := by decide +kernel
theorem dX10_ones_15 : decode cX10_ones 15 = .ok (.iand, 1) := by decide +kernel
theorem dX10_ones_16 : decode cX10_ones 16 = .ok (.istore_n 2, 1) := by decide +kernel
theorem dX10_ones_17 : decode cX10_ones 17 = .ok (.goto (-13), 3) := by decide +kernel
theorem dX10_ones_20 : decode cX10_ones 20 = .ok (.iload_n 1, 1) := by decide +kernel
theorem dX10_ones_21 : decode cX10_ones 21 = .ok (.ireturn, 1) := by decide +kernel
theorem dX10_isPhrase_0 : decode cX10_isPhrase 0 = .ok (.iload_n 1, 1) := by decide +kernel
theorem dX10_isPhrase_1 : decode cX10_isPhrase 1 = .ok (.i2l, 1) := by decide +kernel
theorem dX10_isPhrase_2 : decode cX10_isPhrase 2 = .ok (.lconst 0, 1) := by decide +kernel
theorem dX10_isPhrase_3 : decode cX10_isPhrase 3 = .ok (.aload_n 0, 1) := by decide +kernel
theorem dX10_isPhrase_4 : decode cX10_isPhrase 4 = .ok (.getfield 7, 3) := by decide +kernel
theorem dX10_isPhrase_7 : decode cX10_isPhrase 7 = .ok (.iconst 0, 1) := by decide +kernel
theorem dX10_isPhrase_8 : decode cX10_isPhrase 8 = .ok (.iaload, 1) := by decide +kernel
theorem dX10_isPhrase_9 : decode cX10_isPhrase 9 = .ok (.iconst 1, 1) := by decide +kernel
theorem dX10_isPhrase_10 : decode cX10_isPhrase 10 = .ok (.isub, 1) := by decide +kernel
theorem dX10_isPhrase_11 : decode cX10_isPhrase 11 = .ok (.i2l, 1) := by decide +kernel
theorem dX10_isPhrase_12 : decode cX10_isPhrase 12 = .ok (.invokestatic 45, 3) := by decide +kernel
theorem dX10_isPhrase_15 : decode cX10_isPhrase 15 = .ok (.ireturn, 1) := by decide +kernel
theorem dX10_isWant_0 : decode cX10_isWant 0 = .ok (.iload_n 1, 1) := by decide +kernel
theorem dX10_isWant_1 : decode cX10_isWant 1 = .ok (.i2l, 1) := by decide +kernel
theorem dX10_isWant_2 : decode cX10_isWant 2 = .ok (.lconst 0, 1) := by decide +kernel
theorem dX10_isWant_3 : decode cX10_isWant 3 = .ok (.aload_n 0, 1) := by decide +kernel
theorem dX10_isWant_4 : decode cX10_isWant 4 = .ok (.getfield 7, 3) := by decide +kernel
theorem dX10_isWant_7 : decode cX10_isWant 7 = .ok (.iconst 1, 1) := by decide +kernel
theorem dX10_isWant_8 : decode cX10_isWant 8 = .ok (.iaload, 1) := by decide +kernel
theorem dX10_isWant_9 : decode cX10_isWant 9 = .ok (.iconst 1, 1) := by decide +kernel
theorem dX10_isWant_10 : decode cX10_isWant 10 = .ok (.isub, 1) := by decide +kernel
theorem dX10_isWant_11 : decode cX10_isWant 11 = .ok (.i2l, 1) := by decide +kernel
theorem dX10_isWant_12 : decode cX10_isWant 12 = .ok (.invokestatic 45, 3) := by decide +kernel
theorem dX10_isWant_15 : decode cX10_isWant 15 = .ok (.ireturn, 1) := by decide +kernel
theorem dX10_isSet_0 : decode cX10_isSet 0 = .ok (.iload_n 1, 1) := by decide +kernel
theorem dX10_isSet_1 : decode cX10_isSet 1 = .ok (.i2l, 1) := by decide +kernel
theorem dX10_isSet_2 : decode cX10_isSet 2 = .ok (.lconst 0, 1) := by decide +kernel
theorem dX10_isSet_3 : decode cX10_isSet 3 = .ok (.iconst 1, 1) := by decide +kernel
theorem dX10_isSet_4 : decode cX10_isSet 4 = .ok (.aload_n 0, 1) := by decide +kernel
theorem dX10_isSet_5 : decode cX10_isSet 5 = .ok (.getfield 7, 3) := by decide +kernel
theorem dX10_isSet_8 : decode cX10_isSet 8 = .ok (.iconst 0, 1) := by decide +kernel
theorem dX10_isSet_9 : decode cX10_isSet 9 = .ok (.iaload, 1) := by decide +kernel
theorem dX10_isSet_10 : decode cX10_isSet 10 = .ok (.ishl, 1) := by decide +kernel
theorem dX10_isSet_11 : decode cX10_isSet 11 = .ok (.iconst 1, 1) := by decide +kernel
theorem dX10_isSet_12 : decode cX10_isSet 12 = .ok (.isub, 1) := by decide +kernel
theorem dX10_isSet_13 : decode cX10_isSet 13 = .ok (.i2l, 1) := by decide +kernel
theorem dX10_isSet_14 : decode cX10_isSet 14 = .ok (.invokestatic 45, 3) := by decide +kernel
theorem dX10_isSet_17 : decode cX10_isSet 17 = .ok (.ireturn, 1) := by decide +kernel
theorem dX10_at_0 : decode cX10_at 0 = .ok (.bipush 6, 2) := by decide +kernel
theorem dX10_at_2 : decode cX10_at 2 = .ok (.bipush 6, 2) := by decide +kernel
theorem dX10_at_4 : decode cX10_at 4 = .ok (.iload_n 0, 1) := by decide +kernel
theorem dX10_at_5 : decode cX10_at 5 = .ok (.imul, 1) := by decide +kernel
theorem dX10_at_6 : decode cX10_at 6 = .ok (.iadd, 1) := by decide +kernel
theorem dX10_at_7 : decode cX10_at 7 = .ok (.iload_n 1, 1) := by decide +kernel
theorem dX10_at_8 : decode cX10_at 8 = .ok (.iadd, 1) := by decide +kernel
theorem dX10_at_9 : decode cX10_at 9 = .ok (.ireturn, 1) := by decide +kernel
theorem dX10_its_0 : decode cX10_its 0 = .ok (.aload_n 0, 1) := by decide +kernel
theorem dX10_its_1 : decode cX10_its 1 = .ok (.getfield 7, 3) := by decide +kernel
theorem dX10_its_4 : decode cX10_its 4 = .ok (.iload_n 1, 1) := by decide +kernel
theorem dX10_its_5 : decode cX10_its 5 = .ok (.iload_n 2, 1) := by decide +kernel
theorem dX10_its_6 : decode cX10_its 6 = .ok (.invokestatic 49, 3) := by decide +kernel
theorem dX10_its_9 : decode cX10_its 9 = .ok (.iaload, 1) := by decide +kernel
theorem dX10_its_10 : decode cX10_its 10 = .ok (.ireturn, 1) := by decide +kernel
theorem dX10_wants_0 : decode cX10_wants 0 = .ok (.aload_n 0, 1) := by decide +kernel
theorem dX10_wants_1 : decode cX10_wants 1 = .ok (.getfield 7, 3) := by decide +kernel
theorem dX10_wants_4 : decode cX10_wants 4 = .ok (.bipush 78, 2) := by decide +kernel
theorem dX10_wants_6 : decode cX10_wants 6 = .ok (.iconst 5, 1) := by decide +kernel
theorem dX10_wants_7 : decode cX10_wants 7 = .ok (.iload_n 1, 1) := by decide +kernel
theorem dX10_wants_8 : decode cX10_wants 8 = .ok (.imul, 1) := by decide +kernel
theorem dX10_wants_9 : decode cX10_wants 9 = .ok (.iadd, 1) := by decide +kernel
theorem dX10_wants_10 : decode cX10_wants 10 = .ok (.iload_n 2, 1) := by decide +kernel
theorem dX10_wants_11 : decode cX10_wants 11 = .ok (.iadd, 1) := by decide +kernel
theorem dX10_wants_12 : decode cX10_wants 12 = .ok (.iaload, 1) := by decide +kernel
theorem dX10_wants_13 : decode cX10_wants 13 = .ok (.ireturn, 1) := by decide +kernel
theorem dX10_puts_0 : decode cX10_puts 0 = .ok (.iconst 0, 1) := by decide +kernel
theorem dX10_puts_1 : decode cX10_puts 1 = .ok (.istore_n 1, 1) := by decide +kernel
theorem dX10_puts_2 : decode cX10_puts 2 = .ok (.iload_n 1, 1) := by decide +kernel
theorem dX10_puts_3 : decode cX10_puts 3 = .ok (.sipush 150, 3) := by decide +kernel
theorem dX10_puts_6 : decode cX10_puts 6 = .ok (.if_icmp .ge 21, 3) := by decide +kernel
theorem dX10_puts_9 : decode cX10_puts 9 = .ok (.aload_n 0, 1) := by decide +kernel
theorem dX10_puts_10 : decode cX10_puts 10 = .ok (.getfield 16, 3) := by decide +kernel
theorem dX10_puts_13 : decode cX10_puts 13 = .ok (.iload_n 1, 1) := by decide +kernel
theorem dX10_puts_14 : decode cX10_puts 14 = .ok (.aload_n 0, 1) := by decide +kernel
theorem dX10_puts_15 : decode cX10_puts 15 = .ok (.getfield 7, 3) := by decide +kernel
theorem dX10_puts_18 : decode cX10_puts 18 = .ok (.iload_n 1, 1) := by decide +kernel
theorem dX10_puts_19 : decode cX10_puts 19 = .ok (.iaload, 1) := by decide +kernel
theorem dX10_puts_20 : decode cX10_puts 20 = .ok (.iastore, 1) := by decide +kernel
theorem dX10_puts_21 : decode cX10_puts 21 = .ok (.iinc 1 1, 3) := by decide +kernel
theorem dX10_puts_24 : decode cX10_puts 24 = .ok (.goto (-22), 3) := by decide +kernel
theorem dX10_puts_27 : decode cX10_puts 27 = .ok (.return_, 1) := by decide +kernel
theorem dX10_putsBack_0 : decode cX10_putsBack 0 = .ok (.iconst 0, 1) := by decide +kernel
theorem dX10_putsBack_1 : decode cX10_putsBack 1 = .ok (.istore_n 1, 1) := by decide +kernel
theorem dX10_putsBack_2 : decode cX10_putsBack 2 = .ok (.iload_n 1, 1) := by decide +kernel
theorem dX10_putsBack_3 : decode cX10_putsBack 3 = .ok (.sipush 150, 3) := by decide +kernel
theorem dX10_putsBack_6 : decode cX10_putsBack 6 = .ok (.if_icmp .ge 21, 3) := by decide +kernel
theorem dX10_putsBack_9 : decode cX10_putsBack 9 = .ok (.aload_n 0, 1) := by decide +kernel
theorem dX10_putsBack_10 : decode cX10_putsBack 10 = .ok (.getfield 7, 3) := by decide +kernel
theorem dX10_putsBack_13 : decode cX10_putsBack 13 = .ok (.iload_n 1, 1) := by decide +kernel
theorem dX10_putsBack_14 : decode cX10_putsBack 14 = .ok (.aload_n 0, 1) := by decide +kernel
theorem dX10_putsBack_15 : decode cX10_putsBack 15 = .ok (.getfield 16, 3) := by decide +kernel
theorem dX10_putsBack_18 : decode cX10_putsBack 18 = .ok (.iload_n 1, 1) := by decide +kernel
theorem dX10_putsBack_19 : decode cX10_putsBack 19 = .ok (.iaload, 1) := by decide +kernel
theorem dX10_putsBack_20 : decode cX10_putsBack 20 = .ok (.iastore, 1) := by decide +kernel
theorem dX10_putsBack_21 : decode cX10_putsBack 21 = .ok (.iinc 1 1, 3) := by decide +kernel
theorem dX10_putsBack_24 : decode cX10_putsBack 24 = .ok (.goto (-22), 3) := by decide +kernel
theorem dX10_putsBack_27 : decode cX10_putsBack 27 = .ok (.return_, 1) := by decide +kernel
theorem dX10_isPart_0 : decode cX10_isPart 0 = .ok (.iload_n 0, 1) := by decide +kernel
theorem dX10_isPart_1 : decode cX10_isPart 1 = .ok (.tableswitch 71 0 3 #[31, 41, 51, 61], 31) := by decide +kernel
theorem dX10_isPart_32 : decode cX10_isPart 32 = .ok (.iload_n 1, 1) := by decide +kernel
theorem dX10_isPart_33 : decode cX10_isPart 33 = .ok (.i2l, 1) := by decide +kernel
theorem dX10_isPart_34 : decode cX10_isPart 34 = .ok (.lconst 0, 1) := by decide +kernel
theorem dX10_isPart_35 : decode cX10_isPart 35 = .ok (.ldc2_w 53, 3) := by decide +kernel
theorem dX10_isPart_38 : decode cX10_isPart 38 = .ok (.invokestatic 45, 3) := by decide +kernel
theorem dX10_isPart_41 : decode cX10_isPart 41 = .ok (.ireturn, 1) := by decide +kernel
theorem dX10_isPart_42 : decode cX10_isPart 42 = .ok (.iload_n 1, 1) := by decide +kernel
theorem dX10_isPart_43 : decode cX10_isPart 43 = .ok (.i2l, 1) := by decide +kernel
theorem dX10_isPart_44 : decode cX10_isPart 44 = .ok (.lconst 0, 1) := by decide +kernel
theorem dX10_isPart_45 : decode cX10_isPart 45 = .ok (.ldc2_w 55, 3) := by decide +kernel
theorem dX10_isPart_48 : decode cX10_isPart 48 = .ok (.invokestatic 45, 3) := by decide +kernel
theorem dX10_isPart_51 : decode cX10_isPart 51 = .ok (.ireturn, 1) := by decide +kernel
theorem dX10_isPart_52 : decode cX10_isPart 52 = .ok (.iload_n 1, 1) := by decide +kernel
theorem dX10_isPart_53 : decode cX10_isPart 53 = .ok (.i2l, 1) := by decide +kernel
theorem dX10_isPart_54 : decode cX10_isPart 54 = .ok (.lconst 1, 1) := by decide +kernel
theorem dX10_isPart_55 : decode cX10_isPart 55 = .ok (.ldc2_w 57, 3) := by decide +kernel
theorem dX10_isPart_58 : decode cX10_isPart 58 = .ok (.invokestatic 45, 3) := by decide +kernel
theorem dX10_isPart_61 : decode cX10_isPart 61 = .ok (.ireturn, 1) := by decide +kernel
theorem dX10_isPart_62 : decode cX10_isPart 62 = .ok (.iload_n 1, 1) := by decide +kernel
theorem dX10_isPart_63 : decode cX10_isPart 63 = .ok (.i2l, 1) := by decide +kernel
theorem dX10_isPart_64 : decode cX10_isPart 64 = .ok (.lconst 0, 1) := by decide +kernel
theorem dX10_isPart_65 : decode cX10_isPart 65 = .ok (.ldc2_w 59, 3) := by decide +kernel
theorem dX10_isPart_68 : decode cX10_isPart 68 = .ok (.invokestatic 45, 3) := by decide +kernel
theorem dX10_isPart_71 : decode cX10_isPart 71 = .ok (.ireturn, 1) := by decide +kernel
theorem dX10_isPart_72 : decode cX10_isPart 72 = .ok (.iload_n 0, 1) := by decide +kernel
theorem dX10_isPart_73 : decode cX10_isPart 73 = .ok (.iconst 4, 1) := by decide +kernel
theorem dX10_isPart_74 : decode cX10_isPart 74 = .ok (.if_icmp .ne 19, 3) := by decide +kernel
theorem dX10_isPart_77 : decode cX10_isPart 77 = .ok (.iload_n 1, 1) := by decide +kernel
theorem dX10_isPart_78 : decode cX10_isPart 78 = .ok (.i2l, 1) := by decide +kernel
theorem dX10_isPart_79 : decode cX10_isPart 79 = .ok (.lconst 0, 1) := by decide +kernel
theorem dX10_isPart_80 : decode cX10_isPart 80 = .ok (.ldc2_w 61, 3) := by decide +kernel
theorem dX10_isPart_83 : decode cX10_isPart 83 = .ok (.invokestatic 45, 3) := by decide +kernel
theorem dX10_isPart_86 : decode cX10_isPart 86 = .ok (.ifCond .eq 7, 3) := by decide +kernel
theorem dX10_isPart_89 : decode cX10_isPart 89 = .ok (.iconst 1, 1) := by decide +kernel
theorem dX10_isPart_90 : decode cX10_isPart 90 = .ok (.goto 4, 3) := by decide +kernel
theorem dX10_isPart_93 : decode cX10_isPart 93 = .ok (.iconst 0, 1) := by decide +kernel
theorem dX10_isPart_94 : decode cX10_isPart 94 = .ok (.ireturn, 1) := by decide +kernel
theorem dX10_newPhrase_0 : decode cX10_newPhrase 0 = .ok (.aload_n 0, 1) := by decide +kernel
theorem dX10_newPhrase_1 : decode cX10_newPhrase 1 = .ok (.getfield 7, 3) := by decide +kernel
theorem dX10_newPhrase_4 : decode cX10_newPhrase 4 = .ok (.iconst 0, 1) := by decide +kernel
theorem dX10_newPhrase_5 : decode cX10_newPhrase 5 = .ok (.iaload, 1) := by decide +kernel
theorem dX10_newPhrase_6 : decode cX10_newPhrase 6 = .ok (.istore 5, 2) := by decide +kernel
theorem dX10_newPhrase_8 : decode cX10_newPhrase 8 = .ok (.aload_n 0, 1) := by decide +kernel
theorem dX10_newPhrase_9 : decode cX10_newPhrase 9 = .ok (.getfield 7, 3) := by decide +kernel
theorem dX10_newPhrase_12 : decode cX10_newPhrase 12 = .ok (.iload 5, 2) := by decide +kernel
theorem dX10_newPhrase_14 : decode cX10_newPhrase 14 = .ok (.iconst 0, 1) := by decide +kernel
theorem dX10_newPhrase_15 : decode cX10_newPhrase 15 = .ok (.invokestatic 49, 3) := by decide +kernel
theorem dX10_newPhrase_18 : decode cX10_newPhrase 18 = .ok (.iload_n 1, 1) := by decide +kernel
theorem dX10_newPhrase_19 : decode cX10_newPhrase 19 = .ok (.iastore, 1) := by decide +kernel
theorem dX10_newPhrase_20 : decode cX10_newPhrase 20 = .ok (.aload_n 0, 1) := by decide +kernel
theorem dX10_newPhrase_21 : decode cX10_newPhrase 21 = .ok (.getfield 7, 3) := by decide +kernel
theorem dX10_newPhrase_24 : decode cX10_newPhrase 24 = .ok (.iload 5, 2) := by decide +kernel
theorem dX10_newPhrase_26 : decode cX10_newPhrase 26 = .ok (.iconst 1, 1) := by decide +kernel
theorem dX10_newPhrase_27 : decode cX10_newPhrase 27 = .ok (.invokestatic 49, 3) := by decide +kernel
theorem dX10_newPhrase_30 : decode cX10_newPhrase 30 = .ok (.iload_n 2, 1) := by decide +kernel
theorem dX10_newPhrase_31 : decode cX10_newPhrase 31 = .ok (.iastore, 1) := by decide +kernel
theorem dX10_newPhrase_32 : decode cX10_newPhrase 32 = .ok (.aload_n 0, 1) := by decide +kernel
theorem dX10_newPhrase_33 : decode cX10_newPhrase 33 = .ok (.getfield 7, 3) := by decide +kernel
theorem dX10_newPhrase_36 : decode cX10_newPhrase 36 = .ok (.iload 5, 2) := by decide +kernel
theorem dX10_newPhrase_38 : decode cX10_newPhrase 38 = .ok (.iconst 2, 1) := by decide +kernel
theorem dX10_newPhrase_39 : decode cX10_newPhrase 39 = .ok (.invokestatic 49, 3) := by decide +kernel
theorem dX10_newPhrase_42 : decode cX10_newPhrase 42 = .ok (.iload_n 3, 1) := by decide +kernel
theorem dX10_newPhrase_43 : decode cX10_newPhrase 43 = .ok (.iastore, 1) := by decide +kernel
theorem dX10_newPhrase_44 : decode cX10_newPhrase 44 = .ok (.aload_n 0, 1) := by decide +kernel
theorem dX10_newPhrase_45 : decode cX10_newPhrase 45 = .ok (.getfield 7, 3) := by decide +kernel
theorem dX10_newPhrase_48 : decode cX10_newPhrase 48 = .ok (.iload 5, 2) := by decide +kernel
theorem dX10_newPhrase_50 : decode cX10_newPhrase 50 = .ok (.iconst 3, 1) := by decide +kernel
theorem dX10_newPhrase_51 : decode cX10_newPhrase 51 = .ok (.invokestatic 49, 3) := by decide +kernel
theorem dX10_newPhrase_54 : decode cX10_newPhrase 54 = .ok (.iload 4, 2) := by decide +kernel
theorem dX10_newPhrase_56 : decode cX10_newPhrase 56 = .ok (.iastore, 1) := by decide +kernel
theorem dX10_newPhrase_57 : decode cX10_newPhrase 57 = .ok (.aload_n 0, 1) := by decide +kernel
theorem dX10_newPhrase_58 : decode cX10_newPhrase 58 = .ok (.getfield 7, 3) := by decide +kernel
theorem dX10_newPhrase_61 : decode cX10_newPhrase 61 = .ok (.iload 5, 2) := by decide +kernel
theorem dX10_newPhrase_63 : decode cX10_newPhrase 63 = .ok (.iconst 4, 1) := by decide +kernel
theorem dX10_newPhrase_64 : decode cX10_newPhrase 64 = .ok (.invokestatic 49, 3) := by decide +kernel
theorem dX10_newPhrase_67 : decode cX10_newPhrase 67 = .ok (.iconst 0, 1) := by decide +kernel
theorem dX10_newPhrase_68 : decode cX10_newPhrase 68 = .ok (.iastore, 1) := by decide +kernel
theorem dX10_newPhrase_69 : decode cX10_newPhrase 69 = .ok (.aload_n 0, 1) := by decide +kernel
theorem dX10_newPhrase_70 : decode cX10_newPhrase 70 = .ok (.getfield 7, 3) := by decide +kernel
theorem dX10_newPhrase_73 : decode cX10_newPhrase 73 = .ok (.iload 5, 2) := by decide +kernel
theorem dX10_newPhrase_75 : decode cX10_newPhrase 75 = .ok (.iconst 5, 1) := by decide +kernel
theorem dX10_newPhrase_76 : decode cX10_newPhrase 76 = .ok (.invokestatic 49, 3) := by decide +kernel
theorem dX10_newPhrase_79 : decode cX10_newPhrase 79 = .ok (.iconst 0, 1) := by decide +kernel
theorem dX10_newPhrase_80 : decode cX10_newPhrase 80 = .ok (.iastore, 1) := by decide +kernel
theorem dX10_newPhrase_81 : decode cX10_newPhrase 81 = .ok (.aload_n 0, 1) := by decide +kernel
theorem dX10_newPhrase_82 : decode cX10_newPhrase 82 = .ok (.getfield 7, 3) := by decide +kernel
theorem dX10_newPhrase_85 : decode cX10_newPhrase 85 = .ok (.iconst 0, 1) := by decide +kernel
theorem dX10_newPhrase_86 : decode cX10_newPhrase 86 = .ok (.dup2, 1) := by decide +kernel
theorem dX10_newPhrase_87 : decode cX10_newPhrase 87 = .ok (.iaload, 1) := by decide +kernel
theorem dX10_newPhrase_88 : decode cX10_newPhrase 88 = .ok (.iconst 1, 1) := by decide +kernel
theorem dX10_newPhrase_89 : decode cX10_newPhrase 89 = .ok (.iadd, 1) := by decide +kernel
theorem dX10_newPhrase_90 : decode cX10_newPhrase 90 = .ok (.iastore, 1) := by decide +kernel
theorem dX10_newPhrase_91 : decode cX10_newPhrase 91 = .ok (.iload 5, 2) := by decide +kernel
theorem dX10_newPhrase_93 : decode cX10_newPhrase 93 = .ok (.ireturn, 1) := by decide +kernel
theorem dX10_phrase_0 : decode cX10_phrase 0 = .ok (.iconst 0, 1) := by decide +kernel
theorem dX10_phrase_1 : decode cX10_phrase 1 = .ok (.iload_n 1, 1) := by decide +kernel
theorem dX10_phrase_2 : decode cX10_phrase 2 = .ok (.invokestatic 63, 3) := by decide +kernel
theorem dX10_phrase_5 : decode cX10_phrase 5 = .ok (.ifCond .eq 28, 3) := by decide +kernel
theorem dX10_phrase_8 : decode cX10_phrase 8 = .ok (.iconst 1, 1) := by decide +kernel
theorem dX10_phrase_9 : decode cX10_phrase 9 = .ok (.iload_n 2, 1) := by decide +kernel
theorem dX10_phrase_10 : decode cX10_phrase 10 = .ok (.invokestatic 63, 3) := by decide +kernel
theorem dX10_phrase_13 : decode cX10_phrase 13 = .ok (.ifCond .eq 20, 3) := by decide +kernel
theorem dX10_phrase_16 : decode cX10_phrase 16 = .ok (.iconst 2, 1) := by decide +kernel
theorem dX10_phrase_17 : decode cX10_phrase 17 = .ok (.iload_n 3, 1) := by decide +kernel
theorem dX10_phrase_18 : decode cX10_phrase 18 = .ok (.invokestatic 63, 3) := by decide +kernel
theorem dX10_phrase_21 : decode cX10_phrase 21 = .ok (.ifCond .eq 12, 3) := by decide +kernel
theorem dX10_phrase_24 : decode cX10_phrase 24 = .ok (.iconst 3, 1) := by decide +kernel
theorem dX10_phrase_25 : decode cX10_phrase 25 = .ok (.iload 4, 2) := by decide +kernel
theorem dX10_phrase_27 : decode cX10_phrase 27 = .ok (.invokestatic 63, 3) := by decide +kernel
theorem dX10_phrase_30 : decode cX10_phrase 30 = .ok (.ifCond .ne 10, 3) := by decide +kernel
theorem dX10_phrase_33 : decode cX10_phrase 33 = .ok (.aload_n 0, 1) := by decide +kernel
theorem dX10_phrase_34 : decode cX10_phrase 34 = .ok (.ldc 44, 2) := by decide +kernel
theorem dX10_phrase_36 : decode cX10_phrase 36 = .ok (.invokevirtual 67, 3) := by decide +kernel
theorem dX10_phrase_39 : decode cX10_phrase 39 = .ok (.ireturn, 1) := by decide +kernel
theorem dX10_phrase_40 : decode cX10_phrase 40 = .ok (.aload_n 0, 1) := by decide +kernel
theorem dX10_phrase_41 : decode cX10_phrase 41 = .ok (.getfield 7, 3) := by decide +kernel
theorem dX10_phrase_44 : decode cX10_phrase 44 = .ok (.iconst 0, 1) := by decide +kernel
theorem dX10_phrase_45 : decode cX10_phrase 45 = .ok (.iaload, 1) := by decide +kernel
theorem dX10_phrase_46 : decode cX10_phrase 46 = .ok (.bipush 12, 2) := by decide +kernel
theorem dX10_phrase_48 : decode cX10_phrase 48 = .ok (.if_icmp .ne 12, 3) := by decide +kernel
theorem dX10_phrase_51 : decode cX10_phrase 51 = .ok (.aload_n 0, 1) := by decide +kernel
theorem dX10_phrase_52 : decode cX10_phrase 52 = .ok (.ldc 71, 2) := by decide +kernel
theorem dX10_phrase_54 : decode cX10_phrase 54 = .ok (.invokevirtual 67, 3) := by decide +kernel
theorem dX10_phrase_57 : decode cX10_phrase 57 = .ok (.goto 12, 3) := by decide +kernel
theorem dX10_phrase_60 : decode cX10_phrase 60 = .ok (.aload_n 0, 1) := by decide +kernel
theorem dX10_phrase_61 : decode cX10_phrase 61 = .ok (.iload_n 1, 1) := by decide +kernel
theorem dX10_phrase_62 : decode cX10_phrase 62 = .ok (.iload_n 2, 1) := by decide +kernel
theorem dX10_phrase_63 : decode cX10_phrase 63 = .ok (.iload_n 3, 1) := by decide +kernel
theorem dX10_phrase_64 : decode cX10_phrase 64 = .ok (.iload 4, 2) := by decide +kernel
theorem dX10_phrase_66 : decode cX10_phrase 66 = .ok (.invokevirtual 72, 3) := by decide +kernel
theorem dX10_phrase_69 : decode cX10_phrase 69 = .ok (.ireturn, 1) := by decide +kernel
theorem dX10_isKnown_0 : decode cX10_isKnown 0 = .ok (.aload_n 0, 1) := by decide +kernel
theorem dX10_isKnown_1 : decode cX10_isKnown 1 = .ok (.iload_n 1, 1) := by decide +kernel
theorem dX10_isKnown_2 : decode cX10_isKnown 2 = .ok (.iconst 4, 1) := by decide +kernel
theorem dX10_isKnown_3 : decode cX10_isKnown 3 = .ok (.invokevirtual 76, 3) := by decide +kernel
theorem dX10_isKnown_6 : decode cX10_isKnown 6 = .ok (.aload_n 0, 1) := by decide +kernel
theorem dX10_isKnown_7 : decode cX10_isKnown 7 = .ok (.getfield 7, 3) := by decide +kernel
theorem dX10_isKnown_10 : decode cX10_isKnown 10 = .ok (.iconst 2, 1) := by decide +kernel
theorem dX10_isKnown_11 : decode cX10_isKnown 11 = .ok (.iaload, 1) := by decide +kernel
theorem dX10_isKnown_12 : decode cX10_isKnown 12 = .ok (.if_icmp .lt 7, 3) := by decide +kernel
theorem dX10_isKnown_15 : decode cX10_isKnown 15 = .ok (.iconst 1, 1) := by decide +kernel
theorem dX10_isKnown_16 : decode cX10_isKnown 16 = .ok (.goto 4, 3) := by decide +kernel
theorem dX10_isKnown_19 : decode cX10_isKnown 19 = .ok (.iconst 0, 1) := by decide +kernel
theorem dX10_isKnown_20 : decode cX10_isKnown 20 = .ok (.ireturn, 1) := by decide +kernel
theorem dX10_forgets_0 : decode cX10_forgets 0 = .ok (.aload_n 0, 1) := by decide +kernel
theorem dX10_forgets_1 : decode cX10_forgets 1 = .ok (.iload_n 1, 1) := by decide +kernel
theorem dX10_forgets_2 : decode cX10_forgets 2 = .ok (.iconst 4, 1) := by decide +kernel
theorem dX10_forgets_3 : decode cX10_forgets 3 = .ok (.invokevirtual 76, 3) := by decide +kernel
theorem dX10_forgets_6 : decode cX10_forgets 6 = .ok (.bipush 50, 2) := by decide +kernel
theorem dX10_forgets_8 : decode cX10_forgets 8 = .ok (.if_icmp .le 15, 3) := by decide +kernel
theorem dX10_forgets_11 : decode cX10_forgets 11 = .ok (.aload_n 0, 1) := by decide +kernel
theorem dX10_forgets_12 : decode cX10_forgets 12 = .ok (.iload_n 1, 1) := by decide +kernel
theorem dX10_forgets_13 : decode cX10_forgets 13 = .ok (.iconst 4, 1) := by decide +kernel
theorem dX10_forgets_14 : decode cX10_forgets 14 = .ok (.invokevirtual 76, 3) := by decide +kernel
theorem dX10_forgets_17 : decode cX10_forgets 17 = .ok (.bipush 50, 2) := by decide +kernel
theorem dX10_forgets_19 : decode cX10_forgets 19 = .ok (.isub, 1) := by decide +kernel
theorem dX10_forgets_20 : decode cX10_forgets 20 = .ok (.goto 4, 3) := by decide +kernel
theorem dX10_forgets_23 : decode cX10_forgets 23 = .ok (.iconst 0, 1) := by decide +kernel
theorem dX10_forgets_24 : decode cX10_forgets 24 = .ok (.istore_n 2, 1) := by decide +kernel
theorem dX10_forgets_25 : decode cX10_forgets 25 = .ok (.aload_n 0, 1) := by decide +kernel
theorem dX10_forgets_26 : decode cX10_forgets 26 = .ok (.iload_n 1, 1) := by decide +kernel
theorem dX10_forgets_27 : decode cX10_forgets 27 = .ok (.iconst 0, 1) := by decide +kernel
theorem dX10_forgets_28 : decode cX10_forgets 28 = .ok (.invokevirtual 76, 3) := by decide +kernel
theorem dX10_forgets_31 : decode cX10_forgets 31 = .ok (.tableswitch 48 1 5 #[33, 36, 38, 36, 41], 33) := by decide +kernel
theorem dX10_forgets_64 : decode cX10_forgets 64 = .ok (.bipush 15, 2) := by decide +kernel
theorem dX10_forgets_66 : decode cX10_forgets 66 = .ok (.ireturn, 1) := by decide +kernel
theorem dX10_forgets_67 : decode cX10_forgets 67 = .ok (.iconst 5, 1) := by decide +kernel
theorem dX10_forgets_68 : decode cX10_forgets 68 = .ok (.ireturn, 1) := by decide +kernel
theorem dX10_forgets_69 : decode cX10_forgets 69 = .ok (.bipush 20, 2) := by decide +kernel
theorem dX10_forgets_71 : decode cX10_forgets 71 = .ok (.ireturn, 1) := by decide +kernel
theorem dX10_forgets_72 : decode cX10_forgets 72 = .ok (.bipush 10, 2) := by decide +kernel
theorem dX10_forgets_74 : decode cX10_forgets 74 = .ok (.iload_n 2, 1) := by decide +kernel
theorem dX10_forgets_75 : decode cX10_forgets 75 = .ok (.iconst 2, 1) := by decide +kernel
theorem dX10_forgets_76 : decode cX10_forgets 76 = .ok (.idiv, 1) := by decide +kernel
theorem dX10_forgets_77 : decode cX10_forgets 77 = .ok (.iadd, 1) := by decide +kernel
theorem dX10_forgets_78 : decode cX10_forgets 78 = .ok (.ireturn, 1) := by decide +kernel
theorem dX10_forgets_79 : decode cX10_forgets 79 = .ok (.bipush 10, 2) := by decide +kernel
theorem dX10_forgets_81 : decode cX10_forgets 81 = .ok (.ireturn, 1) := by decide +kernel
theorem dX10_of_0 : decode cX10_of 0 = .ok (.aload_n 0, 1) := by decide +kernel
theorem dX10_of_1 : decode cX10_of 1 = .ok (.iload_n 1, 1) := by decide +kernel
theorem dX10_of_2 : decode cX10_of 2 = .ok (.invokevirtual 79, 3) := by decide +kernel
theorem dX10_of_5 : decode cX10_of 5 = .ok (.ifCond .eq 15, 3) := by decide +kernel
theorem dX10_of_8 : decode cX10_of 8 = .ok (.iload_n 2, 1) := by decide +kernel
theorem dX10_of_9 : decode cX10_of 9 = .ok (.i2l, 1) := by decide +kernel
theorem dX10_of_10 : decode cX10_of 10 = .ok (.lconst 0, 1) := by decide +kernel
theorem dX10_of_11 : decode cX10_of 11 = .ok (.ldc2_w 83, 3) := by decide +kernel
theorem dX10_of_14 : decode cX10_of 14 = .ok (.invokestatic 45, 3) := by decide +kernel
theorem dX10_of_17 : decode cX10_of 17 = .ok (.ifCond .ne 10, 3) := by decide +kernel
theorem dX10_of_20 : decode cX10_of 20 = .ok (.aload_n 0, 1) := by decide +kernel
theorem dX10_of_21 : decode cX10_of 21 = .ok (.ldc 44, 2) := by decide +kernel
theorem dX10_of_23 : decode cX10_of 23 = .ok (.invokevirtual 67, 3) := by decide +kernel
theorem dX10_of_26 : decode cX10_of 26 = .ok (.ireturn, 1) := by decide +kernel
theorem dX10_of_27 : decode cX10_of 27 = .ok (.iload_n 2, 1) := by decide +kernel
theorem dX10_of_28 : decode cX10_of 28 = .ok (.bipush 6, 2) := by decide +kernel
theorem dX10_of_30 : decode cX10_of 30 = .ok (.if_icmp .ge 12, 3) := by decide +kernel
theorem dX10_of_33 : decode cX10_of 33 = .ok (.aload_n 0, 1) := by decide +kernel
theorem dX10_of_34 : decode cX10_of 34 = .ok (.iload_n 1, 1) := by decide +kernel
theorem dX10_of_35 : decode cX10_of 35 = .ok (.iload_n 2, 1) := by decide +kernel
theorem dX10_of_36 : decode cX10_of 36 = .ok (.invokevirtual 76, 3) := by decide +kernel
theorem dX10_of_39 : decode cX10_of 39 = .ok (.goto 30, 3) := by decide +kernel
theorem dX10_of_42 : decode cX10_of 42 = .ok (.iload_n 2, 1) := by decide +kernel
theorem dX10_of_43 : decode cX10_of 43 = .ok (.bipush 6, 2) := by decide +kernel
theorem dX10_of_45 : decode cX10_of 45 = .ok (.if_icmp .ne 19, 3) := by decide +kernel
theorem dX10_of_48 : decode cX10_of 48 = .ok (.aload_n 0, 1) := by decide +kernel
theorem dX10_of_49 : decode cX10_of 49 = .ok (.iload_n 1, 1) := by decide +kernel
theorem dX10_of_50 : decode cX10_of 50 = .ok (.invokevirtual 85, 3) := by decide +kernel
theorem dX10_of_53 : decode cX10_of 53 = .ok (.ifCond .eq 7, 3) := by decide +kernel
theorem dX10_of_56 : decode cX10_of 56 = .ok (.iconst 1, 1) := by decide +kernel
theorem dX10_of_57 : decode cX10_of 57 = .ok (.goto 12, 3) := by decide +kernel
theorem dX10_of_60 : decode cX10_of 60 = .ok (.iconst 0, 1) := by decide +kernel
theorem dX10_of_61 : decode cX10_of 61 = .ok (.goto 8, 3) := by decide +kernel
theorem dX10_of_64 : decode cX10_of 64 = .ok (.aload_n 0, 1) := by decide +kernel
theorem dX10_of_65 : decode cX10_of 65 = .ok (.iload_n 1, 1) := by decide +kernel
theorem dX10_of_66 : decode cX10_of 66 = .ok (.invokevirtual 88, 3) := by decide +kernel
theorem dX10_of_69 : decode cX10_of 69 = .ok (.ireturn, 1) := by decide +kernel
theorem dX10_set_0 : decode cX10_set 0 = .ok (.aload_n 0, 1) := by decide +kernel
theorem dX10_set_1 : decode cX10_set 1 = .ok (.iload_n 1, 1) := by decide +kernel
theorem dX10_set_2 : decode cX10_set 2 = .ok (.invokevirtual 79, 3) := by decide +kernel
theorem dX10_set_5 : decode cX10_set 5 = .ok (.ifCond .eq 23, 3) := by decide +kernel
theorem dX10_set_8 : decode cX10_set 8 = .ok (.iload_n 2, 1) := by decide +kernel
theorem dX10_set_9 : decode cX10_set 9 = .ok (.i2l, 1) := by decide +kernel
theorem dX10_set_10 : decode cX10_set 10 = .ok (.lconst 1, 1) := by decide +kernel
theorem dX10_set_11 : decode cX10_set 11 = .ok (.ldc2_w 91, 3) := by decide +kernel
theorem dX10_set_14 : decode cX10_set 14 = .ok (.invokestatic 45, 3) := by decide +kernel
theorem dX10_set_17 : decode cX10_set 17 = .ok (.ifCond .eq 11, 3) := by decide +kernel
theorem dX10_set_20 : decode cX10_set 20 = .ok (.iload_n 2, 1) := by decide +kernel
theorem dX10_set_21 : decode cX10_set 21 = .ok (.iload_n 3, 1) := by decide +kernel
theorem dX10_set_22 : decode cX10_set 22 = .ok (.invokestatic 63, 3) := by decide +kernel
theorem dX10_set_25 : decode cX10_set 25 = .ok (.ifCond .ne 10, 3) := by decide +kernel
theorem dX10_set_28 : decode cX10_set 28 = .ok (.aload_n 0, 1) := by decide +kernel
theorem dX10_set_29 : decode cX10_set 29 = .ok (.ldc 44, 2) := by decide +kernel
theorem dX10_set_31 : decode cX10_set 31 = .ok (.invokevirtual 67, 3) := by decide +kernel
theorem dX10_set_34 : decode cX10_set 34 = .ok (.ireturn, 1) := by decide +kernel
theorem dX10_set_35 : decode cX10_set 35 = .ok (.aload_n 0, 1) := by decide +kernel
theorem dX10_set_36 : decode cX10_set 36 = .ok (.iload_n 1, 1) := by decide +kernel
theorem dX10_set_37 : decode cX10_set 37 = .ok (.iload_n 2, 1) := by decide +kernel
theorem dX10_set_38 : decode cX10_set 38 = .ok (.invokevirtual 76, 3) := by decide +kernel
theorem dX10_set_41 : decode cX10_set 41 = .ok (.istore 4, 2) := by decide +kernel
theorem dX10_set_43 : decode cX10_set 43 = .ok (.aload_n 0, 1) := by decide +kernel
theorem dX10_set_44 : decode cX10_set 44 = .ok (.getfield 7, 3) := by decide +kernel
theorem dX10_set_47 : decode cX10_set 47 = .ok (.iload_n 1, 1) := by decide +kernel
theorem dX10_set_48 : decode cX10_set 48 = .ok (.iload_n 2, 1) := by decide +kernel
theorem dX10_set_49 : decode cX10_set 49 = .ok (.invokestatic 49, 3) := by decide +kernel
theorem dX10_set_52 : decode cX10_set 52 = .ok (.iload_n 3, 1) := by decide +kernel
theorem dX10_set_53 : decode cX10_set 53 = .ok (.iastore, 1) := by decide +kernel
theorem dX10_set_54 : decode cX10_set 54 = .ok (.iload 4, 2) := by decide +kernel
theorem dX10_set_56 : decode cX10_set 56 = .ok (.ireturn, 1) := by decide +kernel
theorem dX10_turn_0 : decode cX10_turn 0 = .ok (.aload_n 0, 1) := by decide +kernel
theorem dX10_turn_1 : decode cX10_turn 1 = .ok (.iload_n 1, 1) := by decide +kernel
theorem dX10_turn_2 : decode cX10_turn 2 = .ok (.invokevirtual 79, 3) := by decide +kernel
theorem dX10_turn_5 : decode cX10_turn 5 = .ok (.ifCond .eq 11, 3) := by decide +kernel
theorem dX10_turn_8 : decode cX10_turn 8 = .ok (.iconst 0, 1) := by decide +kernel
theorem dX10_turn_9 : decode cX10_turn 9 = .ok (.iload_n 2, 1) := by decide +kernel
theorem dX10_turn_10 : decode cX10_turn 10 = .ok (.invokestatic 63, 3) := by decide +kernel
theorem dX10_turn_13 : decode cX10_turn 13 = .ok (.ifCond .ne 10, 3) := by decide +kernel
theorem dX10_turn_16 : decode cX10_turn 16 = .ok (.aload_n 0, 1) := by decide +kernel
theorem dX10_turn_17 : decode cX10_turn 17 = .ok (.ldc 44, 2) := by decide +kernel
theorem dX10_turn_19 : decode cX10_turn 19 = .ok (.invokevirtual 67, 3) := by decide +kernel
theorem dX10_turn_22 : decode cX10_turn 22 = .ok (.ireturn, 1) := by decide +kernel
theorem dX10_turn_23 : decode cX10_turn 23 = .ok (.aload_n 0, 1) := by decide +kernel
theorem dX10_turn_24 : decode cX10_turn 24 = .ok (.iload_n 1, 1) := by decide +kernel
theorem dX10_turn_25 : decode cX10_turn 25 = .ok (.iconst 0, 1) := by decide +kernel
theorem dX10_turn_26 : decode cX10_turn 26 = .ok (.invokevirtual 76, 3) := by decide +kernel
theorem dX10_turn_29 : decode cX10_turn 29 = .ok (.istore_n 3, 1) := by decide +kernel
theorem dX10_turn_30 : decode cX10_turn 30 = .ok (.aload_n 0, 1) := by decide +kernel
theorem dX10_turn_31 : decode cX10_turn 31 = .ok (.getfield 7, 3) := by decide +kernel
theorem dX10_turn_34 : decode cX10_turn 34 = .ok (.iload_n 1, 1) := by decide +kernel
theorem dX10_turn_35 : decode cX10_turn 35 = .ok (.iconst 0, 1) := by decide +kernel
theorem dX10_turn_36 : decode cX10_turn 36 = .ok (.invokestatic 49, 3) := by decide +kernel
theorem dX10_turn_39 : decode cX10_turn 39 = .ok (.iload_n 2, 1) := by decide +kernel
theorem dX10_turn_40 : decode cX10_turn 40 = .ok (.iastore, 1) := by decide +kernel
theorem dX10_turn_41 : decode cX10_turn 41 = .ok (.iload_n 3, 1) := by decide +kernel
theorem dX10_turn_42 : decode cX10_turn 42 = .ok (.ireturn, 1) := by decide +kernel
theorem dX10_as_0 : decode cX10_as 0 = .ok (.aload_n 0, 1) := by decide +kernel
theorem dX10_as_1 : decode cX10_as 1 = .ok (.iload_n 1, 1) := by decide +kernel
theorem dX10_as_2 : decode cX10_as 2 = .ok (.invokevirtual 79, 3) := by decide +kernel
theorem dX10_as_5 : decode cX10_as 5 = .ok (.ifCond .eq 11, 3) := by decide +kernel
theorem dX10_as_8 : decode cX10_as 8 = .ok (.iconst 0, 1) := by decide +kernel
theorem dX10_as_9 : decode cX10_as 9 = .ok (.iload_n 2, 1) := by decide +kernel
theorem dX10_as_10 : decode cX10_as 10 = .ok (.invokestatic 63, 3) := by decide +kernel
theorem dX10_as_13 : decode cX10_as 13 = .ok (.ifCond .ne 10, 3) := by decide +kernel
theorem dX10_as_16 : decode cX10_as 16 = .ok (.aload_n 0, 1) := by decide +kernel
theorem dX10_as_17 : decode cX10_as 17 = .ok (.ldc 44, 2) := by decide +kernel
theorem dX10_as_19 : decode cX10_as 19 = .ok (.invokevirtual 67, 3) := by decide +kernel
theorem dX10_as_22 : decode cX10_as 22 = .ok (.ireturn, 1) := by decide +kernel
theorem dX10_as_23 : decode cX10_as 23 = .ok (.aload_n 0, 1) := by decide +kernel
theorem dX10_as_24 : decode cX10_as 24 = .ok (.iload_n 1, 1) := by decide +kernel
theorem dX10_as_25 : decode cX10_as 25 = .ok (.iconst 0, 1) := by decide +kernel
theorem dX10_as_26 : decode cX10_as 26 = .ok (.invokevirtual 76, 3) := by decide +kernel
theorem dX10_as_29 : decode cX10_as 29 = .ok (.istore_n 3, 1) := by decide +kernel
theorem dX10_as_30 : decode cX10_as 30 = .ok (.iload_n 2, 1) := by decide +kernel
theorem dX10_as_31 : decode cX10_as 31 = .ok (.ifCond .eq 28, 3) := by decide +kernel
theorem dX10_as_34 : decode cX10_as 34 = .ok (.iload_n 3, 1) := by decide +kernel
theorem dX10_as_35 : decode cX10_as 35 = .ok (.iload_n 2, 1) := by decide +kernel
theorem dX10_as_36 : decode cX10_as 36 = .ok (.if_icmp .eq 23, 3) := by decide +kernel
theorem dX10_as_39 : decode cX10_as 39 = .ok (.iload_n 2, 1) := by decide +kernel
theorem dX10_as_40 : decode cX10_as 40 = .ok (.iconst 1, 1) := by decide +kernel
theorem dX10_as_41 : decode cX10_as 41 = .ok (.if_icmp .ne 8, 3) := by decide +kernel
theorem dX10_as_44 : decode cX10_as 44 = .ok (.iload_n 3, 1) := by decide +kernel
theorem dX10_as_45 : decode cX10_as 45 = .ok (.iconst 3, 1) := by decide +kernel
theorem dX10_as_46 : decode cX10_as 46 = .ok (.if_icmp .eq 13, 3) := by decide +kernel
theorem dX10_as_49 : decode cX10_as 49 = .ok (.iload_n 2, 1) := by decide +kernel
theorem dX10_as_50 : decode cX10_as 50 = .ok (.iconst 2, 1) := by decide +kernel
theorem dX10_as_51 : decode cX10_as 51 = .ok (.if_icmp .ne 12, 3) := by decide +kernel
theorem dX10_as_54 : decode cX10_as 54 = .ok (.iload_n 3, 1) := by decide +kernel
theorem dX10_as_55 : decode cX10_as 55 = .ok (.iconst 4, 1) := by decide +kernel
theorem dX10_as_56 : decode cX10_as 56 = .ok (.if_icmp .ne 7, 3) := by decide +kernel
theorem dX10_as_59 : decode cX10_as 59 = .ok (.iconst 1, 1) := by decide +kernel
theorem dX10_as_60 : decode cX10_as 60 = .ok (.goto 4, 3) := by decide +kernel
theorem dX10_as_63 : decode cX10_as 63 = .ok (.iconst 0, 1) := by decide +kernel
theorem dX10_as_64 : decode cX10_as 64 = .ok (.istore 4, 2) := by decide +kernel
theorem dX10_as_66 : decode cX10_as 66 = .ok (.iload 4, 2) := by decide +kernel
theorem dX10_as_68 : decode cX10_as 68 = .ok (.ifCond .eq 12, 3) := by decide +kernel
theorem dX10_as_71 : decode cX10_as 71 = .ok (.aload_n 0, 1) := by decide +kernel
theorem dX10_as_72 : decode cX10_as 72 = .ok (.iload_n 1, 1) := by decide +kernel
theorem dX10_as_73 : decode cX10_as 73 = .ok (.iconst 4, 1) := by decide +kernel
theorem dX10_as_74 : decode cX10_as 74 = .ok (.invokevirtual 76, 3) := by decide +kernel
theorem dX10_as_77 : decode cX10_as 77 = .ok (.goto 9, 3) := by decide +kernel
theorem dX10_as_80 : decode cX10_as 80 = .ok (.aload_n 0, 1) := by decide +kernel
theorem dX10_as_81 : decode cX10_as 81 = .ok (.ldc 93, 2) := by decide +kernel
theorem dX10_as_83 : decode cX10_as 83 = .ok (.invokevirtual 67, 3) := by decide +kernel
theorem dX10_as_86 : decode cX10_as 86 = .ok (.ireturn, 1) := by decide +kernel
theorem dX10_newWant_0 : decode cX10_newWant 0 = .ok (.bipush 78, 2) := by decide +kernel
theorem dX10_newWant_2 : decode cX10_newWant 2 = .ok (.iconst 5, 1) := by decide +kernel
theorem dX10_newWant_3 : decode cX10_newWant 3 = .ok (.aload_n 0, 1) := by decide +kernel
theorem dX10_newWant_4 : decode cX10_newWant 4 = .ok (.getfield 7, 3) := by decide +kernel
theorem dX10_newWant_7 : decode cX10_newWant 7 = .ok (.iconst 1, 1) := by decide +kernel
theorem dX10_newWant_8 : decode cX10_newWant 8 = .ok (.iaload, 1) := by decide +kernel
theorem dX10_newWant_9 : decode cX10_newWant 9 = .ok (.imul, 1) := by decide +kernel
theorem dX10_newWant_10 : decode cX10_newWant 10 = .ok (.iadd, 1) := by decide +kernel
theorem dX10_newWant_11 : decode cX10_newWant 11 = .ok (.istore 4, 2) := by decide +kernel
theorem dX10_newWant_13 : decode cX10_newWant 13 = .ok (.aload_n 0, 1) := by decide +kernel
theorem dX10_newWant_14 : decode cX10_newWant 14 = .ok (.getfield 7, 3) := by decide +kernel
theorem dX10_newWant_17 : decode cX10_newWant 17 = .ok (.iload 4, 2) := by decide +kernel
theorem dX10_newWant_19 : decode cX10_newWant 19 = .ok (.iload_n 1, 1) := by decide +kernel
theorem dX10_newWant_20 : decode cX10_newWant 20 = .ok (.iastore, 1) := by decide +kernel
theorem dX10_newWant_21 : decode cX10_newWant 21 = .ok (.aload_n 0, 1) := by decide +kernel
theorem dX10_newWant_22 : decode cX10_newWant 22 = .ok (.getfield 7, 3) := by decide +kernel
theorem dX10_newWant_25 : decode cX10_newWant 25 = .ok (.iload 4, 2) := by decide +kernel
theorem dX10_newWant_27 : decode cX10_newWant 27 = .ok (.iconst 1, 1) := by decide +kernel
theorem dX10_newWant_28 : decode cX10_newWant 28 = .ok (.iadd, 1) := by decide +kernel
theorem dX10_newWant_29 : decode cX10_newWant 29 = .ok (.iload_n 2, 1) := by decide +kernel
theorem dX10_newWant_30 : decode cX10_newWant 30 = .ok (.iastore, 1) := by decide +kernel
theorem dX10_newWant_31 : decode cX10_newWant 31 = .ok (.aload_n 0, 1) := by decide +kernel
theorem dX10_newWant_32 : decode cX10_newWant 32 = .ok (.getfield 7, 3) := by decide +kernel
theorem dX10_newWant_35 : decode cX10_newWant 35 = .ok (.iload 4, 2) := by decide +kernel
theorem dX10_newWant_37 : decode cX10_newWant 37 = .ok (.iconst 2, 1) := by decide +kernel
theorem dX10_newWant_38 : decode cX10_newWant 38 = .ok (.iadd, 1) := by decide +kernel
theorem dX10_newWant_39 : decode cX10_newWant 39 = .ok (.iload_n 3, 1) := by decide +kernel
theorem dX10_newWant_40 : decode cX10_newWant 40 = .ok (.iastore, 1) := by decide +kernel
theorem dX10_newWant_41 : decode cX10_newWant 41 = .ok (.aload_n 0, 1) := by decide +kernel
theorem dX10_newWant_42 : decode cX10_newWant 42 = .ok (.getfield 7, 3) := by decide +kernel
theorem dX10_newWant_45 : decode cX10_newWant 45 = .ok (.iload 4, 2) := by decide +kernel
theorem dX10_newWant_47 : decode cX10_newWant 47 = .ok (.iconst 3, 1) := by decide +kernel
theorem dX10_newWant_48 : decode cX10_newWant 48 = .ok (.iadd, 1) := by decide +kernel
theorem dX10_newWant_49 : decode cX10_newWant 49 = .ok (.iconst 0, 1) := by decide +kernel
theorem dX10_newWant_50 : decode cX10_newWant 50 = .ok (.iastore, 1) := by decide +kernel
theorem dX10_newWant_51 : decode cX10_newWant 51 = .ok (.aload_n 0, 1) := by decide +kernel
theorem dX10_newWant_52 : decode cX10_newWant 52 = .ok (.getfield 7, 3) := by decide +kernel
theorem dX10_newWant_55 : decode cX10_newWant 55 = .ok (.iload 4, 2) := by decide +kernel
theorem dX10_newWant_57 : decode cX10_newWant 57 = .ok (.iconst 4, 1) := by decide +kernel
theorem dX10_newWant_58 : decode cX10_newWant 58 = .ok (.iadd, 1) := by decide +kernel
theorem dX10_newWant_59 : decode cX10_newWant 59 = .ok (.iconst 0, 1) := by decide +kernel
theorem dX10_newWant_60 : decode cX10_newWant 60 = .ok (.iastore, 1) := by decide +kernel
theorem dX10_newWant_61 : decode cX10_newWant 61 = .ok (.aload_n 0, 1) := by decide +kernel
theorem dX10_newWant_62 : decode cX10_newWant 62 = .ok (.getfield 7, 3) := by decide +kernel
theorem dX10_newWant_65 : decode cX10_newWant 65 = .ok (.iconst 1, 1) := by decide +kernel
theorem dX10_newWant_66 : decode cX10_newWant 66 = .ok (.dup2, 1) := by decide +kernel
theorem dX10_newWant_67 : decode cX10_newWant 67 = .ok (.iaload, 1) := by decide +kernel
theorem dX10_newWant_68 : decode cX10_newWant 68 = .ok (.iconst 1, 1) := by decide +kernel
theorem dX10_newWant_69 : decode cX10_newWant 69 = .ok (.iadd, 1) := by decide +kernel
theorem dX10_newWant_70 : decode cX10_newWant 70 = .ok (.iastore, 1) := by decide +kernel
theorem dX10_newWant_71 : decode cX10_newWant 71 = .ok (.aload_n 0, 1) := by decide +kernel
theorem dX10_newWant_72 : decode cX10_newWant 72 = .ok (.getfield 7, 3) := by decide +kernel
theorem dX10_newWant_75 : decode cX10_newWant 75 = .ok (.iconst 1, 1) := by decide +kernel
theorem dX10_newWant_76 : decode cX10_newWant 76 = .ok (.iaload, 1) := by decide +kernel
theorem dX10_newWant_77 : decode cX10_newWant 77 = .ok (.iconst 1, 1) := by decide +kernel
theorem dX10_newWant_78 : decode cX10_newWant 78 = .ok (.isub, 1) := by decide +kernel
theorem dX10_newWant_79 : decode cX10_newWant 79 = .ok (.ireturn, 1) := by decide +kernel
theorem dX10_want_0 : decode cX10_want 0 = .ok (.iload_n 1, 1) := by decide +kernel
theorem dX10_want_1 : decode cX10_want 1 = .ok (.i2l, 1) := by decide +kernel
theorem dX10_want_2 : decode cX10_want 2 = .ok (.lconst 0, 1) := by decide +kernel
theorem dX10_want_3 : decode cX10_want 3 = .ok (.ldc2_w 55, 3) := by decide +kernel
theorem dX10_want_6 : decode cX10_want 6 = .ok (.invokestatic 45, 3) := by decide +kernel
theorem dX10_want_9 : decode cX10_want 9 = .ok (.ifCond .eq 27, 3) := by decide +kernel
theorem dX10_want_12 : decode cX10_want 12 = .ok (.iload_n 2, 1) := by decide +kernel
theorem dX10_want_13 : decode cX10_want 13 = .ok (.i2l, 1) := by decide +kernel
theorem dX10_want_14 : decode cX10_want 14 = .ok (.lconst 0, 1) := by decide +kernel
theorem dX10_want_15 : decode cX10_want 15 = .ok (.ldc2_w 94, 3) := by decide +kernel
theorem dX10_want_18 : decode cX10_want 18 = .ok (.invokestatic 45, 3) := by decide +kernel
theorem dX10_want_21 : decode cX10_want 21 = .ok (.ifCond .eq 15, 3) := by decide +kernel
theorem dX10_want_24 : decode cX10_want 24 = .ok (.iload_n 3, 1) := by decide +kernel
theorem dX10_want_25 : decode cX10_want 25 = .ok (.i2l, 1) := by decide +kernel
theorem dX10_want_26 : decode cX10_want 26 = .ok (.lconst 0, 1) := by decide +kernel
theorem dX10_want_27 : decode cX10_want 27 = .ok (.ldc2_w 94, 3) := by decide +kernel
theorem dX10_want_30 : decode cX10_want 30 = .ok (.invokestatic 45, 3) := by decide +kernel
theorem dX10_want_33 : decode cX10_want 33 = .ok (.ifCond .ne 10, 3) := by decide +kernel
theorem dX10_want_36 : decode cX10_want 36 = .ok (.aload_n 0, 1) := by decide +kernel
theorem dX10_want_37 : decode cX10_want 37 = .ok (.ldc 44, 2) := by decide +kernel
theorem dX10_want_39 : decode cX10_want 39 = .ok (.invokevirtual 67, 3) := by decide +kernel
theorem dX10_want_42 : decode cX10_want 42 = .ok (.ireturn, 1) := by decide +kernel
theorem dX10_want_43 : decode cX10_want 43 = .ok (.aload_n 0, 1) := by decide +kernel
theorem dX10_want_44 : decode cX10_want 44 = .ok (.getfield 7, 3) := by decide +kernel
theorem dX10_want_47 : decode cX10_want 47 = .ok (.iconst 1, 1) := by decide +kernel
theorem dX10_want_48 : decode cX10_want 48 = .ok (.iaload, 1) := by decide +kernel
theorem dX10_want_49 : decode cX10_want 49 = .ok (.bipush 12, 2) := by decide +kernel
theorem dX10_want_51 : decode cX10_want 51 = .ok (.if_icmp .ne 12, 3) := by decide +kernel
theorem dX10_want_54 : decode cX10_want 54 = .ok (.aload_n 0, 1) := by decide +kernel
theorem dX10_want_55 : decode cX10_want 55 = .ok (.ldc 71, 2) := by decide +kernel
theorem dX10_want_57 : decode cX10_want 57 = .ok (.invokevirtual 67, 3) := by decide +kernel
theorem dX10_want_60 : decode cX10_want 60 = .ok (.goto 10, 3) := by decide +kernel
theorem dX10_want_63 : decode cX10_want 63 = .ok (.aload_n 0, 1) := by decide +kernel
theorem dX10_want_64 : decode cX10_want 64 = .ok (.iload_n 1, 1) := by decide +kernel
theorem dX10_want_65 : decode cX10_want 65 = .ok (.iload_n 2, 1) := by decide +kernel
theorem dX10_want_66 : decode cX10_want 66 = .ok (.iload_n 3, 1) := by decide +kernel
theorem dX10_want_67 : decode cX10_want 67 = .ok (.invokevirtual 96, 3) := by decide +kernel
theorem dX10_want_70 : decode cX10_want 70 = .ok (.ireturn, 1) := by decide +kernel
theorem dX10_wantOf_0 : decode cX10_wantOf 0 = .ok (.aload_n 0, 1) := by decide +kernel
theorem dX10_wantOf_1 : decode cX10_wantOf 1 = .ok (.iload_n 1, 1) := by decide +kernel
theorem dX10_wantOf_2 : decode cX10_wantOf 2 = .ok (.invokevirtual 100, 3) := by decide +kernel
theorem dX10_wantOf_5 : decode cX10_wantOf 5 = .ok (.ifCond .eq 24, 3) := by decide +kernel
theorem dX10_wantOf_8 : decode cX10_wantOf 8 = .ok (.iload_n 2, 1) := by decide +kernel
theorem dX10_wantOf_9 : decode cX10_wantOf 9 = .ok (.i2l, 1) := by decide +kernel
theorem dX10_wantOf_10 : decode cX10_wantOf 10 = .ok (.lconst 0, 1) := by decide +kernel
theorem dX10_wantOf_11 : decode cX10_wantOf 11 = .ok (.ldc2_w 91, 3) := by decide +kernel
theorem dX10_wantOf_14 : decode cX10_wantOf 14 = .ok (.invokestatic 45, 3) := by decide +kernel
theorem dX10_wantOf_17 : decode cX10_wantOf 17 = .ok (.ifCond .eq 12, 3) := by decide +kernel
theorem dX10_wantOf_20 : decode cX10_wantOf 20 = .ok (.aload_n 0, 1) := by decide +kernel
theorem dX10_wantOf_21 : decode cX10_wantOf 21 = .ok (.iload_n 1, 1) := by decide +kernel
theorem dX10_wantOf_22 : decode cX10_wantOf 22 = .ok (.iload_n 2, 1) := by decide +kernel
theorem dX10_wantOf_23 : decode cX10_wantOf 23 = .ok (.invokevirtual 103, 3) := by decide +kernel
theorem dX10_wantOf_26 : decode cX10_wantOf 26 = .ok (.goto 9, 3) := by decide +kernel
theorem dX10_wantOf_29 : decode cX10_wantOf 29 = .ok (.aload_n 0, 1) := by decide +kernel
theorem dX10_wantOf_30 : decode cX10_wantOf 30 = .ok (.ldc 44, 2) := by decide +kernel
theorem dX10_wantOf_32 : decode cX10_wantOf 32 = .ok (.invokevirtual 67, 3) := by decide +kernel
theorem dX10_wantOf_35 : decode cX10_wantOf 35 = .ok (.ireturn, 1) := by decide +kernel
theorem dX10_change_0 : decode cX10_change 0 = .ok (.aload_n 0, 1) := by decide +kernel
theorem dX10_change_1 : decode cX10_change 1 = .ok (.iload_n 1, 1) := by decide +kernel
theorem dX10_change_2 : decode cX10_change 2 = .ok (.invokevirtual 100, 3) := by decide +kernel
theorem dX10_change_5 : decode cX10_change 5 = .ok (.ifCond .eq 36, 3) := by decide +kernel
theorem dX10_change_8 : decode cX10_change 8 = .ok (.iload_n 2, 1) := by decide +kernel
theorem dX10_change_9 : decode cX10_change 9 = .ok (.i2l, 1) := by decide +kernel
theorem dX10_change_10 : decode cX10_change 10 = .ok (.lconst 1, 1) := by decide +kernel
theorem dX10_change_11 : decode cX10_change 11 = .ok (.ldc2_w 91, 3) := by decide +kernel
theorem dX10_change_14 : decode cX10_change 14 = .ok (.invokestatic 45, 3) := by decide +kernel
theorem dX10_change_17 : decode cX10_change 17 = .ok (.ifCond .eq 24, 3) := by decide +kernel
theorem dX10_change_20 : decode cX10_change 20 = .ok (.iload_n 3, 1) := by decide +kernel
theorem dX10_change_21 : decode cX10_change 21 = .ok (.i2l, 1) := by decide +kernel
theorem dX10_change_22 : decode cX10_change 22 = .ok (.lconst 0, 1) := by decide +kernel
theorem dX10_change_23 : decode cX10_change 23 = .ok (.iload_n 2, 1) := by decide +kernel
theorem dX10_change_24 : decode cX10_change 24 = .ok (.iconst 3, 1) := by decide +kernel
theorem dX10_change_25 : decode cX10_change 25 = .ok (.if_icmp .ge 9, 3) := by decide +kernel
theorem dX10_change_28 : decode cX10_change 28 = .ok (.ldc2_w 94, 3) := by decide +kernel
theorem dX10_change_31 : decode cX10_change 31 = .ok (.goto 4, 3) := by decide +kernel
theorem dX10_change_34 : decode cX10_change 34 = .ok (.lconst 1, 1) := by decide +kernel
theorem dX10_change_35 : decode cX10_change 35 = .ok (.invokestatic 45, 3) := by decide +kernel
theorem dX10_change_38 : decode cX10_change 38 = .ok (.ifCond .ne 10, 3) := by decide +kernel
theorem dX10_change_41 : decode cX10_change 41 = .ok (.aload_n 0, 1) := by decide +kernel
theorem dX10_change_42 : decode cX10_change 42 = .ok (.ldc 44, 2) := by decide +kernel
theorem dX10_change_44 : decode cX10_change 44 = .ok (.invokevirtual 67, 3) := by decide +kernel
theorem dX10_change_47 : decode cX10_change 47 = .ok (.ireturn, 1) := by decide +kernel
theorem dX10_change_48 : decode cX10_change 48 = .ok (.aload_n 0, 1) := by decide +kernel
theorem dX10_change_49 : decode cX10_change 49 = .ok (.iload_n 1, 1) := by decide +kernel
theorem dX10_change_50 : decode cX10_change 50 = .ok (.iload_n 2, 1) := by decide +kernel
theorem dX10_change_51 : decode cX10_change 51 = .ok (.invokevirtual 103, 3) := by decide +kernel
theorem dX10_change_54 : decode cX10_change 54 = .ok (.istore 4, 2) := by decide +kernel
theorem dX10_change_56 : decode cX10_change 56 = .ok (.aload_n 0, 1) := by decide +kernel
theorem dX10_change_57 : decode cX10_change 57 = .ok (.getfield 7, 3) := by decide +kernel
theorem dX10_change_60 : decode cX10_change 60 = .ok (.bipush 78, 2) := by decide +kernel
theorem dX10_change_62 : decode cX10_change 62 = .ok (.iconst 5, 1) := by decide +kernel
theorem dX10_change_63 : decode cX10_change 63 = .ok (.iload_n 1, 1) := by decide +kernel
theorem dX10_change_64 : decode cX10_change 64 = .ok (.imul, 1) := by decide +kernel
theorem dX10_change_65 : decode cX10_change 65 = .ok (.iadd, 1) := by decide +kernel
theorem dX10_change_66 : decode cX10_change 66 = .ok (.iload_n 2, 1) := by decide +kernel
theorem dX10_change_67 : decode cX10_change 67 = .ok (.iadd, 1) := by decide +kernel
theorem dX10_change_68 : decode cX10_change 68 = .ok (.iload_n 3, 1) := by decide +kernel
theorem dX10_change_69 : decode cX10_change 69 = .ok (.iastore, 1) := by decide +kernel
theorem dX10_change_70 : decode cX10_change 70 = .ok (.iload 4, 2) := by decide +kernel
theorem dX10_change_72 : decode cX10_change 72 = .ok (.ireturn, 1) := by decide +kernel
theorem dX10_hasRope_0 : decode cX10_hasRope 0 = .ok (.iconst 0, 1) := by decide +kernel
theorem dX10_hasRope_1 : decode cX10_hasRope 1 = .ok (.istore_n 2, 1) := by decide +kernel
theorem dX10_hasRope_2 : decode cX10_hasRope 2 = .ok (.iconst 0, 1) := by decide +kernel
theorem dX10_hasRope_3 : decode cX10_hasRope 3 = .ok (.istore_n 3, 1) := by decide +kernel
theorem dX10_hasRope_4 : decode cX10_hasRope 4 = .ok (.iload_n 3, 1) := by decide +kernel
theorem dX10_hasRope_5 : decode cX10_hasRope 5 = .ok (.aload_n 0, 1) := by decide +kernel
theorem dX10_hasRope_6 : decode cX10_hasRope 6 = .ok (.getfield 7, 3) := by decide +kernel
theorem dX10_hasRope_9 : decode cX10_hasRope 9 = .ok (.iconst 0, 1) := by decide +kernel
theorem dX10_hasRope_10 : decode cX10_hasRope 10 = .ok (.iaload, 1) := by decide +kernel
theorem dX10_hasRope_11 : decode cX10_hasRope 11 = .ok (.if_icmp .ge 47, 3) := by decide +kernel
theorem dX10_hasRope_14 : decode cX10_hasRope 14 = .ok (.iload_n 2, 1) := by decide +kernel
theorem dX10_hasRope_15 : decode cX10_hasRope 15 = .ok (.ifCond .ne 31, 3) := by decide +kernel
theorem dX10_hasRope_18 : decode cX10_hasRope 18 = .ok (.iload_n 1, 1) := by decide +kernel
theorem dX10_hasRope_19 : decode cX10_hasRope 19 = .ok (.iload_n 3, 1) := by decide +kernel
theorem dX10_hasRope_20 : decode cX10_hasRope 20 = .ok (.invokestatic 106, 3) := by decide +kernel
theorem dX10_hasRope_23 : decode cX10_hasRope 23 = .ok (.ifCond .eq 27, 3) := by decide +kernel
theorem dX10_hasRope_26 : decode cX10_hasRope 26 = .ok (.aload_n 0, 1) := by decide +kernel
theorem dX10_hasRope_27 : decode cX10_hasRope 27 = .ok (.iload_n 3, 1) := by decide +kernel
theorem dX10_hasRope_28 : decode cX10_hasRope 28 = .ok (.iconst 0, 1) := by decide +kernel
theorem dX10_hasRope_29 : decode cX10_hasRope 29 = .ok (.invokevirtual 76, 3) := by decide +kernel
theorem dX10_hasRope_32 : decode cX10_hasRope 32 = .ok (.iconst 2, 1) := by decide +kernel
theorem dX10_hasRope_33 : decode cX10_hasRope 33 = .ok (.if_icmp .eq 13, 3) := by decide +kernel
theorem dX10_hasRope_36 : decode cX10_hasRope 36 = .ok (.aload_n 0, 1) := by decide +kernel
theorem dX10_hasRope_37 : decode cX10_hasRope 37 = .ok (.iload_n 3, 1) := by decide +kernel
theorem dX10_hasRope_38 : decode cX10_hasRope 38 = .ok (.iconst 0, 1) := by decide +kernel
theorem dX10_hasRope_39 : decode cX10_hasRope 39 = .ok (.invokevirtual 76, 3) := by decide +kernel
theorem dX10_hasRope_42 : decode cX10_hasRope 42 = .ok (.iconst 4, 1) := by decide +kernel
theorem dX10_hasRope_43 : decode cX10_hasRope 43 = .ok (.if_icmp .ne 7, 3) := by decide +kernel
theorem dX10_hasRope_46 : decode cX10_hasRope 46 = .ok (.iconst 1, 1) := by decide +kernel
theorem dX10_hasRope_47 : decode cX10_hasRope 47 = .ok (.goto 4, 3) := by decide +kernel
theorem dX10_hasRope_50 : decode cX10_hasRope 50 = .ok (.iconst 0, 1) := by decide +kernel
theorem dX10_hasRope_51 : decode cX10_hasRope 51 = .ok (.istore_n 2, 1) := by decide +kernel
theorem dX10_hasRope_52 : decode cX10_hasRope 52 = .ok (.iinc 3 1, 3) := by decide +kernel
theorem dX10_hasRope_55 : decode cX10_hasRope 55 = .ok (.goto (-51), 3) := by decide +kernel
theorem dX10_hasRope_58 : decode cX10_hasRope 58 = .ok (.iload_n 2, 1) := by decide +kernel
theorem dX10_hasRope_59 : decode cX10_hasRope 59 = .ok (.ireturn, 1) := by decide +kernel
theorem dX10_hasMending_0 : decode cX10_hasMending 0 = .ok (.iconst 0, 1) := by decide +kernel
theorem dX10_hasMending_1 : decode cX10_hasMending 1 = .ok (.istore_n 2, 1) := by decide +kernel
theorem dX10_hasMending_2 : decode cX10_hasMending 2 = .ok (.iconst 0, 1) := by decide +kernel
theorem dX10_hasMending_3 : decode cX10_hasMending 3 = .ok (.istore_n 3, 1) := by decide +kernel
theorem dX10_hasMending_4 : decode cX10_hasMending 4 = .ok (.iload_n 3, 1) := by decide +kernel
theorem dX10_hasMending_5 : decode cX10_hasMending 5 = .ok (.aload_n 0, 1) := by decide +kernel
theorem dX10_hasMending_6 : decode cX10_hasMending 6 = .ok (.getfield 7, 3) := by decide +kernel
theorem dX10_hasMending_9 : decode cX10_hasMending 9 = .ok (.iconst 0, 1) := by decide +kernel
theorem dX10_hasMending_10 : decode cX10_hasMending 10 = .ok (.iaload, 1) := by decide +kernel
theorem dX10_hasMending_11 : decode cX10_hasMending 11 = .ok (.if_icmp .ge 37, 3) := by decide +kernel
theorem dX10_hasMending_14 : decode cX10_hasMending 14 = .ok (.iload_n 2, 1) := by decide +kernel
theorem dX10_hasMending_15 : decode cX10_hasMending 15 = .ok (.ifCond .ne 21, 3) := by decide +kernel
theorem dX10_hasMending_18 : decode cX10_hasMending 18 = .ok (.iload_n 1, 1) := by decide +kernel
theorem dX10_hasMending_19 : decode cX10_hasMending 19 = .ok (.iload_n 3, 1) := by decide +kernel
theorem dX10_hasMending_20 : decode cX10_hasMending 20 = .ok (.invokestatic 106, 3) := by decide +kernel
theorem dX10_hasMending_23 : decode cX10_hasMending 23 = .ok (.ifCond .eq 17, 3) := by decide +kernel
theorem dX10_hasMending_26 : decode cX10_hasMending 26 = .ok (.aload_n 0, 1) := by decide +kernel
theorem dX10_hasMending_27 : decode cX10_hasMending 27 = .ok (.iload_n 3, 1) := by decide +kernel
theorem dX10_hasMending_28 : decode cX10_hasMending 28 = .ok (.iconst 0, 1) := by decide +kernel
theorem dX10_hasMending_29 : decode cX10_hasMending 29 = .ok (.invokevirtual 76, 3) := by decide +kernel
theorem dX10_hasMending_32 : decode cX10_hasMending 32 = .ok (.iconst 4, 1) := by decide +kernel
theorem dX10_hasMending_33 : decode cX10_hasMending 33 = .ok (.if_icmp .ne 7, 3) := by decide +kernel
theorem dX10_hasMending_36 : decode cX10_hasMending 36 = .ok (.iconst 1, 1) := by decide +kernel
theorem dX10_hasMending_37 : decode cX10_hasMending 37 = .ok (.goto 4, 3) := by decide +kernel
theorem dX10_hasMending_40 : decode cX10_hasMending 40 = .ok (.iconst 0, 1) := by decide +kernel
theorem dX10_hasMending_41 : decode cX10_hasMending 41 = .ok (.istore_n 2, 1) := by decide +kernel
theorem dX10_hasMending_42 : decode cX10_hasMending 42 = .ok (.iinc 3 1, 3) := by decide +kernel
theorem dX10_hasMending_45 : decode cX10_hasMending 45 = .ok (.goto (-41), 3) := by decide +kernel
theorem dX10_hasMending_48 : decode cX10_hasMending 48 = .ok (.iload_n 2, 1) := by decide +kernel
theorem dX10_hasMending_49 : decode cX10_hasMending 49 = .ok (.ireturn, 1) := by decide +kernel
theorem dX10_gainOf_0 : decode cX10_gainOf 0 = .ok (.aload_n 0, 1) := by decide +kernel
theorem dX10_gainOf_1 : decode cX10_gainOf 1 = .ok (.iload_n 2, 1) := by decide +kernel
theorem dX10_gainOf_2 : decode cX10_gainOf 2 = .ok (.iconst 1, 1) := by decide +kernel
theorem dX10_gainOf_3 : decode cX10_gainOf 3 = .ok (.invokevirtual 103, 3) := by decide +kernel
theorem dX10_gainOf_6 : decode cX10_gainOf 6 = .ok (.istore 4, 2) := by decide +kernel
theorem dX10_gainOf_8 : decode cX10_gainOf 8 = .ok (.aload_n 0, 1) := by decide +kernel
theorem dX10_gainOf_9 : decode cX10_gainOf 9 = .ok (.iload_n 1, 1) := by decide +kernel
theorem dX10_gainOf_10 : decode cX10_gainOf 10 = .ok (.iconst 1, 1) := by decide +kernel
theorem dX10_gainOf_11 : decode cX10_gainOf 11 = .ok (.invokevirtual 76, 3) := by decide +kernel
theorem dX10_gainOf_14 : decode cX10_gainOf 14 = .ok (.aload_n 0, 1) := by decide +kernel
theorem dX10_gainOf_15 : decode cX10_gainOf 15 = .ok (.iload_n 2, 1) := by decide +kernel
theorem dX10_gainOf_16 : decode cX10_gainOf 16 = .ok (.iconst 0, 1) := by decide +kernel
theorem dX10_gainOf_17 : decode cX10_gainOf 17 = .ok (.invokevirtual 103, 3) := by decide +kernel
theorem dX10_gainOf_20 : decode cX10_gainOf 20 = .ok (.if_icmp .ne 18, 3) := by decide +kernel
theorem dX10_gainOf_23 : decode cX10_gainOf 23 = .ok (.iload 4, 2) := by decide +kernel
theorem dX10_gainOf_25 : decode cX10_gainOf 25 = .ok (.aload_n 0, 1) := by decide +kernel
theorem dX10_gainOf_26 : decode cX10_gainOf 26 = .ok (.iload_n 1, 1) := by decide +kernel
theorem dX10_gainOf_27 : decode cX10_gainOf 27 = .ok (.iconst 3, 1) := by decide +kernel
theorem dX10_gainOf_28 : decode cX10_gainOf 28 = .ok (.invokevirtual 76, 3) := by decide +kernel
theorem dX10_gainOf_31 : decode cX10_gainOf 31 = .ok (.imul, 1) := by decide +kernel
theorem dX10_gainOf_32 : decode cX10_gainOf 32 = .ok (.bipush 10, 2) := by decide +kernel
theorem dX10_gainOf_34 : decode cX10_gainOf 34 = .ok (.idiv, 1) := by decide +kernel
theorem dX10_gainOf_35 : decode cX10_gainOf 35 = .ok (.goto 4, 3) := by decide +kernel
theorem dX10_gainOf_38 : decode cX10_gainOf 38 = .ok (.iconst 0, 1) := by decide +kernel
theorem dX10_gainOf_39 : decode cX10_gainOf 39 = .ok (.istore 5, 2) := by decide +kernel
theorem dX10_gainOf_41 : decode cX10_gainOf 41 = .ok (.iload_n 3, 1) := by decide +kernel
theorem dX10_gainOf_42 : decode cX10_gainOf 42 = .ok (.ifCond .eq 8, 3) := by decide +kernel
theorem dX10_gainOf_45 : decode cX10_gainOf 45 = .ok (.iload 5, 2) := by decide +kernel
theorem dX10_gainOf_47 : decode cX10_gainOf 47 = .ok (.goto 7, 3) := by decide +kernel
theorem dX10_gainOf_50 : decode cX10_gainOf 50 = .ok (.iload 5, 2) := by decide +kernel
theorem dX10_gainOf_52 : decode cX10_gainOf 52 = .ok (.iconst 2, 1) := by decide +kernel
theorem dX10_gainOf_53 : decode cX10_gainOf 53 = .ok (.idiv, 1) := by decide +kernel
theorem dX10_gainOf_54 : decode cX10_gainOf 54 = .ok (.istore 6, 2) := by decide +kernel
theorem dX10_gainOf_56 : decode cX10_gainOf 56 = .ok (.aload_n 0, 1) := by decide +kernel
theorem dX10_gainOf_57 : decode cX10_gainOf 57 = .ok (.iload_n 1, 1) := by decide +kernel
theorem dX10_gainOf_58 : decode cX10_gainOf 58 = .ok (.iconst 0, 1) := by decide +kernel
theorem dX10_gainOf_59 : decode cX10_gainOf 59 = .ok (.invokevirtual 76, 3) := by decide +kernel
theorem dX10_gainOf_62 : decode cX10_gainOf 62 = .ok (.tableswitch 89 1 5 #[34, 37, 42, 62, 69], 34) := by decide +kernel
theorem dX10_gainOf_96 : decode cX10_gainOf 96 = .ok (.iload 6, 2) := by decide +kernel
theorem dX10_gainOf_98 : decode cX10_gainOf 98 = .ok (.ireturn, 1) := by decide +kernel
theorem dX10_gainOf_99 : decode cX10_gainOf 99 = .ok (.iload 4, 2) := by decide +kernel
theorem dX10_gainOf_101 : decode cX10_gainOf 101 = .ok (.iconst 4, 1) := by decide +kernel
theorem dX10_gainOf_102 : decode cX10_gainOf 102 = .ok (.idiv, 1) := by decide +kernel
theorem dX10_gainOf_103 : decode cX10_gainOf 103 = .ok (.ireturn, 1) := by decide +kernel
theorem dX10_gainOf_104 : decode cX10_gainOf 104 = .ok (.aload_n 0, 1) := by decide +kernel
theorem dX10_gainOf_105 : decode cX10_gainOf 105 = .ok (.iload_n 2, 1) := by decide +kernel
theorem dX10_gainOf_106 : decode cX10_gainOf 106 = .ok (.iconst 4, 1) := by decide +kernel
theorem dX10_gainOf_107 : decode cX10_gainOf 107 = .ok (.invokevirtual 103, 3) := by decide +kernel
theorem dX10_gainOf_110 : decode cX10_gainOf 110 = .ok (.iconst 1, 1) := by decide +kernel
theorem dX10_gainOf_111 : decode cX10_gainOf 111 = .ok (.if_icmp .ne 8, 3) := by decide +kernel
theorem dX10_gainOf_114 : decode cX10_gainOf 114 = .ok (.iload 6, 2) := by decide +kernel
theorem dX10_gainOf_116 : decode cX10_gainOf 116 = .ok (.goto 7, 3) := by decide +kernel
theorem dX10_gainOf_119 : decode cX10_gainOf 119 = .ok (.iload 6, 2) := by decide +kernel
theorem dX10_gainOf_121 : decode cX10_gainOf 121 = .ok (.iconst 3, 1) := by decide +kernel
theorem dX10_gainOf_122 : decode cX10_gainOf 122 = .ok (.idiv, 1) := by decide +kernel
theorem dX10_gainOf_123 : decode cX10_gainOf 123 = .ok (.ireturn, 1) := by decide +kernel
theorem dX10_gainOf_124 : decode cX10_gainOf 124 = .ok (.iload 4, 2) := by decide +kernel
theorem dX10_gainOf_126 : decode cX10_gainOf 126 = .ok (.iconst 4, 1) := by decide +kernel
theorem dX10_gainOf_127 : decode cX10_gainOf 127 = .ok (.idiv, 1) := by decide +kernel
theorem dX10_gainOf_128 : decode cX10_gainOf 128 = .ok (.iconst 1, 1) := by decide +kernel
theorem dX10_gainOf_129 : decode cX10_gainOf 129 = .ok (.iadd, 1) := by decide +kernel
theorem dX10_gainOf_130 : decode cX10_gainOf 130 = .ok (.ireturn, 1) := by decide +kernel
theorem dX10_gainOf_131 : decode cX10_gainOf 131 = .ok (.aload_n 0, 1) := by decide +kernel
theorem dX10_gainOf_132 : decode cX10_gainOf 132 = .ok (.iload_n 2, 1) := by decide +kernel
theorem dX10_gainOf_133 : decode cX10_gainOf 133 = .ok (.iconst 3, 1) := by decide +kernel
theorem dX10_gainOf_134 : decode cX10_gainOf 134 = .ok (.invokevirtual 103, 3) := by decide +kernel
theorem dX10_gainOf_137 : decode cX10_gainOf 137 = .ok (.iconst 1, 1) := by decide +kernel
theorem dX10_gainOf_138 : decode cX10_gainOf 138 = .ok (.if_icmp .ne 10, 3) := by decide +kernel
theorem dX10_gainOf_141 : decode cX10_gainOf 141 = .ok (.iconst 3, 1) := by decide +kernel
theorem dX10_gainOf_142 : decode cX10_gainOf 142 = .ok (.iload 5, 2) := by decide +kernel
theorem dX10_gainOf_144 : decode cX10_gainOf 144 = .ok (.imul, 1) := by decide +kernel
theorem dX10_gainOf_145 : decode cX10_gainOf 145 = .ok (.goto 5, 3) := by decide +kernel
theorem dX10_gainOf_148 : decode cX10_gainOf 148 = .ok (.iload 5, 2) := by decide +kernel
theorem dX10_gainOf_150 : decode cX10_gainOf 150 = .ok (.ireturn, 1) := by decide +kernel
theorem dX10_gainOf_151 : decode cX10_gainOf 151 = .ok (.iload 5, 2) := by decide +kernel
theorem dX10_gainOf_153 : decode cX10_gainOf 153 = .ok (.ireturn, 1) := by decide +kernel
theorem dX10_gain_0 : decode cX10_gain 0 = .ok (.aload_n 0, 1) := by decide +kernel
theorem dX10_gain_1 : decode cX10_gain 1 = .ok (.iload_n 1, 1) := by decide +kernel
theorem dX10_gain_2 : decode cX10_gain 2 = .ok (.invokevirtual 79, 3) := by decide +kernel
theorem dX10_gain_5 : decode cX10_gain 5 = .ok (.ifCond .eq 19, 3) := by decide +kernel
theorem dX10_gain_8 : decode cX10_gain 8 = .ok (.aload_n 0, 1) := by decide +kernel
theorem dX10_gain_9 : decode cX10_gain 9 = .ok (.iload_n 2, 1) := by decide +kernel
theorem dX10_gain_10 : decode cX10_gain 10 = .ok (.invokevirtual 100, 3) := by decide +kernel
theorem dX10_gain_13 : decode cX10_gain 13 = .ok (.ifCond .eq 11, 3) := by decide +kernel
theorem dX10_gain_16 : decode cX10_gain 16 = .ok (.aload_n 0, 1) := by decide +kernel
theorem dX10_gain_17 : decode cX10_gain 17 = .ok (.iload_n 3, 1) := by decide +kernel
theorem dX10_gain_18 : decode cX10_gain 18 = .ok (.invokevirtual 109, 3) := by decide +kernel
theorem dX10_gain_21 : decode cX10_gain 21 = .ok (.ifCond .ne 10, 3) := by decide +kernel
theorem dX10_gain_24 : decode cX10_gain 24 = .ok (.aload_n 0, 1) := by decide +kernel
theorem dX10_gain_25 : decode cX10_gain 25 = .ok (.ldc 44, 2) := by decide +kernel
theorem dX10_gain_27 : decode cX10_gain 27 = .ok (.invokevirtual 67, 3) := by decide +kernel
theorem dX10_gain_30 : decode cX10_gain 30 = .ok (.ireturn, 1) := by decide +kernel
theorem dX10_gain_31 : decode cX10_gain 31 = .ok (.aload_n 0, 1) := by decide +kernel
theorem dX10_gain_32 : decode cX10_gain 32 = .ok (.iload_n 1, 1) := by decide +kernel
theorem dX10_gain_33 : decode cX10_gain 33 = .ok (.iload_n 2, 1) := by decide +kernel
theorem dX10_gain_34 : decode cX10_gain 34 = .ok (.aload_n 0, 1) := by decide +kernel
theorem dX10_gain_35 : decode cX10_gain 35 = .ok (.iload_n 3, 1) := by decide +kernel
theorem dX10_gain_36 : decode cX10_gain 36 = .ok (.invokevirtual 112, 3) := by decide +kernel
theorem dX10_gain_39 : decode cX10_gain 39 = .ok (.invokevirtual 115, 3) := by decide +kernel
theorem dX10_gain_42 : decode cX10_gain 42 = .ok (.ireturn, 1) := by decide +kernel
theorem dX10_metOf_0 : decode cX10_metOf 0 = .ok (.aload_n 0, 1) := by decide +kernel
theorem dX10_metOf_1 : decode cX10_metOf 1 = .ok (.iload_n 1, 1) := by decide +kernel
theorem dX10_metOf_2 : decode cX10_metOf 2 = .ok (.iconst 1, 1) := by decide +kernel
theorem dX10_metOf_3 : decode cX10_metOf 3 = .ok (.invokevirtual 103, 3) := by decide +kernel
theorem dX10_metOf_6 : decode cX10_metOf 6 = .ok (.istore 5, 2) := by decide +kernel
theorem dX10_metOf_8 : decode cX10_metOf 8 = .ok (.iload 5, 2) := by decide +kernel
theorem dX10_metOf_10 : decode cX10_metOf 10 = .ok (.bipush 10, 2) := by decide +kernel
theorem dX10_metOf_12 : decode cX10_metOf 12 = .ok (.idiv, 1) := by decide +kernel
theorem dX10_metOf_13 : decode cX10_metOf 13 = .ok (.istore 6, 2) := by decide +kernel
theorem dX10_metOf_15 : decode cX10_metOf 15 = .ok (.iconst 0, 1) := by decide +kernel
theorem dX10_metOf_16 : decode cX10_metOf 16 = .ok (.istore 7, 2) := by decide +kernel
theorem dX10_metOf_18 : decode cX10_metOf 18 = .ok (.iload 7, 2) := by decide +kernel
theorem dX10_metOf_20 : decode cX10_metOf 20 = .ok (.aload_n 0, 1) := by decide +kernel
theorem dX10_metOf_21 : decode cX10_metOf 21 = .ok (.getfield 7, 3) := by decide +kernel
theorem dX10_metOf_24 : decode cX10_metOf 24 = .ok (.iconst 0, 1) := by decide +kernel
theorem dX10_metOf_25 : decode cX10_metOf 25 = .ok (.iaload, 1) := by decide +kernel
theorem dX10_metOf_26 : decode cX10_metOf 26 = .ok (.if_icmp .ge 48, 3) := by decide +kernel
theorem dX10_metOf_29 : decode cX10_metOf 29 = .ok (.iload_n 2, 1) := by decide +kernel
theorem dX10_metOf_30 : decode cX10_metOf 30 = .ok (.iload 7, 2) := by decide +kernel
theorem dX10_metOf_32 : decode cX10_metOf 32 = .ok (.invokestatic 106, 3) := by decide +kernel
theorem dX10_metOf_35 : decode cX10_metOf 35 = .ok (.ifCond .eq 14, 3) := by decide +kernel
theorem dX10_metOf_38 : decode cX10_metOf 38 = .ok (.aload_n 0, 1) := by decide +kernel
theorem dX10_metOf_39 : decode cX10_metOf 39 = .ok (.iload 7, 2) := by decide +kernel
theorem dX10_metOf_41 : decode cX10_metOf 41 = .ok (.iload_n 1, 1) := by decide +kernel
theorem dX10_metOf_42 : decode cX10_metOf 42 = .ok (.iload_n 3, 1) := by decide +kernel
theorem dX10_metOf_43 : decode cX10_metOf 43 = .ok (.invokevirtual 115, 3) := by decide +kernel
theorem dX10_metOf_46 : decode cX10_metOf 46 = .ok (.goto 4, 3) := by decide +kernel
theorem dX10_metOf_49 : decode cX10_metOf 49 = .ok (.iconst 0, 1) := by decide +kernel
theorem dX10_metOf_50 : decode cX10_metOf 50 = .ok (.istore 8, 2) := by decide +kernel
theorem dX10_metOf_52 : decode cX10_metOf 52 = .ok (.iload 8, 2) := by decide +kernel
theorem dX10_metOf_54 : decode cX10_metOf 54 = .ok (.iload 6, 2) := by decide +kernel
theorem dX10_metOf_56 : decode cX10_metOf 56 = .ok (.if_icmp .le 8, 3) := by decide +kernel
theorem dX10_metOf_59 : decode cX10_metOf 59 = .ok (.iload 8, 2) := by decide +kernel
theorem dX10_metOf_61 : decode cX10_metOf 61 = .ok (.goto 5, 3) := by decide +kernel
theorem dX10_metOf_64 : decode cX10_metOf 64 = .ok (.iload 6, 2) := by decide +kernel
theorem dX10_metOf_66 : decode cX10_metOf 66 = .ok (.istore 6, 2) := by decide +kernel
theorem dX10_metOf_68 : decode cX10_metOf 68 = .ok (.iinc 7 1, 3) := by decide +kernel
theorem dX10_metOf_71 : decode cX10_metOf 71 = .ok (.goto (-53), 3) := by decide +kernel
theorem dX10_metOf_74 : decode cX10_metOf 74 = .ok (.iload 6, 2) := by decide +kernel
theorem dX10_metOf_76 : decode cX10_metOf 76 = .ok (.iload 4, 2) := by decide +kernel
theorem dX10_metOf_78 : decode cX10_metOf 78 = .ok (.ifCond .eq 10, 3) := by decide +kernel
theorem dX10_metOf_81 : decode cX10_metOf 81 = .ok (.iload 5, 2) := by decide +kernel
theorem dX10_metOf_83 : decode cX10_metOf 83 = .ok (.iconst 5, 1) := by decide +kernel
theorem dX10_metOf_84 : decode cX10_metOf 84 = .ok (.idiv, 1) := by decide +kernel
theorem dX10_metOf_85 : decode cX10_metOf 85 = .ok (.goto 4, 3) := by decide +kernel
theorem dX10_metOf_88 : decode cX10_metOf 88 = .ok (.iconst 0, 1) := by decide +kernel
theorem dX10_metOf_89 : decode cX10_metOf 89 = .ok (.iadd, 1) := by decide +kernel
theorem dX10_metOf_90 : decode cX10_metOf 90 = .ok (.istore 6, 2) := by decide +kernel
theorem dX10_metOf_92 : decode cX10_metOf 92 = .ok (.iload 6, 2) := by decide +kernel
theorem dX10_metOf_94 : decode cX10_metOf 94 = .ok (.iload 5, 2) := by decide +kernel
theorem dX10_metOf_96 : decode cX10_metOf 96 = .ok (.if_icmp .ge 8, 3) := by decide +kernel
theorem dX10_metOf_99 : decode cX10_metOf 99 = .ok (.iload 6, 2) := by decide +kernel
theorem dX10_metOf_101 : decode cX10_metOf 101 = .ok (.goto 5, 3) := by decide +kernel
theorem dX10_metOf_104 : decode cX10_metOf 104 = .ok (.iload 5, 2) := by decide +kernel
theorem dX10_metOf_106 : decode cX10_metOf 106 = .ok (.ireturn, 1) := by decide +kernel
theorem dX10_met_0 : decode cX10_met 0 = .ok (.aload_n 0, 1) := by decide +kernel
theorem dX10_met_1 : decode cX10_met 1 = .ok (.iload_n 1, 1) := by decide +kernel
theorem dX10_met_2 : decode cX10_met 2 = .ok (.invokevirtual 100, 3) := by decide +kernel
theorem dX10_met_5 : decode cX10_met 5 = .ok (.ifCond .eq 11, 3) := by decide +kernel
theorem dX10_met_8 : decode cX10_met 8 = .ok (.aload_n 0, 1) := by decide +kernel
theorem dX10_met_9 : decode cX10_met 9 = .ok (.iload_n 2, 1) := by decide +kernel
theorem dX10_met_10 : decode cX10_met 10 = .ok (.invokevirtual 109, 3) := by decide +kernel
theorem dX10_met_13 : decode cX10_met 13 = .ok (.ifCond .ne 10, 3) := by decide +kernel
theorem dX10_met_16 : decode cX10_met 16 = .ok (.aload_n 0, 1) := by decide +kernel
theorem dX10_met_17 : decode cX10_met 17 = .ok (.ldc 44, 2) := by decide +kernel
theorem dX10_met_19 : decode cX10_met 19 = .ok (.invokevirtual 67, 3) := by decide +kernel
theorem dX10_met_22 : decode cX10_met 22 = .ok (.ireturn, 1) := by decide +kernel
theorem dX10_met_23 : decode cX10_met 23 = .ok (.aload_n 0, 1) := by decide +kernel
theorem dX10_met_24 : decode cX10_met 24 = .ok (.iload_n 1, 1) := by decide +kernel
theorem dX10_met_25 : decode cX10_met 25 = .ok (.iload_n 2, 1) := by decide +kernel
theorem dX10_met_26 : decode cX10_met 26 = .ok (.aload_n 0, 1) := by decide +kernel
theorem dX10_met_27 : decode cX10_met 27 = .ok (.iload_n 2, 1) := by decide +kernel
theorem dX10_met_28 : decode cX10_met 28 = .ok (.invokevirtual 112, 3) := by decide +kernel
theorem dX10_met_31 : decode cX10_met 31 = .ok (.aload_n 0, 1) := by decide +kernel
theorem dX10_met_32 : decode cX10_met 32 = .ok (.iload_n 2, 1) := by decide +kernel
theorem dX10_met_33 : decode cX10_met 33 = .ok (.invokevirtual 119, 3) := by decide +kernel
theorem dX10_met_36 : decode cX10_met 36 = .ok (.invokevirtual 122, 3) := by decide +kernel
theorem dX10_met_39 : decode cX10_met 39 = .ok (.ireturn, 1) := by decide +kernel
theorem dX10_valueOf_0 : decode cX10_valueOf 0 = .ok (.aload_n 0, 1) := by decide +kernel
theorem dX10_valueOf_1 : decode cX10_valueOf 1 = .ok (.iload_n 1, 1) := by decide +kernel
theorem dX10_valueOf_2 : decode cX10_valueOf 2 = .ok (.invokevirtual 112, 3) := by decide +kernel
theorem dX10_valueOf_5 : decode cX10_valueOf 5 = .ok (.istore_n 2, 1) := by decide +kernel
theorem dX10_valueOf_6 : decode cX10_valueOf 6 = .ok (.aload_n 0, 1) := by decide +kernel
theorem dX10_valueOf_7 : decode cX10_valueOf 7 = .ok (.iload_n 1, 1) := by decide +kernel
theorem dX10_valueOf_8 : decode cX10_valueOf 8 = .ok (.invokevirtual 119, 3) := by decide +kernel
theorem dX10_valueOf_11 : decode cX10_valueOf 11 = .ok (.istore_n 3, 1) := by decide +kernel
theorem dX10_valueOf_12 : decode cX10_valueOf 12 = .ok (.iconst 0, 1) := by decide +kernel
theorem dX10_valueOf_13 : decode cX10_valueOf 13 = .ok (.istore 4, 2) := by decide +kernel
theorem dX10_valueOf_15 : decode cX10_valueOf 15 = .ok (.iconst 0, 1) := by decide +kernel
theorem dX10_valueOf_16 : decode cX10_valueOf 16 = .ok (.istore 5, 2) := by decide +kernel
theorem dX10_valueOf_18 : decode cX10_valueOf 18 = .ok (.iload 5, 2) := by decide +kernel
theorem dX10_valueOf_20 : decode cX10_valueOf 20 = .ok (.aload_n 0, 1) := by decide +kernel
theorem dX10_valueOf_21 : decode cX10_valueOf 21 = .ok (.getfield 7, 3) := by decide +kernel
theorem dX10_valueOf_24 : decode cX10_valueOf 24 = .ok (.iconst 1, 1) := by decide +kernel
theorem dX10_valueOf_25 : decode cX10_valueOf 25 = .ok (.iaload, 1) := by decide +kernel
theorem dX10_valueOf_26 : decode cX10_valueOf 26 = .ok (.if_icmp .ge 23, 3) := by decide +kernel
theorem dX10_valueOf_29 : decode cX10_valueOf 29 = .ok (.iload 4, 2) := by decide +kernel
theorem dX10_valueOf_31 : decode cX10_valueOf 31 = .ok (.aload_n 0, 1) := by decide +kernel
theorem dX10_valueOf_32 : decode cX10_valueOf 32 = .ok (.iload 5, 2) := by decide +kernel
theorem dX10_valueOf_34 : decode cX10_valueOf 34 = .ok (.iload_n 1, 1) := by decide +kernel
theorem dX10_valueOf_35 : decode cX10_valueOf 35 = .ok (.iload_n 2, 1) := by decide +kernel
theorem dX10_valueOf_36 : decode cX10_valueOf 36 = .ok (.iload_n 3, 1) := by decide +kernel
theorem dX10_valueOf_37 : decode cX10_valueOf 37 = .ok (.invokevirtual 122, 3) := by decide +kernel
theorem dX10_valueOf_40 : decode cX10_valueOf 40 = .ok (.iadd, 1) := by decide +kernel
theorem dX10_valueOf_41 : decode cX10_valueOf 41 = .ok (.istore 4, 2) := by decide +kernel
theorem dX10_valueOf_43 : decode cX10_valueOf 43 = .ok (.iinc 5 1, 3) := by decide +kernel
theorem dX10_valueOf_46 : decode cX10_valueOf 46 = .ok (.goto (-28), 3) := by decide +kernel
theorem dX10_valueOf_49 : decode cX10_valueOf 49 = .ok (.iload 4, 2) := by decide +kernel
theorem dX10_valueOf_51 : decode cX10_valueOf 51 = .ok (.ireturn, 1) := by decide +kernel
theorem dX10_value_0 : decode cX10_value 0 = .ok (.aload_n 0, 1) := by decide +kernel
theorem dX10_value_1 : decode cX10_value 1 = .ok (.iload_n 1, 1) := by decide +kernel
theorem dX10_value_2 : decode cX10_value 2 = .ok (.invokevirtual 109, 3) := by decide +kernel
theorem dX10_value_5 : decode cX10_value 5 = .ok (.ifCond .eq 11, 3) := by decide +kernel
theorem dX10_value_8 : decode cX10_value 8 = .ok (.aload_n 0, 1) := by decide +kernel
theorem dX10_value_9 : decode cX10_value 9 = .ok (.iload_n 1, 1) := by decide +kernel
theorem dX10_value_10 : decode cX10_value 10 = .ok (.invokevirtual 126, 3) := by decide +kernel
theorem dX10_value_13 : decode cX10_value 13 = .ok (.goto 9, 3) := by decide +kernel
theorem dX10_value_16 : decode cX10_value 16 = .ok (.aload_n 0, 1) := by decide +kernel
theorem dX10_value_17 : decode cX10_value 17 = .ok (.ldc 44, 2) := by decide +kernel
theorem dX10_value_19 : decode cX10_value 19 = .ok (.invokevirtual 67, 3) := by decide +kernel
theorem dX10_value_22 : decode cX10_value 22 = .ok (.ireturn, 1) := by decide +kernel
theorem dX10_byOf_0 : decode cX10_byOf 0 = .ok (.aload_n 0, 1) := by decide +kernel
theorem dX10_byOf_1 : decode cX10_byOf 1 = .ok (.iload_n 2, 1) := by decide +kernel
theorem dX10_byOf_2 : decode cX10_byOf 2 = .ok (.invokevirtual 112, 3) := by decide +kernel
theorem dX10_byOf_5 : decode cX10_byOf 5 = .ok (.istore_n 3, 1) := by decide +kernel
theorem dX10_byOf_6 : decode cX10_byOf 6 = .ok (.iconst (-1), 1) := by decide +kernel
theorem dX10_byOf_7 : decode cX10_byOf 7 = .ok (.istore 4, 2) := by decide +kernel
theorem dX10_byOf_9 : decode cX10_byOf 9 = .ok (.aload_n 0, 1) := by decide +kernel
theorem dX10_byOf_10 : decode cX10_byOf 10 = .ok (.iload_n 1, 1) := by decide +kernel
theorem dX10_byOf_11 : decode cX10_byOf 11 = .ok (.iconst 1, 1) := by decide +kernel
theorem dX10_byOf_12 : decode cX10_byOf 12 = .ok (.invokevirtual 103, 3) := by decide +kernel
theorem dX10_byOf_15 : decode cX10_byOf 15 = .ok (.bipush 10, 2) := by decide +kernel
theorem dX10_byOf_17 : decode cX10_byOf 17 = .ok (.idiv, 1) := by decide +kernel
theorem dX10_byOf_18 : decode cX10_byOf 18 = .ok (.istore 5, 2) := by decide +kernel
theorem dX10_byOf_20 : decode cX10_byOf 20 = .ok (.iconst 0, 1) := by decide +kernel
theorem dX10_byOf_21 : decode cX10_byOf 21 = .ok (.istore 6, 2) := by decide +kernel
theorem dX10_byOf_23 : decode cX10_byOf 23 = .ok (.iload 6, 2) := by decide +kernel
theorem dX10_byOf_25 : decode cX10_byOf 25 = .ok (.aload_n 0, 1) := by decide +kernel
theorem dX10_byOf_26 : decode cX10_byOf 26 = .ok (.getfield 7, 3) := by decide +kernel
theorem dX10_byOf_29 : decode cX10_byOf 29 = .ok (.iconst 0, 1) := by decide +kernel
theorem dX10_byOf_30 : decode cX10_byOf 30 = .ok (.iaload, 1) := by decide +kernel
theorem dX10_byOf_31 : decode cX10_byOf 31 = .ok (.if_icmp .ge 64, 3) := by decide +kernel
theorem dX10_byOf_34 : decode cX10_byOf 34 = .ok (.iload_n 2, 1) := by decide +kernel
theorem dX10_byOf_35 : decode cX10_byOf 35 = .ok (.iload 6, 2) := by decide +kernel
theorem dX10_byOf_37 : decode cX10_byOf 37 = .ok (.invokestatic 106, 3) := by decide +kernel
theorem dX10_byOf_40 : decode cX10_byOf 40 = .ok (.ifCond .eq 14, 3) := by decide +kernel
theorem dX10_byOf_43 : decode cX10_byOf 43 = .ok (.aload_n 0, 1) := by decide +kernel
theorem dX10_byOf_44 : decode cX10_byOf 44 = .ok (.iload 6, 2) := by decide +kernel
theorem dX10_byOf_46 : decode cX10_byOf 46 = .ok (.iload_n 1, 1) := by decide +kernel
theorem dX10_byOf_47 : decode cX10_byOf 47 = .ok (.iload_n 3, 1) := by decide +kernel
theorem dX10_byOf_48 : decode cX10_byOf 48 = .ok (.invokevirtual 115, 3) := by decide +kernel
theorem dX10_byOf_51 : decode cX10_byOf 51 = .ok (.goto 4, 3) := by decide +kernel
theorem dX10_byOf_54 : decode cX10_byOf 54 = .ok (.iconst 0, 1) := by decide +kernel
theorem dX10_byOf_55 : decode cX10_byOf 55 = .ok (.istore 7, 2) := by decide +kernel
theorem dX10_byOf_57 : decode cX10_byOf 57 = .ok (.iload 7, 2) := by decide +kernel
theorem dX10_byOf_59 : decode cX10_byOf 59 = .ok (.iload 5, 2) := by decide +kernel
theorem dX10_byOf_61 : decode cX10_byOf 61 = .ok (.if_icmp .le 8, 3) := by decide +kernel
theorem dX10_byOf_64 : decode cX10_byOf 64 = .ok (.iload 6, 2) := by decide +kernel
theorem dX10_byOf_66 : decode cX10_byOf 66 = .ok (.goto 5, 3) := by decide +kernel
theorem dX10_byOf_69 : decode cX10_byOf 69 = .ok (.iload 4, 2) := by decide +kernel
theorem dX10_byOf_71 : decode cX10_byOf 71 = .ok (.istore 4, 2) := by decide +kernel
theorem dX10_byOf_73 : decode cX10_byOf 73 = .ok (.iload 7, 2) := by decide +kernel
theorem dX10_byOf_75 : decode cX10_byOf 75 = .ok (.iload 5, 2) := by decide +kernel
theorem dX10_byOf_77 : decode cX10_byOf 77 = .ok (.if_icmp .le 8, 3) := by decide +kernel
theorem dX10_byOf_80 : decode cX10_byOf 80 = .ok (.iload 7, 2) := by decide +kernel
theorem dX10_byOf_82 : decode cX10_byOf 82 = .ok (.goto 5, 3) := by decide +kernel
theorem dX10_byOf_85 : decode cX10_byOf 85 = .ok (.iload 5, 2) := by decide +kernel
theorem dX10_byOf_87 : decode cX10_byOf 87 = .ok (.istore 5, 2) := by decide +kernel
theorem dX10_byOf_89 : decode cX10_byOf 89 = .ok (.iinc 6 1, 3) := by decide +kernel
theorem dX10_byOf_92 : decode cX10_byOf 92 = .ok (.goto (-69), 3) := by decide +kernel
theorem dX10_byOf_95 : decode cX10_byOf 95 = .ok (.iload 4, 2) := by decide +kernel
theorem dX10_byOf_97 : decode cX10_byOf 97 = .ok (.ireturn, 1) := by decide +kernel
theorem dX10_by_0 : decode cX10_by 0 = .ok (.aload_n 0, 1) := by decide +kernel
theorem dX10_by_1 : decode cX10_by 1 = .ok (.iload_n 1, 1) := by decide +kernel
theorem dX10_by_2 : decode cX10_by 2 = .ok (.invokevirtual 100, 3) := by decide +kernel
theorem dX10_by_5 : decode cX10_by 5 = .ok (.ifCond .eq 11, 3) := by decide +kernel
theorem dX10_by_8 : decode cX10_by 8 = .ok (.aload_n 0, 1) := by decide +kernel
theorem dX10_by_9 : decode cX10_by 9 = .ok (.iload_n 2, 1) := by decide +kernel
theorem dX10_by_10 : decode cX10_by 10 = .ok (.invokevirtual 109, 3) := by decide +kernel
theorem dX10_by_13 : decode cX10_by 13 = .ok (.ifCond .ne 10, 3) := by decide +kernel
theorem dX10_by_16 : decode cX10_by 16 = .ok (.aload_n 0, 1) := by decide +kernel
theorem dX10_by_17 : decode cX10_by 17 = .ok (.ldc 44, 2) := by decide +kernel
theorem dX10_by_19 : decode cX10_by 19 = .ok (.invokevirtual 67, 3) := by decide +kernel
theorem dX10_by_22 : decode cX10_by 22 = .ok (.ireturn, 1) := by decide +kernel
theorem dX10_by_23 : decode cX10_by 23 = .ok (.aload_n 0, 1) := by decide +kernel
theorem dX10_by_24 : decode cX10_by 24 = .ok (.iload_n 1, 1) := by decide +kernel
theorem dX10_by_25 : decode cX10_by 25 = .ok (.iload_n 2, 1) := by decide +kernel
theorem dX10_by_26 : decode cX10_by 26 = .ok (.invokevirtual 129, 3) := by decide +kernel
theorem dX10_by_29 : decode cX10_by 29 = .ok (.istore_n 3, 1) := by decide +kernel
theorem dX10_by_30 : decode cX10_by 30 = .ok (.iload_n 3, 1) := by decide +kernel
theorem dX10_by_31 : decode cX10_by 31 = .ok (.ifCond .ge 12, 3) := by decide +kernel
theorem dX10_by_34 : decode cX10_by 34 = .ok (.aload_n 0, 1) := by decide +kernel
theorem dX10_by_35 : decode cX10_by 35 = .ok (.ldc 132, 2) := by decide +kernel
theorem dX10_by_37 : decode cX10_by 37 = .ok (.invokevirtual 67, 3) := by decide +kernel
theorem dX10_by_40 : decode cX10_by 40 = .ok (.goto 4, 3) := by decide +kernel
theorem dX10_by_43 : decode cX10_by 43 = .ok (.iload_n 3, 1) := by decide +kernel
theorem dX10_by_44 : decode cX10_by 44 = .ok (.ireturn, 1) := by decide +kernel
theorem dX10_minutesOf_0 : decode cX10_minutesOf 0 = .ok (.iconst 0, 1) := by decide +kernel
theorem dX10_minutesOf_1 : decode cX10_minutesOf 1 = .ok (.istore_n 2, 1) := by decide +kernel
theorem dX10_minutesOf_2 : decode cX10_minutesOf 2 = .ok (.iconst 0, 1) := by decide +kernel
theorem dX10_minutesOf_3 : decode cX10_minutesOf 3 = .ok (.istore_n 3, 1) := by decide +kernel
theorem dX10_minutesOf_4 : decode cX10_minutesOf 4 = .ok (.iload_n 3, 1) := by decide +kernel
theorem dX10_minutesOf_5 : decode cX10_minutesOf 5 = .ok (.aload_n 0, 1) := by decide +kernel
theorem dX10_minutesOf_6 : decode cX10_minutesOf 6 = .ok (.getfield 7, 3) := by decide +kernel
theorem dX10_minutesOf_9 : decode cX10_minutesOf 9 = .ok (.iconst 0, 1) := by decide +kernel
theorem dX10_minutesOf_10 : decode cX10_minutesOf 10 = .ok (.iaload, 1) := by decide +kernel
theorem dX10_minutesOf_11 : decode cX10_minutesOf 11 = .ok (.if_icmp .ge 30, 3) := by decide +kernel
theorem dX10_minutesOf_14 : decode cX10_minutesOf 14 = .ok (.iload_n 2, 1) := by decide +kernel
theorem dX10_minutesOf_15 : decode cX10_minutesOf 15 = .ok (.iload_n 1, 1) := by decide +kernel
theorem dX10_minutesOf_16 : decode cX10_minutesOf 16 = .ok (.iload_n 3, 1) := by decide +kernel
theorem dX10_minutesOf_17 : decode cX10_minutesOf 17 = .ok (.invokestatic 106, 3) := by decide +kernel
theorem dX10_minutesOf_20 : decode cX10_minutesOf 20 = .ok (.ifCond .eq 12, 3) := by decide +kernel
theorem dX10_minutesOf_23 : decode cX10_minutesOf 23 = .ok (.aload_n 0, 1) := by decide +kernel
theorem dX10_minutesOf_24 : decode cX10_minutesOf 24 = .ok (.iload_n 3, 1) := by decide +kernel
theorem dX10_minutesOf_25 : decode cX10_minutesOf 25 = .ok (.iconst 2, 1) := by decide +kernel
theorem dX10_minutesOf_26 : decode cX10_minutesOf 26 = .ok (.invokevirtual 76, 3) := by decide +kernel
theorem dX10_minutesOf_29 : decode cX10_minutesOf 29 = .ok (.goto 4, 3) := by decide +kernel
theorem dX10_minutesOf_32 : decode cX10_minutesOf 32 = .ok (.iconst 0, 1) := by decide +kernel
theorem dX10_minutesOf_33 : decode cX10_minutesOf 33 = .ok (.iadd, 1) := by decide +kernel
theorem dX10_minutesOf_34 : decode cX10_minutesOf 34 = .ok (.istore_n 2, 1) := by decide +kernel
theorem dX10_minutesOf_35 : decode cX10_minutesOf 35 = .ok (.iinc 3 1, 3) := by decide +kernel
theorem dX10_minutesOf_38 : decode cX10_minutesOf 38 = .ok (.goto (-34), 3) := by decide +kernel
theorem dX10_minutesOf_41 : decode cX10_minutesOf 41 = .ok (.iload_n 2, 1) := by decide +kernel
theorem dX10_minutesOf_42 : decode cX10_minutesOf 42 = .ok (.ireturn, 1) := by decide +kernel
theorem dX10_findBest_0 : decode cX10_findBest 0 = .ok (.aload_n 0, 1) := by decide +kernel
theorem dX10_findBest_1 : decode cX10_findBest 1 = .ok (.iconst (-1), 1) := by decide +kernel
theorem dX10_findBest_2 : decode cX10_findBest 2 = .ok (.putfield 133, 3) := by decide +kernel
theorem dX10_findBest_5 : decode cX10_findBest 5 = .ok (.iconst 0, 1) := by decide +kernel
theorem dX10_findBest_6 : decode cX10_findBest 6 = .ok (.istore_n 2, 1) := by decide +kernel
theorem dX10_findBest_7 : decode cX10_findBest 7 = .ok (.iload_n 2, 1) := by decide +kernel
theorem dX10_findBest_8 : decode cX10_findBest 8 = .ok (.iconst 1, 1) := by decide +kernel
theorem dX10_findBest_9 : decode cX10_findBest 9 = .ok (.aload_n 0, 1) := by decide +kernel
theorem dX10_findBest_10 : decode cX10_findBest 10 = .ok (.getfield 7, 3) := by decide +kernel
theorem dX10_findBest_13 : decode cX10_findBest 13 = .ok (.iconst 0, 1) := by decide +kernel
theorem dX10_findBest_14 : decode cX10_findBest 14 = .ok (.iaload, 1) := by decide +kernel
theorem dX10_findBest_15 : decode cX10_findBest 15 = .ok (.ishl, 1) := by decide +kernel
theorem dX10_findBest_16 : decode cX10_findBest 16 = .ok (.if_icmp .ge 85, 3) := by decide +kernel
theorem dX10_findBest_19 : decode cX10_findBest 19 = .ok (.aload_n 0, 1) := by decide +kernel
theorem dX10_findBest_20 : decode cX10_findBest 20 = .ok (.iload_n 2, 1) := by decide +kernel
theorem dX10_findBest_21 : decode cX10_findBest 21 = .ok (.invokevirtual 137, 3) := by decide +kernel
theorem dX10_findBest_24 : decode cX10_findBest 24 = .ok (.istore_n 3, 1) := by decide +kernel
theorem dX10_findBest_25 : decode cX10_findBest 25 = .ok (.iload_n 3, 1) := by decide +kernel
theorem dX10_findBest_26 : decode cX10_findBest 26 = .ok (.iload_n 1, 1) := by decide +kernel
theorem dX10_findBest_27 : decode cX10_findBest 27 = .ok (.if_icmp .gt 11, 3) := by decide +kernel
theorem dX10_findBest_30 : decode cX10_findBest 30 = .ok (.aload_n 0, 1) := by decide +kernel
theorem dX10_findBest_31 : decode cX10_findBest 31 = .ok (.iload_n 2, 1) := by decide +kernel
theorem dX10_findBest_32 : decode cX10_findBest 32 = .ok (.invokevirtual 126, 3) := by decide +kernel
theorem dX10_findBest_35 : decode cX10_findBest 35 = .ok (.goto 4, 3) := by decide +kernel
theorem dX10_findBest_38 : decode cX10_findBest 38 = .ok (.iconst 0, 1) := by decide +kernel
theorem dX10_findBest_39 : decode cX10_findBest 39 = .ok (.istore 4, 2) := by decide +kernel
theorem dX10_findBest_41 : decode cX10_findBest 41 = .ok (.iload_n 3, 1) := by decide +kernel
theorem dX10_findBest_42 : decode cX10_findBest 42 = .ok (.iload_n 1, 1) := by decide +kernel
theorem dX10_findBest_43 : decode cX10_findBest 43 = .ok (.if_icmp .gt 52, 3) := by decide +kernel
theorem dX10_findBest_46 : decode cX10_findBest 46 = .ok (.aload_n 0, 1) := by decide +kernel
theorem dX10_findBest_47 : decode cX10_findBest 47 = .ok (.getfield 133, 3) := by decide +kernel
theorem dX10_findBest_50 : decode cX10_findBest 50 = .ok (.ifCond .lt 29, 3) := by decide +kernel
theorem dX10_findBest_53 : decode cX10_findBest 53 = .ok (.iload 4, 2) := by decide +kernel
theorem dX10_findBest_55 : decode cX10_findBest 55 = .ok (.aload_n 0, 1) := by decide +kernel
theorem dX10_findBest_56 : decode cX10_findBest 56 = .ok (.getfield 140, 3) := by decide +kernel
theorem dX10_findBest_59 : decode cX10_findBest 59 = .ok (.if_icmp .gt 20, 3) := by decide +kernel
theorem dX10_findBest_62 : decode cX10_findBest 62 = .ok (.iload 4, 2) := by decide +kernel
theorem dX10_findBest_64 : decode cX10_findBest 64 = .ok (.aload_n 0, 1) := by decide +kernel
theorem dX10_findBest_65 : decode cX10_findBest 65 = .ok (.getfield 140, 3) := by decide +kernel
theorem dX10_findBest_68 : decode cX10_findBest 68 = .ok (.if_icmp .ne 27, 3) := by decide +kernel
theorem dX10_findBest_71 : decode cX10_findBest 71 = .ok (.iload_n 3, 1) := by decide +kernel
theorem dX10_findBest_72 : decode cX10_findBest 72 = .ok (.aload_n 0, 1) := by decide +kernel
theorem dX10_findBest_73 : decode cX10_findBest 73 = .ok (.getfield 143, 3) := by decide +kernel
theorem dX10_findBest_76 : decode cX10_findBest 76 = .ok (.if_icmp .ge 19, 3) := by decide +kernel
theorem dX10_findBest_79 : decode cX10_findBest 79 = .ok (.aload_n 0, 1) := by decide +kernel
theorem dX10_findBest_80 : decode cX10_findBest 80 = .ok (.iload_n 2, 1) := by decide +kernel
theorem dX10_findBest_81 : decode cX10_findBest 81 = .ok (.putfield 133, 3) := by decide +kernel
theorem dX10_findBest_84 : decode cX10_findBest 84 = .ok (.aload_n 0, 1) := by decide +kernel
theorem dX10_findBest_85 : decode cX10_findBest 85 = .ok (.iload 4, 2) := by decide +kernel
theorem dX10_findBest_87 : decode cX10_findBest 87 = .ok (.putfield 140, 3) := by decide +kernel
theorem dX10_findBest_90 : decode cX10_findBest 90 = .ok (.aload_n 0, 1) := by decide +kernel
theorem dX10_findBest_91 : decode cX10_findBest 91 = .ok (.iload_n 3, 1) := by decide +kernel
theorem dX10_findBest_92 : decode cX10_findBest 92 = .ok (.putfield 143, 3) := by decide +kernel
theorem dX10_findBest_95 : decode cX10_findBest 95 = .ok (.iinc 2 1, 3) := by decide +kernel
theorem dX10_findBest_98 : decode cX10_findBest 98 = .ok (.goto (-91), 3) := by decide +kernel
theorem dX10_findBest_101 : decode cX10_findBest 101 = .ok (.return_, 1) := by decide +kernel
theorem dX10_best_0 : decode cX10_best 0 = .ok (.iload_n 1, 1) := by decide +kernel
theorem dX10_best_1 : decode cX10_best 1 = .ok (.i2l, 1) := by decide +kernel
theorem dX10_best_2 : decode cX10_best 2 = .ok (.lconst 0, 1) := by decide +kernel
theorem dX10_best_3 : decode cX10_best 3 = .ok (.ldc2_w 146, 3) := by decide +kernel
theorem dX10_best_6 : decode cX10_best 6 = .ok (.invokestatic 45, 3) := by decide +kernel
theorem dX10_best_9 : decode cX10_best 9 = .ok (.ifCond .eq 15, 3) := by decide +kernel
theorem dX10_best_12 : decode cX10_best 12 = .ok (.iload_n 2, 1) := by decide +kernel
theorem dX10_best_13 : decode cX10_best 13 = .ok (.i2l, 1) := by decide +kernel
theorem dX10_best_14 : decode cX10_best 14 = .ok (.lconst 0, 1) := by decide +kernel
theorem dX10_best_15 : decode cX10_best 15 = .ok (.ldc2_w 148, 3) := by decide +kernel
theorem dX10_best_18 : decode cX10_best 18 = .ok (.invokestatic 45, 3) := by decide +kernel
theorem dX10_best_21 : decode cX10_best 21 = .ok (.ifCond .ne 10, 3) := by decide +kernel
theorem dX10_best_24 : decode cX10_best 24 = .ok (.aload_n 0, 1) := by decide +kernel
theorem dX10_best_25 : decode cX10_best 25 = .ok (.ldc 44, 2) := by decide +kernel
theorem dX10_best_27 : decode cX10_best 27 = .ok (.invokevirtual 67, 3) := by decide +kernel
theorem dX10_best_30 : decode cX10_best 30 = .ok (.ireturn, 1) := by decide +kernel
theorem dX10_best_31 : decode cX10_best 31 = .ok (.aload_n 0, 1) := by decide +kernel
theorem dX10_best_32 : decode cX10_best 32 = .ok (.iload_n 1, 1) := by decide +kernel
theorem dX10_best_33 : decode cX10_best 33 = .ok (.invokevirtual 150, 3) := by decide +kernel
theorem dX10_best_36 : decode cX10_best 36 = .ok (.iload_n 2, 1) := by decide +kernel
theorem dX10_best_37 : decode cX10_best 37 = .ok (.ifCond .ne 10, 3) := by decide +kernel
theorem dX10_best_40 : decode cX10_best 40 = .ok (.aload_n 0, 1) := by decide +kernel
theorem dX10_best_41 : decode cX10_best 41 = .ok (.getfield 140, 3) := by decide +kernel
theorem dX10_best_44 : decode cX10_best 44 = .ok (.goto 19, 3) := by decide +kernel
theorem dX10_best_47 : decode cX10_best 47 = .ok (.iload_n 2, 1) := by decide +kernel
theorem dX10_best_48 : decode cX10_best 48 = .ok (.iconst 1, 1) := by decide +kernel
theorem dX10_best_49 : decode cX10_best 49 = .ok (.if_icmp .ne 10, 3) := by decide +kernel
theorem dX10_best_52 : decode cX10_best 52 = .ok (.aload_n 0, 1) := by decide +kernel
theorem dX10_best_53 : decode cX10_best 53 = .ok (.getfield 133, 3) := by decide +kernel
theorem dX10_best_56 : decode cX10_best 56 = .ok (.goto 7, 3) := by decide +kernel
theorem dX10_best_59 : decode cX10_best 59 = .ok (.aload_n 0, 1) := by decide +kernel
theorem dX10_best_60 : decode cX10_best 60 = .ok (.getfield 143, 3) := by decide +kernel
theorem dX10_best_63 : decode cX10_best 63 = .ok (.ireturn, 1) := by decide +kernel
theorem dX10_most_0 : decode cX10_most 0 = .ok (.aload_n 0, 1) := by decide +kernel
theorem dX10_most_1 : decode cX10_most 1 = .ok (.iload_n 1, 1) := by decide +kernel
theorem dX10_most_2 : decode cX10_most 2 = .ok (.invokevirtual 126, 3) := by decide +kernel
theorem dX10_most_5 : decode cX10_most 5 = .ok (.istore 4, 2) := by decide +kernel
theorem dX10_most_7 : decode cX10_most 7 = .ok (.iconst (-1), 1) := by decide +kernel
theorem dX10_most_8 : decode cX10_most 8 = .ok (.istore 5, 2) := by decide +kernel
theorem dX10_most_10 : decode cX10_most 10 = .ok (.iconst 0, 1) := by decide +kernel
theorem dX10_most_11 : decode cX10_most 11 = .ok (.istore 6, 2) := by decide +kernel
theorem dX10_most_13 : decode cX10_most 13 = .ok (.iconst 0, 1) := by decide +kernel
theorem dX10_most_14 : decode cX10_most 14 = .ok (.istore 7, 2) := by decide +kernel
theorem dX10_most_16 : decode cX10_most 16 = .ok (.iload 7, 2) := by decide +kernel
theorem dX10_most_18 : decode cX10_most 18 = .ok (.aload_n 0, 1) := by decide +kernel
theorem dX10_most_19 : decode cX10_most 19 = .ok (.getfield 7, 3) := by decide +kernel
theorem dX10_most_22 : decode cX10_most 22 = .ok (.iconst 0, 1) := by decide +kernel
theorem dX10_most_23 : decode cX10_most 23 = .ok (.iaload, 1) := by decide +kernel
theorem dX10_most_24 : decode cX10_most 24 = .ok (.if_icmp .ge 104, 3) := by decide +kernel
theorem dX10_most_27 : decode cX10_most 27 = .ok (.iload_n 1, 1) := by decide +kernel
theorem dX10_most_28 : decode cX10_most 28 = .ok (.iload 7, 2) := by decide +kernel
theorem dX10_most_30 : decode cX10_most 30 = .ok (.invokestatic 106, 3) := by decide +kernel
theorem dX10_most_33 : decode cX10_most 33 = .ok (.ifCond .ne 89, 3) := by decide +kernel
theorem dX10_most_36 : decode cX10_most 36 = .ok (.aload_n 0, 1) := by decide +kernel
theorem dX10_most_37 : decode cX10_most 37 = .ok (.iload 7, 2) := by decide +kernel
theorem dX10_most_39 : decode cX10_most 39 = .ok (.iconst 2, 1) := by decide +kernel
theorem dX10_most_40 : decode cX10_most 40 = .ok (.invokevirtual 76, 3) := by decide +kernel
theorem dX10_most_43 : decode cX10_most 43 = .ok (.iload_n 2, 1) := by decide +kernel
theorem dX10_most_44 : decode cX10_most 44 = .ok (.if_icmp .gt 78, 3) := by decide +kernel
theorem dX10_most_47 : decode cX10_most 47 = .ok (.aload_n 0, 1) := by decide +kernel
theorem dX10_most_48 : decode cX10_most 48 = .ok (.iload_n 1, 1) := by decide +kernel
theorem dX10_most_49 : decode cX10_most 49 = .ok (.iconst 1, 1) := by decide +kernel
theorem dX10_most_50 : decode cX10_most 50 = .ok (.iload 7, 2) := by decide +kernel
theorem dX10_most_52 : decode cX10_most 52 = .ok (.ishl, 1) := by decide +kernel
theorem dX10_most_53 : decode cX10_most 53 = .ok (.ior, 1) := by decide +kernel
theorem dX10_most_54 : decode cX10_most 54 = .ok (.invokevirtual 126, 3) := by decide +kernel
theorem dX10_most_57 : decode cX10_most 57 = .ok (.iload 4, 2) := by decide +kernel
theorem dX10_most_59 : decode cX10_most 59 = .ok (.isub, 1) := by decide +kernel
theorem dX10_most_60 : decode cX10_most 60 = .ok (.istore 8, 2) := by decide +kernel
theorem dX10_most_62 : decode cX10_most 62 = .ok (.iload_n 3, 1) := by decide +kernel
theorem dX10_most_63 : decode cX10_most 63 = .ok (.ifCond .eq 36, 3) := by decide +kernel
theorem dX10_most_66 : decode cX10_most 66 = .ok (.iload 5, 2) := by decide +kernel
theorem dX10_most_68 : decode cX10_most 68 = .ok (.ifCond .lt 31, 3) := by decide +kernel
theorem dX10_most_71 : decode cX10_most 71 = .ok (.iload 8, 2) := by decide +kernel
theorem dX10_most_73 : decode cX10_most 73 = .ok (.iload 6, 2) := by decide +kernel
theorem dX10_most_75 : decode cX10_most 75 = .ok (.if_icmp .ne 24, 3) := by decide +kernel
theorem dX10_most_78 : decode cX10_most 78 = .ok (.aload_n 0, 1) := by decide +kernel
theorem dX10_most_79 : decode cX10_most 79 = .ok (.iload 7, 2) := by decide +kernel
theorem dX10_most_81 : decode cX10_most 81 = .ok (.iconst 2, 1) := by decide +kernel
theorem dX10_most_82 : decode cX10_most 82 = .ok (.invokevirtual 76, 3) := by decide +kernel
theorem dX10_most_85 : decode cX10_most 85 = .ok (.aload_n 0, 1) := by decide +kernel
theorem dX10_most_86 : decode cX10_most 86 = .ok (.iload 5, 2) := by decide +kernel
theorem dX10_most_88 : decode cX10_most 88 = .ok (.iconst 2, 1) := by decide +kernel
theorem dX10_most_89 : decode cX10_most 89 = .ok (.invokevirtual 76, 3) := by decide +kernel
theorem dX10_most_92 : decode cX10_most 92 = .ok (.if_icmp .ge 7, 3) := by decide +kernel
theorem dX10_most_95 : decode cX10_most 95 = .ok (.iconst 1, 1) := by decide +kernel
theorem dX10_most_96 : decode cX10_most 96 = .ok (.goto 4, 3) := by decide +kernel
theorem dX10_most_99 : decode cX10_most 99 = .ok (.iconst 0, 1) := by decide +kernel
theorem dX10_most_100 : decode cX10_most 100 = .ok (.istore 9, 2) := by decide +kernel
theorem dX10_most_102 : decode cX10_most 102 = .ok (.iload 8, 2) := by decide +kernel
theorem dX10_most_104 : decode cX10_most 104 = .ok (.iload 6, 2) := by decide +kernel
theorem dX10_most_106 : decode cX10_most 106 = .ok (.if_icmp .gt 8, 3) := by decide +kernel
theorem dX10_most_109 : decode cX10_most 109 = .ok (.iload 9, 2) := by decide +kernel
theorem dX10_most_111 : decode cX10_most 111 = .ok (.ifCond .eq 11, 3) := by decide +kernel
theorem dX10_most_114 : decode cX10_most 114 = .ok (.iload 7, 2) := by decide +kernel
theorem dX10_most_116 : decode cX10_most 116 = .ok (.istore 5, 2) := by decide +kernel
theorem dX10_most_118 : decode cX10_most 118 = .ok (.iload 8, 2) := by decide +kernel
theorem dX10_most_120 : decode cX10_most 120 = .ok (.istore 6, 2) := by decide +kernel
theorem dX10_most_122 : decode cX10_most 122 = .ok (.iinc 7 1, 3) := by decide +kernel
theorem dX10_most_125 : decode cX10_most 125 = .ok (.goto (-109), 3) := by decide +kernel
theorem dX10_most_128 : decode cX10_most 128 = .ok (.iload 5, 2) := by decide +kernel
theorem dX10_most_130 : decode cX10_most 130 = .ok (.ireturn, 1) := by decide +kernel
theorem dX10_greedy_0 : decode cX10_greedy 0 = .ok (.iload_n 1, 1) := by decide +kernel
theorem dX10_greedy_1 : decode cX10_greedy 1 = .ok (.i2l, 1) := by decide +kernel
theorem dX10_greedy_2 : decode cX10_greedy 2 = .ok (.lconst 0, 1) := by decide +kernel
theorem dX10_greedy_3 : decode cX10_greedy 3 = .ok (.ldc2_w 146, 3) := by decide +kernel
theorem dX10_greedy_6 : decode cX10_greedy 6 = .ok (.invokestatic 45, 3) := by decide +kernel
theorem dX10_greedy_9 : decode cX10_greedy 9 = .ok (.ifCond .eq 13, 3) := by decide +kernel
theorem dX10_greedy_12 : decode cX10_greedy 12 = .ok (.iload_n 2, 1) := by decide +kernel
theorem dX10_greedy_13 : decode cX10_greedy 13 = .ok (.i2l, 1) := by decide +kernel
theorem dX10_greedy_14 : decode cX10_greedy 14 = .ok (.lconst 0, 1) := by decide +kernel
theorem dX10_greedy_15 : decode cX10_greedy 15 = .ok (.lconst 1, 1) := by decide +kernel
theorem dX10_greedy_16 : decode cX10_greedy 16 = .ok (.invokestatic 45, 3) := by decide +kernel
theorem dX10_greedy_19 : decode cX10_greedy 19 = .ok (.ifCond .ne 10, 3) := by decide +kernel
theorem dX10_greedy_22 : decode cX10_greedy 22 = .ok (.aload_n 0, 1) := by decide +kernel
theorem dX10_greedy_23 : decode cX10_greedy 23 = .ok (.ldc 44, 2) := by decide +kernel
theorem dX10_greedy_25 : decode cX10_greedy 25 = .ok (.invokevirtual 67, 3) := by decide +kernel
theorem dX10_greedy_28 : decode cX10_greedy 28 = .ok (.ireturn, 1) := by decide +kernel
theorem dX10_greedy_29 : decode cX10_greedy 29 = .ok (.iconst 0, 1) := by decide +kernel
theorem dX10_greedy_30 : decode cX10_greedy 30 = .ok (.istore_n 3, 1) := by decide +kernel
theorem dX10_greedy_31 : decode cX10_greedy 31 = .ok (.iload_n 1, 1) := by decide +kernel
theorem dX10_greedy_32 : decode cX10_greedy 32 = .ok (.istore 4, 2) := by decide +kernel
theorem dX10_greedy_34 : decode cX10_greedy 34 = .ok (.aload_n 0, 1) := by decide +kernel
theorem dX10_greedy_35 : decode cX10_greedy 35 = .ok (.iload_n 3, 1) := by decide +kernel
theorem dX10_greedy_36 : decode cX10_greedy 36 = .ok (.iload 4, 2) := by decide +kernel
theorem dX10_greedy_38 : decode cX10_greedy 38 = .ok (.iconst 1, 1) := by decide +kernel
theorem dX10_greedy_39 : decode cX10_greedy 39 = .ok (.invokevirtual 154, 3) := by decide +kernel
theorem dX10_greedy_42 : decode cX10_greedy 42 = .ok (.istore 5, 2) := by decide +kernel
theorem dX10_greedy_44 : decode cX10_greedy 44 = .ok (.iload 5, 2) := by decide +kernel
theorem dX10_greedy_46 : decode cX10_greedy 46 = .ok (.ifCond .lt 35, 3) := by decide +kernel
theorem dX10_greedy_49 : decode cX10_greedy 49 = .ok (.iload_n 3, 1) := by decide +kernel
theorem dX10_greedy_50 : decode cX10_greedy 50 = .ok (.iconst 1, 1) := by decide +kernel
theorem dX10_greedy_51 : decode cX10_greedy 51 = .ok (.iload 5, 2) := by decide +kernel
theorem dX10_greedy_53 : decode cX10_greedy 53 = .ok (.ishl, 1) := by decide +kernel
theorem dX10_greedy_54 : decode cX10_greedy 54 = .ok (.ior, 1) := by decide +kernel
theorem dX10_greedy_55 : decode cX10_greedy 55 = .ok (.istore_n 3, 1) := by decide +kernel
theorem dX10_greedy_56 : decode cX10_greedy 56 = .ok (.iload 4, 2) := by decide +kernel
theorem dX10_greedy_58 : decode cX10_greedy 58 = .ok (.aload_n 0, 1) := by decide +kernel
theorem dX10_greedy_59 : decode cX10_greedy 59 = .ok (.iload 5, 2) := by decide +kernel
theorem dX10_greedy_61 : decode cX10_greedy 61 = .ok (.iconst 2, 1) := by decide +kernel
theorem dX10_greedy_62 : decode cX10_greedy 62 = .ok (.invokevirtual 76, 3) := by decide +kernel
theorem dX10_greedy_65 : decode cX10_greedy 65 = .ok (.isub, 1) := by decide +kernel
theorem dX10_greedy_66 : decode cX10_greedy 66 = .ok (.istore 4, 2) := by decide +kernel
theorem dX10_greedy_68 : decode cX10_greedy 68 = .ok (.aload_n 0, 1) := by decide +kernel
theorem dX10_greedy_69 : decode cX10_greedy 69 = .ok (.iload_n 3, 1) := by decide +kernel
theorem dX10_greedy_70 : decode cX10_greedy 70 = .ok (.iload 4, 2) := by decide +kernel
theorem dX10_greedy_72 : decode cX10_greedy 72 = .ok (.iconst 1, 1) := by decide +kernel
theorem dX10_greedy_73 : decode cX10_greedy 73 = .ok (.invokevirtual 154, 3) := by decide +kernel
theorem dX10_greedy_76 : decode cX10_greedy 76 = .ok (.istore 5, 2) := by decide +kernel
theorem dX10_greedy_78 : decode cX10_greedy 78 = .ok (.goto (-34), 3) := by decide +kernel
theorem dX10_greedy_81 : decode cX10_greedy 81 = .ok (.iload_n 2, 1) := by decide +kernel
theorem dX10_greedy_82 : decode cX10_greedy 82 = .ok (.ifCond .ne 11, 3) := by decide +kernel
theorem dX10_greedy_85 : decode cX10_greedy 85 = .ok (.aload_n 0, 1) := by decide +kernel
theorem dX10_greedy_86 : decode cX10_greedy 86 = .ok (.iload_n 3, 1) := by decide +kernel
theorem dX10_greedy_87 : decode cX10_greedy 87 = .ok (.invokevirtual 126, 3) := by decide +kernel
theorem dX10_greedy_90 : decode cX10_greedy 90 = .ok (.goto 4, 3) := by decide +kernel
theorem dX10_greedy_93 : decode cX10_greedy 93 = .ok (.iload_n 3, 1) := by decide +kernel
theorem dX10_greedy_94 : decode cX10_greedy 94 = .ok (.ireturn, 1) := by decide +kernel
theorem dX10_next_0 : decode cX10_next 0 = .ok (.aload_n 0, 1) := by decide +kernel
theorem dX10_next_1 : decode cX10_next 1 = .ok (.iload_n 1, 1) := by decide +kernel
theorem dX10_next_2 : decode cX10_next 2 = .ok (.invokevirtual 109, 3) := by decide +kernel
theorem dX10_next_5 : decode cX10_next 5 = .ok (.ifCond .ne 10, 3) := by decide +kernel
theorem dX10_next_8 : decode cX10_next 8 = .ok (.aload_n 0, 1) := by decide +kernel
theorem dX10_next_9 : decode cX10_next 9 = .ok (.ldc 44, 2) := by decide +kernel
theorem dX10_next_11 : decode cX10_next 11 = .ok (.invokevirtual 67, 3) := by decide +kernel
theorem dX10_next_14 : decode cX10_next 14 = .ok (.ireturn, 1) := by decide +kernel
theorem dX10_next_15 : decode cX10_next 15 = .ok (.aload_n 0, 1) := by decide +kernel
theorem dX10_next_16 : decode cX10_next 16 = .ok (.iload_n 1, 1) := by decide +kernel
theorem dX10_next_17 : decode cX10_next 17 = .ok (.bipush 60, 2) := by decide +kernel
theorem dX10_next_19 : decode cX10_next 19 = .ok (.iconst 0, 1) := by decide +kernel
theorem dX10_next_20 : decode cX10_next 20 = .ok (.invokevirtual 154, 3) := by decide +kernel
theorem dX10_next_23 : decode cX10_next 23 = .ok (.istore_n 2, 1) := by decide +kernel
theorem dX10_next_24 : decode cX10_next 24 = .ok (.iload_n 2, 1) := by decide +kernel
theorem dX10_next_25 : decode cX10_next 25 = .ok (.ifCond .ge 12, 3) := by decide +kernel
theorem dX10_next_28 : decode cX10_next 28 = .ok (.aload_n 0, 1) := by decide +kernel
theorem dX10_next_29 : decode cX10_next 29 = .ok (.ldc 132, 2) := by decide +kernel
theorem dX10_next_31 : decode cX10_next 31 = .ok (.invokevirtual 67, 3) := by decide +kernel
theorem dX10_next_34 : decode cX10_next 34 = .ok (.goto 4, 3) := by decide +kernel
theorem dX10_next_37 : decode cX10_next 37 = .ok (.iload_n 2, 1) := by decide +kernel
theorem dX10_next_38 : decode cX10_next 38 = .ok (.ireturn, 1) := by decide +kernel
theorem dX10_spare_0 : decode cX10_spare 0 = .ok (.aload_n 0, 1) := by decide +kernel
theorem dX10_spare_1 : decode cX10_spare 1 = .ok (.iload_n 1, 1) := by decide +kernel
theorem dX10_spare_2 : decode cX10_spare 2 = .ok (.invokevirtual 109, 3) := by decide +kernel
theorem dX10_spare_5 : decode cX10_spare 5 = .ok (.ifCond .ne 10, 3) := by decide +kernel
theorem dX10_spare_8 : decode cX10_spare 8 = .ok (.aload_n 0, 1) := by decide +kernel
theorem dX10_spare_9 : decode cX10_spare 9 = .ok (.ldc 44, 2) := by decide +kernel
theorem dX10_spare_11 : decode cX10_spare 11 = .ok (.invokevirtual 67, 3) := by decide +kernel
theorem dX10_spare_14 : decode cX10_spare 14 = .ok (.ireturn, 1) := by decide +kernel
theorem dX10_spare_15 : decode cX10_spare 15 = .ok (.iconst (-1), 1) := by decide +kernel
theorem dX10_spare_16 : decode cX10_spare 16 = .ok (.istore_n 2, 1) := by decide +kernel
theorem dX10_spare_17 : decode cX10_spare 17 = .ok (.iconst 0, 1) := by decide +kernel
theorem dX10_spare_18 : decode cX10_spare 18 = .ok (.istore_n 3, 1) := by decide +kernel
theorem dX10_spare_19 : decode cX10_spare 19 = .ok (.iconst 0, 1) := by decide +kernel
theorem dX10_spare_20 : decode cX10_spare 20 = .ok (.istore 4, 2) := by decide +kernel
theorem dX10_spare_22 : decode cX10_spare 22 = .ok (.iload 4, 2) := by decide +kernel
theorem dX10_spare_24 : decode cX10_spare 24 = .ok (.aload_n 0, 1) := by decide +kernel
theorem dX10_spare_25 : decode cX10_spare 25 = .ok (.getfield 7, 3) := by decide +kernel
theorem dX10_spare_28 : decode cX10_spare 28 = .ok (.iconst 0, 1) := by decide +kernel
theorem dX10_spare_29 : decode cX10_spare 29 = .ok (.iaload, 1) := by decide +kernel
theorem dX10_spare_30 : decode cX10_spare 30 = .ok (.if_icmp .ge 57, 3) := by decide +kernel
theorem dX10_spare_33 : decode cX10_spare 33 = .ok (.iload_n 1, 1) := by decide +kernel
theorem dX10_spare_34 : decode cX10_spare 34 = .ok (.iload 4, 2) := by decide +kernel
theorem dX10_spare_36 : decode cX10_spare 36 = .ok (.invokestatic 106, 3) := by decide +kernel
theorem dX10_spare_39 : decode cX10_spare 39 = .ok (.ifCond .eq 18, 3) := by decide +kernel
theorem dX10_spare_42 : decode cX10_spare 42 = .ok (.aload_n 0, 1) := by decide +kernel
theorem dX10_spare_43 : decode cX10_spare 43 = .ok (.iload_n 1, 1) := by decide +kernel
theorem dX10_spare_44 : decode cX10_spare 44 = .ok (.iconst 1, 1) := by decide +kernel
theorem dX10_spare_45 : decode cX10_spare 45 = .ok (.iload 4, 2) := by decide +kernel
theorem dX10_spare_47 : decode cX10_spare 47 = .ok (.ishl, 1) := by decide +kernel
theorem dX10_spare_48 : decode cX10_spare 48 = .ok (.iconst (-1), 1) := by decide +kernel
theorem dX10_spare_49 : decode cX10_spare 49 = .ok (.ixor, 1) := by decide +kernel
theorem dX10_spare_50 : decode cX10_spare 50 = .ok (.iand, 1) := by decide +kernel
theorem dX10_spare_51 : decode cX10_spare 51 = .ok (.invokevirtual 126, 3) := by decide +kernel
theorem dX10_spare_54 : decode cX10_spare 54 = .ok (.goto 4, 3) := by decide +kernel
theorem dX10_spare_57 : decode cX10_spare 57 = .ok (.iconst (-1), 1) := by decide +kernel
theorem dX10_spare_58 : decode cX10_spare 58 = .ok (.istore 5, 2) := by decide +kernel
theorem dX10_spare_60 : decode cX10_spare 60 = .ok (.iload 5, 2) := by decide +kernel
theorem dX10_spare_62 : decode cX10_spare 62 = .ok (.ifCond .lt 19, 3) := by decide +kernel
theorem dX10_spare_65 : decode cX10_spare 65 = .ok (.iload_n 2, 1) := by decide +kernel
theorem dX10_spare_66 : decode cX10_spare 66 = .ok (.ifCond .lt 9, 3) := by decide +kernel
theorem dX10_spare_69 : decode cX10_spare 69 = .ok (.iload 5, 2) := by decide +kernel
theorem dX10_spare_71 : decode cX10_spare 71 = .ok (.iload_n 3, 1) := by decide +kernel
theorem dX10_spare_72 : decode cX10_spare 72 = .ok (.if_icmp .le 9, 3) := by decide +kernel
theorem dX10_spare_75 : decode cX10_spare 75 = .ok (.iload 4, 2) := by decide +kernel
theorem dX10_spare_77 : decode cX10_spare 77 = .ok (.istore_n 2, 1) := by decide +kernel
theorem dX10_spare_78 : decode cX10_spare 78 = .ok (.iload 5, 2) := by decide +kernel
theorem dX10_spare_80 : decode cX10_spare 80 = .ok (.istore_n 3, 1) := by decide +kernel
theorem dX10_spare_81 : decode cX10_spare 81 = .ok (.iinc 4 1, 3) := by decide +kernel
theorem dX10_spare_84 : decode cX10_spare 84 = .ok (.goto (-62), 3) := by decide +kernel
theorem dX10_spare_87 : decode cX10_spare 87 = .ok (.iload_n 2, 1) := by decide +kernel
theorem dX10_spare_88 : decode cX10_spare 88 = .ok (.ifCond .ge 12, 3) := by decide +kernel
theorem dX10_spare_91 : decode cX10_spare 91 = .ok (.aload_n 0, 1) := by decide +kernel
theorem dX10_spare_92 : decode cX10_spare 92 = .ok (.ldc 132, 2) := by decide +kernel
theorem dX10_spare_94 : decode cX10_spare 94 = .ok (.invokevirtual 67, 3) := by decide +kernel
theorem dX10_spare_97 : decode cX10_spare 97 = .ok (.goto 4, 3) := by decide +kernel
theorem dX10_spare_100 : decode cX10_spare 100 = .ok (.iload_n 2, 1) := by decide +kernel
theorem dX10_spare_101 : decode cX10_spare 101 = .ok (.ireturn, 1) := by decide +kernel
theorem dX10_minutesFor_0 : decode cX10_minutesFor 0 = .ok (.iload_n 1, 1) := by decide +kernel
theorem dX10_minutesFor_1 : decode cX10_minutesFor 1 = .ok (.ifCond .ge 10, 3) := by decide +kernel
theorem dX10_minutesFor_4 : decode cX10_minutesFor 4 = .ok (.aload_n 0, 1) := by decide +kernel
theorem dX10_minutesFor_5 : decode cX10_minutesFor 5 = .ok (.ldc 44, 2) := by decide +kernel
theorem dX10_minutesFor_7 : decode cX10_minutesFor 7 = .ok (.invokevirtual 67, 3) := by decide +kernel
theorem dX10_minutesFor_10 : decode cX10_minutesFor 10 = .ok (.ireturn, 1) := by decide +kernel
theorem dX10_minutesFor_11 : decode cX10_minutesFor 11 = .ok (.iconst (-1), 1) := by decide +kernel
theorem dX10_minutesFor_12 : decode cX10_minutesFor 12 = .ok (.istore_n 2, 1) := by decide +kernel
theorem dX10_minutesFor_13 : decode cX10_minutesFor 13 = .ok (.iconst 0, 1) := by decide +kernel
theorem dX10_minutesFor_14 : decode cX10_minutesFor 14 = .ok (.istore_n 3, 1) := by decide +kernel
theorem dX10_minutesFor_15 : decode cX10_minutesFor 15 = .ok (.iload_n 3, 1) := by decide +kernel
theorem dX10_minutesFor_16 : decode cX10_minutesFor 16 = .ok (.iconst 1, 1) := by decide +kernel
theorem dX10_minutesFor_17 : decode cX10_minutesFor 17 = .ok (.aload_n 0, 1) := by decide +kernel
theorem dX10_minutesFor_18 : decode cX10_minutesFor 18 = .ok (.getfield 7, 3) := by decide +kernel
theorem dX10_minutesFor_21 : decode cX10_minutesFor 21 = .ok (.iconst 0, 1) := by decide +kernel
theorem dX10_minutesFor_22 : decode cX10_minutesFor 22 = .ok (.iaload, 1) := by decide +kernel
theorem dX10_minutesFor_23 : decode cX10_minutesFor 23 = .ok (.ishl, 1) := by decide +kernel
theorem dX10_minutesFor_24 : decode cX10_minutesFor 24 = .ok (.if_icmp .ge 42, 3) := by decide +kernel
theorem dX10_minutesFor_27 : decode cX10_minutesFor 27 = .ok (.aload_n 0, 1) := by decide +kernel
theorem dX10_minutesFor_28 : decode cX10_minutesFor 28 = .ok (.iload_n 3, 1) := by decide +kernel
theorem dX10_minutesFor_29 : decode cX10_minutesFor 29 = .ok (.invokevirtual 137, 3) := by decide +kernel
theorem dX10_minutesFor_32 : decode cX10_minutesFor 32 = .ok (.istore 4, 2) := by decide +kernel
theorem dX10_minutesFor_34 : decode cX10_minutesFor 34 = .ok (.iload_n 2, 1) := by decide +kernel
theorem dX10_minutesFor_35 : decode cX10_minutesFor 35 = .ok (.ifCond .lt 9, 3) := by decide +kernel
theorem dX10_minutesFor_38 : decode cX10_minutesFor 38 = .ok (.iload 4, 2) := by decide +kernel
theorem dX10_minutesFor_40 : decode cX10_minutesFor 40 = .ok (.iload_n 2, 1) := by decide +kernel
theorem dX10_minutesFor_41 : decode cX10_minutesFor 41 = .ok (.if_icmp .ge 17, 3) := by decide +kernel
theorem dX10_minutesFor_44 : decode cX10_minutesFor 44 = .ok (.aload_n 0, 1) := by decide +kernel
theorem dX10_minutesFor_45 : decode cX10_minutesFor 45 = .ok (.iload_n 3, 1) := by decide +kernel
theorem dX10_minutesFor_46 : decode cX10_minutesFor 46 = .ok (.invokevirtual 126, 3) := by decide +kernel
theorem dX10_minutesFor_49 : decode cX10_minutesFor 49 = .ok (.iload_n 1, 1) := by decide +kernel
theorem dX10_minutesFor_50 : decode cX10_minutesFor 50 = .ok (.if_icmp .lt 8, 3) := by decide +kernel
theorem dX10_minutesFor_53 : decode cX10_minutesFor 53 = .ok (.iload 4, 2) := by decide +kernel
theorem dX10_minutesFor_55 : decode cX10_minutesFor 55 = .ok (.goto 4, 3) := by decide +kernel
theorem dX10_minutesFor_58 : decode cX10_minutesFor 58 = .ok (.iload_n 2, 1) := by decide +kernel
theorem dX10_minutesFor_59 : decode cX10_minutesFor 59 = .ok (.istore_n 2, 1) := by decide +kernel
theorem dX10_minutesFor_60 : decode cX10_minutesFor 60 = .ok (.iinc 3 1, 3) := by decide +kernel
theorem dX10_minutesFor_63 : decode cX10_minutesFor 63 = .ok (.goto (-48), 3) := by decide +kernel
theorem dX10_minutesFor_66 : decode cX10_minutesFor 66 = .ok (.iload_n 2, 1) := by decide +kernel
theorem dX10_minutesFor_67 : decode cX10_minutesFor 67 = .ok (.ifCond .ge 12, 3) := by decide +kernel
theorem dX10_minutesFor_70 : decode cX10_minutesFor 70 = .ok (.aload_n 0, 1) := by decide +kernel
theorem dX10_minutesFor_71 : decode cX10_minutesFor 71 = .ok (.ldc 132, 2) := by decide +kernel
theorem dX10_minutesFor_73 : decode cX10_minutesFor 73 = .ok (.invokevirtual 67, 3) := by decide +kernel
theorem dX10_minutesFor_76 : decode cX10_minutesFor 76 = .ok (.goto 4, 3) := by decide +kernel
theorem dX10_minutesFor_79 : decode cX10_minutesFor 79 = .ok (.iload_n 2, 1) := by decide +kernel
theorem dX10_minutesFor_80 : decode cX10_minutesFor 80 = .ok (.ireturn, 1) := by decide +kernel
theorem dX10_placeOf_0 : decode cX10_placeOf 0 = .ok (.iconst (-1), 1) := by decide +kernel
theorem dX10_placeOf_1 : decode cX10_placeOf 1 = .ok (.istore_n 2, 1) := by decide +kernel
theorem dX10_placeOf_2 : decode cX10_placeOf 2 = .ok (.iconst 0, 1) := by decide +kernel
theorem dX10_placeOf_3 : decode cX10_placeOf 3 = .ok (.istore_n 3, 1) := by decide +kernel
theorem dX10_placeOf_4 : decode cX10_placeOf 4 = .ok (.iload_n 3, 1) := by decide +kernel
theorem dX10_placeOf_5 : decode cX10_placeOf 5 = .ok (.aload_n 0, 1) := by decide +kernel
theorem dX10_placeOf_6 : decode cX10_placeOf 6 = .ok (.getfield 7, 3) := by decide +kernel
theorem dX10_placeOf_9 : decode cX10_placeOf 9 = .ok (.iconst 5, 1) := by decide +kernel
theorem dX10_placeOf_10 : decode cX10_placeOf 10 = .ok (.iaload, 1) := by decide +kernel
theorem dX10_placeOf_11 : decode cX10_placeOf 11 = .ok (.if_icmp .ge 29, 3) := by decide +kernel
theorem dX10_placeOf_14 : decode cX10_placeOf 14 = .ok (.aload_n 0, 1) := by decide +kernel
theorem dX10_placeOf_15 : decode cX10_placeOf 15 = .ok (.getfield 7, 3) := by decide +kernel
theorem dX10_placeOf_18 : decode cX10_placeOf 18 = .ok (.sipush 138, 3) := by decide +kernel
theorem dX10_placeOf_21 : decode cX10_placeOf 21 = .ok (.iload_n 3, 1) := by decide +kernel
theorem dX10_placeOf_22 : decode cX10_placeOf 22 = .ok (.iadd, 1) := by decide +kernel
theorem dX10_placeOf_23 : decode cX10_placeOf 23 = .ok (.iaload, 1) := by decide +kernel
theorem dX10_placeOf_24 : decode cX10_placeOf 24 = .ok (.iload_n 1, 1) := by decide +kernel
theorem dX10_placeOf_25 : decode cX10_placeOf 25 = .ok (.if_icmp .ne 7, 3) := by decide +kernel
theorem dX10_placeOf_28 : decode cX10_placeOf 28 = .ok (.iload_n 3, 1) := by decide +kernel
theorem dX10_placeOf_29 : decode cX10_placeOf 29 = .ok (.goto 4, 3) := by decide +kernel
theorem dX10_placeOf_32 : decode cX10_placeOf 32 = .ok (.iload_n 2, 1) := by decide +kernel
theorem dX10_placeOf_33 : decode cX10_placeOf 33 = .ok (.istore_n 2, 1) := by decide +kernel
theorem dX10_placeOf_34 : decode cX10_placeOf 34 = .ok (.iinc 3 1, 3) := by decide +kernel
theorem dX10_placeOf_37 : decode cX10_placeOf 37 = .ok (.goto (-33), 3) := by decide +kernel
theorem dX10_placeOf_40 : decode cX10_placeOf 40 = .ok (.iload_n 2, 1) := by decide +kernel
theorem dX10_placeOf_41 : decode cX10_placeOf 41 = .ok (.ireturn, 1) := by decide +kernel
theorem dX10_leaves_0 : decode cX10_leaves 0 = .ok (.aload_n 0, 1) := by decide +kernel
theorem dX10_leaves_1 : decode cX10_leaves 1 = .ok (.getfield 7, 3) := by decide +kernel
theorem dX10_leaves_4 : decode cX10_leaves 4 = .ok (.iconst 5, 1) := by decide +kernel
theorem dX10_leaves_5 : decode cX10_leaves 5 = .ok (.dup2, 1) := by decide +kernel
theorem dX10_leaves_6 : decode cX10_leaves 6 = .ok (.iaload, 1) := by decide +kernel
theorem dX10_leaves_7 : decode cX10_leaves 7 = .ok (.iconst 1, 1) := by decide +kernel
theorem dX10_leaves_8 : decode cX10_leaves 8 = .ok (.isub, 1) := by decide +kernel
theorem dX10_leaves_9 : decode cX10_leaves 9 = .ok (.iastore, 1) := by decide +kernel
theorem dX10_leaves_10 : decode cX10_leaves 10 = .ok (.iload_n 1, 1) := by decide +kernel
theorem dX10_leaves_11 : decode cX10_leaves 11 = .ok (.istore_n 2, 1) := by decide +kernel
theorem dX10_leaves_12 : decode cX10_leaves 12 = .ok (.iload_n 2, 1) := by decide +kernel
theorem dX10_leaves_13 : decode cX10_leaves 13 = .ok (.aload_n 0, 1) := by decide +kernel
theorem dX10_leaves_14 : decode cX10_leaves 14 = .ok (.getfield 7, 3) := by decide +kernel
theorem dX10_leaves_17 : decode cX10_leaves 17 = .ok (.iconst 5, 1) := by decide +kernel
theorem dX10_leaves_18 : decode cX10_leaves 18 = .ok (.iaload, 1) := by decide +kernel
theorem dX10_leaves_19 : decode cX10_leaves 19 = .ok (.if_icmp .ge 31, 3) := by decide +kernel
theorem dX10_leaves_22 : decode cX10_leaves 22 = .ok (.aload_n 0, 1) := by decide +kernel
theorem dX10_leaves_23 : decode cX10_leaves 23 = .ok (.getfield 7, 3) := by decide +kernel
theorem dX10_leaves_26 : decode cX10_leaves 26 = .ok (.sipush 138, 3) := by decide +kernel
theorem dX10_leaves_29 : decode cX10_leaves 29 = .ok (.iload_n 2, 1) := by decide +kernel
theorem dX10_leaves_30 : decode cX10_leaves 30 = .ok (.iadd, 1) := by decide +kernel
theorem dX10_leaves_31 : decode cX10_leaves 31 = .ok (.aload_n 0, 1) := by decide +kernel
theorem dX10_leaves_32 : decode cX10_leaves 32 = .ok (.getfield 7, 3) := by decide +kernel
theorem dX10_leaves_35 : decode cX10_leaves 35 = .ok (.sipush 138, 3) := by decide +kernel
theorem dX10_leaves_38 : decode cX10_leaves 38 = .ok (.iload_n 2, 1) := by decide +kernel
theorem dX10_leaves_39 : decode cX10_leaves 39 = .ok (.iadd, 1) := by decide +kernel
theorem dX10_leaves_40 : decode cX10_leaves 40 = .ok (.iconst 1, 1) := by decide +kernel
theorem dX10_leaves_41 : decode cX10_leaves 41 = .ok (.iadd, 1) := by decide +kernel
theorem dX10_leaves_42 : decode cX10_leaves 42 = .ok (.iaload, 1) := by decide +kernel
theorem dX10_leaves_43 : decode cX10_leaves 43 = .ok (.iastore, 1) := by decide +kernel
theorem dX10_leaves_44 : decode cX10_leaves 44 = .ok (.iinc 2 1, 3) := by decide +kernel
theorem dX10_leaves_47 : decode cX10_leaves 47 = .ok (.goto (-35), 3) := by decide +kernel
theorem dX10_leaves_50 : decode cX10_leaves 50 = .ok (.return_, 1) := by decide +kernel
theorem dX10_queue_0 : decode cX10_queue 0 = .ok (.aload_n 0, 1) := by decide +kernel
theorem dX10_queue_1 : decode cX10_queue 1 = .ok (.iload_n 1, 1) := by decide +kernel
theorem dX10_queue_2 : decode cX10_queue 2 = .ok (.invokevirtual 79, 3) := by decide +kernel
theorem dX10_queue_5 : decode cX10_queue 5 = .ok (.ifCond .ne 10, 3) := by decide +kernel
theorem dX10_queue_8 : decode cX10_queue 8 = .ok (.aload_n 0, 1) := by decide +kernel
theorem dX10_queue_9 : decode cX10_queue 9 = .ok (.ldc 44, 2) := by decide +kernel
theorem dX10_queue_11 : decode cX10_queue 11 = .ok (.invokevirtual 67, 3) := by decide +kernel
theorem dX10_queue_14 : decode cX10_queue 14 = .ok (.ireturn, 1) := by decide +kernel
theorem dX10_queue_15 : decode cX10_queue 15 = .ok (.aload_n 0, 1) := by decide +kernel
theorem dX10_queue_16 : decode cX10_queue 16 = .ok (.iload_n 1, 1) := by decide +kernel
theorem dX10_queue_17 : decode cX10_queue 17 = .ok (.invokevirtual 157, 3) := by decide +kernel
theorem dX10_queue_20 : decode cX10_queue 20 = .ok (.istore_n 2, 1) := by decide +kernel
theorem dX10_queue_21 : decode cX10_queue 21 = .ok (.iload_n 2, 1) := by decide +kernel
theorem dX10_queue_22 : decode cX10_queue 22 = .ok (.ifCond .lt 8, 3) := by decide +kernel
theorem dX10_queue_25 : decode cX10_queue 25 = .ok (.aload_n 0, 1) := by decide +kernel
theorem dX10_queue_26 : decode cX10_queue 26 = .ok (.iload_n 2, 1) := by decide +kernel
theorem dX10_queue_27 : decode cX10_queue 27 = .ok (.invokevirtual 160, 3) := by decide +kernel
theorem dX10_queue_30 : decode cX10_queue 30 = .ok (.aload_n 0, 1) := by decide +kernel
theorem dX10_queue_31 : decode cX10_queue 31 = .ok (.getfield 7, 3) := by decide +kernel
theorem dX10_queue_34 : decode cX10_queue 34 = .ok (.sipush 138, 3) := by decide +kernel
theorem dX10_queue_37 : decode cX10_queue 37 = .ok (.aload_n 0, 1) := by decide +kernel
theorem dX10_queue_38 : decode cX10_queue 38 = .ok (.getfield 7, 3) := by decide +kernel
theorem dX10_queue_41 : decode cX10_queue 41 = .ok (.iconst 5, 1) := by decide +kernel
theorem dX10_queue_42 : decode cX10_queue 42 = .ok (.iaload, 1) := by decide +kernel
theorem dX10_queue_43 : decode cX10_queue 43 = .ok (.iadd, 1) := by decide +kernel
theorem dX10_queue_44 : decode cX10_queue 44 = .ok (.iload_n 1, 1) := by decide +kernel
theorem dX10_queue_45 : decode cX10_queue 45 = .ok (.iastore, 1) := by decide +kernel
theorem dX10_queue_46 : decode cX10_queue 46 = .ok (.aload_n 0, 1) := by decide +kernel
theorem dX10_queue_47 : decode cX10_queue 47 = .ok (.getfield 7, 3) := by decide +kernel
theorem dX10_queue_50 : decode cX10_queue 50 = .ok (.iconst 5, 1) := by decide +kernel
theorem dX10_queue_51 : decode cX10_queue 51 = .ok (.dup2, 1) := by decide +kernel
theorem dX10_queue_52 : decode cX10_queue 52 = .ok (.iaload, 1) := by decide +kernel
theorem dX10_queue_53 : decode cX10_queue 53 = .ok (.iconst 1, 1) := by decide +kernel
theorem dX10_queue_54 : decode cX10_queue 54 = .ok (.iadd, 1) := by decide +kernel
theorem dX10_queue_55 : decode cX10_queue 55 = .ok (.iastore, 1) := by decide +kernel
theorem dX10_queue_56 : decode cX10_queue 56 = .ok (.aload_n 0, 1) := by decide +kernel
theorem dX10_queue_57 : decode cX10_queue 57 = .ok (.getfield 7, 3) := by decide +kernel
theorem dX10_queue_60 : decode cX10_queue 60 = .ok (.iconst 5, 1) := by decide +kernel
theorem dX10_queue_61 : decode cX10_queue 61 = .ok (.iaload, 1) := by decide +kernel
theorem dX10_queue_62 : decode cX10_queue 62 = .ok (.ireturn, 1) := by decide +kernel
theorem dX10_skip_0 : decode cX10_skip 0 = .ok (.aload_n 0, 1) := by decide +kernel
theorem dX10_skip_1 : decode cX10_skip 1 = .ok (.iload_n 1, 1) := by decide +kernel
theorem dX10_skip_2 : decode cX10_skip 2 = .ok (.invokevirtual 79, 3) := by decide +kernel
theorem dX10_skip_5 : decode cX10_skip 5 = .ok (.ifCond .ne 10, 3) := by decide +kernel
theorem dX10_skip_8 : decode cX10_skip 8 = .ok (.aload_n 0, 1) := by decide +kernel
theorem dX10_skip_9 : decode cX10_skip 9 = .ok (.ldc 44, 2) := by decide +kernel
theorem dX10_skip_11 : decode cX10_skip 11 = .ok (.invokevirtual 67, 3) := by decide +kernel
theorem dX10_skip_14 : decode cX10_skip 14 = .ok (.ireturn, 1) := by decide +kernel
theorem dX10_skip_15 : decode cX10_skip 15 = .ok (.aload_n 0, 1) := by decide +kernel
theorem dX10_skip_16 : decode cX10_skip 16 = .ok (.iload_n 1, 1) := by decide +kernel
theorem dX10_skip_17 : decode cX10_skip 17 = .ok (.invokevirtual 157, 3) := by decide +kernel
theorem dX10_skip_20 : decode cX10_skip 20 = .ok (.istore_n 2, 1) := by decide +kernel
theorem dX10_skip_21 : decode cX10_skip 21 = .ok (.iload_n 2, 1) := by decide +kernel
theorem dX10_skip_22 : decode cX10_skip 22 = .ok (.ifCond .ge 10, 3) := by decide +kernel
theorem dX10_skip_25 : decode cX10_skip 25 = .ok (.aload_n 0, 1) := by decide +kernel
theorem dX10_skip_26 : decode cX10_skip 26 = .ok (.ldc 132, 2) := by decide +kernel
theorem dX10_skip_28 : decode cX10_skip 28 = .ok (.invokevirtual 67, 3) := by decide +kernel
theorem dX10_skip_31 : decode cX10_skip 31 = .ok (.ireturn, 1) := by decide +kernel
theorem dX10_skip_32 : decode cX10_skip 32 = .ok (.aload_n 0, 1) := by decide +kernel
theorem dX10_skip_33 : decode cX10_skip 33 = .ok (.iload_n 2, 1) := by decide +kernel
theorem dX10_skip_34 : decode cX10_skip 34 = .ok (.invokevirtual 160, 3) := by decide +kernel
theorem dX10_skip_37 : decode cX10_skip 37 = .ok (.iload_n 2, 1) := by decide +kernel
theorem dX10_skip_38 : decode cX10_skip 38 = .ok (.ireturn, 1) := by decide +kernel
theorem dX10_ith_0 : decode cX10_ith 0 = .ok (.iload_n 1, 1) := by decide +kernel
theorem dX10_ith_1 : decode cX10_ith 1 = .ok (.i2l, 1) := by decide +kernel
theorem dX10_ith_2 : decode cX10_ith 2 = .ok (.lconst 0, 1) := by decide +kernel
theorem dX10_ith_3 : decode cX10_ith 3 = .ok (.aload_n 0, 1) := by decide +kernel
theorem dX10_ith_4 : decode cX10_ith 4 = .ok (.getfield 7, 3) := by decide +kernel
theorem dX10_ith_7 : decode cX10_ith 7 = .ok (.iconst 5, 1) := by decide +kernel
theorem dX10_ith_8 : decode cX10_ith 8 = .ok (.iaload, 1) := by decide +kernel
theorem dX10_ith_9 : decode cX10_ith 9 = .ok (.iconst 1, 1) := by decide +kernel
theorem dX10_ith_10 : decode cX10_ith 10 = .ok (.isub, 1) := by decide +kernel
theorem dX10_ith_11 : decode cX10_ith 11 = .ok (.i2l, 1) := by decide +kernel
theorem dX10_ith_12 : decode cX10_ith 12 = .ok (.invokestatic 45, 3) := by decide +kernel
theorem dX10_ith_15 : decode cX10_ith 15 = .ok (.ifCond .eq 16, 3) := by decide +kernel
theorem dX10_ith_18 : decode cX10_ith 18 = .ok (.aload_n 0, 1) := by decide +kernel
theorem dX10_ith_19 : decode cX10_ith 19 = .ok (.getfield 7, 3) := by decide +kernel
theorem dX10_ith_22 : decode cX10_ith 22 = .ok (.sipush 138, 3) := by decide +kernel
theorem dX10_ith_25 : decode cX10_ith 25 = .ok (.iload_n 1, 1) := by decide +kernel
theorem dX10_ith_26 : decode cX10_ith 26 = .ok (.iadd, 1) := by decide +kernel
theorem dX10_ith_27 : decode cX10_ith 27 = .ok (.iaload, 1) := by decide +kernel
theorem dX10_ith_28 : decode cX10_ith 28 = .ok (.goto 9, 3) := by decide +kernel
theorem dX10_ith_31 : decode cX10_ith 31 = .ok (.aload_n 0, 1) := by decide +kernel
theorem dX10_ith_32 : decode cX10_ith 32 = .ok (.ldc 44, 2) := by decide +kernel
theorem dX10_ith_34 : decode cX10_ith 34 = .ok (.invokevirtual 67, 3) := by decide +kernel
theorem dX10_ith_37 : decode cX10_ith 37 = .ok (.ireturn, 1) := by decide +kernel
theorem dX10_learns_0 : decode cX10_learns 0 = .ok (.aload_n 0, 1) := by decide +kernel
theorem dX10_learns_1 : decode cX10_learns 1 = .ok (.iload_n 1, 1) := by decide +kernel
theorem dX10_learns_2 : decode cX10_learns 2 = .ok (.iconst 4, 1) := by decide +kernel
theorem dX10_learns_3 : decode cX10_learns 3 = .ok (.invokevirtual 76, 3) := by decide +kernel
theorem dX10_learns_6 : decode cX10_learns 6 = .ok (.bipush 100, 2) := by decide +kernel
theorem dX10_learns_8 : decode cX10_learns 8 = .ok (.iload_n 2, 1) := by decide +kernel
theorem dX10_learns_9 : decode cX10_learns 9 = .ok (.imul, 1) := by decide +kernel
theorem dX10_learns_10 : decode cX10_learns 10 = .ok (.aload_n 0, 1) := by decide +kernel
theorem dX10_learns_11 : decode cX10_learns 11 = .ok (.iload_n 1, 1) := by decide +kernel
theorem dX10_learns_12 : decode cX10_learns 12 = .ok (.iconst 2, 1) := by decide +kernel
theorem dX10_learns_13 : decode cX10_learns 13 = .ok (.invokevirtual 76, 3) := by decide +kernel
theorem dX10_learns_16 : decode cX10_learns 16 = .ok (.idiv, 1) := by decide +kernel
theorem dX10_learns_17 : decode cX10_learns 17 = .ok (.iadd, 1) := by decide +kernel
theorem dX10_learns_18 : decode cX10_learns 18 = .ok (.istore_n 3, 1) := by decide +kernel
theorem dX10_learns_19 : decode cX10_learns 19 = .ok (.aload_n 0, 1) := by decide +kernel
theorem dX10_learns_20 : decode cX10_learns 20 = .ok (.getfield 7, 3) := by decide +kernel
theorem dX10_learns_23 : decode cX10_learns 23 = .ok (.iload_n 1, 1) := by decide +kernel
theorem dX10_learns_24 : decode cX10_learns 24 = .ok (.iconst 4, 1) := by decide +kernel
theorem dX10_learns_25 : decode cX10_learns 25 = .ok (.invokestatic 49, 3) := by decide +kernel
theorem dX10_learns_28 : decode cX10_learns 28 = .ok (.iload_n 3, 1) := by decide +kernel
theorem dX10_learns_29 : decode cX10_learns 29 = .ok (.bipush 100, 2) := by decide +kernel
theorem dX10_learns_31 : decode cX10_learns 31 = .ok (.if_icmp .ge 7, 3) := by decide +kernel
theorem dX10_learns_34 : decode cX10_learns 34 = .ok (.iload_n 3, 1) := by decide +kernel
theorem dX10_learns_35 : decode cX10_learns 35 = .ok (.goto 5, 3) := by decide +kernel
theorem dX10_learns_38 : decode cX10_learns 38 = .ok (.bipush 100, 2) := by decide +kernel
theorem dX10_learns_40 : decode cX10_learns 40 = .ok (.iastore, 1) := by decide +kernel
theorem dX10_learns_41 : decode cX10_learns 41 = .ok (.return_, 1) := by decide +kernel
theorem dX10_learn_0 : decode cX10_learn 0 = .ok (.aload_n 0, 1) := by decide +kernel
theorem dX10_learn_1 : decode cX10_learn 1 = .ok (.iload_n 1, 1) := by decide +kernel
theorem dX10_learn_2 : decode cX10_learn 2 = .ok (.invokevirtual 79, 3) := by decide +kernel
theorem dX10_learn_5 : decode cX10_learn 5 = .ok (.ifCond .eq 15, 3) := by decide +kernel
theorem dX10_learn_8 : decode cX10_learn 8 = .ok (.iload_n 2, 1) := by decide +kernel
theorem dX10_learn_9 : decode cX10_learn 9 = .ok (.i2l, 1) := by decide +kernel
theorem dX10_learn_10 : decode cX10_learn 10 = .ok (.lconst 1, 1) := by decide +kernel
theorem dX10_learn_11 : decode cX10_learn 11 = .ok (.ldc2_w 163, 3) := by decide +kernel
theorem dX10_learn_14 : decode cX10_learn 14 = .ok (.invokestatic 45, 3) := by decide +kernel
theorem dX10_learn_17 : decode cX10_learn 17 = .ok (.ifCond .ne 10, 3) := by decide +kernel
theorem dX10_learn_20 : decode cX10_learn 20 = .ok (.aload_n 0, 1) := by decide +kernel
theorem dX10_learn_21 : decode cX10_learn 21 = .ok (.ldc 44, 2) := by decide +kernel
theorem dX10_learn_23 : decode cX10_learn 23 = .ok (.invokevirtual 67, 3) := by decide +kernel
theorem dX10_learn_26 : decode cX10_learn 26 = .ok (.ireturn, 1) := by decide +kernel
theorem dX10_learn_27 : decode cX10_learn 27 = .ok (.aload_n 0, 1) := by decide +kernel
theorem dX10_learn_28 : decode cX10_learn 28 = .ok (.iload_n 1, 1) := by decide +kernel
theorem dX10_learn_29 : decode cX10_learn 29 = .ok (.iload_n 2, 1) := by decide +kernel
theorem dX10_learn_30 : decode cX10_learn 30 = .ok (.invokevirtual 165, 3) := by decide +kernel
theorem dX10_learn_33 : decode cX10_learn 33 = .ok (.aload_n 0, 1) := by decide +kernel
theorem dX10_learn_34 : decode cX10_learn 34 = .ok (.iload_n 1, 1) := by decide +kernel
theorem dX10_learn_35 : decode cX10_learn 35 = .ok (.iconst 4, 1) := by decide +kernel
theorem dX10_learn_36 : decode cX10_learn 36 = .ok (.invokevirtual 76, 3) := by decide +kernel
theorem dX10_learn_39 : decode cX10_learn 39 = .ok (.ireturn, 1) := by decide +kernel
theorem dX10_eveningOf_0 : decode cX10_eveningOf 0 = .ok (.iload_n 1, 1) := by decide +kernel
theorem dX10_eveningOf_1 : decode cX10_eveningOf 1 = .ok (.istore_n 2, 1) := by decide +kernel
theorem dX10_eveningOf_2 : decode cX10_eveningOf 2 = .ok (.iconst 0, 1) := by decide +kernel
theorem dX10_eveningOf_3 : decode cX10_eveningOf 3 = .ok (.istore_n 3, 1) := by decide +kernel
theorem dX10_eveningOf_4 : decode cX10_eveningOf 4 = .ok (.iload_n 3, 1) := by decide +kernel
theorem dX10_eveningOf_5 : decode cX10_eveningOf 5 = .ok (.aload_n 0, 1) := by decide +kernel
theorem dX10_eveningOf_6 : decode cX10_eveningOf 6 = .ok (.getfield 7, 3) := by decide +kernel
theorem dX10_eveningOf_9 : decode cX10_eveningOf 9 = .ok (.iconst 5, 1) := by decide +kernel
theorem dX10_eveningOf_10 : decode cX10_eveningOf 10 = .ok (.iaload, 1) := by decide +kernel
theorem dX10_eveningOf_11 : decode cX10_eveningOf 11 = .ok (.if_icmp .ge 71, 3) := by decide +kernel
theorem dX10_eveningOf_14 : decode cX10_eveningOf 14 = .ok (.iload_n 2, 1) := by decide +kernel
theorem dX10_eveningOf_15 : decode cX10_eveningOf 15 = .ok (.ifCond .le 67, 3) := by decide +kernel
theorem dX10_eveningOf_18 : decode cX10_eveningOf 18 = .ok (.aload_n 0, 1) := by decide +kernel
theorem dX10_eveningOf_19 : decode cX10_eveningOf 19 = .ok (.getfield 7, 3) := by decide +kernel
theorem dX10_eveningOf_22 : decode cX10_eveningOf 22 = .ok (.sipush 138, 3) := by decide +kernel
theorem dX10_eveningOf_25 : decode cX10_eveningOf 25 = .ok (.iload_n 3, 1) := by decide +kernel
theorem dX10_eveningOf_26 : decode cX10_eveningOf 26 = .ok (.iadd, 1) := by decide +kernel
theorem dX10_eveningOf_27 : decode cX10_eveningOf 27 = .ok (.iaload, 1) := by decide +kernel
theorem dX10_eveningOf_28 : decode cX10_eveningOf 28 = .ok (.istore 4, 2) := by decide +kernel
theorem dX10_eveningOf_30 : decode cX10_eveningOf 30 = .ok (.aload_n 0, 1) := by decide +kernel
theorem dX10_eveningOf_31 : decode cX10_eveningOf 31 = .ok (.iload 4, 2) := by decide +kernel
theorem dX10_eveningOf_33 : decode cX10_eveningOf 33 = .ok (.invokevirtual 85, 3) := by decide +kernel
theorem dX10_eveningOf_36 : decode cX10_eveningOf 36 = .ok (.ifCond .ne 40, 3) := by decide +kernel
theorem dX10_eveningOf_39 : decode cX10_eveningOf 39 = .ok (.aload_n 0, 1) := by decide +kernel
theorem dX10_eveningOf_40 : decode cX10_eveningOf 40 = .ok (.iload 4, 2) := by decide +kernel
theorem dX10_eveningOf_42 : decode cX10_eveningOf 42 = .ok (.iconst 2, 1) := by decide +kernel
theorem dX10_eveningOf_43 : decode cX10_eveningOf 43 = .ok (.invokevirtual 76, 3) := by decide +kernel
theorem dX10_eveningOf_46 : decode cX10_eveningOf 46 = .ok (.iload_n 2, 1) := by decide +kernel
theorem dX10_eveningOf_47 : decode cX10_eveningOf 47 = .ok (.if_icmp .ge 13, 3) := by decide +kernel
theorem dX10_eveningOf_50 : decode cX10_eveningOf 50 = .ok (.aload_n 0, 1) := by decide +kernel
theorem dX10_eveningOf_51 : decode cX10_eveningOf 51 = .ok (.iload 4, 2) := by decide +kernel
theorem dX10_eveningOf_53 : decode cX10_eveningOf 53 = .ok (.iconst 2, 1) := by decide +kernel
theorem dX10_eveningOf_54 : decode cX10_eveningOf 54 = .ok (.invokevirtual 76, 3) := by decide +kernel
theorem dX10_eveningOf_57 : decode cX10_eveningOf 57 = .ok (.goto 4, 3) := by decide +kernel
theorem dX10_eveningOf_60 : decode cX10_eveningOf 60 = .ok (.iload_n 2, 1) := by decide +kernel
theorem dX10_eveningOf_61 : decode cX10_eveningOf 61 = .ok (.istore 5, 2) := by decide +kernel
theorem dX10_eveningOf_63 : decode cX10_eveningOf 63 = .ok (.aload_n 0, 1) := by decide +kernel
theorem dX10_eveningOf_64 : decode cX10_eveningOf 64 = .ok (.iload 4, 2) := by decide +kernel
theorem dX10_eveningOf_66 : decode cX10_eveningOf 66 = .ok (.iload 5, 2) := by decide +kernel
theorem dX10_eveningOf_68 : decode cX10_eveningOf 68 = .ok (.invokevirtual 165, 3) := by decide +kernel
theorem dX10_eveningOf_71 : decode cX10_eveningOf 71 = .ok (.iload_n 2, 1) := by decide +kernel
theorem dX10_eveningOf_72 : decode cX10_eveningOf 72 = .ok (.iload 5, 2) := by decide +kernel
theorem dX10_eveningOf_74 : decode cX10_eveningOf 74 = .ok (.isub, 1) := by decide +kernel
theorem dX10_eveningOf_75 : decode cX10_eveningOf 75 = .ok (.istore_n 2, 1) := by decide +kernel
theorem dX10_eveningOf_76 : decode cX10_eveningOf 76 = .ok (.iinc 3 1, 3) := by decide +kernel
theorem dX10_eveningOf_79 : decode cX10_eveningOf 79 = .ok (.goto (-75), 3) := by decide +kernel
theorem dX10_eveningOf_82 : decode cX10_eveningOf 82 = .ok (.iload_n 2, 1) := by decide +kernel
theorem dX10_eveningOf_83 : decode cX10_eveningOf 83 = .ok (.ireturn, 1) := by decide +kernel
theorem dX10_evening_0 : decode cX10_evening 0 = .ok (.iload_n 1, 1) := by decide +kernel
theorem dX10_evening_1 : decode cX10_evening 1 = .ok (.i2l, 1) := by decide +kernel
theorem dX10_evening_2 : decode cX10_evening 2 = .ok (.lconst 0, 1) := by decide +kernel
theorem dX10_evening_3 : decode cX10_evening 3 = .ok (.ldc2_w 163, 3) := by decide +kernel
theorem dX10_evening_6 : decode cX10_evening 6 = .ok (.invokestatic 45, 3) := by decide +kernel
theorem dX10_evening_9 : decode cX10_evening 9 = .ok (.ifCond .eq 11, 3) := by decide +kernel
theorem dX10_evening_12 : decode cX10_evening 12 = .ok (.aload_n 0, 1) := by decide +kernel
theorem dX10_evening_13 : decode cX10_evening 13 = .ok (.iload_n 1, 1) := by decide +kernel
theorem dX10_evening_14 : decode cX10_evening 14 = .ok (.invokevirtual 169, 3) := by decide +kernel
theorem dX10_evening_17 : decode cX10_evening 17 = .ok (.goto 9, 3) := by decide +kernel
theorem dX10_evening_20 : decode cX10_evening 20 = .ok (.aload_n 0, 1) := by decide +kernel
theorem dX10_evening_21 : decode cX10_evening 21 = .ok (.ldc 44, 2) := by decide +kernel
theorem dX10_evening_23 : decode cX10_evening 23 = .ok (.invokevirtual 67, 3) := by decide +kernel
theorem dX10_evening_26 : decode cX10_evening 26 = .ok (.ireturn, 1) := by decide +kernel
theorem dX10_line_0 : decode cX10_line 0 = .ok (.iload_n 1, 1) := by decide +kernel
theorem dX10_line_1 : decode cX10_line 1 = .ok (.i2l, 1) := by decide +kernel
theorem dX10_line_2 : decode cX10_line 2 = .ok (.lconst 1, 1) := by decide +kernel
theorem dX10_line_3 : decode cX10_line 3 = .ok (.ldc2_w 61, 3) := by decide +kernel
theorem dX10_line_6 : decode cX10_line 6 = .ok (.invokestatic 45, 3) := by decide +kernel
theorem dX10_line_9 : decode cX10_line 9 = .ok (.ifCond .ne 10, 3) := by decide +kernel
theorem dX10_line_12 : decode cX10_line 12 = .ok (.aload_n 0, 1) := by decide +kernel
theorem dX10_line_13 : decode cX10_line 13 = .ok (.ldc 44, 2) := by decide +kernel
theorem dX10_line_15 : decode cX10_line 15 = .ok (.invokevirtual 67, 3) := by decide +kernel
theorem dX10_line_18 : decode cX10_line 18 = .ok (.ireturn, 1) := by decide +kernel
theorem dX10_line_19 : decode cX10_line 19 = .ok (.aload_n 0, 1) := by decide +kernel
theorem dX10_line_20 : decode cX10_line 20 = .ok (.getfield 7, 3) := by decide +kernel
theorem dX10_line_23 : decode cX10_line 23 = .ok (.iconst 2, 1) := by decide +kernel
theorem dX10_line_24 : decode cX10_line 24 = .ok (.iaload, 1) := by decide +kernel
theorem dX10_line_25 : decode cX10_line 25 = .ok (.istore_n 2, 1) := by decide +kernel
theorem dX10_line_26 : decode cX10_line 26 = .ok (.aload_n 0, 1) := by decide +kernel
theorem dX10_line_27 : decode cX10_line 27 = .ok (.getfield 7, 3) := by decide +kernel
theorem dX10_line_30 : decode cX10_line 30 = .ok (.iconst 2, 1) := by decide +kernel
theorem dX10_line_31 : decode cX10_line 31 = .ok (.iload_n 1, 1) := by decide +kernel
theorem dX10_line_32 : decode cX10_line 32 = .ok (.iastore, 1) := by decide +kernel
theorem dX10_line_33 : decode cX10_line 33 = .ok (.iload_n 2, 1) := by decide +kernel
theorem dX10_line_34 : decode cX10_line 34 = .ok (.ireturn, 1) := by decide +kernel
theorem dX10_knownSet_0 : decode cX10_knownSet 0 = .ok (.iconst 0, 1) := by decide +kernel
theorem dX10_knownSet_1 : decode cX10_knownSet 1 = .ok (.istore_n 1, 1) := by decide +kernel
theorem dX10_knownSet_2 : decode cX10_knownSet 2 = .ok (.iconst 0, 1) := by decide +kernel
theorem dX10_knownSet_3 : decode cX10_knownSet 3 = .ok (.istore_n 2, 1) := by decide +kernel
theorem dX10_knownSet_4 : decode cX10_knownSet 4 = .ok (.iload_n 2, 1) := by decide +kernel
theorem dX10_knownSet_5 : decode cX10_knownSet 5 = .ok (.aload_n 0, 1) := by decide +kernel
theorem dX10_knownSet_6 : decode cX10_knownSet 6 = .ok (.getfield 7, 3) := by decide +kernel
theorem dX10_knownSet_9 : decode cX10_knownSet 9 = .ok (.iconst 0, 1) := by decide +kernel
theorem dX10_knownSet_10 : decode cX10_knownSet 10 = .ok (.iaload, 1) := by decide +kernel
theorem dX10_knownSet_11 : decode cX10_knownSet 11 = .ok (.if_icmp .ge 27, 3) := by decide +kernel
theorem dX10_knownSet_14 : decode cX10_knownSet 14 = .ok (.iload_n 1, 1) := by decide +kernel
theorem dX10_knownSet_15 : decode cX10_knownSet 15 = .ok (.aload_n 0, 1) := by decide +kernel
theorem dX10_knownSet_16 : decode cX10_knownSet 16 = .ok (.iload_n 2, 1) := by decide +kernel
theorem dX10_knownSet_17 : decode cX10_knownSet 17 = .ok (.invokevirtual 85, 3) := by decide +kernel
theorem dX10_knownSet_20 : decode cX10_knownSet 20 = .ok (.ifCond .eq 9, 3) := by decide +kernel
theorem dX10_knownSet_23 : decode cX10_knownSet 23 = .ok (.iconst 1, 1) := by decide +kernel
theorem dX10_knownSet_24 : decode cX10_knownSet 24 = .ok (.iload_n 2, 1) := by decide +kernel
theorem dX10_knownSet_25 : decode cX10_knownSet 25 = .ok (.ishl, 1) := by decide +kernel
theorem dX10_knownSet_26 : decode cX10_knownSet 26 = .ok (.goto 4, 3) := by decide +kernel
theorem dX10_knownSet_29 : decode cX10_knownSet 29 = .ok (.iconst 0, 1) := by decide +kernel
theorem dX10_knownSet_30 : decode cX10_knownSet 30 = .ok (.ior, 1) := by decide +kernel
theorem dX10_knownSet_31 : decode cX10_knownSet 31 = .ok (.istore_n 1, 1) := by decide +kernel
theorem dX10_knownSet_32 : decode cX10_knownSet 32 = .ok (.iinc 2 1, 3) := by decide +kernel
theorem dX10_knownSet_35 : decode cX10_knownSet 35 = .ok (.goto (-31), 3) := by decide +kernel
theorem dX10_knownSet_38 : decode cX10_knownSet 38 = .ok (.iload_n 1, 1) := by decide +kernel
theorem dX10_knownSet_39 : decode cX10_knownSet 39 = .ok (.ireturn, 1) := by decide +kernel
theorem dX10_known_0 : decode cX10_known 0 = .ok (.aload_n 0, 1) := by decide +kernel
theorem dX10_known_1 : decode cX10_known 1 = .ok (.invokevirtual 172, 3) := by decide +kernel
theorem dX10_known_4 : decode cX10_known 4 = .ok (.ireturn, 1) := by decide +kernel
theorem dX10_day_0 : decode cX10_day 0 = .ok (.aload_n 0, 1) := by decide +kernel
theorem dX10_day_1 : decode cX10_day 1 = .ok (.invokevirtual 172, 3) := by decide +kernel
theorem dX10_day_4 : decode cX10_day 4 = .ok (.istore_n 1, 1) := by decide +kernel
theorem dX10_day_5 : decode cX10_day 5 = .ok (.aload_n 0, 1) := by decide +kernel
theorem dX10_day_6 : decode cX10_day 6 = .ok (.iload_n 1, 1) := by decide +kernel
theorem dX10_day_7 : decode cX10_day 7 = .ok (.invokevirtual 112, 3) := by decide +kernel
theorem dX10_day_10 : decode cX10_day 10 = .ok (.istore_n 2, 1) := by decide +kernel
theorem dX10_day_11 : decode cX10_day 11 = .ok (.aload_n 0, 1) := by decide +kernel
theorem dX10_day_12 : decode cX10_day 12 = .ok (.iload_n 1, 1) := by decide +kernel
theorem dX10_day_13 : decode cX10_day 13 = .ok (.invokevirtual 119, 3) := by decide +kernel
theorem dX10_day_16 : decode cX10_day 16 = .ok (.istore_n 3, 1) := by decide +kernel
theorem dX10_day_17 : decode cX10_day 17 = .ok (.iconst 0, 1) := by decide +kernel
theorem dX10_day_18 : decode cX10_day 18 = .ok (.istore 4, 2) := by decide +kernel
theorem dX10_day_20 : decode cX10_day 20 = .ok (.iconst 0, 1) := by decide +kernel
theorem dX10_day_21 : decode cX10_day 21 = .ok (.istore 5, 2) := by decide +kernel
theorem dX10_day_23 : decode cX10_day 23 = .ok (.iload 5, 2) := by decide +kernel
theorem dX10_day_25 : decode cX10_day 25 = .ok (.aload_n 0, 1) := by decide +kernel
theorem dX10_day_26 : decode cX10_day 26 = .ok (.getfield 7, 3) := by decide +kernel
theorem dX10_day_29 : decode cX10_day 29 = .ok (.iconst 1, 1) := by decide +kernel
theorem dX10_day_30 : decode cX10_day 30 = .ok (.iaload, 1) := by decide +kernel
theorem dX10_day_31 : decode cX10_day 31 = .ok (.if_icmp .ge 81, 3) := by decide +kernel
theorem dX10_day_34 : decode cX10_day 34 = .ok (.aload_n 0, 1) := by decide +kernel
theorem dX10_day_35 : decode cX10_day 35 = .ok (.iload 5, 2) := by decide +kernel
theorem dX10_day_37 : decode cX10_day 37 = .ok (.iconst 2, 1) := by decide +kernel
theorem dX10_day_38 : decode cX10_day 38 = .ok (.invokevirtual 103, 3) := by decide +kernel
theorem dX10_day_41 : decode cX10_day 41 = .ok (.aload_n 0, 1) := by decide +kernel
theorem dX10_day_42 : decode cX10_day 42 = .ok (.getfield 7, 3) := by decide +kernel
theorem dX10_day_45 : decode cX10_day 45 = .ok (.iconst 3, 1) := by decide +kernel
theorem dX10_day_46 : decode cX10_day 46 = .ok (.iaload, 1) := by decide +kernel
theorem dX10_day_47 : decode cX10_day 47 = .ok (.if_icmp .ne 59, 3) := by decide +kernel
theorem dX10_day_50 : decode cX10_day 50 = .ok (.aload_n 0, 1) := by decide +kernel
theorem dX10_day_51 : decode cX10_day 51 = .ok (.getfield 7, 3) := by decide +kernel
theorem dX10_day_54 : decode cX10_day 54 = .ok (.iconst 4, 1) := by decide +kernel
theorem dX10_day_55 : decode cX10_day 55 = .ok (.dup2, 1) := by decide +kernel
theorem dX10_day_56 : decode cX10_day 56 = .ok (.iaload, 1) := by decide +kernel
theorem dX10_day_57 : decode cX10_day 57 = .ok (.aload_n 0, 1) := by decide +kernel
theorem dX10_day_58 : decode cX10_day 58 = .ok (.iload 5, 2) := by decide +kernel
theorem dX10_day_60 : decode cX10_day 60 = .ok (.iload_n 1, 1) := by decide +kernel
theorem dX10_day_61 : decode cX10_day 61 = .ok (.iload_n 2, 1) := by decide +kernel
theorem dX10_day_62 : decode cX10_day 62 = .ok (.iload_n 3, 1) := by decide +kernel
theorem dX10_day_63 : decode cX10_day 63 = .ok (.invokevirtual 122, 3) := by decide +kernel
theorem dX10_day_66 : decode cX10_day 66 = .ok (.iadd, 1) := by decide +kernel
theorem dX10_day_67 : decode cX10_day 67 = .ok (.iastore, 1) := by decide +kernel
theorem dX10_day_68 : decode cX10_day 68 = .ok (.aload_n 0, 1) := by decide +kernel
theorem dX10_day_69 : decode cX10_day 69 = .ok (.iload 5, 2) := by decide +kernel
theorem dX10_day_71 : decode cX10_day 71 = .ok (.iload_n 1, 1) := by decide +kernel
theorem dX10_day_72 : decode cX10_day 72 = .ok (.invokevirtual 129, 3) := by decide +kernel
theorem dX10_day_75 : decode cX10_day 75 = .ok (.istore 6, 2) := by decide +kernel
theorem dX10_day_77 : decode cX10_day 77 = .ok (.iload 6, 2) := by decide +kernel
theorem dX10_day_79 : decode cX10_day 79 = .ok (.ifCond .lt 27, 3) := by decide +kernel
theorem dX10_day_82 : decode cX10_day 82 = .ok (.aload_n 0, 1) := by decide +kernel
theorem dX10_day_83 : decode cX10_day 83 = .ok (.getfield 7, 3) := by decide +kernel
theorem dX10_day_86 : decode cX10_day 86 = .ok (.iload 6, 2) := by decide +kernel
theorem dX10_day_88 : decode cX10_day 88 = .ok (.iconst 5, 1) := by decide +kernel
theorem dX10_day_89 : decode cX10_day 89 = .ok (.invokestatic 49, 3) := by decide +kernel
theorem dX10_day_92 : decode cX10_day 92 = .ok (.dup2, 1) := by decide +kernel
theorem dX10_day_93 : decode cX10_day 93 = .ok (.iaload, 1) := by decide +kernel
theorem dX10_day_94 : decode cX10_day 94 = .ok (.iconst 1, 1) := by decide +kernel
theorem dX10_day_95 : decode cX10_day 95 = .ok (.iadd, 1) := by decide +kernel
theorem dX10_day_96 : decode cX10_day 96 = .ok (.iastore, 1) := by decide +kernel
theorem dX10_day_97 : decode cX10_day 97 = .ok (.iload 4, 2) := by decide +kernel
theorem dX10_day_99 : decode cX10_day 99 = .ok (.iconst 1, 1) := by decide +kernel
theorem dX10_day_100 : decode cX10_day 100 = .ok (.iload 6, 2) := by decide +kernel
theorem dX10_day_102 : decode cX10_day 102 = .ok (.ishl, 1) := by decide +kernel
theorem dX10_day_103 : decode cX10_day 103 = .ok (.ior, 1) := by decide +kernel
theorem dX10_day_104 : decode cX10_day 104 = .ok (.istore 4, 2) := by decide +kernel
theorem dX10_day_106 : decode cX10_day 106 = .ok (.iinc 5 1, 3) := by decide +kernel
theorem dX10_day_109 : decode cX10_day 109 = .ok (.goto (-86), 3) := by decide +kernel
theorem dX10_day_112 : decode cX10_day 112 = .ok (.iconst 0, 1) := by decide +kernel
theorem dX10_day_113 : decode cX10_day 113 = .ok (.istore 5, 2) := by decide +kernel
theorem dX10_day_115 : decode cX10_day 115 = .ok (.iload 5, 2) := by decide +kernel
theorem dX10_day_117 : decode cX10_day 117 = .ok (.aload_n 0, 1) := by decide +kernel
theorem dX10_day_118 : decode cX10_day 118 = .ok (.getfield 7, 3) := by decide +kernel
theorem dX10_day_121 : decode cX10_day 121 = .ok (.iconst 0, 1) := by decide +kernel
theorem dX10_day_122 : decode cX10_day 122 = .ok (.iaload, 1) := by decide +kernel
theorem dX10_day_123 : decode cX10_day 123 = .ok (.if_icmp .ge 82, 3) := by decide +kernel
theorem dX10_day_126 : decode cX10_day 126 = .ok (.iload 4, 2) := by decide +kernel
theorem dX10_day_128 : decode cX10_day 128 = .ok (.iload 5, 2) := by decide +kernel
theorem dX10_day_130 : decode cX10_day 130 = .ok (.invokestatic 106, 3) := by decide +kernel
theorem dX10_day_133 : decode cX10_day 133 = .ok (.ifCond .eq 16, 3) := by decide +kernel
theorem dX10_day_136 : decode cX10_day 136 = .ok (.aload_n 0, 1) := by decide +kernel
theorem dX10_day_137 : decode cX10_day 137 = .ok (.iload 5, 2) := by decide +kernel
theorem dX10_day_139 : decode cX10_day 139 = .ok (.iconst 4, 1) := by decide +kernel
theorem dX10_day_140 : decode cX10_day 140 = .ok (.invokevirtual 76, 3) := by decide +kernel
theorem dX10_day_143 : decode cX10_day 143 = .ok (.bipush 10, 2) := by decide +kernel
theorem dX10_day_145 : decode cX10_day 145 = .ok (.iadd, 1) := by decide +kernel
theorem dX10_day_146 : decode cX10_day 146 = .ok (.goto 17, 3) := by decide +kernel
theorem dX10_day_149 : decode cX10_day 149 = .ok (.aload_n 0, 1) := by decide +kernel
theorem dX10_day_150 : decode cX10_day 150 = .ok (.iload 5, 2) := by decide +kernel
theorem dX10_day_152 : decode cX10_day 152 = .ok (.iconst 4, 1) := by decide +kernel
theorem dX10_day_153 : decode cX10_day 153 = .ok (.invokevirtual 76, 3) := by decide +kernel
theorem dX10_day_156 : decode cX10_day 156 = .ok (.aload_n 0, 1) := by decide +kernel
theorem dX10_day_157 : decode cX10_day 157 = .ok (.iload 5, 2) := by decide +kernel
theorem dX10_day_159 : decode cX10_day 159 = .ok (.invokevirtual 88, 3) := by decide +kernel
theorem dX10_day_162 : decode cX10_day 162 = .ok (.isub, 1) := by decide +kernel
theorem dX10_day_163 : decode cX10_day 163 = .ok (.istore 6, 2) := by decide +kernel
theorem dX10_day_165 : decode cX10_day 165 = .ok (.aload_n 0, 1) := by decide +kernel
theorem dX10_day_166 : decode cX10_day 166 = .ok (.getfield 7, 3) := by decide +kernel
theorem dX10_day_169 : decode cX10_day 169 = .ok (.iload 5, 2) := by decide +kernel
theorem dX10_day_171 : decode cX10_day 171 = .ok (.iconst 4, 1) := by decide +kernel
theorem dX10_day_172 : decode cX10_day 172 = .ok (.invokestatic 49, 3) := by decide +kernel
theorem dX10_day_175 : decode cX10_day 175 = .ok (.iload 6, 2) := by decide +kernel
theorem dX10_day_177 : decode cX10_day 177 = .ok (.ifCond .ge 7, 3) := by decide +kernel
theorem dX10_day_180 : decode cX10_day 180 = .ok (.iconst 0, 1) := by decide +kernel
theorem dX10_day_181 : decode cX10_day 181 = .ok (.goto 17, 3) := by decide +kernel
theorem dX10_day_184 : decode cX10_day 184 = .ok (.iload 6, 2) := by decide +kernel
theorem dX10_day_186 : decode cX10_day 186 = .ok (.bipush 100, 2) := by decide +kernel
theorem dX10_day_188 : decode cX10_day 188 = .ok (.if_icmp .le 8, 3) := by decide +kernel
theorem dX10_day_191 : decode cX10_day 191 = .ok (.bipush 100, 2) := by decide +kernel
theorem dX10_day_193 : decode cX10_day 193 = .ok (.goto 5, 3) := by decide +kernel
theorem dX10_day_196 : decode cX10_day 196 = .ok (.iload 6, 2) := by decide +kernel
theorem dX10_day_198 : decode cX10_day 198 = .ok (.iastore, 1) := by decide +kernel
theorem dX10_day_199 : decode cX10_day 199 = .ok (.iinc 5 1, 3) := by decide +kernel
theorem dX10_day_202 : decode cX10_day 202 = .ok (.goto (-87), 3) := by decide +kernel
theorem dX10_day_205 : decode cX10_day 205 = .ok (.aload_n 0, 1) := by decide +kernel
theorem dX10_day_206 : decode cX10_day 206 = .ok (.getfield 7, 3) := by decide +kernel
theorem dX10_day_209 : decode cX10_day 209 = .ok (.iconst 3, 1) := by decide +kernel
theorem dX10_day_210 : decode cX10_day 210 = .ok (.dup2, 1) := by decide +kernel
theorem dX10_day_211 : decode cX10_day 211 = .ok (.iaload, 1) := by decide +kernel
theorem dX10_day_212 : decode cX10_day 212 = .ok (.iconst 1, 1) := by decide +kernel
theorem dX10_day_213 : decode cX10_day 213 = .ok (.iadd, 1) := by decide +kernel
theorem dX10_day_214 : decode cX10_day 214 = .ok (.iastore, 1) := by decide +kernel
theorem dX10_day_215 : decode cX10_day 215 = .ok (.iload 4, 2) := by decide +kernel
theorem dX10_day_217 : decode cX10_day 217 = .ok (.ireturn, 1) := by decide +kernel
theorem dX10_daysGo_0 : decode cX10_daysGo 0 = .ok (.iconst 0, 1) := by decide +kernel
theorem dX10_daysGo_1 : decode cX10_daysGo 1 = .ok (.istore_n 2, 1) := by decide +kernel
theorem dX10_daysGo_2 : decode cX10_daysGo 2 = .ok (.iconst 0, 1) := by decide +kernel
theorem dX10_daysGo_3 : decode cX10_daysGo 3 = .ok (.istore_n 3, 1) := by decide +kernel
theorem dX10_daysGo_4 : decode cX10_daysGo 4 = .ok (.iload_n 3, 1) := by decide +kernel
theorem dX10_daysGo_5 : decode cX10_daysGo 5 = .ok (.iload_n 1, 1) := by decide +kernel
theorem dX10_daysGo_6 : decode cX10_daysGo 6 = .ok (.if_icmp .ge 16, 3) := by decide +kernel
theorem dX10_daysGo_9 : decode cX10_daysGo 9 = .ok (.iload_n 2, 1) := by decide +kernel
theorem dX10_daysGo_10 : decode cX10_daysGo 10 = .ok (.aload_n 0, 1) := by decide +kernel
theorem dX10_daysGo_11 : decode cX10_daysGo 11 = .ok (.invokevirtual 176, 3) := by decide +kernel
theorem dX10_daysGo_14 : decode cX10_daysGo 14 = .ok (.ior, 1) := by decide +kernel
theorem dX10_daysGo_15 : decode cX10_daysGo 15 = .ok (.istore_n 2, 1) := by decide +kernel
theorem dX10_daysGo_16 : decode cX10_daysGo 16 = .ok (.iinc 3 1, 3) := by decide +kernel
theorem dX10_daysGo_19 : decode cX10_daysGo 19 = .ok (.goto (-15), 3) := by decide +kernel
theorem dX10_daysGo_22 : decode cX10_daysGo 22 = .ok (.iload_n 2, 1) := by decide +kernel
theorem dX10_daysGo_23 : decode cX10_daysGo 23 = .ok (.ireturn, 1) := by decide +kernel
theorem dX10_isTooLate_0 : decode cX10_isTooLate 0 = .ok (.aload_n 0, 1) := by decide +kernel
theorem dX10_isTooLate_1 : decode cX10_isTooLate 1 = .ok (.getfield 7, 3) := by decide +kernel
theorem dX10_isTooLate_4 : decode cX10_isTooLate 4 = .ok (.iconst 3, 1) := by decide +kernel
theorem dX10_isTooLate_5 : decode cX10_isTooLate 5 = .ok (.iaload, 1) := by decide +kernel
theorem dX10_isTooLate_6 : decode cX10_isTooLate 6 = .ok (.iload_n 1, 1) := by decide +kernel
theorem dX10_isTooLate_7 : decode cX10_isTooLate 7 = .ok (.iadd, 1) := by decide +kernel
theorem dX10_isTooLate_8 : decode cX10_isTooLate 8 = .ok (.bipush 99, 2) := by decide +kernel
theorem dX10_isTooLate_10 : decode cX10_isTooLate 10 = .ok (.if_icmp .le 7, 3) := by decide +kernel
theorem dX10_isTooLate_13 : decode cX10_isTooLate 13 = .ok (.iconst 1, 1) := by decide +kernel
theorem dX10_isTooLate_14 : decode cX10_isTooLate 14 = .ok (.goto 4, 3) := by decide +kernel
theorem dX10_isTooLate_17 : decode cX10_isTooLate 17 = .ok (.iconst 0, 1) := by decide +kernel
theorem dX10_isTooLate_18 : decode cX10_isTooLate 18 = .ok (.ireturn, 1) := by decide +kernel
theorem dX10_days_0 : decode cX10_days 0 = .ok (.iload_n 1, 1) := by decide +kernel
theorem dX10_days_1 : decode cX10_days 1 = .ok (.i2l, 1) := by decide +kernel
theorem dX10_days_2 : decode cX10_days 2 = .ok (.lconst 1, 1) := by decide +kernel
theorem dX10_days_3 : decode cX10_days 3 = .ok (.ldc2_w 179, 3) := by decide +kernel
theorem dX10_days_6 : decode cX10_days 6 = .ok (.invokestatic 45, 3) := by decide +kernel
theorem dX10_days_9 : decode cX10_days 9 = .ok (.ifCond .ne 10, 3) := by decide +kernel
theorem dX10_days_12 : decode cX10_days 12 = .ok (.aload_n 0, 1) := by decide +kernel
theorem dX10_days_13 : decode cX10_days 13 = .ok (.ldc 44, 2) := by decide +kernel
theorem dX10_days_15 : decode cX10_days 15 = .ok (.invokevirtual 67, 3) := by decide +kernel
theorem dX10_days_18 : decode cX10_days 18 = .ok (.ireturn, 1) := by decide +kernel
theorem dX10_days_19 : decode cX10_days 19 = .ok (.aload_n 0, 1) := by decide +kernel
theorem dX10_days_20 : decode cX10_days 20 = .ok (.iload_n 1, 1) := by decide +kernel
theorem dX10_days_21 : decode cX10_days 21 = .ok (.invokevirtual 181, 3) := by decide +kernel
theorem dX10_days_24 : decode cX10_days 24 = .ok (.ifCond .eq 10, 3) := by decide +kernel
theorem dX10_days_27 : decode cX10_days 27 = .ok (.aload_n 0, 1) := by decide +kernel
theorem dX10_days_28 : decode cX10_days 28 = .ok (.ldc 184, 2) := by decide +kernel
theorem dX10_days_30 : decode cX10_days 30 = .ok (.invokevirtual 67, 3) := by decide +kernel
theorem dX10_days_33 : decode cX10_days 33 = .ok (.ireturn, 1) := by decide +kernel
theorem dX10_days_34 : decode cX10_days 34 = .ok (.aload_n 0, 1) := by decide +kernel
theorem dX10_days_35 : decode cX10_days 35 = .ok (.getfield 7, 3) := by decide +kernel
theorem dX10_days_38 : decode cX10_days 38 = .ok (.iconst 4, 1) := by decide +kernel
theorem dX10_days_39 : decode cX10_days 39 = .ok (.iaload, 1) := by decide +kernel
theorem dX10_days_40 : decode cX10_days 40 = .ok (.istore_n 2, 1) := by decide +kernel
theorem dX10_days_41 : decode cX10_days 41 = .ok (.aload_n 0, 1) := by decide +kernel
theorem dX10_days_42 : decode cX10_days 42 = .ok (.iload_n 1, 1) := by decide +kernel
theorem dX10_days_43 : decode cX10_days 43 = .ok (.invokevirtual 185, 3) := by decide +kernel
theorem dX10_days_46 : decode cX10_days 46 = .ok (.istore_n 3, 1) := by decide +kernel
theorem dX10_days_47 : decode cX10_days 47 = .ok (.aload_n 0, 1) := by decide +kernel
theorem dX10_days_48 : decode cX10_days 48 = .ok (.getfield 7, 3) := by decide +kernel
theorem dX10_days_51 : decode cX10_days 51 = .ok (.iconst 4, 1) := by decide +kernel
theorem dX10_days_52 : decode cX10_days 52 = .ok (.iaload, 1) := by decide +kernel
theorem dX10_days_53 : decode cX10_days 53 = .ok (.iload_n 2, 1) := by decide +kernel
theorem dX10_days_54 : decode cX10_days 54 = .ok (.isub, 1) := by decide +kernel
theorem dX10_days_55 : decode cX10_days 55 = .ok (.ireturn, 1) := by decide +kernel
theorem dX10_now_0 : decode cX10_now 0 = .ok (.iload_n 1, 1) := by decide +kernel
theorem dX10_now_1 : decode cX10_now 1 = .ok (.tableswitch 97 0 3 #[31, 38, 45, 52], 31) := by decide +kernel
theorem dX10_now_32 : decode cX10_now 32 = .ok (.aload_n 0, 1) := by decide +kernel
theorem dX10_now_33 : decode cX10_now 33 = .ok (.getfield 7, 3) := by decide +kernel
theorem dX10_now_36 : decode cX10_now 36 = .ok (.iconst 3, 1) := by decide +kernel
theorem dX10_now_37 : decode cX10_now 37 = .ok (.iaload, 1) := by decide +kernel
theorem dX10_now_38 : decode cX10_now 38 = .ok (.ireturn, 1) := by decide +kernel
theorem dX10_now_39 : decode cX10_now 39 = .ok (.aload_n 0, 1) := by decide +kernel
theorem dX10_now_40 : decode cX10_now 40 = .ok (.getfield 7, 3) := by decide +kernel
theorem dX10_now_43 : decode cX10_now 43 = .ok (.iconst 2, 1) := by decide +kernel
theorem dX10_now_44 : decode cX10_now 44 = .ok (.iaload, 1) := by decide +kernel
theorem dX10_now_45 : decode cX10_now 45 = .ok (.ireturn, 1) := by decide +kernel
theorem dX10_now_46 : decode cX10_now 46 = .ok (.aload_n 0, 1) := by decide +kernel
theorem dX10_now_47 : decode cX10_now 47 = .ok (.getfield 7, 3) := by decide +kernel
theorem dX10_now_50 : decode cX10_now 50 = .ok (.iconst 4, 1) := by decide +kernel
theorem dX10_now_51 : decode cX10_now 51 = .ok (.iaload, 1) := by decide +kernel
theorem dX10_now_52 : decode cX10_now 52 = .ok (.ireturn, 1) := by decide +kernel
theorem dX10_now_53 : decode cX10_now 53 = .ok (.iconst 0, 1) := by decide +kernel
theorem dX10_now_54 : decode cX10_now 54 = .ok (.istore_n 2, 1) := by decide +kernel
theorem dX10_now_55 : decode cX10_now 55 = .ok (.iconst 0, 1) := by decide +kernel
theorem dX10_now_56 : decode cX10_now 56 = .ok (.istore_n 3, 1) := by decide +kernel
theorem dX10_now_57 : decode cX10_now 57 = .ok (.iload_n 3, 1) := by decide +kernel
theorem dX10_now_58 : decode cX10_now 58 = .ok (.aload_n 0, 1) := by decide +kernel
theorem dX10_now_59 : decode cX10_now 59 = .ok (.getfield 7, 3) := by decide +kernel
theorem dX10_now_62 : decode cX10_now 62 = .ok (.iconst 1, 1) := by decide +kernel
theorem dX10_now_63 : decode cX10_now 63 = .ok (.iaload, 1) := by decide +kernel
theorem dX10_now_64 : decode cX10_now 64 = .ok (.if_icmp .ge 32, 3) := by decide +kernel
theorem dX10_now_67 : decode cX10_now 67 = .ok (.iload_n 2, 1) := by decide +kernel
theorem dX10_now_68 : decode cX10_now 68 = .ok (.aload_n 0, 1) := by decide +kernel
theorem dX10_now_69 : decode cX10_now 69 = .ok (.iload_n 3, 1) := by decide +kernel
theorem dX10_now_70 : decode cX10_now 70 = .ok (.iconst 2, 1) := by decide +kernel
theorem dX10_now_71 : decode cX10_now 71 = .ok (.invokevirtual 103, 3) := by decide +kernel
theorem dX10_now_74 : decode cX10_now 74 = .ok (.aload_n 0, 1) := by decide +kernel
theorem dX10_now_75 : decode cX10_now 75 = .ok (.getfield 7, 3) := by decide +kernel
theorem dX10_now_78 : decode cX10_now 78 = .ok (.iconst 3, 1) := by decide +kernel
theorem dX10_now_79 : decode cX10_now 79 = .ok (.iaload, 1) := by decide +kernel
theorem dX10_now_80 : decode cX10_now 80 = .ok (.if_icmp .ne 7, 3) := by decide +kernel
theorem dX10_now_83 : decode cX10_now 83 = .ok (.iconst 1, 1) := by decide +kernel
theorem dX10_now_84 : decode cX10_now 84 = .ok (.goto 4, 3) := by decide +kernel
theorem dX10_now_87 : decode cX10_now 87 = .ok (.iconst 0, 1) := by decide +kernel
theorem dX10_now_88 : decode cX10_now 88 = .ok (.iadd, 1) := by decide +kernel
theorem dX10_now_89 : decode cX10_now 89 = .ok (.istore_n 2, 1) := by decide +kernel
theorem dX10_now_90 : decode cX10_now 90 = .ok (.iinc 3 1, 3) := by decide +kernel
theorem dX10_now_93 : decode cX10_now 93 = .ok (.goto (-36), 3) := by decide +kernel
theorem dX10_now_96 : decode cX10_now 96 = .ok (.iload_n 2, 1) := by decide +kernel
theorem dX10_now_97 : decode cX10_now 97 = .ok (.ireturn, 1) := by decide +kernel
theorem dX10_now_98 : decode cX10_now 98 = .ok (.aload_n 0, 1) := by decide +kernel
theorem dX10_now_99 : decode cX10_now 99 = .ok (.ldc 44, 2) := by decide +kernel
theorem dX10_now_101 : decode cX10_now 101 = .ok (.invokevirtual 67, 3) := by decide +kernel
theorem dX10_now_104 : decode cX10_now 104 = .ok (.ireturn, 1) := by decide +kernel
theorem dX10_sumOf_0 : decode cX10_sumOf 0 = .ok (.iconst 0, 1) := by decide +kernel
theorem dX10_sumOf_1 : decode cX10_sumOf 1 = .ok (.istore_n 2, 1) := by decide +kernel
theorem dX10_sumOf_2 : decode cX10_sumOf 2 = .ok (.iconst 0, 1) := by decide +kernel
theorem dX10_sumOf_3 : decode cX10_sumOf 3 = .ok (.istore_n 3, 1) := by decide +kernel
theorem dX10_sumOf_4 : decode cX10_sumOf 4 = .ok (.iload_n 3, 1) := by decide +kernel
theorem dX10_sumOf_5 : decode cX10_sumOf 5 = .ok (.aload_n 0, 1) := by decide +kernel
theorem dX10_sumOf_6 : decode cX10_sumOf 6 = .ok (.getfield 7, 3) := by decide +kernel
theorem dX10_sumOf_9 : decode cX10_sumOf 9 = .ok (.iconst 0, 1) := by decide +kernel
theorem dX10_sumOf_10 : decode cX10_sumOf 10 = .ok (.iaload, 1) := by decide +kernel
theorem dX10_sumOf_11 : decode cX10_sumOf 11 = .ok (.if_icmp .ge 18, 3) := by decide +kernel
theorem dX10_sumOf_14 : decode cX10_sumOf 14 = .ok (.iload_n 2, 1) := by decide +kernel
theorem dX10_sumOf_15 : decode cX10_sumOf 15 = .ok (.aload_n 0, 1) := by decide +kernel
theorem dX10_sumOf_16 : decode cX10_sumOf 16 = .ok (.iload_n 3, 1) := by decide +kernel
theorem dX10_sumOf_17 : decode cX10_sumOf 17 = .ok (.iload_n 1, 1) := by decide +kernel
theorem dX10_sumOf_18 : decode cX10_sumOf 18 = .ok (.invokevirtual 76, 3) := by decide +kernel
theorem dX10_sumOf_21 : decode cX10_sumOf 21 = .ok (.iadd, 1) := by decide +kernel
theorem dX10_sumOf_22 : decode cX10_sumOf 22 = .ok (.istore_n 2, 1) := by decide +kernel
theorem dX10_sumOf_23 : decode cX10_sumOf 23 = .ok (.iinc 3 1, 3) := by decide +kernel
theorem dX10_sumOf_26 : decode cX10_sumOf 26 = .ok (.goto (-22), 3) := by decide +kernel
theorem dX10_sumOf_29 : decode cX10_sumOf 29 = .ok (.iload_n 2, 1) := by decide +kernel
theorem dX10_sumOf_30 : decode cX10_sumOf 30 = .ok (.ireturn, 1) := by decide +kernel
theorem dX10_on_0 : decode cX10_on 0 = .ok (.iload_n 1, 1) := by decide +kernel
theorem dX10_on_1 : decode cX10_on 1 = .ok (.i2l, 1) := by decide +kernel
theorem dX10_on_2 : decode cX10_on 2 = .ok (.lconst 0, 1) := by decide +kernel
theorem dX10_on_3 : decode cX10_on 3 = .ok (.ldc2_w 57, 3) := by decide +kernel
theorem dX10_on_6 : decode cX10_on 6 = .ok (.invokestatic 45, 3) := by decide +kernel
theorem dX10_on_9 : decode cX10_on 9 = .ok (.ifCond .eq 15, 3) := by decide +kernel
theorem dX10_on_12 : decode cX10_on 12 = .ok (.iload_n 2, 1) := by decide +kernel
theorem dX10_on_13 : decode cX10_on 13 = .ok (.i2l, 1) := by decide +kernel
theorem dX10_on_14 : decode cX10_on 14 = .ok (.lconst 0, 1) := by decide +kernel
theorem dX10_on_15 : decode cX10_on 15 = .ok (.ldc2_w 148, 3) := by decide +kernel
theorem dX10_on_18 : decode cX10_on 18 = .ok (.invokestatic 45, 3) := by decide +kernel
theorem dX10_on_21 : decode cX10_on 21 = .ok (.ifCond .ne 10, 3) := by decide +kernel
theorem dX10_on_24 : decode cX10_on 24 = .ok (.aload_n 0, 1) := by decide +kernel
theorem dX10_on_25 : decode cX10_on 25 = .ok (.ldc 44, 2) := by decide +kernel
theorem dX10_on_27 : decode cX10_on 27 = .ok (.invokevirtual 67, 3) := by decide +kernel
theorem dX10_on_30 : decode cX10_on 30 = .ok (.ireturn, 1) := by decide +kernel
theorem dX10_on_31 : decode cX10_on 31 = .ok (.aload_n 0, 1) := by decide +kernel
theorem dX10_on_32 : decode cX10_on 32 = .ok (.iload_n 1, 1) := by decide +kernel
theorem dX10_on_33 : decode cX10_on 33 = .ok (.invokevirtual 181, 3) := by decide +kernel
theorem dX10_on_36 : decode cX10_on 36 = .ok (.ifCond .eq 10, 3) := by decide +kernel
theorem dX10_on_39 : decode cX10_on 39 = .ok (.aload_n 0, 1) := by decide +kernel
theorem dX10_on_40 : decode cX10_on 40 = .ok (.ldc 184, 2) := by decide +kernel
theorem dX10_on_42 : decode cX10_on 42 = .ok (.invokevirtual 67, 3) := by decide +kernel
theorem dX10_on_45 : decode cX10_on 45 = .ok (.ireturn, 1) := by decide +kernel
theorem dX10_on_46 : decode cX10_on 46 = .ok (.aload_n 0, 1) := by decide +kernel
theorem dX10_on_47 : decode cX10_on 47 = .ok (.invokevirtual 188, 3) := by decide +kernel
theorem dX10_on_50 : decode cX10_on 50 = .ok (.aload_n 0, 1) := by decide +kernel
theorem dX10_on_51 : decode cX10_on 51 = .ok (.iload_n 1, 1) := by decide +kernel
theorem dX10_on_52 : decode cX10_on 52 = .ok (.invokevirtual 185, 3) := by decide +kernel
theorem dX10_on_55 : decode cX10_on 55 = .ok (.istore_n 3, 1) := by decide +kernel
theorem dX10_on_56 : decode cX10_on 56 = .ok (.iload_n 2, 1) := by decide +kernel
theorem dX10_on_57 : decode cX10_on 57 = .ok (.ifCond .ne 12, 3) := by decide +kernel
theorem dX10_on_60 : decode cX10_on 60 = .ok (.aload_n 0, 1) := by decide +kernel
theorem dX10_on_61 : decode cX10_on 61 = .ok (.getfield 7, 3) := by decide +kernel
theorem dX10_on_64 : decode cX10_on 64 = .ok (.iconst 4, 1) := by decide +kernel
theorem dX10_on_65 : decode cX10_on 65 = .ok (.iaload, 1) := by decide +kernel
theorem dX10_on_66 : decode cX10_on 66 = .ok (.goto 20, 3) := by decide +kernel
theorem dX10_on_69 : decode cX10_on 69 = .ok (.iload_n 2, 1) := by decide +kernel
theorem dX10_on_70 : decode cX10_on 70 = .ok (.iconst 1, 1) := by decide +kernel
theorem dX10_on_71 : decode cX10_on 71 = .ok (.if_icmp .ne 10, 3) := by decide +kernel
theorem dX10_on_74 : decode cX10_on 74 = .ok (.aload_n 0, 1) := by decide +kernel
theorem dX10_on_75 : decode cX10_on 75 = .ok (.invokevirtual 172, 3) := by decide +kernel
theorem dX10_on_78 : decode cX10_on 78 = .ok (.goto 8, 3) := by decide +kernel
theorem dX10_on_81 : decode cX10_on 81 = .ok (.aload_n 0, 1) := by decide +kernel
theorem dX10_on_82 : decode cX10_on 82 = .ok (.iconst 4, 1) := by decide +kernel
theorem dX10_on_83 : decode cX10_on 83 = .ok (.invokevirtual 191, 3) := by decide +kernel
theorem dX10_on_86 : decode cX10_on 86 = .ok (.istore 4, 2) := by decide +kernel
theorem dX10_on_88 : decode cX10_on 88 = .ok (.aload_n 0, 1) := by decide +kernel
theorem dX10_on_89 : decode cX10_on 89 = .ok (.invokevirtual 194, 3) := by decide +kernel
theorem dX10_on_92 : decode cX10_on 92 = .ok (.iload 4, 2) := by decide +kernel
theorem dX10_on_94 : decode cX10_on 94 = .ok (.ireturn, 1) := by decide +kernel
theorem dX10_forgot_0 : decode cX10_forgot 0 = .ok (.aload_n 0, 1) := by decide +kernel
theorem dX10_forgot_1 : decode cX10_forgot 1 = .ok (.iload_n 1, 1) := by decide +kernel
theorem dX10_forgot_2 : decode cX10_forgot 2 = .ok (.invokevirtual 79, 3) := by decide +kernel
theorem dX10_forgot_5 : decode cX10_forgot 5 = .ok (.ifCond .ne 10, 3) := by decide +kernel
theorem dX10_forgot_8 : decode cX10_forgot 8 = .ok (.aload_n 0, 1) := by decide +kernel
theorem dX10_forgot_9 : decode cX10_forgot 9 = .ok (.ldc 44, 2) := by decide +kernel
theorem dX10_forgot_11 : decode cX10_forgot 11 = .ok (.invokevirtual 67, 3) := by decide +kernel
theorem dX10_forgot_14 : decode cX10_forgot 14 = .ok (.ireturn, 1) := by decide +kernel
theorem dX10_forgot_15 : decode cX10_forgot 15 = .ok (.aload_n 0, 1) := by decide +kernel
theorem dX10_forgot_16 : decode cX10_forgot 16 = .ok (.getfield 7, 3) := by decide +kernel
theorem dX10_forgot_19 : decode cX10_forgot 19 = .ok (.iconst 3, 1) := by decide +kernel
theorem dX10_forgot_20 : decode cX10_forgot 20 = .ok (.iaload, 1) := by decide +kernel
theorem dX10_forgot_21 : decode cX10_forgot 21 = .ok (.bipush 39, 2) := by decide +kernel
theorem dX10_forgot_23 : decode cX10_forgot 23 = .ok (.if_icmp .le 10, 3) := by decide +kernel
theorem dX10_forgot_26 : decode cX10_forgot 26 = .ok (.aload_n 0, 1) := by decide +kernel
theorem dX10_forgot_27 : decode cX10_forgot 27 = .ok (.ldc 184, 2) := by decide +kernel
theorem dX10_forgot_29 : decode cX10_forgot 29 = .ok (.invokevirtual 67, 3) := by decide +kernel
theorem dX10_forgot_32 : decode cX10_forgot 32 = .ok (.ireturn, 1) := by decide +kernel
theorem dX10_forgot_33 : decode cX10_forgot 33 = .ok (.aload_n 0, 1) := by decide +kernel
theorem dX10_forgot_34 : decode cX10_forgot 34 = .ok (.invokevirtual 188, 3) := by decide +kernel
theorem dX10_forgot_37 : decode cX10_forgot 37 = .ok (.iconst 0, 1) := by decide +kernel
theorem dX10_forgot_38 : decode cX10_forgot 38 = .ok (.istore_n 2, 1) := by decide +kernel
theorem dX10_forgot_39 : decode cX10_forgot 39 = .ok (.iload_n 2, 1) := by decide +kernel
theorem dX10_forgot_40 : decode cX10_forgot 40 = .ok (.bipush 60, 2) := by decide +kernel
theorem dX10_forgot_42 : decode cX10_forgot 42 = .ok (.if_icmp .ge 22, 3) := by decide +kernel
theorem dX10_forgot_45 : decode cX10_forgot 45 = .ok (.aload_n 0, 1) := by decide +kernel
theorem dX10_forgot_46 : decode cX10_forgot 46 = .ok (.iload_n 1, 1) := by decide +kernel
theorem dX10_forgot_47 : decode cX10_forgot 47 = .ok (.invokevirtual 85, 3) := by decide +kernel
theorem dX10_forgot_50 : decode cX10_forgot 50 = .ok (.ifCond .eq 14, 3) := by decide +kernel
theorem dX10_forgot_53 : decode cX10_forgot 53 = .ok (.aload_n 0, 1) := by decide +kernel
theorem dX10_forgot_54 : decode cX10_forgot 54 = .ok (.invokevirtual 176, 3) := by decide +kernel
theorem dX10_forgot_57 : decode cX10_forgot 57 = .ok (.istore_n 3, 1) := by decide +kernel
theorem dX10_forgot_58 : decode cX10_forgot 58 = .ok (.iinc 2 1, 3) := by decide +kernel
theorem dX10_forgot_61 : decode cX10_forgot 61 = .ok (.goto (-22), 3) := by decide +kernel
theorem dX10_forgot_64 : decode cX10_forgot 64 = .ok (.aload_n 0, 1) := by decide +kernel
theorem dX10_forgot_65 : decode cX10_forgot 65 = .ok (.iload_n 1, 1) := by decide +kernel
theorem dX10_forgot_66 : decode cX10_forgot 66 = .ok (.invokevirtual 85, 3) := by decide +kernel
theorem dX10_forgot_69 : decode cX10_forgot 69 = .ok (.ifCond .ne 7, 3) := by decide +kernel
theorem dX10_forgot_72 : decode cX10_forgot 72 = .ok (.iconst 1, 1) := by decide +kernel
theorem dX10_forgot_73 : decode cX10_forgot 73 = .ok (.goto 4, 3) := by decide +kernel
theorem dX10_forgot_76 : decode cX10_forgot 76 = .ok (.iconst 0, 1) := by decide +kernel
theorem dX10_forgot_77 : decode cX10_forgot 77 = .ok (.istore_n 3, 1) := by decide +kernel
theorem dX10_forgot_78 : decode cX10_forgot 78 = .ok (.aload_n 0, 1) := by decide +kernel
theorem dX10_forgot_79 : decode cX10_forgot 79 = .ok (.invokevirtual 194, 3) := by decide +kernel
theorem dX10_forgot_82 : decode cX10_forgot 82 = .ok (.iload_n 3, 1) := by decide +kernel
theorem dX10_forgot_83 : decode cX10_forgot 83 = .ok (.ifCond .eq 7, 3) := by decide +kernel
theorem dX10_forgot_86 : decode cX10_forgot 86 = .ok (.iload_n 2, 1) := by decide +kernel
theorem dX10_forgot_87 : decode cX10_forgot 87 = .ok (.goto 9, 3) := by decide +kernel
theorem dX10_forgot_90 : decode cX10_forgot 90 = .ok (.aload_n 0, 1) := by decide +kernel
theorem dX10_forgot_91 : decode cX10_forgot 91 = .ok (.ldc 132, 2) := by decide +kernel
theorem dX10_forgot_93 : decode cX10_forgot 93 = .ok (.invokevirtual 67, 3) := by decide +kernel
theorem dX10_forgot_96 : decode cX10_forgot 96 = .ok (.ireturn, 1) := by decide +kernel
theorem dX10_useless_0 : decode cX10_useless 0 = .ok (.iload_n 1, 1) := by decide +kernel
theorem dX10_useless_1 : decode cX10_useless 1 = .ok (.i2l, 1) := by decide +kernel
theorem dX10_useless_2 : decode cX10_useless 2 = .ok (.lconst 1, 1) := by decide +kernel
theorem dX10_useless_3 : decode cX10_useless 3 = .ok (.ldc2_w 57, 3) := by decide +kernel
theorem dX10_useless_6 : decode cX10_useless 6 = .ok (.invokestatic 45, 3) := by decide +kernel
theorem dX10_useless_9 : decode cX10_useless 9 = .ok (.ifCond .ne 10, 3) := by decide +kernel
theorem dX10_useless_12 : decode cX10_useless 12 = .ok (.aload_n 0, 1) := by decide +kernel
theorem dX10_useless_13 : decode cX10_useless 13 = .ok (.ldc 44, 2) := by decide +kernel
theorem dX10_useless_15 : decode cX10_useless 15 = .ok (.invokevirtual 67, 3) := by decide +kernel
theorem dX10_useless_18 : decode cX10_useless 18 = .ok (.ireturn, 1) := by decide +kernel
theorem dX10_useless_19 : decode cX10_useless 19 = .ok (.aload_n 0, 1) := by decide +kernel
theorem dX10_useless_20 : decode cX10_useless 20 = .ok (.iload_n 1, 1) := by decide +kernel
theorem dX10_useless_21 : decode cX10_useless 21 = .ok (.invokevirtual 181, 3) := by decide +kernel
theorem dX10_useless_24 : decode cX10_useless 24 = .ok (.ifCond .eq 10, 3) := by decide +kernel
theorem dX10_useless_27 : decode cX10_useless 27 = .ok (.aload_n 0, 1) := by decide +kernel
theorem dX10_useless_28 : decode cX10_useless 28 = .ok (.ldc 184, 2) := by decide +kernel
theorem dX10_useless_30 : decode cX10_useless 30 = .ok (.invokevirtual 67, 3) := by decide +kernel
theorem dX10_useless_33 : decode cX10_useless 33 = .ok (.ireturn, 1) := by decide +kernel
theorem dX10_useless_34 : decode cX10_useless 34 = .ok (.aload_n 0, 1) := by decide +kernel
theorem dX10_useless_35 : decode cX10_useless 35 = .ok (.invokevirtual 188, 3) := by decide +kernel
theorem dX10_useless_38 : decode cX10_useless 38 = .ok (.aload_n 0, 1) := by decide +kernel
theorem dX10_useless_39 : decode cX10_useless 39 = .ok (.iload_n 1, 1) := by decide +kernel
theorem dX10_useless_40 : decode cX10_useless 40 = .ok (.invokevirtual 185, 3) := by decide +kernel
theorem dX10_useless_43 : decode cX10_useless 43 = .ok (.istore_n 2, 1) := by decide +kernel
theorem dX10_useless_44 : decode cX10_useless 44 = .ok (.aload_n 0, 1) := by decide +kernel
theorem dX10_useless_45 : decode cX10_useless 45 = .ok (.invokevirtual 194, 3) := by decide +kernel
theorem dX10_useless_48 : decode cX10_useless 48 = .ok (.iconst 1, 1) := by decide +kernel
theorem dX10_useless_49 : decode cX10_useless 49 = .ok (.aload_n 0, 1) := by decide +kernel
theorem dX10_useless_50 : decode cX10_useless 50 = .ok (.getfield 7, 3) := by decide +kernel
theorem dX10_useless_53 : decode cX10_useless 53 = .ok (.iconst 0, 1) := by decide +kernel
theorem dX10_useless_54 : decode cX10_useless 54 = .ok (.iaload, 1) := by decide +kernel
theorem dX10_useless_55 : decode cX10_useless 55 = .ok (.ishl, 1) := by decide +kernel
theorem dX10_useless_56 : decode cX10_useless 56 = .ok (.iconst 1, 1) := by decide +kernel
theorem dX10_useless_57 : decode cX10_useless 57 = .ok (.isub, 1) := by decide +kernel
theorem dX10_useless_58 : decode cX10_useless 58 = .ok (.iload_n 2, 1) := by decide +kernel
theorem dX10_useless_59 : decode cX10_useless 59 = .ok (.iconst (-1), 1) := by decide +kernel
theorem dX10_useless_60 : decode cX10_useless 60 = .ok (.ixor, 1) := by decide +kernel
theorem dX10_useless_61 : decode cX10_useless 61 = .ok (.iand, 1) := by decide +kernel
theorem dX10_useless_62 : decode cX10_useless 62 = .ok (.ireturn, 1) := by decide +kernel
theorem dX10_scoreOn_0 : decode cX10_scoreOn 0 = .ok (.aload_n 0, 1) := by decide +kernel
theorem dX10_scoreOn_1 : decode cX10_scoreOn 1 = .ok (.iload_n 1, 1) := by decide +kernel
theorem dX10_scoreOn_2 : decode cX10_scoreOn 2 = .ok (.invokevirtual 185, 3) := by decide +kernel
theorem dX10_scoreOn_5 : decode cX10_scoreOn 5 = .ok (.istore_n 2, 1) := by decide +kernel
theorem dX10_scoreOn_6 : decode cX10_scoreOn 6 = .ok (.aload_n 0, 1) := by decide +kernel
theorem dX10_scoreOn_7 : decode cX10_scoreOn 7 = .ok (.getfield 7, 3) := by decide +kernel
theorem dX10_scoreOn_10 : decode cX10_scoreOn 10 = .ok (.iconst 4, 1) := by decide +kernel
theorem dX10_scoreOn_11 : decode cX10_scoreOn 11 = .ok (.iaload, 1) := by decide +kernel
theorem dX10_scoreOn_12 : decode cX10_scoreOn 12 = .ok (.istore_n 3, 1) := by decide +kernel
theorem dX10_scoreOn_13 : decode cX10_scoreOn 13 = .ok (.aload_n 0, 1) := by decide +kernel
theorem dX10_scoreOn_14 : decode cX10_scoreOn 14 = .ok (.invokevirtual 194, 3) := by decide +kernel
theorem dX10_scoreOn_17 : decode cX10_scoreOn 17 = .ok (.iload_n 3, 1) := by decide +kernel
theorem dX10_scoreOn_18 : decode cX10_scoreOn 18 = .ok (.ireturn, 1) := by decide +kernel
theorem dX10_tonight_0 : decode cX10_tonight 0 = .ok (.iload_n 1, 1) := by decide +kernel
theorem dX10_tonight_1 : decode cX10_tonight 1 = .ok (.i2l, 1) := by decide +kernel
theorem dX10_tonight_2 : decode cX10_tonight 2 = .ok (.lconst 1, 1) := by decide +kernel
theorem dX10_tonight_3 : decode cX10_tonight 3 = .ok (.ldc2_w 57, 3) := by decide +kernel
theorem dX10_tonight_6 : decode cX10_tonight 6 = .ok (.invokestatic 45, 3) := by decide +kernel
theorem dX10_tonight_9 : decode cX10_tonight 9 = .ok (.ifCond .ne 10, 3) := by decide +kernel
theorem dX10_tonight_12 : decode cX10_tonight 12 = .ok (.aload_n 0, 1) := by decide +kernel
theorem dX10_tonight_13 : decode cX10_tonight 13 = .ok (.ldc 44, 2) := by decide +kernel
theorem dX10_tonight_15 : decode cX10_tonight 15 = .ok (.invokevirtual 67, 3) := by decide +kernel
theorem dX10_tonight_18 : decode cX10_tonight 18 = .ok (.ireturn, 1) := by decide +kernel
theorem dX10_tonight_19 : decode cX10_tonight 19 = .ok (.aload_n 0, 1) := by decide +kernel
theorem dX10_tonight_20 : decode cX10_tonight 20 = .ok (.iload_n 1, 1) := by decide +kernel
theorem dX10_tonight_21 : decode cX10_tonight 21 = .ok (.invokevirtual 181, 3) := by decide +kernel
theorem dX10_tonight_24 : decode cX10_tonight 24 = .ok (.ifCond .eq 10, 3) := by decide +kernel
theorem dX10_tonight_27 : decode cX10_tonight 27 = .ok (.aload_n 0, 1) := by decide +kernel
theorem dX10_tonight_28 : decode cX10_tonight 28 = .ok (.ldc 184, 2) := by decide +kernel
theorem dX10_tonight_30 : decode cX10_tonight 30 = .ok (.invokevirtual 67, 3) := by decide +kernel
theorem dX10_tonight_33 : decode cX10_tonight 33 = .ok (.ireturn, 1) := by decide +kernel
theorem dX10_tonight_34 : decode cX10_tonight 34 = .ok (.aload_n 0, 1) := by decide +kernel
theorem dX10_tonight_35 : decode cX10_tonight 35 = .ok (.invokevirtual 188, 3) := by decide +kernel
theorem dX10_tonight_38 : decode cX10_tonight 38 = .ok (.iconst (-1), 1) := by decide +kernel
theorem dX10_tonight_39 : decode cX10_tonight 39 = .ok (.istore_n 2, 1) := by decide +kernel
theorem dX10_tonight_40 : decode cX10_tonight 40 = .ok (.aload_n 0, 1) := by decide +kernel
theorem dX10_tonight_41 : decode cX10_tonight 41 = .ok (.iload_n 1, 1) := by decide +kernel
theorem dX10_tonight_42 : decode cX10_tonight 42 = .ok (.invokevirtual 197, 3) := by decide +kernel
theorem dX10_tonight_45 : decode cX10_tonight 45 = .ok (.istore_n 3, 1) := by decide +kernel
theorem dX10_tonight_46 : decode cX10_tonight 46 = .ok (.iconst 0, 1) := by decide +kernel
theorem dX10_tonight_47 : decode cX10_tonight 47 = .ok (.istore 4, 2) := by decide +kernel
theorem dX10_tonight_49 : decode cX10_tonight 49 = .ok (.iload 4, 2) := by decide +kernel
theorem dX10_tonight_51 : decode cX10_tonight 51 = .ok (.aload_n 0, 1) := by decide +kernel
theorem dX10_tonight_52 : decode cX10_tonight 52 = .ok (.getfield 7, 3) := by decide +kernel
theorem dX10_tonight_55 : decode cX10_tonight 55 = .ok (.iconst 0, 1) := by decide +kernel
theorem dX10_tonight_56 : decode cX10_tonight 56 = .ok (.iaload, 1) := by decide +kernel
theorem dX10_tonight_57 : decode cX10_tonight 57 = .ok (.if_icmp .ge 55, 3) := by decide +kernel
theorem dX10_tonight_60 : decode cX10_tonight 60 = .ok (.aload_n 0, 1) := by decide +kernel
theorem dX10_tonight_61 : decode cX10_tonight 61 = .ok (.iload 4, 2) := by decide +kernel
theorem dX10_tonight_63 : decode cX10_tonight 63 = .ok (.aload_n 0, 1) := by decide +kernel
theorem dX10_tonight_64 : decode cX10_tonight 64 = .ok (.iload 4, 2) := by decide +kernel
theorem dX10_tonight_66 : decode cX10_tonight 66 = .ok (.iconst 2, 1) := by decide +kernel
theorem dX10_tonight_67 : decode cX10_tonight 67 = .ok (.invokevirtual 76, 3) := by decide +kernel
theorem dX10_tonight_70 : decode cX10_tonight 70 = .ok (.invokevirtual 165, 3) := by decide +kernel
theorem dX10_tonight_73 : decode cX10_tonight 73 = .ok (.aload_n 0, 1) := by decide +kernel
theorem dX10_tonight_74 : decode cX10_tonight 74 = .ok (.iload_n 1, 1) := by decide +kernel
theorem dX10_tonight_75 : decode cX10_tonight 75 = .ok (.invokevirtual 197, 3) := by decide +kernel
theorem dX10_tonight_78 : decode cX10_tonight 78 = .ok (.istore 5, 2) := by decide +kernel
theorem dX10_tonight_80 : decode cX10_tonight 80 = .ok (.iload 5, 2) := by decide +kernel
theorem dX10_tonight_82 : decode cX10_tonight 82 = .ok (.iload_n 3, 1) := by decide +kernel
theorem dX10_tonight_83 : decode cX10_tonight 83 = .ok (.if_icmp .le 8, 3) := by decide +kernel
theorem dX10_tonight_86 : decode cX10_tonight 86 = .ok (.iload 4, 2) := by decide +kernel
theorem dX10_tonight_88 : decode cX10_tonight 88 = .ok (.goto 4, 3) := by decide +kernel
theorem dX10_tonight_91 : decode cX10_tonight 91 = .ok (.iload_n 2, 1) := by decide +kernel
theorem dX10_tonight_92 : decode cX10_tonight 92 = .ok (.istore_n 2, 1) := by decide +kernel
theorem dX10_tonight_93 : decode cX10_tonight 93 = .ok (.iload 5, 2) := by decide +kernel
theorem dX10_tonight_95 : decode cX10_tonight 95 = .ok (.iload_n 3, 1) := by decide +kernel
theorem dX10_tonight_96 : decode cX10_tonight 96 = .ok (.if_icmp .le 8, 3) := by decide +kernel
theorem dX10_tonight_99 : decode cX10_tonight 99 = .ok (.iload 5, 2) := by decide +kernel
theorem dX10_tonight_101 : decode cX10_tonight 101 = .ok (.goto 4, 3) := by decide +kernel
theorem dX10_tonight_104 : decode cX10_tonight 104 = .ok (.iload_n 3, 1) := by decide +kernel
theorem dX10_tonight_105 : decode cX10_tonight 105 = .ok (.istore_n 3, 1) := by decide +kernel
theorem dX10_tonight_106 : decode cX10_tonight 106 = .ok (.iinc 4 1, 3) := by decide +kernel
theorem dX10_tonight_109 : decode cX10_tonight 109 = .ok (.goto (-60), 3) := by decide +kernel
theorem dX10_tonight_112 : decode cX10_tonight 112 = .ok (.iload_n 2, 1) := by decide +kernel
theorem dX10_tonight_113 : decode cX10_tonight 113 = .ok (.ifCond .ge 12, 3) := by decide +kernel
theorem dX10_tonight_116 : decode cX10_tonight 116 = .ok (.aload_n 0, 1) := by decide +kernel
theorem dX10_tonight_117 : decode cX10_tonight 117 = .ok (.ldc 132, 2) := by decide +kernel
theorem dX10_tonight_119 : decode cX10_tonight 119 = .ok (.invokevirtual 67, 3) := by decide +kernel
theorem dX10_tonight_122 : decode cX10_tonight 122 = .ok (.goto 4, 3) := by decide +kernel
theorem dX10_tonight_125 : decode cX10_tonight 125 = .ok (.iload_n 2, 1) := by decide +kernel
theorem dX10_tonight_126 : decode cX10_tonight 126 = .ok (.ireturn, 1) := by decide +kernel
theorem dX10_goesOn_0 : decode cX10_goesOn 0 = .ok (.iload_n 1, 1) := by decide +kernel
theorem dX10_goesOn_1 : decode cX10_goesOn 1 = .ok (.iconst 2, 1) := by decide +kernel
theorem dX10_goesOn_2 : decode cX10_goesOn 2 = .ok (.isub, 1) := by decide +kernel
theorem dX10_goesOn_3 : decode cX10_goesOn 3 = .ok (.istore_n 2, 1) := by decide +kernel
theorem dX10_goesOn_4 : decode cX10_goesOn 4 = .ok (.iload_n 2, 1) := by decide +kernel
theorem dX10_goesOn_5 : decode cX10_goesOn 5 = .ok (.ifCond .lt 26, 3) := by decide +kernel
theorem dX10_goesOn_8 : decode cX10_goesOn 8 = .ok (.aload_n 0, 1) := by decide +kernel
theorem dX10_goesOn_9 : decode cX10_goesOn 9 = .ok (.getfield 22, 3) := by decide +kernel
theorem dX10_goesOn_12 : decode cX10_goesOn 12 = .ok (.iload_n 2, 1) := by decide +kernel
theorem dX10_goesOn_13 : decode cX10_goesOn 13 = .ok (.iaload, 1) := by decide +kernel
theorem dX10_goesOn_14 : decode cX10_goesOn 14 = .ok (.aload_n 0, 1) := by decide +kernel
theorem dX10_goesOn_15 : decode cX10_goesOn 15 = .ok (.getfield 22, 3) := by decide +kernel
theorem dX10_goesOn_18 : decode cX10_goesOn 18 = .ok (.iload_n 2, 1) := by decide +kernel
theorem dX10_goesOn_19 : decode cX10_goesOn 19 = .ok (.iconst 1, 1) := by decide +kernel
theorem dX10_goesOn_20 : decode cX10_goesOn 20 = .ok (.iadd, 1) := by decide +kernel
theorem dX10_goesOn_21 : decode cX10_goesOn 21 = .ok (.iaload, 1) := by decide +kernel
theorem dX10_goesOn_22 : decode cX10_goesOn 22 = .ok (.if_icmp .le 9, 3) := by decide +kernel
theorem dX10_goesOn_25 : decode cX10_goesOn 25 = .ok (.iinc 2 (-1), 3) := by decide +kernel
theorem dX10_goesOn_28 : decode cX10_goesOn 28 = .ok (.goto (-24), 3) := by decide +kernel
theorem dX10_goesOn_31 : decode cX10_goesOn 31 = .ok (.iload_n 2, 1) := by decide +kernel
theorem dX10_goesOn_32 : decode cX10_goesOn 32 = .ok (.ifCond .ge 5, 3) := by decide +kernel
theorem dX10_goesOn_35 : decode cX10_goesOn 35 = .ok (.iconst 0, 1) := by decide +kernel
theorem dX10_goesOn_36 : decode cX10_goesOn 36 = .ok (.ireturn, 1) := by decide +kernel
theorem dX10_goesOn_37 : decode cX10_goesOn 37 = .ok (.iload_n 1, 1) := by decide +kernel
theorem dX10_goesOn_38 : decode cX10_goesOn 38 = .ok (.iconst 1, 1) := by decide +kernel
theorem dX10_goesOn_39 : decode cX10_goesOn 39 = .ok (.isub, 1) := by decide +kernel
theorem dX10_goesOn_40 : decode cX10_goesOn 40 = .ok (.istore_n 3, 1) := by decide +kernel
theorem dX10_goesOn_41 : decode cX10_goesOn 41 = .ok (.aload_n 0, 1) := by decide +kernel
theorem dX10_goesOn_42 : decode cX10_goesOn 42 = .ok (.getfield 22, 3) := by decide +kernel
theorem dX10_goesOn_45 : decode cX10_goesOn 45 = .ok (.iload_n 3, 1) := by decide +kernel
theorem dX10_goesOn_46 : decode cX10_goesOn 46 = .ok (.iaload, 1) := by decide +kernel
theorem dX10_goesOn_47 : decode cX10_goesOn 47 = .ok (.aload_n 0, 1) := by decide +kernel
theorem dX10_goesOn_48 : decode cX10_goesOn 48 = .ok (.getfield 22, 3) := by decide +kernel
theorem dX10_goesOn_51 : decode cX10_goesOn 51 = .ok (.iload_n 2, 1) := by decide +kernel
theorem dX10_goesOn_52 : decode cX10_goesOn 52 = .ok (.iaload, 1) := by decide +kernel
theorem dX10_goesOn_53 : decode cX10_goesOn 53 = .ok (.if_icmp .ge 9, 3) := by decide +kernel
theorem dX10_goesOn_56 : decode cX10_goesOn 56 = .ok (.iinc 3 (-1), 3) := by decide +kernel
theorem dX10_goesOn_59 : decode cX10_goesOn 59 = .ok (.goto (-18), 3) := by decide +kernel
theorem dX10_goesOn_62 : decode cX10_goesOn 62 = .ok (.aload_n 0, 1) := by decide +kernel
theorem dX10_goesOn_63 : decode cX10_goesOn 63 = .ok (.iload_n 2, 1) := by decide +kernel
theorem dX10_goesOn_64 : decode cX10_goesOn 64 = .ok (.iload_n 3, 1) := by decide +kernel
theorem dX10_goesOn_65 : decode cX10_goesOn 65 = .ok (.invokevirtual 200, 3) := by decide +kernel
theorem dX10_goesOn_68 : decode cX10_goesOn 68 = .ok (.iload_n 2, 1) := by decide +kernel
theorem dX10_goesOn_69 : decode cX10_goesOn 69 = .ok (.iconst 1, 1) := by decide +kernel
theorem dX10_goesOn_70 : decode cX10_goesOn 70 = .ok (.iadd, 1) := by decide +kernel
theorem dX10_goesOn_71 : decode cX10_goesOn 71 = .ok (.istore 4, 2) := by decide +kernel
theorem dX10_goesOn_73 : decode cX10_goesOn 73 = .ok (.iload_n 1, 1) := by decide +kernel
theorem dX10_goesOn_74 : decode cX10_goesOn 74 = .ok (.iconst 1, 1) := by decide +kernel
theorem dX10_goesOn_75 : decode cX10_goesOn 75 = .ok (.isub, 1) := by decide +kernel
theorem dX10_goesOn_76 : decode cX10_goesOn 76 = .ok (.istore 5, 2) := by decide +kernel
theorem dX10_goesOn_78 : decode cX10_goesOn 78 = .ok (.iload 4, 2) := by decide +kernel
theorem dX10_goesOn_80 : decode cX10_goesOn 80 = .ok (.iload 5, 2) := by decide +kernel
theorem dX10_goesOn_82 : decode cX10_goesOn 82 = .ok (.if_icmp .ge 20, 3) := by decide +kernel
theorem dX10_goesOn_85 : decode cX10_goesOn 85 = .ok (.aload_n 0, 1) := by decide +kernel
theorem dX10_goesOn_86 : decode cX10_goesOn 86 = .ok (.iload 4, 2) := by decide +kernel
theorem dX10_goesOn_88 : decode cX10_goesOn 88 = .ok (.iload 5, 2) := by decide +kernel
theorem dX10_goesOn_90 : decode cX10_goesOn 90 = .ok (.invokevirtual 200, 3) := by decide +kernel
theorem dX10_goesOn_93 : decode cX10_goesOn 93 = .ok (.iinc 4 1, 3) := by decide +kernel
theorem dX10_goesOn_96 : decode cX10_goesOn 96 = .ok (.iinc 5 (-1), 3) := by decide +kernel
theorem dX10_goesOn_99 : decode cX10_goesOn 99 = .ok (.goto (-21), 3) := by decide +kernel
theorem dX10_goesOn_102 : decode cX10_goesOn 102 = .ok (.iconst 1, 1) := by decide +kernel
theorem dX10_goesOn_103 : decode cX10_goesOn 103 = .ok (.ireturn, 1) := by decide +kernel
theorem dX10_swaps_0 : decode cX10_swaps 0 = .ok (.aload_n 0, 1) := by decide +kernel
theorem dX10_swaps_1 : decode cX10_swaps 1 = .ok (.getfield 22, 3) := by decide +kernel
theorem dX10_swaps_4 : decode cX10_swaps 4 = .ok (.iload_n 1, 1) := by decide +kernel
theorem dX10_swaps_5 : decode cX10_swaps 5 = .ok (.iaload, 1) := by decide +kernel
theorem dX10_swaps_6 : decode cX10_swaps 6 = .ok (.istore_n 3, 1) := by decide +kernel
theorem dX10_swaps_7 : decode cX10_swaps 7 = .ok (.aload_n 0, 1) := by decide +kernel
theorem dX10_swaps_8 : decode cX10_swaps 8 = .ok (.getfield 22, 3) := by decide +kernel
theorem dX10_swaps_11 : decode cX10_swaps 11 = .ok (.iload_n 1, 1) := by decide +kernel
theorem dX10_swaps_12 : decode cX10_swaps 12 = .ok (.aload_n 0, 1) := by decide +kernel
theorem dX10_swaps_13 : decode cX10_swaps 13 = .ok (.getfield 22, 3) := by decide +kernel
theorem dX10_swaps_16 : decode cX10_swaps 16 = .ok (.iload_n 2, 1) := by decide +kernel
theorem dX10_swaps_17 : decode cX10_swaps 17 = .ok (.iaload, 1) := by decide +kernel
theorem dX10_swaps_18 : decode cX10_swaps 18 = .ok (.iastore, 1) := by decide +kernel
theorem dX10_swaps_19 : decode cX10_swaps 19 = .ok (.aload_n 0, 1) := by decide +kernel
theorem dX10_swaps_20 : decode cX10_swaps 20 = .ok (.getfield 22, 3) := by decide +kernel
theorem dX10_swaps_23 : decode cX10_swaps 23 = .ok (.iload_n 2, 1) := by decide +kernel
theorem dX10_swaps_24 : decode cX10_swaps 24 = .ok (.iload_n 3, 1) := by decide +kernel
theorem dX10_swaps_25 : decode cX10_swaps 25 = .ok (.iastore, 1) := by decide +kernel
theorem dX10_swaps_26 : decode cX10_swaps 26 = .ok (.return_, 1) := by decide +kernel
theorem dX10_triesRow_0 : decode cX10_triesRow 0 = .ok (.aload_n 0, 1) := by decide +kernel
theorem dX10_triesRow_1 : decode cX10_triesRow 1 = .ok (.getfield 7, 3) := by decide +kernel
theorem dX10_triesRow_4 : decode cX10_triesRow 4 = .ok (.iconst 5, 1) := by decide +kernel
theorem dX10_triesRow_5 : decode cX10_triesRow 5 = .ok (.iload_n 1, 1) := by decide +kernel
theorem dX10_triesRow_6 : decode cX10_triesRow 6 = .ok (.iastore, 1) := by decide +kernel
theorem dX10_triesRow_7 : decode cX10_triesRow 7 = .ok (.iconst 0, 1) := by decide +kernel
theorem dX10_triesRow_8 : decode cX10_triesRow 8 = .ok (.istore 5, 2) := by decide +kernel
theorem dX10_triesRow_10 : decode cX10_triesRow 10 = .ok (.iload 5, 2) := by decide +kernel
theorem dX10_triesRow_12 : decode cX10_triesRow 12 = .ok (.iload_n 1, 1) := by decide +kernel
theorem dX10_triesRow_13 : decode cX10_triesRow 13 = .ok (.if_icmp .ge 27, 3) := by decide +kernel
theorem dX10_triesRow_16 : decode cX10_triesRow 16 = .ok (.aload_n 0, 1) := by decide +kernel
theorem dX10_triesRow_17 : decode cX10_triesRow 17 = .ok (.getfield 7, 3) := by decide +kernel
theorem dX10_triesRow_20 : decode cX10_triesRow 20 = .ok (.sipush 138, 3) := by decide +kernel
theorem dX10_triesRow_23 : decode cX10_triesRow 23 = .ok (.iload 5, 2) := by decide +kernel
theorem dX10_triesRow_25 : decode cX10_triesRow 25 = .ok (.iadd, 1) := by decide +kernel
theorem dX10_triesRow_26 : decode cX10_triesRow 26 = .ok (.aload_n 0, 1) := by decide +kernel
theorem dX10_triesRow_27 : decode cX10_triesRow 27 = .ok (.getfield 22, 3) := by decide +kernel
theorem dX10_triesRow_30 : decode cX10_triesRow 30 = .ok (.iload 5, 2) := by decide +kernel
theorem dX10_triesRow_32 : decode cX10_triesRow 32 = .ok (.iaload, 1) := by decide +kernel
theorem dX10_triesRow_33 : decode cX10_triesRow 33 = .ok (.iastore, 1) := by decide +kernel
theorem dX10_triesRow_34 : decode cX10_triesRow 34 = .ok (.iinc 5 1, 3) := by decide +kernel
theorem dX10_triesRow_37 : decode cX10_triesRow 37 = .ok (.goto (-27), 3) := by decide +kernel
theorem dX10_triesRow_40 : decode cX10_triesRow 40 = .ok (.aload_n 0, 1) := by decide +kernel
theorem dX10_triesRow_41 : decode cX10_triesRow 41 = .ok (.iload_n 2, 1) := by decide +kernel
theorem dX10_triesRow_42 : decode cX10_triesRow 42 = .ok (.invokevirtual 169, 3) := by decide +kernel
theorem dX10_triesRow_45 : decode cX10_triesRow 45 = .ok (.istore 5, 2) := by decide +kernel
theorem dX10_triesRow_47 : decode cX10_triesRow 47 = .ok (.aload_n 0, 1) := by decide +kernel
theorem dX10_triesRow_48 : decode cX10_triesRow 48 = .ok (.iload_n 3, 1) := by decide +kernel
theorem dX10_triesRow_49 : decode cX10_triesRow 49 = .ok (.invokevirtual 197, 3) := by decide +kernel
theorem dX10_triesRow_52 : decode cX10_triesRow 52 = .ok (.istore 6, 2) := by decide +kernel
theorem dX10_triesRow_54 : decode cX10_triesRow 54 = .ok (.iload 4, 2) := by decide +kernel
theorem dX10_triesRow_56 : decode cX10_triesRow 56 = .ok (.ifCond .ne 12, 3) := by decide +kernel
theorem dX10_triesRow_59 : decode cX10_triesRow 59 = .ok (.iload 6, 2) := by decide +kernel
theorem dX10_triesRow_61 : decode cX10_triesRow 61 = .ok (.aload_n 0, 1) := by decide +kernel
theorem dX10_triesRow_62 : decode cX10_triesRow 62 = .ok (.getfield 203, 3) := by decide +kernel
theorem dX10_triesRow_65 : decode cX10_triesRow 65 = .ok (.if_icmp .le 38, 3) := by decide +kernel
theorem dX10_triesRow_68 : decode cX10_triesRow 68 = .ok (.aload_n 0, 1) := by decide +kernel
theorem dX10_triesRow_69 : decode cX10_triesRow 69 = .ok (.iload 6, 2) := by decide +kernel
theorem dX10_triesRow_71 : decode cX10_triesRow 71 = .ok (.putfield 203, 3) := by decide +kernel
theorem dX10_triesRow_74 : decode cX10_triesRow 74 = .ok (.iconst 0, 1) := by decide +kernel
theorem dX10_triesRow_75 : decode cX10_triesRow 75 = .ok (.istore 7, 2) := by decide +kernel
theorem dX10_triesRow_77 : decode cX10_triesRow 77 = .ok (.iload 7, 2) := by decide +kernel
theorem dX10_triesRow_79 : decode cX10_triesRow 79 = .ok (.iload_n 1, 1) := by decide +kernel
theorem dX10_triesRow_80 : decode cX10_triesRow 80 = .ok (.if_icmp .ge 23, 3) := by decide +kernel
theorem dX10_triesRow_83 : decode cX10_triesRow 83 = .ok (.aload_n 0, 1) := by decide +kernel
theorem dX10_triesRow_84 : decode cX10_triesRow 84 = .ok (.getfield 25, 3) := by decide +kernel
theorem dX10_triesRow_87 : decode cX10_triesRow 87 = .ok (.iload 7, 2) := by decide +kernel
theorem dX10_triesRow_89 : decode cX10_triesRow 89 = .ok (.aload_n 0, 1) := by decide +kernel
theorem dX10_triesRow_90 : decode cX10_triesRow 90 = .ok (.getfield 22, 3) := by decide +kernel
theorem dX10_triesRow_93 : decode cX10_triesRow 93 = .ok (.iload 7, 2) := by decide +kernel
theorem dX10_triesRow_95 : decode cX10_triesRow 95 = .ok (.iaload, 1) := by decide +kernel
theorem dX10_triesRow_96 : decode cX10_triesRow 96 = .ok (.iastore, 1) := by decide +kernel
theorem dX10_triesRow_97 : decode cX10_triesRow 97 = .ok (.iinc 7 1, 3) := by decide +kernel
theorem dX10_triesRow_100 : decode cX10_triesRow 100 = .ok (.goto (-23), 3) := by decide +kernel
theorem dX10_triesRow_103 : decode cX10_triesRow 103 = .ok (.return_, 1) := by decide +kernel
theorem dX10_plan_0 : decode cX10_plan 0 = .ok (.aload_n 0, 1) := by decide +kernel
theorem dX10_plan_1 : decode cX10_plan 1 = .ok (.iload_n 1, 1) := by decide +kernel
theorem dX10_plan_2 : decode cX10_plan 2 = .ok (.invokevirtual 109, 3) := by decide +kernel
theorem dX10_plan_5 : decode cX10_plan 5 = .ok (.ifCond .eq 42, 3) := by decide +kernel
theorem dX10_plan_8 : decode cX10_plan 8 = .ok (.iload_n 2, 1) := by decide +kernel
theorem dX10_plan_9 : decode cX10_plan 9 = .ok (.i2l, 1) := by decide +kernel
theorem dX10_plan_10 : decode cX10_plan 10 = .ok (.lconst 0, 1) := by decide +kernel
theorem dX10_plan_11 : decode cX10_plan 11 = .ok (.ldc2_w 163, 3) := by decide +kernel
theorem dX10_plan_14 : decode cX10_plan 14 = .ok (.invokestatic 45, 3) := by decide +kernel
theorem dX10_plan_17 : decode cX10_plan 17 = .ok (.ifCond .eq 30, 3) := by decide +kernel
theorem dX10_plan_20 : decode cX10_plan 20 = .ok (.iload_n 3, 1) := by decide +kernel
theorem dX10_plan_21 : decode cX10_plan 21 = .ok (.i2l, 1) := by decide +kernel
theorem dX10_plan_22 : decode cX10_plan 22 = .ok (.lconst 1, 1) := by decide +kernel
theorem dX10_plan_23 : decode cX10_plan 23 = .ok (.ldc2_w 57, 3) := by decide +kernel
theorem dX10_plan_26 : decode cX10_plan 26 = .ok (.invokestatic 45, 3) := by decide +kernel
theorem dX10_plan_29 : decode cX10_plan 29 = .ok (.ifCond .eq 18, 3) := by decide +kernel
theorem dX10_plan_32 : decode cX10_plan 32 = .ok (.iload 4, 2) := by decide +kernel
theorem dX10_plan_34 : decode cX10_plan 34 = .ok (.i2l, 1) := by decide +kernel
theorem dX10_plan_35 : decode cX10_plan 35 = .ok (.ldc2_w 206, 3) := by decide +kernel
theorem dX10_plan_38 : decode cX10_plan 38 = .ok (.ldc2_w 91, 3) := by decide +kernel
theorem dX10_plan_41 : decode cX10_plan 41 = .ok (.invokestatic 45, 3) := by decide +kernel
theorem dX10_plan_44 : decode cX10_plan 44 = .ok (.ifCond .ne 10, 3) := by decide +kernel
theorem dX10_plan_47 : decode cX10_plan 47 = .ok (.aload_n 0, 1) := by decide +kernel
theorem dX10_plan_48 : decode cX10_plan 48 = .ok (.ldc 44, 2) := by decide +kernel
theorem dX10_plan_50 : decode cX10_plan 50 = .ok (.invokevirtual 67, 3) := by decide +kernel
theorem dX10_plan_53 : decode cX10_plan 53 = .ok (.ireturn, 1) := by decide +kernel
theorem dX10_plan_54 : decode cX10_plan 54 = .ok (.iload_n 1, 1) := by decide +kernel
theorem dX10_plan_55 : decode cX10_plan 55 = .ok (.invokestatic 208, 3) := by decide +kernel
theorem dX10_plan_58 : decode cX10_plan 58 = .ok (.istore 5, 2) := by decide +kernel
theorem dX10_plan_60 : decode cX10_plan 60 = .ok (.iload 5, 2) := by decide +kernel
theorem dX10_plan_62 : decode cX10_plan 62 = .ok (.iconst 5, 1) := by decide +kernel
theorem dX10_plan_63 : decode cX10_plan 63 = .ok (.if_icmp .le 10, 3) := by decide +kernel
theorem dX10_plan_66 : decode cX10_plan 66 = .ok (.aload_n 0, 1) := by decide +kernel
theorem dX10_plan_67 : decode cX10_plan 67 = .ok (.ldc 211, 2) := by decide +kernel
theorem dX10_plan_69 : decode cX10_plan 69 = .ok (.invokevirtual 67, 3) := by decide +kernel
theorem dX10_plan_72 : decode cX10_plan 72 = .ok (.ireturn, 1) := by decide +kernel
theorem dX10_plan_73 : decode cX10_plan 73 = .ok (.aload_n 0, 1) := by decide +kernel
theorem dX10_plan_74 : decode cX10_plan 74 = .ok (.iload_n 3, 1) := by decide +kernel
theorem dX10_plan_75 : decode cX10_plan 75 = .ok (.invokevirtual 181, 3) := by decide +kernel
theorem dX10_plan_78 : decode cX10_plan 78 = .ok (.ifCond .eq 10, 3) := by decide +kernel
theorem dX10_plan_81 : decode cX10_plan 81 = .ok (.aload_n 0, 1) := by decide +kernel
theorem dX10_plan_82 : decode cX10_plan 82 = .ok (.ldc 184, 2) := by decide +kernel
theorem dX10_plan_84 : decode cX10_plan 84 = .ok (.invokevirtual 67, 3) := by decide +kernel
theorem dX10_plan_87 : decode cX10_plan 87 = .ok (.ireturn, 1) := by decide +kernel
theorem dX10_plan_88 : decode cX10_plan 88 = .ok (.iload 4, 2) := by decide +kernel
theorem dX10_plan_90 : decode cX10_plan 90 = .ok (.iload 5, 2) := by decide +kernel
theorem dX10_plan_92 : decode cX10_plan 92 = .ok (.if_icmp .lt 10, 3) := by decide +kernel
theorem dX10_plan_95 : decode cX10_plan 95 = .ok (.aload_n 0, 1) := by decide +kernel
theorem dX10_plan_96 : decode cX10_plan 96 = .ok (.ldc 132, 2) := by decide +kernel
theorem dX10_plan_98 : decode cX10_plan 98 = .ok (.invokevirtual 67, 3) := by decide +kernel
theorem dX10_plan_101 : decode cX10_plan 101 = .ok (.ireturn, 1) := by decide +kernel
theorem dX10_plan_102 : decode cX10_plan 102 = .ok (.iconst 0, 1) := by decide +kernel
theorem dX10_plan_103 : decode cX10_plan 103 = .ok (.istore 6, 2) := by decide +kernel
theorem dX10_plan_105 : decode cX10_plan 105 = .ok (.iconst 0, 1) := by decide +kernel
theorem dX10_plan_106 : decode cX10_plan 106 = .ok (.istore 7, 2) := by decide +kernel
theorem dX10_plan_108 : decode cX10_plan 108 = .ok (.iload 7, 2) := by decide +kernel
theorem dX10_plan_110 : decode cX10_plan 110 = .ok (.aload_n 0, 1) := by decide +kernel
theorem dX10_plan_111 : decode cX10_plan 111 = .ok (.getfield 7, 3) := by decide +kernel
theorem dX10_plan_114 : decode cX10_plan 114 = .ok (.iconst 0, 1) := by decide +kernel
theorem dX10_plan_115 : decode cX10_plan 115 = .ok (.iaload, 1) := by decide +kernel
theorem dX10_plan_116 : decode cX10_plan 116 = .ok (.if_icmp .ge 30, 3) := by decide +kernel
theorem dX10_plan_119 : decode cX10_plan 119 = .ok (.iload_n 1, 1) := by decide +kernel
theorem dX10_plan_120 : decode cX10_plan 120 = .ok (.iload 7, 2) := by decide +kernel
theorem dX10_plan_122 : decode cX10_plan 122 = .ok (.invokestatic 106, 3) := by decide +kernel
theorem dX10_plan_125 : decode cX10_plan 125 = .ok (.ifCond .eq 15, 3) := by decide +kernel
theorem dX10_plan_128 : decode cX10_plan 128 = .ok (.aload_n 0, 1) := by decide +kernel
theorem dX10_plan_129 : decode cX10_plan 129 = .ok (.getfield 22, 3) := by decide +kernel
theorem dX10_plan_132 : decode cX10_plan 132 = .ok (.iload 6, 2) := by decide +kernel
theorem dX10_plan_134 : decode cX10_plan 134 = .ok (.iload 7, 2) := by decide +kernel
theorem dX10_plan_136 : decode cX10_plan 136 = .ok (.iastore, 1) := by decide +kernel
theorem dX10_plan_137 : decode cX10_plan 137 = .ok (.iinc 6 1, 3) := by decide +kernel
theorem dX10_plan_140 : decode cX10_plan 140 = .ok (.iinc 7 1, 3) := by decide +kernel
theorem dX10_plan_143 : decode cX10_plan 143 = .ok (.goto (-35), 3) := by decide +kernel
theorem dX10_plan_146 : decode cX10_plan 146 = .ok (.aload_n 0, 1) := by decide +kernel
theorem dX10_plan_147 : decode cX10_plan 147 = .ok (.invokevirtual 188, 3) := by decide +kernel
theorem dX10_plan_150 : decode cX10_plan 150 = .ok (.aload_n 0, 1) := by decide +kernel
theorem dX10_plan_151 : decode cX10_plan 151 = .ok (.iload 5, 2) := by decide +kernel
theorem dX10_plan_153 : decode cX10_plan 153 = .ok (.iload_n 2, 1) := by decide +kernel
theorem dX10_plan_154 : decode cX10_plan 154 = .ok (.iload_n 3, 1) := by decide +kernel
theorem dX10_plan_155 : decode cX10_plan 155 = .ok (.iconst 1, 1) := by decide +kernel
theorem dX10_plan_156 : decode cX10_plan 156 = .ok (.invokevirtual 212, 3) := by decide +kernel
theorem dX10_plan_159 : decode cX10_plan 159 = .ok (.aload_n 0, 1) := by decide +kernel
theorem dX10_plan_160 : decode cX10_plan 160 = .ok (.iload 5, 2) := by decide +kernel
theorem dX10_plan_162 : decode cX10_plan 162 = .ok (.invokevirtual 216, 3) := by decide +kernel
theorem dX10_plan_165 : decode cX10_plan 165 = .ok (.ifCond .eq 15, 3) := by decide +kernel
theorem dX10_plan_168 : decode cX10_plan 168 = .ok (.aload_n 0, 1) := by decide +kernel
theorem dX10_plan_169 : decode cX10_plan 169 = .ok (.iload 5, 2) := by decide +kernel
theorem dX10_plan_171 : decode cX10_plan 171 = .ok (.iload_n 2, 1) := by decide +kernel
theorem dX10_plan_172 : decode cX10_plan 172 = .ok (.iload_n 3, 1) := by decide +kernel
theorem dX10_plan_173 : decode cX10_plan 173 = .ok (.iconst 0, 1) := by decide +kernel
theorem dX10_plan_174 : decode cX10_plan 174 = .ok (.invokevirtual 212, 3) := by decide +kernel
theorem dX10_plan_177 : decode cX10_plan 177 = .ok (.goto (-18), 3) := by decide +kernel
theorem dX10_plan_180 : decode cX10_plan 180 = .ok (.iload 4, 2) := by decide +kernel
theorem dX10_plan_182 : decode cX10_plan 182 = .ok (.ifCond .ge 10, 3) := by decide +kernel
theorem dX10_plan_185 : decode cX10_plan 185 = .ok (.aload_n 0, 1) := by decide +kernel
theorem dX10_plan_186 : decode cX10_plan 186 = .ok (.getfield 203, 3) := by decide +kernel
theorem dX10_plan_189 : decode cX10_plan 189 = .ok (.goto 10, 3) := by decide +kernel
theorem dX10_plan_192 : decode cX10_plan 192 = .ok (.aload_n 0, 1) := by decide +kernel
theorem dX10_plan_193 : decode cX10_plan 193 = .ok (.getfield 25, 3) := by decide +kernel
theorem dX10_plan_196 : decode cX10_plan 196 = .ok (.iload 4, 2) := by decide +kernel
theorem dX10_plan_198 : decode cX10_plan 198 = .ok (.iaload, 1) := by decide +kernel
theorem dX10_plan_199 : decode cX10_plan 199 = .ok (.ireturn, 1) := by decide +kernel
theorem dX10_feed_0 : decode cX10_feed 0 = .ok (.iload_n 2, 1) := by decide +kernel
theorem dX10_feed_1 : decode cX10_feed 1 = .ok (.i2l, 1) := by decide +kernel
theorem dX10_feed_2 : decode cX10_feed 2 = .ok (.lconst 1, 1) := by decide +kernel
theorem dX10_feed_3 : decode cX10_feed 3 = .ok (.ldc2_w 91, 3) := by decide +kernel
theorem dX10_feed_6 : decode cX10_feed 6 = .ok (.invokestatic 45, 3) := by decide +kernel
theorem dX10_feed_9 : decode cX10_feed 9 = .ok (.ifCond .ne 10, 3) := by decide +kernel
theorem dX10_feed_12 : decode cX10_feed 12 = .ok (.aload_n 0, 1) := by decide +kernel
theorem dX10_feed_13 : decode cX10_feed 13 = .ok (.ldc 44, 2) := by decide +kernel
theorem dX10_feed_15 : decode cX10_feed 15 = .ok (.invokevirtual 67, 3) := by decide +kernel
theorem dX10_feed_18 : decode cX10_feed 18 = .ok (.ireturn, 1) := by decide +kernel
theorem dX10_feed_19 : decode cX10_feed 19 = .ok (.aload_n 0, 1) := by decide +kernel
theorem dX10_feed_20 : decode cX10_feed 20 = .ok (.getfield 219, 3) := by decide +kernel
theorem dX10_feed_23 : decode cX10_feed 23 = .ok (.iload_n 2, 1) := by decide +kernel
theorem dX10_feed_24 : decode cX10_feed 24 = .ok (.iadd, 1) := by decide +kernel
theorem dX10_feed_25 : decode cX10_feed 25 = .ok (.bipush 120, 2) := by decide +kernel
theorem dX10_feed_27 : decode cX10_feed 27 = .ok (.if_icmp .le 10, 3) := by decide +kernel
theorem dX10_feed_30 : decode cX10_feed 30 = .ok (.aload_n 0, 1) := by decide +kernel
theorem dX10_feed_31 : decode cX10_feed 31 = .ok (.ldc 71, 2) := by decide +kernel
theorem dX10_feed_33 : decode cX10_feed 33 = .ok (.invokevirtual 67, 3) := by decide +kernel
theorem dX10_feed_36 : decode cX10_feed 36 = .ok (.ireturn, 1) := by decide +kernel
theorem dX10_feed_37 : decode cX10_feed 37 = .ok (.iload_n 2, 1) := by decide +kernel
theorem dX10_feed_38 : decode cX10_feed 38 = .ok (.iconst 1, 1) := by decide +kernel
theorem dX10_feed_39 : decode cX10_feed 39 = .ok (.isub, 1) := by decide +kernel
theorem dX10_feed_40 : decode cX10_feed 40 = .ok (.istore_n 3, 1) := by decide +kernel
theorem dX10_feed_41 : decode cX10_feed 41 = .ok (.iload_n 3, 1) := by decide +kernel
theorem dX10_feed_42 : decode cX10_feed 42 = .ok (.ifCond .lt 38, 3) := by decide +kernel
theorem dX10_feed_45 : decode cX10_feed 45 = .ok (.aload_n 0, 1) := by decide +kernel
theorem dX10_feed_46 : decode cX10_feed 46 = .ok (.getfield 28, 3) := by decide +kernel
theorem dX10_feed_49 : decode cX10_feed 49 = .ok (.aload_n 0, 1) := by decide +kernel
theorem dX10_feed_50 : decode cX10_feed 50 = .ok (.getfield 219, 3) := by decide +kernel
theorem dX10_feed_53 : decode cX10_feed 53 = .ok (.iload_n 1, 1) := by decide +kernel
theorem dX10_feed_54 : decode cX10_feed 54 = .ok (.bipush 8, 2) := by decide +kernel
theorem dX10_feed_56 : decode cX10_feed 56 = .ok (.iload_n 3, 1) := by decide +kernel
theorem dX10_feed_57 : decode cX10_feed 57 = .ok (.imul, 1) := by decide +kernel
theorem dX10_feed_58 : decode cX10_feed 58 = .ok (.ishr, 1) := by decide +kernel
theorem dX10_feed_59 : decode cX10_feed 59 = .ok (.sipush 255, 3) := by decide +kernel
theorem dX10_feed_62 : decode cX10_feed 62 = .ok (.iand, 1) := by decide +kernel
theorem dX10_feed_63 : decode cX10_feed 63 = .ok (.iastore, 1) := by decide +kernel
theorem dX10_feed_64 : decode cX10_feed 64 = .ok (.aload_n 0, 1) := by decide +kernel
theorem dX10_feed_65 : decode cX10_feed 65 = .ok (.dup, 1) := by decide +kernel
theorem dX10_feed_66 : decode cX10_feed 66 = .ok (.getfield 219, 3) := by decide +kernel
theorem dX10_feed_69 : decode cX10_feed 69 = .ok (.iconst 1, 1) := by decide +kernel
theorem dX10_feed_70 : decode cX10_feed 70 = .ok (.iadd, 1) := by decide +kernel
theorem dX10_feed_71 : decode cX10_feed 71 = .ok (.putfield 219, 3) := by decide +kernel
theorem dX10_feed_74 : decode cX10_feed 74 = .ok (.iinc 3 (-1), 3) := by decide +kernel
theorem dX10_feed_77 : decode cX10_feed 77 = .ok (.goto (-36), 3) := by decide +kernel
theorem dX10_feed_80 : decode cX10_feed 80 = .ok (.aload_n 0, 1) := by decide +kernel
theorem dX10_feed_81 : decode cX10_feed 81 = .ok (.getfield 219, 3) := by decide +kernel
theorem dX10_feed_84 : decode cX10_feed 84 = .ok (.ireturn, 1) := by decide +kernel
theorem dX10_wipe_0 : decode cX10_wipe 0 = .ok (.aload_n 0, 1) := by decide +kernel
theorem dX10_wipe_1 : decode cX10_wipe 1 = .ok (.getfield 219, 3) := by decide +kernel
theorem dX10_wipe_4 : decode cX10_wipe 4 = .ok (.istore_n 1, 1) := by decide +kernel
theorem dX10_wipe_5 : decode cX10_wipe 5 = .ok (.aload_n 0, 1) := by decide +kernel
theorem dX10_wipe_6 : decode cX10_wipe 6 = .ok (.iconst 0, 1) := by decide +kernel
theorem dX10_wipe_7 : decode cX10_wipe 7 = .ok (.putfield 219, 3) := by decide +kernel
theorem dX10_wipe_10 : decode cX10_wipe 10 = .ok (.iload_n 1, 1) := by decide +kernel
theorem dX10_wipe_11 : decode cX10_wipe 11 = .ok (.ireturn, 1) := by decide +kernel
theorem dX10_byteAt_0 : decode cX10_byteAt 0 = .ok (.iload_n 1, 1) := by decide +kernel
theorem dX10_byteAt_1 : decode cX10_byteAt 1 = .ok (.aload_n 0, 1) := by decide +kernel
theorem dX10_byteAt_2 : decode cX10_byteAt 2 = .ok (.getfield 219, 3) := by decide +kernel
theorem dX10_byteAt_5 : decode cX10_byteAt 5 = .ok (.if_icmp .ge 12, 3) := by decide +kernel
theorem dX10_byteAt_8 : decode cX10_byteAt 8 = .ok (.aload_n 0, 1) := by decide +kernel
theorem dX10_byteAt_9 : decode cX10_byteAt 9 = .ok (.getfield 28, 3) := by decide +kernel
theorem dX10_byteAt_12 : decode cX10_byteAt 12 = .ok (.iload_n 1, 1) := by decide +kernel
theorem dX10_byteAt_13 : decode cX10_byteAt 13 = .ok (.iaload, 1) := by decide +kernel
theorem dX10_byteAt_14 : decode cX10_byteAt 14 = .ok (.goto 4, 3) := by decide +kernel
theorem dX10_byteAt_17 : decode cX10_byteAt 17 = .ok (.iconst (-1), 1) := by decide +kernel
theorem dX10_byteAt_18 : decode cX10_byteAt 18 = .ok (.ireturn, 1) := by decide +kernel
theorem dX10_isLetter_0 : decode cX10_isLetter 0 = .ok (.iload_n 0, 1) := by decide +kernel
theorem dX10_isLetter_1 : decode cX10_isLetter 1 = .ok (.i2l, 1) := by decide +kernel
theorem dX10_isLetter_2 : decode cX10_isLetter 2 = .ok (.ldc2_w 222, 3) := by decide +kernel
theorem dX10_isLetter_5 : decode cX10_isLetter 5 = .ok (.ldc2_w 224, 3) := by decide +kernel
theorem dX10_isLetter_8 : decode cX10_isLetter 8 = .ok (.invokestatic 45, 3) := by decide +kernel
theorem dX10_isLetter_11 : decode cX10_isLetter 11 = .ok (.ireturn, 1) := by decide +kernel
theorem dX10_isDigit_0 : decode cX10_isDigit 0 = .ok (.iload_n 0, 1) := by decide +kernel
theorem dX10_isDigit_1 : decode cX10_isDigit 1 = .ok (.i2l, 1) := by decide +kernel
theorem dX10_isDigit_2 : decode cX10_isDigit 2 = .ok (.ldc2_w 226, 3) := by decide +kernel
theorem dX10_isDigit_5 : decode cX10_isDigit 5 = .ok (.ldc2_w 228, 3) := by decide +kernel
theorem dX10_isDigit_8 : decode cX10_isDigit 8 = .ok (.invokestatic 45, 3) := by decide +kernel
theorem dX10_isDigit_11 : decode cX10_isDigit 11 = .ok (.ireturn, 1) := by decide +kernel
theorem dX10_token_0 : decode cX10_token 0 = .ok (.aload_n 0, 1) := by decide +kernel
theorem dX10_token_1 : decode cX10_token 1 = .ok (.aload_n 0, 1) := by decide +kernel
theorem dX10_token_2 : decode cX10_token 2 = .ok (.getfield 230, 3) := by decide +kernel
theorem dX10_token_5 : decode cX10_token 5 = .ok (.putfield 233, 3) := by decide +kernel
theorem dX10_token_8 : decode cX10_token 8 = .ok (.aload_n 0, 1) := by decide +kernel
theorem dX10_token_9 : decode cX10_token 9 = .ok (.aload_n 0, 1) := by decide +kernel
theorem dX10_token_10 : decode cX10_token 10 = .ok (.getfield 233, 3) := by decide +kernel
theorem dX10_token_13 : decode cX10_token 13 = .ok (.invokevirtual 236, 3) := by decide +kernel
theorem dX10_token_16 : decode cX10_token 16 = .ok (.bipush 32, 2) := by decide +kernel
theorem dX10_token_18 : decode cX10_token 18 = .ok (.if_icmp .ne 16, 3) := by decide +kernel
theorem dX10_token_21 : decode cX10_token 21 = .ok (.aload_n 0, 1) := by decide +kernel
theorem dX10_token_22 : decode cX10_token 22 = .ok (.dup, 1) := by decide +kernel
theorem dX10_token_23 : decode cX10_token 23 = .ok (.getfield 233, 3) := by decide +kernel
theorem dX10_token_26 : decode cX10_token 26 = .ok (.iconst 1, 1) := by decide +kernel
theorem dX10_token_27 : decode cX10_token 27 = .ok (.iadd, 1) := by decide +kernel
theorem dX10_token_28 : decode cX10_token 28 = .ok (.putfield 233, 3) := by decide +kernel
theorem dX10_token_31 : decode cX10_token 31 = .ok (.goto (-23), 3) := by decide +kernel
theorem dX10_token_34 : decode cX10_token 34 = .ok (.aload_n 0, 1) := by decide +kernel
theorem dX10_token_35 : decode cX10_token 35 = .ok (.aload_n 0, 1) := by decide +kernel
theorem dX10_token_36 : decode cX10_token 36 = .ok (.getfield 233, 3) := by decide +kernel
theorem dX10_token_39 : decode cX10_token 39 = .ok (.invokevirtual 236, 3) := by decide +kernel
theorem dX10_token_42 : decode cX10_token 42 = .ok (.invokestatic 239, 3) := by decide +kernel
theorem dX10_token_45 : decode cX10_token 45 = .ok (.istore_n 1, 1) := by decide +kernel
theorem dX10_token_46 : decode cX10_token 46 = .ok (.aload_n 0, 1) := by decide +kernel
theorem dX10_token_47 : decode cX10_token 47 = .ok (.aload_n 0, 1) := by decide +kernel
theorem dX10_token_48 : decode cX10_token 48 = .ok (.getfield 233, 3) := by decide +kernel
theorem dX10_token_51 : decode cX10_token 51 = .ok (.invokevirtual 236, 3) := by decide +kernel
theorem dX10_token_54 : decode cX10_token 54 = .ok (.invokestatic 242, 3) := by decide +kernel
theorem dX10_token_57 : decode cX10_token 57 = .ok (.istore_n 2, 1) := by decide +kernel
theorem dX10_token_58 : decode cX10_token 58 = .ok (.aload_n 0, 1) := by decide +kernel
theorem dX10_token_59 : decode cX10_token 59 = .ok (.aload_n 0, 1) := by decide +kernel
theorem dX10_token_60 : decode cX10_token 60 = .ok (.getfield 233, 3) := by decide +kernel
theorem dX10_token_63 : decode cX10_token 63 = .ok (.aload_n 0, 1) := by decide +kernel
theorem dX10_token_64 : decode cX10_token 64 = .ok (.getfield 219, 3) := by decide +kernel
theorem dX10_token_67 : decode cX10_token 67 = .ok (.if_icmp .ge 12, 3) := by decide +kernel
theorem dX10_token_70 : decode cX10_token 70 = .ok (.aload_n 0, 1) := by decide +kernel
theorem dX10_token_71 : decode cX10_token 71 = .ok (.getfield 233, 3) := by decide +kernel
theorem dX10_token_74 : decode cX10_token 74 = .ok (.iconst 1, 1) := by decide +kernel
theorem dX10_token_75 : decode cX10_token 75 = .ok (.iadd, 1) := by decide +kernel
theorem dX10_token_76 : decode cX10_token 76 = .ok (.goto 7, 3) := by decide +kernel
theorem dX10_token_79 : decode cX10_token 79 = .ok (.aload_n 0, 1) := by decide +kernel
theorem dX10_token_80 : decode cX10_token 80 = .ok (.getfield 233, 3) := by decide +kernel
theorem dX10_token_83 : decode cX10_token 83 = .ok (.putfield 230, 3) := by decide +kernel
theorem dX10_token_86 : decode cX10_token 86 = .ok (.iload_n 1, 1) := by decide +kernel
theorem dX10_token_87 : decode cX10_token 87 = .ok (.ifCond .eq 17, 3) := by decide +kernel
theorem dX10_token_90 : decode cX10_token 90 = .ok (.aload_n 0, 1) := by decide +kernel
theorem dX10_token_91 : decode cX10_token 91 = .ok (.aload_n 0, 1) := by decide +kernel
theorem dX10_token_92 : decode cX10_token 92 = .ok (.getfield 230, 3) := by decide +kernel
theorem dX10_token_95 : decode cX10_token 95 = .ok (.invokevirtual 236, 3) := by decide +kernel
theorem dX10_token_98 : decode cX10_token 98 = .ok (.invokestatic 239, 3) := by decide +kernel
theorem dX10_token_101 : decode cX10_token 101 = .ok (.ifCond .ne 21, 3) := by decide +kernel
theorem dX10_token_104 : decode cX10_token 104 = .ok (.iload_n 2, 1) := by decide +kernel
theorem dX10_token_105 : decode cX10_token 105 = .ok (.ifCond .eq 30, 3) := by decide +kernel
theorem dX10_token_108 : decode cX10_token 108 = .ok (.aload_n 0, 1) := by decide +kernel
theorem dX10_token_109 : decode cX10_token 109 = .ok (.aload_n 0, 1) := by decide +kernel
theorem dX10_token_110 : decode cX10_token 110 = .ok (.getfield 230, 3) := by decide +kernel
theorem dX10_token_113 : decode cX10_token 113 = .ok (.invokevirtual 236, 3) := by decide +kernel
theorem dX10_token_116 : decode cX10_token 116 = .ok (.invokestatic 242, 3) := by decide +kernel
theorem dX10_token_119 : decode cX10_token 119 = .ok (.ifCond .eq 16, 3) := by decide +kernel
theorem dX10_token_122 : decode cX10_token 122 = .ok (.aload_n 0, 1) := by decide +kernel
theorem dX10_token_123 : decode cX10_token 123 = .ok (.dup, 1) := by decide +kernel
theorem dX10_token_124 : decode cX10_token 124 = .ok (.getfield 230, 3) := by decide +kernel
theorem dX10_token_127 : decode cX10_token 127 = .ok (.iconst 1, 1) := by decide +kernel
theorem dX10_token_128 : decode cX10_token 128 = .ok (.iadd, 1) := by decide +kernel
theorem dX10_token_129 : decode cX10_token 129 = .ok (.putfield 230, 3) := by decide +kernel
theorem dX10_token_132 : decode cX10_token 132 = .ok (.goto (-46), 3) := by decide +kernel
theorem dX10_token_135 : decode cX10_token 135 = .ok (.return_, 1) := by decide +kernel
theorem dX10_needs_0 : decode cX10_needs 0 = .ok (.aload_n 0, 1) := by decide +kernel
theorem dX10_needs_1 : decode cX10_needs 1 = .ok (.aload_n 0, 1) := by decide +kernel
theorem dX10_needs_2 : decode cX10_needs 2 = .ok (.getfield 245, 3) := by decide +kernel
theorem dX10_needs_5 : decode cX10_needs 5 = .ok (.ifCond .ne 7, 3) := by decide +kernel
theorem dX10_needs_8 : decode cX10_needs 8 = .ok (.iload_n 1, 1) := by decide +kernel
theorem dX10_needs_9 : decode cX10_needs 9 = .ok (.ifCond .ne 7, 3) := by decide +kernel
theorem dX10_needs_12 : decode cX10_needs 12 = .ok (.iconst 1, 1) := by decide +kernel
theorem dX10_needs_13 : decode cX10_needs 13 = .ok (.goto 4, 3) := by decide +kernel
theorem dX10_needs_16 : decode cX10_needs 16 = .ok (.iconst 0, 1) := by decide +kernel
theorem dX10_needs_17 : decode cX10_needs 17 = .ok (.putfield 245, 3) := by decide +kernel
theorem dX10_needs_20 : decode cX10_needs 20 = .ok (.aload_n 0, 1) := by decide +kernel
theorem dX10_needs_21 : decode cX10_needs 21 = .ok (.getfield 245, 3) := by decide +kernel
theorem dX10_needs_24 : decode cX10_needs 24 = .ok (.ifCond .ne 7, 3) := by decide +kernel
theorem dX10_needs_27 : decode cX10_needs 27 = .ok (.aload_n 0, 1) := by decide +kernel
theorem dX10_needs_28 : decode cX10_needs 28 = .ok (.invokevirtual 249, 3) := by decide +kernel
theorem dX10_needs_31 : decode cX10_needs 31 = .ok (.return_, 1) := by decide +kernel
theorem dX10_word_0 : decode cX10_word 0 = .ok (.lconst 0, 1) := by decide +kernel
theorem dX10_word_1 : decode cX10_word 1 = .ok (.lstore_n 1, 1) := by decide +kernel
theorem dX10_word_2 : decode cX10_word 2 = .ok (.aload_n 0, 1) := by decide +kernel
theorem dX10_word_3 : decode cX10_word 3 = .ok (.getfield 233, 3) := by decide +kernel
theorem dX10_word_6 : decode cX10_word 6 = .ok (.istore_n 3, 1) := by decide +kernel
theorem dX10_word_7 : decode cX10_word 7 = .ok (.iload_n 3, 1) := by decide +kernel
theorem dX10_word_8 : decode cX10_word 8 = .ok (.aload_n 0, 1) := by decide +kernel
theorem dX10_word_9 : decode cX10_word 9 = .ok (.getfield 230, 3) := by decide +kernel
theorem dX10_word_12 : decode cX10_word 12 = .ok (.if_icmp .ge 38, 3) := by decide +kernel
theorem dX10_word_15 : decode cX10_word 15 = .ok (.lload_n 1, 1) := by decide +kernel
theorem dX10_word_16 : decode cX10_word 16 = .ok (.ldc2_w 252, 3) := by decide +kernel
theorem dX10_word_19 : decode cX10_word 19 = .ok (.lcmp, 1) := by decide +kernel
theorem dX10_word_20 : decode cX10_word 20 = .ok (.ifCond .le 7, 3) := by decide +kernel
theorem dX10_word_23 : decode cX10_word 23 = .ok (.lload_n 1, 1) := by decide +kernel
theorem dX10_word_24 : decode cX10_word 24 = .ok (.goto 19, 3) := by decide +kernel
theorem dX10_word_27 : decode cX10_word 27 = .ok (.ldc2_w 254, 3) := by decide +kernel
theorem dX10_word_30 : decode cX10_word 30 = .ok (.lload_n 1, 1) := by decide +kernel
theorem dX10_word_31 : decode cX10_word 31 = .ok (.lmul, 1) := by decide +kernel
theorem dX10_word_32 : decode cX10_word 32 = .ok (.aload_n 0, 1) := by decide +kernel
theorem dX10_word_33 : decode cX10_word 33 = .ok (.getfield 28, 3) := by decide +kernel
theorem dX10_word_36 : decode cX10_word 36 = .ok (.iload_n 3, 1) := by decide +kernel
theorem dX10_word_37 : decode cX10_word 37 = .ok (.iaload, 1) := by decide +kernel
theorem dX10_word_38 : decode cX10_word 38 = .ok (.bipush 96, 2) := by decide +kernel
theorem dX10_word_40 : decode cX10_word 40 = .ok (.isub, 1) := by decide +kernel
theorem dX10_word_41 : decode cX10_word 41 = .ok (.i2l, 1) := by decide +kernel
theorem dX10_word_42 : decode cX10_word 42 = .ok (.ladd, 1) := by decide +kernel
theorem dX10_word_43 : decode cX10_word 43 = .ok (.lstore_n 1, 1) := by decide +kernel
theorem dX10_word_44 : decode cX10_word 44 = .ok (.iinc 3 1, 3) := by decide +kernel
theorem dX10_word_47 : decode cX10_word 47 = .ok (.goto (-40), 3) := by decide +kernel
theorem dX10_word_50 : decode cX10_word 50 = .ok (.aload_n 0, 1) := by decide +kernel
theorem dX10_word_51 : decode cX10_word 51 = .ok (.getfield 245, 3) := by decide +kernel
theorem dX10_word_54 : decode cX10_word 54 = .ok (.ifCond .ne 17, 3) := by decide +kernel
theorem dX10_word_57 : decode cX10_word 57 = .ok (.aload_n 0, 1) := by decide +kernel
theorem dX10_word_58 : decode cX10_word 58 = .ok (.aload_n 0, 1) := by decide +kernel
theorem dX10_word_59 : decode cX10_word 59 = .ok (.getfield 233, 3) := by decide +kernel
theorem dX10_word_62 : decode cX10_word 62 = .ok (.invokevirtual 236, 3) := by decide +kernel
theorem dX10_word_65 : decode cX10_word 65 = .ok (.invokestatic 239, 3) := by decide +kernel
theorem dX10_word_68 : decode cX10_word 68 = .ok (.ifCond .ne 7, 3) := by decide +kernel
theorem dX10_word_71 : decode cX10_word 71 = .ok (.lconst 0, 1) := by decide +kernel
theorem dX10_word_72 : decode cX10_word 72 = .ok (.goto 4, 3) := by decide +kernel
theorem dX10_word_75 : decode cX10_word 75 = .ok (.lload_n 1, 1) := by decide +kernel
theorem dX10_word_76 : decode cX10_word 76 = .ok (.lreturn, 1) := by decide +kernel
theorem dX10_number_0 : decode cX10_number 0 = .ok (.aload_n 0, 1) := by decide +kernel
theorem dX10_number_1 : decode cX10_number 1 = .ok (.getfield 245, 3) := by decide +kernel
theorem dX10_number_4 : decode cX10_number 4 = .ok (.ifCond .eq 4, 3) := by decide +kernel
theorem dX10_number_7 : decode cX10_number 7 = .ok (.return_, 1) := by decide +kernel
theorem dX10_number_8 : decode cX10_number 8 = .ok (.aload_n 0, 1) := by decide +kernel
theorem dX10_number_9 : decode cX10_number 9 = .ok (.aload_n 0, 1) := by decide +kernel
theorem dX10_number_10 : decode cX10_number 10 = .ok (.getfield 233, 3) := by decide +kernel
theorem dX10_number_13 : decode cX10_number 13 = .ok (.invokevirtual 236, 3) := by decide +kernel
theorem dX10_number_16 : decode cX10_number 16 = .ok (.invokestatic 242, 3) := by decide +kernel
theorem dX10_number_19 : decode cX10_number 19 = .ok (.istore_n 3, 1) := by decide +kernel
theorem dX10_number_20 : decode cX10_number 20 = .ok (.iconst 0, 1) := by decide +kernel
theorem dX10_number_21 : decode cX10_number 21 = .ok (.istore 4, 2) := by decide +kernel
theorem dX10_number_23 : decode cX10_number 23 = .ok (.aload_n 0, 1) := by decide +kernel
theorem dX10_number_24 : decode cX10_number 24 = .ok (.getfield 233, 3) := by decide +kernel
theorem dX10_number_27 : decode cX10_number 27 = .ok (.istore 5, 2) := by decide +kernel
theorem dX10_number_29 : decode cX10_number 29 = .ok (.iload 5, 2) := by decide +kernel
theorem dX10_number_31 : decode cX10_number 31 = .ok (.aload_n 0, 1) := by decide +kernel
theorem dX10_number_32 : decode cX10_number 32 = .ok (.getfield 230, 3) := by decide +kernel
theorem dX10_number_35 : decode cX10_number 35 = .ok (.if_icmp .ge 44, 3) := by decide +kernel
theorem dX10_number_38 : decode cX10_number 38 = .ok (.iload_n 3, 1) := by decide +kernel
theorem dX10_number_39 : decode cX10_number 39 = .ok (.ifCond .eq 40, 3) := by decide +kernel
theorem dX10_number_42 : decode cX10_number 42 = .ok (.iload 4, 2) := by decide +kernel
theorem dX10_number_44 : decode cX10_number 44 = .ok (.sipush 999, 3) := by decide +kernel
theorem dX10_number_47 : decode cX10_number 47 = .ok (.if_icmp .le 8, 3) := by decide +kernel
theorem dX10_number_50 : decode cX10_number 50 = .ok (.iload 4, 2) := by decide +kernel
theorem dX10_number_52 : decode cX10_number 52 = .ok (.goto 19, 3) := by decide +kernel
theorem dX10_number_55 : decode cX10_number 55 = .ok (.bipush 10, 2) := by decide +kernel
theorem dX10_number_57 : decode cX10_number 57 = .ok (.iload 4, 2) := by decide +kernel
theorem dX10_number_59 : decode cX10_number 59 = .ok (.imul, 1) := by decide +kernel
theorem dX10_number_60 : decode cX10_number 60 = .ok (.aload_n 0, 1) := by decide +kernel
theorem dX10_number_61 : decode cX10_number 61 = .ok (.getfield 28, 3) := by decide +kernel
theorem dX10_number_64 : decode cX10_number 64 = .ok (.iload 5, 2) := by decide +kernel
theorem dX10_number_66 : decode cX10_number 66 = .ok (.iaload, 1) := by decide +kernel
theorem dX10_number_67 : decode cX10_number 67 = .ok (.iadd, 1) := by decide +kernel
theorem dX10_number_68 : decode cX10_number 68 = .ok (.bipush 48, 2) := by decide +kernel
theorem dX10_number_70 : decode cX10_number 70 = .ok (.isub, 1) := by decide +kernel
theorem dX10_number_71 : decode cX10_number 71 = .ok (.istore 4, 2) := by decide +kernel
theorem dX10_number_73 : decode cX10_number 73 = .ok (.iinc 5 1, 3) := by decide +kernel
theorem dX10_number_76 : decode cX10_number 76 = .ok (.goto (-47), 3) := by decide +kernel
theorem dX10_number_79 : decode cX10_number 79 = .ok (.aload_n 0, 1) := by decide +kernel
theorem dX10_number_80 : decode cX10_number 80 = .ok (.iload 4, 2) := by decide +kernel
theorem dX10_number_82 : decode cX10_number 82 = .ok (.putfield 256, 3) := by decide +kernel
theorem dX10_number_85 : decode cX10_number 85 = .ok (.aload_n 0, 1) := by decide +kernel
theorem dX10_number_86 : decode cX10_number 86 = .ok (.iload_n 3, 1) := by decide +kernel
theorem dX10_number_87 : decode cX10_number 87 = .ok (.ifCond .eq 20, 3) := by decide +kernel
theorem dX10_number_90 : decode cX10_number 90 = .ok (.iload 4, 2) := by decide +kernel
theorem dX10_number_92 : decode cX10_number 92 = .ok (.i2l, 1) := by decide +kernel
theorem dX10_number_93 : decode cX10_number 93 = .ok (.iload_n 1, 1) := by decide +kernel
theorem dX10_number_94 : decode cX10_number 94 = .ok (.i2l, 1) := by decide +kernel
theorem dX10_number_95 : decode cX10_number 95 = .ok (.iload_n 2, 1) := by decide +kernel
theorem dX10_number_96 : decode cX10_number 96 = .ok (.i2l, 1) := by decide +kernel
theorem dX10_number_97 : decode cX10_number 97 = .ok (.invokestatic 45, 3) := by decide +kernel
theorem dX10_number_100 : decode cX10_number 100 = .ok (.ifCond .eq 7, 3) := by decide +kernel
theorem dX10_number_103 : decode cX10_number 103 = .ok (.iconst 1, 1) := by decide +kernel
theorem dX10_number_104 : decode cX10_number 104 = .ok (.goto 4, 3) := by decide +kernel
theorem dX10_number_107 : decode cX10_number 107 = .ok (.iconst 0, 1) := by decide +kernel
theorem dX10_number_108 : decode cX10_number 108 = .ok (.invokevirtual 259, 3) := by decide +kernel
theorem dX10_number_111 : decode cX10_number 111 = .ok (.return_, 1) := by decide +kernel
theorem dX10_kindHere_0 : decode cX10_kindHere 0 = .ok (.aload_n 0, 1) := by decide +kernel
theorem dX10_kindHere_1 : decode cX10_kindHere 1 = .ok (.invokevirtual 263, 3) := by decide +kernel
theorem dX10_kindHere_4 : decode cX10_kindHere 4 = .ok (.lstore_n 1, 1) := by decide +kernel
theorem dX10_kindHere_5 : decode cX10_kindHere 5 = .ok (.lload_n 1, 1) := by decide +kernel
theorem dX10_kindHere_6 : decode cX10_kindHere 6 = .ok (.ldc2_w 267, 3) := by decide +kernel
theorem dX10_kindHere_9 : decode cX10_kindHere 9 = .ok (.lcmp, 1) := by decide +kernel
theorem dX10_kindHere_10 : decode cX10_kindHere 10 = .ok (.ifCond .ne 7, 3) := by decide +kernel
theorem dX10_kindHere_13 : decode cX10_kindHere 13 = .ok (.iconst 0, 1) := by decide +kernel
theorem dX10_kindHere_14 : decode cX10_kindHere 14 = .ok (.goto 64, 3) := by decide +kernel
theorem dX10_kindHere_17 : decode cX10_kindHere 17 = .ok (.lload_n 1, 1) := by decide +kernel
theorem dX10_kindHere_18 : decode cX10_kindHere 18 = .ok (.ldc2_w 269, 3) := by decide +kernel
theorem dX10_kindHere_21 : decode cX10_kindHere 21 = .ok (.lcmp, 1) := by decide +kernel
theorem dX10_kindHere_22 : decode cX10_kindHere 22 = .ok (.ifCond .ne 7, 3) := by decide +kernel
theorem dX10_kindHere_25 : decode cX10_kindHere 25 = .ok (.iconst 1, 1) := by decide +kernel
theorem dX10_kindHere_26 : decode cX10_kindHere 26 = .ok (.goto 52, 3) := by decide +kernel
theorem dX10_kindHere_29 : decode cX10_kindHere 29 = .ok (.lload_n 1, 1) := by decide +kernel
theorem dX10_kindHere_30 : decode cX10_kindHere 30 = .ok (.ldc2_w 271, 3) := by decide +kernel
theorem dX10_kindHere_33 : decode cX10_kindHere 33 = .ok (.lcmp, 1) := by decide +kernel
theorem dX10_kindHere_34 : decode cX10_kindHere 34 = .ok (.ifCond .ne 7, 3) := by decide +kernel
theorem dX10_kindHere_37 : decode cX10_kindHere 37 = .ok (.iconst 2, 1) := by decide +kernel
theorem dX10_kindHere_38 : decode cX10_kindHere 38 = .ok (.goto 40, 3) := by decide +kernel
theorem dX10_kindHere_41 : decode cX10_kindHere 41 = .ok (.lload_n 1, 1) := by decide +kernel
theorem dX10_kindHere_42 : decode cX10_kindHere 42 = .ok (.ldc2_w 273, 3) := by decide +kernel
theorem dX10_kindHere_45 : decode cX10_kindHere 45 = .ok (.lcmp, 1) := by decide +kernel
theorem dX10_kindHere_46 : decode cX10_kindHere 46 = .ok (.ifCond .ne 7, 3) := by decide +kernel
theorem dX10_kindHere_49 : decode cX10_kindHere 49 = .ok (.iconst 3, 1) := by decide +kernel
theorem dX10_kindHere_50 : decode cX10_kindHere 50 = .ok (.goto 28, 3) := by decide +kernel
theorem dX10_kindHere_53 : decode cX10_kindHere 53 = .ok (.lload_n 1, 1) := by decide +kernel
theorem dX10_kindHere_54 : decode cX10_kindHere 54 = .ok (.ldc2_w 275, 3) := by decide +kernel
theorem dX10_kindHere_57 : decode cX10_kindHere 57 = .ok (.lcmp, 1) := by decide +kernel
theorem dX10_kindHere_58 : decode cX10_kindHere 58 = .ok (.ifCond .ne 7, 3) := by decide +kernel
theorem dX10_kindHere_61 : decode cX10_kindHere 61 = .ok (.iconst 4, 1) := by decide +kernel
theorem dX10_kindHere_62 : decode cX10_kindHere 62 = .ok (.goto 16, 3) := by decide +kernel
theorem dX10_kindHere_65 : decode cX10_kindHere 65 = .ok (.lload_n 1, 1) := by decide +kernel
theorem dX10_kindHere_66 : decode cX10_kindHere 66 = .ok (.ldc2_w 277, 3) := by decide +kernel
theorem dX10_kindHere_69 : decode cX10_kindHere 69 = .ok (.lcmp, 1) := by decide +kernel
theorem dX10_kindHere_70 : decode cX10_kindHere 70 = .ok (.ifCond .ne 7, 3) := by decide +kernel
theorem dX10_kindHere_73 : decode cX10_kindHere 73 = .ok (.iconst 5, 1) := by decide +kernel
theorem dX10_kindHere_74 : decode cX10_kindHere 74 = .ok (.goto 4, 3) := by decide +kernel
theorem dX10_kindHere_77 : decode cX10_kindHere 77 = .ok (.iconst (-1), 1) := by decide +kernel
theorem dX10_kindHere_78 : decode cX10_kindHere 78 = .ok (.ireturn, 1) := by decide +kernel
theorem dX10_perhaps_0 : decode cX10_perhaps 0 = .ok (.iload_n 1, 1) := by decide +kernel
theorem dX10_perhaps_1 : decode cX10_perhaps 1 = .ok (.ifCond .ne 6, 3) := by decide +kernel
theorem dX10_perhaps_4 : decode cX10_perhaps 4 = .ok (.iload 4, 2) := by decide +kernel
theorem dX10_perhaps_6 : decode cX10_perhaps 6 = .ok (.ireturn, 1) := by decide +kernel
theorem dX10_perhaps_7 : decode cX10_perhaps 7 = .ok (.aload_n 0, 1) := by decide +kernel
theorem dX10_perhaps_8 : decode cX10_perhaps 8 = .ok (.iconst 1, 1) := by decide +kernel
theorem dX10_perhaps_9 : decode cX10_perhaps 9 = .ok (.invokevirtual 259, 3) := by decide +kernel
theorem dX10_perhaps_12 : decode cX10_perhaps 12 = .ok (.aload_n 0, 1) := by decide +kernel
theorem dX10_perhaps_13 : decode cX10_perhaps 13 = .ok (.iload_n 2, 1) := by decide +kernel
theorem dX10_perhaps_14 : decode cX10_perhaps 14 = .ok (.iload_n 3, 1) := by decide +kernel
theorem dX10_perhaps_15 : decode cX10_perhaps 15 = .ok (.invokevirtual 279, 3) := by decide +kernel
theorem dX10_perhaps_18 : decode cX10_perhaps 18 = .ok (.aload_n 0, 1) := by decide +kernel
theorem dX10_perhaps_19 : decode cX10_perhaps 19 = .ok (.getfield 256, 3) := by decide +kernel
theorem dX10_perhaps_22 : decode cX10_perhaps 22 = .ok (.ireturn, 1) := by decide +kernel
theorem dX10_phraseItem_0 : decode cX10_phraseItem 0 = .ok (.aload_n 0, 1) := by decide +kernel
theorem dX10_phraseItem_1 : decode cX10_phraseItem 1 = .ok (.aload_n 0, 1) := by decide +kernel
theorem dX10_phraseItem_2 : decode cX10_phraseItem 2 = .ok (.getfield 7, 3) := by decide +kernel
theorem dX10_phraseItem_5 : decode cX10_phraseItem 5 = .ok (.iconst 0, 1) := by decide +kernel
theorem dX10_phraseItem_6 : decode cX10_phraseItem 6 = .ok (.iaload, 1) := by decide +kernel
theorem dX10_phraseItem_7 : decode cX10_phraseItem 7 = .ok (.bipush 12, 2) := by decide +kernel
theorem dX10_phraseItem_9 : decode cX10_phraseItem 9 = .ok (.if_icmp .ge 7, 3) := by decide +kernel
theorem dX10_phraseItem_12 : decode cX10_phraseItem 12 = .ok (.iconst 1, 1) := by decide +kernel
theorem dX10_phraseItem_13 : decode cX10_phraseItem 13 = .ok (.goto 4, 3) := by decide +kernel
theorem dX10_phraseItem_16 : decode cX10_phraseItem 16 = .ok (.iconst 0, 1) := by decide +kernel
theorem dX10_phraseItem_17 : decode cX10_phraseItem 17 = .ok (.invokevirtual 259, 3) := by decide +kernel
theorem dX10_phraseItem_20 : decode cX10_phraseItem 20 = .ok (.aload_n 0, 1) := by decide +kernel
theorem dX10_phraseItem_21 : decode cX10_phraseItem 21 = .ok (.iconst 0, 1) := by decide +kernel
theorem dX10_phraseItem_22 : decode cX10_phraseItem 22 = .ok (.bipush 9, 2) := by decide +kernel
theorem dX10_phraseItem_24 : decode cX10_phraseItem 24 = .ok (.invokevirtual 279, 3) := by decide +kernel
theorem dX10_phraseItem_27 : decode cX10_phraseItem 27 = .ok (.aload_n 0, 1) := by decide +kernel
theorem dX10_phraseItem_28 : decode cX10_phraseItem 28 = .ok (.getfield 256, 3) := by decide +kernel
theorem dX10_phraseItem_31 : decode cX10_phraseItem 31 = .ok (.istore_n 2, 1) := by decide +kernel
theorem dX10_phraseItem_32 : decode cX10_phraseItem 32 = .ok (.aload_n 0, 1) := by decide +kernel
theorem dX10_phraseItem_33 : decode cX10_phraseItem 33 = .ok (.aload_n 0, 1) := by decide +kernel
theorem dX10_phraseItem_34 : decode cX10_phraseItem 34 = .ok (.invokevirtual 263, 3) := by decide +kernel
theorem dX10_phraseItem_37 : decode cX10_phraseItem 37 = .ok (.ldc2_w 281, 3) := by decide +kernel
theorem dX10_phraseItem_40 : decode cX10_phraseItem 40 = .ok (.lcmp, 1) := by decide +kernel
theorem dX10_phraseItem_41 : decode cX10_phraseItem 41 = .ok (.ifCond .ne 7, 3) := by decide +kernel
theorem dX10_phraseItem_44 : decode cX10_phraseItem 44 = .ok (.iconst 1, 1) := by decide +kernel
theorem dX10_phraseItem_45 : decode cX10_phraseItem 45 = .ok (.goto 4, 3) := by decide +kernel
theorem dX10_phraseItem_48 : decode cX10_phraseItem 48 = .ok (.iconst 0, 1) := by decide +kernel
theorem dX10_phraseItem_49 : decode cX10_phraseItem 49 = .ok (.iconst 1, 1) := by decide +kernel
theorem dX10_phraseItem_50 : decode cX10_phraseItem 50 = .ok (.bipush 60, 2) := by decide +kernel
theorem dX10_phraseItem_52 : decode cX10_phraseItem 52 = .ok (.iconst 5, 1) := by decide +kernel
theorem dX10_phraseItem_53 : decode cX10_phraseItem 53 = .ok (.invokevirtual 283, 3) := by decide +kernel
theorem dX10_phraseItem_56 : decode cX10_phraseItem 56 = .ok (.istore_n 3, 1) := by decide +kernel
theorem dX10_phraseItem_57 : decode cX10_phraseItem 57 = .ok (.aload_n 0, 1) := by decide +kernel
theorem dX10_phraseItem_58 : decode cX10_phraseItem 58 = .ok (.aload_n 0, 1) := by decide +kernel
theorem dX10_phraseItem_59 : decode cX10_phraseItem 59 = .ok (.invokevirtual 263, 3) := by decide +kernel
theorem dX10_phraseItem_62 : decode cX10_phraseItem 62 = .ok (.ldc2_w 287, 3) := by decide +kernel
theorem dX10_phraseItem_65 : decode cX10_phraseItem 65 = .ok (.lcmp, 1) := by decide +kernel
theorem dX10_phraseItem_66 : decode cX10_phraseItem 66 = .ok (.ifCond .ne 7, 3) := by decide +kernel
theorem dX10_phraseItem_69 : decode cX10_phraseItem 69 = .ok (.iconst 1, 1) := by decide +kernel
theorem dX10_phraseItem_70 : decode cX10_phraseItem 70 = .ok (.goto 4, 3) := by decide +kernel
theorem dX10_phraseItem_73 : decode cX10_phraseItem 73 = .ok (.iconst 0, 1) := by decide +kernel
theorem dX10_phraseItem_74 : decode cX10_phraseItem 74 = .ok (.iconst 0, 1) := by decide +kernel
theorem dX10_phraseItem_75 : decode cX10_phraseItem 75 = .ok (.bipush 10, 2) := by decide +kernel
theorem dX10_phraseItem_77 : decode cX10_phraseItem 77 = .ok (.bipush 7, 2) := by decide +kernel
theorem dX10_phraseItem_79 : decode cX10_phraseItem 79 = .ok (.invokevirtual 283, 3) := by decide +kernel
theorem dX10_phraseItem_82 : decode cX10_phraseItem 82 = .ok (.istore 4, 2) := by decide +kernel
theorem dX10_phraseItem_84 : decode cX10_phraseItem 84 = .ok (.aload_n 0, 1) := by decide +kernel
theorem dX10_phraseItem_85 : decode cX10_phraseItem 85 = .ok (.getfield 245, 3) := by decide +kernel
theorem dX10_phraseItem_88 : decode cX10_phraseItem 88 = .ok (.ifCond .ne 14, 3) := by decide +kernel
theorem dX10_phraseItem_91 : decode cX10_phraseItem 91 = .ok (.aload_n 0, 1) := by decide +kernel
theorem dX10_phraseItem_92 : decode cX10_phraseItem 92 = .ok (.iload_n 1, 1) := by decide +kernel
theorem dX10_phraseItem_93 : decode cX10_phraseItem 93 = .ok (.iload_n 2, 1) := by decide +kernel
theorem dX10_phraseItem_94 : decode cX10_phraseItem 94 = .ok (.iload_n 3, 1) := by decide +kernel
theorem dX10_phraseItem_95 : decode cX10_phraseItem 95 = .ok (.iload 4, 2) := by decide +kernel
theorem dX10_phraseItem_97 : decode cX10_phraseItem 97 = .ok (.invokevirtual 72, 3) := by decide +kernel
theorem dX10_phraseItem_100 : decode cX10_phraseItem 100 = .ok (.istore 5, 2) := by decide +kernel
theorem dX10_phraseItem_102 : decode cX10_phraseItem 102 = .ok (.return_, 1) := by decide +kernel
theorem dX10_wantItem_0 : decode cX10_wantItem 0 = .ok (.aload_n 0, 1) := by decide +kernel
theorem dX10_wantItem_1 : decode cX10_wantItem 1 = .ok (.aload_n 0, 1) := by decide +kernel
theorem dX10_wantItem_2 : decode cX10_wantItem 2 = .ok (.getfield 7, 3) := by decide +kernel
theorem dX10_wantItem_5 : decode cX10_wantItem 5 = .ok (.iconst 1, 1) := by decide +kernel
theorem dX10_wantItem_6 : decode cX10_wantItem 6 = .ok (.iaload, 1) := by decide +kernel
theorem dX10_wantItem_7 : decode cX10_wantItem 7 = .ok (.bipush 12, 2) := by decide +kernel
theorem dX10_wantItem_9 : decode cX10_wantItem 9 = .ok (.if_icmp .ge 7, 3) := by decide +kernel
theorem dX10_wantItem_12 : decode cX10_wantItem 12 = .ok (.iconst 1, 1) := by decide +kernel
theorem dX10_wantItem_13 : decode cX10_wantItem 13 = .ok (.goto 4, 3) := by decide +kernel
theorem dX10_wantItem_16 : decode cX10_wantItem 16 = .ok (.iconst 0, 1) := by decide +kernel
theorem dX10_wantItem_17 : decode cX10_wantItem 17 = .ok (.invokevirtual 259, 3) := by decide +kernel
theorem dX10_wantItem_20 : decode cX10_wantItem 20 = .ok (.aload_n 0, 1) := by decide +kernel
theorem dX10_wantItem_21 : decode cX10_wantItem 21 = .ok (.iconst 0, 1) := by decide +kernel
theorem dX10_wantItem_22 : decode cX10_wantItem 22 = .ok (.bipush 9, 2) := by decide +kernel
theorem dX10_wantItem_24 : decode cX10_wantItem 24 = .ok (.invokevirtual 279, 3) := by decide +kernel
theorem dX10_wantItem_27 : decode cX10_wantItem 27 = .ok (.aload_n 0, 1) := by decide +kernel
theorem dX10_wantItem_28 : decode cX10_wantItem 28 = .ok (.getfield 256, 3) := by decide +kernel
theorem dX10_wantItem_31 : decode cX10_wantItem 31 = .ok (.istore_n 1, 1) := by decide +kernel
theorem dX10_wantItem_32 : decode cX10_wantItem 32 = .ok (.aload_n 0, 1) := by decide +kernel
theorem dX10_wantItem_33 : decode cX10_wantItem 33 = .ok (.aload_n 0, 1) := by decide +kernel
theorem dX10_wantItem_34 : decode cX10_wantItem 34 = .ok (.invokevirtual 263, 3) := by decide +kernel
theorem dX10_wantItem_37 : decode cX10_wantItem 37 = .ok (.ldc2_w 289, 3) := by decide +kernel
theorem dX10_wantItem_40 : decode cX10_wantItem 40 = .ok (.lcmp, 1) := by decide +kernel
theorem dX10_wantItem_41 : decode cX10_wantItem 41 = .ok (.ifCond .ne 7, 3) := by decide +kernel
theorem dX10_wantItem_44 : decode cX10_wantItem 44 = .ok (.iconst 1, 1) := by decide +kernel
theorem dX10_wantItem_45 : decode cX10_wantItem 45 = .ok (.goto 4, 3) := by decide +kernel
theorem dX10_wantItem_48 : decode cX10_wantItem 48 = .ok (.iconst 0, 1) := by decide +kernel
theorem dX10_wantItem_49 : decode cX10_wantItem 49 = .ok (.invokevirtual 259, 3) := by decide +kernel
theorem dX10_wantItem_52 : decode cX10_wantItem 52 = .ok (.aload_n 0, 1) := by decide +kernel
theorem dX10_wantItem_53 : decode cX10_wantItem 53 = .ok (.iconst 0, 1) := by decide +kernel
theorem dX10_wantItem_54 : decode cX10_wantItem 54 = .ok (.bipush 99, 2) := by decide +kernel
theorem dX10_wantItem_56 : decode cX10_wantItem 56 = .ok (.invokevirtual 279, 3) := by decide +kernel
theorem dX10_wantItem_59 : decode cX10_wantItem 59 = .ok (.aload_n 0, 1) := by decide +kernel
theorem dX10_wantItem_60 : decode cX10_wantItem 60 = .ok (.getfield 256, 3) := by decide +kernel
theorem dX10_wantItem_63 : decode cX10_wantItem 63 = .ok (.istore_n 2, 1) := by decide +kernel
theorem dX10_wantItem_64 : decode cX10_wantItem 64 = .ok (.aload_n 0, 1) := by decide +kernel
theorem dX10_wantItem_65 : decode cX10_wantItem 65 = .ok (.aload_n 0, 1) := by decide +kernel
theorem dX10_wantItem_66 : decode cX10_wantItem 66 = .ok (.invokevirtual 263, 3) := by decide +kernel
theorem dX10_wantItem_69 : decode cX10_wantItem 69 = .ok (.ldc2_w 291, 3) := by decide +kernel
theorem dX10_wantItem_72 : decode cX10_wantItem 72 = .ok (.lcmp, 1) := by decide +kernel
theorem dX10_wantItem_73 : decode cX10_wantItem 73 = .ok (.ifCond .ne 7, 3) := by decide +kernel
theorem dX10_wantItem_76 : decode cX10_wantItem 76 = .ok (.iconst 1, 1) := by decide +kernel
theorem dX10_wantItem_77 : decode cX10_wantItem 77 = .ok (.goto 4, 3) := by decide +kernel
theorem dX10_wantItem_80 : decode cX10_wantItem 80 = .ok (.iconst 0, 1) := by decide +kernel
theorem dX10_wantItem_81 : decode cX10_wantItem 81 = .ok (.invokevirtual 259, 3) := by decide +kernel
theorem dX10_wantItem_84 : decode cX10_wantItem 84 = .ok (.aload_n 0, 1) := by decide +kernel
theorem dX10_wantItem_85 : decode cX10_wantItem 85 = .ok (.iconst 0, 1) := by decide +kernel
theorem dX10_wantItem_86 : decode cX10_wantItem 86 = .ok (.bipush 99, 2) := by decide +kernel
theorem dX10_wantItem_88 : decode cX10_wantItem 88 = .ok (.invokevirtual 279, 3) := by decide +kernel
theorem dX10_wantItem_91 : decode cX10_wantItem 91 = .ok (.aload_n 0, 1) := by decide +kernel
theorem dX10_wantItem_92 : decode cX10_wantItem 92 = .ok (.getfield 256, 3) := by decide +kernel
theorem dX10_wantItem_95 : decode cX10_wantItem 95 = .ok (.istore_n 3, 1) := by decide +kernel
theorem dX10_wantItem_96 : decode cX10_wantItem 96 = .ok (.aload_n 0, 1) := by decide +kernel
theorem dX10_wantItem_97 : decode cX10_wantItem 97 = .ok (.invokevirtual 263, 3) := by decide +kernel
theorem dX10_wantItem_100 : decode cX10_wantItem 100 = .ok (.ldc2_w 293, 3) := by decide +kernel
theorem dX10_wantItem_103 : decode cX10_wantItem 103 = .ok (.lcmp, 1) := by decide +kernel
theorem dX10_wantItem_104 : decode cX10_wantItem 104 = .ok (.ifCond .ne 7, 3) := by decide +kernel
theorem dX10_wantItem_107 : decode cX10_wantItem 107 = .ok (.iconst 1, 1) := by decide +kernel
theorem dX10_wantItem_108 : decode cX10_wantItem 108 = .ok (.goto 4, 3) := by decide +kernel
theorem dX10_wantItem_111 : decode cX10_wantItem 111 = .ok (.iconst 0, 1) := by decide +kernel
theorem dX10_wantItem_112 : decode cX10_wantItem 112 = .ok (.istore 4, 2) := by decide +kernel
theorem dX10_wantItem_114 : decode cX10_wantItem 114 = .ok (.iload 4, 2) := by decide +kernel
theorem dX10_wantItem_116 : decode cX10_wantItem 116 = .ok (.ifCond .eq 8, 3) := by decide +kernel
theorem dX10_wantItem_119 : decode cX10_wantItem 119 = .ok (.aload_n 0, 1) := by decide +kernel
theorem dX10_wantItem_120 : decode cX10_wantItem 120 = .ok (.iconst 1, 1) := by decide +kernel
theorem dX10_wantItem_121 : decode cX10_wantItem 121 = .ok (.invokevirtual 259, 3) := by decide +kernel
theorem dX10_wantItem_124 : decode cX10_wantItem 124 = .ok (.aload_n 0, 1) := by decide +kernel
theorem dX10_wantItem_125 : decode cX10_wantItem 125 = .ok (.invokevirtual 263, 3) := by decide +kernel
theorem dX10_wantItem_128 : decode cX10_wantItem 128 = .ok (.ldc2_w 295, 3) := by decide +kernel
theorem dX10_wantItem_131 : decode cX10_wantItem 131 = .ok (.lcmp, 1) := by decide +kernel
theorem dX10_wantItem_132 : decode cX10_wantItem 132 = .ok (.ifCond .ne 7, 3) := by decide +kernel
theorem dX10_wantItem_135 : decode cX10_wantItem 135 = .ok (.iconst 1, 1) := by decide +kernel
theorem dX10_wantItem_136 : decode cX10_wantItem 136 = .ok (.goto 4, 3) := by decide +kernel
theorem dX10_wantItem_139 : decode cX10_wantItem 139 = .ok (.iconst 0, 1) := by decide +kernel
theorem dX10_wantItem_140 : decode cX10_wantItem 140 = .ok (.istore 5, 2) := by decide +kernel
theorem dX10_wantItem_142 : decode cX10_wantItem 142 = .ok (.iload 5, 2) := by decide +kernel
theorem dX10_wantItem_144 : decode cX10_wantItem 144 = .ok (.ifCond .eq 8, 3) := by decide +kernel
theorem dX10_wantItem_147 : decode cX10_wantItem 147 = .ok (.aload_n 0, 1) := by decide +kernel
theorem dX10_wantItem_148 : decode cX10_wantItem 148 = .ok (.iconst 1, 1) := by decide +kernel
theorem dX10_wantItem_149 : decode cX10_wantItem 149 = .ok (.invokevirtual 259, 3) := by decide +kernel
theorem dX10_wantItem_152 : decode cX10_wantItem 152 = .ok (.aload_n 0, 1) := by decide +kernel
theorem dX10_wantItem_153 : decode cX10_wantItem 153 = .ok (.getfield 245, 3) := by decide +kernel
theorem dX10_wantItem_156 : decode cX10_wantItem 156 = .ok (.ifCond .ne 60, 3) := by decide +kernel
theorem dX10_wantItem_159 : decode cX10_wantItem 159 = .ok (.aload_n 0, 1) := by decide +kernel
theorem dX10_wantItem_160 : decode cX10_wantItem 160 = .ok (.iload_n 1, 1) := by decide +kernel
theorem dX10_wantItem_161 : decode cX10_wantItem 161 = .ok (.iload_n 2, 1) := by decide +kernel
theorem dX10_wantItem_162 : decode cX10_wantItem 162 = .ok (.iload_n 3, 1) := by decide +kernel
theorem dX10_wantItem_163 : decode cX10_wantItem 163 = .ok (.invokevirtual 96, 3) := by decide +kernel
theorem dX10_wantItem_166 : decode cX10_wantItem 166 = .ok (.istore 6, 2) := by decide +kernel
theorem dX10_wantItem_168 : decode cX10_wantItem 168 = .ok (.aload_n 0, 1) := by decide +kernel
theorem dX10_wantItem_169 : decode cX10_wantItem 169 = .ok (.getfield 7, 3) := by decide +kernel
theorem dX10_wantItem_172 : decode cX10_wantItem 172 = .ok (.bipush 78, 2) := by decide +kernel
theorem dX10_wantItem_174 : decode cX10_wantItem 174 = .ok (.iconst 5, 1) := by decide +kernel
theorem dX10_wantItem_175 : decode cX10_wantItem 175 = .ok (.iload 6, 2) := by decide +kernel
theorem dX10_wantItem_177 : decode cX10_wantItem 177 = .ok (.imul, 1) := by decide +kernel
theorem dX10_wantItem_178 : decode cX10_wantItem 178 = .ok (.iadd, 1) := by decide +kernel
theorem dX10_wantItem_179 : decode cX10_wantItem 179 = .ok (.iconst 3, 1) := by decide +kernel
theorem dX10_wantItem_180 : decode cX10_wantItem 180 = .ok (.iadd, 1) := by decide +kernel
theorem dX10_wantItem_181 : decode cX10_wantItem 181 = .ok (.iload 4, 2) := by decide +kernel
theorem dX10_wantItem_183 : decode cX10_wantItem 183 = .ok (.ifCond .eq 7, 3) := by decide +kernel
theorem dX10_wantItem_186 : decode cX10_wantItem 186 = .ok (.iconst 1, 1) := by decide +kernel
theorem dX10_wantItem_187 : decode cX10_wantItem 187 = .ok (.goto 4, 3) := by decide +kernel
theorem dX10_wantItem_190 : decode cX10_wantItem 190 = .ok (.iconst 0, 1) := by decide +kernel
theorem dX10_wantItem_191 : decode cX10_wantItem 191 = .ok (.iastore, 1) := by decide +kernel
theorem dX10_wantItem_192 : decode cX10_wantItem 192 = .ok (.aload_n 0, 1) := by decide +kernel
theorem dX10_wantItem_193 : decode cX10_wantItem 193 = .ok (.getfield 7, 3) := by decide +kernel
theorem dX10_wantItem_196 : decode cX10_wantItem 196 = .ok (.bipush 78, 2) := by decide +kernel
theorem dX10_wantItem_198 : decode cX10_wantItem 198 = .ok (.iconst 5, 1) := by decide +kernel
theorem dX10_wantItem_199 : decode cX10_wantItem 199 = .ok (.iload 6, 2) := by decide +kernel
theorem dX10_wantItem_201 : decode cX10_wantItem 201 = .ok (.imul, 1) := by decide +kernel
theorem dX10_wantItem_202 : decode cX10_wantItem 202 = .ok (.iadd, 1) := by decide +kernel
theorem dX10_wantItem_203 : decode cX10_wantItem 203 = .ok (.iconst 4, 1) := by decide +kernel
theorem dX10_wantItem_204 : decode cX10_wantItem 204 = .ok (.iadd, 1) := by decide +kernel
theorem dX10_wantItem_205 : decode cX10_wantItem 205 = .ok (.iload 5, 2) := by decide +kernel
theorem dX10_wantItem_207 : decode cX10_wantItem 207 = .ok (.ifCond .eq 7, 3) := by decide +kernel
theorem dX10_wantItem_210 : decode cX10_wantItem 210 = .ok (.iconst 1, 1) := by decide +kernel
theorem dX10_wantItem_211 : decode cX10_wantItem 211 = .ok (.goto 4, 3) := by decide +kernel
theorem dX10_wantItem_214 : decode cX10_wantItem 214 = .ok (.iconst 0, 1) := by decide +kernel
theorem dX10_wantItem_215 : decode cX10_wantItem 215 = .ok (.iastore, 1) := by decide +kernel
theorem dX10_wantItem_216 : decode cX10_wantItem 216 = .ok (.return_, 1) := by decide +kernel
theorem dX10_orderOne_0 : decode cX10_orderOne 0 = .ok (.iconst 0, 1) := by decide +kernel
theorem dX10_orderOne_1 : decode cX10_orderOne 1 = .ok (.istore_n 1, 1) := by decide +kernel
theorem dX10_orderOne_2 : decode cX10_orderOne 2 = .ok (.aload_n 0, 1) := by decide +kernel
theorem dX10_orderOne_3 : decode cX10_orderOne 3 = .ok (.getfield 233, 3) := by decide +kernel
theorem dX10_orderOne_6 : decode cX10_orderOne 6 = .ok (.istore_n 2, 1) := by decide +kernel
theorem dX10_orderOne_7 : decode cX10_orderOne 7 = .ok (.iload_n 2, 1) := by decide +kernel
theorem dX10_orderOne_8 : decode cX10_orderOne 8 = .ok (.aload_n 0, 1) := by decide +kernel
theorem dX10_orderOne_9 : decode cX10_orderOne 9 = .ok (.getfield 230, 3) := by decide +kernel
theorem dX10_orderOne_12 : decode cX10_orderOne 12 = .ok (.if_icmp .ge 49, 3) := by decide +kernel
theorem dX10_orderOne_15 : decode cX10_orderOne 15 = .ok (.aload_n 0, 1) := by decide +kernel
theorem dX10_orderOne_16 : decode cX10_orderOne 16 = .ok (.aload_n 0, 1) := by decide +kernel
theorem dX10_orderOne_17 : decode cX10_orderOne 17 = .ok (.getfield 233, 3) := by decide +kernel
theorem dX10_orderOne_20 : decode cX10_orderOne 20 = .ok (.invokevirtual 236, 3) := by decide +kernel
theorem dX10_orderOne_23 : decode cX10_orderOne 23 = .ok (.invokestatic 242, 3) := by decide +kernel
theorem dX10_orderOne_26 : decode cX10_orderOne 26 = .ok (.ifCond .eq 35, 3) := by decide +kernel
theorem dX10_orderOne_29 : decode cX10_orderOne 29 = .ok (.iload_n 1, 1) := by decide +kernel
theorem dX10_orderOne_30 : decode cX10_orderOne 30 = .ok (.sipush 999, 3) := by decide +kernel
theorem dX10_orderOne_33 : decode cX10_orderOne 33 = .ok (.if_icmp .le 7, 3) := by decide +kernel
theorem dX10_orderOne_36 : decode cX10_orderOne 36 = .ok (.iload_n 1, 1) := by decide +kernel
theorem dX10_orderOne_37 : decode cX10_orderOne 37 = .ok (.goto 17, 3) := by decide +kernel
theorem dX10_orderOne_40 : decode cX10_orderOne 40 = .ok (.bipush 10, 2) := by decide +kernel
theorem dX10_orderOne_42 : decode cX10_orderOne 42 = .ok (.iload_n 1, 1) := by decide +kernel
theorem dX10_orderOne_43 : decode cX10_orderOne 43 = .ok (.imul, 1) := by decide +kernel
theorem dX10_orderOne_44 : decode cX10_orderOne 44 = .ok (.aload_n 0, 1) := by decide +kernel
theorem dX10_orderOne_45 : decode cX10_orderOne 45 = .ok (.getfield 28, 3) := by decide +kernel
theorem dX10_orderOne_48 : decode cX10_orderOne 48 = .ok (.iload_n 2, 1) := by decide +kernel
theorem dX10_orderOne_49 : decode cX10_orderOne 49 = .ok (.iaload, 1) := by decide +kernel
theorem dX10_orderOne_50 : decode cX10_orderOne 50 = .ok (.iadd, 1) := by decide +kernel
theorem dX10_orderOne_51 : decode cX10_orderOne 51 = .ok (.bipush 48, 2) := by decide +kernel
theorem dX10_orderOne_53 : decode cX10_orderOne 53 = .ok (.isub, 1) := by decide +kernel
theorem dX10_orderOne_54 : decode cX10_orderOne 54 = .ok (.istore_n 1, 1) := by decide +kernel
theorem dX10_orderOne_55 : decode cX10_orderOne 55 = .ok (.iinc 2 1, 3) := by decide +kernel
theorem dX10_orderOne_58 : decode cX10_orderOne 58 = .ok (.goto (-51), 3) := by decide +kernel
theorem dX10_orderOne_61 : decode cX10_orderOne 61 = .ok (.aload_n 0, 1) := by decide +kernel
theorem dX10_orderOne_62 : decode cX10_orderOne 62 = .ok (.aload_n 0, 1) := by decide +kernel
theorem dX10_orderOne_63 : decode cX10_orderOne 63 = .ok (.aload_n 0, 1) := by decide +kernel
theorem dX10_orderOne_64 : decode cX10_orderOne 64 = .ok (.getfield 233, 3) := by decide +kernel
theorem dX10_orderOne_67 : decode cX10_orderOne 67 = .ok (.invokevirtual 236, 3) := by decide +kernel
theorem dX10_orderOne_70 : decode cX10_orderOne 70 = .ok (.invokestatic 242, 3) := by decide +kernel
theorem dX10_orderOne_73 : decode cX10_orderOne 73 = .ok (.ifCond .eq 23, 3) := by decide +kernel
theorem dX10_orderOne_76 : decode cX10_orderOne 76 = .ok (.aload_n 0, 1) := by decide +kernel
theorem dX10_orderOne_77 : decode cX10_orderOne 77 = .ok (.iload_n 1, 1) := by decide +kernel
theorem dX10_orderOne_78 : decode cX10_orderOne 78 = .ok (.invokevirtual 79, 3) := by decide +kernel
theorem dX10_orderOne_81 : decode cX10_orderOne 81 = .ok (.ifCond .eq 15, 3) := by decide +kernel
theorem dX10_orderOne_84 : decode cX10_orderOne 84 = .ok (.aload_n 0, 1) := by decide +kernel
theorem dX10_orderOne_85 : decode cX10_orderOne 85 = .ok (.iload_n 1, 1) := by decide +kernel
theorem dX10_orderOne_86 : decode cX10_orderOne 86 = .ok (.invokevirtual 157, 3) := by decide +kernel
theorem dX10_orderOne_89 : decode cX10_orderOne 89 = .ok (.ifCond .ge 7, 3) := by decide +kernel
theorem dX10_orderOne_92 : decode cX10_orderOne 92 = .ok (.iconst 1, 1) := by decide +kernel
theorem dX10_orderOne_93 : decode cX10_orderOne 93 = .ok (.goto 4, 3) := by decide +kernel
theorem dX10_orderOne_96 : decode cX10_orderOne 96 = .ok (.iconst 0, 1) := by decide +kernel
theorem dX10_orderOne_97 : decode cX10_orderOne 97 = .ok (.invokevirtual 259, 3) := by decide +kernel
theorem dX10_orderOne_100 : decode cX10_orderOne 100 = .ok (.aload_n 0, 1) := by decide +kernel
theorem dX10_orderOne_101 : decode cX10_orderOne 101 = .ok (.getfield 245, 3) := by decide +kernel
theorem dX10_orderOne_104 : decode cX10_orderOne 104 = .ok (.ifCond .ne 29, 3) := by decide +kernel
theorem dX10_orderOne_107 : decode cX10_orderOne 107 = .ok (.aload_n 0, 1) := by decide +kernel
theorem dX10_orderOne_108 : decode cX10_orderOne 108 = .ok (.getfield 7, 3) := by decide +kernel
theorem dX10_orderOne_111 : decode cX10_orderOne 111 = .ok (.sipush 138, 3) := by decide +kernel
theorem dX10_orderOne_114 : decode cX10_orderOne 114 = .ok (.aload_n 0, 1) := by decide +kernel
theorem dX10_orderOne_115 : decode cX10_orderOne 115 = .ok (.getfield 7, 3) := by decide +kernel
theorem dX10_orderOne_118 : decode cX10_orderOne 118 = .ok (.iconst 5, 1) := by decide +kernel
theorem dX10_orderOne_119 : decode cX10_orderOne 119 = .ok (.iaload, 1) := by decide +kernel
theorem dX10_orderOne_120 : decode cX10_orderOne 120 = .ok (.iadd, 1) := by decide +kernel
theorem dX10_orderOne_121 : decode cX10_orderOne 121 = .ok (.iload_n 1, 1) := by decide +kernel
theorem dX10_orderOne_122 : decode cX10_orderOne 122 = .ok (.iastore, 1) := by decide +kernel
theorem dX10_orderOne_123 : decode cX10_orderOne 123 = .ok (.aload_n 0, 1) := by decide +kernel
theorem dX10_orderOne_124 : decode cX10_orderOne 124 = .ok (.getfield 7, 3) := by decide +kernel
theorem dX10_orderOne_127 : decode cX10_orderOne 127 = .ok (.iconst 5, 1) := by decide +kernel
theorem dX10_orderOne_128 : decode cX10_orderOne 128 = .ok (.dup2, 1) := by decide +kernel
theorem dX10_orderOne_129 : decode cX10_orderOne 129 = .ok (.iaload, 1) := by decide +kernel
theorem dX10_orderOne_130 : decode cX10_orderOne 130 = .ok (.iconst 1, 1) := by decide +kernel
theorem dX10_orderOne_131 : decode cX10_orderOne 131 = .ok (.iadd, 1) := by decide +kernel
theorem dX10_orderOne_132 : decode cX10_orderOne 132 = .ok (.iastore, 1) := by decide +kernel
theorem dX10_orderOne_133 : decode cX10_orderOne 133 = .ok (.return_, 1) := by decide +kernel
theorem dX10_orderItem_0 : decode cX10_orderItem 0 = .ok (.aload_n 0, 1) := by decide +kernel
theorem dX10_orderItem_1 : decode cX10_orderItem 1 = .ok (.aload_n 0, 1) := by decide +kernel
theorem dX10_orderItem_2 : decode cX10_orderItem 2 = .ok (.invokevirtual 263, 3) := by decide +kernel
theorem dX10_orderItem_5 : decode cX10_orderItem 5 = .ok (.ldc2_w 297, 3) := by decide +kernel
theorem dX10_orderItem_8 : decode cX10_orderItem 8 = .ok (.lcmp, 1) := by decide +kernel
theorem dX10_orderItem_9 : decode cX10_orderItem 9 = .ok (.ifCond .ne 7, 3) := by decide +kernel
theorem dX10_orderItem_12 : decode cX10_orderItem 12 = .ok (.iconst 1, 1) := by decide +kernel
theorem dX10_orderItem_13 : decode cX10_orderItem 13 = .ok (.goto 4, 3) := by decide +kernel
theorem dX10_orderItem_16 : decode cX10_orderItem 16 = .ok (.iconst 0, 1) := by decide +kernel
theorem dX10_orderItem_17 : decode cX10_orderItem 17 = .ok (.invokevirtual 259, 3) := by decide +kernel
theorem dX10_orderItem_20 : decode cX10_orderItem 20 = .ok (.aload_n 0, 1) := by decide +kernel
theorem dX10_orderItem_21 : decode cX10_orderItem 21 = .ok (.getfield 7, 3) := by decide +kernel
theorem dX10_orderItem_24 : decode cX10_orderItem 24 = .ok (.iconst 5, 1) := by decide +kernel
theorem dX10_orderItem_25 : decode cX10_orderItem 25 = .ok (.iconst 0, 1) := by decide +kernel
theorem dX10_orderItem_26 : decode cX10_orderItem 26 = .ok (.iastore, 1) := by decide +kernel
theorem dX10_orderItem_27 : decode cX10_orderItem 27 = .ok (.aload_n 0, 1) := by decide +kernel
theorem dX10_orderItem_28 : decode cX10_orderItem 28 = .ok (.invokevirtual 299, 3) := by decide +kernel
theorem dX10_orderItem_31 : decode cX10_orderItem 31 = .ok (.aload_n 0, 1) := by decide +kernel
theorem dX10_orderItem_32 : decode cX10_orderItem 32 = .ok (.getfield 245, 3) := by decide +kernel
theorem dX10_orderItem_35 : decode cX10_orderItem 35 = .ok (.ifCond .ne 24, 3) := by decide +kernel
theorem dX10_orderItem_38 : decode cX10_orderItem 38 = .ok (.aload_n 0, 1) := by decide +kernel
theorem dX10_orderItem_39 : decode cX10_orderItem 39 = .ok (.aload_n 0, 1) := by decide +kernel
theorem dX10_orderItem_40 : decode cX10_orderItem 40 = .ok (.getfield 233, 3) := by decide +kernel
theorem dX10_orderItem_43 : decode cX10_orderItem 43 = .ok (.invokevirtual 236, 3) := by decide +kernel
theorem dX10_orderItem_46 : decode cX10_orderItem 46 = .ok (.invokestatic 242, 3) := by decide +kernel
theorem dX10_orderItem_49 : decode cX10_orderItem 49 = .ok (.ifCond .eq 10, 3) := by decide +kernel
theorem dX10_orderItem_52 : decode cX10_orderItem 52 = .ok (.aload_n 0, 1) := by decide +kernel
theorem dX10_orderItem_53 : decode cX10_orderItem 53 = .ok (.invokevirtual 299, 3) := by decide +kernel
theorem dX10_orderItem_56 : decode cX10_orderItem 56 = .ok (.goto (-25), 3) := by decide +kernel
theorem dX10_orderItem_59 : decode cX10_orderItem 59 = .ok (.return_, 1) := by decide +kernel
theorem dX10_item_0 : decode cX10_item 0 = .ok (.aload_n 0, 1) := by decide +kernel
theorem dX10_item_1 : decode cX10_item 1 = .ok (.invokevirtual 302, 3) := by decide +kernel
theorem dX10_item_4 : decode cX10_item 4 = .ok (.istore_n 1, 1) := by decide +kernel
theorem dX10_item_5 : decode cX10_item 5 = .ok (.iload_n 1, 1) := by decide +kernel
theorem dX10_item_6 : decode cX10_item 6 = .ok (.ifCond .lt 11, 3) := by decide +kernel
theorem dX10_item_9 : decode cX10_item 9 = .ok (.aload_n 0, 1) := by decide +kernel
theorem dX10_item_10 : decode cX10_item 10 = .ok (.iload_n 1, 1) := by decide +kernel
theorem dX10_item_11 : decode cX10_item 11 = .ok (.invokevirtual 305, 3) := by decide +kernel
theorem dX10_item_14 : decode cX10_item 14 = .ok (.goto 54, 3) := by decide +kernel
theorem dX10_item_17 : decode cX10_item 17 = .ok (.aload_n 0, 1) := by decide +kernel
theorem dX10_item_18 : decode cX10_item 18 = .ok (.invokevirtual 263, 3) := by decide +kernel
theorem dX10_item_21 : decode cX10_item 21 = .ok (.ldc2_w 308, 3) := by decide +kernel
theorem dX10_item_24 : decode cX10_item 24 = .ok (.lcmp, 1) := by decide +kernel
theorem dX10_item_25 : decode cX10_item 25 = .ok (.ifCond .ne 10, 3) := by decide +kernel
theorem dX10_item_28 : decode cX10_item 28 = .ok (.aload_n 0, 1) := by decide +kernel
theorem dX10_item_29 : decode cX10_item 29 = .ok (.invokevirtual 310, 3) := by decide +kernel
theorem dX10_item_32 : decode cX10_item 32 = .ok (.goto 36, 3) := by decide +kernel
theorem dX10_item_35 : decode cX10_item 35 = .ok (.aload_n 0, 1) := by decide +kernel
theorem dX10_item_36 : decode cX10_item 36 = .ok (.invokevirtual 263, 3) := by decide +kernel
theorem dX10_item_39 : decode cX10_item 39 = .ok (.ldc2_w 313, 3) := by decide +kernel
theorem dX10_item_42 : decode cX10_item 42 = .ok (.lcmp, 1) := by decide +kernel
theorem dX10_item_43 : decode cX10_item 43 = .ok (.ifCond .ne 21, 3) := by decide +kernel
theorem dX10_item_46 : decode cX10_item 46 = .ok (.aload_n 0, 1) := by decide +kernel
theorem dX10_item_47 : decode cX10_item 47 = .ok (.getfield 7, 3) := by decide +kernel
theorem dX10_item_50 : decode cX10_item 50 = .ok (.iconst 2, 1) := by decide +kernel
theorem dX10_item_51 : decode cX10_item 51 = .ok (.aload_n 0, 1) := by decide +kernel
theorem dX10_item_52 : decode cX10_item 52 = .ok (.iconst 1, 1) := by decide +kernel
theorem dX10_item_53 : decode cX10_item 53 = .ok (.iconst 1, 1) := by decide +kernel
theorem dX10_item_54 : decode cX10_item 54 = .ok (.bipush 100, 2) := by decide +kernel
theorem dX10_item_56 : decode cX10_item 56 = .ok (.iconst 0, 1) := by decide +kernel
theorem dX10_item_57 : decode cX10_item 57 = .ok (.invokevirtual 283, 3) := by decide +kernel
theorem dX10_item_60 : decode cX10_item 60 = .ok (.iastore, 1) := by decide +kernel
theorem dX10_item_61 : decode cX10_item 61 = .ok (.goto 7, 3) := by decide +kernel
theorem dX10_item_64 : decode cX10_item 64 = .ok (.aload_n 0, 1) := by decide +kernel
theorem dX10_item_65 : decode cX10_item 65 = .ok (.invokevirtual 315, 3) := by decide +kernel
theorem dX10_item_68 : decode cX10_item 68 = .ok (.return_, 1) := by decide +kernel
theorem dX10_book_0 : decode cX10_book 0 = .ok (.aload_n 0, 1) := by decide +kernel
theorem dX10_book_1 : decode cX10_book 1 = .ok (.invokevirtual 188, 3) := by decide +kernel
theorem dX10_book_4 : decode cX10_book 4 = .ok (.aload_n 0, 1) := by decide +kernel
theorem dX10_book_5 : decode cX10_book 5 = .ok (.iconst 0, 1) := by decide +kernel
theorem dX10_book_6 : decode cX10_book 6 = .ok (.putfield 230, 3) := by decide +kernel
theorem dX10_book_9 : decode cX10_book 9 = .ok (.aload_n 0, 1) := by decide +kernel
theorem dX10_book_10 : decode cX10_book 10 = .ok (.iconst 0, 1) := by decide +kernel
theorem dX10_book_11 : decode cX10_book 11 = .ok (.putfield 245, 3) := by decide +kernel
theorem dX10_book_14 : decode cX10_book 14 = .ok (.aload_n 0, 1) := by decide +kernel
theorem dX10_book_15 : decode cX10_book 15 = .ok (.invokevirtual 249, 3) := by decide +kernel
theorem dX10_book_18 : decode cX10_book 18 = .ok (.iconst 1, 1) := by decide +kernel
theorem dX10_book_19 : decode cX10_book 19 = .ok (.istore_n 1, 1) := by decide +kernel
theorem dX10_book_20 : decode cX10_book 20 = .ok (.aload_n 0, 1) := by decide +kernel
theorem dX10_book_21 : decode cX10_book 21 = .ok (.invokevirtual 318, 3) := by decide +kernel
theorem dX10_book_24 : decode cX10_book 24 = .ok (.aload_n 0, 1) := by decide +kernel
theorem dX10_book_25 : decode cX10_book 25 = .ok (.getfield 245, 3) := by decide +kernel
theorem dX10_book_28 : decode cX10_book 28 = .ok (.ifCond .ne 46, 3) := by decide +kernel
theorem dX10_book_31 : decode cX10_book 31 = .ok (.aload_n 0, 1) := by decide +kernel
theorem dX10_book_32 : decode cX10_book 32 = .ok (.getfield 233, 3) := by decide +kernel
theorem dX10_book_35 : decode cX10_book 35 = .ok (.aload_n 0, 1) := by decide +kernel
theorem dX10_book_36 : decode cX10_book 36 = .ok (.getfield 219, 3) := by decide +kernel
theorem dX10_book_39 : decode cX10_book 39 = .ok (.if_icmp .ge 35, 3) := by decide +kernel
theorem dX10_book_42 : decode cX10_book 42 = .ok (.aload_n 0, 1) := by decide +kernel
theorem dX10_book_43 : decode cX10_book 43 = .ok (.aload_n 0, 1) := by decide +kernel
theorem dX10_book_44 : decode cX10_book 44 = .ok (.aload_n 0, 1) := by decide +kernel
theorem dX10_book_45 : decode cX10_book 45 = .ok (.getfield 233, 3) := by decide +kernel
theorem dX10_book_48 : decode cX10_book 48 = .ok (.invokevirtual 236, 3) := by decide +kernel
theorem dX10_book_51 : decode cX10_book 51 = .ok (.bipush 59, 2) := by decide +kernel
theorem dX10_book_53 : decode cX10_book 53 = .ok (.if_icmp .ne 7, 3) := by decide +kernel
theorem dX10_book_56 : decode cX10_book 56 = .ok (.iconst 1, 1) := by decide +kernel
theorem dX10_book_57 : decode cX10_book 57 = .ok (.goto 4, 3) := by decide +kernel
theorem dX10_book_60 : decode cX10_book 60 = .ok (.iconst 0, 1) := by decide +kernel
theorem dX10_book_61 : decode cX10_book 61 = .ok (.invokevirtual 259, 3) := by decide +kernel
theorem dX10_book_64 : decode cX10_book 64 = .ok (.aload_n 0, 1) := by decide +kernel
theorem dX10_book_65 : decode cX10_book 65 = .ok (.invokevirtual 318, 3) := by decide +kernel
theorem dX10_book_68 : decode cX10_book 68 = .ok (.iinc 1 1, 3) := by decide +kernel
theorem dX10_book_71 : decode cX10_book 71 = .ok (.goto (-47), 3) := by decide +kernel
theorem dX10_book_74 : decode cX10_book 74 = .ok (.aload_n 0, 1) := by decide +kernel
theorem dX10_book_75 : decode cX10_book 75 = .ok (.iconst 0, 1) := by decide +kernel
theorem dX10_book_76 : decode cX10_book 76 = .ok (.putfield 219, 3) := by decide +kernel
theorem dX10_book_79 : decode cX10_book 79 = .ok (.aload_n 0, 1) := by decide +kernel
theorem dX10_book_80 : decode cX10_book 80 = .ok (.getfield 245, 3) := by decide +kernel
theorem dX10_book_83 : decode cX10_book 83 = .ok (.ifCond .eq 14, 3) := by decide +kernel
theorem dX10_book_86 : decode cX10_book 86 = .ok (.aload_n 0, 1) := by decide +kernel
theorem dX10_book_87 : decode cX10_book 87 = .ok (.invokevirtual 194, 3) := by decide +kernel
theorem dX10_book_90 : decode cX10_book 90 = .ok (.iconst (-1), 1) := by decide +kernel
theorem dX10_book_91 : decode cX10_book 91 = .ok (.aload_n 0, 1) := by decide +kernel
theorem dX10_book_92 : decode cX10_book 92 = .ok (.getfield 233, 3) := by decide +kernel
theorem dX10_book_95 : decode cX10_book 95 = .ok (.isub, 1) := by decide +kernel
theorem dX10_book_96 : decode cX10_book 96 = .ok (.ireturn, 1) := by decide +kernel
theorem dX10_book_97 : decode cX10_book 97 = .ok (.iload_n 1, 1) := by decide +kernel
theorem dX10_book_98 : decode cX10_book 98 = .ok (.ireturn, 1) := by decide +kernel
theorem dX10_isOne_0 : decode cX10_isOne 0 = .ok (.iload_n 0, 1) := by decide +kernel
theorem dX10_isOne_1 : decode cX10_isOne 1 = .ok (.i2l, 1) := by decide +kernel
theorem dX10_isOne_2 : decode cX10_isOne 2 = .ok (.lconst 0, 1) := by decide +kernel
theorem dX10_isOne_3 : decode cX10_isOne 3 = .ok (.ldc2_w 321, 3) := by decide +kernel
theorem dX10_isOne_6 : decode cX10_isOne 6 = .ok (.invokestatic 45, 3) := by decide +kernel
theorem dX10_isOne_9 : decode cX10_isOne 9 = .ok (.ireturn, 1) := by decide +kernel
theorem dX10_sheet_0 : decode cX10_sheet 0 = .ok (.iload_n 1, 1) := by decide +kernel
theorem dX10_sheet_1 : decode cX10_sheet 1 = .ok (.invokestatic 323, 3) := by decide +kernel
theorem dX10_sheet_4 : decode cX10_sheet 4 = .ok (.ifCond .eq 25, 3) := by decide +kernel
theorem dX10_sheet_7 : decode cX10_sheet 7 = .ok (.iload_n 2, 1) := by decide +kernel
theorem dX10_sheet_8 : decode cX10_sheet 8 = .ok (.ifCond .eq 28, 3) := by decide +kernel
theorem dX10_sheet_11 : decode cX10_sheet 11 = .ok (.iload_n 2, 1) := by decide +kernel
theorem dX10_sheet_12 : decode cX10_sheet 12 = .ok (.bipush 8, 2) := by decide +kernel
theorem dX10_sheet_14 : decode cX10_sheet 14 = .ok (.if_icmp .eq 22, 3) := by decide +kernel
theorem dX10_sheet_17 : decode cX10_sheet 17 = .ok (.iload_n 2, 1) := by decide +kernel
theorem dX10_sheet_18 : decode cX10_sheet 18 = .ok (.bipush 16, 2) := by decide +kernel
theorem dX10_sheet_20 : decode cX10_sheet 20 = .ok (.if_icmp .eq 16, 3) := by decide +kernel
theorem dX10_sheet_23 : decode cX10_sheet 23 = .ok (.iload_n 2, 1) := by decide +kernel
theorem dX10_sheet_24 : decode cX10_sheet 24 = .ok (.bipush 64, 2) := by decide +kernel
theorem dX10_sheet_26 : decode cX10_sheet 26 = .ok (.if_icmp .eq 10, 3) := by decide +kernel
theorem dX10_sheet_29 : decode cX10_sheet 29 = .ok (.aload_n 0, 1) := by decide +kernel
theorem dX10_sheet_30 : decode cX10_sheet 30 = .ok (.ldc 44, 2) := by decide +kernel
theorem dX10_sheet_32 : decode cX10_sheet 32 = .ok (.invokevirtual 67, 3) := by decide +kernel
theorem dX10_sheet_35 : decode cX10_sheet 35 = .ok (.ireturn, 1) := by decide +kernel
theorem dX10_sheet_36 : decode cX10_sheet 36 = .ok (.iload_n 3, 1) := by decide +kernel
theorem dX10_sheet_37 : decode cX10_sheet 37 = .ok (.ifCond .ge 10, 3) := by decide +kernel
theorem dX10_sheet_40 : decode cX10_sheet 40 = .ok (.aload_n 0, 1) := by decide +kernel
theorem dX10_sheet_41 : decode cX10_sheet 41 = .ok (.ldc 211, 2) := by decide +kernel
theorem dX10_sheet_43 : decode cX10_sheet 43 = .ok (.invokevirtual 67, 3) := by decide +kernel
theorem dX10_sheet_46 : decode cX10_sheet 46 = .ok (.ireturn, 1) := by decide +kernel
theorem dX10_sheet_47 : decode cX10_sheet 47 = .ok (.iload_n 3, 1) := by decide +kernel
theorem dX10_sheet_48 : decode cX10_sheet 48 = .ok (.bipush 40, 2) := by decide +kernel
theorem dX10_sheet_50 : decode cX10_sheet 50 = .ok (.if_icmp .le 10, 3) := by decide +kernel
theorem dX10_sheet_53 : decode cX10_sheet 53 = .ok (.aload_n 0, 1) := by decide +kernel
theorem dX10_sheet_54 : decode cX10_sheet 54 = .ok (.ldc 44, 2) := by decide +kernel
theorem dX10_sheet_56 : decode cX10_sheet 56 = .ok (.invokevirtual 67, 3) := by decide +kernel
theorem dX10_sheet_59 : decode cX10_sheet 59 = .ok (.ireturn, 1) := by decide +kernel
theorem dX10_sheet_60 : decode cX10_sheet 60 = .ok (.aload_n 0, 1) := by decide +kernel
theorem dX10_sheet_61 : decode cX10_sheet 61 = .ok (.getfield 31, 3) := by decide +kernel
theorem dX10_sheet_64 : decode cX10_sheet 64 = .ok (.iload_n 1, 1) := by decide +kernel
theorem dX10_sheet_65 : decode cX10_sheet 65 = .ok (.iload_n 2, 1) := by decide +kernel
theorem dX10_sheet_66 : decode cX10_sheet 66 = .ok (.iastore, 1) := by decide +kernel
theorem dX10_sheet_67 : decode cX10_sheet 67 = .ok (.aload_n 0, 1) := by decide +kernel
theorem dX10_sheet_68 : decode cX10_sheet 68 = .ok (.getfield 34, 3) := by decide +kernel
theorem dX10_sheet_71 : decode cX10_sheet 71 = .ok (.iload_n 1, 1) := by decide +kernel
theorem dX10_sheet_72 : decode cX10_sheet 72 = .ok (.iload_n 2, 1) := by decide +kernel
theorem dX10_sheet_73 : decode cX10_sheet 73 = .ok (.ifCond .ne 7, 3) := by decide +kernel
theorem dX10_sheet_76 : decode cX10_sheet 76 = .ok (.iconst 0, 1) := by decide +kernel
theorem dX10_sheet_77 : decode cX10_sheet 77 = .ok (.goto 4, 3) := by decide +kernel
theorem dX10_sheet_80 : decode cX10_sheet 80 = .ok (.iload_n 3, 1) := by decide +kernel
theorem dX10_sheet_81 : decode cX10_sheet 81 = .ok (.iastore, 1) := by decide +kernel
theorem dX10_sheet_82 : decode cX10_sheet 82 = .ok (.iconst 0, 1) := by decide +kernel
theorem dX10_sheet_83 : decode cX10_sheet 83 = .ok (.istore 4, 2) := by decide +kernel
theorem dX10_sheet_85 : decode cX10_sheet 85 = .ok (.iload 4, 2) := by decide +kernel
theorem dX10_sheet_87 : decode cX10_sheet 87 = .ok (.bipush 40, 2) := by decide +kernel
theorem dX10_sheet_89 : decode cX10_sheet 89 = .ok (.if_icmp .ge 22, 3) := by decide +kernel
theorem dX10_sheet_92 : decode cX10_sheet 92 = .ok (.aload_n 0, 1) := by decide +kernel
theorem dX10_sheet_93 : decode cX10_sheet 93 = .ok (.getfield 37, 3) := by decide +kernel
theorem dX10_sheet_96 : decode cX10_sheet 96 = .ok (.bipush 40, 2) := by decide +kernel
theorem dX10_sheet_98 : decode cX10_sheet 98 = .ok (.iload_n 1, 1) := by decide +kernel
theorem dX10_sheet_99 : decode cX10_sheet 99 = .ok (.imul, 1) := by decide +kernel
theorem dX10_sheet_100 : decode cX10_sheet 100 = .ok (.iload 4, 2) := by decide +kernel
theorem dX10_sheet_102 : decode cX10_sheet 102 = .ok (.iadd, 1) := by decide +kernel
theorem dX10_sheet_103 : decode cX10_sheet 103 = .ok (.lconst 0, 1) := by decide +kernel
theorem dX10_sheet_104 : decode cX10_sheet 104 = .ok (.lastore, 1) := by decide +kernel
theorem dX10_sheet_105 : decode cX10_sheet 105 = .ok (.iinc 4 1, 3) := by decide +kernel
theorem dX10_sheet_108 : decode cX10_sheet 108 = .ok (.goto (-23), 3) := by decide +kernel
theorem dX10_sheet_111 : decode cX10_sheet 111 = .ok (.aload_n 0, 1) := by decide +kernel
theorem dX10_sheet_112 : decode cX10_sheet 112 = .ok (.getfield 34, 3) := by decide +kernel
theorem dX10_sheet_115 : decode cX10_sheet 115 = .ok (.iload_n 1, 1) := by decide +kernel
theorem dX10_sheet_116 : decode cX10_sheet 116 = .ok (.iaload, 1) := by decide +kernel
theorem dX10_sheet_117 : decode cX10_sheet 117 = .ok (.ireturn, 1) := by decide +kernel
theorem dX10_narrowed_0 : decode cX10_narrowed 0 = .ok (.iload_n 0, 1) := by decide +kernel
theorem dX10_narrowed_1 : decode cX10_narrowed 1 = .ok (.bipush 8, 2) := by decide +kernel
theorem dX10_narrowed_3 : decode cX10_narrowed 3 = .ok (.if_icmp .ne 10, 3) := by decide +kernel
theorem dX10_narrowed_6 : decode cX10_narrowed 6 = .ok (.lload_n 1, 1) := by decide +kernel
theorem dX10_narrowed_7 : decode cX10_narrowed 7 = .ok (.l2i, 1) := by decide +kernel
theorem dX10_narrowed_8 : decode cX10_narrowed 8 = .ok (.i2b, 1) := by decide +kernel
theorem dX10_narrowed_9 : decode cX10_narrowed 9 = .ok (.i2l, 1) := by decide +kernel
theorem dX10_narrowed_10 : decode cX10_narrowed 10 = .ok (.goto 17, 3) := by decide +kernel
theorem dX10_narrowed_13 : decode cX10_narrowed 13 = .ok (.iload_n 0, 1) := by decide +kernel
theorem dX10_narrowed_14 : decode cX10_narrowed 14 = .ok (.bipush 16, 2) := by decide +kernel
theorem dX10_narrowed_16 : decode cX10_narrowed 16 = .ok (.if_icmp .ne 10, 3) := by decide +kernel
theorem dX10_narrowed_19 : decode cX10_narrowed 19 = .ok (.lload_n 1, 1) := by decide +kernel
theorem dX10_narrowed_20 : decode cX10_narrowed 20 = .ok (.l2i, 1) := by decide +kernel
theorem dX10_narrowed_21 : decode cX10_narrowed 21 = .ok (.i2s, 1) := by decide +kernel
theorem dX10_narrowed_22 : decode cX10_narrowed 22 = .ok (.i2l, 1) := by decide +kernel
theorem dX10_narrowed_23 : decode cX10_narrowed 23 = .ok (.goto 4, 3) := by decide +kernel
theorem dX10_narrowed_26 : decode cX10_narrowed 26 = .ok (.lload_n 1, 1) := by decide +kernel
theorem dX10_narrowed_27 : decode cX10_narrowed 27 = .ok (.lreturn, 1) := by decide +kernel
theorem dX10_wrong_0 : decode cX10_wrong 0 = .ok (.iload_n 1, 1) := by decide +kernel
theorem dX10_wrong_1 : decode cX10_wrong 1 = .ok (.invokestatic 323, 3) := by decide +kernel
theorem dX10_wrong_4 : decode cX10_wrong 4 = .ok (.ifCond .ne 8, 3) := by decide +kernel
theorem dX10_wrong_7 : decode cX10_wrong 7 = .ok (.ldc 44, 2) := by decide +kernel
theorem dX10_wrong_9 : decode cX10_wrong 9 = .ok (.goto 19, 3) := by decide +kernel
theorem dX10_wrong_12 : decode cX10_wrong 12 = .ok (.aload_n 0, 1) := by decide +kernel
theorem dX10_wrong_13 : decode cX10_wrong 13 = .ok (.getfield 31, 3) := by decide +kernel
theorem dX10_wrong_16 : decode cX10_wrong 16 = .ok (.iload_n 1, 1) := by decide +kernel
theorem dX10_wrong_17 : decode cX10_wrong 17 = .ok (.iaload, 1) := by decide +kernel
theorem dX10_wrong_18 : decode cX10_wrong 18 = .ok (.ifCond .ne 9, 3) := by decide +kernel
theorem dX10_wrong_21 : decode cX10_wrong 21 = .ok (.ldc_w 326, 3) := by decide +kernel
theorem dX10_wrong_24 : decode cX10_wrong 24 = .ok (.goto 4, 3) := by decide +kernel
theorem dX10_wrong_27 : decode cX10_wrong 27 = .ok (.iconst 0, 1) := by decide +kernel
theorem dX10_wrong_28 : decode cX10_wrong 28 = .ok (.ireturn, 1) := by decide +kernel
theorem dX10_write_0 : decode cX10_write 0 = .ok (.aload_n 0, 1) := by decide +kernel
theorem dX10_write_1 : decode cX10_write 1 = .ok (.iload_n 1, 1) := by decide +kernel
theorem dX10_write_2 : decode cX10_write 2 = .ok (.invokevirtual 327, 3) := by decide +kernel
theorem dX10_write_5 : decode cX10_write 5 = .ok (.istore 5, 2) := by decide +kernel
theorem dX10_write_7 : decode cX10_write 7 = .ok (.iload 5, 2) := by decide +kernel
theorem dX10_write_9 : decode cX10_write 9 = .ok (.ifCond .eq 11, 3) := by decide +kernel
theorem dX10_write_12 : decode cX10_write 12 = .ok (.aload_n 0, 1) := by decide +kernel
theorem dX10_write_13 : decode cX10_write 13 = .ok (.iload 5, 2) := by decide +kernel
theorem dX10_write_15 : decode cX10_write 15 = .ok (.invokevirtual 67, 3) := by decide +kernel
theorem dX10_write_18 : decode cX10_write 18 = .ok (.i2l, 1) := by decide +kernel
theorem dX10_write_19 : decode cX10_write 19 = .ok (.lreturn, 1) := by decide +kernel
theorem dX10_write_20 : decode cX10_write 20 = .ok (.iload_n 2, 1) := by decide +kernel
theorem dX10_write_21 : decode cX10_write 21 = .ok (.i2l, 1) := by decide +kernel
theorem dX10_write_22 : decode cX10_write 22 = .ok (.lconst 0, 1) := by decide +kernel
theorem dX10_write_23 : decode cX10_write 23 = .ok (.aload_n 0, 1) := by decide +kernel
theorem dX10_write_24 : decode cX10_write 24 = .ok (.getfield 34, 3) := by decide +kernel
theorem dX10_write_27 : decode cX10_write 27 = .ok (.iload_n 1, 1) := by decide +kernel
theorem dX10_write_28 : decode cX10_write 28 = .ok (.iaload, 1) := by decide +kernel
theorem dX10_write_29 : decode cX10_write 29 = .ok (.iconst 1, 1) := by decide +kernel
theorem dX10_write_30 : decode cX10_write 30 = .ok (.isub, 1) := by decide +kernel
theorem dX10_write_31 : decode cX10_write 31 = .ok (.i2l, 1) := by decide +kernel
theorem dX10_write_32 : decode cX10_write 32 = .ok (.invokestatic 45, 3) := by decide +kernel
theorem dX10_write_35 : decode cX10_write 35 = .ok (.ifCond .ne 11, 3) := by decide +kernel
theorem dX10_write_38 : decode cX10_write 38 = .ok (.aload_n 0, 1) := by decide +kernel
theorem dX10_write_39 : decode cX10_write 39 = .ok (.ldc 44, 2) := by decide +kernel
theorem dX10_write_41 : decode cX10_write 41 = .ok (.invokevirtual 67, 3) := by decide +kernel
theorem dX10_write_44 : decode cX10_write 44 = .ok (.i2l, 1) := by decide +kernel
theorem dX10_write_45 : decode cX10_write 45 = .ok (.lreturn, 1) := by decide +kernel
theorem dX10_write_46 : decode cX10_write 46 = .ok (.aload_n 0, 1) := by decide +kernel
theorem dX10_write_47 : decode cX10_write 47 = .ok (.getfield 37, 3) := by decide +kernel
theorem dX10_write_50 : decode cX10_write 50 = .ok (.bipush 40, 2) := by decide +kernel
theorem dX10_write_52 : decode cX10_write 52 = .ok (.iload_n 1, 1) := by decide +kernel
theorem dX10_write_53 : decode cX10_write 53 = .ok (.imul, 1) := by decide +kernel
theorem dX10_write_54 : decode cX10_write 54 = .ok (.iload_n 2, 1) := by decide +kernel
theorem dX10_write_55 : decode cX10_write 55 = .ok (.iadd, 1) := by decide +kernel
theorem dX10_write_56 : decode cX10_write 56 = .ok (.laload, 1) := by decide +kernel
theorem dX10_write_57 : decode cX10_write 57 = .ok (.lstore 6, 2) := by decide +kernel
theorem dX10_write_59 : decode cX10_write 59 = .ok (.aload_n 0, 1) := by decide +kernel
theorem dX10_write_60 : decode cX10_write 60 = .ok (.getfield 37, 3) := by decide +kernel
theorem dX10_write_63 : decode cX10_write 63 = .ok (.bipush 40, 2) := by decide +kernel
theorem dX10_write_65 : decode cX10_write 65 = .ok (.iload_n 1, 1) := by decide +kernel
theorem dX10_write_66 : decode cX10_write 66 = .ok (.imul, 1) := by decide +kernel
theorem dX10_write_67 : decode cX10_write 67 = .ok (.iload_n 2, 1) := by decide +kernel
theorem dX10_write_68 : decode cX10_write 68 = .ok (.iadd, 1) := by decide +kernel
theorem dX10_write_69 : decode cX10_write 69 = .ok (.aload_n 0, 1) := by decide +kernel
theorem dX10_write_70 : decode cX10_write 70 = .ok (.getfield 31, 3) := by decide +kernel
theorem dX10_write_73 : decode cX10_write 73 = .ok (.iload_n 1, 1) := by decide +kernel
theorem dX10_write_74 : decode cX10_write 74 = .ok (.iaload, 1) := by decide +kernel
theorem dX10_write_75 : decode cX10_write 75 = .ok (.lload_n 3, 1) := by decide +kernel
theorem dX10_write_76 : decode cX10_write 76 = .ok (.invokestatic 330, 3) := by decide +kernel
theorem dX10_write_79 : decode cX10_write 79 = .ok (.lastore, 1) := by decide +kernel
theorem dX10_write_80 : decode cX10_write 80 = .ok (.lload 6, 2) := by decide +kernel
theorem dX10_write_82 : decode cX10_write 82 = .ok (.lreturn, 1) := by decide +kernel
theorem dX10_copy_0 : decode cX10_copy 0 = .ok (.iload_n 1, 1) := by decide +kernel
theorem dX10_copy_1 : decode cX10_copy 1 = .ok (.invokestatic 323, 3) := by decide +kernel
theorem dX10_copy_4 : decode cX10_copy 4 = .ok (.ifCond .eq 10, 3) := by decide +kernel
theorem dX10_copy_7 : decode cX10_copy 7 = .ok (.iload_n 3, 1) := by decide +kernel
theorem dX10_copy_8 : decode cX10_copy 8 = .ok (.invokestatic 323, 3) := by decide +kernel
theorem dX10_copy_11 : decode cX10_copy 11 = .ok (.ifCond .ne 10, 3) := by decide +kernel
theorem dX10_copy_14 : decode cX10_copy 14 = .ok (.aload_n 0, 1) := by decide +kernel
theorem dX10_copy_15 : decode cX10_copy 15 = .ok (.ldc 44, 2) := by decide +kernel
theorem dX10_copy_17 : decode cX10_copy 17 = .ok (.invokevirtual 67, 3) := by decide +kernel
theorem dX10_copy_20 : decode cX10_copy 20 = .ok (.ireturn, 1) := by decide +kernel
theorem dX10_copy_21 : decode cX10_copy 21 = .ok (.aload_n 0, 1) := by decide +kernel
theorem dX10_copy_22 : decode cX10_copy 22 = .ok (.getfield 31, 3) := by decide +kernel
theorem dX10_copy_25 : decode cX10_copy 25 = .ok (.iload_n 1, 1) := by decide +kernel
theorem dX10_copy_26 : decode cX10_copy 26 = .ok (.iaload, 1) := by decide +kernel
theorem dX10_copy_27 : decode cX10_copy 27 = .ok (.ifCond .eq 12, 3) := by decide +kernel
theorem dX10_copy_30 : decode cX10_copy 30 = .ok (.aload_n 0, 1) := by decide +kernel
theorem dX10_copy_31 : decode cX10_copy 31 = .ok (.getfield 31, 3) := by decide +kernel
theorem dX10_copy_34 : decode cX10_copy 34 = .ok (.iload_n 3, 1) := by decide +kernel
theorem dX10_copy_35 : decode cX10_copy 35 = .ok (.iaload, 1) := by decide +kernel
theorem dX10_copy_36 : decode cX10_copy 36 = .ok (.ifCond .ne 11, 3) := by decide +kernel
theorem dX10_copy_39 : decode cX10_copy 39 = .ok (.aload_n 0, 1) := by decide +kernel
theorem dX10_copy_40 : decode cX10_copy 40 = .ok (.ldc_w 326, 3) := by decide +kernel
theorem dX10_copy_43 : decode cX10_copy 43 = .ok (.invokevirtual 67, 3) := by decide +kernel
theorem dX10_copy_46 : decode cX10_copy 46 = .ok (.ireturn, 1) := by decide +kernel
theorem dX10_copy_47 : decode cX10_copy 47 = .ok (.aload_n 0, 1) := by decide +kernel
theorem dX10_copy_48 : decode cX10_copy 48 = .ok (.getfield 31, 3) := by decide +kernel
theorem dX10_copy_51 : decode cX10_copy 51 = .ok (.iload_n 1, 1) := by decide +kernel
theorem dX10_copy_52 : decode cX10_copy 52 = .ok (.iaload, 1) := by decide +kernel
theorem dX10_copy_53 : decode cX10_copy 53 = .ok (.aload_n 0, 1) := by decide +kernel
theorem dX10_copy_54 : decode cX10_copy 54 = .ok (.getfield 31, 3) := by decide +kernel
theorem dX10_copy_57 : decode cX10_copy 57 = .ok (.iload_n 3, 1) := by decide +kernel
theorem dX10_copy_58 : decode cX10_copy 58 = .ok (.iaload, 1) := by decide +kernel
theorem dX10_copy_59 : decode cX10_copy 59 = .ok (.if_icmp .eq 10, 3) := by decide +kernel
theorem dX10_copy_62 : decode cX10_copy 62 = .ok (.aload_n 0, 1) := by decide +kernel
theorem dX10_copy_63 : decode cX10_copy 63 = .ok (.ldc 93, 2) := by decide +kernel
theorem dX10_copy_65 : decode cX10_copy 65 = .ok (.invokevirtual 67, 3) := by decide +kernel
theorem dX10_copy_68 : decode cX10_copy 68 = .ok (.ireturn, 1) := by decide +kernel
theorem dX10_copy_69 : decode cX10_copy 69 = .ok (.iload_n 2, 1) := by decide +kernel
theorem dX10_copy_70 : decode cX10_copy 70 = .ok (.ifCond .lt 40, 3) := by decide +kernel
theorem dX10_copy_73 : decode cX10_copy 73 = .ok (.iload 4, 2) := by decide +kernel
theorem dX10_copy_75 : decode cX10_copy 75 = .ok (.ifCond .lt 35, 3) := by decide +kernel
theorem dX10_copy_78 : decode cX10_copy 78 = .ok (.iload 5, 2) := by decide +kernel
theorem dX10_copy_80 : decode cX10_copy 80 = .ok (.ifCond .lt 30, 3) := by decide +kernel
theorem dX10_copy_83 : decode cX10_copy 83 = .ok (.iload 5, 2) := by decide +kernel
theorem dX10_copy_85 : decode cX10_copy 85 = .ok (.aload_n 0, 1) := by decide +kernel
theorem dX10_copy_86 : decode cX10_copy 86 = .ok (.getfield 34, 3) := by decide +kernel
theorem dX10_copy_89 : decode cX10_copy 89 = .ok (.iload_n 1, 1) := by decide +kernel
theorem dX10_copy_90 : decode cX10_copy 90 = .ok (.iaload, 1) := by decide +kernel
theorem dX10_copy_91 : decode cX10_copy 91 = .ok (.iload_n 2, 1) := by decide +kernel
theorem dX10_copy_92 : decode cX10_copy 92 = .ok (.isub, 1) := by decide +kernel
theorem dX10_copy_93 : decode cX10_copy 93 = .ok (.if_icmp .gt 17, 3) := by decide +kernel
theorem dX10_copy_96 : decode cX10_copy 96 = .ok (.iload 5, 2) := by decide +kernel
theorem dX10_copy_98 : decode cX10_copy 98 = .ok (.aload_n 0, 1) := by decide +kernel
theorem dX10_copy_99 : decode cX10_copy 99 = .ok (.getfield 34, 3) := by decide +kernel
theorem dX10_copy_102 : decode cX10_copy 102 = .ok (.iload_n 3, 1) := by decide +kernel
theorem dX10_copy_103 : decode cX10_copy 103 = .ok (.iaload, 1) := by decide +kernel
theorem dX10_copy_104 : decode cX10_copy 104 = .ok (.iload 4, 2) := by decide +kernel
theorem dX10_copy_106 : decode cX10_copy 106 = .ok (.isub, 1) := by decide +kernel
theorem dX10_copy_107 : decode cX10_copy 107 = .ok (.if_icmp .le 10, 3) := by decide +kernel
theorem dX10_copy_110 : decode cX10_copy 110 = .ok (.aload_n 0, 1) := by decide +kernel
theorem dX10_copy_111 : decode cX10_copy 111 = .ok (.ldc 44, 2) := by decide +kernel
theorem dX10_copy_113 : decode cX10_copy 113 = .ok (.invokevirtual 67, 3) := by decide +kernel
theorem dX10_copy_116 : decode cX10_copy 116 = .ok (.ireturn, 1) := by decide +kernel
theorem dX10_copy_117 : decode cX10_copy 117 = .ok (.iconst 0, 1) := by decide +kernel
theorem dX10_copy_118 : decode cX10_copy 118 = .ok (.istore 6, 2) := by decide +kernel
theorem dX10_copy_120 : decode cX10_copy 120 = .ok (.iload 6, 2) := by decide +kernel
theorem dX10_copy_122 : decode cX10_copy 122 = .ok (.iload 5, 2) := by decide +kernel
theorem dX10_copy_124 : decode cX10_copy 124 = .ok (.if_icmp .ge 30, 3) := by decide +kernel
theorem dX10_copy_127 : decode cX10_copy 127 = .ok (.aload_n 0, 1) := by decide +kernel
theorem dX10_copy_128 : decode cX10_copy 128 = .ok (.getfield 41, 3) := by decide +kernel
theorem dX10_copy_131 : decode cX10_copy 131 = .ok (.iload 6, 2) := by decide +kernel
theorem dX10_copy_133 : decode cX10_copy 133 = .ok (.aload_n 0, 1) := by decide +kernel
theorem dX10_copy_134 : decode cX10_copy 134 = .ok (.getfield 37, 3) := by decide +kernel
theorem dX10_copy_137 : decode cX10_copy 137 = .ok (.bipush 40, 2) := by decide +kernel
theorem dX10_copy_139 : decode cX10_copy 139 = .ok (.iload_n 1, 1) := by decide +kernel
theorem dX10_copy_140 : decode cX10_copy 140 = .ok (.imul, 1) := by decide +kernel
theorem dX10_copy_141 : decode cX10_copy 141 = .ok (.iload_n 2, 1) := by decide +kernel
theorem dX10_copy_142 : decode cX10_copy 142 = .ok (.iadd, 1) := by decide +kernel
theorem dX10_copy_143 : decode cX10_copy 143 = .ok (.iload 6, 2) := by decide +kernel
theorem dX10_copy_145 : decode cX10_copy 145 = .ok (.iadd, 1) := by decide +kernel
theorem dX10_copy_146 : decode cX10_copy 146 = .ok (.laload, 1) := by decide +kernel
theorem dX10_copy_147 : decode cX10_copy 147 = .ok (.lastore, 1) := by decide +kernel
theorem dX10_copy_148 : decode cX10_copy 148 = .ok (.iinc 6 1, 3) := by decide +kernel
theorem dX10_copy_151 : decode cX10_copy 151 = .ok (.goto (-31), 3) := by decide +kernel
theorem dX10_copy_154 : decode cX10_copy 154 = .ok (.iconst 0, 1) := by decide +kernel
theorem dX10_copy_155 : decode cX10_copy 155 = .ok (.istore 6, 2) := by decide +kernel
theorem dX10_copy_157 : decode cX10_copy 157 = .ok (.iload 6, 2) := by decide +kernel
theorem dX10_copy_159 : decode cX10_copy 159 = .ok (.iload 5, 2) := by decide +kernel
theorem dX10_copy_161 : decode cX10_copy 161 = .ok (.if_icmp .ge 31, 3) := by decide +kernel
theorem dX10_copy_164 : decode cX10_copy 164 = .ok (.aload_n 0, 1) := by decide +kernel
theorem dX10_copy_165 : decode cX10_copy 165 = .ok (.getfield 37, 3) := by decide +kernel
theorem dX10_copy_168 : decode cX10_copy 168 = .ok (.bipush 40, 2) := by decide +kernel
theorem dX10_copy_170 : decode cX10_copy 170 = .ok (.iload_n 3, 1) := by decide +kernel
theorem dX10_copy_171 : decode cX10_copy 171 = .ok (.imul, 1) := by decide +kernel
theorem dX10_copy_172 : decode cX10_copy 172 = .ok (.iload 4, 2) := by decide +kernel
theorem dX10_copy_174 : decode cX10_copy 174 = .ok (.iadd, 1) := by decide +kernel
theorem dX10_copy_175 : decode cX10_copy 175 = .ok (.iload 6, 2) := by decide +kernel
theorem dX10_copy_177 : decode cX10_copy 177 = .ok (.iadd, 1) := by decide +kernel
theorem dX10_copy_178 : decode cX10_copy 178 = .ok (.aload_n 0, 1) := by decide +kernel
theorem dX10_copy_179 : decode cX10_copy 179 = .ok (.getfield 41, 3) := by decide +kernel
theorem dX10_copy_182 : decode cX10_copy 182 = .ok (.iload 6, 2) := by decide +kernel
theorem dX10_copy_184 : decode cX10_copy 184 = .ok (.laload, 1) := by decide +kernel
theorem dX10_copy_185 : decode cX10_copy 185 = .ok (.lastore, 1) := by decide +kernel
theorem dX10_copy_186 : decode cX10_copy 186 = .ok (.iinc 6 1, 3) := by decide +kernel
theorem dX10_copy_189 : decode cX10_copy 189 = .ok (.goto (-32), 3) := by decide +kernel
theorem dX10_copy_192 : decode cX10_copy 192 = .ok (.iload 5, 2) := by decide +kernel
theorem dX10_copy_194 : decode cX10_copy 194 = .ok (.ireturn, 1) := by decide +kernel
theorem dX10_lays_0 : decode cX10_lays 0 = .ok (.aload_n 0, 1) := by decide +kernel
theorem dX10_lays_1 : decode cX10_lays 1 = .ok (.iload_n 1, 1) := by decide +kernel
theorem dX10_lays_2 : decode cX10_lays 2 = .ok (.invokevirtual 327, 3) := by decide +kernel
theorem dX10_lays_5 : decode cX10_lays 5 = .ok (.istore_n 2, 1) := by decide +kernel
theorem dX10_lays_6 : decode cX10_lays 6 = .ok (.iload_n 2, 1) := by decide +kernel
theorem dX10_lays_7 : decode cX10_lays 7 = .ok (.ifCond .eq 9, 3) := by decide +kernel
theorem dX10_lays_10 : decode cX10_lays 10 = .ok (.aload_n 0, 1) := by decide +kernel
theorem dX10_lays_11 : decode cX10_lays 11 = .ok (.iload_n 2, 1) := by decide +kernel
theorem dX10_lays_12 : decode cX10_lays 12 = .ok (.invokevirtual 67, 3) := by decide +kernel
theorem dX10_lays_15 : decode cX10_lays 15 = .ok (.ireturn, 1) := by decide +kernel
theorem dX10_lays_16 : decode cX10_lays 16 = .ok (.iconst 0, 1) := by decide +kernel
theorem dX10_lays_17 : decode cX10_lays 17 = .ok (.istore_n 3, 1) := by decide +kernel
theorem dX10_lays_18 : decode cX10_lays 18 = .ok (.iconst 0, 1) := by decide +kernel
theorem dX10_lays_19 : decode cX10_lays 19 = .ok (.istore 4, 2) := by decide +kernel
theorem dX10_lays_21 : decode cX10_lays 21 = .ok (.iload 4, 2) := by decide +kernel
theorem dX10_lays_23 : decode cX10_lays 23 = .ok (.aload_n 0, 1) := by decide +kernel
theorem dX10_lays_24 : decode cX10_lays 24 = .ok (.getfield 34, 3) := by decide +kernel
theorem dX10_lays_27 : decode cX10_lays 27 = .ok (.iload_n 1, 1) := by decide +kernel
theorem dX10_lays_28 : decode cX10_lays 28 = .ok (.iaload, 1) := by decide +kernel
theorem dX10_lays_29 : decode cX10_lays 29 = .ok (.if_icmp .ge 69, 3) := by decide +kernel
theorem dX10_lays_32 : decode cX10_lays 32 = .ok (.iload 4, 2) := by decide +kernel
theorem dX10_lays_34 : decode cX10_lays 34 = .ok (.aload_n 0, 1) := by decide +kernel
theorem dX10_lays_35 : decode cX10_lays 35 = .ok (.getfield 7, 3) := by decide +kernel
theorem dX10_lays_38 : decode cX10_lays 38 = .ok (.iconst 0, 1) := by decide +kernel
theorem dX10_lays_39 : decode cX10_lays 39 = .ok (.iaload, 1) := by decide +kernel
theorem dX10_lays_40 : decode cX10_lays 40 = .ok (.if_icmp .ge 58, 3) := by decide +kernel
theorem dX10_lays_43 : decode cX10_lays 43 = .ok (.aload_n 0, 1) := by decide +kernel
theorem dX10_lays_44 : decode cX10_lays 44 = .ok (.getfield 37, 3) := by decide +kernel
theorem dX10_lays_47 : decode cX10_lays 47 = .ok (.bipush 40, 2) := by decide +kernel
theorem dX10_lays_49 : decode cX10_lays 49 = .ok (.iload_n 1, 1) := by decide +kernel
theorem dX10_lays_50 : decode cX10_lays 50 = .ok (.imul, 1) := by decide +kernel
theorem dX10_lays_51 : decode cX10_lays 51 = .ok (.iload 4, 2) := by decide +kernel
theorem dX10_lays_53 : decode cX10_lays 53 = .ok (.iadd, 1) := by decide +kernel
theorem dX10_lays_54 : decode cX10_lays 54 = .ok (.laload, 1) := by decide +kernel
theorem dX10_lays_55 : decode cX10_lays 55 = .ok (.lconst 0, 1) := by decide +kernel
theorem dX10_lays_56 : decode cX10_lays 56 = .ok (.ldc2_w 61, 3) := by decide +kernel
theorem dX10_lays_59 : decode cX10_lays 59 = .ok (.invokestatic 45, 3) := by decide +kernel
theorem dX10_lays_62 : decode cX10_lays 62 = .ok (.ifCond .eq 30, 3) := by decide +kernel
theorem dX10_lays_65 : decode cX10_lays 65 = .ok (.aload_n 0, 1) := by decide +kernel
theorem dX10_lays_66 : decode cX10_lays 66 = .ok (.getfield 7, 3) := by decide +kernel
theorem dX10_lays_69 : decode cX10_lays 69 = .ok (.iload 4, 2) := by decide +kernel
theorem dX10_lays_71 : decode cX10_lays 71 = .ok (.iconst 4, 1) := by decide +kernel
theorem dX10_lays_72 : decode cX10_lays 72 = .ok (.invokestatic 49, 3) := by decide +kernel
theorem dX10_lays_75 : decode cX10_lays 75 = .ok (.aload_n 0, 1) := by decide +kernel
theorem dX10_lays_76 : decode cX10_lays 76 = .ok (.getfield 37, 3) := by decide +kernel
theorem dX10_lays_79 : decode cX10_lays 79 = .ok (.bipush 40, 2) := by decide +kernel
theorem dX10_lays_81 : decode cX10_lays 81 = .ok (.iload_n 1, 1) := by decide +kernel
theorem dX10_lays_82 : decode cX10_lays 82 = .ok (.imul, 1) := by decide +kernel
theorem dX10_lays_83 : decode cX10_lays 83 = .ok (.iload 4, 2) := by decide +kernel
theorem dX10_lays_85 : decode cX10_lays 85 = .ok (.iadd, 1) := by decide +kernel
theorem dX10_lays_86 : decode cX10_lays 86 = .ok (.laload, 1) := by decide +kernel
theorem dX10_lays_87 : decode cX10_lays 87 = .ok (.l2i, 1) := by decide +kernel
theorem dX10_lays_88 : decode cX10_lays 88 = .ok (.iastore, 1) := by decide +kernel
theorem dX10_lays_89 : decode cX10_lays 89 = .ok (.iinc 3 1, 3) := by decide +kernel
theorem dX10_lays_92 : decode cX10_lays 92 = .ok (.iinc 4 1, 3) := by decide +kernel
theorem dX10_lays_95 : decode cX10_lays 95 = .ok (.goto (-74), 3) := by decide +kernel
theorem dX10_lays_98 : decode cX10_lays 98 = .ok (.iload_n 3, 1) := by decide +kernel
theorem dX10_lays_99 : decode cX10_lays 99 = .ok (.ireturn, 1) := by decide +kernel
theorem dX10_read_0 : decode cX10_read 0 = .ok (.aload_n 0, 1) := by decide +kernel
theorem dX10_read_1 : decode cX10_read 1 = .ok (.iload_n 1, 1) := by decide +kernel
theorem dX10_read_2 : decode cX10_read 2 = .ok (.invokevirtual 327, 3) := by decide +kernel
theorem dX10_read_5 : decode cX10_read 5 = .ok (.istore_n 2, 1) := by decide +kernel
theorem dX10_read_6 : decode cX10_read 6 = .ok (.iload_n 2, 1) := by decide +kernel
theorem dX10_read_7 : decode cX10_read 7 = .ok (.ifCond .eq 9, 3) := by decide +kernel
theorem dX10_read_10 : decode cX10_read 10 = .ok (.aload_n 0, 1) := by decide +kernel
theorem dX10_read_11 : decode cX10_read 11 = .ok (.iload_n 2, 1) := by decide +kernel
theorem dX10_read_12 : decode cX10_read 12 = .ok (.invokevirtual 67, 3) := by decide +kernel
theorem dX10_read_15 : decode cX10_read 15 = .ok (.ireturn, 1) := by decide +kernel
theorem dX10_read_16 : decode cX10_read 16 = .ok (.aload_n 0, 1) := by decide +kernel
theorem dX10_read_17 : decode cX10_read 17 = .ok (.getfield 7, 3) := by decide +kernel
theorem dX10_read_20 : decode cX10_read 20 = .ok (.iconst 3, 1) := by decide +kernel
theorem dX10_read_21 : decode cX10_read 21 = .ok (.iaload, 1) := by decide +kernel
theorem dX10_read_22 : decode cX10_read 22 = .ok (.bipush 59, 2) := by decide +kernel
theorem dX10_read_24 : decode cX10_read 24 = .ok (.if_icmp .le 10, 3) := by decide +kernel
theorem dX10_read_27 : decode cX10_read 27 = .ok (.aload_n 0, 1) := by decide +kernel
theorem dX10_read_28 : decode cX10_read 28 = .ok (.ldc 184, 2) := by decide +kernel
theorem dX10_read_30 : decode cX10_read 30 = .ok (.invokevirtual 67, 3) := by decide +kernel
theorem dX10_read_33 : decode cX10_read 33 = .ok (.ireturn, 1) := by decide +kernel
theorem dX10_read_34 : decode cX10_read 34 = .ok (.aload_n 0, 1) := by decide +kernel
theorem dX10_read_35 : decode cX10_read 35 = .ok (.invokevirtual 188, 3) := by decide +kernel
theorem dX10_read_38 : decode cX10_read 38 = .ok (.iconst 0, 1) := by decide +kernel
theorem dX10_read_39 : decode cX10_read 39 = .ok (.istore_n 3, 1) := by decide +kernel
theorem dX10_read_40 : decode cX10_read 40 = .ok (.iload_n 3, 1) := by decide +kernel
theorem dX10_read_41 : decode cX10_read 41 = .ok (.aload_n 0, 1) := by decide +kernel
theorem dX10_read_42 : decode cX10_read 42 = .ok (.getfield 34, 3) := by decide +kernel
theorem dX10_read_45 : decode cX10_read 45 = .ok (.iload_n 1, 1) := by decide +kernel
theorem dX10_read_46 : decode cX10_read 46 = .ok (.iaload, 1) := by decide +kernel
theorem dX10_read_47 : decode cX10_read 47 = .ok (.if_icmp .ge 37, 3) := by decide +kernel
theorem dX10_read_50 : decode cX10_read 50 = .ok (.aload_n 0, 1) := by decide +kernel
theorem dX10_read_51 : decode cX10_read 51 = .ok (.getfield 37, 3) := by decide +kernel
theorem dX10_read_54 : decode cX10_read 54 = .ok (.bipush 40, 2) := by decide +kernel
theorem dX10_read_56 : decode cX10_read 56 = .ok (.iload_n 1, 1) := by decide +kernel
theorem dX10_read_57 : decode cX10_read 57 = .ok (.imul, 1) := by decide +kernel
theorem dX10_read_58 : decode cX10_read 58 = .ok (.iload_n 3, 1) := by decide +kernel
theorem dX10_read_59 : decode cX10_read 59 = .ok (.iadd, 1) := by decide +kernel
theorem dX10_read_60 : decode cX10_read 60 = .ok (.laload, 1) := by decide +kernel
theorem dX10_read_61 : decode cX10_read 61 = .ok (.aload_n 0, 1) := by decide +kernel
theorem dX10_read_62 : decode cX10_read 62 = .ok (.getfield 7, 3) := by decide +kernel
theorem dX10_read_65 : decode cX10_read 65 = .ok (.iconst 4, 1) := by decide +kernel
theorem dX10_read_66 : decode cX10_read 66 = .ok (.iaload, 1) := by decide +kernel
theorem dX10_read_67 : decode cX10_read 67 = .ok (.i2l, 1) := by decide +kernel
theorem dX10_read_68 : decode cX10_read 68 = .ok (.lcmp, 1) := by decide +kernel
theorem dX10_read_69 : decode cX10_read 69 = .ok (.ifCond .ne 15, 3) := by decide +kernel
theorem dX10_read_72 : decode cX10_read 72 = .ok (.aload_n 0, 1) := by decide +kernel
theorem dX10_read_73 : decode cX10_read 73 = .ok (.invokevirtual 176, 3) := by decide +kernel
theorem dX10_read_76 : decode cX10_read 76 = .ok (.istore 4, 2) := by decide +kernel
theorem dX10_read_78 : decode cX10_read 78 = .ok (.iinc 3 1, 3) := by decide +kernel
theorem dX10_read_81 : decode cX10_read 81 = .ok (.goto (-41), 3) := by decide +kernel
theorem dX10_read_84 : decode cX10_read 84 = .ok (.aload_n 0, 1) := by decide +kernel
theorem dX10_read_85 : decode cX10_read 85 = .ok (.invokevirtual 194, 3) := by decide +kernel
theorem dX10_read_88 : decode cX10_read 88 = .ok (.iload_n 3, 1) := by decide +kernel
theorem dX10_read_89 : decode cX10_read 89 = .ok (.aload_n 0, 1) := by decide +kernel
theorem dX10_read_90 : decode cX10_read 90 = .ok (.getfield 34, 3) := by decide +kernel
theorem dX10_read_93 : decode cX10_read 93 = .ok (.iload_n 1, 1) := by decide +kernel
theorem dX10_read_94 : decode cX10_read 94 = .ok (.iaload, 1) := by decide +kernel
theorem dX10_read_95 : decode cX10_read 95 = .ok (.if_icmp .ne 7, 3) := by decide +kernel
theorem dX10_read_98 : decode cX10_read 98 = .ok (.iconst 0, 1) := by decide +kernel
theorem dX10_read_99 : decode cX10_read 99 = .ok (.goto 6, 3) := by decide +kernel
theorem dX10_read_102 : decode cX10_read 102 = .ok (.iconst 1, 1) := by decide +kernel
theorem dX10_read_103 : decode cX10_read 103 = .ok (.iload_n 3, 1) := by decide +kernel
theorem dX10_read_104 : decode cX10_read 104 = .ok (.iadd, 1) := by decide +kernel
theorem dX10_read_105 : decode cX10_read 105 = .ok (.ireturn, 1) := by decide +kernel
theorem dX10_image_0 : decode cX10_image 0 = .ok (.iconst 0, 1) := by decide +kernel
theorem dX10_image_1 : decode cX10_image 1 = .ok (.istore_n 1, 1) := by decide +kernel
theorem dX10_image_2 : decode cX10_image 2 = .ok (.iload_n 1, 1) := by decide +kernel
theorem dX10_image_3 : decode cX10_image 3 = .ok (.sipush 150, 3) := by decide +kernel
theorem dX10_image_6 : decode cX10_image 6 = .ok (.if_icmp .ge 21, 3) := by decide +kernel
theorem dX10_image_9 : decode cX10_image 9 = .ok (.aload_n 0, 1) := by decide +kernel
theorem dX10_image_10 : decode cX10_image 10 = .ok (.getfield 13, 3) := by decide +kernel
theorem dX10_image_13 : decode cX10_image 13 = .ok (.iload_n 1, 1) := by decide +kernel
theorem dX10_image_14 : decode cX10_image 14 = .ok (.aload_n 0, 1) := by decide +kernel
theorem dX10_image_15 : decode cX10_image 15 = .ok (.getfield 7, 3) := by decide +kernel
theorem dX10_image_18 : decode cX10_image 18 = .ok (.iload_n 1, 1) := by decide +kernel
theorem dX10_image_19 : decode cX10_image 19 = .ok (.iaload, 1) := by decide +kernel
theorem dX10_image_20 : decode cX10_image 20 = .ok (.iastore, 1) := by decide +kernel
theorem dX10_image_21 : decode cX10_image 21 = .ok (.iinc 1 1, 3) := by decide +kernel
theorem dX10_image_24 : decode cX10_image 24 = .ok (.goto (-22), 3) := by decide +kernel
theorem dX10_image_27 : decode cX10_image 27 = .ok (.aload_n 0, 1) := by decide +kernel
theorem dX10_image_28 : decode cX10_image 28 = .ok (.iconst 1, 1) := by decide +kernel
theorem dX10_image_29 : decode cX10_image 29 = .ok (.putfield 334, 3) := by decide +kernel
theorem dX10_image_32 : decode cX10_image 32 = .ok (.iconst 1, 1) := by decide +kernel
theorem dX10_image_33 : decode cX10_image 33 = .ok (.ireturn, 1) := by decide +kernel
theorem dX10_undo_0 : decode cX10_undo 0 = .ok (.aload_n 0, 1) := by decide +kernel
theorem dX10_undo_1 : decode cX10_undo 1 = .ok (.getfield 334, 3) := by decide +kernel
theorem dX10_undo_4 : decode cX10_undo 4 = .ok (.ifCond .ne 10, 3) := by decide +kernel
theorem dX10_undo_7 : decode cX10_undo 7 = .ok (.aload_n 0, 1) := by decide +kernel
theorem dX10_undo_8 : decode cX10_undo 8 = .ok (.ldc 132, 2) := by decide +kernel
theorem dX10_undo_10 : decode cX10_undo 10 = .ok (.invokevirtual 67, 3) := by decide +kernel
theorem dX10_undo_13 : decode cX10_undo 13 = .ok (.ireturn, 1) := by decide +kernel
theorem dX10_undo_14 : decode cX10_undo 14 = .ok (.iconst 0, 1) := by decide +kernel
theorem dX10_undo_15 : decode cX10_undo 15 = .ok (.istore_n 1, 1) := by decide +kernel
theorem dX10_undo_16 : decode cX10_undo 16 = .ok (.iload_n 1, 1) := by decide +kernel
theorem dX10_undo_17 : decode cX10_undo 17 = .ok (.sipush 150, 3) := by decide +kernel
theorem dX10_undo_20 : decode cX10_undo 20 = .ok (.if_icmp .ge 21, 3) := by decide +kernel
theorem dX10_undo_23 : decode cX10_undo 23 = .ok (.aload_n 0, 1) := by decide +kernel
theorem dX10_undo_24 : decode cX10_undo 24 = .ok (.getfield 7, 3) := by decide +kernel
theorem dX10_undo_27 : decode cX10_undo 27 = .ok (.iload_n 1, 1) := by decide +kernel
theorem dX10_undo_28 : decode cX10_undo 28 = .ok (.aload_n 0, 1) := by decide +kernel
theorem dX10_undo_29 : decode cX10_undo 29 = .ok (.getfield 13, 3) := by decide +kernel
theorem dX10_undo_32 : decode cX10_undo 32 = .ok (.iload_n 1, 1) := by decide +kernel
theorem dX10_undo_33 : decode cX10_undo 33 = .ok (.iaload, 1) := by decide +kernel
theorem dX10_undo_34 : decode cX10_undo 34 = .ok (.iastore, 1) := by decide +kernel
theorem dX10_undo_35 : decode cX10_undo 35 = .ok (.iinc 1 1, 3) := by decide +kernel
theorem dX10_undo_38 : decode cX10_undo 38 = .ok (.goto (-22), 3) := by decide +kernel
theorem dX10_undo_41 : decode cX10_undo 41 = .ok (.aload_n 0, 1) := by decide +kernel
theorem dX10_undo_42 : decode cX10_undo 42 = .ok (.getfield 7, 3) := by decide +kernel
theorem dX10_undo_45 : decode cX10_undo 45 = .ok (.iconst 0, 1) := by decide +kernel
theorem dX10_undo_46 : decode cX10_undo 46 = .ok (.iaload, 1) := by decide +kernel
theorem dX10_undo_47 : decode cX10_undo 47 = .ok (.ireturn, 1) := by decide +kernel
theorem dX10_tear_0 : decode cX10_tear 0 = .ok (.aload_n 0, 1) := by decide +kernel
theorem dX10_tear_1 : decode cX10_tear 1 = .ok (.getfield 334, 3) := by decide +kernel
theorem dX10_tear_4 : decode cX10_tear 4 = .ok (.ifCond .eq 7, 3) := by decide +kernel
theorem dX10_tear_7 : decode cX10_tear 7 = .ok (.iconst 1, 1) := by decide +kernel
theorem dX10_tear_8 : decode cX10_tear 8 = .ok (.goto 4, 3) := by decide +kernel
theorem dX10_tear_11 : decode cX10_tear 11 = .ok (.iconst 0, 1) := by decide +kernel
theorem dX10_tear_12 : decode cX10_tear 12 = .ok (.istore_n 1, 1) := by decide +kernel
theorem dX10_tear_13 : decode cX10_tear 13 = .ok (.aload_n 0, 1) := by decide +kernel
theorem dX10_tear_14 : decode cX10_tear 14 = .ok (.iconst 0, 1) := by decide +kernel
theorem dX10_tear_15 : decode cX10_tear 15 = .ok (.putfield 334, 3) := by decide +kernel
theorem dX10_tear_18 : decode cX10_tear 18 = .ok (.iload_n 1, 1) := by decide +kernel
theorem dX10_tear_19 : decode cX10_tear 19 = .ok (.ireturn, 1) := by decide +kernel
theorem dX10_count_0 : decode cX10_count 0 = .ok (.iload_n 1, 1) := by decide +kernel
theorem dX10_count_1 : decode cX10_count 1 = .ok (.tableswitch 77 0 5 #[39, 46, 53, 60, 65, 71], 39) := by decide +kernel
theorem dX10_count_40 : decode cX10_count 40 = .ok (.aload_n 0, 1) := by decide +kernel
theorem dX10_count_41 : decode cX10_count 41 = .ok (.getfield 7, 3) := by decide +kernel
theorem dX10_count_44 : decode cX10_count 44 = .ok (.iconst 0, 1) := by decide +kernel
theorem dX10_count_45 : decode cX10_count 45 = .ok (.iaload, 1) := by decide +kernel
theorem dX10_count_46 : decode cX10_count 46 = .ok (.ireturn, 1) := by decide +kernel
theorem dX10_count_47 : decode cX10_count 47 = .ok (.aload_n 0, 1) := by decide +kernel
theorem dX10_count_48 : decode cX10_count 48 = .ok (.getfield 7, 3) := by decide +kernel
theorem dX10_count_51 : decode cX10_count 51 = .ok (.iconst 1, 1) := by decide +kernel
theorem dX10_count_52 : decode cX10_count 52 = .ok (.iaload, 1) := by decide +kernel
theorem dX10_count_53 : decode cX10_count 53 = .ok (.ireturn, 1) := by decide +kernel
theorem dX10_count_54 : decode cX10_count 54 = .ok (.aload_n 0, 1) := by decide +kernel
theorem dX10_count_55 : decode cX10_count 55 = .ok (.getfield 7, 3) := by decide +kernel
theorem dX10_count_58 : decode cX10_count 58 = .ok (.iconst 5, 1) := by decide +kernel
theorem dX10_count_59 : decode cX10_count 59 = .ok (.iaload, 1) := by decide +kernel
theorem dX10_count_60 : decode cX10_count 60 = .ok (.ireturn, 1) := by decide +kernel
theorem dX10_count_61 : decode cX10_count 61 = .ok (.aload_n 0, 1) := by decide +kernel
theorem dX10_count_62 : decode cX10_count 62 = .ok (.getfield 219, 3) := by decide +kernel
theorem dX10_count_65 : decode cX10_count 65 = .ok (.ireturn, 1) := by decide +kernel
theorem dX10_count_66 : decode cX10_count 66 = .ok (.aload_n 0, 1) := by decide +kernel
theorem dX10_count_67 : decode cX10_count 67 = .ok (.iconst 4, 1) := by decide +kernel
theorem dX10_count_68 : decode cX10_count 68 = .ok (.invokevirtual 191, 3) := by decide +kernel
theorem dX10_count_71 : decode cX10_count 71 = .ok (.ireturn, 1) := by decide +kernel
theorem dX10_count_72 : decode cX10_count 72 = .ok (.aload_n 0, 1) := by decide +kernel
theorem dX10_count_73 : decode cX10_count 73 = .ok (.iconst 5, 1) := by decide +kernel
theorem dX10_count_74 : decode cX10_count 74 = .ok (.invokevirtual 191, 3) := by decide +kernel
theorem dX10_count_77 : decode cX10_count 77 = .ok (.ireturn, 1) := by decide +kernel
theorem dX10_count_78 : decode cX10_count 78 = .ok (.aload_n 0, 1) := by decide +kernel
theorem dX10_count_79 : decode cX10_count 79 = .ok (.ldc 44, 2) := by decide +kernel
theorem dX10_count_81 : decode cX10_count 81 = .ok (.invokevirtual 67, 3) := by decide +kernel
theorem dX10_count_84 : decode cX10_count 84 = .ok (.ireturn, 1) := by decide +kernel
theorem dX10_status_0 : decode cX10_status 0 = .ok (.iload_n 1, 1) := by decide +kernel
theorem dX10_status_1 : decode cX10_status 1 = .ok (.i2l, 1) := by decide +kernel
theorem dX10_status_2 : decode cX10_status 2 = .ok (.ldc2_w 206, 3) := by decide +kernel
theorem dX10_status_5 : decode cX10_status 5 = .ok (.ldc2_w 337, 3) := by decide +kernel
theorem dX10_status_8 : decode cX10_status 8 = .ok (.invokestatic 45, 3) := by decide +kernel
theorem dX10_status_11 : decode cX10_status 11 = .ok (.ifCond .ne 10, 3) := by decide +kernel
theorem dX10_status_14 : decode cX10_status 14 = .ok (.aload_n 0, 1) := by decide +kernel
theorem dX10_status_15 : decode cX10_status 15 = .ok (.ldc 44, 2) := by decide +kernel
theorem dX10_status_17 : decode cX10_status 17 = .ok (.invokevirtual 67, 3) := by decide +kernel
theorem dX10_status_20 : decode cX10_status 20 = .ok (.ireturn, 1) := by decide +kernel
theorem dX10_status_21 : decode cX10_status 21 = .ok (.iconst 0, 1) := by decide +kernel
theorem dX10_status_22 : decode cX10_status 22 = .ok (.istore_n 2, 1) := by decide +kernel
theorem dX10_status_23 : decode cX10_status 23 = .ok (.iconst 0, 1) := by decide +kernel
theorem dX10_status_24 : decode cX10_status 24 = .ok (.istore_n 3, 1) := by decide +kernel
theorem dX10_status_25 : decode cX10_status 25 = .ok (.iload_n 3, 1) := by decide +kernel
theorem dX10_status_26 : decode cX10_status 26 = .ok (.bipush 7, 2) := by decide +kernel
theorem dX10_status_28 : decode cX10_status 28 = .ok (.if_icmp .ge 31, 3) := by decide +kernel
theorem dX10_status_31 : decode cX10_status 31 = .ok (.iload_n 2, 1) := by decide +kernel
theorem dX10_status_32 : decode cX10_status 32 = .ok (.iload_n 1, 1) := by decide +kernel
theorem dX10_status_33 : decode cX10_status 33 = .ok (.ifCond .lt 8, 3) := by decide +kernel
theorem dX10_status_36 : decode cX10_status 36 = .ok (.iload_n 3, 1) := by decide +kernel
theorem dX10_status_37 : decode cX10_status 37 = .ok (.iload_n 1, 1) := by decide +kernel
theorem dX10_status_38 : decode cX10_status 38 = .ok (.if_icmp .ne 12, 3) := by decide +kernel
theorem dX10_status_41 : decode cX10_status 41 = .ok (.aload_n 0, 1) := by decide +kernel
theorem dX10_status_42 : decode cX10_status 42 = .ok (.getfield 19, 3) := by decide +kernel
theorem dX10_status_45 : decode cX10_status 45 = .ok (.iload_n 3, 1) := by decide +kernel
theorem dX10_status_46 : decode cX10_status 46 = .ok (.iaload, 1) := by decide +kernel
theorem dX10_status_47 : decode cX10_status 47 = .ok (.goto 4, 3) := by decide +kernel
theorem dX10_status_50 : decode cX10_status 50 = .ok (.iconst 0, 1) := by decide +kernel
theorem dX10_status_51 : decode cX10_status 51 = .ok (.iadd, 1) := by decide +kernel
theorem dX10_status_52 : decode cX10_status 52 = .ok (.istore_n 2, 1) := by decide +kernel
theorem dX10_status_53 : decode cX10_status 53 = .ok (.iinc 3 1, 3) := by decide +kernel
theorem dX10_status_56 : decode cX10_status 56 = .ok (.goto (-31), 3) := by decide +kernel
theorem dX10_status_59 : decode cX10_status 59 = .ok (.iload_n 2, 1) := by decide +kernel
theorem dX10_status_60 : decode cX10_status 60 = .ok (.ireturn, 1) := by decide +kernel
end
section
-- decode rows, printed (claim/NAMES.whole)
theorem dL_law_0 : decode cL_law 0 = .ok (.new 7, 3) := by decide +kernel
theorem dL_law_3 : decode cL_law 3 = .ok (.dup, 1) := by decide +kernel
theorem dL_law_4 : decode cL_law 4 = .ok (.invokespecial 9, 3) := by decide +kernel
theorem dL_law_7 : decode cL_law 7 = .ok (.astore_n 1, 1) := by decide +kernel
theorem dL_law_8 : decode cL_law 8 = .ok (.new 10, 3) := by decide +kernel
theorem dL_law_11 : decode cL_law 11 = .ok (.dup, 1) := by decide +kernel
theorem dL_law_12 : decode cL_law 12 = .ok (.invokespecial 12, 3) := by decide +kernel
theorem dL_law_15 : decode cL_law 15 = .ok (.astore_n 2, 1) := by decide +kernel
theorem dL_law_16 : decode cL_law 16 = .ok (.iconst 0, 1) := by decide +kernel
theorem dL_law_17 : decode cL_law 17 = .ok (.istore_n 3, 1) := by decide +kernel
theorem dL_law_18 : decode cL_law 18 = .ok (.iload_n 3, 1) := by decide +kernel
theorem dL_law_19 : decode cL_law 19 = .ok (.aload_n 0, 1) := by decide +kernel
theorem dL_law_20 : decode cL_law 20 = .ok (.arraylength, 1) := by decide +kernel
theorem dL_law_21 : decode cL_law 21 = .ok (.bipush 6, 2) := by decide +kernel
theorem dL_law_23 : decode cL_law 23 = .ok (.isub, 1) := by decide +kernel
theorem dL_law_24 : decode cL_law 24 = .ok (.if_icmp .gt 1519, 3) := by decide +kernel
theorem dL_law_27 : decode cL_law 27 = .ok (.aload_n 0, 1) := by decide +kernel
theorem dL_law_28 : decode cL_law 28 = .ok (.iload_n 3, 1) := by decide +kernel
theorem dL_law_29 : decode cL_law 29 = .ok (.iaload, 1) := by decide +kernel
theorem dL_law_30 : decode cL_law 30 = .ok (.bipush 63, 2) := by decide +kernel
theorem dL_law_32 : decode cL_law 32 = .ok (.iand, 1) := by decide +kernel
theorem dL_law_33 : decode cL_law 33 = .ok (.tableswitch 1504 0 43 #[191, 244, 277, 320, 353, 386, 429, 462, 505, 548, 581, 604, 637, 670, 703, 726, 749, 772, 795, 818, 841, 874, 897, 920, 933, 956, 979, 1012, 1035, 1058, 1081, 1134, 1167, 1180, 1193, 1236, 1310, 1373, 1396, 1419, 1432, 1445, 1458, 1481], 191) := by decide +kernel
theorem dL_law_224 : decode cL_law 224 = .ok (.aload_n 1, 1) := by decide +kernel
theorem dL_law_225 : decode cL_law 225 = .ok (.aload_n 0, 1) := by decide +kernel
theorem dL_law_226 : decode cL_law 226 = .ok (.iload_n 3, 1) := by decide +kernel
theorem dL_law_227 : decode cL_law 227 = .ok (.iconst 1, 1) := by decide +kernel
theorem dL_law_228 : decode cL_law 228 = .ok (.iadd, 1) := by decide +kernel
theorem dL_law_229 : decode cL_law 229 = .ok (.iaload, 1) := by decide +kernel
theorem dL_law_230 : decode cL_law 230 = .ok (.aload_n 0, 1) := by decide +kernel
theorem dL_law_231 : decode cL_law 231 = .ok (.iload_n 3, 1) := by decide +kernel
theorem dL_law_232 : decode cL_law 232 = .ok (.iconst 2, 1) := by decide +kernel
theorem dL_law_233 : decode cL_law 233 = .ok (.iadd, 1) := by decide +kernel
theorem dL_law_234 : decode cL_law 234 = .ok (.iaload, 1) := by decide +kernel
theorem dL_law_235 : decode cL_law 235 = .ok (.aload_n 0, 1) := by decide +kernel
theorem dL_law_236 : decode cL_law 236 = .ok (.iload_n 3, 1) := by decide +kernel
theorem dL_law_237 : decode cL_law 237 = .ok (.iconst 3, 1) := by decide +kernel
theorem dL_law_238 : decode cL_law 238 = .ok (.iadd, 1) := by decide +kernel
theorem dL_law_239 : decode cL_law 239 = .ok (.iaload, 1) := by decide +kernel
theorem dL_law_240 : decode cL_law 240 = .ok (.aload_n 0, 1) := by decide +kernel
theorem dL_law_241 : decode cL_law 241 = .ok (.iload_n 3, 1) := by decide +kernel
theorem dL_law_242 : decode cL_law 242 = .ok (.iconst 4, 1) := by decide +kernel
theorem dL_law_243 : decode cL_law 243 = .ok (.iadd, 1) := by decide +kernel
theorem dL_law_244 : decode cL_law 244 = .ok (.iaload, 1) := by decide +kernel
theorem dL_law_245 : decode cL_law 245 = .ok (.invokevirtual 13, 3) := by decide +kernel
theorem dL_law_248 : decode cL_law 248 = .ok (.aload_n 2, 1) := by decide +kernel
theorem dL_law_249 : decode cL_law 249 = .ok (.aload_n 0, 1) := by decide +kernel
theorem dL_law_250 : decode cL_law 250 = .ok (.iload_n 3, 1) := by decide +kernel
theorem dL_law_251 : decode cL_law 251 = .ok (.iconst 1, 1) := by decide +kernel
theorem dL_law_252 : decode cL_law 252 = .ok (.iadd, 1) := by decide +kernel
theorem dL_law_253 : decode cL_law 253 = .ok (.iaload, 1) := by decide +kernel
theorem dL_law_254 : decode cL_law 254 = .ok (.aload_n 0, 1) := by decide +kernel
theorem dL_law_255 : decode cL_law 255 = .ok (.iload_n 3, 1) := by decide +kernel
theorem dL_law_256 : decode cL_law 256 = .ok (.iconst 2, 1) := by decide +kernel
theorem dL_law_257 : decode cL_law 257 = .ok (.iadd, 1) := by decide +kernel
theorem dL_law_258 : decode cL_law 258 = .ok (.iaload, 1) := by decide +kernel
theorem dL_law_259 : decode cL_law 259 = .ok (.aload_n 0, 1) := by decide +kernel
theorem dL_law_260 : decode cL_law 260 = .ok (.iload_n 3, 1) := by decide +kernel
theorem dL_law_261 : decode cL_law 261 = .ok (.iconst 3, 1) := by decide +kernel
theorem dL_law_262 : decode cL_law 262 = .ok (.iadd, 1) := by decide +kernel
theorem dL_law_263 : decode cL_law 263 = .ok (.iaload, 1) := by decide +kernel
theorem dL_law_264 : decode cL_law 264 = .ok (.aload_n 0, 1) := by decide +kernel
theorem dL_law_265 : decode cL_law 265 = .ok (.iload_n 3, 1) := by decide +kernel
theorem dL_law_266 : decode cL_law 266 = .ok (.iconst 4, 1) := by decide +kernel
theorem dL_law_267 : decode cL_law 267 = .ok (.iadd, 1) := by decide +kernel
theorem dL_law_268 : decode cL_law 268 = .ok (.iaload, 1) := by decide +kernel
theorem dL_law_269 : decode cL_law 269 = .ok (.invokevirtual 17, 3) := by decide +kernel
theorem dL_law_272 : decode cL_law 272 = .ok (.if_icmp .eq 1265, 3) := by decide +kernel
theorem dL_law_275 : decode cL_law 275 = .ok (.iconst 0, 1) := by decide +kernel
theorem dL_law_276 : decode cL_law 276 = .ok (.ireturn, 1) := by decide +kernel
theorem dL_law_277 : decode cL_law 277 = .ok (.aload_n 1, 1) := by decide +kernel
theorem dL_law_278 : decode cL_law 278 = .ok (.aload_n 0, 1) := by decide +kernel
theorem dL_law_279 : decode cL_law 279 = .ok (.iload_n 3, 1) := by decide +kernel
theorem dL_law_280 : decode cL_law 280 = .ok (.iconst 1, 1) := by decide +kernel
theorem dL_law_281 : decode cL_law 281 = .ok (.iadd, 1) := by decide +kernel
theorem dL_law_282 : decode cL_law 282 = .ok (.iaload, 1) := by decide +kernel
theorem dL_law_283 : decode cL_law 283 = .ok (.aload_n 0, 1) := by decide +kernel
theorem dL_law_284 : decode cL_law 284 = .ok (.iload_n 3, 1) := by decide +kernel
theorem dL_law_285 : decode cL_law 285 = .ok (.iconst 2, 1) := by decide +kernel
theorem dL_law_286 : decode cL_law 286 = .ok (.iadd, 1) := by decide +kernel
theorem dL_law_287 : decode cL_law 287 = .ok (.iaload, 1) := by decide +kernel
theorem dL_law_288 : decode cL_law 288 = .ok (.invokevirtual 18, 3) := by decide +kernel
theorem dL_law_291 : decode cL_law 291 = .ok (.aload_n 2, 1) := by decide +kernel
theorem dL_law_292 : decode cL_law 292 = .ok (.aload_n 0, 1) := by decide +kernel
theorem dL_law_293 : decode cL_law 293 = .ok (.iload_n 3, 1) := by decide +kernel
theorem dL_law_294 : decode cL_law 294 = .ok (.iconst 1, 1) := by decide +kernel
theorem dL_law_295 : decode cL_law 295 = .ok (.iadd, 1) := by decide +kernel
theorem dL_law_296 : decode cL_law 296 = .ok (.iaload, 1) := by decide +kernel
theorem dL_law_297 : decode cL_law 297 = .ok (.aload_n 0, 1) := by decide +kernel
theorem dL_law_298 : decode cL_law 298 = .ok (.iload_n 3, 1) := by decide +kernel
theorem dL_law_299 : decode cL_law 299 = .ok (.iconst 2, 1) := by decide +kernel
theorem dL_law_300 : decode cL_law 300 = .ok (.iadd, 1) := by decide +kernel
theorem dL_law_301 : decode cL_law 301 = .ok (.iaload, 1) := by decide +kernel
theorem dL_law_302 : decode cL_law 302 = .ok (.invokevirtual 22, 3) := by decide +kernel
theorem dL_law_305 : decode cL_law 305 = .ok (.if_icmp .eq 1232, 3) := by decide +kernel
theorem dL_law_308 : decode cL_law 308 = .ok (.iconst 0, 1) := by decide +kernel
theorem dL_law_309 : decode cL_law 309 = .ok (.ireturn, 1) := by decide +kernel
theorem dL_law_310 : decode cL_law 310 = .ok (.aload_n 1, 1) := by decide +kernel
theorem dL_law_311 : decode cL_law 311 = .ok (.aload_n 0, 1) := by decide +kernel
theorem dL_law_312 : decode cL_law 312 = .ok (.iload_n 3, 1) := by decide +kernel
theorem dL_law_313 : decode cL_law 313 = .ok (.iconst 1, 1) := by decide +kernel
theorem dL_law_314 : decode cL_law 314 = .ok (.iadd, 1) := by decide +kernel
theorem dL_law_315 : decode cL_law 315 = .ok (.iaload, 1) := by decide +kernel
theorem dL_law_316 : decode cL_law 316 = .ok (.aload_n 0, 1) := by decide +kernel
theorem dL_law_317 : decode cL_law 317 = .ok (.iload_n 3, 1) := by decide +kernel
theorem dL_law_318 : decode cL_law 318 = .ok (.iconst 2, 1) := by decide +kernel
theorem dL_law_319 : decode cL_law 319 = .ok (.iadd, 1) := by decide +kernel
theorem dL_law_320 : decode cL_law 320 = .ok (.iaload, 1) := by decide +kernel
theorem dL_law_321 : decode cL_law 321 = .ok (.aload_n 0, 1) := by decide +kernel
theorem dL_law_322 : decode cL_law 322 = .ok (.iload_n 3, 1) := by decide +kernel
theorem dL_law_323 : decode cL_law 323 = .ok (.iconst 3, 1) := by decide +kernel
theorem dL_law_324 : decode cL_law 324 = .ok (.iadd, 1) := by decide +kernel
theorem dL_law_325 : decode cL_law 325 = .ok (.iaload, 1) := by decide +kernel
theorem dL_law_326 : decode cL_law 326 = .ok (.invokevirtual 23, 3) := by decide +kernel
theorem dL_law_329 : decode cL_law 329 = .ok (.aload_n 2, 1) := by decide +kernel
theorem dL_law_330 : decode cL_law 330 = .ok (.aload_n 0, 1) := by decide +kernel
theorem dL_law_331 : decode cL_law 331 = .ok (.iload_n 3, 1) := by decide +kernel
theorem dL_law_332 : decode cL_law 332 = .ok (.iconst 1, 1) := by decide +kernel
theorem dL_law_333 : decode cL_law 333 = .ok (.iadd, 1) := by decide +kernel
theorem dL_law_334 : decode cL_law 334 = .ok (.iaload, 1) := by decide +kernel
theorem dL_law_335 : decode cL_law 335 = .ok (.aload_n 0, 1) := by decide +kernel
theorem dL_law_336 : decode cL_law 336 = .ok (.iload_n 3, 1) := by decide +kernel
theorem dL_law_337 : decode cL_law 337 = .ok (.iconst 2, 1) := by decide +kernel
theorem dL_law_338 : decode cL_law 338 = .ok (.iadd, 1) := by decide +kernel
theorem dL_law_339 : decode cL_law 339 = .ok (.iaload, 1) := by decide +kernel
theorem dL_law_340 : decode cL_law 340 = .ok (.aload_n 0, 1) := by decide +kernel
theorem dL_law_341 : decode cL_law 341 = .ok (.iload_n 3, 1) := by decide +kernel
theorem dL_law_342 : decode cL_law 342 = .ok (.iconst 3, 1) := by decide +kernel
theorem dL_law_343 : decode cL_law 343 = .ok (.iadd, 1) := by decide +kernel
theorem dL_law_344 : decode cL_law 344 = .ok (.iaload, 1) := by decide +kernel
theorem dL_law_345 : decode cL_law 345 = .ok (.invokevirtual 27, 3) := by decide +kernel
theorem dL_law_348 : decode cL_law 348 = .ok (.if_icmp .eq 1189, 3) := by decide +kernel
theorem dL_law_351 : decode cL_law 351 = .ok (.iconst 0, 1) := by decide +kernel
theorem dL_law_352 : decode cL_law 352 = .ok (.ireturn, 1) := by decide +kernel
theorem dL_law_353 : decode cL_law 353 = .ok (.aload_n 1, 1) := by decide +kernel
theorem dL_law_354 : decode cL_law 354 = .ok (.aload_n 0, 1) := by decide +kernel
theorem dL_law_355 : decode cL_law 355 = .ok (.iload_n 3, 1) := by decide +kernel
theorem dL_law_356 : decode cL_law 356 = .ok (.iconst 1, 1) := by decide +kernel
theorem dL_law_357 : decode cL_law 357 = .ok (.iadd, 1) := by decide +kernel
theorem dL_law_358 : decode cL_law 358 = .ok (.iaload, 1) := by decide +kernel
theorem dL_law_359 : decode cL_law 359 = .ok (.aload_n 0, 1) := by decide +kernel
theorem dL_law_360 : decode cL_law 360 = .ok (.iload_n 3, 1) := by decide +kernel
theorem dL_law_361 : decode cL_law 361 = .ok (.iconst 2, 1) := by decide +kernel
theorem dL_law_362 : decode cL_law 362 = .ok (.iadd, 1) := by decide +kernel
theorem dL_law_363 : decode cL_law 363 = .ok (.iaload, 1) := by decide +kernel
theorem dL_law_364 : decode cL_law 364 = .ok (.invokevirtual 28, 3) := by decide +kernel
theorem dL_law_367 : decode cL_law 367 = .ok (.aload_n 2, 1) := by decide +kernel
theorem dL_law_368 : decode cL_law 368 = .ok (.aload_n 0, 1) := by decide +kernel
theorem dL_law_369 : decode cL_law 369 = .ok (.iload_n 3, 1) := by decide +kernel
theorem dL_law_370 : decode cL_law 370 = .ok (.iconst 1, 1) := by decide +kernel
theorem dL_law_371 : decode cL_law 371 = .ok (.iadd, 1) := by decide +kernel
theorem dL_law_372 : decode cL_law 372 = .ok (.iaload, 1) := by decide +kernel
theorem dL_law_373 : decode cL_law 373 = .ok (.aload_n 0, 1) := by decide +kernel
theorem dL_law_374 : decode cL_law 374 = .ok (.iload_n 3, 1) := by decide +kernel
theorem dL_law_375 : decode cL_law 375 = .ok (.iconst 2, 1) := by decide +kernel
theorem dL_law_376 : decode cL_law 376 = .ok (.iadd, 1) := by decide +kernel
theorem dL_law_377 : decode cL_law 377 = .ok (.iaload, 1) := by decide +kernel
theorem dL_law_378 : decode cL_law 378 = .ok (.invokevirtual 31, 3) := by decide +kernel
theorem dL_law_381 : decode cL_law 381 = .ok (.if_icmp .eq 1156, 3) := by decide +kernel
theorem dL_law_384 : decode cL_law 384 = .ok (.iconst 0, 1) := by decide +kernel
theorem dL_law_385 : decode cL_law 385 = .ok (.ireturn, 1) := by decide +kernel
theorem dL_law_386 : decode cL_law 386 = .ok (.aload_n 1, 1) := by decide +kernel
theorem dL_law_387 : decode cL_law 387 = .ok (.aload_n 0, 1) := by decide +kernel
theorem dL_law_388 : decode cL_law 388 = .ok (.iload_n 3, 1) := by decide +kernel
theorem dL_law_389 : decode cL_law 389 = .ok (.iconst 1, 1) := by decide +kernel
theorem dL_law_390 : decode cL_law 390 = .ok (.iadd, 1) := by decide +kernel
theorem dL_law_391 : decode cL_law 391 = .ok (.iaload, 1) := by decide +kernel
theorem dL_law_392 : decode cL_law 392 = .ok (.aload_n 0, 1) := by decide +kernel
theorem dL_law_393 : decode cL_law 393 = .ok (.iload_n 3, 1) := by decide +kernel
theorem dL_law_394 : decode cL_law 394 = .ok (.iconst 2, 1) := by decide +kernel
theorem dL_law_395 : decode cL_law 395 = .ok (.iadd, 1) := by decide +kernel
theorem dL_law_396 : decode cL_law 396 = .ok (.iaload, 1) := by decide +kernel
theorem dL_law_397 : decode cL_law 397 = .ok (.invokevirtual 32, 3) := by decide +kernel
theorem dL_law_400 : decode cL_law 400 = .ok (.aload_n 2, 1) := by decide +kernel
theorem dL_law_401 : decode cL_law 401 = .ok (.aload_n 0, 1) := by decide +kernel
theorem dL_law_402 : decode cL_law 402 = .ok (.iload_n 3, 1) := by decide +kernel
theorem dL_law_403 : decode cL_law 403 = .ok (.iconst 1, 1) := by decide +kernel
theorem dL_law_404 : decode cL_law 404 = .ok (.iadd, 1) := by decide +kernel
theorem dL_law_405 : decode cL_law 405 = .ok (.iaload, 1) := by decide +kernel
theorem dL_law_406 : decode cL_law 406 = .ok (.aload_n 0, 1) := by decide +kernel
theorem dL_law_407 : decode cL_law 407 = .ok (.iload_n 3, 1) := by decide +kernel
theorem dL_law_408 : decode cL_law 408 = .ok (.iconst 2, 1) := by decide +kernel
theorem dL_law_409 : decode cL_law 409 = .ok (.iadd, 1) := by decide +kernel
theorem dL_law_410 : decode cL_law 410 = .ok (.iaload, 1) := by decide +kernel
theorem dL_law_411 : decode cL_law 411 = .ok (.invokevirtual 35, 3) := by decide +kernel
theorem dL_law_414 : decode cL_law 414 = .ok (.if_icmp .eq 1123, 3) := by decide +kernel
theorem dL_law_417 : decode cL_law 417 = .ok (.iconst 0, 1) := by decide +kernel
theorem dL_law_418 : decode cL_law 418 = .ok (.ireturn, 1) := by decide +kernel
theorem dL_law_419 : decode cL_law 419 = .ok (.aload_n 1, 1) := by decide +kernel
theorem dL_law_420 : decode cL_law 420 = .ok (.aload_n 0, 1) := by decide +kernel
theorem dL_law_421 : decode cL_law 421 = .ok (.iload_n 3, 1) := by decide +kernel
theorem dL_law_422 : decode cL_law 422 = .ok (.iconst 1, 1) := by decide +kernel
theorem dL_law_423 : decode cL_law 423 = .ok (.iadd, 1) := by decide +kernel
theorem dL_law_424 : decode cL_law 424 = .ok (.iaload, 1) := by decide +kernel
theorem dL_law_425 : decode cL_law 425 = .ok (.aload_n 0, 1) := by decide +kernel
theorem dL_law_426 : decode cL_law 426 = .ok (.iload_n 3, 1) := by decide +kernel
theorem dL_law_427 : decode cL_law 427 = .ok (.iconst 2, 1) := by decide +kernel
theorem dL_law_428 : decode cL_law 428 = .ok (.iadd, 1) := by decide +kernel
theorem dL_law_429 : decode cL_law 429 = .ok (.iaload, 1) := by decide +kernel
theorem dL_law_430 : decode cL_law 430 = .ok (.aload_n 0, 1) := by decide +kernel
theorem dL_law_431 : decode cL_law 431 = .ok (.iload_n 3, 1) := by decide +kernel
theorem dL_law_432 : decode cL_law 432 = .ok (.iconst 3, 1) := by decide +kernel
theorem dL_law_433 : decode cL_law 433 = .ok (.iadd, 1) := by decide +kernel
theorem dL_law_434 : decode cL_law 434 = .ok (.iaload, 1) := by decide +kernel
theorem dL_law_435 : decode cL_law 435 = .ok (.invokevirtual 36, 3) := by decide +kernel
theorem dL_law_438 : decode cL_law 438 = .ok (.aload_n 2, 1) := by decide +kernel
theorem dL_law_439 : decode cL_law 439 = .ok (.aload_n 0, 1) := by decide +kernel
theorem dL_law_440 : decode cL_law 440 = .ok (.iload_n 3, 1) := by decide +kernel
theorem dL_law_441 : decode cL_law 441 = .ok (.iconst 1, 1) := by decide +kernel
theorem dL_law_442 : decode cL_law 442 = .ok (.iadd, 1) := by decide +kernel
theorem dL_law_443 : decode cL_law 443 = .ok (.iaload, 1) := by decide +kernel
theorem dL_law_444 : decode cL_law 444 = .ok (.aload_n 0, 1) := by decide +kernel
theorem dL_law_445 : decode cL_law 445 = .ok (.iload_n 3, 1) := by decide +kernel
theorem dL_law_446 : decode cL_law 446 = .ok (.iconst 2, 1) := by decide +kernel
theorem dL_law_447 : decode cL_law 447 = .ok (.iadd, 1) := by decide +kernel
theorem dL_law_448 : decode cL_law 448 = .ok (.iaload, 1) := by decide +kernel
theorem dL_law_449 : decode cL_law 449 = .ok (.aload_n 0, 1) := by decide +kernel
theorem dL_law_450 : decode cL_law 450 = .ok (.iload_n 3, 1) := by decide +kernel
theorem dL_law_451 : decode cL_law 451 = .ok (.iconst 3, 1) := by decide +kernel
theorem dL_law_452 : decode cL_law 452 = .ok (.iadd, 1) := by decide +kernel
theorem dL_law_453 : decode cL_law 453 = .ok (.iaload, 1) := by decide +kernel
theorem dL_law_454 : decode cL_law 454 = .ok (.invokevirtual 39, 3) := by decide +kernel
theorem dL_law_457 : decode cL_law 457 = .ok (.if_icmp .eq 1080, 3) := by decide +kernel
theorem dL_law_460 : decode cL_law 460 = .ok (.iconst 0, 1) := by decide +kernel
theorem dL_law_461 : decode cL_law 461 = .ok (.ireturn, 1) := by decide +kernel
theorem dL_law_462 : decode cL_law 462 = .ok (.aload_n 1, 1) := by decide +kernel
theorem dL_law_463 : decode cL_law 463 = .ok (.aload_n 0, 1) := by decide +kernel
theorem dL_law_464 : decode cL_law 464 = .ok (.iload_n 3, 1) := by decide +kernel
theorem dL_law_465 : decode cL_law 465 = .ok (.iconst 1, 1) := by decide +kernel
theorem dL_law_466 : decode cL_law 466 = .ok (.iadd, 1) := by decide +kernel
theorem dL_law_467 : decode cL_law 467 = .ok (.iaload, 1) := by decide +kernel
theorem dL_law_468 : decode cL_law 468 = .ok (.aload_n 0, 1) := by decide +kernel
theorem dL_law_469 : decode cL_law 469 = .ok (.iload_n 3, 1) := by decide +kernel
theorem dL_law_470 : decode cL_law 470 = .ok (.iconst 2, 1) := by decide +kernel
theorem dL_law_471 : decode cL_law 471 = .ok (.iadd, 1) := by decide +kernel
theorem dL_law_472 : decode cL_law 472 = .ok (.iaload, 1) := by decide +kernel
theorem dL_law_473 : decode cL_law 473 = .ok (.invokevirtual 40, 3) := by decide +kernel
theorem dL_law_476 : decode cL_law 476 = .ok (.aload_n 2, 1) := by decide +kernel
theorem dL_law_477 : decode cL_law 477 = .ok (.aload_n 0, 1) := by decide +kernel
theorem dL_law_478 : decode cL_law 478 = .ok (.iload_n 3, 1) := by decide +kernel
theorem dL_law_479 : decode cL_law 479 = .ok (.iconst 1, 1) := by decide +kernel
theorem dL_law_480 : decode cL_law 480 = .ok (.iadd, 1) := by decide +kernel
theorem dL_law_481 : decode cL_law 481 = .ok (.iaload, 1) := by decide +kernel
theorem dL_law_482 : decode cL_law 482 = .ok (.aload_n 0, 1) := by decide +kernel
theorem dL_law_483 : decode cL_law 483 = .ok (.iload_n 3, 1) := by decide +kernel
theorem dL_law_484 : decode cL_law 484 = .ok (.iconst 2, 1) := by decide +kernel
theorem dL_law_485 : decode cL_law 485 = .ok (.iadd, 1) := by decide +kernel
theorem dL_law_486 : decode cL_law 486 = .ok (.iaload, 1) := by decide +kernel
theorem dL_law_487 : decode cL_law 487 = .ok (.invokevirtual 43, 3) := by decide +kernel
theorem dL_law_490 : decode cL_law 490 = .ok (.if_icmp .eq 1047, 3) := by decide +kernel
theorem dL_law_493 : decode cL_law 493 = .ok (.iconst 0, 1) := by decide +kernel
theorem dL_law_494 : decode cL_law 494 = .ok (.ireturn, 1) := by decide +kernel
theorem dL_law_495 : decode cL_law 495 = .ok (.aload_n 1, 1) := by decide +kernel
theorem dL_law_496 : decode cL_law 496 = .ok (.aload_n 0, 1) := by decide +kernel
theorem dL_law_497 : decode cL_law 497 = .ok (.iload_n 3, 1) := by decide +kernel
theorem dL_law_498 : decode cL_law 498 = .ok (.iconst 1, 1) := by decide +kernel
theorem dL_law_499 : decode cL_law 499 = .ok (.iadd, 1) := by decide +kernel
theorem dL_law_500 : decode cL_law 500 = .ok (.iaload, 1) := by decide +kernel
theorem dL_law_501 : decode cL_law 501 = .ok (.aload_n 0, 1) := by decide +kernel
theorem dL_law_502 : decode cL_law 502 = .ok (.iload_n 3, 1) := by decide +kernel
theorem dL_law_503 : decode cL_law 503 = .ok (.iconst 2, 1) := by decide +kernel
theorem dL_law_504 : decode cL_law 504 = .ok (.iadd, 1) := by decide +kernel
theorem dL_law_505 : decode cL_law 505 = .ok (.iaload, 1) := by decide +kernel
theorem dL_law_506 : decode cL_law 506 = .ok (.aload_n 0, 1) := by decide +kernel
theorem dL_law_507 : decode cL_law 507 = .ok (.iload_n 3, 1) := by decide +kernel
theorem dL_law_508 : decode cL_law 508 = .ok (.iconst 3, 1) := by decide +kernel
theorem dL_law_509 : decode cL_law 509 = .ok (.iadd, 1) := by decide +kernel
theorem dL_law_510 : decode cL_law 510 = .ok (.iaload, 1) := by decide +kernel
theorem dL_law_511 : decode cL_law 511 = .ok (.invokevirtual 44, 3) := by decide +kernel
theorem dL_law_514 : decode cL_law 514 = .ok (.aload_n 2, 1) := by decide +kernel
theorem dL_law_515 : decode cL_law 515 = .ok (.aload_n 0, 1) := by decide +kernel
theorem dL_law_516 : decode cL_law 516 = .ok (.iload_n 3, 1) := by decide +kernel
theorem dL_law_517 : decode cL_law 517 = .ok (.iconst 1, 1) := by decide +kernel
theorem dL_law_518 : decode cL_law 518 = .ok (.iadd, 1) := by decide +kernel
theorem dL_law_519 : decode cL_law 519 = .ok (.iaload, 1) := by decide +kernel
theorem dL_law_520 : decode cL_law 520 = .ok (.aload_n 0, 1) := by decide +kernel
theorem dL_law_521 : decode cL_law 521 = .ok (.iload_n 3, 1) := by decide +kernel
theorem dL_law_522 : decode cL_law 522 = .ok (.iconst 2, 1) := by decide +kernel
theorem dL_law_523 : decode cL_law 523 = .ok (.iadd, 1) := by decide +kernel
theorem dL_law_524 : decode cL_law 524 = .ok (.iaload, 1) := by decide +kernel
theorem dL_law_525 : decode cL_law 525 = .ok (.aload_n 0, 1) := by decide +kernel
theorem dL_law_526 : decode cL_law 526 = .ok (.iload_n 3, 1) := by decide +kernel
theorem dL_law_527 : decode cL_law 527 = .ok (.iconst 3, 1) := by decide +kernel
theorem dL_law_528 : decode cL_law 528 = .ok (.iadd, 1) := by decide +kernel
theorem dL_law_529 : decode cL_law 529 = .ok (.iaload, 1) := by decide +kernel
theorem dL_law_530 : decode cL_law 530 = .ok (.invokevirtual 47, 3) := by decide +kernel
theorem dL_law_533 : decode cL_law 533 = .ok (.if_icmp .eq 1004, 3) := by decide +kernel
theorem dL_law_536 : decode cL_law 536 = .ok (.iconst 0, 1) := by decide +kernel
theorem dL_law_537 : decode cL_law 537 = .ok (.ireturn, 1) := by decide +kernel
theorem dL_law_538 : decode cL_law 538 = .ok (.aload_n 1, 1) := by decide +kernel
theorem dL_law_539 : decode cL_law 539 = .ok (.aload_n 0, 1) := by decide +kernel
theorem dL_law_540 : decode cL_law 540 = .ok (.iload_n 3, 1) := by decide +kernel
theorem dL_law_541 : decode cL_law 541 = .ok (.iconst 1, 1) := by decide +kernel
theorem dL_law_542 : decode cL_law 542 = .ok (.iadd, 1) := by decide +kernel
theorem dL_law_543 : decode cL_law 543 = .ok (.iaload, 1) := by decide +kernel
theorem dL_law_544 : decode cL_law 544 = .ok (.aload_n 0, 1) := by decide +kernel
theorem dL_law_545 : decode cL_law 545 = .ok (.iload_n 3, 1) := by decide +kernel
theorem dL_law_546 : decode cL_law 546 = .ok (.iconst 2, 1) := by decide +kernel
theorem dL_law_547 : decode cL_law 547 = .ok (.iadd, 1) := by decide +kernel
theorem dL_law_548 : decode cL_law 548 = .ok (.iaload, 1) := by decide +kernel
theorem dL_law_549 : decode cL_law 549 = .ok (.aload_n 0, 1) := by decide +kernel
theorem dL_law_550 : decode cL_law 550 = .ok (.iload_n 3, 1) := by decide +kernel
theorem dL_law_551 : decode cL_law 551 = .ok (.iconst 3, 1) := by decide +kernel
theorem dL_law_552 : decode cL_law 552 = .ok (.iadd, 1) := by decide +kernel
theorem dL_law_553 : decode cL_law 553 = .ok (.iaload, 1) := by decide +kernel
theorem dL_law_554 : decode cL_law 554 = .ok (.invokevirtual 48, 3) := by decide +kernel
theorem dL_law_557 : decode cL_law 557 = .ok (.aload_n 2, 1) := by decide +kernel
theorem dL_law_558 : decode cL_law 558 = .ok (.aload_n 0, 1) := by decide +kernel
theorem dL_law_559 : decode cL_law 559 = .ok (.iload_n 3, 1) := by decide +kernel
theorem dL_law_560 : decode cL_law 560 = .ok (.iconst 1, 1) := by decide +kernel
theorem dL_law_561 : decode cL_law 561 = .ok (.iadd, 1) := by decide +kernel
theorem dL_law_562 : decode cL_law 562 = .ok (.iaload, 1) := by decide +kernel
theorem dL_law_563 : decode cL_law 563 = .ok (.aload_n 0, 1) := by decide +kernel
theorem dL_law_564 : decode cL_law 564 = .ok (.iload_n 3, 1) := by decide +kernel
theorem dL_law_565 : decode cL_law 565 = .ok (.iconst 2, 1) := by decide +kernel
theorem dL_law_566 : decode cL_law 566 = .ok (.iadd, 1) := by decide +kernel
theorem dL_law_567 : decode cL_law 567 = .ok (.iaload, 1) := by decide +kernel
theorem dL_law_568 : decode cL_law 568 = .ok (.aload_n 0, 1) := by decide +kernel
theorem dL_law_569 : decode cL_law 569 = .ok (.iload_n 3, 1) := by decide +kernel
theorem dL_law_570 : decode cL_law 570 = .ok (.iconst 3, 1) := by decide +kernel
theorem dL_law_571 : decode cL_law 571 = .ok (.iadd, 1) := by decide +kernel
theorem dL_law_572 : decode cL_law 572 = .ok (.iaload, 1) := by decide +kernel
theorem dL_law_573 : decode cL_law 573 = .ok (.invokevirtual 51, 3) := by decide +kernel
theorem dL_law_576 : decode cL_law 576 = .ok (.if_icmp .eq 961, 3) := by decide +kernel
theorem dL_law_579 : decode cL_law 579 = .ok (.iconst 0, 1) := by decide +kernel
theorem dL_law_580 : decode cL_law 580 = .ok (.ireturn, 1) := by decide +kernel
theorem dL_law_581 : decode cL_law 581 = .ok (.aload_n 1, 1) := by decide +kernel
theorem dL_law_582 : decode cL_law 582 = .ok (.aload_n 0, 1) := by decide +kernel
theorem dL_law_583 : decode cL_law 583 = .ok (.iload_n 3, 1) := by decide +kernel
theorem dL_law_584 : decode cL_law 584 = .ok (.iconst 1, 1) := by decide +kernel
theorem dL_law_585 : decode cL_law 585 = .ok (.iadd, 1) := by decide +kernel
theorem dL_law_586 : decode cL_law 586 = .ok (.iaload, 1) := by decide +kernel
theorem dL_law_587 : decode cL_law 587 = .ok (.aload_n 0, 1) := by decide +kernel
theorem dL_law_588 : decode cL_law 588 = .ok (.iload_n 3, 1) := by decide +kernel
theorem dL_law_589 : decode cL_law 589 = .ok (.iconst 2, 1) := by decide +kernel
theorem dL_law_590 : decode cL_law 590 = .ok (.iadd, 1) := by decide +kernel
theorem dL_law_591 : decode cL_law 591 = .ok (.iaload, 1) := by decide +kernel
theorem dL_law_592 : decode cL_law 592 = .ok (.invokevirtual 52, 3) := by decide +kernel
theorem dL_law_595 : decode cL_law 595 = .ok (.aload_n 2, 1) := by decide +kernel
theorem dL_law_596 : decode cL_law 596 = .ok (.aload_n 0, 1) := by decide +kernel
theorem dL_law_597 : decode cL_law 597 = .ok (.iload_n 3, 1) := by decide +kernel
theorem dL_law_598 : decode cL_law 598 = .ok (.iconst 1, 1) := by decide +kernel
theorem dL_law_599 : decode cL_law 599 = .ok (.iadd, 1) := by decide +kernel
theorem dL_law_600 : decode cL_law 600 = .ok (.iaload, 1) := by decide +kernel
theorem dL_law_601 : decode cL_law 601 = .ok (.aload_n 0, 1) := by decide +kernel
theorem dL_law_602 : decode cL_law 602 = .ok (.iload_n 3, 1) := by decide +kernel
theorem dL_law_603 : decode cL_law 603 = .ok (.iconst 2, 1) := by decide +kernel
theorem dL_law_604 : decode cL_law 604 = .ok (.iadd, 1) := by decide +kernel
theorem dL_law_605 : decode cL_law 605 = .ok (.iaload, 1) := by decide +kernel
theorem dL_law_606 : decode cL_law 606 = .ok (.invokevirtual 55, 3) := by decide +kernel
theorem dL_law_609 : decode cL_law 609 = .ok (.if_icmp .eq 928, 3) := by decide +kernel
theorem dL_law_612 : decode cL_law 612 = .ok (.iconst 0, 1) := by decide +kernel
theorem dL_law_613 : decode cL_law 613 = .ok (.ireturn, 1) := by decide +kernel
theorem dL_law_614 : decode cL_law 614 = .ok (.aload_n 1, 1) := by decide +kernel
theorem dL_law_615 : decode cL_law 615 = .ok (.aload_n 0, 1) := by decide +kernel
theorem dL_law_616 : decode cL_law 616 = .ok (.iload_n 3, 1) := by decide +kernel
theorem dL_law_617 : decode cL_law 617 = .ok (.iconst 1, 1) := by decide +kernel
theorem dL_law_618 : decode cL_law 618 = .ok (.iadd, 1) := by decide +kernel
theorem dL_law_619 : decode cL_law 619 = .ok (.iaload, 1) := by decide +kernel
theorem dL_law_620 : decode cL_law 620 = .ok (.invokevirtual 56, 3) := by decide +kernel
theorem dL_law_623 : decode cL_law 623 = .ok (.aload_n 2, 1) := by decide +kernel
theorem dL_law_624 : decode cL_law 624 = .ok (.aload_n 0, 1) := by decide +kernel
theorem dL_law_625 : decode cL_law 625 = .ok (.iload_n 3, 1) := by decide +kernel
theorem dL_law_626 : decode cL_law 626 = .ok (.iconst 1, 1) := by decide +kernel
theorem dL_law_627 : decode cL_law 627 = .ok (.iadd, 1) := by decide +kernel
theorem dL_law_628 : decode cL_law 628 = .ok (.iaload, 1) := by decide +kernel
theorem dL_law_629 : decode cL_law 629 = .ok (.invokevirtual 60, 3) := by decide +kernel
theorem dL_law_632 : decode cL_law 632 = .ok (.if_icmp .eq 905, 3) := by decide +kernel
theorem dL_law_635 : decode cL_law 635 = .ok (.iconst 0, 1) := by decide +kernel
theorem dL_law_636 : decode cL_law 636 = .ok (.ireturn, 1) := by decide +kernel
theorem dL_law_637 : decode cL_law 637 = .ok (.aload_n 1, 1) := by decide +kernel
theorem dL_law_638 : decode cL_law 638 = .ok (.aload_n 0, 1) := by decide +kernel
theorem dL_law_639 : decode cL_law 639 = .ok (.iload_n 3, 1) := by decide +kernel
theorem dL_law_640 : decode cL_law 640 = .ok (.iconst 1, 1) := by decide +kernel
theorem dL_law_641 : decode cL_law 641 = .ok (.iadd, 1) := by decide +kernel
theorem dL_law_642 : decode cL_law 642 = .ok (.iaload, 1) := by decide +kernel
theorem dL_law_643 : decode cL_law 643 = .ok (.aload_n 0, 1) := by decide +kernel
theorem dL_law_644 : decode cL_law 644 = .ok (.iload_n 3, 1) := by decide +kernel
theorem dL_law_645 : decode cL_law 645 = .ok (.iconst 2, 1) := by decide +kernel
theorem dL_law_646 : decode cL_law 646 = .ok (.iadd, 1) := by decide +kernel
theorem dL_law_647 : decode cL_law 647 = .ok (.iaload, 1) := by decide +kernel
theorem dL_law_648 : decode cL_law 648 = .ok (.invokevirtual 61, 3) := by decide +kernel
theorem dL_law_651 : decode cL_law 651 = .ok (.aload_n 2, 1) := by decide +kernel
theorem dL_law_652 : decode cL_law 652 = .ok (.aload_n 0, 1) := by decide +kernel
theorem dL_law_653 : decode cL_law 653 = .ok (.iload_n 3, 1) := by decide +kernel
theorem dL_law_654 : decode cL_law 654 = .ok (.iconst 1, 1) := by decide +kernel
theorem dL_law_655 : decode cL_law 655 = .ok (.iadd, 1) := by decide +kernel
theorem dL_law_656 : decode cL_law 656 = .ok (.iaload, 1) := by decide +kernel
theorem dL_law_657 : decode cL_law 657 = .ok (.aload_n 0, 1) := by decide +kernel
theorem dL_law_658 : decode cL_law 658 = .ok (.iload_n 3, 1) := by decide +kernel
theorem dL_law_659 : decode cL_law 659 = .ok (.iconst 2, 1) := by decide +kernel
theorem dL_law_660 : decode cL_law 660 = .ok (.iadd, 1) := by decide +kernel
theorem dL_law_661 : decode cL_law 661 = .ok (.iaload, 1) := by decide +kernel
theorem dL_law_662 : decode cL_law 662 = .ok (.invokevirtual 64, 3) := by decide +kernel
theorem dL_law_665 : decode cL_law 665 = .ok (.if_icmp .eq 872, 3) := by decide +kernel
theorem dL_law_668 : decode cL_law 668 = .ok (.iconst 0, 1) := by decide +kernel
theorem dL_law_669 : decode cL_law 669 = .ok (.ireturn, 1) := by decide +kernel
theorem dL_law_670 : decode cL_law 670 = .ok (.aload_n 1, 1) := by decide +kernel
theorem dL_law_671 : decode cL_law 671 = .ok (.aload_n 0, 1) := by decide +kernel
theorem dL_law_672 : decode cL_law 672 = .ok (.iload_n 3, 1) := by decide +kernel
theorem dL_law_673 : decode cL_law 673 = .ok (.iconst 1, 1) := by decide +kernel
theorem dL_law_674 : decode cL_law 674 = .ok (.iadd, 1) := by decide +kernel
theorem dL_law_675 : decode cL_law 675 = .ok (.iaload, 1) := by decide +kernel
theorem dL_law_676 : decode cL_law 676 = .ok (.aload_n 0, 1) := by decide +kernel
theorem dL_law_677 : decode cL_law 677 = .ok (.iload_n 3, 1) := by decide +kernel
theorem dL_law_678 : decode cL_law 678 = .ok (.iconst 2, 1) := by decide +kernel
theorem dL_law_679 : decode cL_law 679 = .ok (.iadd, 1) := by decide +kernel
theorem dL_law_680 : decode cL_law 680 = .ok (.iaload, 1) := by decide +kernel
theorem dL_law_681 : decode cL_law 681 = .ok (.invokevirtual 65, 3) := by decide +kernel
theorem dL_law_684 : decode cL_law 684 = .ok (.aload_n 2, 1) := by decide +kernel
theorem dL_law_685 : decode cL_law 685 = .ok (.aload_n 0, 1) := by decide +kernel
theorem dL_law_686 : decode cL_law 686 = .ok (.iload_n 3, 1) := by decide +kernel
theorem dL_law_687 : decode cL_law 687 = .ok (.iconst 1, 1) := by decide +kernel
theorem dL_law_688 : decode cL_law 688 = .ok (.iadd, 1) := by decide +kernel
theorem dL_law_689 : decode cL_law 689 = .ok (.iaload, 1) := by decide +kernel
theorem dL_law_690 : decode cL_law 690 = .ok (.aload_n 0, 1) := by decide +kernel
theorem dL_law_691 : decode cL_law 691 = .ok (.iload_n 3, 1) := by decide +kernel
theorem dL_law_692 : decode cL_law 692 = .ok (.iconst 2, 1) := by decide +kernel
theorem dL_law_693 : decode cL_law 693 = .ok (.iadd, 1) := by decide +kernel
theorem dL_law_694 : decode cL_law 694 = .ok (.iaload, 1) := by decide +kernel
theorem dL_law_695 : decode cL_law 695 = .ok (.invokevirtual 68, 3) := by decide +kernel
theorem dL_law_698 : decode cL_law 698 = .ok (.if_icmp .eq 839, 3) := by decide +kernel
theorem dL_law_701 : decode cL_law 701 = .ok (.iconst 0, 1) := by decide +kernel
theorem dL_law_702 : decode cL_law 702 = .ok (.ireturn, 1) := by decide +kernel
theorem dL_law_703 : decode cL_law 703 = .ok (.aload_n 1, 1) := by decide +kernel
theorem dL_law_704 : decode cL_law 704 = .ok (.aload_n 0, 1) := by decide +kernel
theorem dL_law_705 : decode cL_law 705 = .ok (.iload_n 3, 1) := by decide +kernel
theorem dL_law_706 : decode cL_law 706 = .ok (.iconst 1, 1) := by decide +kernel
theorem dL_law_707 : decode cL_law 707 = .ok (.iadd, 1) := by decide +kernel
theorem dL_law_708 : decode cL_law 708 = .ok (.iaload, 1) := by decide +kernel
theorem dL_law_709 : decode cL_law 709 = .ok (.aload_n 0, 1) := by decide +kernel
theorem dL_law_710 : decode cL_law 710 = .ok (.iload_n 3, 1) := by decide +kernel
theorem dL_law_711 : decode cL_law 711 = .ok (.iconst 2, 1) := by decide +kernel
theorem dL_law_712 : decode cL_law 712 = .ok (.iadd, 1) := by decide +kernel
theorem dL_law_713 : decode cL_law 713 = .ok (.iaload, 1) := by decide +kernel
theorem dL_law_714 : decode cL_law 714 = .ok (.invokevirtual 69, 3) := by decide +kernel
theorem dL_law_717 : decode cL_law 717 = .ok (.aload_n 2, 1) := by decide +kernel
theorem dL_law_718 : decode cL_law 718 = .ok (.aload_n 0, 1) := by decide +kernel
theorem dL_law_719 : decode cL_law 719 = .ok (.iload_n 3, 1) := by decide +kernel
theorem dL_law_720 : decode cL_law 720 = .ok (.iconst 1, 1) := by decide +kernel
theorem dL_law_721 : decode cL_law 721 = .ok (.iadd, 1) := by decide +kernel
theorem dL_law_722 : decode cL_law 722 = .ok (.iaload, 1) := by decide +kernel
theorem dL_law_723 : decode cL_law 723 = .ok (.aload_n 0, 1) := by decide +kernel
theorem dL_law_724 : decode cL_law 724 = .ok (.iload_n 3, 1) := by decide +kernel
theorem dL_law_725 : decode cL_law 725 = .ok (.iconst 2, 1) := by decide +kernel
theorem dL_law_726 : decode cL_law 726 = .ok (.iadd, 1) := by decide +kernel
theorem dL_law_727 : decode cL_law 727 = .ok (.iaload, 1) := by decide +kernel
theorem dL_law_728 : decode cL_law 728 = .ok (.invokevirtual 72, 3) := by decide +kernel
theorem dL_law_731 : decode cL_law 731 = .ok (.if_icmp .eq 806, 3) := by decide +kernel
theorem dL_law_734 : decode cL_law 734 = .ok (.iconst 0, 1) := by decide +kernel
theorem dL_law_735 : decode cL_law 735 = .ok (.ireturn, 1) := by decide +kernel
theorem dL_law_736 : decode cL_law 736 = .ok (.aload_n 1, 1) := by decide +kernel
theorem dL_law_737 : decode cL_law 737 = .ok (.aload_n 0, 1) := by decide +kernel
theorem dL_law_738 : decode cL_law 738 = .ok (.iload_n 3, 1) := by decide +kernel
theorem dL_law_739 : decode cL_law 739 = .ok (.iconst 1, 1) := by decide +kernel
theorem dL_law_740 : decode cL_law 740 = .ok (.iadd, 1) := by decide +kernel
theorem dL_law_741 : decode cL_law 741 = .ok (.iaload, 1) := by decide +kernel
theorem dL_law_742 : decode cL_law 742 = .ok (.invokevirtual 73, 3) := by decide +kernel
theorem dL_law_745 : decode cL_law 745 = .ok (.aload_n 2, 1) := by decide +kernel
theorem dL_law_746 : decode cL_law 746 = .ok (.aload_n 0, 1) := by decide +kernel
theorem dL_law_747 : decode cL_law 747 = .ok (.iload_n 3, 1) := by decide +kernel
theorem dL_law_748 : decode cL_law 748 = .ok (.iconst 1, 1) := by decide +kernel
theorem dL_law_749 : decode cL_law 749 = .ok (.iadd, 1) := by decide +kernel
theorem dL_law_750 : decode cL_law 750 = .ok (.iaload, 1) := by decide +kernel
theorem dL_law_751 : decode cL_law 751 = .ok (.invokevirtual 76, 3) := by decide +kernel
theorem dL_law_754 : decode cL_law 754 = .ok (.if_icmp .eq 783, 3) := by decide +kernel
theorem dL_law_757 : decode cL_law 757 = .ok (.iconst 0, 1) := by decide +kernel
theorem dL_law_758 : decode cL_law 758 = .ok (.ireturn, 1) := by decide +kernel
theorem dL_law_759 : decode cL_law 759 = .ok (.aload_n 1, 1) := by decide +kernel
theorem dL_law_760 : decode cL_law 760 = .ok (.aload_n 0, 1) := by decide +kernel
theorem dL_law_761 : decode cL_law 761 = .ok (.iload_n 3, 1) := by decide +kernel
theorem dL_law_762 : decode cL_law 762 = .ok (.iconst 1, 1) := by decide +kernel
theorem dL_law_763 : decode cL_law 763 = .ok (.iadd, 1) := by decide +kernel
theorem dL_law_764 : decode cL_law 764 = .ok (.iaload, 1) := by decide +kernel
theorem dL_law_765 : decode cL_law 765 = .ok (.invokevirtual 77, 3) := by decide +kernel
theorem dL_law_768 : decode cL_law 768 = .ok (.aload_n 2, 1) := by decide +kernel
theorem dL_law_769 : decode cL_law 769 = .ok (.aload_n 0, 1) := by decide +kernel
theorem dL_law_770 : decode cL_law 770 = .ok (.iload_n 3, 1) := by decide +kernel
theorem dL_law_771 : decode cL_law 771 = .ok (.iconst 1, 1) := by decide +kernel
theorem dL_law_772 : decode cL_law 772 = .ok (.iadd, 1) := by decide +kernel
theorem dL_law_773 : decode cL_law 773 = .ok (.iaload, 1) := by decide +kernel
theorem dL_law_774 : decode cL_law 774 = .ok (.invokevirtual 80, 3) := by decide +kernel
theorem dL_law_777 : decode cL_law 777 = .ok (.if_icmp .eq 760, 3) := by decide +kernel
theorem dL_law_780 : decode cL_law 780 = .ok (.iconst 0, 1) := by decide +kernel
theorem dL_law_781 : decode cL_law 781 = .ok (.ireturn, 1) := by decide +kernel
theorem dL_law_782 : decode cL_law 782 = .ok (.aload_n 1, 1) := by decide +kernel
theorem dL_law_783 : decode cL_law 783 = .ok (.aload_n 0, 1) := by decide +kernel
theorem dL_law_784 : decode cL_law 784 = .ok (.iload_n 3, 1) := by decide +kernel
theorem dL_law_785 : decode cL_law 785 = .ok (.iconst 1, 1) := by decide +kernel
theorem dL_law_786 : decode cL_law 786 = .ok (.iadd, 1) := by decide +kernel
theorem dL_law_787 : decode cL_law 787 = .ok (.iaload, 1) := by decide +kernel
theorem dL_law_788 : decode cL_law 788 = .ok (.invokevirtual 81, 3) := by decide +kernel
theorem dL_law_791 : decode cL_law 791 = .ok (.aload_n 2, 1) := by decide +kernel
theorem dL_law_792 : decode cL_law 792 = .ok (.aload_n 0, 1) := by decide +kernel
theorem dL_law_793 : decode cL_law 793 = .ok (.iload_n 3, 1) := by decide +kernel
theorem dL_law_794 : decode cL_law 794 = .ok (.iconst 1, 1) := by decide +kernel
theorem dL_law_795 : decode cL_law 795 = .ok (.iadd, 1) := by decide +kernel
theorem dL_law_796 : decode cL_law 796 = .ok (.iaload, 1) := by decide +kernel
theorem dL_law_797 : decode cL_law 797 = .ok (.invokevirtual 84, 3) := by decide +kernel
theorem dL_law_800 : decode cL_law 800 = .ok (.if_icmp .eq 737, 3) := by decide +kernel
theorem dL_law_803 : decode cL_law 803 = .ok (.iconst 0, 1) := by decide +kernel
theorem dL_law_804 : decode cL_law 804 = .ok (.ireturn, 1) := by decide +kernel
theorem dL_law_805 : decode cL_law 805 = .ok (.aload_n 1, 1) := by decide +kernel
theorem dL_law_806 : decode cL_law 806 = .ok (.aload_n 0, 1) := by decide +kernel
theorem dL_law_807 : decode cL_law 807 = .ok (.iload_n 3, 1) := by decide +kernel
theorem dL_law_808 : decode cL_law 808 = .ok (.iconst 1, 1) := by decide +kernel
theorem dL_law_809 : decode cL_law 809 = .ok (.iadd, 1) := by decide +kernel
theorem dL_law_810 : decode cL_law 810 = .ok (.iaload, 1) := by decide +kernel
theorem dL_law_811 : decode cL_law 811 = .ok (.invokevirtual 85, 3) := by decide +kernel
theorem dL_law_814 : decode cL_law 814 = .ok (.aload_n 2, 1) := by decide +kernel
theorem dL_law_815 : decode cL_law 815 = .ok (.aload_n 0, 1) := by decide +kernel
theorem dL_law_816 : decode cL_law 816 = .ok (.iload_n 3, 1) := by decide +kernel
theorem dL_law_817 : decode cL_law 817 = .ok (.iconst 1, 1) := by decide +kernel
theorem dL_law_818 : decode cL_law 818 = .ok (.iadd, 1) := by decide +kernel
theorem dL_law_819 : decode cL_law 819 = .ok (.iaload, 1) := by decide +kernel
theorem dL_law_820 : decode cL_law 820 = .ok (.invokevirtual 88, 3) := by decide +kernel
theorem dL_law_823 : decode cL_law 823 = .ok (.if_icmp .eq 714, 3) := by decide +kernel
theorem dL_law_826 : decode cL_law 826 = .ok (.iconst 0, 1) := by decide +kernel
theorem dL_law_827 : decode cL_law 827 = .ok (.ireturn, 1) := by decide +kernel
theorem dL_law_828 : decode cL_law 828 = .ok (.aload_n 1, 1) := by decide +kernel
theorem dL_law_829 : decode cL_law 829 = .ok (.aload_n 0, 1) := by decide +kernel
theorem dL_law_830 : decode cL_law 830 = .ok (.iload_n 3, 1) := by decide +kernel
theorem dL_law_831 : decode cL_law 831 = .ok (.iconst 1, 1) := by decide +kernel
theorem dL_law_832 : decode cL_law 832 = .ok (.iadd, 1) := by decide +kernel
theorem dL_law_833 : decode cL_law 833 = .ok (.iaload, 1) := by decide +kernel
theorem dL_law_834 : decode cL_law 834 = .ok (.invokevirtual 89, 3) := by decide +kernel
theorem dL_law_837 : decode cL_law 837 = .ok (.aload_n 2, 1) := by decide +kernel
theorem dL_law_838 : decode cL_law 838 = .ok (.aload_n 0, 1) := by decide +kernel
theorem dL_law_839 : decode cL_law 839 = .ok (.iload_n 3, 1) := by decide +kernel
theorem dL_law_840 : decode cL_law 840 = .ok (.iconst 1, 1) := by decide +kernel
theorem dL_law_841 : decode cL_law 841 = .ok (.iadd, 1) := by decide +kernel
theorem dL_law_842 : decode cL_law 842 = .ok (.iaload, 1) := by decide +kernel
theorem dL_law_843 : decode cL_law 843 = .ok (.invokevirtual 92, 3) := by decide +kernel
theorem dL_law_846 : decode cL_law 846 = .ok (.if_icmp .eq 691, 3) := by decide +kernel
theorem dL_law_849 : decode cL_law 849 = .ok (.iconst 0, 1) := by decide +kernel
theorem dL_law_850 : decode cL_law 850 = .ok (.ireturn, 1) := by decide +kernel
theorem dL_law_851 : decode cL_law 851 = .ok (.aload_n 1, 1) := by decide +kernel
theorem dL_law_852 : decode cL_law 852 = .ok (.aload_n 0, 1) := by decide +kernel
theorem dL_law_853 : decode cL_law 853 = .ok (.iload_n 3, 1) := by decide +kernel
theorem dL_law_854 : decode cL_law 854 = .ok (.iconst 1, 1) := by decide +kernel
theorem dL_law_855 : decode cL_law 855 = .ok (.iadd, 1) := by decide +kernel
theorem dL_law_856 : decode cL_law 856 = .ok (.iaload, 1) := by decide +kernel
theorem dL_law_857 : decode cL_law 857 = .ok (.invokevirtual 93, 3) := by decide +kernel
theorem dL_law_860 : decode cL_law 860 = .ok (.aload_n 2, 1) := by decide +kernel
theorem dL_law_861 : decode cL_law 861 = .ok (.aload_n 0, 1) := by decide +kernel
theorem dL_law_862 : decode cL_law 862 = .ok (.iload_n 3, 1) := by decide +kernel
theorem dL_law_863 : decode cL_law 863 = .ok (.iconst 1, 1) := by decide +kernel
theorem dL_law_864 : decode cL_law 864 = .ok (.iadd, 1) := by decide +kernel
theorem dL_law_865 : decode cL_law 865 = .ok (.iaload, 1) := by decide +kernel
theorem dL_law_866 : decode cL_law 866 = .ok (.invokevirtual 96, 3) := by decide +kernel
theorem dL_law_869 : decode cL_law 869 = .ok (.if_icmp .eq 668, 3) := by decide +kernel
theorem dL_law_872 : decode cL_law 872 = .ok (.iconst 0, 1) := by decide +kernel
theorem dL_law_873 : decode cL_law 873 = .ok (.ireturn, 1) := by decide +kernel
theorem dL_law_874 : decode cL_law 874 = .ok (.aload_n 1, 1) := by decide +kernel
theorem dL_law_875 : decode cL_law 875 = .ok (.aload_n 0, 1) := by decide +kernel
theorem dL_law_876 : decode cL_law 876 = .ok (.iload_n 3, 1) := by decide +kernel
theorem dL_law_877 : decode cL_law 877 = .ok (.iconst 1, 1) := by decide +kernel
theorem dL_law_878 : decode cL_law 878 = .ok (.iadd, 1) := by decide +kernel
theorem dL_law_879 : decode cL_law 879 = .ok (.iaload, 1) := by decide +kernel
theorem dL_law_880 : decode cL_law 880 = .ok (.aload_n 0, 1) := by decide +kernel
theorem dL_law_881 : decode cL_law 881 = .ok (.iload_n 3, 1) := by decide +kernel
theorem dL_law_882 : decode cL_law 882 = .ok (.iconst 2, 1) := by decide +kernel
theorem dL_law_883 : decode cL_law 883 = .ok (.iadd, 1) := by decide +kernel
theorem dL_law_884 : decode cL_law 884 = .ok (.iaload, 1) := by decide +kernel
theorem dL_law_885 : decode cL_law 885 = .ok (.invokevirtual 97, 3) := by decide +kernel
theorem dL_law_888 : decode cL_law 888 = .ok (.aload_n 2, 1) := by decide +kernel
theorem dL_law_889 : decode cL_law 889 = .ok (.aload_n 0, 1) := by decide +kernel
theorem dL_law_890 : decode cL_law 890 = .ok (.iload_n 3, 1) := by decide +kernel
theorem dL_law_891 : decode cL_law 891 = .ok (.iconst 1, 1) := by decide +kernel
theorem dL_law_892 : decode cL_law 892 = .ok (.iadd, 1) := by decide +kernel
theorem dL_law_893 : decode cL_law 893 = .ok (.iaload, 1) := by decide +kernel
theorem dL_law_894 : decode cL_law 894 = .ok (.aload_n 0, 1) := by decide +kernel
theorem dL_law_895 : decode cL_law 895 = .ok (.iload_n 3, 1) := by decide +kernel
theorem dL_law_896 : decode cL_law 896 = .ok (.iconst 2, 1) := by decide +kernel
theorem dL_law_897 : decode cL_law 897 = .ok (.iadd, 1) := by decide +kernel
theorem dL_law_898 : decode cL_law 898 = .ok (.iaload, 1) := by decide +kernel
theorem dL_law_899 : decode cL_law 899 = .ok (.invokevirtual 100, 3) := by decide +kernel
theorem dL_law_902 : decode cL_law 902 = .ok (.if_icmp .eq 635, 3) := by decide +kernel
theorem dL_law_905 : decode cL_law 905 = .ok (.iconst 0, 1) := by decide +kernel
theorem dL_law_906 : decode cL_law 906 = .ok (.ireturn, 1) := by decide +kernel
theorem dL_law_907 : decode cL_law 907 = .ok (.aload_n 1, 1) := by decide +kernel
theorem dL_law_908 : decode cL_law 908 = .ok (.aload_n 0, 1) := by decide +kernel
theorem dL_law_909 : decode cL_law 909 = .ok (.iload_n 3, 1) := by decide +kernel
theorem dL_law_910 : decode cL_law 910 = .ok (.iconst 1, 1) := by decide +kernel
theorem dL_law_911 : decode cL_law 911 = .ok (.iadd, 1) := by decide +kernel
theorem dL_law_912 : decode cL_law 912 = .ok (.iaload, 1) := by decide +kernel
theorem dL_law_913 : decode cL_law 913 = .ok (.invokevirtual 101, 3) := by decide +kernel
theorem dL_law_916 : decode cL_law 916 = .ok (.aload_n 2, 1) := by decide +kernel
theorem dL_law_917 : decode cL_law 917 = .ok (.aload_n 0, 1) := by decide +kernel
theorem dL_law_918 : decode cL_law 918 = .ok (.iload_n 3, 1) := by decide +kernel
theorem dL_law_919 : decode cL_law 919 = .ok (.iconst 1, 1) := by decide +kernel
theorem dL_law_920 : decode cL_law 920 = .ok (.iadd, 1) := by decide +kernel
theorem dL_law_921 : decode cL_law 921 = .ok (.iaload, 1) := by decide +kernel
theorem dL_law_922 : decode cL_law 922 = .ok (.invokevirtual 104, 3) := by decide +kernel
theorem dL_law_925 : decode cL_law 925 = .ok (.if_icmp .eq 612, 3) := by decide +kernel
theorem dL_law_928 : decode cL_law 928 = .ok (.iconst 0, 1) := by decide +kernel
theorem dL_law_929 : decode cL_law 929 = .ok (.ireturn, 1) := by decide +kernel
theorem dL_law_930 : decode cL_law 930 = .ok (.aload_n 1, 1) := by decide +kernel
theorem dL_law_931 : decode cL_law 931 = .ok (.aload_n 0, 1) := by decide +kernel
theorem dL_law_932 : decode cL_law 932 = .ok (.iload_n 3, 1) := by decide +kernel
theorem dL_law_933 : decode cL_law 933 = .ok (.iconst 1, 1) := by decide +kernel
theorem dL_law_934 : decode cL_law 934 = .ok (.iadd, 1) := by decide +kernel
theorem dL_law_935 : decode cL_law 935 = .ok (.iaload, 1) := by decide +kernel
theorem dL_law_936 : decode cL_law 936 = .ok (.invokevirtual 105, 3) := by decide +kernel
theorem dL_law_939 : decode cL_law 939 = .ok (.aload_n 2, 1) := by decide +kernel
theorem dL_law_940 : decode cL_law 940 = .ok (.aload_n 0, 1) := by decide +kernel
theorem dL_law_941 : decode cL_law 941 = .ok (.iload_n 3, 1) := by decide +kernel
theorem dL_law_942 : decode cL_law 942 = .ok (.iconst 1, 1) := by decide +kernel
theorem dL_law_943 : decode cL_law 943 = .ok (.iadd, 1) := by decide +kernel
theorem dL_law_944 : decode cL_law 944 = .ok (.iaload, 1) := by decide +kernel
theorem dL_law_945 : decode cL_law 945 = .ok (.invokevirtual 108, 3) := by decide +kernel
theorem dL_law_948 : decode cL_law 948 = .ok (.if_icmp .eq 589, 3) := by decide +kernel
theorem dL_law_951 : decode cL_law 951 = .ok (.iconst 0, 1) := by decide +kernel
theorem dL_law_952 : decode cL_law 952 = .ok (.ireturn, 1) := by decide +kernel
theorem dL_law_953 : decode cL_law 953 = .ok (.aload_n 1, 1) := by decide +kernel
theorem dL_law_954 : decode cL_law 954 = .ok (.invokevirtual 109, 3) := by decide +kernel
theorem dL_law_957 : decode cL_law 957 = .ok (.aload_n 2, 1) := by decide +kernel
theorem dL_law_958 : decode cL_law 958 = .ok (.invokevirtual 113, 3) := by decide +kernel
theorem dL_law_961 : decode cL_law 961 = .ok (.if_icmp .eq 576, 3) := by decide +kernel
theorem dL_law_964 : decode cL_law 964 = .ok (.iconst 0, 1) := by decide +kernel
theorem dL_law_965 : decode cL_law 965 = .ok (.ireturn, 1) := by decide +kernel
theorem dL_law_966 : decode cL_law 966 = .ok (.aload_n 1, 1) := by decide +kernel
theorem dL_law_967 : decode cL_law 967 = .ok (.aload_n 0, 1) := by decide +kernel
theorem dL_law_968 : decode cL_law 968 = .ok (.iload_n 3, 1) := by decide +kernel
theorem dL_law_969 : decode cL_law 969 = .ok (.iconst 1, 1) := by decide +kernel
theorem dL_law_970 : decode cL_law 970 = .ok (.iadd, 1) := by decide +kernel
theorem dL_law_971 : decode cL_law 971 = .ok (.iaload, 1) := by decide +kernel
theorem dL_law_972 : decode cL_law 972 = .ok (.invokevirtual 114, 3) := by decide +kernel
theorem dL_law_975 : decode cL_law 975 = .ok (.aload_n 2, 1) := by decide +kernel
theorem dL_law_976 : decode cL_law 976 = .ok (.aload_n 0, 1) := by decide +kernel
theorem dL_law_977 : decode cL_law 977 = .ok (.iload_n 3, 1) := by decide +kernel
theorem dL_law_978 : decode cL_law 978 = .ok (.iconst 1, 1) := by decide +kernel
theorem dL_law_979 : decode cL_law 979 = .ok (.iadd, 1) := by decide +kernel
theorem dL_law_980 : decode cL_law 980 = .ok (.iaload, 1) := by decide +kernel
theorem dL_law_981 : decode cL_law 981 = .ok (.invokevirtual 117, 3) := by decide +kernel
theorem dL_law_984 : decode cL_law 984 = .ok (.if_icmp .eq 553, 3) := by decide +kernel
theorem dL_law_987 : decode cL_law 987 = .ok (.iconst 0, 1) := by decide +kernel
theorem dL_law_988 : decode cL_law 988 = .ok (.ireturn, 1) := by decide +kernel
theorem dL_law_989 : decode cL_law 989 = .ok (.aload_n 1, 1) := by decide +kernel
theorem dL_law_990 : decode cL_law 990 = .ok (.aload_n 0, 1) := by decide +kernel
theorem dL_law_991 : decode cL_law 991 = .ok (.iload_n 3, 1) := by decide +kernel
theorem dL_law_992 : decode cL_law 992 = .ok (.iconst 1, 1) := by decide +kernel
theorem dL_law_993 : decode cL_law 993 = .ok (.iadd, 1) := by decide +kernel
theorem dL_law_994 : decode cL_law 994 = .ok (.iaload, 1) := by decide +kernel
theorem dL_law_995 : decode cL_law 995 = .ok (.invokevirtual 118, 3) := by decide +kernel
theorem dL_law_998 : decode cL_law 998 = .ok (.aload_n 2, 1) := by decide +kernel
theorem dL_law_999 : decode cL_law 999 = .ok (.aload_n 0, 1) := by decide +kernel
theorem dL_law_1000 : decode cL_law 1000 = .ok (.iload_n 3, 1) := by decide +kernel
theorem dL_law_1001 : decode cL_law 1001 = .ok (.iconst 1, 1) := by decide +kernel
theorem dL_law_1002 : decode cL_law 1002 = .ok (.iadd, 1) := by decide +kernel
theorem dL_law_1003 : decode cL_law 1003 = .ok (.iaload, 1) := by decide +kernel
theorem dL_law_1004 : decode cL_law 1004 = .ok (.invokevirtual 121, 3) := by decide +kernel
theorem dL_law_1007 : decode cL_law 1007 = .ok (.if_icmp .eq 530, 3) := by decide +kernel
theorem dL_law_1010 : decode cL_law 1010 = .ok (.iconst 0, 1) := by decide +kernel
theorem dL_law_1011 : decode cL_law 1011 = .ok (.ireturn, 1) := by decide +kernel
theorem dL_law_1012 : decode cL_law 1012 = .ok (.aload_n 1, 1) := by decide +kernel
theorem dL_law_1013 : decode cL_law 1013 = .ok (.aload_n 0, 1) := by decide +kernel
theorem dL_law_1014 : decode cL_law 1014 = .ok (.iload_n 3, 1) := by decide +kernel
theorem dL_law_1015 : decode cL_law 1015 = .ok (.iconst 1, 1) := by decide +kernel
theorem dL_law_1016 : decode cL_law 1016 = .ok (.iadd, 1) := by decide +kernel
theorem dL_law_1017 : decode cL_law 1017 = .ok (.iaload, 1) := by decide +kernel
theorem dL_law_1018 : decode cL_law 1018 = .ok (.aload_n 0, 1) := by decide +kernel
theorem dL_law_1019 : decode cL_law 1019 = .ok (.iload_n 3, 1) := by decide +kernel
theorem dL_law_1020 : decode cL_law 1020 = .ok (.iconst 2, 1) := by decide +kernel
theorem dL_law_1021 : decode cL_law 1021 = .ok (.iadd, 1) := by decide +kernel
theorem dL_law_1022 : decode cL_law 1022 = .ok (.iaload, 1) := by decide +kernel
theorem dL_law_1023 : decode cL_law 1023 = .ok (.invokevirtual 122, 3) := by decide +kernel
theorem dL_law_1026 : decode cL_law 1026 = .ok (.aload_n 2, 1) := by decide +kernel
theorem dL_law_1027 : decode cL_law 1027 = .ok (.aload_n 0, 1) := by decide +kernel
theorem dL_law_1028 : decode cL_law 1028 = .ok (.iload_n 3, 1) := by decide +kernel
theorem dL_law_1029 : decode cL_law 1029 = .ok (.iconst 1, 1) := by decide +kernel
theorem dL_law_1030 : decode cL_law 1030 = .ok (.iadd, 1) := by decide +kernel
theorem dL_law_1031 : decode cL_law 1031 = .ok (.iaload, 1) := by decide +kernel
theorem dL_law_1032 : decode cL_law 1032 = .ok (.aload_n 0, 1) := by decide +kernel
theorem dL_law_1033 : decode cL_law 1033 = .ok (.iload_n 3, 1) := by decide +kernel
theorem dL_law_1034 : decode cL_law 1034 = .ok (.iconst 2, 1) := by decide +kernel
theorem dL_law_1035 : decode cL_law 1035 = .ok (.iadd, 1) := by decide +kernel
theorem dL_law_1036 : decode cL_law 1036 = .ok (.iaload, 1) := by decide +kernel
theorem dL_law_1037 : decode cL_law 1037 = .ok (.invokevirtual 125, 3) := by decide +kernel
theorem dL_law_1040 : decode cL_law 1040 = .ok (.if_icmp .eq 497, 3) := by decide +kernel
theorem dL_law_1043 : decode cL_law 1043 = .ok (.iconst 0, 1) := by decide +kernel
theorem dL_law_1044 : decode cL_law 1044 = .ok (.ireturn, 1) := by decide +kernel
theorem dL_law_1045 : decode cL_law 1045 = .ok (.aload_n 1, 1) := by decide +kernel
theorem dL_law_1046 : decode cL_law 1046 = .ok (.aload_n 0, 1) := by decide +kernel
theorem dL_law_1047 : decode cL_law 1047 = .ok (.iload_n 3, 1) := by decide +kernel
theorem dL_law_1048 : decode cL_law 1048 = .ok (.iconst 1, 1) := by decide +kernel
theorem dL_law_1049 : decode cL_law 1049 = .ok (.iadd, 1) := by decide +kernel
theorem dL_law_1050 : decode cL_law 1050 = .ok (.iaload, 1) := by decide +kernel
theorem dL_law_1051 : decode cL_law 1051 = .ok (.invokevirtual 126, 3) := by decide +kernel
theorem dL_law_1054 : decode cL_law 1054 = .ok (.aload_n 2, 1) := by decide +kernel
theorem dL_law_1055 : decode cL_law 1055 = .ok (.aload_n 0, 1) := by decide +kernel
theorem dL_law_1056 : decode cL_law 1056 = .ok (.iload_n 3, 1) := by decide +kernel
theorem dL_law_1057 : decode cL_law 1057 = .ok (.iconst 1, 1) := by decide +kernel
theorem dL_law_1058 : decode cL_law 1058 = .ok (.iadd, 1) := by decide +kernel
theorem dL_law_1059 : decode cL_law 1059 = .ok (.iaload, 1) := by decide +kernel
theorem dL_law_1060 : decode cL_law 1060 = .ok (.invokevirtual 129, 3) := by decide +kernel
theorem dL_law_1063 : decode cL_law 1063 = .ok (.if_icmp .eq 474, 3) := by decide +kernel
theorem dL_law_1066 : decode cL_law 1066 = .ok (.iconst 0, 1) := by decide +kernel
theorem dL_law_1067 : decode cL_law 1067 = .ok (.ireturn, 1) := by decide +kernel
theorem dL_law_1068 : decode cL_law 1068 = .ok (.aload_n 1, 1) := by decide +kernel
theorem dL_law_1069 : decode cL_law 1069 = .ok (.aload_n 0, 1) := by decide +kernel
theorem dL_law_1070 : decode cL_law 1070 = .ok (.iload_n 3, 1) := by decide +kernel
theorem dL_law_1071 : decode cL_law 1071 = .ok (.iconst 1, 1) := by decide +kernel
theorem dL_law_1072 : decode cL_law 1072 = .ok (.iadd, 1) := by decide +kernel
theorem dL_law_1073 : decode cL_law 1073 = .ok (.iaload, 1) := by decide +kernel
theorem dL_law_1074 : decode cL_law 1074 = .ok (.invokevirtual 130, 3) := by decide +kernel
theorem dL_law_1077 : decode cL_law 1077 = .ok (.aload_n 2, 1) := by decide +kernel
theorem dL_law_1078 : decode cL_law 1078 = .ok (.aload_n 0, 1) := by decide +kernel
theorem dL_law_1079 : decode cL_law 1079 = .ok (.iload_n 3, 1) := by decide +kernel
theorem dL_law_1080 : decode cL_law 1080 = .ok (.iconst 1, 1) := by decide +kernel
theorem dL_law_1081 : decode cL_law 1081 = .ok (.iadd, 1) := by decide +kernel
theorem dL_law_1082 : decode cL_law 1082 = .ok (.iaload, 1) := by decide +kernel
theorem dL_law_1083 : decode cL_law 1083 = .ok (.invokevirtual 133, 3) := by decide +kernel
theorem dL_law_1086 : decode cL_law 1086 = .ok (.if_icmp .eq 451, 3) := by decide +kernel
theorem dL_law_1089 : decode cL_law 1089 = .ok (.iconst 0, 1) := by decide +kernel
theorem dL_law_1090 : decode cL_law 1090 = .ok (.ireturn, 1) := by decide +kernel
theorem dL_law_1091 : decode cL_law 1091 = .ok (.aload_n 1, 1) := by decide +kernel
theorem dL_law_1092 : decode cL_law 1092 = .ok (.aload_n 0, 1) := by decide +kernel
theorem dL_law_1093 : decode cL_law 1093 = .ok (.iload_n 3, 1) := by decide +kernel
theorem dL_law_1094 : decode cL_law 1094 = .ok (.iconst 1, 1) := by decide +kernel
theorem dL_law_1095 : decode cL_law 1095 = .ok (.iadd, 1) := by decide +kernel
theorem dL_law_1096 : decode cL_law 1096 = .ok (.iaload, 1) := by decide +kernel
theorem dL_law_1097 : decode cL_law 1097 = .ok (.invokevirtual 134, 3) := by decide +kernel
theorem dL_law_1100 : decode cL_law 1100 = .ok (.aload_n 2, 1) := by decide +kernel
theorem dL_law_1101 : decode cL_law 1101 = .ok (.aload_n 0, 1) := by decide +kernel
theorem dL_law_1102 : decode cL_law 1102 = .ok (.iload_n 3, 1) := by decide +kernel
theorem dL_law_1103 : decode cL_law 1103 = .ok (.iconst 1, 1) := by decide +kernel
theorem dL_law_1104 : decode cL_law 1104 = .ok (.iadd, 1) := by decide +kernel
theorem dL_law_1105 : decode cL_law 1105 = .ok (.iaload, 1) := by decide +kernel
theorem dL_law_1106 : decode cL_law 1106 = .ok (.invokevirtual 137, 3) := by decide +kernel
theorem dL_law_1109 : decode cL_law 1109 = .ok (.if_icmp .eq 428, 3) := by decide +kernel
theorem dL_law_1112 : decode cL_law 1112 = .ok (.iconst 0, 1) := by decide +kernel
theorem dL_law_1113 : decode cL_law 1113 = .ok (.ireturn, 1) := by decide +kernel
theorem dL_law_1114 : decode cL_law 1114 = .ok (.aload_n 1, 1) := by decide +kernel
theorem dL_law_1115 : decode cL_law 1115 = .ok (.aload_n 0, 1) := by decide +kernel
theorem dL_law_1116 : decode cL_law 1116 = .ok (.iload_n 3, 1) := by decide +kernel
theorem dL_law_1117 : decode cL_law 1117 = .ok (.iconst 1, 1) := by decide +kernel
theorem dL_law_1118 : decode cL_law 1118 = .ok (.iadd, 1) := by decide +kernel
theorem dL_law_1119 : decode cL_law 1119 = .ok (.iaload, 1) := by decide +kernel
theorem dL_law_1120 : decode cL_law 1120 = .ok (.aload_n 0, 1) := by decide +kernel
theorem dL_law_1121 : decode cL_law 1121 = .ok (.iload_n 3, 1) := by decide +kernel
theorem dL_law_1122 : decode cL_law 1122 = .ok (.iconst 2, 1) := by decide +kernel
theorem dL_law_1123 : decode cL_law 1123 = .ok (.iadd, 1) := by decide +kernel
theorem dL_law_1124 : decode cL_law 1124 = .ok (.iaload, 1) := by decide +kernel
theorem dL_law_1125 : decode cL_law 1125 = .ok (.aload_n 0, 1) := by decide +kernel
theorem dL_law_1126 : decode cL_law 1126 = .ok (.iload_n 3, 1) := by decide +kernel
theorem dL_law_1127 : decode cL_law 1127 = .ok (.iconst 3, 1) := by decide +kernel
theorem dL_law_1128 : decode cL_law 1128 = .ok (.iadd, 1) := by decide +kernel
theorem dL_law_1129 : decode cL_law 1129 = .ok (.iaload, 1) := by decide +kernel
theorem dL_law_1130 : decode cL_law 1130 = .ok (.aload_n 0, 1) := by decide +kernel
theorem dL_law_1131 : decode cL_law 1131 = .ok (.iload_n 3, 1) := by decide +kernel
theorem dL_law_1132 : decode cL_law 1132 = .ok (.iconst 4, 1) := by decide +kernel
theorem dL_law_1133 : decode cL_law 1133 = .ok (.iadd, 1) := by decide +kernel
theorem dL_law_1134 : decode cL_law 1134 = .ok (.iaload, 1) := by decide +kernel
theorem dL_law_1135 : decode cL_law 1135 = .ok (.invokevirtual 138, 3) := by decide +kernel
theorem dL_law_1138 : decode cL_law 1138 = .ok (.aload_n 2, 1) := by decide +kernel
theorem dL_law_1139 : decode cL_law 1139 = .ok (.aload_n 0, 1) := by decide +kernel
theorem dL_law_1140 : decode cL_law 1140 = .ok (.iload_n 3, 1) := by decide +kernel
theorem dL_law_1141 : decode cL_law 1141 = .ok (.iconst 1, 1) := by decide +kernel
theorem dL_law_1142 : decode cL_law 1142 = .ok (.iadd, 1) := by decide +kernel
theorem dL_law_1143 : decode cL_law 1143 = .ok (.iaload, 1) := by decide +kernel
theorem dL_law_1144 : decode cL_law 1144 = .ok (.aload_n 0, 1) := by decide +kernel
theorem dL_law_1145 : decode cL_law 1145 = .ok (.iload_n 3, 1) := by decide +kernel
theorem dL_law_1146 : decode cL_law 1146 = .ok (.iconst 2, 1) := by decide +kernel
theorem dL_law_1147 : decode cL_law 1147 = .ok (.iadd, 1) := by decide +kernel
theorem dL_law_1148 : decode cL_law 1148 = .ok (.iaload, 1) := by decide +kernel
theorem dL_law_1149 : decode cL_law 1149 = .ok (.aload_n 0, 1) := by decide +kernel
theorem dL_law_1150 : decode cL_law 1150 = .ok (.iload_n 3, 1) := by decide +kernel
theorem dL_law_1151 : decode cL_law 1151 = .ok (.iconst 3, 1) := by decide +kernel
theorem dL_law_1152 : decode cL_law 1152 = .ok (.iadd, 1) := by decide +kernel
theorem dL_law_1153 : decode cL_law 1153 = .ok (.iaload, 1) := by decide +kernel
theorem dL_law_1154 : decode cL_law 1154 = .ok (.aload_n 0, 1) := by decide +kernel
theorem dL_law_1155 : decode cL_law 1155 = .ok (.iload_n 3, 1) := by decide +kernel
theorem dL_law_1156 : decode cL_law 1156 = .ok (.iconst 4, 1) := by decide +kernel
theorem dL_law_1157 : decode cL_law 1157 = .ok (.iadd, 1) := by decide +kernel
theorem dL_law_1158 : decode cL_law 1158 = .ok (.iaload, 1) := by decide +kernel
theorem dL_law_1159 : decode cL_law 1159 = .ok (.invokevirtual 141, 3) := by decide +kernel
theorem dL_law_1162 : decode cL_law 1162 = .ok (.if_icmp .eq 375, 3) := by decide +kernel
theorem dL_law_1165 : decode cL_law 1165 = .ok (.iconst 0, 1) := by decide +kernel
theorem dL_law_1166 : decode cL_law 1166 = .ok (.ireturn, 1) := by decide +kernel
theorem dL_law_1167 : decode cL_law 1167 = .ok (.aload_n 1, 1) := by decide +kernel
theorem dL_law_1168 : decode cL_law 1168 = .ok (.aload_n 0, 1) := by decide +kernel
theorem dL_law_1169 : decode cL_law 1169 = .ok (.iload_n 3, 1) := by decide +kernel
theorem dL_law_1170 : decode cL_law 1170 = .ok (.iconst 1, 1) := by decide +kernel
theorem dL_law_1171 : decode cL_law 1171 = .ok (.iadd, 1) := by decide +kernel
theorem dL_law_1172 : decode cL_law 1172 = .ok (.iaload, 1) := by decide +kernel
theorem dL_law_1173 : decode cL_law 1173 = .ok (.aload_n 0, 1) := by decide +kernel
theorem dL_law_1174 : decode cL_law 1174 = .ok (.iload_n 3, 1) := by decide +kernel
theorem dL_law_1175 : decode cL_law 1175 = .ok (.iconst 2, 1) := by decide +kernel
theorem dL_law_1176 : decode cL_law 1176 = .ok (.iadd, 1) := by decide +kernel
theorem dL_law_1177 : decode cL_law 1177 = .ok (.iaload, 1) := by decide +kernel
theorem dL_law_1178 : decode cL_law 1178 = .ok (.invokevirtual 142, 3) := by decide +kernel
theorem dL_law_1181 : decode cL_law 1181 = .ok (.aload_n 2, 1) := by decide +kernel
theorem dL_law_1182 : decode cL_law 1182 = .ok (.aload_n 0, 1) := by decide +kernel
theorem dL_law_1183 : decode cL_law 1183 = .ok (.iload_n 3, 1) := by decide +kernel
theorem dL_law_1184 : decode cL_law 1184 = .ok (.iconst 1, 1) := by decide +kernel
theorem dL_law_1185 : decode cL_law 1185 = .ok (.iadd, 1) := by decide +kernel
theorem dL_law_1186 : decode cL_law 1186 = .ok (.iaload, 1) := by decide +kernel
theorem dL_law_1187 : decode cL_law 1187 = .ok (.aload_n 0, 1) := by decide +kernel
theorem dL_law_1188 : decode cL_law 1188 = .ok (.iload_n 3, 1) := by decide +kernel
theorem dL_law_1189 : decode cL_law 1189 = .ok (.iconst 2, 1) := by decide +kernel
theorem dL_law_1190 : decode cL_law 1190 = .ok (.iadd, 1) := by decide +kernel
theorem dL_law_1191 : decode cL_law 1191 = .ok (.iaload, 1) := by decide +kernel
theorem dL_law_1192 : decode cL_law 1192 = .ok (.invokevirtual 145, 3) := by decide +kernel
theorem dL_law_1195 : decode cL_law 1195 = .ok (.if_icmp .eq 342, 3) := by decide +kernel
theorem dL_law_1198 : decode cL_law 1198 = .ok (.iconst 0, 1) := by decide +kernel
theorem dL_law_1199 : decode cL_law 1199 = .ok (.ireturn, 1) := by decide +kernel
theorem dL_law_1200 : decode cL_law 1200 = .ok (.aload_n 1, 1) := by decide +kernel
theorem dL_law_1201 : decode cL_law 1201 = .ok (.invokevirtual 146, 3) := by decide +kernel
theorem dL_law_1204 : decode cL_law 1204 = .ok (.aload_n 2, 1) := by decide +kernel
theorem dL_law_1205 : decode cL_law 1205 = .ok (.invokevirtual 149, 3) := by decide +kernel
theorem dL_law_1208 : decode cL_law 1208 = .ok (.if_icmp .eq 329, 3) := by decide +kernel
theorem dL_law_1211 : decode cL_law 1211 = .ok (.iconst 0, 1) := by decide +kernel
theorem dL_law_1212 : decode cL_law 1212 = .ok (.ireturn, 1) := by decide +kernel
theorem dL_law_1213 : decode cL_law 1213 = .ok (.aload_n 1, 1) := by decide +kernel
theorem dL_law_1214 : decode cL_law 1214 = .ok (.invokevirtual 150, 3) := by decide +kernel
theorem dL_law_1217 : decode cL_law 1217 = .ok (.aload_n 2, 1) := by decide +kernel
theorem dL_law_1218 : decode cL_law 1218 = .ok (.invokevirtual 153, 3) := by decide +kernel
theorem dL_law_1221 : decode cL_law 1221 = .ok (.if_icmp .eq 316, 3) := by decide +kernel
theorem dL_law_1224 : decode cL_law 1224 = .ok (.iconst 0, 1) := by decide +kernel
theorem dL_law_1225 : decode cL_law 1225 = .ok (.ireturn, 1) := by decide +kernel
theorem dL_law_1226 : decode cL_law 1226 = .ok (.aload_n 1, 1) := by decide +kernel
theorem dL_law_1227 : decode cL_law 1227 = .ok (.aload_n 0, 1) := by decide +kernel
theorem dL_law_1228 : decode cL_law 1228 = .ok (.iload_n 3, 1) := by decide +kernel
theorem dL_law_1229 : decode cL_law 1229 = .ok (.iconst 1, 1) := by decide +kernel
theorem dL_law_1230 : decode cL_law 1230 = .ok (.iadd, 1) := by decide +kernel
theorem dL_law_1231 : decode cL_law 1231 = .ok (.iaload, 1) := by decide +kernel
theorem dL_law_1232 : decode cL_law 1232 = .ok (.aload_n 0, 1) := by decide +kernel
theorem dL_law_1233 : decode cL_law 1233 = .ok (.iload_n 3, 1) := by decide +kernel
theorem dL_law_1234 : decode cL_law 1234 = .ok (.iconst 2, 1) := by decide +kernel
theorem dL_law_1235 : decode cL_law 1235 = .ok (.iadd, 1) := by decide +kernel
theorem dL_law_1236 : decode cL_law 1236 = .ok (.iaload, 1) := by decide +kernel
theorem dL_law_1237 : decode cL_law 1237 = .ok (.aload_n 0, 1) := by decide +kernel
theorem dL_law_1238 : decode cL_law 1238 = .ok (.iload_n 3, 1) := by decide +kernel
theorem dL_law_1239 : decode cL_law 1239 = .ok (.iconst 3, 1) := by decide +kernel
theorem dL_law_1240 : decode cL_law 1240 = .ok (.iadd, 1) := by decide +kernel
theorem dL_law_1241 : decode cL_law 1241 = .ok (.iaload, 1) := by decide +kernel
theorem dL_law_1242 : decode cL_law 1242 = .ok (.invokevirtual 154, 3) := by decide +kernel
theorem dL_law_1245 : decode cL_law 1245 = .ok (.aload_n 2, 1) := by decide +kernel
theorem dL_law_1246 : decode cL_law 1246 = .ok (.aload_n 0, 1) := by decide +kernel
theorem dL_law_1247 : decode cL_law 1247 = .ok (.iload_n 3, 1) := by decide +kernel
theorem dL_law_1248 : decode cL_law 1248 = .ok (.iconst 1, 1) := by decide +kernel
theorem dL_law_1249 : decode cL_law 1249 = .ok (.iadd, 1) := by decide +kernel
theorem dL_law_1250 : decode cL_law 1250 = .ok (.iaload, 1) := by decide +kernel
theorem dL_law_1251 : decode cL_law 1251 = .ok (.aload_n 0, 1) := by decide +kernel
theorem dL_law_1252 : decode cL_law 1252 = .ok (.iload_n 3, 1) := by decide +kernel
theorem dL_law_1253 : decode cL_law 1253 = .ok (.iconst 2, 1) := by decide +kernel
theorem dL_law_1254 : decode cL_law 1254 = .ok (.iadd, 1) := by decide +kernel
theorem dL_law_1255 : decode cL_law 1255 = .ok (.iaload, 1) := by decide +kernel
theorem dL_law_1256 : decode cL_law 1256 = .ok (.aload_n 0, 1) := by decide +kernel
theorem dL_law_1257 : decode cL_law 1257 = .ok (.iload_n 3, 1) := by decide +kernel
theorem dL_law_1258 : decode cL_law 1258 = .ok (.iconst 3, 1) := by decide +kernel
theorem dL_law_1259 : decode cL_law 1259 = .ok (.iadd, 1) := by decide +kernel
theorem dL_law_1260 : decode cL_law 1260 = .ok (.iaload, 1) := by decide +kernel
theorem dL_law_1261 : decode cL_law 1261 = .ok (.invokevirtual 157, 3) := by decide +kernel
theorem dL_law_1264 : decode cL_law 1264 = .ok (.if_icmp .eq 273, 3) := by decide +kernel
theorem dL_law_1267 : decode cL_law 1267 = .ok (.iconst 0, 1) := by decide +kernel
theorem dL_law_1268 : decode cL_law 1268 = .ok (.ireturn, 1) := by decide +kernel
theorem dL_law_1269 : decode cL_law 1269 = .ok (.aload_n 1, 1) := by decide +kernel
theorem dL_law_1270 : decode cL_law 1270 = .ok (.aload_n 0, 1) := by decide +kernel
theorem dL_law_1271 : decode cL_law 1271 = .ok (.iload_n 3, 1) := by decide +kernel
theorem dL_law_1272 : decode cL_law 1272 = .ok (.iconst 1, 1) := by decide +kernel
theorem dL_law_1273 : decode cL_law 1273 = .ok (.iadd, 1) := by decide +kernel
theorem dL_law_1274 : decode cL_law 1274 = .ok (.iaload, 1) := by decide +kernel
theorem dL_law_1275 : decode cL_law 1275 = .ok (.aload_n 0, 1) := by decide +kernel
theorem dL_law_1276 : decode cL_law 1276 = .ok (.iload_n 3, 1) := by decide +kernel
theorem dL_law_1277 : decode cL_law 1277 = .ok (.iconst 2, 1) := by decide +kernel
theorem dL_law_1278 : decode cL_law 1278 = .ok (.iadd, 1) := by decide +kernel
theorem dL_law_1279 : decode cL_law 1279 = .ok (.iaload, 1) := by decide +kernel
theorem dL_law_1280 : decode cL_law 1280 = .ok (.aload_n 0, 1) := by decide +kernel
theorem dL_law_1281 : decode cL_law 1281 = .ok (.iload_n 3, 1) := by decide +kernel
theorem dL_law_1282 : decode cL_law 1282 = .ok (.iconst 3, 1) := by decide +kernel
theorem dL_law_1283 : decode cL_law 1283 = .ok (.iadd, 1) := by decide +kernel
theorem dL_law_1284 : decode cL_law 1284 = .ok (.iaload, 1) := by decide +kernel
theorem dL_law_1285 : decode cL_law 1285 = .ok (.i2l, 1) := by decide +kernel
theorem dL_law_1286 : decode cL_law 1286 = .ok (.bipush 32, 2) := by decide +kernel
theorem dL_law_1288 : decode cL_law 1288 = .ok (.lshl, 1) := by decide +kernel
theorem dL_law_1289 : decode cL_law 1289 = .ok (.aload_n 0, 1) := by decide +kernel
theorem dL_law_1290 : decode cL_law 1290 = .ok (.iload_n 3, 1) := by decide +kernel
theorem dL_law_1291 : decode cL_law 1291 = .ok (.iconst 4, 1) := by decide +kernel
theorem dL_law_1292 : decode cL_law 1292 = .ok (.iadd, 1) := by decide +kernel
theorem dL_law_1293 : decode cL_law 1293 = .ok (.iaload, 1) := by decide +kernel
theorem dL_law_1294 : decode cL_law 1294 = .ok (.i2l, 1) := by decide +kernel
theorem dL_law_1295 : decode cL_law 1295 = .ok (.ldc2_w 158, 3) := by decide +kernel
theorem dL_law_1298 : decode cL_law 1298 = .ok (.land, 1) := by decide +kernel
theorem dL_law_1299 : decode cL_law 1299 = .ok (.lor, 1) := by decide +kernel
theorem dL_law_1300 : decode cL_law 1300 = .ok (.invokevirtual 160, 3) := by decide +kernel
theorem dL_law_1303 : decode cL_law 1303 = .ok (.aload_n 2, 1) := by decide +kernel
theorem dL_law_1304 : decode cL_law 1304 = .ok (.aload_n 0, 1) := by decide +kernel
theorem dL_law_1305 : decode cL_law 1305 = .ok (.iload_n 3, 1) := by decide +kernel
theorem dL_law_1306 : decode cL_law 1306 = .ok (.iconst 1, 1) := by decide +kernel
theorem dL_law_1307 : decode cL_law 1307 = .ok (.iadd, 1) := by decide +kernel
theorem dL_law_1308 : decode cL_law 1308 = .ok (.iaload, 1) := by decide +kernel
theorem dL_law_1309 : decode cL_law 1309 = .ok (.aload_n 0, 1) := by decide +kernel
theorem dL_law_1310 : decode cL_law 1310 = .ok (.iload_n 3, 1) := by decide +kernel
theorem dL_law_1311 : decode cL_law 1311 = .ok (.iconst 2, 1) := by decide +kernel
theorem dL_law_1312 : decode cL_law 1312 = .ok (.iadd, 1) := by decide +kernel
theorem dL_law_1313 : decode cL_law 1313 = .ok (.iaload, 1) := by decide +kernel
theorem dL_law_1314 : decode cL_law 1314 = .ok (.aload_n 0, 1) := by decide +kernel
theorem dL_law_1315 : decode cL_law 1315 = .ok (.iload_n 3, 1) := by decide +kernel
theorem dL_law_1316 : decode cL_law 1316 = .ok (.iconst 3, 1) := by decide +kernel
theorem dL_law_1317 : decode cL_law 1317 = .ok (.iadd, 1) := by decide +kernel
theorem dL_law_1318 : decode cL_law 1318 = .ok (.iaload, 1) := by decide +kernel
theorem dL_law_1319 : decode cL_law 1319 = .ok (.i2l, 1) := by decide +kernel
theorem dL_law_1320 : decode cL_law 1320 = .ok (.bipush 32, 2) := by decide +kernel
theorem dL_law_1322 : decode cL_law 1322 = .ok (.lshl, 1) := by decide +kernel
theorem dL_law_1323 : decode cL_law 1323 = .ok (.aload_n 0, 1) := by decide +kernel
theorem dL_law_1324 : decode cL_law 1324 = .ok (.iload_n 3, 1) := by decide +kernel
theorem dL_law_1325 : decode cL_law 1325 = .ok (.iconst 4, 1) := by decide +kernel
theorem dL_law_1326 : decode cL_law 1326 = .ok (.iadd, 1) := by decide +kernel
theorem dL_law_1327 : decode cL_law 1327 = .ok (.iaload, 1) := by decide +kernel
theorem dL_law_1328 : decode cL_law 1328 = .ok (.i2l, 1) := by decide +kernel
theorem dL_law_1329 : decode cL_law 1329 = .ok (.ldc2_w 158, 3) := by decide +kernel
theorem dL_law_1332 : decode cL_law 1332 = .ok (.land, 1) := by decide +kernel
theorem dL_law_1333 : decode cL_law 1333 = .ok (.lor, 1) := by decide +kernel
theorem dL_law_1334 : decode cL_law 1334 = .ok (.invokevirtual 164, 3) := by decide +kernel
theorem dL_law_1337 : decode cL_law 1337 = .ok (.lcmp, 1) := by decide +kernel
theorem dL_law_1338 : decode cL_law 1338 = .ok (.ifCond .eq 199, 3) := by decide +kernel
theorem dL_law_1341 : decode cL_law 1341 = .ok (.iconst 0, 1) := by decide +kernel
theorem dL_law_1342 : decode cL_law 1342 = .ok (.ireturn, 1) := by decide +kernel
theorem dL_law_1343 : decode cL_law 1343 = .ok (.aload_n 1, 1) := by decide +kernel
theorem dL_law_1344 : decode cL_law 1344 = .ok (.aload_n 0, 1) := by decide +kernel
theorem dL_law_1345 : decode cL_law 1345 = .ok (.iload_n 3, 1) := by decide +kernel
theorem dL_law_1346 : decode cL_law 1346 = .ok (.iconst 1, 1) := by decide +kernel
theorem dL_law_1347 : decode cL_law 1347 = .ok (.iadd, 1) := by decide +kernel
theorem dL_law_1348 : decode cL_law 1348 = .ok (.iaload, 1) := by decide +kernel
theorem dL_law_1349 : decode cL_law 1349 = .ok (.aload_n 0, 1) := by decide +kernel
theorem dL_law_1350 : decode cL_law 1350 = .ok (.iload_n 3, 1) := by decide +kernel
theorem dL_law_1351 : decode cL_law 1351 = .ok (.iconst 2, 1) := by decide +kernel
theorem dL_law_1352 : decode cL_law 1352 = .ok (.iadd, 1) := by decide +kernel
theorem dL_law_1353 : decode cL_law 1353 = .ok (.iaload, 1) := by decide +kernel
theorem dL_law_1354 : decode cL_law 1354 = .ok (.aload_n 0, 1) := by decide +kernel
theorem dL_law_1355 : decode cL_law 1355 = .ok (.iload_n 3, 1) := by decide +kernel
theorem dL_law_1356 : decode cL_law 1356 = .ok (.iconst 3, 1) := by decide +kernel
theorem dL_law_1357 : decode cL_law 1357 = .ok (.iadd, 1) := by decide +kernel
theorem dL_law_1358 : decode cL_law 1358 = .ok (.iaload, 1) := by decide +kernel
theorem dL_law_1359 : decode cL_law 1359 = .ok (.aload_n 0, 1) := by decide +kernel
theorem dL_law_1360 : decode cL_law 1360 = .ok (.iload_n 3, 1) := by decide +kernel
theorem dL_law_1361 : decode cL_law 1361 = .ok (.iconst 4, 1) := by decide +kernel
theorem dL_law_1362 : decode cL_law 1362 = .ok (.iadd, 1) := by decide +kernel
theorem dL_law_1363 : decode cL_law 1363 = .ok (.iaload, 1) := by decide +kernel
theorem dL_law_1364 : decode cL_law 1364 = .ok (.aload_n 0, 1) := by decide +kernel
theorem dL_law_1365 : decode cL_law 1365 = .ok (.iload_n 3, 1) := by decide +kernel
theorem dL_law_1366 : decode cL_law 1366 = .ok (.iconst 5, 1) := by decide +kernel
theorem dL_law_1367 : decode cL_law 1367 = .ok (.iadd, 1) := by decide +kernel
theorem dL_law_1368 : decode cL_law 1368 = .ok (.iaload, 1) := by decide +kernel
theorem dL_law_1369 : decode cL_law 1369 = .ok (.invokevirtual 165, 3) := by decide +kernel
theorem dL_law_1372 : decode cL_law 1372 = .ok (.aload_n 2, 1) := by decide +kernel
theorem dL_law_1373 : decode cL_law 1373 = .ok (.aload_n 0, 1) := by decide +kernel
theorem dL_law_1374 : decode cL_law 1374 = .ok (.iload_n 3, 1) := by decide +kernel
theorem dL_law_1375 : decode cL_law 1375 = .ok (.iconst 1, 1) := by decide +kernel
theorem dL_law_1376 : decode cL_law 1376 = .ok (.iadd, 1) := by decide +kernel
theorem dL_law_1377 : decode cL_law 1377 = .ok (.iaload, 1) := by decide +kernel
theorem dL_law_1378 : decode cL_law 1378 = .ok (.aload_n 0, 1) := by decide +kernel
theorem dL_law_1379 : decode cL_law 1379 = .ok (.iload_n 3, 1) := by decide +kernel
theorem dL_law_1380 : decode cL_law 1380 = .ok (.iconst 2, 1) := by decide +kernel
theorem dL_law_1381 : decode cL_law 1381 = .ok (.iadd, 1) := by decide +kernel
theorem dL_law_1382 : decode cL_law 1382 = .ok (.iaload, 1) := by decide +kernel
theorem dL_law_1383 : decode cL_law 1383 = .ok (.aload_n 0, 1) := by decide +kernel
theorem dL_law_1384 : decode cL_law 1384 = .ok (.iload_n 3, 1) := by decide +kernel
theorem dL_law_1385 : decode cL_law 1385 = .ok (.iconst 3, 1) := by decide +kernel
theorem dL_law_1386 : decode cL_law 1386 = .ok (.iadd, 1) := by decide +kernel
theorem dL_law_1387 : decode cL_law 1387 = .ok (.iaload, 1) := by decide +kernel
theorem dL_law_1388 : decode cL_law 1388 = .ok (.aload_n 0, 1) := by decide +kernel
theorem dL_law_1389 : decode cL_law 1389 = .ok (.iload_n 3, 1) := by decide +kernel
theorem dL_law_1390 : decode cL_law 1390 = .ok (.iconst 4, 1) := by decide +kernel
theorem dL_law_1391 : decode cL_law 1391 = .ok (.iadd, 1) := by decide +kernel
theorem dL_law_1392 : decode cL_law 1392 = .ok (.iaload, 1) := by decide +kernel
theorem dL_law_1393 : decode cL_law 1393 = .ok (.aload_n 0, 1) := by decide +kernel
theorem dL_law_1394 : decode cL_law 1394 = .ok (.iload_n 3, 1) := by decide +kernel
theorem dL_law_1395 : decode cL_law 1395 = .ok (.iconst 5, 1) := by decide +kernel
theorem dL_law_1396 : decode cL_law 1396 = .ok (.iadd, 1) := by decide +kernel
theorem dL_law_1397 : decode cL_law 1397 = .ok (.iaload, 1) := by decide +kernel
theorem dL_law_1398 : decode cL_law 1398 = .ok (.invokevirtual 169, 3) := by decide +kernel
theorem dL_law_1401 : decode cL_law 1401 = .ok (.if_icmp .eq 136, 3) := by decide +kernel
theorem dL_law_1404 : decode cL_law 1404 = .ok (.iconst 0, 1) := by decide +kernel
theorem dL_law_1405 : decode cL_law 1405 = .ok (.ireturn, 1) := by decide +kernel
theorem dL_law_1406 : decode cL_law 1406 = .ok (.aload_n 1, 1) := by decide +kernel
theorem dL_law_1407 : decode cL_law 1407 = .ok (.aload_n 0, 1) := by decide +kernel
theorem dL_law_1408 : decode cL_law 1408 = .ok (.iload_n 3, 1) := by decide +kernel
theorem dL_law_1409 : decode cL_law 1409 = .ok (.iconst 1, 1) := by decide +kernel
theorem dL_law_1410 : decode cL_law 1410 = .ok (.iadd, 1) := by decide +kernel
theorem dL_law_1411 : decode cL_law 1411 = .ok (.iaload, 1) := by decide +kernel
theorem dL_law_1412 : decode cL_law 1412 = .ok (.invokevirtual 170, 3) := by decide +kernel
theorem dL_law_1415 : decode cL_law 1415 = .ok (.aload_n 2, 1) := by decide +kernel
theorem dL_law_1416 : decode cL_law 1416 = .ok (.aload_n 0, 1) := by decide +kernel
theorem dL_law_1417 : decode cL_law 1417 = .ok (.iload_n 3, 1) := by decide +kernel
theorem dL_law_1418 : decode cL_law 1418 = .ok (.iconst 1, 1) := by decide +kernel
theorem dL_law_1419 : decode cL_law 1419 = .ok (.iadd, 1) := by decide +kernel
theorem dL_law_1420 : decode cL_law 1420 = .ok (.iaload, 1) := by decide +kernel
theorem dL_law_1421 : decode cL_law 1421 = .ok (.invokevirtual 173, 3) := by decide +kernel
theorem dL_law_1424 : decode cL_law 1424 = .ok (.if_icmp .eq 113, 3) := by decide +kernel
theorem dL_law_1427 : decode cL_law 1427 = .ok (.iconst 0, 1) := by decide +kernel
theorem dL_law_1428 : decode cL_law 1428 = .ok (.ireturn, 1) := by decide +kernel
theorem dL_law_1429 : decode cL_law 1429 = .ok (.aload_n 1, 1) := by decide +kernel
theorem dL_law_1430 : decode cL_law 1430 = .ok (.aload_n 0, 1) := by decide +kernel
theorem dL_law_1431 : decode cL_law 1431 = .ok (.iload_n 3, 1) := by decide +kernel
theorem dL_law_1432 : decode cL_law 1432 = .ok (.iconst 1, 1) := by decide +kernel
theorem dL_law_1433 : decode cL_law 1433 = .ok (.iadd, 1) := by decide +kernel
theorem dL_law_1434 : decode cL_law 1434 = .ok (.iaload, 1) := by decide +kernel
theorem dL_law_1435 : decode cL_law 1435 = .ok (.invokevirtual 174, 3) := by decide +kernel
theorem dL_law_1438 : decode cL_law 1438 = .ok (.aload_n 2, 1) := by decide +kernel
theorem dL_law_1439 : decode cL_law 1439 = .ok (.aload_n 0, 1) := by decide +kernel
theorem dL_law_1440 : decode cL_law 1440 = .ok (.iload_n 3, 1) := by decide +kernel
theorem dL_law_1441 : decode cL_law 1441 = .ok (.iconst 1, 1) := by decide +kernel
theorem dL_law_1442 : decode cL_law 1442 = .ok (.iadd, 1) := by decide +kernel
theorem dL_law_1443 : decode cL_law 1443 = .ok (.iaload, 1) := by decide +kernel
theorem dL_law_1444 : decode cL_law 1444 = .ok (.invokevirtual 177, 3) := by decide +kernel
theorem dL_law_1447 : decode cL_law 1447 = .ok (.if_icmp .eq 90, 3) := by decide +kernel
theorem dL_law_1450 : decode cL_law 1450 = .ok (.iconst 0, 1) := by decide +kernel
theorem dL_law_1451 : decode cL_law 1451 = .ok (.ireturn, 1) := by decide +kernel
theorem dL_law_1452 : decode cL_law 1452 = .ok (.aload_n 1, 1) := by decide +kernel
theorem dL_law_1453 : decode cL_law 1453 = .ok (.invokevirtual 178, 3) := by decide +kernel
theorem dL_law_1456 : decode cL_law 1456 = .ok (.aload_n 2, 1) := by decide +kernel
theorem dL_law_1457 : decode cL_law 1457 = .ok (.invokevirtual 181, 3) := by decide +kernel
theorem dL_law_1460 : decode cL_law 1460 = .ok (.if_icmp .eq 77, 3) := by decide +kernel
theorem dL_law_1463 : decode cL_law 1463 = .ok (.iconst 0, 1) := by decide +kernel
theorem dL_law_1464 : decode cL_law 1464 = .ok (.ireturn, 1) := by decide +kernel
theorem dL_law_1465 : decode cL_law 1465 = .ok (.aload_n 1, 1) := by decide +kernel
theorem dL_law_1466 : decode cL_law 1466 = .ok (.invokevirtual 182, 3) := by decide +kernel
theorem dL_law_1469 : decode cL_law 1469 = .ok (.aload_n 2, 1) := by decide +kernel
theorem dL_law_1470 : decode cL_law 1470 = .ok (.invokevirtual 185, 3) := by decide +kernel
theorem dL_law_1473 : decode cL_law 1473 = .ok (.if_icmp .eq 64, 3) := by decide +kernel
theorem dL_law_1476 : decode cL_law 1476 = .ok (.iconst 0, 1) := by decide +kernel
theorem dL_law_1477 : decode cL_law 1477 = .ok (.ireturn, 1) := by decide +kernel
theorem dL_law_1478 : decode cL_law 1478 = .ok (.aload_n 1, 1) := by decide +kernel
theorem dL_law_1479 : decode cL_law 1479 = .ok (.invokevirtual 186, 3) := by decide +kernel
theorem dL_law_1482 : decode cL_law 1482 = .ok (.aload_n 2, 1) := by decide +kernel
theorem dL_law_1483 : decode cL_law 1483 = .ok (.invokevirtual 189, 3) := by decide +kernel
theorem dL_law_1486 : decode cL_law 1486 = .ok (.if_icmp .eq 51, 3) := by decide +kernel
theorem dL_law_1489 : decode cL_law 1489 = .ok (.iconst 0, 1) := by decide +kernel
theorem dL_law_1490 : decode cL_law 1490 = .ok (.ireturn, 1) := by decide +kernel
theorem dL_law_1491 : decode cL_law 1491 = .ok (.aload_n 1, 1) := by decide +kernel
theorem dL_law_1492 : decode cL_law 1492 = .ok (.aload_n 0, 1) := by decide +kernel
theorem dL_law_1493 : decode cL_law 1493 = .ok (.iload_n 3, 1) := by decide +kernel
theorem dL_law_1494 : decode cL_law 1494 = .ok (.iconst 1, 1) := by decide +kernel
theorem dL_law_1495 : decode cL_law 1495 = .ok (.iadd, 1) := by decide +kernel
theorem dL_law_1496 : decode cL_law 1496 = .ok (.iaload, 1) := by decide +kernel
theorem dL_law_1497 : decode cL_law 1497 = .ok (.invokevirtual 190, 3) := by decide +kernel
theorem dL_law_1500 : decode cL_law 1500 = .ok (.aload_n 2, 1) := by decide +kernel
theorem dL_law_1501 : decode cL_law 1501 = .ok (.aload_n 0, 1) := by decide +kernel
theorem dL_law_1502 : decode cL_law 1502 = .ok (.iload_n 3, 1) := by decide +kernel
theorem dL_law_1503 : decode cL_law 1503 = .ok (.iconst 1, 1) := by decide +kernel
theorem dL_law_1504 : decode cL_law 1504 = .ok (.iadd, 1) := by decide +kernel
theorem dL_law_1505 : decode cL_law 1505 = .ok (.iaload, 1) := by decide +kernel
theorem dL_law_1506 : decode cL_law 1506 = .ok (.invokevirtual 193, 3) := by decide +kernel
theorem dL_law_1509 : decode cL_law 1509 = .ok (.if_icmp .eq 28, 3) := by decide +kernel
theorem dL_law_1512 : decode cL_law 1512 = .ok (.iconst 0, 1) := by decide +kernel
theorem dL_law_1513 : decode cL_law 1513 = .ok (.ireturn, 1) := by decide +kernel
theorem dL_law_1514 : decode cL_law 1514 = .ok (.aload_n 1, 1) := by decide +kernel
theorem dL_law_1515 : decode cL_law 1515 = .ok (.aload_n 0, 1) := by decide +kernel
theorem dL_law_1516 : decode cL_law 1516 = .ok (.iload_n 3, 1) := by decide +kernel
theorem dL_law_1517 : decode cL_law 1517 = .ok (.iconst 1, 1) := by decide +kernel
theorem dL_law_1518 : decode cL_law 1518 = .ok (.iadd, 1) := by decide +kernel
theorem dL_law_1519 : decode cL_law 1519 = .ok (.iaload, 1) := by decide +kernel
theorem dL_law_1520 : decode cL_law 1520 = .ok (.invokevirtual 194, 3) := by decide +kernel
theorem dL_law_1523 : decode cL_law 1523 = .ok (.aload_n 2, 1) := by decide +kernel
theorem dL_law_1524 : decode cL_law 1524 = .ok (.aload_n 0, 1) := by decide +kernel
theorem dL_law_1525 : decode cL_law 1525 = .ok (.iload_n 3, 1) := by decide +kernel
theorem dL_law_1526 : decode cL_law 1526 = .ok (.iconst 1, 1) := by decide +kernel
theorem dL_law_1527 : decode cL_law 1527 = .ok (.iadd, 1) := by decide +kernel
theorem dL_law_1528 : decode cL_law 1528 = .ok (.iaload, 1) := by decide +kernel
theorem dL_law_1529 : decode cL_law 1529 = .ok (.invokevirtual 197, 3) := by decide +kernel
theorem dL_law_1532 : decode cL_law 1532 = .ok (.if_icmp .eq 5, 3) := by decide +kernel
theorem dL_law_1535 : decode cL_law 1535 = .ok (.iconst 0, 1) := by decide +kernel
theorem dL_law_1536 : decode cL_law 1536 = .ok (.ireturn, 1) := by decide +kernel
theorem dL_law_1537 : decode cL_law 1537 = .ok (.iinc 3 6, 3) := by decide +kernel
theorem dL_law_1540 : decode cL_law 1540 = .ok (.goto (-1522), 3) := by decide +kernel
theorem dL_law_1543 : decode cL_law 1543 = .ok (.iconst 1, 1) := by decide +kernel
theorem dL_law_1544 : decode cL_law 1544 = .ok (.ireturn, 1) := by decide +kernel
end
section
-- THE WORLD: abstract values, the 76 cells that law and class make, and what is known of the tables
abbrev AV : Type := Int32 ⊕ (Int64 ⊕ ((Nat × Nat) ⊕ Value))
abbrev aI (x : Int32) : AV := Sum.inl x
abbrev aL (x : Int64) : AV := Sum.inr (Sum.inl x)
abbrev aR (g k : Nat) : AV := Sum.inr (Sum.inr (Sum.inl (g, k)))
abbrev aV (v : Value) : AV := Sum.inr (Sum.inr (Sum.inr v))
/-- whole numbers of the cells: group, cell, place -/
abbrev HI : Type := Nat → Nat → Nat → Int32
abbrev HL : Type := Nat → Nat → Nat → Int64
/-- class ids and slots, addresses by group and cell, array classes by group and cell -/
abbrev WC : Type := va_G × (Nat → Nat → Nat) × (Nat → Nat → ClassId)
def cv (ω : WC) : AV → Value
  | .inl x => .int x
  | .inr (.inl x) => .long x
  | .inr (.inr (.inl q)) => .ref (ω.2.1 q.1 q.2)
  | .inr (.inr (.inr v)) => v
/-- the class of an object cell (its place in vwCl); none: an array -/
def ck : Nat → Option Nat
  | 0 => some 0
  | 1 => some 5
  | 8 => some 8
  | 14 => some 3
  | 16 => some 9
  | 18 => some 1
  | 24 => some 4
  | 25 => some 2
  | 26 => some 7
  | 28 => some 6
  | 32 => some 10
  | _ => none
/-- an object cell's fields: a reference to a cell, or a number -/
def ft (g : Nat) : Nat → List (Option (Nat × Nat))
  | 0 => [some (g, 1), some (g, 8), some (g, 14), none, none, none]
  | 1 => [some (g, 2), some (g, 3), some (g, 4), some (g, 5), some (g, 6), some (g, 7), none]
  | 8 => [some (g, 9), some (g, 10), some (g, 11), some (g, 12), some (g, 13), none]
  | 14 => [some (g, 15), none]
  | 16 => [some (3, 17), some (0, 0), some (1, 0), none, some (4, 18), some (7, 24), some (5, 25), some (6, 28)]
  | 18 => [some (4, 19), some (4, 20), some (4, 21), some (4, 22), some (4, 23), none, none, none, none]
  | 24 => [some (2, 0)]
  | 25 => [some (5, 26)]
  | 26 => [some (5, 27), none, none, none, none, none]
  | 28 => [some (6, 29), some (6, 30), some (6, 31)]
  | 32 => [some (8, 33), some (8, 34), some (8, 35), some (8, 36), none, none, none, none, some (8, 37), some (8, 38), none, some (8, 39), none, none, none, none, none, some (8, 40), some (8, 41), some (8, 42), some (8, 43)]
  | _ => []
def alen : Nat → Nat
  | 17 => 7
  | 19 => 144
  | 20 => 144
  | 27 => 120
  | 29 => 4
  | 30 => 4
  | 31 => 160
  | 33 => 150
  | 34 => 150
  | 35 => 150
  | 36 => 7
  | 37 => 5
  | 38 => 5
  | 39 => 120
  | 40 => 4
  | 41 => 4
  | 42 => 160
  | 43 => 40
  | _ => 12
def isL : Nat → Bool
  | 31 => true
  | 42 => true
  | 43 => true
  | _ => false
def aty (k : Nat) : FieldType := if isL k = true then .long else .int
/-- the group of a cell that is there once -/
def gk (k : Nat) : Nat := if k < 18 then 3 else if k < 24 then 4 else if k < 25 then 7 else if k < 28 then 5 else if k < 32 then 6 else 8
def inW (g k : Nat) : Bool := if k < 16 then decide (g < 3) else (decide (k < 44) && (gk k == g))
def idx : List (Nat × Nat) := ((List.range 16).map fun k => (0, k)) ++ ((List.range 16).map fun k => (1, k)) ++ ((List.range 16).map fun k => (2, k)) ++ ((List.range 28).map fun k => (gk (16 + k), 16 + k))
theorem bk {g : Nat} (hg : g < 3) {k : Nat} (hk : k < 16) : inW g k = true := by
  unfold inW
  rw [if_pos hk]
  exact decide_eq_true hg
theorem idx_len : idx.length = 76 := by decide +kernel
theorem idx_inj {i j : Nat} {q : Nat × Nat} (hi : idx[i]? = some q) (hj : idx[j]? = some q) : i = j := by
  have key : ∀ i : Fin 76, ∀ j : Fin 76, idx[i.val]? = idx[j.val]? → i = j := by decide +kernel
  have li : i < 76 := by rw [← idx_len]; exact (List.getElem?_eq_some_iff.mp hi).1
  have lj : j < 76 := by rw [← idx_len]; exact (List.getElem?_eq_some_iff.mp hj).1
  exact Fin.mk.inj (key ⟨i, li⟩ ⟨j, lj⟩ (hi.trans hj.symm))
theorem idx_mem {g k : Nat} (h : inW g k = true) : (g, k) ∈ idx := by
  unfold inW at h
  split at h
  · next hk =>
    have hg : g < 3 := of_decide_eq_true h
    have key : ∀ g : Fin 3, ∀ k : Fin 16, (g.val, k.val) ∈ idx := by decide +kernel
    exact key ⟨g, hg⟩ ⟨k, hk⟩
  · next hk =>
    simp only [Bool.and_eq_true, decide_eq_true_eq, beq_iff_eq] at h
    obtain ⟨h1, h2⟩ := h
    have key : ∀ k : Fin 44, 16 ≤ k.val → (gk k.val, k.val) ∈ idx := by decide +kernel
    rw [← h2]
    exact key ⟨k, h1⟩ (show 16 ≤ k by omega)
theorem idx_in {g k : Nat} (h : (g, k) ∈ idx) : inW g k = true := by
  have key : ∀ q ∈ idx, inW q.1 q.2 = true := by decide +kernel
  exact key (g, k) h
/-- an object's fields as values -/
def fv (ω : WC) (u : Nat → Int32) : Nat → List (Option (Nat × Nat)) → List Value
  | _, [] => []
  | j, some q :: r => .ref (ω.2.1 q.1 q.2) :: fv ω u (j + 1) r
  | j, none :: r => .int (u j) :: fv ω u (j + 1) r
theorem fv_ref {ω : WC} {u : Nat → Int32} {q : Nat × Nat} : ∀ {l : List (Option (Nat × Nat))} {j i : Nat}, l[i]? = some (some q) → (fv ω u j l)[i]? = some (.ref (ω.2.1 q.1 q.2))
  | [], _, _, h => by simp at h
  | o :: r, j, 0, h => by
    simp only [List.getElem?_cons_zero, Option.some.injEq] at h
    subst h
    rfl
  | o :: r, j, i + 1, h => by
    rw [List.getElem?_cons_succ] at h
    cases o <;> (simp only [fv, List.getElem?_cons_succ]; exact fv_ref h)
theorem fv_int {ω : WC} {u : Nat → Int32} : ∀ {l : List (Option (Nat × Nat))} {j i : Nat}, l[i]? = some none → (fv ω u j l)[i]? = some (.int (u (j + i)))
  | [], _, _, h => by simp at h
  | o :: r, j, 0, h => by
    simp only [List.getElem?_cons_zero, Option.some.injEq] at h
    subst h
    rfl
  | o :: r, j, i + 1, h => by
    rw [List.getElem?_cons_succ] at h
    have e : j + (i + 1) = (j + 1) + i := by omega
    cases o <;> (simp only [fv, List.getElem?_cons_succ]; rw [e]; exact fv_int h)
theorem fv_cong {ω : WC} {u v : Nat → Int32} : ∀ {l : List (Option (Nat × Nat))} {j : Nat}, (∀ i, j ≤ i → u i = v i) → fv ω u j l = fv ω v j l
  | [], _, _ => rfl
  | o :: r, j, h => by
    cases o with
    | some q => simp only [fv]; rw [fv_cong (fun i hi => h i (by omega))]
    | none => simp only [fv]; rw [fv_cong (l := r) (j := j + 1) (fun i hi => h i (by omega)), h j (Nat.le_refl j)]
theorem fv_set {ω : WC} {u : Nat → Int32} {x : Int32} : ∀ {l : List (Option (Nat × Nat))} {j i : Nat}, l[i]? = some none → (fv ω u j l).set i (.int x) = fv ω (upd u (j + i) x) j l
  | [], _, _, h => by simp at h
  | o :: r, j, 0, h => by
    simp only [List.getElem?_cons_zero, Option.some.injEq] at h
    subst h
    simp only [fv, List.set_cons_zero, Nat.add_zero]
    rw [fv_cong (u := u) (v := upd u j x) (fun i hi => by simp [upd]; omega)]
    simp [upd]
  | o :: r, j, i + 1, h => by
    rw [List.getElem?_cons_succ] at h
    have e : j + (i + 1) = (j + 1) + i := by omega
    cases o with
    | some q => simp only [fv, List.set_cons_succ]; rw [fv_set h, e]
    | none =>
      simp only [fv, List.set_cons_succ]
      rw [fv_set h, e]
      have e2 : upd u (j + 1 + i) x j = u j := by simp [upd]; omega
      rw [e2]
theorem fv_len {ω : WC} {u : Nat → Int32} : ∀ {l : List (Option (Nat × Nat))} {j : Nat}, (fv ω u j l).length = l.length
  | [], _ => rfl
  | o :: r, j => by cases o <;> simp [fv, fv_len]
/-- what a cell holds -/
def cellE (ω : WC) (h : HI) (L : HL) (q : Nat × Nat) : va_E :=
  match ck q.2 with
  | some ci => .inr (ci, fv ω (h q.1 q.2) 0 (ft q.1 q.2))
  | none => if isL q.2 = true then .inl (ω.2.2 q.1 q.2, alen q.2, .inr (.inl (L q.1 q.2))) else .inl (ω.2.2 q.1 q.2, alen q.2, .inl (h q.1 q.2))
def wsW (ω : WC) (h : HI) (L : HL) : va_W := idx.map fun q => (ω.2.1 q.1 q.2, cellE ω h L q)
def Aω (ω : WC) : Nat → Prop := fun a => ∃ q ∈ idx, a = ω.2.1 q.1 q.2
-- updates
def hU (h : HI) (g : Nat) (u : Nat → Nat → Int32) : HI := fun g' => if g' = g then u else h g'
def cU {α : Type} (u : Nat → Nat → α) (k : Nat) (f : Nat → α) : Nat → Nat → α := fun k' => if k' = k then f else u k'
def hUL (L : HL) (g : Nat) (u : Nat → Nat → Int64) : HL := fun g' => if g' = g then u else L g'
theorem hU_s {h : HI} {g : Nat} {u : Nat → Nat → Int32} : hU h g u g = u := if_pos rfl
theorem hU_n {h : HI} {g g' : Nat} {u : Nat → Nat → Int32} (e : g' ≠ g) : hU h g u g' = h g' := if_neg e
theorem hUL_s {h : HL} {g : Nat} {u : Nat → Nat → Int64} : hUL h g u g = u := if_pos rfl
theorem hUL_n {h : HL} {g g' : Nat} {u : Nat → Nat → Int64} (e : g' ≠ g) : hUL h g u g' = h g' := if_neg e
theorem cU_s {α : Type} {u : Nat → Nat → α} {k : Nat} {f : Nat → α} : cU u k f k = f := if_pos rfl
theorem cU_n {α : Type} {u : Nat → Nat → α} {k k' : Nat} {f : Nat → α} (e : k' ≠ k) : cU u k f k' = u k' := if_neg e
/-- place j of cell (g, k) becomes x -/
def hP1 (h : HI) (g k j : Nat) (x : Int32) : HI := hU h g (cU (h g) k (upd (h g k) j x))
def hPF (h : HI) (g k : Nat) (f : Nat → Int32) : HI := hU h g (cU (h g) k f)
def lP1 (L : HL) (g k j : Nat) (x : Int64) : HL := hUL L g (cU (L g) k (vp_updL (L g k) j x))
def lPF (L : HL) (g k : Nat) (f : Nat → Int64) : HL := hUL L g (cU (L g) k f)
theorem hPF_s {h : HI} {g k : Nat} {f : Nat → Int32} : hPF h g k f g k = f := by unfold hPF; rw [hU_s, cU_s]
theorem hPF_n {h : HI} {g k g' k' : Nat} {f : Nat → Int32} (e : ¬ (g' = g ∧ k' = k)) : hPF h g k f g' k' = h g' k' := by
  unfold hPF
  by_cases eg : g' = g
  · subst eg
    rw [hU_s, cU_n (fun z => e ⟨rfl, z⟩)]
  · rw [hU_n eg]
theorem lPF_s {h : HL} {g k : Nat} {f : Nat → Int64} : lPF h g k f g k = f := by unfold lPF; rw [hUL_s, cU_s]
theorem lPF_n {h : HL} {g k g' k' : Nat} {f : Nat → Int64} (e : ¬ (g' = g ∧ k' = k)) : lPF h g k f g' k' = h g' k' := by
  unfold lPF
  by_cases eg : g' = g
  · subst eg
    rw [hUL_s, cU_n (fun z => e ⟨rfl, z⟩)]
  · rw [hUL_n eg]
-- the world's list under a change of one cell
theorem ws_at {ω : WC} {h : HI} {L : HL} {p : Nat} {q : Nat × Nat} (hp : idx[p]? = some q) : (wsW ω h L)[p]? = some (ω.2.1 q.1 q.2, cellE ω h L q) := by
  unfold wsW
  rw [List.getElem?_map, hp]
  rfl
theorem ws_set {ω : WC} {h h' : HI} {L L' : HL} {p : Nat} {q : Nat × Nat} {e : va_E} (hp : idx[p]? = some q) (he : cellE ω h' L' q = e) (ho : ∀ q' ∈ idx, q' ≠ q → cellE ω h' L' q' = cellE ω h L q') : (wsW ω h L).set p (ω.2.1 q.1 q.2, e) = wsW ω h' L' := by
  apply List.ext_getElem?
  intro j
  have hlt : p < (wsW ω h L).length := by
    unfold wsW
    rw [List.length_map]
    exact (List.getElem?_eq_some_iff.mp hp).1
  by_cases hj : j = p
  · subst hj
    rw [List.getElem?_set_self hlt, ws_at hp, he]
  · rw [List.getElem?_set_ne (Ne.symm hj)]
    unfold wsW
    rw [List.getElem?_map, List.getElem?_map]
    cases hq : idx[j]? with
    | none => rfl
    | some q' =>
      have hne : q' ≠ q := by
        intro z
        subst z
        exact hj (idx_inj hq hp)
      show some (ω.2.1 q'.1 q'.2, cellE ω h L q') = some (ω.2.1 q'.1 q'.2, cellE ω h' L' q')
      rw [ho q' (List.mem_of_getElem? hq) hne]
theorem cell_obj {ω : WC} {h : HI} {L : HL} {g k ci : Nat} (hc : ck k = some ci) : cellE ω h L (g, k) = .inr (ci, fv ω (h g k) 0 (ft g k)) := by
  unfold cellE
  rw [hc]
theorem cell_int {ω : WC} {h : HI} {L : HL} {g k : Nat} (hc : ck k = none) (hl : isL k = false) : cellE ω h L (g, k) = .inl (ω.2.2 g k, alen k, .inl (h g k)) := by
  unfold cellE
  rw [hc]
  simp only
  rw [if_neg (by rw [hl]; decide)]
theorem cell_long {ω : WC} {h : HI} {L : HL} {g k : Nat} (hc : ck k = none) (hl : isL k = true) : cellE ω h L (g, k) = .inl (ω.2.2 g k, alen k, .inr (.inl (L g k))) := by
  unfold cellE
  rw [hc]
  simp only
  rw [if_pos hl]
theorem cell_keep {ω : WC} {h h' : HI} {L L' : HL} {q : Nat × Nat} (e1 : h' q.1 q.2 = h q.1 q.2) (e2 : L' q.1 q.2 = L q.1 q.2) : cellE ω h' L' q = cellE ω h L q := by
  unfold cellE
  rw [e1, e2]
end
section
-- WHAT IS KNOWN OF THE TABLES at every state of the run, and the judgement V
def gw : List Cond := lw_tbl.filter goodWord
theorem gw_at {w : Cond} (i : Nat) (hi : lw_tbl[i]? = some w) (hg : goodWord w = true) : w ∈ gw := List.mem_filter.mpr ⟨List.mem_of_getElem? hi, hg⟩
theorem gw_good : GoodIn gw gw := fun w h => ⟨h, good_of_word (List.mem_filter.mp h).2⟩
/-- a method: name, bytes, locals, answer -/
abbrev MD : Type := MethodName × ByteArray × Nat × Option FieldType
def wsM (M : MD) : List Cond := .code M.1 M.2.1 M.2.2.1 M.2.2.2 :: gw
/-- links among nest mates: class, entry, method, host -/
def nestL : List (String × Nat × MethodName × String) := [(RX9, 15, yX0_init, RX9), (RX0, 11, yX5_init, RX9), (RX0, 20, yX8_init, RX9), (RX0, 27, yX3_init, RX9), (RX9, 29, yX1_init, RX9), (RX9, 36, yX4_init, RX9), (RX4, 11, yX0_init, RX9), (RX9, 43, yX2_init, RX9), (RX2, 11, yX7_init, RX9), (RX9, 50, yX6_init, RX9), (RX5, 40, yX9_within, RX9), (RX8, 34, yX9_within, RX9), (RX5, 47, yX9_isIn, RX9), (RX0, 65, yX9_isIn, RX9), (RX0, 73, yX9_metFrom, RX9), (RX1, 73, yX9_isIn, RX9), (RX1, 70, yX9_metFrom, RX9), (RX2, 146, yX9_within, RX9)]
/-- static arrays: class, field, contents -/
def statL : List (String × String × List Int32) := [(RX5, "ABOVE", [-1, 0, 0, 1, 2, 0]), (RX5, "LEAST", [0, 0, 1, 0, 0]), (RX5, "MOST", [5, 9, 60, 10, 100]), (RX8, "MOST", [9, 99, 99, 1, 1]), (RX3, "FACTORIAL", [1, 1, 2, 6, 24, 120])]
/-- String constants of Grammar: entry, text -/
def strL : List (Nat × String) := [(73, "phrase"), (75, "thing"), (79, "rope"), (81, "number"), (83, "mending"), (85, "urgent"), (95, "minutes"), (100, "sound"), (49, "want"), (109, "worth"), (111, "day"), (120, "hurry"), (123, "count"), (63, "line"), (68, "order")]
def lenS : List Nat := [6, 5, 4, 6, 7, 6, 7, 5, 4, 5, 3, 5, 5, 4, 5]
def bytS : List (List Int32) := [[112, 104, 114, 97, 115, 101], [116, 104, 105, 110, 103], [114, 111, 112, 101], [110, 117, 109, 98, 101, 114], [109, 101, 110, 100, 105, 110, 103], [117, 114, 103, 101, 110, 116], [109, 105, 110, 117, 116, 101, 115], [115, 111, 117, 110, 100], [119, 97, 110, 116], [119, 111, 114, 116, 104], [100, 97, 121], [104, 117, 114, 114, 121], [99, 111, 117, 110, 116], [108, 105, 110, 101], [111, 114, 100, 101, 114]]
def St (ω : WC) (U : State) (H : Heap) : Prop :=
  va_K ω.1 vwCl [] U ∧
  (∀ g k : Nat, ck k = none → inW g k = true → ArrOfT U (ω.2.2 g k) (aty k) ∧ va_RA U (ω.2.2 g k) (aty k)) ∧
  (∀ q ∈ idx, ∀ q' ∈ idx, ω.2.1 q.1 q.2 = ω.2.1 q'.1 q'.2 → q = q') ∧
  (∀ q ∈ nestL, va_Nw (.methodLinkNest q.1 q.2.1 q.2.2.1 q.2.2.2) U) ∧
  (∀ (j : Nat) (q : String × String × List Int32), statL[j]? = some q → va_Z q.1 q.2.1 "[I" (.ref (ω.2.1 9 j)) (Aω ω) U H ∧ va_T .int (ω.2.1 9 j) q.2.2.length (fun i => .int (q.2.2.getD i 0)) (Aω ω) U H) ∧
  (∀ (i : Nat) (q : Nat × String), strL[i]? = some q → vk_R RX2 q.1 q.2 (ω.2.1 10 i) U) ∧
  vk_S 15 lenS bytS (fun i => ω.2.1 10 i) (fun i => ω.2.1 11 i) (Aω ω) U H ∧
  va_Z "java/lang/String" "COMPACT_STRINGS" "Z" (.int 1) (Aω ω) U H ∧
  va_Zq "jdk/internal/util/Preconditions" "SIOOBE_FORMATTER" "Ljava/util/function/BiFunction;" (Aω ω) U H
theorem St.warm {ω : WC} {s U : State} {H H1 : Heap} (h : St ω s H) (hW : s.WarmedH U.vm) (hq : ∀ a : Nat, a < H.size → ¬ Aω ω a → H1[a]? = H[a]?) : St ω U H1 := by
  obtain ⟨h1, h2, h3, h4, h5, h6, h7, h8, h9⟩ := h
  refine ⟨va_K.moved hW.alike h1, fun g k hc hi => ⟨arrOfT_moved hW.alike (h2 g k hc hi).1, (h2 g k hc hi).2.moved hW.alike⟩, h3, fun q hm => va_Nw.warmM hW (h4 q hm), fun j q hj => ?_, fun i q hi => vk_R.warm hW (h6 i q hi), (vk_S.moved hW.alike h7).kept hq, (va_Z.moved hW.alike h8).kept hq, (va_Zq.moved hW.alike h9).kept hq⟩
  exact ⟨(va_Z.moved hW.alike (h5 j q hj).1).kept hq, (va_T.moved hW.alike (h5 j q hj).2).kept hq⟩
theorem St.same {ω : WC} {u U : State} {H : Heap} (h : St ω u H) (hv : u.vm = U.vm) : St ω U H := by
  obtain ⟨h1, h2, h3, h4, h5, h6, h7, h8, h9⟩ := h
  have al : u.vm.Alike U.vm := by rw [← hv]; exact Vm.Alike.refl u.vm
  exact ⟨va_K.moved al h1, fun g k hc hi => ⟨arrOfT_moved al (h2 g k hc hi).1, (h2 g k hc hi).2.moved al⟩, h3, fun q hm => va_Nw.same rfl hv (h4 q hm), fun j q hj => ⟨va_Z.moved al (h5 j q hj).1, va_T.moved al (h5 j q hj).2⟩, fun i q hi => vk_R.same hv.symm (h6 i q hi), vk_S.moved al h7, va_Z.moved al h8, va_Zq.moved al h9⟩
theorem St.D {ω : WC} {s : State} {H : Heap} (h : St ω s H) (hh : HI) (L : HL) : va_D (Aω ω) (wsW ω hh L) := by
  have h3 := h.2.2.1
  refine ⟨fun i j p q hp hq e => ?_, fun k q hk => ?_⟩
  · unfold wsW at hp hq
    rw [List.getElem?_map] at hp hq
    cases hi : idx[i]? with
    | none => rw [hi] at hp; cases hp
    | some a =>
      cases hj : idx[j]? with
      | none => rw [hj] at hq; cases hq
      | some b =>
        rw [hi] at hp
        rw [hj] at hq
        cases hp
        cases hq
        have hab : a = b := h3 a (List.mem_of_getElem? hi) b (List.mem_of_getElem? hj) e
        subst hab
        exact idx_inj hi hj
  · unfold wsW at hk
    rw [List.getElem?_map] at hk
    cases hi : idx[k]? with
    | none => rw [hi] at hk; cases hk
    | some a =>
      rw [hi] at hk
      cases hk
      exact ⟨a, List.mem_of_getElem? hi, rfl⟩
theorem St.K {ω : WC} {s : State} {H : Heap} (h : St ω s H) {g k : Nat} (hc : ck k = none) (hi : inW g k = true) : va_K ω.1 vwCl [(ω.2.2 g k, aty k)] s := by
  refine ⟨h.1.1, fun i q hq => ?_⟩
  cases i with
  | zero => cases hq; exact h.2.1 g k hc hi
  | succ i => simp at hq
-- locals
def lvl (ω : WC) : Nat → List (Option AV) → List (Nat × Value)
  | _, [] => []
  | j, none :: r => lvl ω (j + 1) r
  | j, some v :: r => (j, cv ω v) :: lvl ω (j + 1) r
def catA : AV → Nat
  | .inl _ => 1
  | .inr (.inl _) => 2
  | .inr (.inr (.inl _)) => 1
  | .inr (.inr (.inr v)) => v.category
theorem cat_cv (ω : WC) (v : AV) : (cv ω v).category = catA v := by
  rcases v with x | x | x | x <;> rfl
theorem cat_sum (ω : WC) (l : List AV) : ((l.map (cv ω)).map fun v => v.category).sum = (l.map catA).sum := by
  rw [List.map_map]
  congr 1
  apply List.map_congr_left
  intro v _
  exact cat_cv ω v
theorem lvl_mem {ω : WC} {v : AV} : ∀ {ls : List (Option AV)} {j i : Nat}, ls[i]? = some (some v) → (j + i, cv ω v) ∈ lvl ω j ls
  | [], _, _, h => by simp at h
  | o :: r, j, 0, h => by
    simp only [List.getElem?_cons_zero, Option.some.injEq] at h
    subst h
    exact List.mem_cons_self
  | o :: r, j, i + 1, h => by
    rw [List.getElem?_cons_succ] at h
    have e : j + (i + 1) = (j + 1) + i := by omega
    rw [e]
    cases o with
    | none => exact lvl_mem h
    | some w => exact List.mem_cons_of_mem _ (lvl_mem h)
theorem lvl_of {ω : WC} {q : Nat × Value} : ∀ {ls : List (Option AV)} {j : Nat}, q ∈ lvl ω j ls → ∃ i v, ls[i]? = some (some v) ∧ q = (j + i, cv ω v)
  | [], _, h => by simp [lvl] at h
  | none :: r, j, h => by
    obtain ⟨i, v, h1, h2⟩ := lvl_of (ls := r) (j := j + 1) h
    exact ⟨i + 1, v, by rw [List.getElem?_cons_succ]; exact h1, by rw [h2]; congr 1; omega⟩
  | some w :: r, j, h => by
    rcases List.mem_cons.mp h with h | h
    · exact ⟨0, w, rfl, h⟩
    · obtain ⟨i, v, h1, h2⟩ := lvl_of (ls := r) (j := j + 1) h
      exact ⟨i + 1, v, by rw [List.getElem?_cons_succ]; exact h1, by rw [h2]; congr 1; omega⟩
theorem lvl_get {ω : WC} {a : Array Slot} {n : Nat} {ls : List (Option AV)} (hl : lv_has a n (lvl ω 0 ls)) {i : Nat} {v : AV} (h : ls[i]? = some (some v)) : a[i]? = some (.val (cv ω v)) := by
  have h2 := hl.2.2 _ (lvl_mem (ω := ω) (j := 0) h)
  rw [show (0 : Nat) + i = i by omega] at h2
  exact h2
/-- a local of one word is written; of two words -/
def kp (i j : Nat) (o : Option AV) : Option AV := match o with
  | some (.inr (.inl x)) => if j + 1 = i then none else some (.inr (.inl x))
  | some (.inr (.inr (.inr x))) => none
  | o => o
def sL1 (i : Nat) (v : AV) : Nat → List (Option AV) → List (Option AV)
  | _, [] => []
  | j, o :: r => (if j = i then some v else kp i j o) :: sL1 i v (j + 1) r
def sL2 (i : Nat) (v : AV) : Nat → List (Option AV) → List (Option AV)
  | _, [] => []
  | j, o :: r => (if j = i then some v else if j = i + 1 then none else kp i j o) :: sL2 i v (j + 1) r
theorem kp_of {i j : Nat} {o : Option AV} {w : AV} (h : kp i j o = some w) : o = some w ∧ ¬ (j + 1 = i ∧ catA w = 2) := by
  unfold kp at h
  rcases o with _ | ((x | x | x | x))
  · cases h
  · cases h; exact ⟨rfl, fun z => by have := z.2; simp [catA] at this⟩
  · simp only at h
    split at h
    · cases h
    · next hn => cases h; exact ⟨rfl, fun z => hn z.1⟩
  · cases h; exact ⟨rfl, fun z => by have := z.2; simp [catA] at this⟩
  · cases h
theorem sL1_of {i : Nat} {v w : AV} : ∀ {ls : List (Option AV)} {j k : Nat}, (sL1 i v j ls)[k]? = some (some w) → (j + k = i ∧ w = v) ∨ (j + k ≠ i ∧ ls[k]? = some (some w) ∧ ¬ (j + k + 1 = i ∧ catA w = 2))
  | [], _, _, h => by simp [sL1] at h
  | o :: r, j, 0, h => by
    simp only [sL1, List.getElem?_cons_zero, Option.some.injEq] at h
    by_cases hj : j = i
    · rw [if_pos hj] at h
      cases h
      exact Or.inl ⟨hj, rfl⟩
    · rw [if_neg hj] at h
      obtain ⟨e1, e2⟩ := kp_of h
      exact Or.inr ⟨hj, by rw [e1]; rfl, e2⟩
  | o :: r, j, k + 1, h => by
    simp only [sL1, List.getElem?_cons_succ] at h
    have e : j + (k + 1) = (j + 1) + k := by omega
    rcases sL1_of h with ⟨h1, h2⟩ | ⟨h1, h2, h3⟩
    · exact Or.inl ⟨by omega, h2⟩
    · exact Or.inr ⟨by omega, by rw [List.getElem?_cons_succ]; exact h2, by rw [e]; exact h3⟩
theorem sL2_of {i : Nat} {v w : AV} : ∀ {ls : List (Option AV)} {j k : Nat}, (sL2 i v j ls)[k]? = some (some w) → (j + k = i ∧ w = v) ∨ (j + k ≠ i ∧ j + k ≠ i + 1 ∧ ls[k]? = some (some w) ∧ ¬ (j + k + 1 = i ∧ catA w = 2))
  | [], _, _, h => by simp [sL2] at h
  | o :: r, j, 0, h => by
    simp only [sL2, List.getElem?_cons_zero, Option.some.injEq] at h
    by_cases hj : j = i
    · rw [if_pos hj] at h
      cases h
      exact Or.inl ⟨hj, rfl⟩
    · rw [if_neg hj] at h
      by_cases hj2 : j = i + 1
      · rw [if_pos hj2] at h
        cases h
      · rw [if_neg hj2] at h
        obtain ⟨e1, e2⟩ := kp_of h
        exact Or.inr ⟨hj, hj2, by rw [e1]; rfl, e2⟩
  | o :: r, j, k + 1, h => by
    simp only [sL2, List.getElem?_cons_succ] at h
    have e : j + (k + 1) = (j + 1) + k := by omega
    rcases sL2_of h with ⟨h1, h2⟩ | ⟨h1, h2, h3, h4⟩
    · exact Or.inl ⟨by omega, h2⟩
    · exact Or.inr ⟨by omega, by omega, by rw [List.getElem?_cons_succ]; exact h3, by rw [e]; exact h4⟩
theorem lvl_s1 {ω : WC} {a : Array Slot} {n i : Nat} {v : AV} {ls : List (Option AV)} (hl : lv_has a n ((i, cv ω v) :: (lvl ω 0 ls).filter (fun q => !(q.1 == i) && !(q.1 + 1 == i && q.2.category == 2)))) : lv_has a n (lvl ω 0 (sL1 i v 0 ls)) := by
  refine ⟨hl.1, hl.2.1, fun q hq => hl.2.2 q ?_⟩
  obtain ⟨k, w, h1, h2⟩ := lvl_of hq
  rcases sL1_of h1 with ⟨e1, e2⟩ | ⟨e1, e2, e3⟩
  · rw [h2, e2, e1]; exact List.mem_cons_self
  · refine List.mem_cons_of_mem _ (List.mem_filter.mpr ⟨by rw [h2]; exact lvl_mem e2, ?_⟩)
    rw [h2]
    simp only [Bool.and_eq_true, Bool.not_eq_true', beq_eq_false_iff_ne, ne_eq, Bool.and_eq_false_iff]
    refine ⟨e1, ?_⟩
    by_cases z : 0 + k + 1 = i
    · exact Or.inr (fun y => e3 ⟨z, by rw [← cat_cv ω w]; exact y⟩)
    · exact Or.inl z
theorem lvl_s2 {ω : WC} {a : Array Slot} {n i : Nat} {v : AV} {ls : List (Option AV)} (hl : lv_has a n ((i, cv ω v) :: (lvl ω 0 ls).filter (fun q => !(q.1 == i) && (!(q.1 == i + 1) && !(q.1 + 1 == i && q.2.category == 2))))) : lv_has a n (lvl ω 0 (sL2 i v 0 ls)) := by
  refine ⟨hl.1, hl.2.1, fun q hq => hl.2.2 q ?_⟩
  obtain ⟨k, w, h1, h2⟩ := lvl_of hq
  rcases sL2_of h1 with ⟨e1, e2⟩ | ⟨e1, e2, e3, e4⟩
  · rw [h2, e2, e1]; exact List.mem_cons_self
  · refine List.mem_cons_of_mem _ (List.mem_filter.mpr ⟨by rw [h2]; exact lvl_mem e3, ?_⟩)
    rw [h2]
    simp only [Bool.and_eq_true, Bool.not_eq_true', beq_eq_false_iff_ne, ne_eq, Bool.and_eq_false_iff]
    refine ⟨e1, e2, ?_⟩
    by_cases z : 0 + k + 1 = i
    · exact Or.inr (fun y => e4 ⟨z, by rw [← cat_cv ω w]; exact y⟩)
    · exact Or.inl z
/-- the locals with which a method begins -/
def entA : List AV → List (Option AV)
  | [] => []
  | .inr (.inl x) :: r => some (.inr (.inl x)) :: none :: entA r
  | v :: r => some v :: entA r
def entL (n : Nat) (av : List AV) : List (Option AV) := entA av ++ List.replicate (n - (entA av).length) none
theorem lvl_none {ω : WC} : ∀ (n j : Nat), lvl ω j (List.replicate n none) = []
  | 0, _ => rfl
  | n + 1, j => by simp only [List.replicate_succ, lvl]; exact lvl_none n (j + 1)
theorem lvl_app {ω : WC} (n : Nat) : ∀ (l : List (Option AV)) (j : Nat), lvl ω j (l ++ List.replicate n none) = lvl ω j l
  | [], j => by simp only [List.nil_append, lvl]; exact lvl_none n j
  | none :: r, j => by simp only [List.cons_append, lvl]; exact lvl_app n r (j + 1)
  | some v :: r, j => by simp only [List.cons_append, lvl]; rw [lvl_app n r (j + 1)]
/-- no raw value among them -/
def plainA : AV → Bool
  | .inr (.inr (.inr _)) => false
  | _ => true
theorem lvl_entA {ω : WC} : ∀ (av : List AV) (j : Nat), (∀ v ∈ av, ∀ x, v = .inr (.inr (.inr x)) → x.category = 1) → lvl ω j (entA av) = lv_args j (av.map (cv ω))
  | [], _, _ => rfl
  | .inl x :: r, j, hr => by
    simp only [entA, lvl, List.map_cons, lv_args]
    rw [lvl_entA r (j + 1) (fun v hv => hr v (List.mem_cons_of_mem _ hv)), if_neg (by simp [cv, Value.category])]
  | .inr (.inl x) :: r, j, hr => by
    simp only [entA, lvl, List.map_cons, lv_args]
    rw [lvl_entA r (j + 1 + 1) (fun v hv => hr v (List.mem_cons_of_mem _ hv)), if_pos (by simp [cv, Value.category])]
  | .inr (.inr (.inl x)) :: r, j, hr => by
    simp only [entA, lvl, List.map_cons, lv_args]
    rw [lvl_entA r (j + 1) (fun v hv => hr v (List.mem_cons_of_mem _ hv)), if_neg (by simp [cv, Value.category])]
  | .inr (.inr (.inr x)) :: r, j, hr => by
    simp only [entA, lvl, List.map_cons, lv_args]
    rw [lvl_entA r (j + 1) (fun v hv => hr v (List.mem_cons_of_mem _ hv)), if_neg (by rw [show cv ω (.inr (.inr (.inr x))) = x from rfl, hr _ List.mem_cons_self x rfl]; decide)]
-- the judgement
def Cx (ω : WC) (M : MD) (d : Nat) (p : Program) (R : Room) (s : State) (m : MethodId) (args : Array Value) (meth : Method) (c : Code) : Prop :=
  p.tables.exec = Jvm.exec ∧ c.code = M.2.1 ∧ meth.sig.returnType = M.2.2.2 ∧ meth.locks = false ∧ c.maxLocals = M.2.2.1 ∧ s.vm.findClass M.1.cls = some m.cls ∧ (∀ w ∈ gw, w.before args s = true) ∧ St ω s s.heap ∧ d ≤ R.frames ∧ 40 * d ≤ R.locals
def QC (ω : WC) (Q : Option AV → HI → HL → Prop) : Array Value → State → Outcome → State → Prop := fun _ st oc t =>
  (∃ (r : Option AV) (h : HI) (L : HL), oc = .returned (r.map (cv ω)) ∧ Q r h L ∧ va_P ω.1 vwCl (wsW ω h L) t.heap) ∧ va_F (Aω ω) st t
/-- from this frame of method M (d calls may stand above it) the machine comes to a return with Q -/
def V (M : MD) (d : Nat) (Q : Option AV → HI → HL → Prop) (pc : Nat) (ls : List (Option AV)) (st : List AV) (h : HI) (L : HL) : Prop :=
  ∀ (ω : WC) (p : Program) (l : Launch) (e : Env) (R : Room) (s : State) (m : MethodId) (args : Array Value) (below : List Frame) (meth : Method) (c : Code) (H : Heap) (locs : List Loc) (a : Array Slot),
    Cx ω M d p R s m args meth c → va_P ω.1 vwCl (wsW ω h L) H → va_S (Aω ω) s.heap H locs → lv_has a M.2.2.1 (lvl ω 0 ls) →
    W p l e R s m args below meth c H locs 0 0 (MQ below (QC ω Q) args s 0 0 (Aω ω)) (F0 m pc a (st.map (cv ω)))
/-- a method's contract at these arguments and this world -/
def Con (M : MD) (d : Nat) (av : List AV) (h : HI) (L : HL) (Q : Option AV → HI → HL → Prop) : Prop :=
  ∀ (ω : WC) (l : Launch) (R : Room), d ≤ R.frames → 40 * d ≤ R.locals → R.cells = 0 → R.slots = 0 →
    Met l M.1 (wsM M) R (va_Pc (av.map (cv ω)) (fun U => St ω U U.heap ∧ va_P ω.1 vwCl (wsW ω h L) U.heap)) (QC ω Q) 0 0 (Aω ω)
/-- it answers r, the world is (h1, L1) then -/
def Rt (r : Option AV) (h1 : HI) (L1 : HL) : Option AV → HI → HL → Prop := fun r' h' L' => r' = r ∧ h' = h1 ∧ L' = L1
theorem entA_len (ω : WC) : ∀ (av : List AV), (∀ v ∈ av, ∀ x, v = .inr (.inr (.inr x)) → x.category = 1) → (lg_sl (av.map (cv ω))).length = (entA av).length
  | [], _ => rfl
  | .inl x :: r, hr => by
    have := entA_len ω r (fun v hv => hr v (List.mem_cons_of_mem _ hv))
    simp only [lg_sl, List.map_cons, List.flatMap_cons, entA, List.length_append, List.length_cons] at this ⊢
    rw [this]
    simp [cv, Value.category]
    omega
  | .inr (.inl x) :: r, hr => by
    have := entA_len ω r (fun v hv => hr v (List.mem_cons_of_mem _ hv))
    simp only [lg_sl, List.map_cons, List.flatMap_cons, entA, List.length_append, List.length_cons] at this ⊢
    rw [this]
    simp [cv, Value.category]
    omega
  | .inr (.inr (.inl x)) :: r, hr => by
    have := entA_len ω r (fun v hv => hr v (List.mem_cons_of_mem _ hv))
    simp only [lg_sl, List.map_cons, List.flatMap_cons, entA, List.length_append, List.length_cons] at this ⊢
    rw [this]
    simp [cv, Value.category]
    omega
  | .inr (.inr (.inr x)) :: r, hr => by
    have := entA_len ω r (fun v hv => hr v (List.mem_cons_of_mem _ hv))
    have hx := hr _ List.mem_cons_self x rfl
    simp only [lg_sl, List.map_cons, List.flatMap_cons, entA, List.length_append, List.length_cons] at this ⊢
    rw [this]
    simp [cv, hx]
    omega
theorem con_ofR {M : MD} {d : Nat} {av : List AV} {h : HI} {L : HL} {Q : Option AV → HI → HL → Prop} (hraw : ∀ v ∈ av, ∀ x, v = .inr (.inr (.inr x)) → x.category = 1) (hy : plainName M.1.cls = true) (hn : (entA av).length ≤ M.2.2.1) (hV : V M d Q 0 (entL M.2.2.1 av) [] h L) : Con M d av h L Q := by
  intro ω l R hf hloc hc hs
  refine Met.ofW (cc := M.2.1) (maxL := M.2.2.1) (ret := M.2.2.2) hy rfl ?_
  intro p e s m args below meth c s₁ B hml hv
  obtain ⟨rfl, hSt, hP⟩ := hv
  have hts0 := atoms_spec (ws := wsM M) B.pre
  have hown : s.vm.findClass M.1.cls = some m.cls := findClass_of_methodNamed B.named
  have hl := lv_entry (av.map (cv ω)) (n := M.2.2.1) (by rw [entA_len ω av hraw]; exact hn)
  rw [lg_entry_eq]
  have hl2 : lv_has (lg_sl (av.map (cv ω)) ++ List.replicate (M.2.2.1 - (lg_sl (av.map (cv ω))).length) Slot.unset).toArray M.2.2.1 (lvl ω 0 (entL M.2.2.1 av)) := by
    unfold entL
    rw [lvl_app, lvl_entA av 0 hraw]
    exact hl
  exact hV ω p l e R s m _ below meth c s.heap [] _ ⟨B.exec, B.bytes, B.returns, B.notSynchronized, hml, hown, fun w hw => hts0 w (List.mem_cons_of_mem _ hw), hSt, hf, hloc⟩ hP va_S.rf hl2
theorem raw_of {av : List AV} (h : av.all plainA = true) : ∀ v ∈ av, ∀ x, v = .inr (.inr (.inr x)) → x.category = 1 := by
  intro v hv x e
  have := List.all_eq_true.mp h v hv
  rw [e] at this
  cases this
theorem con_of {M : MD} {d : Nat} {av : List AV} {h : HI} {L : HL} {Q : Option AV → HI → HL → Prop} (ls : List (Option AV)) (hraw : av.all plainA = true) (hy : plainName M.1.cls = true) (hn : Nat.ble (entA av).length M.2.2.1 = true) (hls : entL M.2.2.1 av = ls) (hV : V M d Q 0 ls [] h L) : Con M d av h L Q := con_ofR (raw_of hraw) hy (Nat.le_of_ble_eq_true hn) (by rw [hls]; exact hV)
theorem Con.mono {M : MD} {d d2 : Nat} {av : List AV} {h : HI} {L : HL} {Q : Option AV → HI → HL → Prop} (hC : Con M d av h L Q) (hd : d ≤ d2) : Con M d2 av h L Q :=
  fun ω l R h1 h2 h3 h4 => hC ω l R (Nat.le_trans hd h1) (Nat.le_trans (Nat.mul_le_mul_left 40 hd) h2) h3 h4
/-- fewer locals are known -/
theorem v_forget {M : MD} {d : Nat} {Q : Option AV → HI → HL → Prop} {pc : Nat} {ls : List (Option AV)} {st : List AV} {h : HI} {L : HL} (ls' : List (Option AV)) (hs : ∀ (i : Nat) (v : AV), ls'[i]? = some (some v) → ls[i]? = some (some v)) (k : V M d Q pc ls' st h L) : V M d Q pc ls st h L := by
  intro ω p l e R s m args below meth c H locs a C hP hS hl
  refine k ω p l e R s m args below meth c H locs a C hP hS ⟨hl.1, hl.2.1, fun q hq => ?_⟩
  obtain ⟨i, v, h1, h2⟩ := lvl_of hq
  rw [h2]
  show a[0 + i]? = _
  rw [show (0 : Nat) + i = i by omega]
  exact lvl_get hl (hs i v h1)
/-- places that may be forgotten, by a row of flags: true stays -/
def fgt : List Bool → List (Option AV) → List (Option AV)
  | _, [] => []
  | [], l => l
  | b :: bs, o :: r => (if b = true then o else none) :: fgt bs r
theorem fgt_of {v : AV} : ∀ {bs : List Bool} {l : List (Option AV)} {i : Nat}, (fgt bs l)[i]? = some (some v) → l[i]? = some (some v)
  | bs, [], i, h => by cases bs <;> exact h
  | [], o :: r, i, h => h
  | b :: bs, o :: r, 0, h => by
    simp only [fgt, List.getElem?_cons_zero, Option.some.injEq] at h ⊢
    split at h
    · exact h
    · cases h
  | b :: bs, o :: r, i + 1, h => by
    simp only [fgt, List.getElem?_cons_succ] at h ⊢
    exact fgt_of h
theorem v_fgt {M : MD} {d : Nat} {Q : Option AV → HI → HL → Prop} {pc : Nat} {ls : List (Option AV)} {st : List AV} {h : HI} {L : HL} (bs : List Bool) (k : V M d Q pc (fgt bs ls) st h L) : V M d Q pc ls st h L := v_forget _ (fun _ _ => fgt_of) k
theorem v_post {M : MD} {d : Nat} {Q Q' : Option AV → HI → HL → Prop} {pc : Nat} {ls : List (Option AV)} {st : List AV} {h : HI} {L : HL} (hQ : ∀ r h' L', Q' r h' L' → Q r h' L') (k : V M d Q' pc ls st h L) : V M d Q pc ls st h L := by
  intro ω p l e R s m args below meth c H locs a C hP hS hl T hT X
  obtain ⟨t, h1, o, h2, h3, ⟨⟨r, h', L', h4, h5, h6⟩, h7⟩, h8⟩ := k ω p l e R s m args below meth c H locs a C hP hS hl T hT X
  exact ⟨t, h1, o, h2, h3, ⟨⟨r, h', L', h4, hQ _ _ _ h5, h6⟩, h7⟩, h8⟩
end
section
-- ROWS OF V: one an instruction
theorem alen_lt (k : Nat) : alen k < 2 ^ 31 := by
  unfold alen
  split <;> decide
section VRows
variable {M : MD} {d : Nat} {Q : Option AV → HI → HL → Prop} {pc : Nat} {ls : List (Option AV)} {rest : List AV} {h : HI} {L : HL}
theorem v_iconst {n : Int} {v : Int32} (q : Nat) (hdg : decode M.2.1 pc = .ok (.iconst n, 1)) (hp : pc + 1 = q) (hv : Int32.ofInt n = v) (k : V M d Q q ls (aI v :: rest) h L) : V M d Q pc ls (rest) h L := by
  subst hp
  intro ω p l e R s m args below meth c H locs a C hP hS hl
  exact lv_iconst C.1 C.2.1 hdg hv (k ω p l e R s m args below meth c H locs a C hP hS hl)
theorem v_bipush {n : Int} {v : Int32} (q : Nat) (hdg : decode M.2.1 pc = .ok (.bipush n, 2)) (hp : pc + 2 = q) (hv : (Int8.ofInt n).toInt32 = v) (k : V M d Q q ls (aI v :: rest) h L) : V M d Q pc ls (rest) h L := by
  subst hp
  intro ω p l e R s m args below meth c H locs a C hP hS hl
  exact lv_bipush C.1 C.2.1 hdg hv (k ω p l e R s m args below meth c H locs a C hP hS hl)
theorem v_sipush {n : Int} {v : Int32} (q : Nat) (hdg : decode M.2.1 pc = .ok (.sipush n, 3)) (hp : pc + 3 = q) (hv : (Int16.ofInt n).toInt32 = v) (k : V M d Q q ls (aI v :: rest) h L) : V M d Q pc ls (rest) h L := by
  subst hp
  intro ω p l e R s m args below meth c H locs a C hP hS hl
  exact lv_sipush C.1 C.2.1 hdg hv (k ω p l e R s m args below meth c H locs a C hP hS hl)
theorem v_lconst {n : Fin 2} {v : Int64} (q : Nat) (hdg : decode M.2.1 pc = .ok (.lconst n, 1)) (hp : pc + 1 = q) (hv : Int64.ofNat (n : Nat) = v) (k : V M d Q q ls (aL v :: rest) h L) : V M d Q pc ls (rest) h L := by
  subst hp
  intro ω p l e R s m args below meth c H locs a C hP hS hl
  exact lv_lconst C.1 C.2.1 hdg hv (k ω p l e R s m args below meth c H locs a C hP hS hl)
theorem v_ldc {ix : Nat} {v : Int32} (q : Nat) (hdg : decode M.2.1 pc = .ok (.ldc ix, 2)) (hp : pc + 2 = q) (hw : Cond.constant M.1.cls ix v ∈ gw) (k : V M d Q q ls (aI v :: rest) h L) : V M d Q pc ls (rest) h L := by
  subst hp
  intro ω p l e R s m args below meth c H locs a C hP hS hl
  exact lv_ldc C.1 C.2.1 C.2.2.2.2.2.1 (C.2.2.2.2.2.2.1 _ hw) hdg (k ω p l e R s m args below meth c H locs a C hP hS hl)
theorem v_ldcw {ix : Nat} {v : Int32} (q : Nat) (hdg : decode M.2.1 pc = .ok (.ldc_w ix, 3)) (hp : pc + 3 = q) (hw : Cond.constant M.1.cls ix v ∈ gw) (k : V M d Q q ls (aI v :: rest) h L) : V M d Q pc ls (rest) h L := by
  subst hp
  intro ω p l e R s m args below meth c H locs a C hP hS hl
  exact lv_ldcw C.1 C.2.1 C.2.2.2.2.2.1 (C.2.2.2.2.2.2.1 _ hw) hdg (k ω p l e R s m args below meth c H locs a C hP hS hl)
theorem v_ldc2 {ix : Nat} {v : Int64} (q : Nat) (hdg : decode M.2.1 pc = .ok (.ldc2_w ix, 3)) (hp : pc + 3 = q) (hw : Cond.constantLong M.1.cls ix v ∈ gw) (k : V M d Q q ls (aL v :: rest) h L) : V M d Q pc ls (rest) h L := by
  subst hp
  intro ω p l e R s m args below meth c H locs a C hP hS hl
  exact lv_ldc2 C.1 C.2.1 C.2.2.2.2.2.1 (C.2.2.2.2.2.2.1 _ hw) hdg (k ω p l e R s m args below meth c H locs a C hP hS hl)
theorem v_ldcS {ix i : Nat} {tx : String} (q : Nat) (hdg : decode M.2.1 pc = .ok (.ldc ix, 2)) (hp : pc + 2 = q) (hM : M.1.cls = RX2) (hs : strL[i]? = some (ix, tx)) (k : V M d Q q ls (aR 10 i :: rest) h L) : V M d Q pc ls (rest) h L := by
  subst hp
  intro ω p l e R s m args below meth c H locs a C hP hS hl
  exact va_ldcS C.1 C.2.1 C.2.2.2.2.2.1 (by rw [hM]; exact C.2.2.2.2.2.2.2.1.2.2.2.2.2.1 i (ix, tx) hs) hdg (k ω p l e R s m args below meth c H locs a C hP hS hl)
theorem v_iload_n {i : Nat} {n : Fin 4} {x : Int32} (q : Nat) (hdg : decode M.2.1 pc = .ok (.iload_n n, 1)) (hp : pc + 1 = q) (hi : (n : Nat) = i) (hv : ls[i]? = some (some (aI x))) (k : V M d Q q ls (aI x :: rest) h L) : V M d Q pc ls (rest) h L := by
  subst hp
  intro ω p l e R s m args below meth c H locs a C hP hS hl
  exact lv_iload_n C.1 C.2.1 hdg hi (lvl_get hl hv) (k ω p l e R s m args below meth c H locs a C hP hS hl)
theorem v_iload {i : Nat} {x : Int32} (q : Nat) (hdg : decode M.2.1 pc = .ok (.iload i, 2)) (hp : pc + 2 = q) (hv : ls[i]? = some (some (aI x))) (k : V M d Q q ls (aI x :: rest) h L) : V M d Q pc ls (rest) h L := by
  subst hp
  intro ω p l e R s m args below meth c H locs a C hP hS hl
  exact lv_iload C.1 C.2.1 hdg (lvl_get hl hv) (k ω p l e R s m args below meth c H locs a C hP hS hl)
theorem v_lload_n {i : Nat} {n : Fin 4} {x : Int64} (q : Nat) (hdg : decode M.2.1 pc = .ok (.lload_n n, 1)) (hp : pc + 1 = q) (hi : (n : Nat) = i) (hv : ls[i]? = some (some (aL x))) (k : V M d Q q ls (aL x :: rest) h L) : V M d Q pc ls (rest) h L := by
  subst hp
  intro ω p l e R s m args below meth c H locs a C hP hS hl
  exact lv_lload_n C.1 C.2.1 hdg hi (lvl_get hl hv) (k ω p l e R s m args below meth c H locs a C hP hS hl)
theorem v_lload {i : Nat} {x : Int64} (q : Nat) (hdg : decode M.2.1 pc = .ok (.lload i, 2)) (hp : pc + 2 = q) (hv : ls[i]? = some (some (aL x))) (k : V M d Q q ls (aL x :: rest) h L) : V M d Q pc ls (rest) h L := by
  subst hp
  intro ω p l e R s m args below meth c H locs a C hP hS hl
  exact lv_lload C.1 C.2.1 hdg (lvl_get hl hv) (k ω p l e R s m args below meth c H locs a C hP hS hl)
theorem v_aload_n {i : Nat} {n : Fin 4} {g j : Nat} (q : Nat) (hdg : decode M.2.1 pc = .ok (.aload_n n, 1)) (hp : pc + 1 = q) (hi : (n : Nat) = i) (hv : ls[i]? = some (some (aR g j))) (k : V M d Q q ls (aR g j :: rest) h L) : V M d Q pc ls (rest) h L := by
  subst hp
  intro ω p l e R s m args below meth c H locs a C hP hS hl
  exact lv_aload_n C.1 C.2.1 hdg hi (lvl_get hl hv) (k ω p l e R s m args below meth c H locs a C hP hS hl)
theorem v_aload {i : Nat} {g j : Nat} (q : Nat) (hdg : decode M.2.1 pc = .ok (.aload i, 2)) (hp : pc + 2 = q) (hv : ls[i]? = some (some (aR g j))) (k : V M d Q q ls (aR g j :: rest) h L) : V M d Q pc ls (rest) h L := by
  subst hp
  intro ω p l e R s m args below meth c H locs a C hP hS hl
  exact lv_aload C.1 C.2.1 hdg (lvl_get hl hv) (k ω p l e R s m args below meth c H locs a C hP hS hl)
theorem v_istore_n {i : Nat} {n : Fin 4} {x : Int32} (q : Nat) (hdg : decode M.2.1 pc = .ok (.istore_n n, 1)) (hp : pc + 1 = q) (hi : (n : Nat) = i) (hn : Nat.ble (i + 1) M.2.2.1 = true) (k : V M d Q q (sL1 i (aI x) 0 ls) rest h L) : V M d Q pc ls (aI x :: rest) h L := by
  subst hp
  intro ω p l e R s m args below meth c H locs a C hP hS hl
  exact lv_istore_n C.1 C.2.1 hdg hi hl (by have := Nat.le_of_ble_eq_true hn; omega) rfl (fun a' hl' => k ω p l e R s m args below meth c H locs a' C hP hS (lvl_s1 hl'))
theorem v_lstore_n {i : Nat} {n : Fin 4} {x : Int64} (q : Nat) (hdg : decode M.2.1 pc = .ok (.lstore_n n, 1)) (hp : pc + 1 = q) (hi : (n : Nat) = i) (hn : Nat.ble (i + 2) M.2.2.1 = true) (k : V M d Q q (sL2 i (aL x) 0 ls) rest h L) : V M d Q pc ls (aL x :: rest) h L := by
  subst hp
  intro ω p l e R s m args below meth c H locs a C hP hS hl
  exact lv_lstore_n C.1 C.2.1 hdg hi hl (by have := Nat.le_of_ble_eq_true hn; omega) rfl (fun a' hl' => k ω p l e R s m args below meth c H locs a' C hP hS (lvl_s2 hl'))
theorem v_astore_n {i : Nat} {n : Fin 4} {g j : Nat} (q : Nat) (hdg : decode M.2.1 pc = .ok (.astore_n n, 1)) (hp : pc + 1 = q) (hi : (n : Nat) = i) (hn : Nat.ble (i + 1) M.2.2.1 = true) (k : V M d Q q (sL1 i (aR g j) 0 ls) rest h L) : V M d Q pc ls (aR g j :: rest) h L := by
  subst hp
  intro ω p l e R s m args below meth c H locs a C hP hS hl
  exact lv_astore_n C.1 C.2.1 hdg hi hl (by have := Nat.le_of_ble_eq_true hn; omega) rfl (fun a' hl' => k ω p l e R s m args below meth c H locs a' C hP hS (lvl_s1 hl'))
theorem v_istore {i : Nat} {x : Int32} (q : Nat) (hdg : decode M.2.1 pc = .ok (.istore i, 2)) (hp : pc + 2 = q) (hn : Nat.ble (i + 1) M.2.2.1 = true) (k : V M d Q q (sL1 i (aI x) 0 ls) rest h L) : V M d Q pc ls (aI x :: rest) h L := by
  subst hp
  intro ω p l e R s m args below meth c H locs a C hP hS hl
  exact lv_istore C.1 C.2.1 hdg hl (by have := Nat.le_of_ble_eq_true hn; omega) rfl (fun a' hl' => k ω p l e R s m args below meth c H locs a' C hP hS (lvl_s1 hl'))
theorem v_lstore {i : Nat} {x : Int64} (q : Nat) (hdg : decode M.2.1 pc = .ok (.lstore i, 2)) (hp : pc + 2 = q) (hn : Nat.ble (i + 2) M.2.2.1 = true) (k : V M d Q q (sL2 i (aL x) 0 ls) rest h L) : V M d Q pc ls (aL x :: rest) h L := by
  subst hp
  intro ω p l e R s m args below meth c H locs a C hP hS hl
  exact lv_lstore C.1 C.2.1 hdg hl (by have := Nat.le_of_ble_eq_true hn; omega) rfl (fun a' hl' => k ω p l e R s m args below meth c H locs a' C hP hS (lvl_s2 hl'))
theorem v_astore {i : Nat} {g j : Nat} (q : Nat) (hdg : decode M.2.1 pc = .ok (.astore i, 2)) (hp : pc + 2 = q) (hn : Nat.ble (i + 1) M.2.2.1 = true) (k : V M d Q q (sL1 i (aR g j) 0 ls) rest h L) : V M d Q pc ls (aR g j :: rest) h L := by
  subst hp
  intro ω p l e R s m args below meth c H locs a C hP hS hl
  exact lv_astore C.1 C.2.1 hdg hl (by have := Nat.le_of_ble_eq_true hn; omega) rfl (fun a' hl' => k ω p l e R s m args below meth c H locs a' C hP hS (lvl_s1 hl'))
theorem v_iinc {i : Nat} {n : Int} {x v : Int32} (q : Nat) (hdg : decode M.2.1 pc = .ok (.iinc i n, 3)) (hp : pc + 3 = q) (hv : ls[i]? = some (some (aI x))) (hx : x + Int32.ofInt n = v) (hn : Nat.ble (i + 1) M.2.2.1 = true) (k : V M d Q q (sL1 i (aI v) 0 ls) rest h L) : V M d Q pc ls rest h L := by
  subst hp
  intro ω p l e R s m args below meth c H locs a C hP hS hl
  have hm := lvl_mem (ω := ω) (j := 0) hv
  obtain ⟨kk, hk⟩ := List.getElem?_of_mem hm
  rw [show (0 : Nat) + i = i by omega] at hk
  exact lv_iinc C.1 C.2.1 hdg hl hk hx (by have := Nat.le_of_ble_eq_true hn; omega) rfl (fun a' hl' => k ω p l e R s m args below meth c H locs a' C hP hS (lvl_s1 hl'))
theorem v_iadd {x y : Int32} (q : Nat) (hdg : decode M.2.1 pc = .ok (.iadd, 1)) (hp : pc + 1 = q) (k : V M d Q q ls (aI (x + y) :: rest) h L) : V M d Q pc ls (aI y :: aI x :: rest) h L := by
  subst hp
  intro ω p l e R s m args below meth c H locs a C hP hS hl
  exact lv_iadd C.1 C.2.1 hdg (k ω p l e R s m args below meth c H locs a C hP hS hl)
theorem v_isub {x y : Int32} (q : Nat) (hdg : decode M.2.1 pc = .ok (.isub, 1)) (hp : pc + 1 = q) (k : V M d Q q ls (aI (x - y) :: rest) h L) : V M d Q pc ls (aI y :: aI x :: rest) h L := by
  subst hp
  intro ω p l e R s m args below meth c H locs a C hP hS hl
  exact lv_isub C.1 C.2.1 hdg (k ω p l e R s m args below meth c H locs a C hP hS hl)
theorem v_imul {x y : Int32} (q : Nat) (hdg : decode M.2.1 pc = .ok (.imul, 1)) (hp : pc + 1 = q) (k : V M d Q q ls (aI (x * y) :: rest) h L) : V M d Q pc ls (aI y :: aI x :: rest) h L := by
  subst hp
  intro ω p l e R s m args below meth c H locs a C hP hS hl
  exact lv_imul C.1 C.2.1 hdg (k ω p l e R s m args below meth c H locs a C hP hS hl)
theorem v_iand {x y : Int32} (q : Nat) (hdg : decode M.2.1 pc = .ok (.iand, 1)) (hp : pc + 1 = q) (k : V M d Q q ls (aI (x &&& y) :: rest) h L) : V M d Q pc ls (aI y :: aI x :: rest) h L := by
  subst hp
  intro ω p l e R s m args below meth c H locs a C hP hS hl
  exact lv_iand C.1 C.2.1 hdg (k ω p l e R s m args below meth c H locs a C hP hS hl)
theorem v_ior {x y : Int32} (q : Nat) (hdg : decode M.2.1 pc = .ok (.ior, 1)) (hp : pc + 1 = q) (k : V M d Q q ls (aI (x ||| y) :: rest) h L) : V M d Q pc ls (aI y :: aI x :: rest) h L := by
  subst hp
  intro ω p l e R s m args below meth c H locs a C hP hS hl
  exact lv_ior C.1 C.2.1 hdg (k ω p l e R s m args below meth c H locs a C hP hS hl)
theorem v_ixor {x y : Int32} (q : Nat) (hdg : decode M.2.1 pc = .ok (.ixor, 1)) (hp : pc + 1 = q) (k : V M d Q q ls (aI (x ^^^ y) :: rest) h L) : V M d Q pc ls (aI y :: aI x :: rest) h L := by
  subst hp
  intro ω p l e R s m args below meth c H locs a C hP hS hl
  exact lv_ixor C.1 C.2.1 hdg (k ω p l e R s m args below meth c H locs a C hP hS hl)
theorem v_ishl {x y : Int32} (q : Nat) (hdg : decode M.2.1 pc = .ok (.ishl, 1)) (hp : pc + 1 = q) (k : V M d Q q ls (aI (x <<< (y &&& 31)) :: rest) h L) : V M d Q pc ls (aI y :: aI x :: rest) h L := by
  subst hp
  intro ω p l e R s m args below meth c H locs a C hP hS hl
  exact lv_ishl C.1 C.2.1 hdg (k ω p l e R s m args below meth c H locs a C hP hS hl)
theorem v_ishr {x y : Int32} (q : Nat) (hdg : decode M.2.1 pc = .ok (.ishr, 1)) (hp : pc + 1 = q) (k : V M d Q q ls (aI (x >>> (y &&& 31)) :: rest) h L) : V M d Q pc ls (aI y :: aI x :: rest) h L := by
  subst hp
  intro ω p l e R s m args below meth c H locs a C hP hS hl
  exact lv_ishr C.1 C.2.1 hdg (k ω p l e R s m args below meth c H locs a C hP hS hl)
theorem v_idiv {x y : Int32} (q : Nat) (hdg : decode M.2.1 pc = .ok (.idiv, 1)) (hp : pc + 1 = q) (hne : ¬ y = 0) (k : V M d Q q ls (aI (x / y) :: rest) h L) : V M d Q pc ls (aI y :: aI x :: rest) h L := by
  subst hp
  intro ω p l e R s m args below meth c H locs a C hP hS hl
  exact lv_idiv C.1 C.2.1 hdg hne (k ω p l e R s m args below meth c H locs a C hP hS hl)
theorem v_irem {x y : Int32} (q : Nat) (hdg : decode M.2.1 pc = .ok (.irem, 1)) (hp : pc + 1 = q) (hne : ¬ y = 0) (k : V M d Q q ls (aI (x - x / y * y) :: rest) h L) : V M d Q pc ls (aI y :: aI x :: rest) h L := by
  subst hp
  intro ω p l e R s m args below meth c H locs a C hP hS hl
  exact lv_irem C.1 C.2.1 hdg hne (k ω p l e R s m args below meth c H locs a C hP hS hl)
theorem v_ineg {x : Int32} (q : Nat) (hdg : decode M.2.1 pc = .ok (.ineg, 1)) (hp : pc + 1 = q) (k : V M d Q q ls (aI (-x) :: rest) h L) : V M d Q pc ls (aI x :: rest) h L := by
  subst hp
  intro ω p l e R s m args below meth c H locs a C hP hS hl
  exact lv_ineg C.1 C.2.1 hdg (k ω p l e R s m args below meth c H locs a C hP hS hl)
theorem v_iushr {x y : Int32} (q : Nat) (hdg : decode M.2.1 pc = .ok (.iushr, 1)) (hp : pc + 1 = q) (k : V M d Q q ls (aI ((x.toUInt32 >>> (y.toUInt32 &&& Int32.toUInt32 31)).toInt32) :: rest) h L) : V M d Q pc ls (aI y :: aI x :: rest) h L := by
  subst hp
  intro ω p l e R s m args below meth c H locs a C hP hS hl
  exact lv_iushr C.1 C.2.1 hdg rfl (k ω p l e R s m args below meth c H locs a C hP hS hl)
theorem v_ladd {x y : Int64} (q : Nat) (hdg : decode M.2.1 pc = .ok (.ladd, 1)) (hp : pc + 1 = q) (k : V M d Q q ls (aL (x + y) :: rest) h L) : V M d Q pc ls (aL y :: aL x :: rest) h L := by
  subst hp
  intro ω p l e R s m args below meth c H locs a C hP hS hl
  exact lv_ladd C.1 C.2.1 hdg (k ω p l e R s m args below meth c H locs a C hP hS hl)
theorem v_lmul {x y : Int64} (q : Nat) (hdg : decode M.2.1 pc = .ok (.lmul, 1)) (hp : pc + 1 = q) (k : V M d Q q ls (aL (x * y) :: rest) h L) : V M d Q pc ls (aL y :: aL x :: rest) h L := by
  subst hp
  intro ω p l e R s m args below meth c H locs a C hP hS hl
  exact lv_lmul C.1 C.2.1 hdg (k ω p l e R s m args below meth c H locs a C hP hS hl)
theorem v_land {x y : Int64} (q : Nat) (hdg : decode M.2.1 pc = .ok (.land, 1)) (hp : pc + 1 = q) (k : V M d Q q ls (aL (x &&& y) :: rest) h L) : V M d Q pc ls (aL y :: aL x :: rest) h L := by
  subst hp
  intro ω p l e R s m args below meth c H locs a C hP hS hl
  exact lv_land C.1 C.2.1 hdg (k ω p l e R s m args below meth c H locs a C hP hS hl)
theorem v_lor {x y : Int64} (q : Nat) (hdg : decode M.2.1 pc = .ok (.lor, 1)) (hp : pc + 1 = q) (k : V M d Q q ls (aL (x ||| y) :: rest) h L) : V M d Q pc ls (aL y :: aL x :: rest) h L := by
  subst hp
  intro ω p l e R s m args below meth c H locs a C hP hS hl
  exact lv_lor C.1 C.2.1 hdg (k ω p l e R s m args below meth c H locs a C hP hS hl)
theorem v_lshl {x : Int64} {y : Int32} (q : Nat) (hdg : decode M.2.1 pc = .ok (.lshl, 1)) (hp : pc + 1 = q) (k : V M d Q q ls (aL (x <<< (y.toInt64 &&& 63)) :: rest) h L) : V M d Q pc ls (aI y :: aL x :: rest) h L := by
  subst hp
  intro ω p l e R s m args below meth c H locs a C hP hS hl
  exact lv_lshl C.1 C.2.1 hdg rfl (k ω p l e R s m args below meth c H locs a C hP hS hl)
theorem v_lcmp {x y : Int64} (q : Nat) (hdg : decode M.2.1 pc = .ok (.lcmp, 1)) (hp : pc + 1 = q) (k : V M d Q q ls (aI (lg_cmp x y) :: rest) h L) : V M d Q pc ls (aL y :: aL x :: rest) h L := by
  subst hp
  intro ω p l e R s m args below meth c H locs a C hP hS hl
  exact W.lcmp C.1 C.2.1 hdg (k ω p l e R s m args below meth c H locs a C hP hS hl)
theorem v_i2l {x : Int32} (q : Nat) (hdg : decode M.2.1 pc = .ok (.i2l, 1)) (hp : pc + 1 = q) (k : V M d Q q ls (aL x.toInt64 :: rest) h L) : V M d Q pc ls (aI x :: rest) h L := by
  subst hp
  intro ω p l e R s m args below meth c H locs a C hP hS hl
  exact lv_i2l C.1 C.2.1 hdg rfl (k ω p l e R s m args below meth c H locs a C hP hS hl)
theorem v_l2i {x : Int64} (q : Nat) (hdg : decode M.2.1 pc = .ok (.l2i, 1)) (hp : pc + 1 = q) (k : V M d Q q ls (aI x.toInt32 :: rest) h L) : V M d Q pc ls (aL x :: rest) h L := by
  subst hp
  intro ω p l e R s m args below meth c H locs a C hP hS hl
  exact lv_l2i C.1 C.2.1 hdg rfl (k ω p l e R s m args below meth c H locs a C hP hS hl)
theorem v_i2b {x : Int32} (q : Nat) (hdg : decode M.2.1 pc = .ok (.i2b, 1)) (hp : pc + 1 = q) (k : V M d Q q ls (aI x.toInt8.toInt32 :: rest) h L) : V M d Q pc ls (aI x :: rest) h L := by
  subst hp
  intro ω p l e R s m args below meth c H locs a C hP hS hl
  exact lv_i2b C.1 C.2.1 hdg rfl (k ω p l e R s m args below meth c H locs a C hP hS hl)
theorem v_i2s {x : Int32} (q : Nat) (hdg : decode M.2.1 pc = .ok (.i2s, 1)) (hp : pc + 1 = q) (k : V M d Q q ls (aI x.toInt16.toInt32 :: rest) h L) : V M d Q pc ls (aI x :: rest) h L := by
  subst hp
  intro ω p l e R s m args below meth c H locs a C hP hS hl
  exact lv_i2s C.1 C.2.1 hdg rfl (k ω p l e R s m args below meth c H locs a C hP hS hl)
theorem v_i2c {x : Int32} (q : Nat) (hdg : decode M.2.1 pc = .ok (.i2c, 1)) (hp : pc + 1 = q) (k : V M d Q q ls (aI (x.toUInt32 % 65536).toInt32 :: rest) h L) : V M d Q pc ls (aI x :: rest) h L := by
  subst hp
  intro ω p l e R s m args below meth c H locs a C hP hS hl
  exact lv_i2c C.1 C.2.1 hdg rfl (k ω p l e R s m args below meth c H locs a C hP hS hl)
theorem v_dup {v : AV} (q : Nat) (hdg : decode M.2.1 pc = .ok (.dup, 1)) (hp : pc + 1 = q) (hc : catA v = 1) (k : V M d Q q ls (v :: v :: rest) h L) : V M d Q pc ls (v :: rest) h L := by
  subst hp
  intro ω p l e R s m args below meth c H locs a C hP hS hl
  exact lv_dup C.1 C.2.1 hdg (by rw [cat_cv]; exact hc) (k ω p l e R s m args below meth c H locs a C hP hS hl)
theorem v_pop {v : AV} (q : Nat) (hdg : decode M.2.1 pc = .ok (.pop, 1)) (hp : pc + 1 = q) (hc : catA v = 1) (k : V M d Q q ls (rest) h L) : V M d Q pc ls (v :: rest) h L := by
  subst hp
  intro ω p l e R s m args below meth c H locs a C hP hS hl
  exact lv_pop C.1 C.2.1 hdg (by rw [cat_cv]; exact hc) (k ω p l e R s m args below meth c H locs a C hP hS hl)
theorem v_dup2 {v w : AV} (q : Nat) (hdg : decode M.2.1 pc = .ok (.dup2, 1)) (hp : pc + 1 = q) (hc : catA v = 1) (hc2 : catA w = 1) (k : V M d Q q ls (v :: w :: v :: w :: rest) h L) : V M d Q pc ls (v :: w :: rest) h L := by
  subst hp
  intro ω p l e R s m args below meth c H locs a C hP hS hl
  exact lv_dup2_11 C.1 C.2.1 hdg (by rw [cat_cv]; exact hc) (by rw [cat_cv]; exact hc2) (k ω p l e R s m args below meth c H locs a C hP hS hl)
theorem v_if_eq {x : Int32} {off : Int} (tgt q : Nat) (hdg : decode M.2.1 pc = .ok (.ifCond .eq off, 3)) (ht : (pc : Int) + off = (tgt : Int)) (hp : pc + 3 = q) (kt : x = 0 → V M d Q tgt ls rest h L) (kf : ¬ x = 0 → V M d Q q ls rest h L) : V M d Q pc ls (aI x :: rest) h L := by
  subst hp
  intro ω p l e R s m args below meth c H locs a C hP hS hl
  exact lv_if_eq C.1 C.2.1 hdg ht (fun z => kt z ω p l e R s m args below meth c H locs a C hP hS hl) (fun z => kf z ω p l e R s m args below meth c H locs a C hP hS hl)
theorem v_if_ne {x : Int32} {off : Int} (tgt q : Nat) (hdg : decode M.2.1 pc = .ok (.ifCond .ne off, 3)) (ht : (pc : Int) + off = (tgt : Int)) (hp : pc + 3 = q) (kt : ¬ x = 0 → V M d Q tgt ls rest h L) (kf : x = 0 → V M d Q q ls rest h L) : V M d Q pc ls (aI x :: rest) h L := by
  subst hp
  intro ω p l e R s m args below meth c H locs a C hP hS hl
  exact lv_if_ne C.1 C.2.1 hdg ht (fun z => kt z ω p l e R s m args below meth c H locs a C hP hS hl) (fun z => kf z ω p l e R s m args below meth c H locs a C hP hS hl)
theorem v_if_lt {x : Int32} {off : Int} (tgt q : Nat) (hdg : decode M.2.1 pc = .ok (.ifCond .lt off, 3)) (ht : (pc : Int) + off = (tgt : Int)) (hp : pc + 3 = q) (kt : x < 0 → V M d Q tgt ls rest h L) (kf : ¬ x < 0 → V M d Q q ls rest h L) : V M d Q pc ls (aI x :: rest) h L := by
  subst hp
  intro ω p l e R s m args below meth c H locs a C hP hS hl
  exact lv_if_lt C.1 C.2.1 hdg ht (fun z => kt z ω p l e R s m args below meth c H locs a C hP hS hl) (fun z => kf z ω p l e R s m args below meth c H locs a C hP hS hl)
theorem v_if_ge {x : Int32} {off : Int} (tgt q : Nat) (hdg : decode M.2.1 pc = .ok (.ifCond .ge off, 3)) (ht : (pc : Int) + off = (tgt : Int)) (hp : pc + 3 = q) (kt : 0 ≤ x → V M d Q tgt ls rest h L) (kf : ¬ 0 ≤ x → V M d Q q ls rest h L) : V M d Q pc ls (aI x :: rest) h L := by
  subst hp
  intro ω p l e R s m args below meth c H locs a C hP hS hl
  exact lv_if_ge C.1 C.2.1 hdg ht (fun z => kt z ω p l e R s m args below meth c H locs a C hP hS hl) (fun z => kf z ω p l e R s m args below meth c H locs a C hP hS hl)
theorem v_if_gt {x : Int32} {off : Int} (tgt q : Nat) (hdg : decode M.2.1 pc = .ok (.ifCond .gt off, 3)) (ht : (pc : Int) + off = (tgt : Int)) (hp : pc + 3 = q) (kt : 0 < x → V M d Q tgt ls rest h L) (kf : ¬ 0 < x → V M d Q q ls rest h L) : V M d Q pc ls (aI x :: rest) h L := by
  subst hp
  intro ω p l e R s m args below meth c H locs a C hP hS hl
  exact lv_if_gt C.1 C.2.1 hdg ht (fun z => kt z ω p l e R s m args below meth c H locs a C hP hS hl) (fun z => kf z ω p l e R s m args below meth c H locs a C hP hS hl)
theorem v_if_le {x : Int32} {off : Int} (tgt q : Nat) (hdg : decode M.2.1 pc = .ok (.ifCond .le off, 3)) (ht : (pc : Int) + off = (tgt : Int)) (hp : pc + 3 = q) (kt : x ≤ 0 → V M d Q tgt ls rest h L) (kf : ¬ x ≤ 0 → V M d Q q ls rest h L) : V M d Q pc ls (aI x :: rest) h L := by
  subst hp
  intro ω p l e R s m args below meth c H locs a C hP hS hl
  exact lv_if_le C.1 C.2.1 hdg ht (fun z => kt z ω p l e R s m args below meth c H locs a C hP hS hl) (fun z => kf z ω p l e R s m args below meth c H locs a C hP hS hl)
theorem v_icmp_eq {x y : Int32} {off : Int} (tgt q : Nat) (hdg : decode M.2.1 pc = .ok (.if_icmp .eq off, 3)) (ht : (pc : Int) + off = (tgt : Int)) (hp : pc + 3 = q) (kt : x = y → V M d Q tgt ls rest h L) (kf : ¬ x = y → V M d Q q ls rest h L) : V M d Q pc ls (aI y :: aI x :: rest) h L := by
  subst hp
  intro ω p l e R s m args below meth c H locs a C hP hS hl
  exact lv_icmp_eq C.1 C.2.1 hdg ht (fun z => kt z ω p l e R s m args below meth c H locs a C hP hS hl) (fun z => kf z ω p l e R s m args below meth c H locs a C hP hS hl)
theorem v_icmp_ne {x y : Int32} {off : Int} (tgt q : Nat) (hdg : decode M.2.1 pc = .ok (.if_icmp .ne off, 3)) (ht : (pc : Int) + off = (tgt : Int)) (hp : pc + 3 = q) (kt : ¬ x = y → V M d Q tgt ls rest h L) (kf : x = y → V M d Q q ls rest h L) : V M d Q pc ls (aI y :: aI x :: rest) h L := by
  subst hp
  intro ω p l e R s m args below meth c H locs a C hP hS hl
  exact lv_icmp_ne C.1 C.2.1 hdg ht (fun z => kt z ω p l e R s m args below meth c H locs a C hP hS hl) (fun z => kf z ω p l e R s m args below meth c H locs a C hP hS hl)
theorem v_icmp_lt {x y : Int32} {off : Int} (tgt q : Nat) (hdg : decode M.2.1 pc = .ok (.if_icmp .lt off, 3)) (ht : (pc : Int) + off = (tgt : Int)) (hp : pc + 3 = q) (kt : x < y → V M d Q tgt ls rest h L) (kf : ¬ x < y → V M d Q q ls rest h L) : V M d Q pc ls (aI y :: aI x :: rest) h L := by
  subst hp
  intro ω p l e R s m args below meth c H locs a C hP hS hl
  exact lv_icmp_lt C.1 C.2.1 hdg ht (fun z => kt z ω p l e R s m args below meth c H locs a C hP hS hl) (fun z => kf z ω p l e R s m args below meth c H locs a C hP hS hl)
theorem v_icmp_ge {x y : Int32} {off : Int} (tgt q : Nat) (hdg : decode M.2.1 pc = .ok (.if_icmp .ge off, 3)) (ht : (pc : Int) + off = (tgt : Int)) (hp : pc + 3 = q) (kt : y ≤ x → V M d Q tgt ls rest h L) (kf : ¬ y ≤ x → V M d Q q ls rest h L) : V M d Q pc ls (aI y :: aI x :: rest) h L := by
  subst hp
  intro ω p l e R s m args below meth c H locs a C hP hS hl
  exact lv_icmp_ge C.1 C.2.1 hdg ht (fun z => kt z ω p l e R s m args below meth c H locs a C hP hS hl) (fun z => kf z ω p l e R s m args below meth c H locs a C hP hS hl)
theorem v_icmp_gt {x y : Int32} {off : Int} (tgt q : Nat) (hdg : decode M.2.1 pc = .ok (.if_icmp .gt off, 3)) (ht : (pc : Int) + off = (tgt : Int)) (hp : pc + 3 = q) (kt : y < x → V M d Q tgt ls rest h L) (kf : ¬ y < x → V M d Q q ls rest h L) : V M d Q pc ls (aI y :: aI x :: rest) h L := by
  subst hp
  intro ω p l e R s m args below meth c H locs a C hP hS hl
  exact lv_icmp_gt C.1 C.2.1 hdg ht (fun z => kt z ω p l e R s m args below meth c H locs a C hP hS hl) (fun z => kf z ω p l e R s m args below meth c H locs a C hP hS hl)
theorem v_icmp_le {x y : Int32} {off : Int} (tgt q : Nat) (hdg : decode M.2.1 pc = .ok (.if_icmp .le off, 3)) (ht : (pc : Int) + off = (tgt : Int)) (hp : pc + 3 = q) (kt : x ≤ y → V M d Q tgt ls rest h L) (kf : ¬ x ≤ y → V M d Q q ls rest h L) : V M d Q pc ls (aI y :: aI x :: rest) h L := by
  subst hp
  intro ω p l e R s m args below meth c H locs a C hP hS hl
  exact lv_icmp_le C.1 C.2.1 hdg ht (fun z => kt z ω p l e R s m args below meth c H locs a C hP hS hl) (fun z => kf z ω p l e R s m args below meth c H locs a C hP hS hl)
theorem v_goto {off : Int} (tgt : Nat) (hdg : decode M.2.1 pc = .ok (.goto off, 3)) (ht : (pc : Int) + off = (tgt : Int)) (k : V M d Q tgt ls rest h L) : V M d Q pc ls rest h L := by
  intro ω p l e R s m args below meth c H locs a C hP hS hl
  exact lv_goto C.1 C.2.1 hdg ht (k ω p l e R s m args below meth c H locs a C hP hS hl)
theorem v_tsOut {dflt lo hi : Int} {offs : Array Int} {len : Nat} {x : Int32} (tgt : Nat) (hdg : decode M.2.1 pc = .ok (.tableswitch dflt lo hi offs, len)) (hx : x.toInt < lo ∨ hi < x.toInt) (ht : (pc : Int) + dflt = (tgt : Int)) (k : V M d Q tgt ls rest h L) : V M d Q pc ls (aI x :: rest) h L := by
  intro ω p l e R s m args below meth c H locs a C hP hS hl
  exact lv_tableOut C.1 C.2.1 hdg hx ht (k ω p l e R s m args below meth c H locs a C hP hS hl)
theorem v_tsIn {dflt lo hi : Int} {offs : Array Int} {len : Nat} {x : Int32} {off : Int} (tgt : Nat) (hdg : decode M.2.1 pc = .ok (.tableswitch dflt lo hi offs, len)) (v : Int32) (hx : x = v) (h1 : ¬ v.toInt < lo) (h2 : ¬ hi < v.toInt) (ho : offs[(v.toInt - lo).toNat]? = some off) (ht : (pc : Int) + off = (tgt : Int)) (k : V M d Q tgt ls rest h L) : V M d Q pc ls (aI x :: rest) h L := by
  subst hx
  intro ω p l e R s m args below meth c H locs a C hP hS hl
  exact lv_tableIn C.1 C.2.1 hdg h1 h2 ho ht (k ω p l e R s m args below meth c H locs a C hP hS hl)
theorem v_iret {x : Int32} {ty : FieldType} (hdg : decode M.2.1 pc = .ok (.ireturn, 1)) (hr : M.2.2.2 = some ty) (hn : narrow ty (.int x) = .int x) (k : Q (some (aI x)) h L) : V M d Q pc ls [aI x] h L := by
  intro ω p l e R s m args below meth c H locs a C hP hS hl
  exact W.zret C.1 C.2.1 (C.2.2.1.trans hr) hn (fun t ht hW => ⟨⟨some (aI x), h, L, rfl, k, by rw [ht]; exact hP⟩, hS.F ht⟩) hS.2.2 hdg C.2.2.2.1
theorem v_lret {x : Int64} (hdg : decode M.2.1 pc = .ok (.lreturn, 1)) (hr : M.2.2.2 = some .long) (k : Q (some (aL x)) h L) : V M d Q pc ls [aL x] h L := by
  intro ω p l e R s m args below meth c H locs a C hP hS hl
  exact W.lret C.1 C.2.1 (C.2.2.1.trans hr) (fun t ht hW => ⟨⟨some (aL x), h, L, rfl, k, by rw [ht]; exact hP⟩, hS.F ht⟩) hS.2.2 hdg C.2.2.2.1
theorem v_aret {g j : Nat} {rt : FieldType} (hdg : decode M.2.1 pc = .ok (.areturn, 1)) (hr : M.2.2.2 = some (.array rt)) (k : Q (some (aR g j)) h L) : V M d Q pc ls [aR g j] h L := by
  intro ω p l e R s m args below meth c H locs a C hP hS hl
  exact W.aret C.1 C.2.1 (C.2.2.1.trans hr) (Or.inr ⟨rt, rfl⟩) (Or.inr ⟨_, rfl⟩) (fun t ht hW => ⟨⟨some (aR g j), h, L, rfl, k, by rw [ht]; exact hP⟩, hS.F ht⟩) hS.2.2 hdg C.2.2.2.1
theorem v_vret (hdg : decode M.2.1 pc = .ok (.return_, 1)) (hr : M.2.2.2 = none) (k : Q none h L) : V M d Q pc ls [] h L := by
  intro ω p l e R s m args below meth c H locs a C hP hS hl
  exact W.vret C.1 C.2.1 (C.2.2.1.trans hr) (fun t ht hW => ⟨⟨none, h, L, rfl, k, by rw [ht]; exact hP⟩, hS.F ht⟩) hS.2.2 hdg C.2.2.2.1
/-- an entry of the pool names field j of class ci -/
def FL (own : String) (ix ci j : Nat) : Prop := ∃ (Cn : String) (T : u_T) (N : Nat), vwCl[ci]? = some (Cn, T, N) ∧ j < N ∧ Cond.fieldLink own ix (T j).1 (T j).2.1 (T j).2.2.1 ∈ gw ∧ ∀ w ∈ u_ws Cn T N, w ∈ gw
def PL (own : String) (ix ci j : Nat) (ty : FieldType) : Prop := ∃ (Cn : String) (T : u_T) (N : Nat) (ty0 : Nat → FieldType), vwCl[ci]? = some (Cn, T, N) ∧ j < N ∧ Cond.fieldLink own ix (T j).1 (T j).2.1 (T j).2.2.1 ∈ gw ∧ (∀ w ∈ u_ws Cn T N, w ∈ gw) ∧ (∀ k, k < N → parseFieldDescriptor (T k).2.2.1 = some (ty0 k)) ∧ (∀ a, a < N → ∀ b, b < N → a ≠ b → (T a).2.1 ≠ (T b).2.1) ∧ (T j).2.2.2 = false ∧ parseFieldDescriptor (T j).2.2.1 = some ty
theorem v_getI {ix ci g k j : Nat} (q : Nat) (hdg : decode M.2.1 pc = .ok (.getfield ix, 3)) (hp : pc + 3 = q) (hf : FL M.1.cls ix ci j) (hin : inW g k = true) (hc : ck k = some ci) (ht : (ft g k)[j]? = some none) (kk : V M d Q q ls (aI (h g k j) :: rest) h L) : V M d Q pc ls (aR g k :: rest) h L := by
  subst hp
  intro ω p l e R s m args below meth c H locs a C hP hS hl
  obtain ⟨pp, hpp⟩ := List.getElem?_of_mem (idx_mem hin)
  obtain ⟨Cn, T, N, f1, f2, f3, f4⟩ := hf
  have hw := ws_at (ω := ω) (h := h) (L := L) hpp
  rw [cell_obj hc] at hw
  have hv := fv_int (ω := ω) (u := h g k) (j := 0) ht
  rw [show (0 : Nat) + j = j by omega] at hv
  exact va_get C.1 C.2.1 C.2.2.2.2.2.2.1 f4 C.2.2.2.2.2.1 C.2.2.2.2.2.2.2.1.1 hP pp hw f1 j f2 (C.2.2.2.2.2.2.1 _ f3) (fun _ z => z) hv hdg (kk ω p l e R s m args below meth c H locs a C hP hS hl)
theorem v_getR {ix ci g k j g' k' : Nat} (q : Nat) (hdg : decode M.2.1 pc = .ok (.getfield ix, 3)) (hp : pc + 3 = q) (hf : FL M.1.cls ix ci j) (hin : inW g k = true) (hc : ck k = some ci) (ht : (ft g k)[j]? = some (some (g', k'))) (kk : V M d Q q ls (aR g' k' :: rest) h L) : V M d Q pc ls (aR g k :: rest) h L := by
  subst hp
  intro ω p l e R s m args below meth c H locs a C hP hS hl
  obtain ⟨pp, hpp⟩ := List.getElem?_of_mem (idx_mem hin)
  obtain ⟨Cn, T, N, f1, f2, f3, f4⟩ := hf
  have hw := ws_at (ω := ω) (h := h) (L := L) hpp
  rw [cell_obj hc] at hw
  exact va_get C.1 C.2.1 C.2.2.2.2.2.2.1 f4 C.2.2.2.2.2.1 C.2.2.2.2.2.2.2.1.1 hP pp hw f1 j f2 (C.2.2.2.2.2.2.1 _ f3) (fun _ z => z) (fv_ref ht) hdg (kk ω p l e R s m args below meth c H locs a C hP hS hl)
theorem cell_put {ω : WC} {g k j ci : Nat} {x : Int32} (hc : ck k = some ci) (ht : (ft g k)[j]? = some none) : cellE ω (hP1 h g k j x) L (g, k) = .inr (ci, (fv ω (h g k) 0 (ft g k)).set j (.int x)) := by
  rw [cell_obj hc, fv_set ht, show (0 : Nat) + j = j by omega]
  show _ = _
  rw [show hP1 h g k j x g k = upd (h g k) j x from hPF_s]
theorem cell_oth {ω : WC} {g k : Nat} {f : Nat → Int32} {q' : Nat × Nat} (hn : q' ≠ (g, k)) : cellE ω (hPF h g k f) L q' = cellE ω h L q' := cell_keep (hPF_n (fun z => hn (Prod.ext z.1 z.2))) rfl
theorem cell_othL {ω : WC} {g k : Nat} {f : Nat → Int64} {q' : Nat × Nat} (hn : q' ≠ (g, k)) : cellE ω h (lPF L g k f) q' = cellE ω h L q' := cell_keep rfl (lPF_n (fun z => hn (Prod.ext z.1 z.2)))
theorem v_put {ix ci g k j : Nat} {x : Int32} {ty : FieldType} (q : Nat) (hdg : decode M.2.1 pc = .ok (.putfield ix, 3)) (hp : pc + 3 = q) (hf : PL M.1.cls ix ci j ty) (hin : inW g k = true) (hc : ck k = some ci) (ht : (ft g k)[j]? = some none) (hnr : narrow ty (.int x) = .int x) (hfi : fits ty (.int x) = true) (kk : V M d Q q ls rest (hP1 h g k j x) L) : V M d Q pc ls (aI x :: aR g k :: rest) h L := by
  subst hp
  intro ω p l e R s m args below meth c H locs a C hP hS hl
  obtain ⟨pp, hpp⟩ := List.getElem?_of_mem (idx_mem hin)
  obtain ⟨Cn, T, N, ty0, f1, f2, f3, f4, f5, f6, f7, f8⟩ := hf
  have hw := ws_at (ω := ω) (h := h) (L := L) hpp
  rw [cell_obj hc] at hw
  have hlt : j < (fv ω (h g k) 0 (ft g k)).length := by rw [fv_len]; exact (List.getElem?_eq_some_iff.mp ht).1
  refine va_put C.1 C.2.1 C.2.2.2.2.2.2.1 f4 ty0 f5 f6 C.2.2.2.2.2.1 C.2.2.2.2.2.2.2.1.1 hP (C.2.2.2.2.2.2.2.1.D h L) hS pp hw f1 j f2 (C.2.2.2.2.2.2.1 _ f3) (fun _ z => z) f7 f8 hnr hfi hlt hdg (fun H1 locs1 hP1' _ hS1 => ?_)
  have e1 := ws_set (ω := ω) (h := h) (h' := hP1 h g k j x) (L := L) (L' := L) hpp (cell_put hc ht) (fun q' _ hn => cell_oth hn)
  have hP2 : va_P ω.1 vwCl (wsW ω (hP1 h g k j x) L) H1 := by rw [← e1]; exact hP1'
  exact kk ω p l e R s m args below meth c H1 locs1 a C hP2 hS1 hl
theorem v_iald {g k j : Nat} {i : Int32} (q : Nat) (hdg : decode M.2.1 pc = .ok (.iaload, 1)) (hp : pc + 1 = q) (hin : inW g k = true) (hc : ck k = none) (hl0 : isL k = false) (hi : i = nI j) (hj : j < alen k) (kk : V M d Q q ls (aI (h g k j) :: rest) h L) : V M d Q pc ls (aI i :: aR g k :: rest) h L := by
  subst hp
  subst hi
  intro ω p l e R s m args below meth c H locs a C hP hS hl
  obtain ⟨pp, hpp⟩ := List.getElem?_of_mem (idx_mem hin)
  have hw := ws_at (ω := ω) (h := h) (L := L) hpp
  rw [cell_int hc hl0] at hw
  have hb : alen k < 2 ^ 31 := alen_lt k
  have hK := C.2.2.2.2.2.2.2.1.K hc hin
  rw [show aty k = FieldType.int by unfold aty; rw [if_neg (by rw [hl0]; decide)]] at hK
  have kq := kk ω p l e R s m args below meth c H locs a C hP hS hl
  rw [← nI_clamp (n := j) (by omega)] at kq
  exact va_iald C.1 C.2.1 hK hP pp 0 hw rfl (vp_in_nI hj hb) hdg kq
theorem v_iast {g k j : Nat} {i x : Int32} (q : Nat) (hdg : decode M.2.1 pc = .ok (.iastore, 1)) (hp : pc + 1 = q) (hin : inW g k = true) (hc : ck k = none) (hl0 : isL k = false) (hi : i = nI j) (hj : j < alen k) (kk : V M d Q q ls rest (hP1 h g k j x) L) : V M d Q pc ls (aI x :: aI i :: aR g k :: rest) h L := by
  subst hp
  subst hi
  intro ω p l e R s m args below meth c H locs a C hP hS hl
  obtain ⟨pp, hpp⟩ := List.getElem?_of_mem (idx_mem hin)
  have hw := ws_at (ω := ω) (h := h) (L := L) hpp
  rw [cell_int hc hl0] at hw
  have hb : alen k < 2 ^ 31 := alen_lt k
  have hK := C.2.2.2.2.2.2.2.1.K hc hin
  rw [show aty k = FieldType.int by unfold aty; rw [if_neg (by rw [hl0]; decide)]] at hK
  refine va_iast C.1 C.2.1 hK hP (C.2.2.2.2.2.2.2.1.D h L) hS pp 0 hw rfl (vp_in_nI hj hb) hdg (fun H1 locs1 hP1' _ hS1 => ?_)
  rw [nI_clamp (n := j) (by omega), ws_set (h' := hP1 h g k j x) (L' := L) hpp (by rw [cell_int hc hl0, show hP1 h g k j x g k = upd (h g k) j x from hPF_s]) (fun q' _ hn => cell_oth hn)] at hP1'
  exact kk ω p l e R s m args below meth c H1 locs1 a C hP1' hS1 hl
theorem v_lald {g k j : Nat} {i : Int32} (q : Nat) (hdg : decode M.2.1 pc = .ok (.laload, 1)) (hp : pc + 1 = q) (hin : inW g k = true) (hc : ck k = none) (hl0 : isL k = true) (hi : i = nI j) (hj : j < alen k) (kk : V M d Q q ls (aL (L g k j) :: rest) h L) : V M d Q pc ls (aI i :: aR g k :: rest) h L := by
  subst hp
  subst hi
  intro ω p l e R s m args below meth c H locs a C hP hS hl
  obtain ⟨pp, hpp⟩ := List.getElem?_of_mem (idx_mem hin)
  have hw := ws_at (ω := ω) (h := h) (L := L) hpp
  rw [cell_long hc hl0] at hw
  have hb : alen k < 2 ^ 31 := alen_lt k
  have hK := C.2.2.2.2.2.2.2.1.K hc hin
  rw [show aty k = FieldType.long by unfold aty; rw [if_pos hl0]] at hK
  have kq := kk ω p l e R s m args below meth c H locs a C hP hS hl
  rw [← nI_clamp (n := j) (by omega)] at kq
  exact va_lald C.1 C.2.1 hK hP pp 0 hw rfl (vp_in_nI hj hb) hdg kq
theorem v_last {g k j : Nat} {i : Int32} {x : Int64} (q : Nat) (hdg : decode M.2.1 pc = .ok (.lastore, 1)) (hp : pc + 1 = q) (hin : inW g k = true) (hc : ck k = none) (hl0 : isL k = true) (hi : i = nI j) (hj : j < alen k) (kk : V M d Q q ls rest h (lP1 L g k j x)) : V M d Q pc ls (aL x :: aI i :: aR g k :: rest) h L := by
  subst hp
  subst hi
  intro ω p l e R s m args below meth c H locs a C hP hS hl
  obtain ⟨pp, hpp⟩ := List.getElem?_of_mem (idx_mem hin)
  have hw := ws_at (ω := ω) (h := h) (L := L) hpp
  rw [cell_long hc hl0] at hw
  have hb : alen k < 2 ^ 31 := alen_lt k
  have hK := C.2.2.2.2.2.2.2.1.K hc hin
  rw [show aty k = FieldType.long by unfold aty; rw [if_pos hl0]] at hK
  refine va_last C.1 C.2.1 hK hP (C.2.2.2.2.2.2.2.1.D h L) hS pp 0 hw rfl (vp_in_nI hj hb) hdg (fun H1 locs1 hP1' _ hS1 => ?_)
  rw [nI_clamp (n := j) (by omega), ws_set (h' := h) (L' := lP1 L g k j x) hpp (by rw [cell_long hc hl0, show lP1 L g k j x g k = vp_updL (L g k) j x from lPF_s]) (fun q' _ hn => cell_othL hn)] at hP1'
  exact kk ω p l e R s m args below meth c H1 locs1 a C hP1' hS1 hl
theorem v_alen {g k : Nat} (q : Nat) (hdg : decode M.2.1 pc = .ok (.arraylength, 1)) (hp : pc + 1 = q) (hin : inW g k = true) (hc : ck k = none) (hl0 : isL k = false) (kk : V M d Q q ls (aI (nI (alen k)) :: rest) h L) : V M d Q pc ls (aR g k :: rest) h L := by
  subst hp
  intro ω p l e R s m args below meth c H locs a C hP hS hl
  obtain ⟨pp, hpp⟩ := List.getElem?_of_mem (idx_mem hin)
  have hw := ws_at (ω := ω) (h := h) (L := L) hpp
  rw [cell_int hc hl0] at hw
  exact va_alen C.1 C.2.1 (C.2.2.2.2.2.2.2.1.K hc hin) hP pp 0 hw rfl rfl hdg (kk ω p l e R s m args below meth c H locs a C hP hS hl)
-- static arrays
theorem v_gets {ix j : Nat} {Cn n : String} {xs : List Int32} (q : Nat) (hdg : decode M.2.1 pc = .ok (.getstatic ix, 3)) (hp : pc + 3 = q) (hf : Cond.fieldLink M.1.cls ix Cn n "[I" ∈ gw) (hs : statL[j]? = some (Cn, n, xs)) (k : V M d Q q ls (aR 9 j :: rest) h L) : V M d Q pc ls rest h L := by
  subst hp
  intro ω p l e R s m args below meth c H locs a C hP hS hl
  exact va_gets C.1 C.2.1 (C.2.2.2.2.2.2.2.1.2.2.2.2.1 j _ hs).1 hS C.2.2.2.2.2.1 (C.2.2.2.2.2.2.1 _ hf) (fun _ z => z) hdg (k ω p l e R s m args below meth c H locs a C hP hS hl)
theorem v_sald {j jj : Nat} {i : Int32} {Cn n : String} {xs : List Int32} (q : Nat) (hdg : decode M.2.1 pc = .ok (.iaload, 1)) (hp : pc + 1 = q) (hs : statL[j]? = some (Cn, n, xs)) (hi : i = nI jj) (hj : jj < xs.length) (hj2 : jj < 2 ^ 31) (k : V M d Q q ls (aI (xs.getD jj 0) :: rest) h L) : V M d Q pc ls (aI i :: aR 9 j :: rest) h L := by
  subst hp
  subst hi
  intro ω p l e R s m args below meth c H locs a C hP hS hl
  obtain ⟨cell, h1, h2, h3, h4, h5, h6, h7⟩ := (C.2.2.2.2.2.2.2.1.2.2.2.2.1 j _ hs).2.kept hS.2.1
  refine W.iald (v := .int (xs.getD jj 0)) C.1 C.2.1 h1 h2 h3 ?_ ?_ rfl rfl hdg (k ω p l e R s m args below meth c H locs a C hP hS hl)
  · rw [nI_clamp hj2]
    intro z
    rcases z with z | z
    · exact nI_pos hj2 z
    · have h4' : xs.length ≤ cell.slots.size := h4
      omega
  · rw [nI_clamp hj2]
    exact h6 jj hj
theorem v_slen {j : Nat} {Cn n : String} {xs : List Int32} (q : Nat) (hdg : decode M.2.1 pc = .ok (.arraylength, 1)) (hp : pc + 1 = q) (hs : statL[j]? = some (Cn, n, xs)) (k : V M d Q q ls (aI (nI xs.length) :: rest) h L) : V M d Q pc ls (aR 9 j :: rest) h L := by
  subst hp
  intro ω p l e R s m args below meth c H locs a C hP hS hl
  obtain ⟨cell, h1, h2, h3, h4, h5, h6, h7⟩ := (C.2.2.2.2.2.2.2.1.2.2.2.2.1 j _ hs).2.kept hS.2.1
  exact W.alen (n := nI xs.length) C.1 C.2.1 h1 h2 h5 rfl rfl hdg (k ω p l e R s m args below meth c H locs a C hP hS hl)
end VRows
end
section
-- CALLS
theorem run_go {M : MD} {d : Nat} {Q Q' : Option AV → HI → HL → Prop} {pc : Nat} {ls : List (Option AV)} {rest : List AV} {ω : WC} {p : Program} {l : Launch} {e : Env} {R : Room} {s : State} {m : MethodId} {args : Array Value} {below : List Frame} {meth : Method} {c : Code} {H : Heap} {locs : List Loc} {a : Array Slot} {st0 : List Value} {av : Array Value}
    (C : Cx ω M d p R s m args meth c) (hS : va_S (Aω ω) s.heap H locs) (hl : lv_has a M.2.2.1 (lvl ω 0 ls))
    (run : va_Run p l e R s m args below meth c H locs 0 0 0 0 (F0 m pc a st0) (rest.map (cv ω)) (QC ω Q' av) (Aω ω))
    (kk : ∀ r h' L', Q' r h' L' → V M d Q (pc + 3) ls (r.toList ++ rest) h' L') : W p l e R s m args below meth c H locs 0 0 (MQ below (QC ω Q) args s 0 0 (Aω ω)) (F0 m pc a st0) := by
  intro T hT X
  obtain ⟨v, st₀, t, T', Lc, h0, X', hL, e1, e2, ⟨⟨r, h', L', hv, hq, hP'⟩, hz, hk⟩, go⟩ := run T hT X
  have hv2 : v = r.map (cv ω) := by cases hv; rfl
  subst hv2
  rw [h0] at hz hk
  have hS' : va_S (Aω ω) s.heap T'.heap (locs ++ Lc) := ⟨Nat.le_trans hS.1 (by rw [e1]; exact hz), fun q h1 h2 => by rw [e1, hk q (Nat.lt_of_lt_of_le h1 hS.1) h2]; exact hS.2.1 q h1 h2, fun q hq => by
    rcases List.mem_append.mp hq with z | z
    · exact hS.2.2 q z
    · exact hL q z⟩
  obtain ⟨t2, a1, b1⟩ := kk r h' L' hq ω p l e R s m args below meth c T'.heap (locs ++ Lc) a C (by rw [e1]; exact hP') hS' hl T' rfl X'
  refine ⟨t2, go t2 ?_, b1⟩
  cases r <;> exact a1
def OKM (M : MD) (n : Nat) : Prop := Cond.code M.1 M.2.1 M.2.2.1 M.2.2.2 ∈ gw ∧ Cond.initialized M.1.cls ∈ gw ∧ (M.1.cls ≠ "java/lang/invoke/MethodHandle" ∧ M.1.cls ≠ "java/lang/invoke/VarHandle" ∧ (parseMethodDescriptor M.1.desc).map (fun d => d.parameters.length) = some n) ∧ M.2.2.1 ≤ 21
def OKV (M : MD) (n : Nat) : Prop := OKM M n ∧ Cond.instanceMethod M.1 ∈ gw ∧ Cond.selects M.1.cls M.1 M.1 ∈ gw
def OKS (M : MD) (n : Nat) : Prop := OKM M n ∧ Cond.static M.1 ∈ gw
theorem con_blind {ω : WC} {h : HI} {L : HL} {av : List Value} : FrameBlind (va_Pc av (fun U => St ω U U.heap ∧ va_P ω.1 vwCl (wsW ω h L) U.heap)) := by
  intro a U g mk q
  obtain ⟨q0, q1, q2⟩ := q
  exact ⟨q0, St.same (U := U.calling g mk a) q1 rfl, q2⟩
theorem gw_cons {M : MD} (h : Cond.code M.1 M.2.1 M.2.2.1 M.2.2.2 ∈ gw) : GoodIn gw (wsM M) := fun w hw => by
  rcases List.mem_cons.mp hw with z | z
  · rw [z]; exact gw_good _ h
  · exact gw_good w z
section VCalls
variable {M : MD} {d : Nat} {Q : Option AV → HI → HL → Prop} {pc : Nat} {ls : List (Option AV)} {rest : List AV} {h : HI} {L : HL}
theorem v_callVG {M' : MD} {d' ix n : Nat} {av : List AV} {v0 : AV} {b : WC → Nat} {Q' : Option AV → HI → HL → Prop} {st : List AV} (q : Nat) (hdg : decode M.2.1 pc = .ok (.invokevirtual ix, 3)) (hp : pc + 3 = q)
    (hlk : Cond.methodLink M.1.cls ix M'.1 ∈ gw) (ok : OKV M' n) (hC : Con M' d' (v0 :: av) h L Q') (hd : d' + 1 ≤ d) (hb0 : ∀ ω, cv ω v0 = .ref (b ω))
    (hrec : ∀ (ω : WC) (s : State) (H : Heap) (locs : List Loc), St ω s s.heap → va_P ω.1 vwCl (wsW ω h L) H → va_S (Aω ω) s.heap H locs → ∃ cell : Cell, H[b ω]? = some cell ∧ cell.vm.isStatics = false ∧ s.vm.findClass M'.1.cls = some cell.cls)
    (hn : av.length = n) (hst : av.reverse ++ v0 :: rest = st) (hcat : (rest.map catA).sum ≤ 8)
    (kk : ∀ r h' L', Q' r h' L' → V M d Q q ls (r.toList ++ rest) h' L') : V M d Q pc ls st h L := by
  subst hp
  subst hst
  intro ω p l e R s m args below meth c H locs a C hP hS hl
  obtain ⟨⟨o1, o2, o3, o4⟩, o5, o6⟩ := ok
  have hM := hC ω l { frames := d', cells := 0, slots := 0, locals := 40 * d' } (Nat.le_refl _) (Nat.le_refl _) rfl rfl
  have hfr : d ≤ R.frames := C.2.2.2.2.2.2.2.2.1
  have hlo : 40 * d ≤ R.locals := C.2.2.2.2.2.2.2.2.2
  have hG : GoodIn gw (wsV M.1.cls ix M'.1.cls M'.1 (wsM M')) := by
    intro w hw
    unfold wsV at hw
    rcases List.mem_append.mp hw with z | z
    · refine gw_good w ?_
      simp only [List.mem_cons, List.not_mem_nil, or_false] at z
      rcases z with z | z | z | z <;> rw [z]
      · exact hlk
      · exact o5
      · exact o6
      · exact o2
    · exact gw_cons o1 w z
  rw [List.map_append, List.map_cons, List.map_reverse, hb0 ω]
  refine run_go C hS hl (va_runV (C := M'.1.cls) (As := av.map (cv ω)) (rest := rest.map (cv ω)) ⟨C.1, C.2.1, C.2.2.2.2.1, C.2.2.2.2.2.1, C.2.2.2.2.2.2.1⟩ hM (cwV (ws' := gw) n C.2.2.2.2.2.2.1 hG rfl rfl rfl ⟨rfl, o3⟩ ⟨by show d' + 1 ≤ R.frames; omega, by show 8 + (M'.2.2.1 + 11) + 40 * d' ≤ R.locals; omega⟩) ⟨con_blind, hrec ω s H locs C.2.2.2.2.2.2.2.1 hP hS, fun U hU hW => ?_⟩ rfl (by rw [List.length_map]; exact hn) hl.1 rfl (lv_room (by rw [cat_sum]; exact hcat)) hdg ⟨Nat.zero_le _, Nat.zero_le _⟩) kk
  refine ⟨by rw [List.map_cons, hb0 ω], C.2.2.2.2.2.2.2.1.warm hW (by rw [hU]; exact hS.2.1), by rw [hU]; exact hP⟩
theorem v_callV {M' : MD} {d' ix n g k ci : Nat} {av : List AV} {Q' : Option AV → HI → HL → Prop} {st : List AV} {Cn : String} {T : u_T} {N : Nat} (q : Nat) (hdg : decode M.2.1 pc = .ok (.invokevirtual ix, 3)) (hp : pc + 3 = q)
    (hlk : Cond.methodLink M.1.cls ix M'.1 ∈ gw) (ok : OKV M' n) (hC : Con M' d' (aR g k :: av) h L Q') (hd : d' + 1 ≤ d) (hin : inW g k = true) (hck : ck k = some ci) (hcl : vwCl[ci]? = some (M'.1.cls, T, N))
    (hn : av.length = n) (hst : av.reverse ++ aR g k :: rest = st) (hcat : (rest.map catA).sum ≤ 8)
    (kk : ∀ r h' L', Q' r h' L' → V M d Q q ls (r.toList ++ rest) h' L') : V M d Q pc ls st h L := by
  refine v_callVG (b := fun ω => ω.2.1 g k) q hdg hp hlk ok hC hd (fun _ => rfl) (fun ω s H locs hSt hP hS => ?_) hn hst hcat kk
  obtain ⟨pp, hpp⟩ := List.getElem?_of_mem (idx_mem hin)
  have hw := ws_at (ω := ω) (h := h) (L := L) hpp
  rw [cell_obj hck] at hw
  exact va_recv hSt.1 hP hcl hw
theorem v_callT {M' : MD} {d' ix n i : Nat} {av : List AV} {Q' : Option AV → HI → HL → Prop} {st : List AV} (q : Nat) (hdg : decode M.2.1 pc = .ok (.invokevirtual ix, 3)) (hp : pc + 3 = q)
    (hlk : Cond.methodLink M.1.cls ix M'.1 ∈ gw) (ok : OKV M' n) (hC : Con M' d' (aR 10 i :: av) h L Q') (hd : d' + 1 ≤ d) (hi : i < 15) (hcl : M'.1.cls = "java/lang/String")
    (hn : av.length = n) (hst : av.reverse ++ aR 10 i :: rest = st) (hcat : (rest.map catA).sum ≤ 8)
    (kk : ∀ r h' L', Q' r h' L' → V M d Q q ls (r.toList ++ rest) h' L') : V M d Q pc ls st h L := by
  refine v_callVG (b := fun ω => ω.2.1 10 i) q hdg hp hlk ok hC hd (fun _ => rfl) (fun ω s H locs hSt hP hS => ?_) hn hst hcat kk
  rw [hcl]
  exact vk_recv hSt.2.2.2.2.2.2.1 hi hS
theorem v_callS {M' : MD} {d' ix n : Nat} {av : List AV} {Q' : Option AV → HI → HL → Prop} {st : List AV} (q : Nat) (hdg : decode M.2.1 pc = .ok (.invokestatic ix, 3)) (hp : pc + 3 = q)
    (hlk : Cond.methodLink M.1.cls ix M'.1 ∈ gw) (ok : OKS M' n) (hC : Con M' d' av h L Q') (hd : d' + 1 ≤ d)
    (hn : av.length = n) (hst : av.reverse ++ rest = st) (hcat : (rest.map catA).sum ≤ 8)
    (kk : ∀ r h' L', Q' r h' L' → V M d Q q ls (r.toList ++ rest) h' L') : V M d Q pc ls st h L := by
  subst hp
  subst hst
  intro ω p l e R s m args below meth c H locs a C hP hS hl
  obtain ⟨⟨o1, o2, o3, o4⟩, o5⟩ := ok
  have hM := hC ω l { frames := d', cells := 0, slots := 0, locals := 40 * d' } (Nat.le_refl _) (Nat.le_refl _) rfl rfl
  have hfr : d ≤ R.frames := C.2.2.2.2.2.2.2.2.1
  have hlo : 40 * d ≤ R.locals := C.2.2.2.2.2.2.2.2.2
  have hG : GoodIn gw (va_wsS M.1.cls ix M'.1 (wsM M')) := by
    intro w hw
    unfold va_wsS at hw
    rcases List.mem_append.mp hw with z | z
    · refine gw_good w ?_
      simp only [List.mem_cons, List.not_mem_nil, or_false] at z
      rcases z with z | z | z <;> rw [z]
      · exact hlk
      · exact o5
      · exact o2
    · exact gw_cons o1 w z
  rw [List.map_append, List.map_reverse]
  refine run_go C hS hl (va_runS (As := av.map (cv ω)) (rest := rest.map (cv ω)) ⟨C.1, C.2.1, C.2.2.2.2.1, C.2.2.2.2.2.1, C.2.2.2.2.2.2.1⟩ hM (va_cwS (ws' := gw) n C.2.2.2.2.2.2.1 hG rfl rfl rfl o3 ⟨by show d' + 1 ≤ R.frames; omega, by show 8 + (M'.2.2.1 + 11) + 40 * d' ≤ R.locals; omega⟩) ⟨con_blind, fun U hU hW => ?_⟩ rfl (by rw [List.length_map]; exact hn) hl.1 rfl (lv_room (by rw [cat_sum]; exact hcat)) hdg ⟨Nat.zero_le _, Nat.zero_le _⟩) kk
  exact ⟨rfl, C.2.2.2.2.2.2.2.1.warm hW (by rw [hU]; exact hS.2.1), by rw [hU]; exact hP⟩
theorem v_callN {M' : MD} {d' ix n : Nat} {host : String} {av : List AV} {Q' : Option AV → HI → HL → Prop} {st : List AV} (q : Nat) (hdg : decode M.2.1 pc = .ok (.invokestatic ix, 3)) (hp : pc + 3 = q)
    (hlk : (M.1.cls, ix, M'.1, host) ∈ nestL) (ok : OKS M' n) (hC : Con M' d' av h L Q') (hd : d' + 1 ≤ d)
    (hn : av.length = n) (hst : av.reverse ++ rest = st) (hcat : (rest.map catA).sum ≤ 8)
    (kk : ∀ r h' L', Q' r h' L' → V M d Q q ls (r.toList ++ rest) h' L') : V M d Q pc ls st h L := by
  subst hp
  subst hst
  intro ω p l e R s m args below meth c H locs a C hP hS hl
  obtain ⟨⟨o1, o2, o3, o4⟩, o5⟩ := ok
  have hM := hC ω l { frames := d', cells := 0, slots := 0, locals := 40 * d' } (Nat.le_refl _) (Nat.le_refl _) rfl rfl
  have hfr : d ≤ R.frames := C.2.2.2.2.2.2.2.2.1
  have hlo : 40 * d ≤ R.locals := C.2.2.2.2.2.2.2.2.2
  have hnl := C.2.2.2.2.2.2.2.1.2.2.2.1 _ hlk
  rw [List.map_append, List.map_reverse]
  refine run_go C hS hl (va_runSN (As := av.map (cv ω)) (rest := rest.map (cv ω)) ⟨C.1, C.2.1, C.2.2.2.2.1, C.2.2.2.2.2.1, C.2.2.2.2.2.2.1⟩ hM ⟨va_cnB (ws' := gw) n C.2.2.2.2.2.2.1 (gw_cons o1) rfl rfl rfl hnl (C.2.2.2.2.2.2.1 _ o2) o3 ⟨by show d' + 1 ≤ R.frames; omega, by show 8 + (M'.2.2.1 + 11) + 40 * d' ≤ R.locals; omega⟩, C.2.2.2.2.2.2.1 _ o5, trivial⟩ ⟨con_blind, fun U hU hW => ?_⟩ rfl (by rw [List.length_map]; exact hn) hl.1 rfl (lv_room (by rw [cat_sum]; exact hcat)) hdg ⟨Nat.zero_le _, Nat.zero_le _⟩) kk
  exact ⟨rfl, C.2.2.2.2.2.2.2.1.warm hW (by rw [hU]; exact hS.2.1), by rw [hU]; exact hP⟩
theorem v_max {ix : Nat} {x y : Int32} (q : Nat) (hdg : decode M.2.1 pc = .ok (.invokestatic ix, 3)) (hp : pc + 3 = q) (hlk : Cond.methodLink M.1.cls ix Lib.Math.max.name ∈ gw) (hs : Cond.static Lib.Math.max.name ∈ gw) (hi : Cond.initialized "java/lang/Math" ∈ gw) (hc : Cond.code Lib.Math.max.name Lib.Math.max.code 2 (some .int) ∈ gw) (hd : 1 ≤ d) (hcat : (rest.map catA).sum ≤ 8)
    (k : V M d Q q ls (aI (if x < y then y else x) :: rest) h L) : V M d Q pc ls (aI y :: aI x :: rest) h L := by
  subst hp
  intro ω p l e R s m args below meth c H locs a C hP hS hl
  have hfr : d ≤ R.frames := C.2.2.2.2.2.2.2.2.1
  have hlo : 40 * d ≤ R.locals := C.2.2.2.2.2.2.2.2.2
  have ht := C.2.2.2.2.2.2.1
  exact va_mmax C.1 C.2.1 (C.2.2.2.2.1.trans hl.1.symm) C.2.2.2.2.2.1 (ht _ hlk) (ht _ hs) (ht _ hi) (ht _ hc) (by omega) (by rw [cat_sum]; omega) (Nat.zero_le _) (Nat.zero_le _) hdg (k ω p l e R s m args below meth c H locs a C hP hS hl)
theorem v_min {ix : Nat} {x y : Int32} (q : Nat) (hdg : decode M.2.1 pc = .ok (.invokestatic ix, 3)) (hp : pc + 3 = q) (hlk : Cond.methodLink M.1.cls ix Lib.Math.min.name ∈ gw) (hs : Cond.static Lib.Math.min.name ∈ gw) (hi : Cond.initialized "java/lang/Math" ∈ gw) (hc : Cond.code Lib.Math.min.name Lib.Math.min.code 2 (some .int) ∈ gw) (hd : 1 ≤ d) (hcat : (rest.map catA).sum ≤ 8)
    (k : V M d Q q ls (aI (if x < y then x else y) :: rest) h L) : V M d Q pc ls (aI y :: aI x :: rest) h L := by
  subst hp
  intro ω p l e R s m args below meth c H locs a C hP hS hl
  have hfr : d ≤ R.frames := C.2.2.2.2.2.2.2.2.1
  have hlo : 40 * d ≤ R.locals := C.2.2.2.2.2.2.2.2.2
  have ht := C.2.2.2.2.2.2.1
  exact va_mmin C.1 C.2.1 (C.2.2.2.2.1.trans hl.1.symm) C.2.2.2.2.2.1 (ht _ hlk) (ht _ hs) (ht _ hi) (ht _ hc) (by omega) (by rw [cat_sum]; omega) (Nat.zero_le _) (Nat.zero_le _) hdg (k ω p l e R s m args below meth c H locs a C hP hS hl)
theorem acp_words : nativeFrameWords "java/lang/System" "arraycopy" 5 + 11 ≤ 30 := by decide +kernel
theorem nI_nn {n : Nat} (h : n < 2 ^ 31) : ¬ nI n < 0 := nI_pos h
theorem v_acpy {ix g0 k0 g1 k1 sp dp n : Nat} {i0 i1 i2 : Int32} (q : Nat) (hdg : decode M.2.1 pc = .ok (.invokestatic ix, 3)) (hp : pc + 3 = q) (hlk : Cond.methodLink M.1.cls ix arraycopyName ∈ gw) (hnat : Cond.native arraycopyName ∈ gw) (hs : Cond.static arraycopyName ∈ gw) (hi : Cond.initialized "java/lang/System" ∈ gw)
    (hin0 : inW g0 k0 = true) (hc0 : ck k0 = none) (hl0 : isL k0 = false) (hin1 : inW g1 k1 = true) (hc1 : ck k1 = none) (hl1 : isL k1 = false) (h0 : i0 = nI sp) (h1 : i1 = nI dp) (h2 : i2 = nI n) (hb0 : sp + n ≤ alen k0) (hb1 : dp + n ≤ alen k1) (hd : 1 ≤ d) (hcat : (rest.map catA).sum ≤ 8)
    (kk : V M d Q q ls rest (hPF h g1 k1 (va_cpy (h g0 k0) (h g1 k1) sp dp n)) L) : V M d Q pc ls (aI i2 :: aI i1 :: aR g1 k1 :: aI i0 :: aR g0 k0 :: rest) h L := by
  subst hp
  subst h0
  subst h1
  subst h2
  intro ω p l e R s m args below meth c H locs a C hP hS hl
  have hfr : d ≤ R.frames := C.2.2.2.2.2.2.2.2.1
  have hlo : 40 * d ≤ R.locals := C.2.2.2.2.2.2.2.2.2
  have ht := C.2.2.2.2.2.2.1
  have hSt := C.2.2.2.2.2.2.2.1
  have l0 := alen_lt k0
  have l1 := alen_lt k1
  obtain ⟨p0, hp0⟩ := List.getElem?_of_mem (idx_mem hin0)
  have hw0 := ws_at (ω := ω) (h := h) (L := L) hp0
  rw [cell_int hc0 hl0] at hw0
  obtain ⟨p1, hp1⟩ := List.getElem?_of_mem (idx_mem hin1)
  have hw1 := ws_at (ω := ω) (h := h) (L := L) hp1
  rw [cell_int hc1 hl1] at hw1
  have e0 : aty k0 = FieldType.int := by unfold aty; rw [if_neg (by rw [hl0]; decide)]
  have e1 : aty k1 = FieldType.int := by unfold aty; rw [if_neg (by rw [hl1]; decide)]
  have hK0 := hSt.K hc0 hin0
  have hK1 := hSt.K hc1 hin1
  rw [e0] at hK0
  rw [e1] at hK1
  have aw := acp_words
  refine va_copyi C.1 C.2.1 (C.2.2.2.2.1.trans hl.1.symm) C.2.2.2.2.2.1 (ht _ hlk) (ht _ hnat) (ht _ hs) (ht _ hi) (hK0.app hK1) hP (hSt.D h L) hS p0 p1 0 1 hw0 hw1 rfl rfl rfl (nI_nn (by omega)) (nI_nn (by omega)) (nI_nn (by omega)) (by rw [nI_clamp (by omega), nI_clamp (by omega)]; exact hb0) (by rw [nI_clamp (by omega), nI_clamp (by omega)]; exact hb1) (fun _ _ => rfl) (by omega) (by rw [cat_sum]; omega) hdg (fun H1 locs1 hPn _ hSn => ?_)
  rw [nI_clamp (n := sp) (by omega), nI_clamp (n := dp) (by omega), nI_clamp (n := n) (by omega)] at hPn
  have e2 := ws_set (ω := ω) (h := h) (h' := hPF h g1 k1 (va_cpy (h g0 k0) (h g1 k1) sp dp n)) (L := L) (L' := L) hp1 (by rw [cell_int hc1 hl1, hPF_s]) (fun q' _ hn => cell_oth hn)
  have hP2 : va_P ω.1 vwCl (wsW ω (hPF h g1 k1 (va_cpy (h g0 k0) (h g1 k1) sp dp n)) L) H1 := by rw [← e2]; exact hPn
  exact kk ω p l e R s m args below meth c H1 locs1 a C hP2 hSn hl
theorem v_acpyL {ix g0 k0 g1 k1 sp dp n : Nat} {i0 i1 i2 : Int32} (q : Nat) (hdg : decode M.2.1 pc = .ok (.invokestatic ix, 3)) (hp : pc + 3 = q) (hlk : Cond.methodLink M.1.cls ix arraycopyName ∈ gw) (hnat : Cond.native arraycopyName ∈ gw) (hs : Cond.static arraycopyName ∈ gw) (hi : Cond.initialized "java/lang/System" ∈ gw)
    (hin0 : inW g0 k0 = true) (hc0 : ck k0 = none) (hl0 : isL k0 = true) (hin1 : inW g1 k1 = true) (hc1 : ck k1 = none) (hl1 : isL k1 = true) (h0 : i0 = nI sp) (h1 : i1 = nI dp) (h2 : i2 = nI n) (hb0 : sp + n ≤ alen k0) (hb1 : dp + n ≤ alen k1) (hd : 1 ≤ d) (hcat : (rest.map catA).sum ≤ 8)
    (kk : V M d Q q ls rest h (lPF L g1 k1 (va_cpy (L g0 k0) (L g1 k1) sp dp n))) : V M d Q pc ls (aI i2 :: aI i1 :: aR g1 k1 :: aI i0 :: aR g0 k0 :: rest) h L := by
  subst hp
  subst h0
  subst h1
  subst h2
  intro ω p l e R s m args below meth c H locs a C hP hS hl
  have hfr : d ≤ R.frames := C.2.2.2.2.2.2.2.2.1
  have hlo : 40 * d ≤ R.locals := C.2.2.2.2.2.2.2.2.2
  have ht := C.2.2.2.2.2.2.1
  have hSt := C.2.2.2.2.2.2.2.1
  have l0 := alen_lt k0
  have l1 := alen_lt k1
  obtain ⟨p0, hp0⟩ := List.getElem?_of_mem (idx_mem hin0)
  have hw0 := ws_at (ω := ω) (h := h) (L := L) hp0
  rw [cell_long hc0 hl0] at hw0
  obtain ⟨p1, hp1⟩ := List.getElem?_of_mem (idx_mem hin1)
  have hw1 := ws_at (ω := ω) (h := h) (L := L) hp1
  rw [cell_long hc1 hl1] at hw1
  have e0 : aty k0 = FieldType.long := by unfold aty; rw [if_pos hl0]
  have e1 : aty k1 = FieldType.long := by unfold aty; rw [if_pos hl1]
  have hK0 := hSt.K hc0 hin0
  have hK1 := hSt.K hc1 hin1
  rw [e0] at hK0
  rw [e1] at hK1
  have aw := acp_words
  refine va_copyl C.1 C.2.1 (C.2.2.2.2.1.trans hl.1.symm) C.2.2.2.2.2.1 (ht _ hlk) (ht _ hnat) (ht _ hs) (ht _ hi) (hK0.app hK1) hP (hSt.D h L) hS p0 p1 0 1 hw0 hw1 rfl rfl rfl (nI_nn (by omega)) (nI_nn (by omega)) (nI_nn (by omega)) (by rw [nI_clamp (by omega), nI_clamp (by omega)]; exact hb0) (by rw [nI_clamp (by omega), nI_clamp (by omega)]; exact hb1) (fun _ _ => rfl) (by omega) (by rw [cat_sum]; omega) hdg (fun H1 locs1 hPn _ hSn => ?_)
  rw [nI_clamp (n := sp) (by omega), nI_clamp (n := dp) (by omega), nI_clamp (n := n) (by omega)] at hPn
  have e2 := ws_set (ω := ω) (h := h) (h' := h) (L := L) (L' := lPF L g1 k1 (va_cpy (L g0 k0) (L g1 k1) sp dp n)) hp1 (by rw [cell_long hc1 hl1, lPF_s]) (fun q' _ hn => cell_othL hn)
  have hP2 : va_P ω.1 vwCl (wsW ω h (lPF L g1 k1 (va_cpy (L g0 k0) (L g1 k1) sp dp n))) H1 := by rw [← e2]; exact hPn
  exact kk ω p l e R s m args below meth c H1 locs1 a C hP2 hSn hl
-- String constants: String's own fields, its bytes
theorem v_strV {ix i : Nat} (q : Nat) (hdg : decode M.2.1 pc = .ok (.getfield ix, 3)) (hp : pc + 3 = q) (hf : Cond.fieldLink M.1.cls ix "java/lang/String" "value" "[B" ∈ gw) (hi : i < 15) (k : V M d Q q ls (aR 11 i :: rest) h L) : V M d Q pc ls (aR 10 i :: rest) h L := by
  subst hp
  intro ω p l e R s m args below meth c H locs a C hP hS hl
  exact vk_getf C.1 C.2.1 (C.2.2.2.2.2.2.2.1.2.2.2.2.2.2.1.1 i hi).2.2.1 hS C.2.2.2.2.2.1 (C.2.2.2.2.2.2.1 _ hf) (fun _ z => z) hdg (k ω p l e R s m args below meth c H locs a C hP hS hl)
theorem v_strC {ix i : Nat} (q : Nat) (hdg : decode M.2.1 pc = .ok (.getfield ix, 3)) (hp : pc + 3 = q) (hf : Cond.fieldLink M.1.cls ix "java/lang/String" "coder" "B" ∈ gw) (hi : i < 15) (k : V M d Q q ls (aI 0 :: rest) h L) : V M d Q pc ls (aR 10 i :: rest) h L := by
  subst hp
  intro ω p l e R s m args below meth c H locs a C hP hS hl
  exact vk_getf C.1 C.2.1 (C.2.2.2.2.2.2.2.1.2.2.2.2.2.2.1.1 i hi).2.1 hS C.2.2.2.2.2.1 (C.2.2.2.2.2.2.1 _ hf) (fun _ z => z) hdg (k ω p l e R s m args below meth c H locs a C hP hS hl)
theorem v_blen {i : Nat} (q : Nat) (hdg : decode M.2.1 pc = .ok (.arraylength, 1)) (hp : pc + 1 = q) (hi : i < 15) (k : V M d Q q ls (aI (nI (lenS.getD i 0)) :: rest) h L) : V M d Q pc ls (aR 11 i :: rest) h L := by
  subst hp
  intro ω p l e R s m args below meth c H locs a C hP hS hl
  obtain ⟨cell, h1, h2, h3, h4, h5, h6, h7⟩ := (C.2.2.2.2.2.2.2.1.2.2.2.2.2.2.1.1 i hi).2.2.2.kept hS.2.1
  exact W.alen (n := nI (lenS.getD i 0)) C.1 C.2.1 h1 h2 h5 rfl rfl hdg (k ω p l e R s m args below meth c H locs a C hP hS hl)
theorem v_bald {i j : Nat} {ii : Int32} (q : Nat) (hdg : decode M.2.1 pc = .ok (.baload, 1)) (hp : pc + 1 = q) (hi : i < 15) (hj : ii = nI j) (hjl : j < lenS.getD i 0) (hj2 : j < 2 ^ 31) (k : V M d Q q ls (aI ((bytS.getD i []).getD j 0) :: rest) h L) : V M d Q pc ls (aI ii :: aR 11 i :: rest) h L := by
  subst hp
  subst hj
  intro ω p l e R s m args below meth c H locs a C hP hS hl
  obtain ⟨cell, h1, h2, h3, h4, h5, h6, h7⟩ := (C.2.2.2.2.2.2.2.1.2.2.2.2.2.2.1.1 i hi).2.2.2.kept hS.2.1
  refine W.bald (v := .int ((bytS.getD i []).getD j 0)) C.1 C.2.1 h1 h2 h3 ?_ ?_ rfl rfl hdg (k ω p l e R s m args below meth c H locs a C hP hS hl)
  · rw [nI_clamp hj2]
    intro z
    rcases z with z | z
    · exact nI_pos hj2 z
    · exact absurd (Nat.le_trans h4 z) (by omega)
  · rw [nI_clamp hj2]
    exact h6 j hjl
theorem v_cmpS {ix : Nat} (q : Nat) (hdg : decode M.2.1 pc = .ok (.getstatic ix, 3)) (hp : pc + 3 = q) (hf : Cond.fieldLink M.1.cls ix "java/lang/String" "COMPACT_STRINGS" "Z" ∈ gw) (k : V M d Q q ls (aI 1 :: rest) h L) : V M d Q pc ls rest h L := by
  subst hp
  intro ω p l e R s m args below meth c H locs a C hP hS hl
  exact va_gets C.1 C.2.1 C.2.2.2.2.2.2.2.1.2.2.2.2.2.2.2.1 hS C.2.2.2.2.2.1 (C.2.2.2.2.2.2.1 _ hf) (fun _ z => z) hdg (k ω p l e R s m args below meth c H locs a C hP hS hl)
theorem v_siob {ix : Nat} (q : Nat) (hdg : decode M.2.1 pc = .ok (.getstatic ix, 3)) (hp : pc + 3 = q) (hf : Cond.fieldLink M.1.cls ix "jdk/internal/util/Preconditions" "SIOOBE_FORMATTER" "Ljava/util/function/BiFunction;" ∈ gw) (k : ∀ v : Value, v.category = 1 → V M d Q q ls (aV v :: rest) h L) : V M d Q pc ls rest h L := by
  subst hp
  intro ω p l e R s m args below meth c H locs a C hP hS hl
  rcases C.2.2.2.2.2.2.2.1.2.2.2.2.2.2.2.2 with z | ⟨t, z⟩
  · exact va_gets C.1 C.2.1 z hS C.2.2.2.2.2.1 (C.2.2.2.2.2.2.1 _ hf) (fun _ z => z) hdg (k .null rfl ω p l e R s m args below meth c H locs a C hP hS hl)
  · exact va_gets C.1 C.2.1 z hS C.2.2.2.2.2.1 (C.2.2.2.2.2.2.1 _ hf) (fun _ z => z) hdg (k (.ref t) rfl ω p l e R s m args below meth c H locs a C hP hS hl)
end VCalls
end
