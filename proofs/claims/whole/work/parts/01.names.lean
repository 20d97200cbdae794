-- ===== PART A: goes FIRST, ahead of the names: the tables' words, and 'selects' of the private methods out of them =====
/-- a private method of a class that the tables say can be made, by its rows of tables_1 -/
def lw_okq (q : MethodName × Nat) : Prop := (q.1.cls ≠ "java/lang/invoke/MethodHandle" ∧ q.1.cls ≠ "java/lang/invoke/VarHandle") ∧ Cond.instantiable q.1.cls q.2 ∈ tables_1 ∧ Cond.privateMethod q.1 ∈ tables_1 ∧ Cond.instanceMethod q.1 ∈ tables_1
theorem lw_p0 : lw_okq (⟨"MincedCases$Text", "clear", "()V"⟩, 9) := ⟨⟨by decide +kernel, by decide +kernel⟩, List.mem_of_getElem? (i := 47) (by decide +kernel), List.mem_of_getElem? (i := 80) (by decide +kernel), List.mem_of_getElem? (i := 81) (by decide +kernel)⟩
theorem lw_p1 : lw_okq (⟨"MincedCases$Laws", "addCell", "(I)V"⟩, 6) := ⟨⟨by decide +kernel, by decide +kernel⟩, List.mem_of_getElem? (i := 53) (by decide +kernel), List.mem_of_getElem? (i := 96) (by decide +kernel), List.mem_of_getElem? (i := 97) (by decide +kernel)⟩
theorem lw_p2 : lw_okq (⟨"MincedCases$Tokens", "cutOne", "()V"⟩, 6) := ⟨⟨by decide +kernel, by decide +kernel⟩, List.mem_of_getElem? (i := 161) (by decide +kernel), List.mem_of_getElem? (i := 449) (by decide +kernel), List.mem_of_getElem? (i := 450) (by decide +kernel)⟩
theorem lw_p3 : lw_okq (⟨"MincedCases$Tokens", "keep", "(IIJ)V"⟩, 6) := ⟨⟨by decide +kernel, by decide +kernel⟩, List.mem_of_getElem? (i := 161) (by decide +kernel), List.mem_of_getElem? (i := 460) (by decide +kernel), List.mem_of_getElem? (i := 461) (by decide +kernel)⟩
theorem lw_p4 : lw_okq (⟨"MincedCases$Tokens", "cutWord", "(I)V"⟩, 6) := ⟨⟨by decide +kernel, by decide +kernel⟩, List.mem_of_getElem? (i := 161) (by decide +kernel), List.mem_of_getElem? (i := 467) (by decide +kernel), List.mem_of_getElem? (i := 468) (by decide +kernel)⟩
theorem lw_p5 : lw_okq (⟨"MincedCases$Tokens", "wordNumber", "(I)I"⟩, 6) := ⟨⟨by decide +kernel, by decide +kernel⟩, List.mem_of_getElem? (i := 161) (by decide +kernel), List.mem_of_getElem? (i := 472) (by decide +kernel), List.mem_of_getElem? (i := 473) (by decide +kernel)⟩
theorem lw_p6 : lw_okq (⟨"MincedCases$Tokens", "isWord", "(II)Z"⟩, 6) := ⟨⟨by decide +kernel, by decide +kernel⟩, List.mem_of_getElem? (i := 161) (by decide +kernel), List.mem_of_getElem? (i := 487) (by decide +kernel), List.mem_of_getElem? (i := 488) (by decide +kernel)⟩
theorem lw_p7 : lw_okq (⟨"MincedCases$Tokens", "cutInt", "(I)V"⟩, 6) := ⟨⟨by decide +kernel, by decide +kernel⟩, List.mem_of_getElem? (i := 161) (by decide +kernel), List.mem_of_getElem? (i := 532) (by decide +kernel), List.mem_of_getElem? (i := 533) (by decide +kernel)⟩
theorem lw_p8 : lw_okq (⟨"MincedCases$Reader", "readTell", "()V"⟩, 8) := ⟨⟨by decide +kernel, by decide +kernel⟩, List.mem_of_getElem? (i := 155) (by decide +kernel), List.mem_of_getElem? (i := 601) (by decide +kernel), List.mem_of_getElem? (i := 602) (by decide +kernel)⟩
theorem lw_p9 : lw_okq (⟨"MincedCases$Reader", "readLaw", "(I)V"⟩, 8) := ⟨⟨by decide +kernel, by decide +kernel⟩, List.mem_of_getElem? (i := 155) (by decide +kernel), List.mem_of_getElem? (i := 605) (by decide +kernel), List.mem_of_getElem? (i := 606) (by decide +kernel)⟩
theorem lw_p10 : lw_okq (⟨"MincedCases$Reader", "take", "()V"⟩, 8) := ⟨⟨by decide +kernel, by decide +kernel⟩, List.mem_of_getElem? (i := 155) (by decide +kernel), List.mem_of_getElem? (i := 609) (by decide +kernel), List.mem_of_getElem? (i := 610) (by decide +kernel)⟩
theorem lw_p11 : lw_okq (⟨"MincedCases$Reader", "expect", "(I)V"⟩, 8) := ⟨⟨by decide +kernel, by decide +kernel⟩, List.mem_of_getElem? (i := 155) (by decide +kernel), List.mem_of_getElem? (i := 613) (by decide +kernel), List.mem_of_getElem? (i := 614) (by decide +kernel)⟩
theorem lw_p12 : lw_okq (⟨"MincedCases$Reader", "fail", "(I)V"⟩, 8) := ⟨⟨by decide +kernel, by decide +kernel⟩, List.mem_of_getElem? (i := 155) (by decide +kernel), List.mem_of_getElem? (i := 617) (by decide +kernel), List.mem_of_getElem? (i := 618) (by decide +kernel)⟩
theorem lw_p13 : lw_okq (⟨"MincedCases$Reader", "readSum", "(I)V"⟩, 8) := ⟨⟨by decide +kernel, by decide +kernel⟩, List.mem_of_getElem? (i := 155) (by decide +kernel), List.mem_of_getElem? (i := 622) (by decide +kernel), List.mem_of_getElem? (i := 623) (by decide +kernel)⟩
theorem lw_p14 : lw_okq (⟨"MincedCases$Reader", "readUnit", "(I)V"⟩, 8) := ⟨⟨by decide +kernel, by decide +kernel⟩, List.mem_of_getElem? (i := 155) (by decide +kernel), List.mem_of_getElem? (i := 626) (by decide +kernel), List.mem_of_getElem? (i := 627) (by decide +kernel)⟩
theorem lw_p15 : lw_okq (⟨"MincedCases$Reader", "readPerson", "()V"⟩, 8) := ⟨⟨by decide +kernel, by decide +kernel⟩, List.mem_of_getElem? (i := 155) (by decide +kernel), List.mem_of_getElem? (i := 641) (by decide +kernel), List.mem_of_getElem? (i := 642) (by decide +kernel)⟩
def lw_privs_1 : List (MethodName × Nat) := [(⟨"MincedCases$Text", "clear", "()V"⟩, 9), (⟨"MincedCases$Laws", "addCell", "(I)V"⟩, 6), (⟨"MincedCases$Tokens", "cutOne", "()V"⟩, 6), (⟨"MincedCases$Tokens", "keep", "(IIJ)V"⟩, 6), (⟨"MincedCases$Tokens", "cutWord", "(I)V"⟩, 6), (⟨"MincedCases$Tokens", "wordNumber", "(I)I"⟩, 6), (⟨"MincedCases$Tokens", "isWord", "(II)Z"⟩, 6), (⟨"MincedCases$Tokens", "cutInt", "(I)V"⟩, 6), (⟨"MincedCases$Reader", "readTell", "()V"⟩, 8), (⟨"MincedCases$Reader", "readLaw", "(I)V"⟩, 8), (⟨"MincedCases$Reader", "take", "()V"⟩, 8), (⟨"MincedCases$Reader", "expect", "(I)V"⟩, 8), (⟨"MincedCases$Reader", "fail", "(I)V"⟩, 8), (⟨"MincedCases$Reader", "readSum", "(I)V"⟩, 8), (⟨"MincedCases$Reader", "readUnit", "(I)V"⟩, 8), (⟨"MincedCases$Reader", "readPerson", "()V"⟩, 8)]
theorem lw_r1 : ∀ q ∈ lw_privs_1, lw_okq q := List.forall_mem_cons.mpr ⟨lw_p0, List.forall_mem_cons.mpr ⟨lw_p1, List.forall_mem_cons.mpr ⟨lw_p2, List.forall_mem_cons.mpr ⟨lw_p3, List.forall_mem_cons.mpr ⟨lw_p4, List.forall_mem_cons.mpr ⟨lw_p5, List.forall_mem_cons.mpr ⟨lw_p6, List.forall_mem_cons.mpr ⟨lw_p7, List.forall_mem_cons.mpr ⟨lw_p8, List.forall_mem_cons.mpr ⟨lw_p9, List.forall_mem_cons.mpr ⟨lw_p10, List.forall_mem_cons.mpr ⟨lw_p11, List.forall_mem_cons.mpr ⟨lw_p12, List.forall_mem_cons.mpr ⟨lw_p13, List.forall_mem_cons.mpr ⟨lw_p14, List.forall_mem_cons.mpr ⟨lw_p15, fun _ h => absurd h List.not_mem_nil⟩⟩⟩⟩⟩⟩⟩⟩⟩⟩⟩⟩⟩⟩⟩⟩
theorem lw_p16 : lw_okq (⟨"MincedCases$Reader", "failLater", "(I)V"⟩, 8) := ⟨⟨by decide +kernel, by decide +kernel⟩, List.mem_of_getElem? (i := 155) (by decide +kernel), List.mem_of_getElem? (i := 649) (by decide +kernel), List.mem_of_getElem? (i := 650) (by decide +kernel)⟩
theorem lw_p17 : lw_okq (⟨"MincedCases$Reader", "readInt", "(II)I"⟩, 8) := ⟨⟨by decide +kernel, by decide +kernel⟩, List.mem_of_getElem? (i := 155) (by decide +kernel), List.mem_of_getElem? (i := 653) (by decide +kernel), List.mem_of_getElem? (i := 654) (by decide +kernel)⟩
theorem lw_p18 : lw_okq (⟨"MincedCases$Reader", "readSuit", "()V"⟩, 8) := ⟨⟨by decide +kernel, by decide +kernel⟩, List.mem_of_getElem? (i := 155) (by decide +kernel), List.mem_of_getElem? (i := 657) (by decide +kernel), List.mem_of_getElem? (i := 658) (by decide +kernel)⟩
theorem lw_p19 : lw_okq (⟨"MincedCases$Reader", "readName", "(I)I"⟩, 8) := ⟨⟨by decide +kernel, by decide +kernel⟩, List.mem_of_getElem? (i := 155) (by decide +kernel), List.mem_of_getElem? (i := 661) (by decide +kernel), List.mem_of_getElem? (i := 662) (by decide +kernel)⟩
theorem lw_p20 : lw_okq (⟨"MincedCases$Reader", "checkRoomForTokens", "()V"⟩, 8) := ⟨⟨by decide +kernel, by decide +kernel⟩, List.mem_of_getElem? (i := 155) (by decide +kernel), List.mem_of_getElem? (i := 669) (by decide +kernel), List.mem_of_getElem? (i := 670) (by decide +kernel)⟩
theorem lw_p21 : lw_okq (⟨"MincedCases", "startAnew", "()V"⟩, 14) := ⟨⟨by decide +kernel, by decide +kernel⟩, List.mem_of_getElem? (i := 23) (by decide +kernel), List.mem_of_getElem? (i := 693) (by decide +kernel), List.mem_of_getElem? (i := 694) (by decide +kernel)⟩
theorem lw_p22 : lw_okq (⟨"MincedCases", "isPerson", "(I)Z"⟩, 14) := ⟨⟨by decide +kernel, by decide +kernel⟩, List.mem_of_getElem? (i := 23) (by decide +kernel), List.mem_of_getElem? (i := 730) (by decide +kernel), List.mem_of_getElem? (i := 731) (by decide +kernel)⟩
theorem lw_p23 : lw_okq (⟨"MincedCases$Mincer", "lookAt", "(LMincedCases$State;II)V"⟩, 2) := ⟨⟨by decide +kernel, by decide +kernel⟩, List.mem_of_getElem? (i := 214) (by decide +kernel), List.mem_of_getElem? (i := 754) (by decide +kernel), List.mem_of_getElem? (i := 755) (by decide +kernel)⟩
theorem lw_p24 : lw_okq (⟨"MincedCases$Laws", "partValue", "(II[I)I"⟩, 6) := ⟨⟨by decide +kernel, by decide +kernel⟩, List.mem_of_getElem? (i := 53) (by decide +kernel), List.mem_of_getElem? (i := 766) (by decide +kernel), List.mem_of_getElem? (i := 767) (by decide +kernel)⟩
theorem lw_p25 : lw_okq (⟨"MincedCases", "areTwo", "(II)Z"⟩, 14) := ⟨⟨by decide +kernel, by decide +kernel⟩, List.mem_of_getElem? (i := 23) (by decide +kernel), List.mem_of_getElem? (i := 791) (by decide +kernel), List.mem_of_getElem? (i := 792) (by decide +kernel)⟩
theorem lw_p26 : lw_okq (⟨"MincedCases$Mincer", "stayingOf", "(LMincedCases$State;III)I"⟩, 2) := ⟨⟨by decide +kernel, by decide +kernel⟩, List.mem_of_getElem? (i := 214) (by decide +kernel), List.mem_of_getElem? (i := 799) (by decide +kernel), List.mem_of_getElem? (i := 800) (by decide +kernel)⟩
theorem lw_p27 : lw_okq (⟨"MincedCases$Mincer", "lookAtTurn", "(LMincedCases$State;II)V"⟩, 2) := ⟨⟨by decide +kernel, by decide +kernel⟩, List.mem_of_getElem? (i := 214) (by decide +kernel), List.mem_of_getElem? (i := 821) (by decide +kernel), List.mem_of_getElem? (i := 822) (by decide +kernel)⟩
theorem lw_p28 : lw_okq (⟨"MincedCases$Mincer", "wearOf", "(I)I"⟩, 2) := ⟨⟨by decide +kernel, by decide +kernel⟩, List.mem_of_getElem? (i := 214) (by decide +kernel), List.mem_of_getElem? (i := 830) (by decide +kernel), List.mem_of_getElem? (i := 831) (by decide +kernel)⟩
theorem lw_p29 : lw_okq (⟨"MincedCases", "heldSlots", "()I"⟩, 14) := ⟨⟨by decide +kernel, by decide +kernel⟩, List.mem_of_getElem? (i := 23) (by decide +kernel), List.mem_of_getElem? (i := 839) (by decide +kernel), List.mem_of_getElem? (i := 840) (by decide +kernel)⟩
theorem lw_p30 : lw_okq (⟨"MincedCases", "ofAllPeople", "()I"⟩, 14) := ⟨⟨by decide +kernel, by decide +kernel⟩, List.mem_of_getElem? (i := 23) (by decide +kernel), List.mem_of_getElem? (i := 854) (by decide +kernel), List.mem_of_getElem? (i := 855) (by decide +kernel)⟩
theorem lw_p31 : lw_okq (⟨"MincedCases", "stuffsInScrew", "()I"⟩, 14) := ⟨⟨by decide +kernel, by decide +kernel⟩, List.mem_of_getElem? (i := 23) (by decide +kernel), List.mem_of_getElem? (i := 863) (by decide +kernel), List.mem_of_getElem? (i := 864) (by decide +kernel)⟩
def lw_privs_2 : List (MethodName × Nat) := [(⟨"MincedCases$Reader", "failLater", "(I)V"⟩, 8), (⟨"MincedCases$Reader", "readInt", "(II)I"⟩, 8), (⟨"MincedCases$Reader", "readSuit", "()V"⟩, 8), (⟨"MincedCases$Reader", "readName", "(I)I"⟩, 8), (⟨"MincedCases$Reader", "checkRoomForTokens", "()V"⟩, 8), (⟨"MincedCases", "startAnew", "()V"⟩, 14), (⟨"MincedCases", "isPerson", "(I)Z"⟩, 14), (⟨"MincedCases$Mincer", "lookAt", "(LMincedCases$State;II)V"⟩, 2), (⟨"MincedCases$Laws", "partValue", "(II[I)I"⟩, 6), (⟨"MincedCases", "areTwo", "(II)Z"⟩, 14), (⟨"MincedCases$Mincer", "stayingOf", "(LMincedCases$State;III)I"⟩, 2), (⟨"MincedCases$Mincer", "lookAtTurn", "(LMincedCases$State;II)V"⟩, 2), (⟨"MincedCases$Mincer", "wearOf", "(I)I"⟩, 2), (⟨"MincedCases", "heldSlots", "()I"⟩, 14), (⟨"MincedCases", "ofAllPeople", "()I"⟩, 14), (⟨"MincedCases", "stuffsInScrew", "()I"⟩, 14)]
theorem lw_r2 : ∀ q ∈ lw_privs_2, lw_okq q := List.forall_mem_cons.mpr ⟨lw_p16, List.forall_mem_cons.mpr ⟨lw_p17, List.forall_mem_cons.mpr ⟨lw_p18, List.forall_mem_cons.mpr ⟨lw_p19, List.forall_mem_cons.mpr ⟨lw_p20, List.forall_mem_cons.mpr ⟨lw_p21, List.forall_mem_cons.mpr ⟨lw_p22, List.forall_mem_cons.mpr ⟨lw_p23, List.forall_mem_cons.mpr ⟨lw_p24, List.forall_mem_cons.mpr ⟨lw_p25, List.forall_mem_cons.mpr ⟨lw_p26, List.forall_mem_cons.mpr ⟨lw_p27, List.forall_mem_cons.mpr ⟨lw_p28, List.forall_mem_cons.mpr ⟨lw_p29, List.forall_mem_cons.mpr ⟨lw_p30, List.forall_mem_cons.mpr ⟨lw_p31, fun _ h => absurd h List.not_mem_nil⟩⟩⟩⟩⟩⟩⟩⟩⟩⟩⟩⟩⟩⟩⟩⟩
theorem lw_p32 : lw_okq (⟨"MincedCases", "suitsDue", "()I"⟩, 14) := ⟨⟨by decide +kernel, by decide +kernel⟩, List.mem_of_getElem? (i := 23) (by decide +kernel), List.mem_of_getElem? (i := 867) (by decide +kernel), List.mem_of_getElem? (i := 868) (by decide +kernel)⟩
theorem lw_p33 : lw_okq (⟨"MincedCases", "rememberNow", "()V"⟩, 14) := ⟨⟨by decide +kernel, by decide +kernel⟩, List.mem_of_getElem? (i := 23) (by decide +kernel), List.mem_of_getElem? (i := 875) (by decide +kernel), List.mem_of_getElem? (i := 876) (by decide +kernel)⟩
theorem lw_p34 : lw_okq (⟨"MincedCases$Rows", "reaches", "(II)Z"⟩, 10) := ⟨⟨by decide +kernel, by decide +kernel⟩, List.mem_of_getElem? (i := 292) (by decide +kernel), List.mem_of_getElem? (i := 964) (by decide +kernel), List.mem_of_getElem? (i := 965) (by decide +kernel)⟩
theorem lw_p35 : lw_okq (⟨"MincedCases$Rows", "isSo", "(LMincedCases$State;)Z"⟩, 10) := ⟨⟨by decide +kernel, by decide +kernel⟩, List.mem_of_getElem? (i := 292) (by decide +kernel), List.mem_of_getElem? (i := 968) (by decide +kernel), List.mem_of_getElem? (i := 969) (by decide +kernel)⟩
theorem lw_p36 : lw_okq (⟨"MincedCases$Rows", "canMakeSo", "(II)Z"⟩, 10) := ⟨⟨by decide +kernel, by decide +kernel⟩, List.mem_of_getElem? (i := 292) (by decide +kernel), List.mem_of_getElem? (i := 978) (by decide +kernel), List.mem_of_getElem? (i := 979) (by decide +kernel)⟩
theorem lw_p37 : lw_okq (⟨"MincedCases", "quarrelsBehind", "(II)I"⟩, 14) := ⟨⟨by decide +kernel, by decide +kernel⟩, List.mem_of_getElem? (i := 23) (by decide +kernel), List.mem_of_getElem? (i := 1005) (by decide +kernel), List.mem_of_getElem? (i := 1006) (by decide +kernel)⟩
theorem lw_p38 : lw_okq (⟨"MincedCases$Foes", "everybody", "()I"⟩, 3) := ⟨⟨by decide +kernel, by decide +kernel⟩, List.mem_of_getElem? (i := 332) (by decide +kernel), List.mem_of_getElem? (i := 1052) (by decide +kernel), List.mem_of_getElem? (i := 1053) (by decide +kernel)⟩
theorem lw_p39 : lw_okq (⟨"MincedCases$Foes", "isPeaceWithout", "(I)Z"⟩, 3) := ⟨⟨by decide +kernel, by decide +kernel⟩, List.mem_of_getElem? (i := 332) (by decide +kernel), List.mem_of_getElem? (i := 1062) (by decide +kernel), List.mem_of_getElem? (i := 1063) (by decide +kernel)⟩
theorem lw_p40 : lw_okq (⟨"MincedCases$Foes", "mostPairsFrom", "(II)I"⟩, 3) := ⟨⟨by decide +kernel, by decide +kernel⟩, List.mem_of_getElem? (i := 332) (by decide +kernel), List.mem_of_getElem? (i := 1078) (by decide +kernel), List.mem_of_getElem? (i := 1079) (by decide +kernel)⟩
theorem lw_p41 : lw_okq (⟨"MincedCases$Foes", "firstPartner", "(II)I"⟩, 3) := ⟨⟨by decide +kernel, by decide +kernel⟩, List.mem_of_getElem? (i := 332) (by decide +kernel), List.mem_of_getElem? (i := 1087) (by decide +kernel), List.mem_of_getElem? (i := 1088) (by decide +kernel)⟩
theorem lw_p42 : lw_okq (⟨"MincedCases", "lookAhead", "(II)V"⟩, 14) := ⟨⟨by decide +kernel, by decide +kernel⟩, List.mem_of_getElem? (i := 23) (by decide +kernel), List.mem_of_getElem? (i := 1122) (by decide +kernel), List.mem_of_getElem? (i := 1123) (by decide +kernel)⟩
theorem lw_p43 : lw_okq (⟨"MincedCases$Told", "fits", "(LMincedCases$State;III)Z"⟩, 7) := ⟨⟨by decide +kernel, by decide +kernel⟩, List.mem_of_getElem? (i := 348) (by decide +kernel), List.mem_of_getElem? (i := 1158) (by decide +kernel), List.mem_of_getElem? (i := 1159) (by decide +kernel)⟩
theorem lw_p44 : lw_okq (⟨"MincedCases$Told", "amountBehind", "(LMincedCases$State;IIII)I"⟩, 7) := ⟨⟨by decide +kernel, by decide +kernel⟩, List.mem_of_getElem? (i := 348) (by decide +kernel), List.mem_of_getElem? (i := 1162) (by decide +kernel), List.mem_of_getElem? (i := 1163) (by decide +kernel)⟩
theorem lw_p45 : lw_okq (⟨"MincedCases$Told", "pairsWithSo", "(LMincedCases$State;IIII)I"⟩, 7) := ⟨⟨by decide +kernel, by decide +kernel⟩, List.mem_of_getElem? (i := 348) (by decide +kernel), List.mem_of_getElem? (i := 1180) (by decide +kernel), List.mem_of_getElem? (i := 1181) (by decide +kernel)⟩
theorem lw_p46 : lw_okq (⟨"MincedCasesModel", "plain", "(I)V"⟩, 70) := ⟨⟨by decide +kernel, by decide +kernel⟩, List.mem_of_getElem? (i := 1186) (by decide +kernel), List.mem_of_getElem? (i := 1192) (by decide +kernel), List.mem_of_getElem? (i := 1193) (by decide +kernel)⟩
theorem lw_p47 : lw_okq (⟨"MincedCasesModel", "begins", "()V"⟩, 70) := ⟨⟨by decide +kernel, by decide +kernel⟩, List.mem_of_getElem? (i := 1186) (by decide +kernel), List.mem_of_getElem? (i := 1203) (by decide +kernel), List.mem_of_getElem? (i := 1204) (by decide +kernel)⟩
def lw_privs_3 : List (MethodName × Nat) := [(⟨"MincedCases", "suitsDue", "()I"⟩, 14), (⟨"MincedCases", "rememberNow", "()V"⟩, 14), (⟨"MincedCases$Rows", "reaches", "(II)Z"⟩, 10), (⟨"MincedCases$Rows", "isSo", "(LMincedCases$State;)Z"⟩, 10), (⟨"MincedCases$Rows", "canMakeSo", "(II)Z"⟩, 10), (⟨"MincedCases", "quarrelsBehind", "(II)I"⟩, 14), (⟨"MincedCases$Foes", "everybody", "()I"⟩, 3), (⟨"MincedCases$Foes", "isPeaceWithout", "(I)Z"⟩, 3), (⟨"MincedCases$Foes", "mostPairsFrom", "(II)I"⟩, 3), (⟨"MincedCases$Foes", "firstPartner", "(II)I"⟩, 3), (⟨"MincedCases", "lookAhead", "(II)V"⟩, 14), (⟨"MincedCases$Told", "fits", "(LMincedCases$State;III)Z"⟩, 7), (⟨"MincedCases$Told", "amountBehind", "(LMincedCases$State;IIII)I"⟩, 7), (⟨"MincedCases$Told", "pairsWithSo", "(LMincedCases$State;IIII)I"⟩, 7), (⟨"MincedCasesModel", "plain", "(I)V"⟩, 70), (⟨"MincedCasesModel", "begins", "()V"⟩, 70)]
theorem lw_r3 : ∀ q ∈ lw_privs_3, lw_okq q := List.forall_mem_cons.mpr ⟨lw_p32, List.forall_mem_cons.mpr ⟨lw_p33, List.forall_mem_cons.mpr ⟨lw_p34, List.forall_mem_cons.mpr ⟨lw_p35, List.forall_mem_cons.mpr ⟨lw_p36, List.forall_mem_cons.mpr ⟨lw_p37, List.forall_mem_cons.mpr ⟨lw_p38, List.forall_mem_cons.mpr ⟨lw_p39, List.forall_mem_cons.mpr ⟨lw_p40, List.forall_mem_cons.mpr ⟨lw_p41, List.forall_mem_cons.mpr ⟨lw_p42, List.forall_mem_cons.mpr ⟨lw_p43, List.forall_mem_cons.mpr ⟨lw_p44, List.forall_mem_cons.mpr ⟨lw_p45, List.forall_mem_cons.mpr ⟨lw_p46, List.forall_mem_cons.mpr ⟨lw_p47, fun _ h => absurd h List.not_mem_nil⟩⟩⟩⟩⟩⟩⟩⟩⟩⟩⟩⟩⟩⟩⟩⟩
theorem lw_p48 : lw_okq (⟨"MincedCasesModel", "keepsRow", "()V"⟩, 70) := ⟨⟨by decide +kernel, by decide +kernel⟩, List.mem_of_getElem? (i := 1186) (by decide +kernel), List.mem_of_getElem? (i := 1207) (by decide +kernel), List.mem_of_getElem? (i := 1208) (by decide +kernel)⟩
theorem lw_p49 : lw_okq (⟨"MincedCasesModel", "lays", "(I)V"⟩, 70) := ⟨⟨by decide +kernel, by decide +kernel⟩, List.mem_of_getElem? (i := 1186) (by decide +kernel), List.mem_of_getElem? (i := 1425) (by decide +kernel), List.mem_of_getElem? (i := 1426) (by decide +kernel)⟩
theorem lw_p50 : lw_okq (⟨"MincedCasesModel", "cut", "()V"⟩, 70) := ⟨⟨by decide +kernel, by decide +kernel⟩, List.mem_of_getElem? (i := 1186) (by decide +kernel), List.mem_of_getElem? (i := 1437) (by decide +kernel), List.mem_of_getElem? (i := 1438) (by decide +kernel)⟩
theorem lw_p51 : lw_okq (⟨"MincedCasesModel", "byteAt", "(I)I"⟩, 70) := ⟨⟨by decide +kernel, by decide +kernel⟩, List.mem_of_getElem? (i := 1186) (by decide +kernel), List.mem_of_getElem? (i := 1441) (by decide +kernel), List.mem_of_getElem? (i := 1442) (by decide +kernel)⟩
theorem lw_p52 : lw_okq (⟨"MincedCasesModel", "token", "(IIIJ)V"⟩, 70) := ⟨⟨by decide +kernel, by decide +kernel⟩, List.mem_of_getElem? (i := 1186) (by decide +kernel), List.mem_of_getElem? (i := 1445) (by decide +kernel), List.mem_of_getElem? (i := 1446) (by decide +kernel)⟩
theorem lw_p53 : lw_okq (⟨"MincedCasesModel", "sign", "(III)I"⟩, 70) := ⟨⟨by decide +kernel, by decide +kernel⟩, List.mem_of_getElem? (i := 1186) (by decide +kernel), List.mem_of_getElem? (i := 1455) (by decide +kernel), List.mem_of_getElem? (i := 1456) (by decide +kernel)⟩
theorem lw_p54 : lw_okq (⟨"MincedCasesModel", "is", "(I)Z"⟩, 70) := ⟨⟨by decide +kernel, by decide +kernel⟩, List.mem_of_getElem? (i := 1186) (by decide +kernel), List.mem_of_getElem? (i := 1459) (by decide +kernel), List.mem_of_getElem? (i := 1460) (by decide +kernel)⟩
theorem lw_p55 : lw_okq (⟨"MincedCasesModel", "tellOne", "()V"⟩, 70) := ⟨⟨by decide +kernel, by decide +kernel⟩, List.mem_of_getElem? (i := 1186) (by decide +kernel), List.mem_of_getElem? (i := 1463) (by decide +kernel), List.mem_of_getElem? (i := 1464) (by decide +kernel)⟩
theorem lw_p56 : lw_okq (⟨"MincedCasesModel", "roomFor", "(II)V"⟩, 70) := ⟨⟨by decide +kernel, by decide +kernel⟩, List.mem_of_getElem? (i := 1186) (by decide +kernel), List.mem_of_getElem? (i := 1467) (by decide +kernel), List.mem_of_getElem? (i := 1468) (by decide +kernel)⟩
theorem lw_p57 : lw_okq (⟨"MincedCasesModel", "fail", "(I)V"⟩, 70) := ⟨⟨by decide +kernel, by decide +kernel⟩, List.mem_of_getElem? (i := 1186) (by decide +kernel), List.mem_of_getElem? (i := 1471) (by decide +kernel), List.mem_of_getElem? (i := 1472) (by decide +kernel)⟩
theorem lw_p58 : lw_okq (⟨"MincedCasesModel", "goesOn", "()V"⟩, 70) := ⟨⟨by decide +kernel, by decide +kernel⟩, List.mem_of_getElem? (i := 1186) (by decide +kernel), List.mem_of_getElem? (i := 1475) (by decide +kernel), List.mem_of_getElem? (i := 1476) (by decide +kernel)⟩
theorem lw_p59 : lw_okq (⟨"MincedCasesModel", "tellPerson", "()V"⟩, 70) := ⟨⟨by decide +kernel, by decide +kernel⟩, List.mem_of_getElem? (i := 1186) (by decide +kernel), List.mem_of_getElem? (i := 1479) (by decide +kernel), List.mem_of_getElem? (i := 1480) (by decide +kernel)⟩
theorem lw_p60 : lw_okq (⟨"MincedCasesModel", "must", "(I)V"⟩, 70) := ⟨⟨by decide +kernel, by decide +kernel⟩, List.mem_of_getElem? (i := 1186) (by decide +kernel), List.mem_of_getElem? (i := 1483) (by decide +kernel), List.mem_of_getElem? (i := 1484) (by decide +kernel)⟩
theorem lw_p61 : lw_okq (⟨"MincedCasesModel", "numberOf", "(I)I"⟩, 70) := ⟨⟨by decide +kernel, by decide +kernel⟩, List.mem_of_getElem? (i := 1186) (by decide +kernel), List.mem_of_getElem? (i := 1487) (by decide +kernel), List.mem_of_getElem? (i := 1488) (by decide +kernel)⟩
theorem lw_p62 : lw_okq (⟨"MincedCasesModel", "wrong", "(II)V"⟩, 70) := ⟨⟨by decide +kernel, by decide +kernel⟩, List.mem_of_getElem? (i := 1186) (by decide +kernel), List.mem_of_getElem? (i := 1491) (by decide +kernel), List.mem_of_getElem? (i := 1492) (by decide +kernel)⟩
theorem lw_p63 : lw_okq (⟨"MincedCasesModel", "bounded", "(II)I"⟩, 70) := ⟨⟨by decide +kernel, by decide +kernel⟩, List.mem_of_getElem? (i := 1186) (by decide +kernel), List.mem_of_getElem? (i := 1495) (by decide +kernel), List.mem_of_getElem? (i := 1496) (by decide +kernel)⟩
def lw_privs_4 : List (MethodName × Nat) := [(⟨"MincedCasesModel", "keepsRow", "()V"⟩, 70), (⟨"MincedCasesModel", "lays", "(I)V"⟩, 70), (⟨"MincedCasesModel", "cut", "()V"⟩, 70), (⟨"MincedCasesModel", "byteAt", "(I)I"⟩, 70), (⟨"MincedCasesModel", "token", "(IIIJ)V"⟩, 70), (⟨"MincedCasesModel", "sign", "(III)I"⟩, 70), (⟨"MincedCasesModel", "is", "(I)Z"⟩, 70), (⟨"MincedCasesModel", "tellOne", "()V"⟩, 70), (⟨"MincedCasesModel", "roomFor", "(II)V"⟩, 70), (⟨"MincedCasesModel", "fail", "(I)V"⟩, 70), (⟨"MincedCasesModel", "goesOn", "()V"⟩, 70), (⟨"MincedCasesModel", "tellPerson", "()V"⟩, 70), (⟨"MincedCasesModel", "must", "(I)V"⟩, 70), (⟨"MincedCasesModel", "numberOf", "(I)I"⟩, 70), (⟨"MincedCasesModel", "wrong", "(II)V"⟩, 70), (⟨"MincedCasesModel", "bounded", "(II)I"⟩, 70)]
theorem lw_r4 : ∀ q ∈ lw_privs_4, lw_okq q := List.forall_mem_cons.mpr ⟨lw_p48, List.forall_mem_cons.mpr ⟨lw_p49, List.forall_mem_cons.mpr ⟨lw_p50, List.forall_mem_cons.mpr ⟨lw_p51, List.forall_mem_cons.mpr ⟨lw_p52, List.forall_mem_cons.mpr ⟨lw_p53, List.forall_mem_cons.mpr ⟨lw_p54, List.forall_mem_cons.mpr ⟨lw_p55, List.forall_mem_cons.mpr ⟨lw_p56, List.forall_mem_cons.mpr ⟨lw_p57, List.forall_mem_cons.mpr ⟨lw_p58, List.forall_mem_cons.mpr ⟨lw_p59, List.forall_mem_cons.mpr ⟨lw_p60, List.forall_mem_cons.mpr ⟨lw_p61, List.forall_mem_cons.mpr ⟨lw_p62, List.forall_mem_cons.mpr ⟨lw_p63, fun _ h => absurd h List.not_mem_nil⟩⟩⟩⟩⟩⟩⟩⟩⟩⟩⟩⟩⟩⟩⟩⟩
theorem lw_p64 : lw_okq (⟨"MincedCasesModel", "tellSuit", "()V"⟩, 70) := ⟨⟨by decide +kernel, by decide +kernel⟩, List.mem_of_getElem? (i := 1186) (by decide +kernel), List.mem_of_getElem? (i := 1499) (by decide +kernel), List.mem_of_getElem? (i := 1500) (by decide +kernel)⟩
theorem lw_p65 : lw_okq (⟨"MincedCasesModel", "known", "()I"⟩, 70) := ⟨⟨by decide +kernel, by decide +kernel⟩, List.mem_of_getElem? (i := 1186) (by decide +kernel), List.mem_of_getElem? (i := 1503) (by decide +kernel), List.mem_of_getElem? (i := 1504) (by decide +kernel)⟩
theorem lw_p66 : lw_okq (⟨"MincedCasesModel", "toldInt", "(II)I"⟩, 70) := ⟨⟨by decide +kernel, by decide +kernel⟩, List.mem_of_getElem? (i := 1186) (by decide +kernel), List.mem_of_getElem? (i := 1507) (by decide +kernel), List.mem_of_getElem? (i := 1508) (by decide +kernel)⟩
theorem lw_p67 : lw_okq (⟨"MincedCasesModel", "tellLaw", "(I)V"⟩, 70) := ⟨⟨by decide +kernel, by decide +kernel⟩, List.mem_of_getElem? (i := 1186) (by decide +kernel), List.mem_of_getElem? (i := 1511) (by decide +kernel), List.mem_of_getElem? (i := 1512) (by decide +kernel)⟩
theorem lw_p68 : lw_okq (⟨"MincedCasesModel", "expression", "()V"⟩, 70) := ⟨⟨by decide +kernel, by decide +kernel⟩, List.mem_of_getElem? (i := 1186) (by decide +kernel), List.mem_of_getElem? (i := 1515) (by decide +kernel), List.mem_of_getElem? (i := 1516) (by decide +kernel)⟩
theorem lw_p69 : lw_okq (⟨"MincedCasesModel", "unit", "()V"⟩, 70) := ⟨⟨by decide +kernel, by decide +kernel⟩, List.mem_of_getElem? (i := 1186) (by decide +kernel), List.mem_of_getElem? (i := 1519) (by decide +kernel), List.mem_of_getElem? (i := 1520) (by decide +kernel)⟩
theorem lw_p70 : lw_okq (⟨"MincedCasesModel", "emit", "(II)V"⟩, 70) := ⟨⟨by decide +kernel, by decide +kernel⟩, List.mem_of_getElem? (i := 1186) (by decide +kernel), List.mem_of_getElem? (i := 1523) (by decide +kernel), List.mem_of_getElem? (i := 1524) (by decide +kernel)⟩
theorem lw_p71 : lw_okq (⟨"MincedCasesModel", "comesOut", "(Z)V"⟩, 70) := ⟨⟨by decide +kernel, by decide +kernel⟩, List.mem_of_getElem? (i := 1186) (by decide +kernel), List.mem_of_getElem? (i := 1527) (by decide +kernel), List.mem_of_getElem? (i := 1528) (by decide +kernel)⟩
theorem lw_p72 : lw_okq (⟨"MincedCasesModel", "term", "()V"⟩, 70) := ⟨⟨by decide +kernel, by decide +kernel⟩, List.mem_of_getElem? (i := 1186) (by decide +kernel), List.mem_of_getElem? (i := 1531) (by decide +kernel), List.mem_of_getElem? (i := 1532) (by decide +kernel)⟩
theorem lw_p73 : lw_okq (⟨"MincedCasesModel", "isPerson", "(I)Z"⟩, 70) := ⟨⟨by decide +kernel, by decide +kernel⟩, List.mem_of_getElem? (i := 1186) (by decide +kernel), List.mem_of_getElem? (i := 1543) (by decide +kernel), List.mem_of_getElem? (i := 1544) (by decide +kernel)⟩
theorem lw_p74 : lw_okq (⟨"MincedCasesModel", "copies", "()V"⟩, 70) := ⟨⟨by decide +kernel, by decide +kernel⟩, List.mem_of_getElem? (i := 1186) (by decide +kernel), List.mem_of_getElem? (i := 1550) (by decide +kernel), List.mem_of_getElem? (i := 1551) (by decide +kernel)⟩
theorem lw_p75 : lw_okq (⟨"MincedCasesModel", "fourFrom", "(I)I"⟩, 70) := ⟨⟨by decide +kernel, by decide +kernel⟩, List.mem_of_getElem? (i := 1186) (by decide +kernel), List.mem_of_getElem? (i := 1554) (by decide +kernel), List.mem_of_getElem? (i := 1555) (by decide +kernel)⟩
theorem lw_p76 : lw_okq (⟨"MincedCasesModel", "foesOf", "(I)I"⟩, 70) := ⟨⟨by decide +kernel, by decide +kernel⟩, List.mem_of_getElem? (i := 1186) (by decide +kernel), List.mem_of_getElem? (i := 1558) (by decide +kernel), List.mem_of_getElem? (i := 1559) (by decide +kernel)⟩
theorem lw_p77 : lw_okq (⟨"MincedCasesModel", "doQuarrel", "(II)Z"⟩, 70) := ⟨⟨by decide +kernel, by decide +kernel⟩, List.mem_of_getElem? (i := 1186) (by decide +kernel), List.mem_of_getElem? (i := 1562) (by decide +kernel), List.mem_of_getElem? (i := 1563) (by decide +kernel)⟩
theorem lw_p78 : lw_okq (⟨"MincedCasesModel", "looksBoth", "(II)V"⟩, 70) := ⟨⟨by decide +kernel, by decide +kernel⟩, List.mem_of_getElem? (i := 1186) (by decide +kernel), List.mem_of_getElem? (i := 1566) (by decide +kernel), List.mem_of_getElem? (i := 1567) (by decide +kernel)⟩
theorem lw_p79 : lw_okq (⟨"MincedCasesModel", "looks", "(II)V"⟩, 70) := ⟨⟨by decide +kernel, by decide +kernel⟩, List.mem_of_getElem? (i := 1186) (by decide +kernel), List.mem_of_getElem? (i := 1570) (by decide +kernel), List.mem_of_getElem? (i := 1571) (by decide +kernel)⟩
def lw_privs_5 : List (MethodName × Nat) := [(⟨"MincedCasesModel", "tellSuit", "()V"⟩, 70), (⟨"MincedCasesModel", "known", "()I"⟩, 70), (⟨"MincedCasesModel", "toldInt", "(II)I"⟩, 70), (⟨"MincedCasesModel", "tellLaw", "(I)V"⟩, 70), (⟨"MincedCasesModel", "expression", "()V"⟩, 70), (⟨"MincedCasesModel", "unit", "()V"⟩, 70), (⟨"MincedCasesModel", "emit", "(II)V"⟩, 70), (⟨"MincedCasesModel", "comesOut", "(Z)V"⟩, 70), (⟨"MincedCasesModel", "term", "()V"⟩, 70), (⟨"MincedCasesModel", "isPerson", "(I)Z"⟩, 70), (⟨"MincedCasesModel", "copies", "()V"⟩, 70), (⟨"MincedCasesModel", "fourFrom", "(I)I"⟩, 70), (⟨"MincedCasesModel", "foesOf", "(I)I"⟩, 70), (⟨"MincedCasesModel", "doQuarrel", "(II)Z"⟩, 70), (⟨"MincedCasesModel", "looksBoth", "(II)V"⟩, 70), (⟨"MincedCasesModel", "looks", "(II)V"⟩, 70)]
theorem lw_r5 : ∀ q ∈ lw_privs_5, lw_okq q := List.forall_mem_cons.mpr ⟨lw_p64, List.forall_mem_cons.mpr ⟨lw_p65, List.forall_mem_cons.mpr ⟨lw_p66, List.forall_mem_cons.mpr ⟨lw_p67, List.forall_mem_cons.mpr ⟨lw_p68, List.forall_mem_cons.mpr ⟨lw_p69, List.forall_mem_cons.mpr ⟨lw_p70, List.forall_mem_cons.mpr ⟨lw_p71, List.forall_mem_cons.mpr ⟨lw_p72, List.forall_mem_cons.mpr ⟨lw_p73, List.forall_mem_cons.mpr ⟨lw_p74, List.forall_mem_cons.mpr ⟨lw_p75, List.forall_mem_cons.mpr ⟨lw_p76, List.forall_mem_cons.mpr ⟨lw_p77, List.forall_mem_cons.mpr ⟨lw_p78, List.forall_mem_cons.mpr ⟨lw_p79, fun _ h => absurd h List.not_mem_nil⟩⟩⟩⟩⟩⟩⟩⟩⟩⟩⟩⟩⟩⟩⟩⟩
theorem lw_p80 : lw_okq (⟨"MincedCasesModel", "apartOf", "(II)I"⟩, 70) := ⟨⟨by decide +kernel, by decide +kernel⟩, List.mem_of_getElem? (i := 1186) (by decide +kernel), List.mem_of_getElem? (i := 1574) (by decide +kernel), List.mem_of_getElem? (i := 1575) (by decide +kernel)⟩
theorem lw_p81 : lw_okq (⟨"MincedCasesModel", "lawTells", "(II)I"⟩, 70) := ⟨⟨by decide +kernel, by decide +kernel⟩, List.mem_of_getElem? (i := 1186) (by decide +kernel), List.mem_of_getElem? (i := 1581) (by decide +kernel), List.mem_of_getElem? (i := 1582) (by decide +kernel)⟩
theorem lw_p82 : lw_okq (⟨"MincedCasesModel", "termOf", "(II)I"⟩, 70) := ⟨⟨by decide +kernel, by decide +kernel⟩, List.mem_of_getElem? (i := 1186) (by decide +kernel), List.mem_of_getElem? (i := 1585) (by decide +kernel), List.mem_of_getElem? (i := 1586) (by decide +kernel)⟩
theorem lw_p83 : lw_okq (⟨"MincedCasesModel", "isDue", "(II)Z"⟩, 70) := ⟨⟨by decide +kernel, by decide +kernel⟩, List.mem_of_getElem? (i := 1186) (by decide +kernel), List.mem_of_getElem? (i := 1600) (by decide +kernel), List.mem_of_getElem? (i := 1601) (by decide +kernel)⟩
theorem lw_p84 : lw_okq (⟨"MincedCasesModel", "areTwo", "(II)Z"⟩, 70) := ⟨⟨by decide +kernel, by decide +kernel⟩, List.mem_of_getElem? (i := 1186) (by decide +kernel), List.mem_of_getElem? (i := 1608) (by decide +kernel), List.mem_of_getElem? (i := 1609) (by decide +kernel)⟩
theorem lw_p85 : lw_okq (⟨"MincedCasesModel", "turnTells", "(IIII)I"⟩, 70) := ⟨⟨by decide +kernel, by decide +kernel⟩, List.mem_of_getElem? (i := 1186) (by decide +kernel), List.mem_of_getElem? (i := 1612) (by decide +kernel), List.mem_of_getElem? (i := 1613) (by decide +kernel)⟩
theorem lw_p86 : lw_okq (⟨"MincedCasesModel", "staysOf", "(III)I"⟩, 70) := ⟨⟨by decide +kernel, by decide +kernel⟩, List.mem_of_getElem? (i := 1186) (by decide +kernel), List.mem_of_getElem? (i := 1619) (by decide +kernel), List.mem_of_getElem? (i := 1620) (by decide +kernel)⟩
theorem lw_p87 : lw_okq (⟨"MincedCasesModel", "allOf", "(III)I"⟩, 70) := ⟨⟨by decide +kernel, by decide +kernel⟩, List.mem_of_getElem? (i := 1186) (by decide +kernel), List.mem_of_getElem? (i := 1623) (by decide +kernel), List.mem_of_getElem? (i := 1624) (by decide +kernel)⟩
theorem lw_p88 : lw_okq (⟨"MincedCasesModel", "turnsBoth", "(II)V"⟩, 70) := ⟨⟨by decide +kernel, by decide +kernel⟩, List.mem_of_getElem? (i := 1186) (by decide +kernel), List.mem_of_getElem? (i := 1631) (by decide +kernel), List.mem_of_getElem? (i := 1632) (by decide +kernel)⟩
theorem lw_p89 : lw_okq (⟨"MincedCasesModel", "records", "()V"⟩, 70) := ⟨⟨by decide +kernel, by decide +kernel⟩, List.mem_of_getElem? (i := 1186) (by decide +kernel), List.mem_of_getElem? (i := 1635) (by decide +kernel), List.mem_of_getElem? (i := 1636) (by decide +kernel)⟩
theorem lw_p90 : lw_okq (⟨"MincedCasesModel", "goes", "(I)V"⟩, 70) := ⟨⟨by decide +kernel, by decide +kernel⟩, List.mem_of_getElem? (i := 1186) (by decide +kernel), List.mem_of_getElem? (i := 1658) (by decide +kernel), List.mem_of_getElem? (i := 1659) (by decide +kernel)⟩
theorem lw_p91 : lw_okq (⟨"MincedCasesModel", "dayGoes", "()V"⟩, 70) := ⟨⟨by decide +kernel, by decide +kernel⟩, List.mem_of_getElem? (i := 1186) (by decide +kernel), List.mem_of_getElem? (i := 1662) (by decide +kernel), List.mem_of_getElem? (i := 1663) (by decide +kernel)⟩
theorem lw_p92 : lw_okq (⟨"MincedCasesModel", "isThumb", "()Z"⟩, 70) := ⟨⟨by decide +kernel, by decide +kernel⟩, List.mem_of_getElem? (i := 1186) (by decide +kernel), List.mem_of_getElem? (i := 1666) (by decide +kernel), List.mem_of_getElem? (i := 1667) (by decide +kernel)⟩
theorem lw_p93 : lw_okq (⟨"MincedCasesModel", "lotOf", "(II)I"⟩, 70) := ⟨⟨by decide +kernel, by decide +kernel⟩, List.mem_of_getElem? (i := 1186) (by decide +kernel), List.mem_of_getElem? (i := 1670) (by decide +kernel), List.mem_of_getElem? (i := 1671) (by decide +kernel)⟩
theorem lw_p94 : lw_okq (⟨"MincedCasesModel", "rowTo", "(I)I"⟩, 70) := ⟨⟨by decide +kernel, by decide +kernel⟩, List.mem_of_getElem? (i := 1186) (by decide +kernel), List.mem_of_getElem? (i := 1686) (by decide +kernel), List.mem_of_getElem? (i := 1687) (by decide +kernel)⟩
theorem lw_p95 : lw_okq (⟨"MincedCasesModel", "fillsPairs", "()V"⟩, 70) := ⟨⟨by decide +kernel, by decide +kernel⟩, List.mem_of_getElem? (i := 1186) (by decide +kernel), List.mem_of_getElem? (i := 1690) (by decide +kernel), List.mem_of_getElem? (i := 1691) (by decide +kernel)⟩
def lw_privs_6 : List (MethodName × Nat) := [(⟨"MincedCasesModel", "apartOf", "(II)I"⟩, 70), (⟨"MincedCasesModel", "lawTells", "(II)I"⟩, 70), (⟨"MincedCasesModel", "termOf", "(II)I"⟩, 70), (⟨"MincedCasesModel", "isDue", "(II)Z"⟩, 70), (⟨"MincedCasesModel", "areTwo", "(II)Z"⟩, 70), (⟨"MincedCasesModel", "turnTells", "(IIII)I"⟩, 70), (⟨"MincedCasesModel", "staysOf", "(III)I"⟩, 70), (⟨"MincedCasesModel", "allOf", "(III)I"⟩, 70), (⟨"MincedCasesModel", "turnsBoth", "(II)V"⟩, 70), (⟨"MincedCasesModel", "records", "()V"⟩, 70), (⟨"MincedCasesModel", "goes", "(I)V"⟩, 70), (⟨"MincedCasesModel", "dayGoes", "()V"⟩, 70), (⟨"MincedCasesModel", "isThumb", "()Z"⟩, 70), (⟨"MincedCasesModel", "lotOf", "(II)I"⟩, 70), (⟨"MincedCasesModel", "rowTo", "(I)I"⟩, 70), (⟨"MincedCasesModel", "fillsPairs", "()V"⟩, 70)]
theorem lw_r6 : ∀ q ∈ lw_privs_6, lw_okq q := List.forall_mem_cons.mpr ⟨lw_p80, List.forall_mem_cons.mpr ⟨lw_p81, List.forall_mem_cons.mpr ⟨lw_p82, List.forall_mem_cons.mpr ⟨lw_p83, List.forall_mem_cons.mpr ⟨lw_p84, List.forall_mem_cons.mpr ⟨lw_p85, List.forall_mem_cons.mpr ⟨lw_p86, List.forall_mem_cons.mpr ⟨lw_p87, List.forall_mem_cons.mpr ⟨lw_p88, List.forall_mem_cons.mpr ⟨lw_p89, List.forall_mem_cons.mpr ⟨lw_p90, List.forall_mem_cons.mpr ⟨lw_p91, List.forall_mem_cons.mpr ⟨lw_p92, List.forall_mem_cons.mpr ⟨lw_p93, List.forall_mem_cons.mpr ⟨lw_p94, List.forall_mem_cons.mpr ⟨lw_p95, fun _ h => absurd h List.not_mem_nil⟩⟩⟩⟩⟩⟩⟩⟩⟩⟩⟩⟩⟩⟩⟩⟩
theorem lw_p96 : lw_okq (⟨"MincedCasesModel", "doesWay", "(II)Z"⟩, 70) := ⟨⟨by decide +kernel, by decide +kernel⟩, List.mem_of_getElem? (i := 1186) (by decide +kernel), List.mem_of_getElem? (i := 1697) (by decide +kernel), List.mem_of_getElem? (i := 1698) (by decide +kernel)⟩
theorem lw_p97 : lw_okq (⟨"MincedCasesModel", "pairAt", "(III)I"⟩, 70) := ⟨⟨by decide +kernel, by decide +kernel⟩, List.mem_of_getElem? (i := 1186) (by decide +kernel), List.mem_of_getElem? (i := 1701) (by decide +kernel), List.mem_of_getElem? (i := 1702) (by decide +kernel)⟩
theorem lw_p98 : lw_okq (⟨"MincedCasesModel", "turnsPair", "(I)V"⟩, 70) := ⟨⟨by decide +kernel, by decide +kernel⟩, List.mem_of_getElem? (i := 1186) (by decide +kernel), List.mem_of_getElem? (i := 1705) (by decide +kernel), List.mem_of_getElem? (i := 1706) (by decide +kernel)⟩
theorem lw_p99 : lw_okq (⟨"MincedCasesModel", "isReached", "()Z"⟩, 70) := ⟨⟨by decide +kernel, by decide +kernel⟩, List.mem_of_getElem? (i := 1186) (by decide +kernel), List.mem_of_getElem? (i := 1709) (by decide +kernel), List.mem_of_getElem? (i := 1710) (by decide +kernel)⟩
theorem lw_p100 : lw_okq (⟨"MincedCasesModel", "quarrelMany", "()I"⟩, 70) := ⟨⟨by decide +kernel, by decide +kernel⟩, List.mem_of_getElem? (i := 1186) (by decide +kernel), List.mem_of_getElem? (i := 1713) (by decide +kernel), List.mem_of_getElem? (i := 1714) (by decide +kernel)⟩
theorem lw_p101 : lw_okq (⟨"MincedCasesModel", "fillsFoes", "()V"⟩, 70) := ⟨⟨by decide +kernel, by decide +kernel⟩, List.mem_of_getElem? (i := 1186) (by decide +kernel), List.mem_of_getElem? (i := 1750) (by decide +kernel), List.mem_of_getElem? (i := 1751) (by decide +kernel)⟩
theorem lw_p102 : lw_okq (⟨"MincedCasesModel", "isPeace", "(I)Z"⟩, 70) := ⟨⟨by decide +kernel, by decide +kernel⟩, List.mem_of_getElem? (i := 1186) (by decide +kernel), List.mem_of_getElem? (i := 1761) (by decide +kernel), List.mem_of_getElem? (i := 1762) (by decide +kernel)⟩
theorem lw_p103 : lw_okq (⟨"MincedCasesModel", "fillsPaired", "()V"⟩, 70) := ⟨⟨by decide +kernel, by decide +kernel⟩, List.mem_of_getElem? (i := 1186) (by decide +kernel), List.mem_of_getElem? (i := 1769) (by decide +kernel), List.mem_of_getElem? (i := 1770) (by decide +kernel)⟩
theorem lw_p104 : lw_okq (⟨"MincedCasesModel", "pairedOf", "(I)I"⟩, 70) := ⟨⟨by decide +kernel, by decide +kernel⟩, List.mem_of_getElem? (i := 1186) (by decide +kernel), List.mem_of_getElem? (i := 1776) (by decide +kernel), List.mem_of_getElem? (i := 1777) (by decide +kernel)⟩
theorem lw_p105 : lw_okq (⟨"MincedCasesModel", "copiesStill", "()V"⟩, 70) := ⟨⟨by decide +kernel, by decide +kernel⟩, List.mem_of_getElem? (i := 1186) (by decide +kernel), List.mem_of_getElem? (i := 1796) (by decide +kernel), List.mem_of_getElem? (i := 1797) (by decide +kernel)⟩
theorem lw_p106 : lw_okq (⟨"MincedCasesModel", "isEnded", "()Z"⟩, 70) := ⟨⟨by decide +kernel, by decide +kernel⟩, List.mem_of_getElem? (i := 1186) (by decide +kernel), List.mem_of_getElem? (i := 1800) (by decide +kernel), List.mem_of_getElem? (i := 1801) (by decide +kernel)⟩
theorem lw_p107 : lw_okq (⟨"MincedCasesModel", "fillsTwo", "(I)I"⟩, 70) := ⟨⟨by decide +kernel, by decide +kernel⟩, List.mem_of_getElem? (i := 1186) (by decide +kernel), List.mem_of_getElem? (i := 1836) (by decide +kernel), List.mem_of_getElem? (i := 1837) (by decide +kernel)⟩
def lw_privs_7 : List (MethodName × Nat) := [(⟨"MincedCasesModel", "doesWay", "(II)Z"⟩, 70), (⟨"MincedCasesModel", "pairAt", "(III)I"⟩, 70), (⟨"MincedCasesModel", "turnsPair", "(I)V"⟩, 70), (⟨"MincedCasesModel", "isReached", "()Z"⟩, 70), (⟨"MincedCasesModel", "quarrelMany", "()I"⟩, 70), (⟨"MincedCasesModel", "fillsFoes", "()V"⟩, 70), (⟨"MincedCasesModel", "isPeace", "(I)Z"⟩, 70), (⟨"MincedCasesModel", "fillsPaired", "()V"⟩, 70), (⟨"MincedCasesModel", "pairedOf", "(I)I"⟩, 70), (⟨"MincedCasesModel", "copiesStill", "()V"⟩, 70), (⟨"MincedCasesModel", "isEnded", "()Z"⟩, 70), (⟨"MincedCasesModel", "fillsTwo", "(I)I"⟩, 70)]
theorem lw_r7 : ∀ q ∈ lw_privs_7, lw_okq q := List.forall_mem_cons.mpr ⟨lw_p96, List.forall_mem_cons.mpr ⟨lw_p97, List.forall_mem_cons.mpr ⟨lw_p98, List.forall_mem_cons.mpr ⟨lw_p99, List.forall_mem_cons.mpr ⟨lw_p100, List.forall_mem_cons.mpr ⟨lw_p101, List.forall_mem_cons.mpr ⟨lw_p102, List.forall_mem_cons.mpr ⟨lw_p103, List.forall_mem_cons.mpr ⟨lw_p104, List.forall_mem_cons.mpr ⟨lw_p105, List.forall_mem_cons.mpr ⟨lw_p106, List.forall_mem_cons.mpr ⟨lw_p107, fun _ h => absurd h List.not_mem_nil⟩⟩⟩⟩⟩⟩⟩⟩⟩⟩⟩⟩
def lw_privs : List (MethodName × Nat) := lw_privs_1 ++ (lw_privs_2 ++ (lw_privs_3 ++ (lw_privs_4 ++ (lw_privs_5 ++ (lw_privs_6 ++ (lw_privs_7))))))
def lw_tbl : List Cond := k2_sels lw_privs ++ tables_1
theorem lw_privs_ok : ∀ q ∈ lw_privs, lw_okq q := by
  show ∀ q ∈ lw_privs_1 ++ (lw_privs_2 ++ (lw_privs_3 ++ (lw_privs_4 ++ (lw_privs_5 ++ (lw_privs_6 ++ (lw_privs_7)))))), lw_okq q
  exact List.forall_mem_append.mpr ⟨lw_r1, List.forall_mem_append.mpr ⟨lw_r2, List.forall_mem_append.mpr ⟨lw_r3, List.forall_mem_append.mpr ⟨lw_r4, List.forall_mem_append.mpr ⟨lw_r5, List.forall_mem_append.mpr ⟨lw_r6, lw_r7⟩⟩⟩⟩⟩⟩
def RX0 : String := "MincedCases$Foes"
def TX0 : u_T := fun k => match k with
  | 0 => ("MincedCases$Foes", "text", "LMincedCases$Text;", true)
  | 1 => ("MincedCases$Foes", "mincer", "LMincedCases$Mincer;", true)
  | _ => ("MincedCases$Foes", "foeBits", "[I", true)
def tyX0 : Nat → FieldType := fun k => match k with
  | 0 => .object "MincedCases$Text"
  | 1 => .object "MincedCases$Mincer"
  | _ => .array .int
abbrev wsX00 : List Cond := u_ws RX0 TX0 3
theorem nmX0 : ∀ a, a < 3 → ∀ b, b < 3 → a ≠ b → (TX0 a).2.1 ≠ (TX0 b).2.1 := by decide +kernel
theorem tyX0_ok : ∀ k, k < 3 → parseFieldDescriptor (TX0 k).2.2.1 = some (tyX0 k) := by decide +kernel
abbrev cX0_init : ByteArray := prog_2_method_1_code
def yX0_init : MethodName := ⟨RX0, "<init>", "(LMincedCases$Text;LMincedCases$Mincer;)V"⟩
abbrev cX0_lookAt : ByteArray := prog_2_method_2_code
def yX0_lookAt : MethodName := ⟨RX0, "lookAt", "(LMincedCases$State;)V"⟩
abbrev cX0_fewestGone : ByteArray := prog_2_method_3_code
def yX0_fewestGone : MethodName := ⟨RX0, "fewestGone", "()I"⟩
abbrev cX0_everybody : ByteArray := prog_2_method_4_code
def yX0_everybody : MethodName := ⟨RX0, "everybody", "()I"⟩
abbrev cX0_isPeaceWithout : ByteArray := prog_2_method_5_code
def yX0_isPeaceWithout : MethodName := ⟨RX0, "isPeaceWithout", "(I)Z"⟩
abbrev cX0_mostPairs : ByteArray := prog_2_method_6_code
def yX0_mostPairs : MethodName := ⟨RX0, "mostPairs", "()I"⟩
abbrev cX0_mostPairsFrom : ByteArray := prog_2_method_7_code
def yX0_mostPairsFrom : MethodName := ⟨RX0, "mostPairsFrom", "(II)I"⟩
abbrev cX0_isBit : ByteArray := prog_2_method_8_code
def yX0_isBit : MethodName := ⟨RX0, "isBit", "(II)Z"⟩
abbrev cX0_partnerOf : ByteArray := prog_2_method_9_code
def yX0_partnerOf : MethodName := ⟨RX0, "partnerOf", "(I)I"⟩
abbrev cX0_firstPartner : ByteArray := prog_2_method_10_code
def yX0_firstPartner : MethodName := ⟨RX0, "firstPartner", "(II)I"⟩
def RX1 : String := "MincedCases$History"
def TX1 : u_T := fun k => match k with
  | 0 => ("MincedCases$History", "ring", "[LMincedCases$State;", true)
  | 1 => ("MincedCases$History", "next", "I", false)
  | _ => ("MincedCases$History", "size", "I", false)
def tyX1 : Nat → FieldType := fun k => match k with
  | 0 => .array (.object "MincedCases$State")
  | 1 => .int
  | _ => .int
abbrev wsX10 : List Cond := u_ws RX1 TX1 3
theorem nmX1 : ∀ a, a < 3 → ∀ b, b < 3 → a ≠ b → (TX1 a).2.1 ≠ (TX1 b).2.1 := by decide +kernel
theorem tyX1_ok : ∀ k, k < 3 → parseFieldDescriptor (TX1 k).2.2.1 = some (tyX1 k) := by decide +kernel
abbrev cX1_init : ByteArray := prog_3_method_1_code
def yX1_init : MethodName := ⟨RX1, "<init>", "()V"⟩
abbrev cX1_clear : ByteArray := prog_3_method_2_code
def yX1_clear : MethodName := ⟨RX1, "clear", "()V"⟩
abbrev cX1_remember : ByteArray := prog_3_method_3_code
def yX1_remember : MethodName := ⟨RX1, "remember", "(LMincedCases$State;)V"⟩
abbrev cX1_bringBack : ByteArray := prog_3_method_4_code
def yX1_bringBack : MethodName := ⟨RX1, "bringBack", "(LMincedCases$State;)Z"⟩
def RX2 : String := "MincedCases$Laws"
def TX2 : u_T := fun k => match k with
  | 0 => ("MincedCases$Laws", "cells", "[I", true)
  | 1 => ("MincedCases$Laws", "edges", "[I", true)
  | 2 => ("MincedCases$Laws", "parts", "[I", true)
  | 3 => ("MincedCases$Laws", "stack", "[I", true)
  | 4 => ("MincedCases$Laws", "used", "I", false)
  | _ => ("MincedCases$Laws", "dividedByZero", "Z", false)
def tyX2 : Nat → FieldType := fun k => match k with
  | 0 => .array .int
  | 1 => .array .int
  | 2 => .array .int
  | 3 => .array .int
  | 4 => .int
  | _ => .boolean
abbrev wsX20 : List Cond := u_ws RX2 TX2 6
theorem nmX2 : ∀ a, a < 6 → ∀ b, b < 6 → a ≠ b → (TX2 a).2.1 ≠ (TX2 b).2.1 := by decide +kernel
theorem tyX2_ok : ∀ k, k < 6 → parseFieldDescriptor (TX2 k).2.2.1 = some (tyX2 k) := by decide +kernel
abbrev cX2_init : ByteArray := prog_4_method_1_code
def yX2_init : MethodName := ⟨RX2, "<init>", "()V"⟩
abbrev cX2_clear : ByteArray := prog_4_method_2_code
def yX2_clear : MethodName := ⟨RX2, "clear", "()V"⟩
abbrev cX2_copyFrom : ByteArray := prog_4_method_3_code
def yX2_copyFrom : MethodName := ⟨RX2, "copyFrom", "(LMincedCases$Laws;)V"⟩
abbrev cX2_begin : ByteArray := prog_4_method_4_code
def yX2_begin : MethodName := ⟨RX2, "begin", "(I)V"⟩
abbrev cX2_endPart : ByteArray := prog_4_method_5_code
def yX2_endPart : MethodName := ⟨RX2, "endPart", "(I)V"⟩
abbrev cX2_addInt : ByteArray := prog_4_method_6_code
def yX2_addInt : MethodName := ⟨RX2, "addInt", "(I)V"⟩
abbrev cX2_addVar : ByteArray := prog_4_method_7_code
def yX2_addVar : MethodName := ⟨RX2, "addVar", "(I)V"⟩
abbrev cX2_addSign : ByteArray := prog_4_method_8_code
def yX2_addSign : MethodName := ⟨RX2, "addSign", "(I)V"⟩
abbrev cX2_addCell : ByteArray := prog_4_method_9_code
def yX2_addCell : MethodName := ⟨RX2, "addCell", "(I)V"⟩
abbrev cX2_value : ByteArray := prog_4_method_10_code
def yX2_value : MethodName := ⟨RX2, "value", "(I[I)I"⟩
abbrev cX2_partValue : ByteArray := prog_4_method_11_code
def yX2_partValue : MethodName := ⟨RX2, "partValue", "(II[I)I"⟩
def RX3 : String := "MincedCases$Mincer"
def TX3 : u_T := fun k => match k with
  | 0 => ("MincedCases$Mincer", "text", "LMincedCases$Text;", true)
  | _ => ("MincedCases$Mincer", "vars", "[I", true)
def tyX3 : Nat → FieldType := fun k => match k with
  | 0 => .object "MincedCases$Text"
  | _ => .array .int
abbrev wsX30 : List Cond := u_ws RX3 TX3 2
theorem nmX3 : ∀ a, a < 2 → ∀ b, b < 2 → a ≠ b → (TX3 a).2.1 ≠ (TX3 b).2.1 := by decide +kernel
theorem tyX3_ok : ∀ k, k < 2 → parseFieldDescriptor (TX3 k).2.2.1 = some (tyX3 k) := by decide +kernel
abbrev cX3_init : ByteArray := prog_5_method_1_code
def yX3_init : MethodName := ⟨RX3, "<init>", "(LMincedCases$Text;)V"⟩
abbrev cX3_lookAt : ByteArray := prog_5_method_2_code
def yX3_lookAt : MethodName := ⟨RX3, "lookAt", "(LMincedCases$State;II)V"⟩
abbrev cX3_lookAtTurn : ByteArray := prog_5_method_3_code
def yX3_lookAtTurn : MethodName := ⟨RX3, "lookAtTurn", "(LMincedCases$State;II)V"⟩
abbrev cX3_quarrel : ByteArray := prog_5_method_4_code
def yX3_quarrel : MethodName := ⟨RX3, "quarrel", "(LMincedCases$State;II)Z"⟩
abbrev cX3_wear : ByteArray := prog_5_method_5_code
def yX3_wear : MethodName := ⟨RX3, "wear", "(ILMincedCases$State;II)I"⟩
abbrev cX3_wearOf : ByteArray := prog_5_method_6_code
def yX3_wearOf : MethodName := ⟨RX3, "wearOf", "(I)I"⟩
abbrev cX3_staying : ByteArray := prog_5_method_7_code
def yX3_staying : MethodName := ⟨RX3, "staying", "(LMincedCases$State;III)I"⟩
abbrev cX3_share : ByteArray := prog_5_method_8_code
def yX3_share : MethodName := ⟨RX3, "share", "(LMincedCases$State;III)I"⟩
abbrev cX3_stayingOf : ByteArray := prog_5_method_9_code
def yX3_stayingOf : MethodName := ⟨RX3, "stayingOf", "(LMincedCases$State;III)I"⟩
abbrev cX3_allOf : ByteArray := prog_5_method_10_code
def yX3_allOf : MethodName := ⟨RX3, "allOf", "(LMincedCases$State;III)I"⟩
abbrev cX3_heldTo : ByteArray := prog_5_method_11_code
def yX3_heldTo : MethodName := ⟨RX3, "heldTo", "(II)I"⟩
abbrev cX3_putThrough : ByteArray := prog_5_method_12_code
def yX3_putThrough : MethodName := ⟨RX3, "putThrough", "(LMincedCases$State;II)V"⟩
abbrev cX3_goDays : ByteArray := prog_5_method_13_code
def yX3_goDays : MethodName := ⟨RX3, "goDays", "(LMincedCases$State;II)V"⟩
abbrev cX3_goSuits : ByteArray := prog_5_method_14_code
def yX3_goSuits : MethodName := ⟨RX3, "goSuits", "(LMincedCases$State;)V"⟩
abbrev cX3_anySuitQuarrels : ByteArray := prog_5_method_15_code
def yX3_anySuitQuarrels : MethodName := ⟨RX3, "anySuitQuarrels", "(LMincedCases$State;)Z"⟩
abbrev cX3_foesOf : ByteArray := prog_5_method_16_code
def yX3_foesOf : MethodName := ⟨RX3, "foesOf", "(LMincedCases$State;I)I"⟩
abbrev cX3_whoQuarrels : ByteArray := prog_5_method_17_code
def yX3_whoQuarrels : MethodName := ⟨RX3, "whoQuarrels", "(LMincedCases$State;)I"⟩
abbrev cX3_quarrels : ByteArray := prog_5_method_18_code
def yX3_quarrels : MethodName := ⟨RX3, "quarrels", "(LMincedCases$State;)I"⟩
abbrev cX3_firstQuarrel : ByteArray := prog_5_method_19_code
def yX3_firstQuarrel : MethodName := ⟨RX3, "firstQuarrel", "(LMincedCases$State;)I"⟩
def RX4 : String := "MincedCases$Reader"
def TX4 : u_T := fun k => match k with
  | 0 => ("MincedCases$Reader", "tokens", "LMincedCases$Tokens;", true)
  | 1 => ("MincedCases$Reader", "text", "LMincedCases$Text;", true)
  | 2 => ("MincedCases$Reader", "token", "I", false)
  | 3 => ("MincedCases$Reader", "kind", "I", false)
  | 4 => ("MincedCases$Reader", "fault", "I", false)
  | 5 => ("MincedCases$Reader", "faultToken", "I", false)
  | 6 => ("MincedCases$Reader", "laterFault", "I", false)
  | _ => ("MincedCases$Reader", "laterToken", "I", false)
def tyX4 : Nat → FieldType := fun k => match k with
  | 0 => .object "MincedCases$Tokens"
  | 1 => .object "MincedCases$Text"
  | 2 => .int
  | 3 => .int
  | 4 => .int
  | 5 => .int
  | 6 => .int
  | _ => .int
abbrev wsX40 : List Cond := u_ws RX4 TX4 8
theorem nmX4 : ∀ a, a < 8 → ∀ b, b < 8 → a ≠ b → (TX4 a).2.1 ≠ (TX4 b).2.1 := by decide +kernel
theorem tyX4_ok : ∀ k, k < 8 → parseFieldDescriptor (TX4 k).2.2.1 = some (tyX4 k) := by decide +kernel
abbrev cX4_init : ByteArray := prog_6_method_1_code
def yX4_init : MethodName := ⟨RX4, "<init>", "(LMincedCases$Tape;LMincedCases$Text;)V"⟩
abbrev cX4_readTape : ByteArray := prog_6_method_2_code
def yX4_readTape : MethodName := ⟨RX4, "readTape", "()I"⟩
abbrev cX4_checkRoomForTokens : ByteArray := prog_6_method_3_code
def yX4_checkRoomForTokens : MethodName := ⟨RX4, "checkRoomForTokens", "()V"⟩
abbrev cX4_faultPlace : ByteArray := prog_6_method_4_code
def yX4_faultPlace : MethodName := ⟨RX4, "faultPlace", "()I"⟩
abbrev cX4_take : ByteArray := prog_6_method_5_code
def yX4_take : MethodName := ⟨RX4, "take", "()V"⟩
abbrev cX4_expect : ByteArray := prog_6_method_6_code
def yX4_expect : MethodName := ⟨RX4, "expect", "(I)V"⟩
abbrev cX4_fail : ByteArray := prog_6_method_7_code
def yX4_fail : MethodName := ⟨RX4, "fail", "(I)V"⟩
abbrev cX4_failLater : ByteArray := prog_6_method_8_code
def yX4_failLater : MethodName := ⟨RX4, "failLater", "(I)V"⟩
abbrev cX4_readTell : ByteArray := prog_6_method_9_code
def yX4_readTell : MethodName := ⟨RX4, "readTell", "()V"⟩
abbrev cX4_readPerson : ByteArray := prog_6_method_10_code
def yX4_readPerson : MethodName := ⟨RX4, "readPerson", "()V"⟩
abbrev cX4_readSuit : ByteArray := prog_6_method_11_code
def yX4_readSuit : MethodName := ⟨RX4, "readSuit", "()V"⟩
abbrev cX4_readName : ByteArray := prog_6_method_12_code
def yX4_readName : MethodName := ⟨RX4, "readName", "(I)I"⟩
abbrev cX4_readInt : ByteArray := prog_6_method_13_code
def yX4_readInt : MethodName := ⟨RX4, "readInt", "(II)I"⟩
abbrev cX4_readLaw : ByteArray := prog_6_method_14_code
def yX4_readLaw : MethodName := ⟨RX4, "readLaw", "(I)V"⟩
abbrev cX4_readSum : ByteArray := prog_6_method_15_code
def yX4_readSum : MethodName := ⟨RX4, "readSum", "(I)V"⟩
abbrev cX4_readUnit : ByteArray := prog_6_method_16_code
def yX4_readUnit : MethodName := ⟨RX4, "readUnit", "(I)V"⟩
def RX5 : String := "MincedCases$Rows"
def TX5 : u_T := fun k => match k with
  | 0 => ("MincedCases$Rows", "text", "LMincedCases$Text;", true)
  | 1 => ("MincedCases$Rows", "mincer", "LMincedCases$Mincer;", true)
  | 2 => ("MincedCases$Rows", "behind", "[LMincedCases$State;", true)
  | 3 => ("MincedCases$Rows", "row", "[I", true)
  | 4 => ("MincedCases$Rows", "known", "Z", false)
  | 5 => ("MincedCases$Rows", "turns", "I", false)
  | 6 => ("MincedCases$Rows", "goal", "I", false)
  | 7 => ("MincedCases$Rows", "person", "I", false)
  | 8 => ("MincedCases$Rows", "second", "I", false)
  | _ => ("MincedCases$Rows", "amount", "I", false)
def tyX5 : Nat → FieldType := fun k => match k with
  | 0 => .object "MincedCases$Text"
  | 1 => .object "MincedCases$Mincer"
  | 2 => .array (.object "MincedCases$State")
  | 3 => .array .int
  | 4 => .boolean
  | 5 => .int
  | 6 => .int
  | 7 => .int
  | 8 => .int
  | _ => .int
abbrev wsX50 : List Cond := u_ws RX5 TX5 10
theorem nmX5 : ∀ a, a < 10 → ∀ b, b < 10 → a ≠ b → (TX5 a).2.1 ≠ (TX5 b).2.1 := by decide +kernel
theorem tyX5_ok : ∀ k, k < 10 → parseFieldDescriptor (TX5 k).2.2.1 = some (tyX5 k) := by decide +kernel
abbrev cX5_init : ByteArray := prog_7_method_1_code
def yX5_init : MethodName := ⟨RX5, "<init>", "(LMincedCases$Text;LMincedCases$Mincer;)V"⟩
abbrev cX5_forgetFound : ByteArray := prog_7_method_2_code
def yX5_forgetFound : MethodName := ⟨RX5, "forgetFound", "()V"⟩
abbrev cX5_find : ByteArray := prog_7_method_3_code
def yX5_find : MethodName := ⟨RX5, "find", "(LMincedCases$State;IIII)V"⟩
abbrev cX5_answer : ByteArray := prog_7_method_4_code
def yX5_answer : MethodName := ⟨RX5, "answer", "(I)I"⟩
abbrev cX5_reaches : ByteArray := prog_7_method_5_code
def yX5_reaches : MethodName := ⟨RX5, "reaches", "(II)Z"⟩
abbrev cX5_canMakeSo : ByteArray := prog_7_method_6_code
def yX5_canMakeSo : MethodName := ⟨RX5, "canMakeSo", "(II)Z"⟩
abbrev cX5_isSo : ByteArray := prog_7_method_7_code
def yX5_isSo : MethodName := ⟨RX5, "isSo", "(LMincedCases$State;)Z"⟩
def RX6 : String := "MincedCases$State"
def TX6 : u_T := fun k => match k with
  | 0 => ("MincedCases$State", "cases", "[I", true)
  | 1 => ("MincedCases$State", "screw", "[I", true)
  | 2 => ("MincedCases$State", "puts", "[I", true)
  | 3 => ("MincedCases$State", "day", "I", false)
  | 4 => ("MincedCases$State", "turns", "I", false)
  | 5 => ("MincedCases$State", "fine", "I", false)
  | 6 => ("MincedCases$State", "dull", "I", false)
  | _ => ("MincedCases$State", "paid", "I", false)
def tyX6 : Nat → FieldType := fun k => match k with
  | 0 => .array .int
  | 1 => .array .int
  | 2 => .array .int
  | 3 => .int
  | 4 => .int
  | 5 => .int
  | 6 => .int
  | _ => .int
abbrev wsX60 : List Cond := u_ws RX6 TX6 8
theorem nmX6 : ∀ a, a < 8 → ∀ b, b < 8 → a ≠ b → (TX6 a).2.1 ≠ (TX6 b).2.1 := by decide +kernel
theorem tyX6_ok : ∀ k, k < 8 → parseFieldDescriptor (TX6 k).2.2.1 = some (tyX6 k) := by decide +kernel
abbrev cX6_init : ByteArray := prog_8_method_1_code
def yX6_init : MethodName := ⟨RX6, "<init>", "()V"⟩
abbrev cX6_copyFrom : ByteArray := prog_8_method_2_code
def yX6_copyFrom : MethodName := ⟨RX6, "copyFrom", "(LMincedCases$State;)V"⟩
abbrev cX6_startFrom : ByteArray := prog_8_method_3_code
def yX6_startFrom : MethodName := ⟨RX6, "startFrom", "(LMincedCases$Text;)V"⟩
abbrev cX6_changePlate : ByteArray := prog_8_method_4_code
def yX6_changePlate : MethodName := ⟨RX6, "changePlate", "(I)V"⟩
abbrev cX6_emptyScrew : ByteArray := prog_8_method_5_code
def yX6_emptyScrew : MethodName := ⟨RX6, "emptyScrew", "()V"⟩
abbrev cX6_amount : ByteArray := prog_8_method_6_code
def yX6_amount : MethodName := ⟨RX6, "amount", "(II)I"⟩
abbrev cX6_setAmount : ByteArray := prog_8_method_7_code
def yX6_setAmount : MethodName := ⟨RX6, "setAmount", "(III)V"⟩
abbrev cX6_ofAll : ByteArray := prog_8_method_8_code
def yX6_ofAll : MethodName := ⟨RX6, "ofAll", "(I)I"⟩
abbrev cX6_inScrew : ByteArray := prog_8_method_9_code
def yX6_inScrew : MethodName := ⟨RX6, "inScrew", "()I"⟩
abbrev cX6_apart : ByteArray := prog_8_method_10_code
def yX6_apart : MethodName := ⟨RX6, "apart", "(II)I"⟩
def RX7 : String := "MincedCases$Tape"
def TX7 : u_T := fun k => match k with
  | 0 => ("MincedCases$Tape", "bytes", "[B", true)
  | _ => ("MincedCases$Tape", "size", "I", false)
def tyX7 : Nat → FieldType := fun k => match k with
  | 0 => .array .byte
  | _ => .int
abbrev wsX70 : List Cond := u_ws RX7 TX7 2
theorem nmX7 : ∀ a, a < 2 → ∀ b, b < 2 → a ≠ b → (TX7 a).2.1 ≠ (TX7 b).2.1 := by decide +kernel
theorem tyX7_ok : ∀ k, k < 2 → parseFieldDescriptor (TX7 k).2.2.1 = some (tyX7 k) := by decide +kernel
abbrev cX7_init : ByteArray := prog_9_method_1_code
def yX7_init : MethodName := ⟨RX7, "<init>", "()V"⟩
abbrev cX7_hasRoomFor : ByteArray := prog_9_method_2_code
def yX7_hasRoomFor : MethodName := ⟨RX7, "hasRoomFor", "(I)Z"⟩
abbrev cX7_append : ByteArray := prog_9_method_3_code
def yX7_append : MethodName := ⟨RX7, "append", "(I)V"⟩
abbrev cX7_byteAt : ByteArray := prog_9_method_4_code
def yX7_byteAt : MethodName := ⟨RX7, "byteAt", "(I)I"⟩
def RX8 : String := "MincedCases$Text"
def TX8 : u_T := fun k => match k with
  | 0 => ("MincedCases$Text", "names", "[J", true)
  | 1 => ("MincedCases$Text", "cases", "[I", true)
  | 2 => ("MincedCases$Text", "suits", "[I", true)
  | 3 => ("MincedCases$Text", "laws", "LMincedCases$Laws;", true)
  | 4 => ("MincedCases$Text", "people", "I", false)
  | 5 => ("MincedCases$Text", "suitCount", "I", false)
  | 6 => ("MincedCases$Text", "plate", "I", false)
  | 7 => ("MincedCases$Text", "thumb", "I", false)
  | _ => ("MincedCases$Text", "seed", "I", false)
def tyX8 : Nat → FieldType := fun k => match k with
  | 0 => .array .long
  | 1 => .array .int
  | 2 => .array .int
  | 3 => .object "MincedCases$Laws"
  | 4 => .int
  | 5 => .int
  | 6 => .int
  | 7 => .int
  | _ => .int
abbrev wsX80 : List Cond := u_ws RX8 TX8 9
theorem nmX8 : ∀ a, a < 9 → ∀ b, b < 9 → a ≠ b → (TX8 a).2.1 ≠ (TX8 b).2.1 := by decide +kernel
theorem tyX8_ok : ∀ k, k < 9 → parseFieldDescriptor (TX8 k).2.2.1 = some (tyX8 k) := by decide +kernel
abbrev cX8_init : ByteArray := prog_10_method_1_code
def yX8_init : MethodName := ⟨RX8, "<init>", "()V"⟩
abbrev cX8_clear : ByteArray := prog_10_method_2_code
def yX8_clear : MethodName := ⟨RX8, "clear", "()V"⟩
abbrev cX8_copyFrom : ByteArray := prog_10_method_3_code
def yX8_copyFrom : MethodName := ⟨RX8, "copyFrom", "(LMincedCases$Text;)V"⟩
abbrev cX8_personNamed : ByteArray := prog_10_method_4_code
def yX8_personNamed : MethodName := ⟨RX8, "personNamed", "(J)I"⟩
abbrev cX8_setSuit : ByteArray := prog_10_method_5_code
def yX8_setSuit : MethodName := ⟨RX8, "setSuit", "(IIIII)V"⟩
abbrev cX8_suitPart : ByteArray := prog_10_method_6_code
def yX8_suitPart : MethodName := ⟨RX8, "suitPart", "(II)I"⟩
abbrev cX8_isDue : ByteArray := prog_10_method_7_code
def yX8_isDue : MethodName := ⟨RX8, "isDue", "(II)Z"⟩
abbrev cX8_isThumb : ByteArray := prog_10_method_8_code
def yX8_isThumb : MethodName := ⟨RX8, "isThumb", "(II)Z"⟩
abbrev cX8_thumbStuff : ByteArray := prog_10_method_9_code
def yX8_thumbStuff : MethodName := ⟨RX8, "thumbStuff", "(II)I"⟩
abbrev cX8_lot : ByteArray := prog_10_method_10_code
def yX8_lot : MethodName := ⟨RX8, "lot", "(III)I"⟩
abbrev cX8_stirred : ByteArray := prog_10_method_11_code
def yX8_stirred : MethodName := ⟨RX8, "stirred", "(II)I"⟩
def RX9 : String := "MincedCases$Tokens"
def TX9 : u_T := fun k => match k with
  | 0 => ("MincedCases$Tokens", "tape", "LMincedCases$Tape;", true)
  | 1 => ("MincedCases$Tokens", "kinds", "[B", true)
  | 2 => ("MincedCases$Tokens", "places", "[S", true)
  | 3 => ("MincedCases$Tokens", "values", "[J", true)
  | 4 => ("MincedCases$Tokens", "size", "I", false)
  | _ => ("MincedCases$Tokens", "at", "I", false)
def tyX9 : Nat → FieldType := fun k => match k with
  | 0 => .object "MincedCases$Tape"
  | 1 => .array .byte
  | 2 => .array .short
  | 3 => .array .long
  | 4 => .int
  | _ => .int
abbrev wsX90 : List Cond := u_ws RX9 TX9 6
theorem nmX9 : ∀ a, a < 6 → ∀ b, b < 6 → a ≠ b → (TX9 a).2.1 ≠ (TX9 b).2.1 := by decide +kernel
theorem tyX9_ok : ∀ k, k < 6 → parseFieldDescriptor (TX9 k).2.2.1 = some (tyX9 k) := by decide +kernel
abbrev cX9_init : ByteArray := prog_11_method_1_code
def yX9_init : MethodName := ⟨RX9, "<init>", "(LMincedCases$Tape;)V"⟩
abbrev cX9_cut : ByteArray := prog_11_method_2_code
def yX9_cut : MethodName := ⟨RX9, "cut", "()V"⟩
abbrev cX9_kind : ByteArray := prog_11_method_3_code
def yX9_kind : MethodName := ⟨RX9, "kind", "(I)I"⟩
abbrev cX9_placeOf : ByteArray := prog_11_method_4_code
def yX9_placeOf : MethodName := ⟨RX9, "placeOf", "(I)I"⟩
abbrev cX9_value : ByteArray := prog_11_method_5_code
def yX9_value : MethodName := ⟨RX9, "value", "(I)J"⟩
abbrev cX9_cutOne : ByteArray := prog_11_method_6_code
def yX9_cutOne : MethodName := ⟨RX9, "cutOne", "()V"⟩
abbrev cX9_keep : ByteArray := prog_11_method_7_code
def yX9_keep : MethodName := ⟨RX9, "keep", "(IIJ)V"⟩
abbrev cX9_cutWord : ByteArray := prog_11_method_8_code
def yX9_cutWord : MethodName := ⟨RX9, "cutWord", "(I)V"⟩
abbrev cX9_cutInt : ByteArray := prog_11_method_9_code
def yX9_cutInt : MethodName := ⟨RX9, "cutInt", "(I)V"⟩
abbrev cX9_wordNumber : ByteArray := prog_11_method_10_code
def yX9_wordNumber : MethodName := ⟨RX9, "wordNumber", "(I)I"⟩
abbrev cX9_isWord : ByteArray := prog_11_method_11_code
def yX9_isWord : MethodName := ⟨RX9, "isWord", "(II)Z"⟩
abbrev cX9_isBlank : ByteArray := prog_11_method_12_code
def yX9_isBlank : MethodName := ⟨RX9, "isBlank", "(I)Z"⟩
abbrev cX9_isLetter : ByteArray := prog_11_method_13_code
def yX9_isLetter : MethodName := ⟨RX9, "isLetter", "(I)Z"⟩
abbrev cX9_isDigit : ByteArray := prog_11_method_14_code
def yX9_isDigit : MethodName := ⟨RX9, "isDigit", "(I)Z"⟩
def RX10 : String := "MincedCases$Told"
def TX10 : u_T := fun k => match k with
  | 0 => ("MincedCases$Told", "text", "LMincedCases$Text;", true)
  | 1 => ("MincedCases$Told", "mincer", "LMincedCases$Mincer;", true)
  | 2 => ("MincedCases$Told", "persons", "[I", true)
  | 3 => ("MincedCases$Told", "stuffs", "[I", true)
  | 4 => ("MincedCases$Told", "amounts", "[I", true)
  | 5 => ("MincedCases$Told", "sos", "[Z", true)
  | _ => ("MincedCases$Told", "size", "I", false)
def tyX10 : Nat → FieldType := fun k => match k with
  | 0 => .object "MincedCases$Text"
  | 1 => .object "MincedCases$Mincer"
  | 2 => .array .int
  | 3 => .array .int
  | 4 => .array .int
  | 5 => .array .boolean
  | _ => .int
abbrev wsX100 : List Cond := u_ws RX10 TX10 7
theorem nmX10 : ∀ a, a < 7 → ∀ b, b < 7 → a ≠ b → (TX10 a).2.1 ≠ (TX10 b).2.1 := by decide +kernel
theorem tyX10_ok : ∀ k, k < 7 → parseFieldDescriptor (TX10 k).2.2.1 = some (tyX10 k) := by decide +kernel
abbrev cX10_init : ByteArray := prog_12_method_1_code
def yX10_init : MethodName := ⟨RX10, "<init>", "(LMincedCases$Text;LMincedCases$Mincer;)V"⟩
abbrev cX10_clear : ByteArray := prog_12_method_2_code
def yX10_clear : MethodName := ⟨RX10, "clear", "()V"⟩
abbrev cX10_add : ByteArray := prog_12_method_3_code
def yX10_add : MethodName := ⟨RX10, "add", "(IIIZ)I"⟩
abbrev cX10_pairsLeft : ByteArray := prog_12_method_4_code
def yX10_pairsLeft : MethodName := ⟨RX10, "pairsLeft", "(LMincedCases$State;I)I"⟩
abbrev cX10_fits : ByteArray := prog_12_method_5_code
def yX10_fits : MethodName := ⟨RX10, "fits", "(LMincedCases$State;III)Z"⟩
abbrev cX10_amountBehind : ByteArray := prog_12_method_6_code
def yX10_amountBehind : MethodName := ⟨RX10, "amountBehind", "(LMincedCases$State;IIII)I"⟩
abbrev cX10_pairOf : ByteArray := prog_12_method_7_code
def yX10_pairOf : MethodName := ⟨RX10, "pairOf", "(II)I"⟩
abbrev cX10_bestQuestion : ByteArray := prog_12_method_8_code
def yX10_bestQuestion : MethodName := ⟨RX10, "bestQuestion", "(LMincedCases$State;II)I"⟩
abbrev cX10_pairsWithSo : ByteArray := prog_12_method_9_code
def yX10_pairsWithSo : MethodName := ⟨RX10, "pairsWithSo", "(LMincedCases$State;IIII)I"⟩
def RX11 : String := "MincedCases"
def TX11 : u_T := fun k => match k with
  | 0 => ("MincedCases", "tape", "LMincedCases$Tape;", true)
  | 1 => ("MincedCases", "text", "LMincedCases$Text;", true)
  | 2 => ("MincedCases", "draft", "LMincedCases$Text;", true)
  | 3 => ("MincedCases", "reader", "LMincedCases$Reader;", true)
  | 4 => ("MincedCases", "mincer", "LMincedCases$Mincer;", true)
  | 5 => ("MincedCases", "now", "LMincedCases$State;", true)
  | 6 => ("MincedCases", "trial", "LMincedCases$State;", true)
  | 7 => ("MincedCases", "history", "LMincedCases$History;", true)
  | 8 => ("MincedCases", "slots", "[LMincedCases$State;", true)
  | 9 => ("MincedCases", "held", "[Z", true)
  | 10 => ("MincedCases", "rows", "LMincedCases$Rows;", true)
  | 11 => ("MincedCases", "foes", "LMincedCases$Foes;", true)
  | 12 => ("MincedCases", "told", "LMincedCases$Told;", true)
  | _ => ("MincedCases", "faultPlace", "I", false)
def tyX11 : Nat → FieldType := fun k => match k with
  | 0 => .object "MincedCases$Tape"
  | 1 => .object "MincedCases$Text"
  | 2 => .object "MincedCases$Text"
  | 3 => .object "MincedCases$Reader"
  | 4 => .object "MincedCases$Mincer"
  | 5 => .object "MincedCases$State"
  | 6 => .object "MincedCases$State"
  | 7 => .object "MincedCases$History"
  | 8 => .array (.object "MincedCases$State")
  | 9 => .array .boolean
  | 10 => .object "MincedCases$Rows"
  | 11 => .object "MincedCases$Foes"
  | 12 => .object "MincedCases$Told"
  | _ => .int
abbrev wsX110 : List Cond := u_ws RX11 TX11 14
theorem nmX11 : ∀ a, a < 14 → ∀ b, b < 14 → a ≠ b → (TX11 a).2.1 ≠ (TX11 b).2.1 := by decide +kernel
theorem tyX11_ok : ∀ k, k < 14 → parseFieldDescriptor (TX11 k).2.2.1 = some (tyX11 k) := by decide +kernel
abbrev cX11_init : ByteArray := prog_1_method_1_code
def yX11_init : MethodName := ⟨RX11, "<init>", "()V"⟩
abbrev cX11_feed : ByteArray := prog_1_method_2_code
def yX11_feed : MethodName := ⟨RX11, "feed", "(IIIII)I"⟩
abbrev cX11_back : ByteArray := prog_1_method_3_code
def yX11_back : MethodName := ⟨RX11, "back", "(I)I"⟩
abbrev cX11_read : ByteArray := prog_1_method_4_code
def yX11_read : MethodName := ⟨RX11, "read", "()I"⟩
abbrev cX11_startAnew : ByteArray := prog_1_method_5_code
def yX11_startAnew : MethodName := ⟨RX11, "startAnew", "()V"⟩
abbrev cX11_place : ByteArray := prog_1_method_6_code
def yX11_place : MethodName := ⟨RX11, "place", "()I"⟩
abbrev cX11_person : ByteArray := prog_1_method_7_code
def yX11_person : MethodName := ⟨RX11, "person", "(II)I"⟩
abbrev cX11_screw : ByteArray := prog_1_method_8_code
def yX11_screw : MethodName := ⟨RX11, "screw", "(I)I"⟩
abbrev cX11_suit : ByteArray := prog_1_method_9_code
def yX11_suit : MethodName := ⟨RX11, "suit", "(II)I"⟩
abbrev cX11_tells : ByteArray := prog_1_method_10_code
def yX11_tells : MethodName := ⟨RX11, "tells", "(III)I"⟩
abbrev cX11_count : ByteArray := prog_1_method_11_code
def yX11_count : MethodName := ⟨RX11, "count", "(I)I"⟩
abbrev cX11_heldSlots : ByteArray := prog_1_method_12_code
def yX11_heldSlots : MethodName := ⟨RX11, "heldSlots", "()I"⟩
abbrev cX11_ofAllPeople : ByteArray := prog_1_method_13_code
def yX11_ofAllPeople : MethodName := ⟨RX11, "ofAllPeople", "()I"⟩
abbrev cX11_stuffsInScrew : ByteArray := prog_1_method_14_code
def yX11_stuffsInScrew : MethodName := ⟨RX11, "stuffsInScrew", "()I"⟩
abbrev cX11_suitsDue : ByteArray := prog_1_method_15_code
def yX11_suitsDue : MethodName := ⟨RX11, "suitsDue", "()I"⟩
abbrev cX11_put : ByteArray := prog_1_method_16_code
def yX11_put : MethodName := ⟨RX11, "put", "(II)I"⟩
abbrev cX11_bread : ByteArray := prog_1_method_17_code
def yX11_bread : MethodName := ⟨RX11, "bread", "(II)Z"⟩
abbrev cX11_plate : ByteArray := prog_1_method_18_code
def yX11_plate : MethodName := ⟨RX11, "plate", "(I)Z"⟩
abbrev cX11_wash : ByteArray := prog_1_method_19_code
def yX11_wash : MethodName := ⟨RX11, "wash", "()I"⟩
abbrev cX11_days : ByteArray := prog_1_method_20_code
def yX11_days : MethodName := ⟨RX11, "days", "(I)I"⟩
abbrev cX11_undo : ByteArray := prog_1_method_21_code
def yX11_undo : MethodName := ⟨RX11, "undo", "()Z"⟩
abbrev cX11_rememberNow : ByteArray := prog_1_method_22_code
def yX11_rememberNow : MethodName := ⟨RX11, "rememberNow", "()V"⟩
abbrev cX11_hold : ByteArray := prog_1_method_23_code
def yX11_hold : MethodName := ⟨RX11, "hold", "(I)Z"⟩
abbrev cX11_restore : ByteArray := prog_1_method_24_code
def yX11_restore : MethodName := ⟨RX11, "restore", "(I)Z"⟩
abbrev cX11_calm : ByteArray := prog_1_method_25_code
def yX11_calm : MethodName := ⟨RX11, "calm", "(I)I"⟩
abbrev cX11_rich : ByteArray := prog_1_method_26_code
def yX11_rich : MethodName := ⟨RX11, "rich", "(IIII)I"⟩
abbrev cX11_alike : ByteArray := prog_1_method_27_code
def yX11_alike : MethodName := ⟨RX11, "alike", "(III)I"⟩
abbrev cX11_best : ByteArray := prog_1_method_28_code
def yX11_best : MethodName := ⟨RX11, "best", "(I)I"⟩
abbrev cX11_quarrelsBehind : ByteArray := prog_1_method_29_code
def yX11_quarrelsBehind : MethodName := ⟨RX11, "quarrelsBehind", "(II)I"⟩
abbrev cX11_gain : ByteArray := prog_1_method_30_code
def yX11_gain : MethodName := ⟨RX11, "gain", "(III)I"⟩
abbrev cX11_plates : ByteArray := prog_1_method_31_code
def yX11_plates : MethodName := ⟨RX11, "plates", "(III)I"⟩
abbrev cX11_crumbs : ByteArray := prog_1_method_32_code
def yX11_crumbs : MethodName := ⟨RX11, "crumbs", "(IIII)I"⟩
abbrev cX11_poorest : ByteArray := prog_1_method_33_code
def yX11_poorest : MethodName := ⟨RX11, "poorest", "(I)I"⟩
abbrev cX11_foes : ByteArray := prog_1_method_34_code
def yX11_foes : MethodName := ⟨RX11, "foes", "(I)I"⟩
abbrev cX11_peace : ByteArray := prog_1_method_35_code
def yX11_peace : MethodName := ⟨RX11, "peace", "(I)I"⟩
abbrev cX11_paired : ByteArray := prog_1_method_36_code
def yX11_paired : MethodName := ⟨RX11, "paired", "(I)I"⟩
abbrev cX11_most : ByteArray := prog_1_method_37_code
def yX11_most : MethodName := ⟨RX11, "most", "(II)I"⟩
abbrev cX11_likest : ByteArray := prog_1_method_38_code
def yX11_likest : MethodName := ⟨RX11, "likest", "(I)I"⟩
abbrev cX11_fair : ByteArray := prog_1_method_39_code
def yX11_fair : MethodName := ⟨RX11, "fair", "(I)I"⟩
abbrev cX11_ends : ByteArray := prog_1_method_40_code
def yX11_ends : MethodName := ⟨RX11, "ends", "()I"⟩
abbrev cX11_bill : ByteArray := prog_1_method_41_code
def yX11_bill : MethodName := ⟨RX11, "bill", "(I)I"⟩
abbrev cX11_then : ByteArray := prog_1_method_42_code
def yX11_then : MethodName := ⟨RX11, "then", "(III)I"⟩
abbrev cX11_foesIn : ByteArray := prog_1_method_43_code
def yX11_foesIn : MethodName := ⟨RX11, "foesIn", "(II)I"⟩
abbrev cX11_turnsIn : ByteArray := prog_1_method_44_code
def yX11_turnsIn : MethodName := ⟨RX11, "turnsIn", "(I)I"⟩
abbrev cX11_year : ByteArray := prog_1_method_45_code
def yX11_year : MethodName := ⟨RX11, "year", "(IIII)I"⟩
abbrev cX11_lookAhead : ByteArray := prog_1_method_46_code
def yX11_lookAhead : MethodName := ⟨RX11, "lookAhead", "(II)V"⟩
abbrev cX11_tell : ByteArray := prog_1_method_47_code
def yX11_tell : MethodName := ⟨RX11, "tell", "(IIIZ)I"⟩
abbrev cX11_forget : ByteArray := prog_1_method_48_code
def yX11_forget : MethodName := ⟨RX11, "forget", "()I"⟩
abbrev cX11_two : ByteArray := prog_1_method_49_code
def yX11_two : MethodName := ⟨RX11, "two", "(II)I"⟩
abbrev cX11_ask : ByteArray := prog_1_method_50_code
def yX11_ask : MethodName := ⟨RX11, "ask", "(II)I"⟩
abbrev cX11_isPerson : ByteArray := prog_1_method_51_code
def yX11_isPerson : MethodName := ⟨RX11, "isPerson", "(I)Z"⟩
abbrev cX11_areTwo : ByteArray := prog_1_method_52_code
def yX11_areTwo : MethodName := ⟨RX11, "areTwo", "(II)Z"⟩
abbrev cX11_isStuff : ByteArray := prog_1_method_53_code
def yX11_isStuff : MethodName := ⟨RX11, "isStuff", "(I)Z"⟩
abbrev cX11_isAmount : ByteArray := prog_1_method_54_code
def yX11_isAmount : MethodName := ⟨RX11, "isAmount", "(I)Z"⟩
abbrev cX11_areDays : ByteArray := prog_1_method_55_code
def yX11_areDays : MethodName := ⟨RX11, "areDays", "(I)Z"⟩
abbrev cX11_isSlot : ByteArray := prog_1_method_56_code
def yX11_isSlot : MethodName := ⟨RX11, "isSlot", "(I)Z"⟩
abbrev cX11_isZeroOrOne : ByteArray := prog_1_method_57_code
def yX11_isZeroOrOne : MethodName := ⟨RX11, "isZeroOrOne", "(I)Z"⟩
abbrev cX11_isTurnNumber : ByteArray := prog_1_method_58_code
def yX11_isTurnNumber : MethodName := ⟨RX11, "isTurnNumber", "(I)Z"⟩
def RX12 : String := "MincedCasesModel"
def TX12 : u_T := fun k => match k with
  | 0 => ("MincedCasesModel", "thrown", "I", false)
  | 1 => ("MincedCasesModel", "tape", "[B", true)
  | 2 => ("MincedCasesModel", "taped", "I", false)
  | 3 => ("MincedCasesModel", "text", "[B", true)
  | 4 => ("MincedCasesModel", "size", "I", false)
  | 5 => ("MincedCasesModel", "tKind", "[I", true)
  | 6 => ("MincedCasesModel", "tPlace", "[I", true)
  | 7 => ("MincedCasesModel", "tValue", "[I", true)
  | 8 => ("MincedCasesModel", "tName", "[J", true)
  | 9 => ("MincedCasesModel", "keys", "[J", true)
  | 10 => ("MincedCasesModel", "tokens", "I", false)
  | 11 => ("MincedCasesModel", "t", "I", false)
  | 12 => ("MincedCasesModel", "open", "I", false)
  | 13 => ("MincedCasesModel", "fault", "I", false)
  | 14 => ("MincedCasesModel", "faultPlace", "I", false)
  | 15 => ("MincedCasesModel", "worst", "I", false)
  | 16 => ("MincedCasesModel", "worstPlace", "I", false)
  | 17 => ("MincedCasesModel", "place", "I", false)
  | 18 => ("MincedCasesModel", "live", "I", false)
  | 19 => ("MincedCasesModel", "side", "I", false)
  | 20 => ("MincedCasesModel", "nameOf", "[J", true)
  | 21 => ("MincedCasesModel", "people", "[I", true)
  | 22 => ("MincedCasesModel", "caseTold", "[I", true)
  | 23 => ("MincedCasesModel", "suits", "[I", true)
  | 24 => ("MincedCasesModel", "oneOf", "[I", true)
  | 25 => ("MincedCasesModel", "otherOf", "[I", true)
  | 26 => ("MincedCasesModel", "everyOf", "[I", true)
  | 27 => ("MincedCasesModel", "fromOf", "[I", true)
  | 28 => ("MincedCasesModel", "plateTold", "[I", true)
  | 29 => ("MincedCasesModel", "thumb", "[I", true)
  | 30 => ("MincedCasesModel", "seed", "[I", true)
  | 31 => ("MincedCasesModel", "lawFirst", "[I", true)
  | 32 => ("MincedCasesModel", "lawLast", "[I", true)
  | 33 => ("MincedCasesModel", "branches", "I", false)
  | 34 => ("MincedCasesModel", "hasTest", "[Z", true)
  | 35 => ("MincedCasesModel", "testFrom", "[I", true)
  | 36 => ("MincedCasesModel", "testMid", "[I", true)
  | 37 => ("MincedCasesModel", "testTo", "[I", true)
  | 38 => ("MincedCasesModel", "termTo", "[I", true)
  | 39 => ("MincedCasesModel", "codes", "I", false)
  | 40 => ("MincedCasesModel", "code", "[I", true)
  | 41 => ("MincedCasesModel", "codeInt", "[I", true)
  | 42 => ("MincedCasesModel", "waits", "[I", true)
  | 43 => ("MincedCasesModel", "waiting", "I", false)
  | 44 => ("MincedCasesModel", "variables", "[I", true)
  | 45 => ("MincedCasesModel", "pile", "[I", true)
  | 46 => ("MincedCasesModel", "isBroken", "Z", false)
  | 47 => ("MincedCasesModel", "now", "[I", true)
  | 48 => ("MincedCasesModel", "row", "[I", true)
  | 49 => ("MincedCasesModel", "lots", "I", false)
  | 50 => ("MincedCasesModel", "isStill", "Z", false)
  | 51 => ("MincedCasesModel", "staysNow", "[I", true)
  | 52 => ("MincedCasesModel", "undos", "I", false)
  | 53 => ("MincedCasesModel", "history", "[I", true)
  | 54 => ("MincedCasesModel", "pairs", "I", false)
  | 55 => ("MincedCasesModel", "pairOf", "[I", true)
  | 56 => ("MincedCasesModel", "goal", "I", false)
  | 57 => ("MincedCasesModel", "goalOne", "I", false)
  | 58 => ("MincedCasesModel", "goalOther", "I", false)
  | 59 => ("MincedCasesModel", "goalBy", "I", false)
  | 60 => ("MincedCasesModel", "foeBits", "[I", true)
  | 61 => ("MincedCasesModel", "bestOf", "[I", true)
  | 62 => ("MincedCasesModel", "tolds", "I", false)
  | 63 => ("MincedCasesModel", "toldAt", "[I", true)
  | 64 => ("MincedCasesModel", "toldBy", "[I", true)
  | 65 => ("MincedCasesModel", "toldSo", "[Z", true)
  | 66 => ("MincedCasesModel", "isSo", "[Z", true)
  | 67 => ("MincedCasesModel", "hasThen", "[I", true)
  | 68 => ("MincedCasesModel", "isHeld", "[Z", true)
  | _ => ("MincedCasesModel", "heldRows", "[I", true)
def tyX12 : Nat → FieldType := fun k => match k with
  | 0 => .int
  | 1 => .array .byte
  | 2 => .int
  | 3 => .array .byte
  | 4 => .int
  | 5 => .array .int
  | 6 => .array .int
  | 7 => .array .int
  | 8 => .array .long
  | 9 => .array .long
  | 10 => .int
  | 11 => .int
  | 12 => .int
  | 13 => .int
  | 14 => .int
  | 15 => .int
  | 16 => .int
  | 17 => .int
  | 18 => .int
  | 19 => .int
  | 20 => .array .long
  | 21 => .array .int
  | 22 => .array .int
  | 23 => .array .int
  | 24 => .array .int
  | 25 => .array .int
  | 26 => .array .int
  | 27 => .array .int
  | 28 => .array .int
  | 29 => .array .int
  | 30 => .array .int
  | 31 => .array .int
  | 32 => .array .int
  | 33 => .int
  | 34 => .array .boolean
  | 35 => .array .int
  | 36 => .array .int
  | 37 => .array .int
  | 38 => .array .int
  | 39 => .int
  | 40 => .array .int
  | 41 => .array .int
  | 42 => .array .int
  | 43 => .int
  | 44 => .array .int
  | 45 => .array .int
  | 46 => .boolean
  | 47 => .array .int
  | 48 => .array .int
  | 49 => .int
  | 50 => .boolean
  | 51 => .array .int
  | 52 => .int
  | 53 => .array .int
  | 54 => .int
  | 55 => .array .int
  | 56 => .int
  | 57 => .int
  | 58 => .int
  | 59 => .int
  | 60 => .array .int
  | 61 => .array .int
  | 62 => .int
  | 63 => .array .int
  | 64 => .array .int
  | 65 => .array .boolean
  | 66 => .array .boolean
  | 67 => .array .int
  | 68 => .array .boolean
  | _ => .array .int
abbrev wsX120 : List Cond := u_ws RX12 TX12 70
theorem nmX12 : ∀ a, a < 70 → ∀ b, b < 70 → a ≠ b → (TX12 a).2.1 ≠ (TX12 b).2.1 := by decide +kernel
theorem tyX12_ok : ∀ k, k < 70 → parseFieldDescriptor (TX12 k).2.2.1 = some (tyX12 k) := by decide +kernel
abbrev cX12_init : ByteArray := prog_14_method_2_code
def yX12_init : MethodName := ⟨RX12, "<init>", "()V"⟩
abbrev cX12_feed : ByteArray := prog_14_method_3_code
def yX12_feed : MethodName := ⟨RX12, "feed", "(IIIII)I"⟩
abbrev cX12_lays : ByteArray := prog_14_method_4_code
def yX12_lays : MethodName := ⟨RX12, "lays", "(I)V"⟩
abbrev cX12_back : ByteArray := prog_14_method_5_code
def yX12_back : MethodName := ⟨RX12, "back", "(I)I"⟩
abbrev cX12_byteAt : ByteArray := prog_14_method_6_code
def yX12_byteAt : MethodName := ⟨RX12, "byteAt", "(I)I"⟩
abbrev cX12_isDigit : ByteArray := prog_14_method_7_code
def yX12_isDigit : MethodName := ⟨RX12, "isDigit", "(I)Z"⟩
abbrev cX12_isLetter : ByteArray := prog_14_method_8_code
def yX12_isLetter : MethodName := ⟨RX12, "isLetter", "(I)Z"⟩
abbrev cX12_appends : ByteArray := prog_14_method_9_code
def yX12_appends : MethodName := ⟨RX12, "appends", "(JI)J"⟩
abbrev cX12_word : ByteArray := prog_14_method_10_code
def yX12_word : MethodName := ⟨RX12, "word", "(IIIIIII)J"⟩
abbrev cX12_token : ByteArray := prog_14_method_11_code
def yX12_token : MethodName := ⟨RX12, "token", "(IIIJ)V"⟩
abbrev cX12_cut : ByteArray := prog_14_method_12_code
def yX12_cut : MethodName := ⟨RX12, "cut", "()V"⟩
abbrev cX12_sign : ByteArray := prog_14_method_13_code
def yX12_sign : MethodName := ⟨RX12, "sign", "(III)I"⟩
abbrev cX12_is : ByteArray := prog_14_method_14_code
def yX12_is : MethodName := ⟨RX12, "is", "(I)Z"⟩
abbrev cX12_fail : ByteArray := prog_14_method_15_code
def yX12_fail : MethodName := ⟨RX12, "fail", "(I)V"⟩
abbrev cX12_wrong : ByteArray := prog_14_method_16_code
def yX12_wrong : MethodName := ⟨RX12, "wrong", "(II)V"⟩
abbrev cX12_goesOn : ByteArray := prog_14_method_17_code
def yX12_goesOn : MethodName := ⟨RX12, "goesOn", "()V"⟩
abbrev cX12_must : ByteArray := prog_14_method_18_code
def yX12_must : MethodName := ⟨RX12, "must", "(I)V"⟩
abbrev cX12_plain : ByteArray := prog_14_method_19_code
def yX12_plain : MethodName := ⟨RX12, "plain", "(I)V"⟩
abbrev cX12_read : ByteArray := prog_14_method_20_code
def yX12_read : MethodName := ⟨RX12, "read", "()I"⟩
abbrev cX12_place : ByteArray := prog_14_method_21_code
def yX12_place : MethodName := ⟨RX12, "place", "()I"⟩
abbrev cX12_roomFor : ByteArray := prog_14_method_22_code
def yX12_roomFor : MethodName := ⟨RX12, "roomFor", "(II)V"⟩
abbrev cX12_toldInt : ByteArray := prog_14_method_23_code
def yX12_toldInt : MethodName := ⟨RX12, "toldInt", "(II)I"⟩
abbrev cX12_tellOne : ByteArray := prog_14_method_24_code
def yX12_tellOne : MethodName := ⟨RX12, "tellOne", "()V"⟩
abbrev cX12_numberOf : ByteArray := prog_14_method_25_code
def yX12_numberOf : MethodName := ⟨RX12, "numberOf", "(I)I"⟩
abbrev cX12_bounded : ByteArray := prog_14_method_26_code
def yX12_bounded : MethodName := ⟨RX12, "bounded", "(II)I"⟩
abbrev cX12_tellPerson : ByteArray := prog_14_method_27_code
def yX12_tellPerson : MethodName := ⟨RX12, "tellPerson", "()V"⟩
abbrev cX12_known : ByteArray := prog_14_method_28_code
def yX12_known : MethodName := ⟨RX12, "known", "()I"⟩
abbrev cX12_tellSuit : ByteArray := prog_14_method_29_code
def yX12_tellSuit : MethodName := ⟨RX12, "tellSuit", "()V"⟩
abbrev cX12_tellLaw : ByteArray := prog_14_method_30_code
def yX12_tellLaw : MethodName := ⟨RX12, "tellLaw", "(I)V"⟩
abbrev cX12_term : ByteArray := prog_14_method_31_code
def yX12_term : MethodName := ⟨RX12, "term", "()V"⟩
abbrev cX12_emit : ByteArray := prog_14_method_32_code
def yX12_emit : MethodName := ⟨RX12, "emit", "(II)V"⟩
abbrev cX12_comesOut : ByteArray := prog_14_method_33_code
def yX12_comesOut : MethodName := ⟨RX12, "comesOut", "(Z)V"⟩
abbrev cX12_expression : ByteArray := prog_14_method_34_code
def yX12_expression : MethodName := ⟨RX12, "expression", "()V"⟩
abbrev cX12_unit : ByteArray := prog_14_method_35_code
def yX12_unit : MethodName := ⟨RX12, "unit", "()V"⟩
abbrev cX12_termOf : ByteArray := prog_14_method_36_code
def yX12_termOf : MethodName := ⟨RX12, "termOf", "(II)I"⟩
abbrev cX12_in : ByteArray := prog_14_method_37_code
def yX12_in : MethodName := ⟨RX12, "in", "(III)Z"⟩
abbrev cX12_within : ByteArray := prog_14_method_38_code
def yX12_within : MethodName := ⟨RX12, "within", "(III)I"⟩
abbrev cX12_bits : ByteArray := prog_14_method_39_code
def yX12_bits : MethodName := ⟨RX12, "bits", "(I)I"⟩
abbrev cX12_off : ByteArray := prog_14_method_40_code
def yX12_off : MethodName := ⟨RX12, "off", "(II)I"⟩
abbrev cX12_isPerson : ByteArray := prog_14_method_41_code
def yX12_isPerson : MethodName := ⟨RX12, "isPerson", "(I)Z"⟩
abbrev cX12_areTwo : ByteArray := prog_14_method_42_code
def yX12_areTwo : MethodName := ⟨RX12, "areTwo", "(II)Z"⟩
abbrev cX12_isStuff : ByteArray := prog_14_method_43_code
def yX12_isStuff : MethodName := ⟨RX12, "isStuff", "(I)Z"⟩
abbrev cX12_begins : ByteArray := prog_14_method_44_code
def yX12_begins : MethodName := ⟨RX12, "begins", "()V"⟩
abbrev cX12_keepsRow : ByteArray := prog_14_method_45_code
def yX12_keepsRow : MethodName := ⟨RX12, "keepsRow", "()V"⟩
abbrev cX12_copies : ByteArray := prog_14_method_46_code
def yX12_copies : MethodName := ⟨RX12, "copies", "()V"⟩
abbrev cX12_copiesStill : ByteArray := prog_14_method_47_code
def yX12_copiesStill : MethodName := ⟨RX12, "copiesStill", "()V"⟩
abbrev cX12_mixed : ByteArray := prog_14_method_48_code
def yX12_mixed : MethodName := ⟨RX12, "mixed", "(II)I"⟩
abbrev cX12_lotOf : ByteArray := prog_14_method_49_code
def yX12_lotOf : MethodName := ⟨RX12, "lotOf", "(II)I"⟩
abbrev cX12_isThumb : ByteArray := prog_14_method_50_code
def yX12_isThumb : MethodName := ⟨RX12, "isThumb", "()Z"⟩
abbrev cX12_fourFrom : ByteArray := prog_14_method_51_code
def yX12_fourFrom : MethodName := ⟨RX12, "fourFrom", "(I)I"⟩
abbrev cX12_apartOf : ByteArray := prog_14_method_52_code
def yX12_apartOf : MethodName := ⟨RX12, "apartOf", "(II)I"⟩
abbrev cX12_lawTells : ByteArray := prog_14_method_53_code
def yX12_lawTells : MethodName := ⟨RX12, "lawTells", "(II)I"⟩
abbrev cX12_looks : ByteArray := prog_14_method_54_code
def yX12_looks : MethodName := ⟨RX12, "looks", "(II)V"⟩
abbrev cX12_looksBoth : ByteArray := prog_14_method_55_code
def yX12_looksBoth : MethodName := ⟨RX12, "looksBoth", "(II)V"⟩
abbrev cX12_doQuarrel : ByteArray := prog_14_method_56_code
def yX12_doQuarrel : MethodName := ⟨RX12, "doQuarrel", "(II)Z"⟩
abbrev cX12_turnTells : ByteArray := prog_14_method_57_code
def yX12_turnTells : MethodName := ⟨RX12, "turnTells", "(IIII)I"⟩
abbrev cX12_allOf : ByteArray := prog_14_method_58_code
def yX12_allOf : MethodName := ⟨RX12, "allOf", "(III)I"⟩
abbrev cX12_staysOf : ByteArray := prog_14_method_59_code
def yX12_staysOf : MethodName := ⟨RX12, "staysOf", "(III)I"⟩
abbrev cX12_turnsBoth : ByteArray := prog_14_method_60_code
def yX12_turnsBoth : MethodName := ⟨RX12, "turnsBoth", "(II)V"⟩
abbrev cX12_isDue : ByteArray := prog_14_method_61_code
def yX12_isDue : MethodName := ⟨RX12, "isDue", "(II)Z"⟩
abbrev cX12_dayGoes : ByteArray := prog_14_method_62_code
def yX12_dayGoes : MethodName := ⟨RX12, "dayGoes", "()V"⟩
abbrev cX12_goes : ByteArray := prog_14_method_63_code
def yX12_goes : MethodName := ⟨RX12, "goes", "(I)V"⟩
abbrev cX12_quarrelMany : ByteArray := prog_14_method_64_code
def yX12_quarrelMany : MethodName := ⟨RX12, "quarrelMany", "()I"⟩
abbrev cX12_foesOf : ByteArray := prog_14_method_65_code
def yX12_foesOf : MethodName := ⟨RX12, "foesOf", "(I)I"⟩
abbrev cX12_person : ByteArray := prog_14_method_66_code
def yX12_person : MethodName := ⟨RX12, "person", "(II)I"⟩
abbrev cX12_screw : ByteArray := prog_14_method_67_code
def yX12_screw : MethodName := ⟨RX12, "screw", "(I)I"⟩
abbrev cX12_suit : ByteArray := prog_14_method_68_code
def yX12_suit : MethodName := ⟨RX12, "suit", "(II)I"⟩
abbrev cX12_tells : ByteArray := prog_14_method_69_code
def yX12_tells : MethodName := ⟨RX12, "tells", "(III)I"⟩
abbrev cX12_records : ByteArray := prog_14_method_70_code
def yX12_records : MethodName := ⟨RX12, "records", "()V"⟩
abbrev cX12_put : ByteArray := prog_14_method_71_code
def yX12_put : MethodName := ⟨RX12, "put", "(II)I"⟩
abbrev cX12_bread : ByteArray := prog_14_method_72_code
def yX12_bread : MethodName := ⟨RX12, "bread", "(II)Z"⟩
abbrev cX12_plate : ByteArray := prog_14_method_73_code
def yX12_plate : MethodName := ⟨RX12, "plate", "(I)Z"⟩
abbrev cX12_wash : ByteArray := prog_14_method_74_code
def yX12_wash : MethodName := ⟨RX12, "wash", "()I"⟩
abbrev cX12_isLong : ByteArray := prog_14_method_75_code
def yX12_isLong : MethodName := ⟨RX12, "isLong", "(I)Z"⟩
abbrev cX12_days : ByteArray := prog_14_method_76_code
def yX12_days : MethodName := ⟨RX12, "days", "(I)I"⟩
abbrev cX12_undo : ByteArray := prog_14_method_77_code
def yX12_undo : MethodName := ⟨RX12, "undo", "()Z"⟩
abbrev cX12_fillsPairs : ByteArray := prog_14_method_78_code
def yX12_fillsPairs : MethodName := ⟨RX12, "fillsPairs", "()V"⟩
abbrev cX12_turnsPair : ByteArray := prog_14_method_79_code
def yX12_turnsPair : MethodName := ⟨RX12, "turnsPair", "(I)V"⟩
abbrev cX12_isReached : ByteArray := prog_14_method_80_code
def yX12_isReached : MethodName := ⟨RX12, "isReached", "()Z"⟩
abbrev cX12_power : ByteArray := prog_14_method_81_code
def yX12_power : MethodName := ⟨RX12, "power", "(II)I"⟩
abbrev cX12_pairAt : ByteArray := prog_14_method_82_code
def yX12_pairAt : MethodName := ⟨RX12, "pairAt", "(III)I"⟩
abbrev cX12_doesWay : ByteArray := prog_14_method_83_code
def yX12_doesWay : MethodName := ⟨RX12, "doesWay", "(II)Z"⟩
abbrev cX12_rowTo : ByteArray := prog_14_method_84_code
def yX12_rowTo : MethodName := ⟨RX12, "rowTo", "(I)I"⟩
abbrev cX12_calm : ByteArray := prog_14_method_85_code
def yX12_calm : MethodName := ⟨RX12, "calm", "(I)I"⟩
abbrev cX12_rich : ByteArray := prog_14_method_86_code
def yX12_rich : MethodName := ⟨RX12, "rich", "(IIII)I"⟩
abbrev cX12_alike : ByteArray := prog_14_method_87_code
def yX12_alike : MethodName := ⟨RX12, "alike", "(III)I"⟩
abbrev cX12_best : ByteArray := prog_14_method_88_code
def yX12_best : MethodName := ⟨RX12, "best", "(I)I"⟩
abbrev cX12_gain : ByteArray := prog_14_method_89_code
def yX12_gain : MethodName := ⟨RX12, "gain", "(III)I"⟩
abbrev cX12_plates : ByteArray := prog_14_method_90_code
def yX12_plates : MethodName := ⟨RX12, "plates", "(III)I"⟩
abbrev cX12_crumbs : ByteArray := prog_14_method_91_code
def yX12_crumbs : MethodName := ⟨RX12, "crumbs", "(IIII)I"⟩
abbrev cX12_poorest : ByteArray := prog_14_method_92_code
def yX12_poorest : MethodName := ⟨RX12, "poorest", "(I)I"⟩
abbrev cX12_fillsFoes : ByteArray := prog_14_method_93_code
def yX12_fillsFoes : MethodName := ⟨RX12, "fillsFoes", "()V"⟩
abbrev cX12_foes : ByteArray := prog_14_method_94_code
def yX12_foes : MethodName := ⟨RX12, "foes", "(I)I"⟩
abbrev cX12_isPeace : ByteArray := prog_14_method_95_code
def yX12_isPeace : MethodName := ⟨RX12, "isPeace", "(I)Z"⟩
abbrev cX12_peace : ByteArray := prog_14_method_96_code
def yX12_peace : MethodName := ⟨RX12, "peace", "(I)I"⟩
abbrev cX12_lowestOf : ByteArray := prog_14_method_97_code
def yX12_lowestOf : MethodName := ⟨RX12, "lowestOf", "(I)I"⟩
abbrev cX12_fillsPaired : ByteArray := prog_14_method_98_code
def yX12_fillsPaired : MethodName := ⟨RX12, "fillsPaired", "()V"⟩
abbrev cX12_pairedOf : ByteArray := prog_14_method_99_code
def yX12_pairedOf : MethodName := ⟨RX12, "pairedOf", "(I)I"⟩
abbrev cX12_paired : ByteArray := prog_14_method_100_code
def yX12_paired : MethodName := ⟨RX12, "paired", "(I)I"⟩
abbrev cX12_most : ByteArray := prog_14_method_101_code
def yX12_most : MethodName := ⟨RX12, "most", "(II)I"⟩
abbrev cX12_likest : ByteArray := prog_14_method_102_code
def yX12_likest : MethodName := ⟨RX12, "likest", "(I)I"⟩
abbrev cX12_fair : ByteArray := prog_14_method_103_code
def yX12_fair : MethodName := ⟨RX12, "fair", "(I)I"⟩
abbrev cX12_isEnded : ByteArray := prog_14_method_104_code
def yX12_isEnded : MethodName := ⟨RX12, "isEnded", "()Z"⟩
abbrev cX12_ends : ByteArray := prog_14_method_105_code
def yX12_ends : MethodName := ⟨RX12, "ends", "()I"⟩
abbrev cX12_bill : ByteArray := prog_14_method_106_code
def yX12_bill : MethodName := ⟨RX12, "bill", "(I)I"⟩
abbrev cX12_then : ByteArray := prog_14_method_107_code
def yX12_then : MethodName := ⟨RX12, "then", "(III)I"⟩
abbrev cX12_foesIn : ByteArray := prog_14_method_108_code
def yX12_foesIn : MethodName := ⟨RX12, "foesIn", "(II)I"⟩
abbrev cX12_turnsIn : ByteArray := prog_14_method_109_code
def yX12_turnsIn : MethodName := ⟨RX12, "turnsIn", "(I)I"⟩
abbrev cX12_year : ByteArray := prog_14_method_110_code
def yX12_year : MethodName := ⟨RX12, "year", "(IIII)I"⟩
abbrev cX12_tell : ByteArray := prog_14_method_111_code
def yX12_tell : MethodName := ⟨RX12, "tell", "(IIIZ)I"⟩
abbrev cX12_forget : ByteArray := prog_14_method_112_code
def yX12_forget : MethodName := ⟨RX12, "forget", "()I"⟩
abbrev cX12_fillsTwo : ByteArray := prog_14_method_113_code
def yX12_fillsTwo : MethodName := ⟨RX12, "fillsTwo", "(I)I"⟩
abbrev cX12_two : ByteArray := prog_14_method_114_code
def yX12_two : MethodName := ⟨RX12, "two", "(II)I"⟩
abbrev cX12_ask : ByteArray := prog_14_method_115_code
def yX12_ask : MethodName := ⟨RX12, "ask", "(II)I"⟩
abbrev cX12_hold : ByteArray := prog_14_method_116_code
def yX12_hold : MethodName := ⟨RX12, "hold", "(I)Z"⟩
abbrev cX12_restore : ByteArray := prog_14_method_117_code
def yX12_restore : MethodName := ⟨RX12, "restore", "(I)Z"⟩
abbrev cX12_count : ByteArray := prog_14_method_118_code
def yX12_count : MethodName := ⟨RX12, "count", "(I)I"⟩
def RJ6 : String := "java/lang/Integer"
abbrev cJ6_bitCount_0f7a4 : ByteArray := prog_16_method_49_code
def yJ6_bitCount_0f7a4 : MethodName := ⟨RJ6, "bitCount", "(I)I"⟩
def RJ9 : String := "java/lang/Math"
abbrev cJ9_abs_0f7a4 : ByteArray := prog_17_method_59_code
def yJ9_abs_0f7a4 : MethodName := ⟨RJ9, "abs", "(I)I"⟩
abbrev cJ9_max_7cf53 : ByteArray := prog_17_method_65_code
def yJ9_max_7cf53 : MethodName := ⟨RJ9, "max", "(II)I"⟩
abbrev cJ9_min_7cf53 : ByteArray := prog_17_method_69_code
def yJ9_min_7cf53 : MethodName := ⟨RJ9, "min", "(II)I"⟩
def RL : String := "MincedCasesLaw"
abbrev cL_law : ByteArray := code
def yL_law : MethodName := ⟨RL, "law", "([I)Z"⟩
abbrev mzCl : List vw_C := [(RX0, TX0, 3), (RX1, TX1, 3), (RX2, TX2, 6), (RX3, TX3, 2), (RX4, TX4, 8), (RX5, TX5, 10), (RX6, TX6, 8), (RX7, TX7, 2), (RX8, TX8, 9), (RX9, TX9, 6), (RX10, TX10, 7), (RX11, TX11, 14), (RX12, TX12, 70)]
