-- ===== PART A: goes FIRST, ahead of the names: the tables' words, and 'selects' of the private methods out of them =====
/-- a private method of a class that the tables say can be made, by its rows of tables_1 -/
def lw_okq (q : MethodName × Nat) : Prop := (q.1.cls ≠ "java/lang/invoke/MethodHandle" ∧ q.1.cls ≠ "java/lang/invoke/VarHandle") ∧ Cond.instantiable q.1.cls q.2 ∈ tables_1 ∧ Cond.privateMethod q.1 ∈ tables_1 ∧ Cond.instanceMethod q.1 ∈ tables_1
theorem lw_p0 : lw_okq (⟨"DoorLetters$Text", "byteAt", "(I)I"⟩, 7) := ⟨⟨by decide +kernel, by decide +kernel⟩, List.mem_of_getElem? (i := 31) (by decide +kernel), List.mem_of_getElem? (i := 462) (by decide +kernel), List.mem_of_getElem? (i := 463) (by decide +kernel)⟩
theorem lw_p1 : lw_okq (⟨"DoorLetters$VillageReader", "readClause", "(LDoorLetters$Text;)V"⟩, 2) := ⟨⟨by decide +kernel, by decide +kernel⟩, List.mem_of_getElem? (i := 65) (by decide +kernel), List.mem_of_getElem? (i := 472) (by decide +kernel), List.mem_of_getElem? (i := 473) (by decide +kernel)⟩
theorem lw_p2 : lw_okq (⟨"DoorLetters$VillageReader", "readPerson", "(LDoorLetters$Text;)V"⟩, 2) := ⟨⟨by decide +kernel, by decide +kernel⟩, List.mem_of_getElem? (i := 65) (by decide +kernel), List.mem_of_getElem? (i := 544) (by decide +kernel), List.mem_of_getElem? (i := 545) (by decide +kernel)⟩
theorem lw_p3 : lw_okq (⟨"DoorLetters$VillageReader", "readLetter", "(LDoorLetters$Text;)V"⟩, 2) := ⟨⟨by decide +kernel, by decide +kernel⟩, List.mem_of_getElem? (i := 65) (by decide +kernel), List.mem_of_getElem? (i := 548) (by decide +kernel), List.mem_of_getElem? (i := 549) (by decide +kernel)⟩
theorem lw_p4 : lw_okq (⟨"DoorLetters$RuleReader", "readClaim", "(LDoorLetters$Text;)V"⟩, 9) := ⟨⟨by decide +kernel, by decide +kernel⟩, List.mem_of_getElem? (i := 135) (by decide +kernel), List.mem_of_getElem? (i := 578) (by decide +kernel), List.mem_of_getElem? (i := 579) (by decide +kernel)⟩
theorem lw_p5 : lw_okq (⟨"DoorLetters$RuleReader", "readFactBegin", "(LDoorLetters$Text;)V"⟩, 9) := ⟨⟨by decide +kernel, by decide +kernel⟩, List.mem_of_getElem? (i := 135) (by decide +kernel), List.mem_of_getElem? (i := 585) (by decide +kernel), List.mem_of_getElem? (i := 586) (by decide +kernel)⟩
theorem lw_p6 : lw_okq (⟨"DoorLetters$RuleReader", "readValue", "(LDoorLetters$Text;)V"⟩, 9) := ⟨⟨by decide +kernel, by decide +kernel⟩, List.mem_of_getElem? (i := 135) (by decide +kernel), List.mem_of_getElem? (i := 590) (by decide +kernel), List.mem_of_getElem? (i := 591) (by decide +kernel)⟩
theorem lw_p7 : lw_okq (⟨"DoorLetters$RuleReader", "countPart", "(LDoorLetters$Text;)V"⟩, 9) := ⟨⟨by decide +kernel, by decide +kernel⟩, List.mem_of_getElem? (i := 135) (by decide +kernel), List.mem_of_getElem? (i := 612) (by decide +kernel), List.mem_of_getElem? (i := 613) (by decide +kernel)⟩
theorem lw_p8 : lw_okq (⟨"DoorLetters$RuleReader", "write", "(I)V"⟩, 9) := ⟨⟨by decide +kernel, by decide +kernel⟩, List.mem_of_getElem? (i := 135) (by decide +kernel), List.mem_of_getElem? (i := 616) (by decide +kernel), List.mem_of_getElem? (i := 617) (by decide +kernel)⟩
theorem lw_p9 : lw_okq (⟨"DoorLetters$RuleReader", "hold", "(I)V"⟩, 9) := ⟨⟨by decide +kernel, by decide +kernel⟩, List.mem_of_getElem? (i := 135) (by decide +kernel), List.mem_of_getElem? (i := 620) (by decide +kernel), List.mem_of_getElem? (i := 621) (by decide +kernel)⟩
theorem lw_p10 : lw_okq (⟨"DoorLetters$RuleReader", "readJoint", "(LDoorLetters$Text;)V"⟩, 9) := ⟨⟨by decide +kernel, by decide +kernel⟩, List.mem_of_getElem? (i := 135) (by decide +kernel), List.mem_of_getElem? (i := 624) (by decide +kernel), List.mem_of_getElem? (i := 625) (by decide +kernel)⟩
theorem lw_p11 : lw_okq (⟨"DoorLetters$RuleReader", "joinBy", "(II)V"⟩, 9) := ⟨⟨by decide +kernel, by decide +kernel⟩, List.mem_of_getElem? (i := 135) (by decide +kernel), List.mem_of_getElem? (i := 631) (by decide +kernel), List.mem_of_getElem? (i := 632) (by decide +kernel)⟩
theorem lw_p12 : lw_okq (⟨"DoorLetters$RuleReader", "settle", "(I)V"⟩, 9) := ⟨⟨by decide +kernel, by decide +kernel⟩, List.mem_of_getElem? (i := 135) (by decide +kernel), List.mem_of_getElem? (i := 638) (by decide +kernel), List.mem_of_getElem? (i := 639) (by decide +kernel)⟩
theorem lw_p13 : lw_okq (⟨"DoorLetters$RuleReader", "endClause", "(LDoorLetters$Text;I)V"⟩, 9) := ⟨⟨by decide +kernel, by decide +kernel⟩, List.mem_of_getElem? (i := 135) (by decide +kernel), List.mem_of_getElem? (i := 643) (by decide +kernel), List.mem_of_getElem? (i := 644) (by decide +kernel)⟩
theorem lw_p14 : lw_okq (⟨"DoorLetters$RuleReader", "readSign", "(LDoorLetters$Text;)V"⟩, 9) := ⟨⟨by decide +kernel, by decide +kernel⟩, List.mem_of_getElem? (i := 135) (by decide +kernel), List.mem_of_getElem? (i := 647) (by decide +kernel), List.mem_of_getElem? (i := 648) (by decide +kernel)⟩
theorem lw_p15 : lw_okq (⟨"DoorLetters$RuleReader", "readBehindFact", "(LDoorLetters$Text;)V"⟩, 9) := ⟨⟨by decide +kernel, by decide +kernel⟩, List.mem_of_getElem? (i := 135) (by decide +kernel), List.mem_of_getElem? (i := 654) (by decide +kernel), List.mem_of_getElem? (i := 655) (by decide +kernel)⟩
def lw_privs_1 : List (MethodName × Nat) := [(⟨"DoorLetters$Text", "byteAt", "(I)I"⟩, 7), (⟨"DoorLetters$VillageReader", "readClause", "(LDoorLetters$Text;)V"⟩, 2), (⟨"DoorLetters$VillageReader", "readPerson", "(LDoorLetters$Text;)V"⟩, 2), (⟨"DoorLetters$VillageReader", "readLetter", "(LDoorLetters$Text;)V"⟩, 2), (⟨"DoorLetters$RuleReader", "readClaim", "(LDoorLetters$Text;)V"⟩, 9), (⟨"DoorLetters$RuleReader", "readFactBegin", "(LDoorLetters$Text;)V"⟩, 9), (⟨"DoorLetters$RuleReader", "readValue", "(LDoorLetters$Text;)V"⟩, 9), (⟨"DoorLetters$RuleReader", "countPart", "(LDoorLetters$Text;)V"⟩, 9), (⟨"DoorLetters$RuleReader", "write", "(I)V"⟩, 9), (⟨"DoorLetters$RuleReader", "hold", "(I)V"⟩, 9), (⟨"DoorLetters$RuleReader", "readJoint", "(LDoorLetters$Text;)V"⟩, 9), (⟨"DoorLetters$RuleReader", "joinBy", "(II)V"⟩, 9), (⟨"DoorLetters$RuleReader", "settle", "(I)V"⟩, 9), (⟨"DoorLetters$RuleReader", "endClause", "(LDoorLetters$Text;I)V"⟩, 9), (⟨"DoorLetters$RuleReader", "readSign", "(LDoorLetters$Text;)V"⟩, 9), (⟨"DoorLetters$RuleReader", "readBehindFact", "(LDoorLetters$Text;)V"⟩, 9)]
theorem lw_r1 : ∀ q ∈ lw_privs_1, lw_okq q := List.forall_mem_cons.mpr ⟨lw_p0, List.forall_mem_cons.mpr ⟨lw_p1, List.forall_mem_cons.mpr ⟨lw_p2, List.forall_mem_cons.mpr ⟨lw_p3, List.forall_mem_cons.mpr ⟨lw_p4, List.forall_mem_cons.mpr ⟨lw_p5, List.forall_mem_cons.mpr ⟨lw_p6, List.forall_mem_cons.mpr ⟨lw_p7, List.forall_mem_cons.mpr ⟨lw_p8, List.forall_mem_cons.mpr ⟨lw_p9, List.forall_mem_cons.mpr ⟨lw_p10, List.forall_mem_cons.mpr ⟨lw_p11, List.forall_mem_cons.mpr ⟨lw_p12, List.forall_mem_cons.mpr ⟨lw_p13, List.forall_mem_cons.mpr ⟨lw_p14, List.forall_mem_cons.mpr ⟨lw_p15, fun _ h => absurd h List.not_mem_nil⟩⟩⟩⟩⟩⟩⟩⟩⟩⟩⟩⟩⟩⟩⟩⟩
theorem lw_p16 : lw_okq (⟨"DoorLetters", "isPerson", "(I)Z"⟩, 11) := ⟨⟨by decide +kernel, by decide +kernel⟩, List.mem_of_getElem? (i := 23) (by decide +kernel), List.mem_of_getElem? (i := 703) (by decide +kernel), List.mem_of_getElem? (i := 704) (by decide +kernel)⟩
theorem lw_p17 : lw_okq (⟨"DoorLetters", "isLetter", "(I)Z"⟩, 11) := ⟨⟨by decide +kernel, by decide +kernel⟩, List.mem_of_getElem? (i := 23) (by decide +kernel), List.mem_of_getElem? (i := 711) (by decide +kernel), List.mem_of_getElem? (i := 712) (by decide +kernel)⟩
theorem lw_p18 : lw_okq (⟨"DoorLetters", "isVillage", "()Z"⟩, 11) := ⟨⟨by decide +kernel, by decide +kernel⟩, List.mem_of_getElem? (i := 23) (by decide +kernel), List.mem_of_getElem? (i := 719) (by decide +kernel), List.mem_of_getElem? (i := 720) (by decide +kernel)⟩
theorem lw_p19 : lw_okq (⟨"DoorLetters", "ruleInForce", "()LDoorLetters$Rule;"⟩, 11) := ⟨⟨by decide +kernel, by decide +kernel⟩, List.mem_of_getElem? (i := 23) (by decide +kernel), List.mem_of_getElem? (i := 732) (by decide +kernel), List.mem_of_getElem? (i := 733) (by decide +kernel)⟩
theorem lw_p20 : lw_okq (⟨"DoorLetters$Walk", "wouldClaim", "(IIII)Z"⟩, 4) := ⟨⟨by decide +kernel, by decide +kernel⟩, List.mem_of_getElem? (i := 279) (by decide +kernel), List.mem_of_getElem? (i := 748) (by decide +kernel), List.mem_of_getElem? (i := 749) (by decide +kernel)⟩
theorem lw_p21 : lw_okq (⟨"DoorLetters$Walk", "hand", "(II)V"⟩, 4) := ⟨⟨by decide +kernel, by decide +kernel⟩, List.mem_of_getElem? (i := 279) (by decide +kernel), List.mem_of_getElem? (i := 765) (by decide +kernel), List.mem_of_getElem? (i := 766) (by decide +kernel)⟩
theorem lw_p22 : lw_okq (⟨"DoorLetters$Present", "fewestFor", "(LDoorLetters$State;I)I"⟩, 4) := ⟨⟨by decide +kernel, by decide +kernel⟩, List.mem_of_getElem? (i := 303) (by decide +kernel), List.mem_of_getElem? (i := 846) (by decide +kernel), List.mem_of_getElem? (i := 847) (by decide +kernel)⟩
theorem lw_p23 : lw_okq (⟨"DoorLetters$Present", "askedBy", "(LDoorLetters$State;II)I"⟩, 4) := ⟨⟨by decide +kernel, by decide +kernel⟩, List.mem_of_getElem? (i := 303) (by decide +kernel), List.mem_of_getElem? (i := 850) (by decide +kernel), List.mem_of_getElem? (i := 851) (by decide +kernel)⟩
theorem lw_p24 : lw_okq (⟨"DoorLetters$Present", "tells", "(LDoorLetters$State;I)Z"⟩, 4) := ⟨⟨by decide +kernel, by decide +kernel⟩, List.mem_of_getElem? (i := 303) (by decide +kernel), List.mem_of_getElem? (i := 864) (by decide +kernel), List.mem_of_getElem? (i := 865) (by decide +kernel)⟩
theorem lw_p25 : lw_okq (⟨"DoorLetters$Present", "mostGiven", "(LDoorLetters$State;Z)J"⟩, 4) := ⟨⟨by decide +kernel, by decide +kernel⟩, List.mem_of_getElem? (i := 303) (by decide +kernel), List.mem_of_getElem? (i := 877) (by decide +kernel), List.mem_of_getElem? (i := 878) (by decide +kernel)⟩
theorem lw_p26 : lw_okq (⟨"DoorLetters$Present", "fillGains", "(LDoorLetters$State;IZ)V"⟩, 4) := ⟨⟨by decide +kernel, by decide +kernel⟩, List.mem_of_getElem? (i := 303) (by decide +kernel), List.mem_of_getElem? (i := 884) (by decide +kernel), List.mem_of_getElem? (i := 885) (by decide +kernel)⟩
theorem lw_p27 : lw_okq (⟨"DoorLetters$Future", "startOver", "(LDoorLetters$State;LDoorLetters$Rule;)V"⟩, 8) := ⟨⟨by decide +kernel, by decide +kernel⟩, List.mem_of_getElem? (i := 322) (by decide +kernel), List.mem_of_getElem? (i := 940) (by decide +kernel), List.mem_of_getElem? (i := 941) (by decide +kernel)⟩
theorem lw_p28 : lw_okq (⟨"DoorLetters$Future", "fittingDays", "(LDoorLetters$State;LDoorLetters$Rule;II)I"⟩, 8) := ⟨⟨by decide +kernel, by decide +kernel⟩, List.mem_of_getElem? (i := 322) (by decide +kernel), List.mem_of_getElem? (i := 979) (by decide +kernel), List.mem_of_getElem? (i := 980) (by decide +kernel)⟩
theorem lw_p29 : lw_okq (⟨"DoorLetters$Past", "readNotes", "(LDoorLetters$State;)Z"⟩, 7) := ⟨⟨by decide +kernel, by decide +kernel⟩, List.mem_of_getElem? (i := 359) (by decide +kernel), List.mem_of_getElem? (i := 994) (by decide +kernel), List.mem_of_getElem? (i := 995) (by decide +kernel)⟩
theorem lw_p30 : lw_okq (⟨"DoorLetters$Past", "isSo", "(LDoorLetters$Rule;I)Z"⟩, 7) := ⟨⟨by decide +kernel, by decide +kernel⟩, List.mem_of_getElem? (i := 359) (by decide +kernel), List.mem_of_getElem? (i := 1000) (by decide +kernel), List.mem_of_getElem? (i := 1001) (by decide +kernel)⟩
theorem lw_p31 : lw_okq (⟨"DoorLetters$Past", "mostAlike", "(II)I"⟩, 7) := ⟨⟨by decide +kernel, by decide +kernel⟩, List.mem_of_getElem? (i := 359) (by decide +kernel), List.mem_of_getElem? (i := 1055) (by decide +kernel), List.mem_of_getElem? (i := 1056) (by decide +kernel)⟩
def lw_privs_2 : List (MethodName × Nat) := [(⟨"DoorLetters", "isPerson", "(I)Z"⟩, 11), (⟨"DoorLetters", "isLetter", "(I)Z"⟩, 11), (⟨"DoorLetters", "isVillage", "()Z"⟩, 11), (⟨"DoorLetters", "ruleInForce", "()LDoorLetters$Rule;"⟩, 11), (⟨"DoorLetters$Walk", "wouldClaim", "(IIII)Z"⟩, 4), (⟨"DoorLetters$Walk", "hand", "(II)V"⟩, 4), (⟨"DoorLetters$Present", "fewestFor", "(LDoorLetters$State;I)I"⟩, 4), (⟨"DoorLetters$Present", "askedBy", "(LDoorLetters$State;II)I"⟩, 4), (⟨"DoorLetters$Present", "tells", "(LDoorLetters$State;I)Z"⟩, 4), (⟨"DoorLetters$Present", "mostGiven", "(LDoorLetters$State;Z)J"⟩, 4), (⟨"DoorLetters$Present", "fillGains", "(LDoorLetters$State;IZ)V"⟩, 4), (⟨"DoorLetters$Future", "startOver", "(LDoorLetters$State;LDoorLetters$Rule;)V"⟩, 8), (⟨"DoorLetters$Future", "fittingDays", "(LDoorLetters$State;LDoorLetters$Rule;II)I"⟩, 8), (⟨"DoorLetters$Past", "readNotes", "(LDoorLetters$State;)Z"⟩, 7), (⟨"DoorLetters$Past", "isSo", "(LDoorLetters$Rule;I)Z"⟩, 7), (⟨"DoorLetters$Past", "mostAlike", "(II)I"⟩, 7)]
theorem lw_r2 : ∀ q ∈ lw_privs_2, lw_okq q := List.forall_mem_cons.mpr ⟨lw_p16, List.forall_mem_cons.mpr ⟨lw_p17, List.forall_mem_cons.mpr ⟨lw_p18, List.forall_mem_cons.mpr ⟨lw_p19, List.forall_mem_cons.mpr ⟨lw_p20, List.forall_mem_cons.mpr ⟨lw_p21, List.forall_mem_cons.mpr ⟨lw_p22, List.forall_mem_cons.mpr ⟨lw_p23, List.forall_mem_cons.mpr ⟨lw_p24, List.forall_mem_cons.mpr ⟨lw_p25, List.forall_mem_cons.mpr ⟨lw_p26, List.forall_mem_cons.mpr ⟨lw_p27, List.forall_mem_cons.mpr ⟨lw_p28, List.forall_mem_cons.mpr ⟨lw_p29, List.forall_mem_cons.mpr ⟨lw_p30, List.forall_mem_cons.mpr ⟨lw_p31, fun _ h => absurd h List.not_mem_nil⟩⟩⟩⟩⟩⟩⟩⟩⟩⟩⟩⟩⟩⟩⟩⟩
theorem lw_p32 : lw_okq (⟨"DoorLetters$Future", "drawn", "(I)I"⟩, 8) := ⟨⟨by decide +kernel, by decide +kernel⟩, List.mem_of_getElem? (i := 322) (by decide +kernel), List.mem_of_getElem? (i := 1071) (by decide +kernel), List.mem_of_getElem? (i := 1072) (by decide +kernel)⟩
theorem lw_p33 : lw_okq (⟨"DoorLettersModel", "put", "(I)V"⟩, 54) := ⟨⟨by decide +kernel, by decide +kernel⟩, List.mem_of_getElem? (i := 1099) (by decide +kernel), List.mem_of_getElem? (i := 1272) (by decide +kernel), List.mem_of_getElem? (i := 1273) (by decide +kernel)⟩
theorem lw_p34 : lw_okq (⟨"DoorLettersModel", "readsAll", "()V"⟩, 54) := ⟨⟨by decide +kernel, by decide +kernel⟩, List.mem_of_getElem? (i := 1099) (by decide +kernel), List.mem_of_getElem? (i := 1284) (by decide +kernel), List.mem_of_getElem? (i := 1285) (by decide +kernel)⟩
theorem lw_p35 : lw_okq (⟨"DoorLettersModel", "starts", "()V"⟩, 54) := ⟨⟨by decide +kernel, by decide +kernel⟩, List.mem_of_getElem? (i := 1099) (by decide +kernel), List.mem_of_getElem? (i := 1288) (by decide +kernel), List.mem_of_getElem? (i := 1289) (by decide +kernel)⟩
theorem lw_p36 : lw_okq (⟨"DoorLettersModel", "villageClause", "(I)V"⟩, 54) := ⟨⟨by decide +kernel, by decide +kernel⟩, List.mem_of_getElem? (i := 1099) (by decide +kernel), List.mem_of_getElem? (i := 1292) (by decide +kernel), List.mem_of_getElem? (i := 1293) (by decide +kernel)⟩
theorem lw_p37 : lw_okq (⟨"DoorLettersModel", "blanks", "()V"⟩, 54) := ⟨⟨by decide +kernel, by decide +kernel⟩, List.mem_of_getElem? (i := 1099) (by decide +kernel), List.mem_of_getElem? (i := 1296) (by decide +kernel), List.mem_of_getElem? (i := 1297) (by decide +kernel)⟩
theorem lw_p38 : lw_okq (⟨"DoorLettersModel", "sign", "()I"⟩, 54) := ⟨⟨by decide +kernel, by decide +kernel⟩, List.mem_of_getElem? (i := 1099) (by decide +kernel), List.mem_of_getElem? (i := 1300) (by decide +kernel), List.mem_of_getElem? (i := 1301) (by decide +kernel)⟩
theorem lw_p39 : lw_okq (⟨"DoorLettersModel", "stood", "(Ljava/lang/String;)Z"⟩, 54) := ⟨⟨by decide +kernel, by decide +kernel⟩, List.mem_of_getElem? (i := 1099) (by decide +kernel), List.mem_of_getElem? (i := 1310) (by decide +kernel), List.mem_of_getElem? (i := 1311) (by decide +kernel)⟩
theorem lw_p40 : lw_okq (⟨"DoorLettersModel", "fails", "(II)V"⟩, 54) := ⟨⟨by decide +kernel, by decide +kernel⟩, List.mem_of_getElem? (i := 1099) (by decide +kernel), List.mem_of_getElem? (i := 1316) (by decide +kernel), List.mem_of_getElem? (i := 1317) (by decide +kernel)⟩
theorem lw_p41 : lw_okq (⟨"DoorLettersModel", "isOver", "(II)Z"⟩, 54) := ⟨⟨by decide +kernel, by decide +kernel⟩, List.mem_of_getElem? (i := 1099) (by decide +kernel), List.mem_of_getElem? (i := 1320) (by decide +kernel), List.mem_of_getElem? (i := 1321) (by decide +kernel)⟩
theorem lw_p42 : lw_okq (⟨"DoorLettersModel", "villagePart", "(I)V"⟩, 54) := ⟨⟨by decide +kernel, by decide +kernel⟩, List.mem_of_getElem? (i := 1099) (by decide +kernel), List.mem_of_getElem? (i := 1324) (by decide +kernel), List.mem_of_getElem? (i := 1325) (by decide +kernel)⟩
theorem lw_p43 : lw_okq (⟨"DoorLettersModel", "amount", "(II)I"⟩, 54) := ⟨⟨by decide +kernel, by decide +kernel⟩, List.mem_of_getElem? (i := 1099) (by decide +kernel), List.mem_of_getElem? (i := 1328) (by decide +kernel), List.mem_of_getElem? (i := 1329) (by decide +kernel)⟩
theorem lw_p44 : lw_okq (⟨"DoorLettersModel", "digits", "(I)I"⟩, 54) := ⟨⟨by decide +kernel, by decide +kernel⟩, List.mem_of_getElem? (i := 1099) (by decide +kernel), List.mem_of_getElem? (i := 1333) (by decide +kernel), List.mem_of_getElem? (i := 1334) (by decide +kernel)⟩
theorem lw_p45 : lw_okq (⟨"DoorLettersModel", "isDigit", "()Z"⟩, 54) := ⟨⟨by decide +kernel, by decide +kernel⟩, List.mem_of_getElem? (i := 1099) (by decide +kernel), List.mem_of_getElem? (i := 1337) (by decide +kernel), List.mem_of_getElem? (i := 1338) (by decide +kernel)⟩
theorem lw_p46 : lw_okq (⟨"DoorLettersModel", "goesOn", "()Z"⟩, 54) := ⟨⟨by decide +kernel, by decide +kernel⟩, List.mem_of_getElem? (i := 1099) (by decide +kernel), List.mem_of_getElem? (i := 1346) (by decide +kernel), List.mem_of_getElem? (i := 1347) (by decide +kernel)⟩
theorem lw_p47 : lw_okq (⟨"DoorLettersModel", "begins", "()V"⟩, 54) := ⟨⟨by decide +kernel, by decide +kernel⟩, List.mem_of_getElem? (i := 1099) (by decide +kernel), List.mem_of_getElem? (i := 1353) (by decide +kernel), List.mem_of_getElem? (i := 1354) (by decide +kernel)⟩
def lw_privs_3 : List (MethodName × Nat) := [(⟨"DoorLetters$Future", "drawn", "(I)I"⟩, 8), (⟨"DoorLettersModel", "put", "(I)V"⟩, 54), (⟨"DoorLettersModel", "readsAll", "()V"⟩, 54), (⟨"DoorLettersModel", "starts", "()V"⟩, 54), (⟨"DoorLettersModel", "villageClause", "(I)V"⟩, 54), (⟨"DoorLettersModel", "blanks", "()V"⟩, 54), (⟨"DoorLettersModel", "sign", "()I"⟩, 54), (⟨"DoorLettersModel", "stood", "(Ljava/lang/String;)Z"⟩, 54), (⟨"DoorLettersModel", "fails", "(II)V"⟩, 54), (⟨"DoorLettersModel", "isOver", "(II)Z"⟩, 54), (⟨"DoorLettersModel", "villagePart", "(I)V"⟩, 54), (⟨"DoorLettersModel", "amount", "(II)I"⟩, 54), (⟨"DoorLettersModel", "digits", "(I)I"⟩, 54), (⟨"DoorLettersModel", "isDigit", "()Z"⟩, 54), (⟨"DoorLettersModel", "goesOn", "()Z"⟩, 54), (⟨"DoorLettersModel", "begins", "()V"⟩, 54)]
theorem lw_r3 : ∀ q ∈ lw_privs_3, lw_okq q := List.forall_mem_cons.mpr ⟨lw_p32, List.forall_mem_cons.mpr ⟨lw_p33, List.forall_mem_cons.mpr ⟨lw_p34, List.forall_mem_cons.mpr ⟨lw_p35, List.forall_mem_cons.mpr ⟨lw_p36, List.forall_mem_cons.mpr ⟨lw_p37, List.forall_mem_cons.mpr ⟨lw_p38, List.forall_mem_cons.mpr ⟨lw_p39, List.forall_mem_cons.mpr ⟨lw_p40, List.forall_mem_cons.mpr ⟨lw_p41, List.forall_mem_cons.mpr ⟨lw_p42, List.forall_mem_cons.mpr ⟨lw_p43, List.forall_mem_cons.mpr ⟨lw_p44, List.forall_mem_cons.mpr ⟨lw_p45, List.forall_mem_cons.mpr ⟨lw_p46, List.forall_mem_cons.mpr ⟨lw_p47, fun _ h => absurd h List.not_mem_nil⟩⟩⟩⟩⟩⟩⟩⟩⟩⟩⟩⟩⟩⟩⟩⟩
theorem lw_p48 : lw_okq (⟨"DoorLettersModel", "ruleClause", "(I)V"⟩, 54) := ⟨⟨by decide +kernel, by decide +kernel⟩, List.mem_of_getElem? (i := 1099) (by decide +kernel), List.mem_of_getElem? (i := 1361) (by decide +kernel), List.mem_of_getElem? (i := 1362) (by decide +kernel)⟩
theorem lw_p49 : lw_okq (⟨"DoorLettersModel", "sum", "()V"⟩, 54) := ⟨⟨by decide +kernel, by decide +kernel⟩, List.mem_of_getElem? (i := 1099) (by decide +kernel), List.mem_of_getElem? (i := 1366) (by decide +kernel), List.mem_of_getElem? (i := 1367) (by decide +kernel)⟩
theorem lw_p50 : lw_okq (⟨"DoorLettersModel", "term", "()V"⟩, 54) := ⟨⟨by decide +kernel, by decide +kernel⟩, List.mem_of_getElem? (i := 1099) (by decide +kernel), List.mem_of_getElem? (i := 1370) (by decide +kernel), List.mem_of_getElem? (i := 1371) (by decide +kernel)⟩
theorem lw_p51 : lw_okq (⟨"DoorLettersModel", "value", "()V"⟩, 54) := ⟨⟨by decide +kernel, by decide +kernel⟩, List.mem_of_getElem? (i := 1099) (by decide +kernel), List.mem_of_getElem? (i := 1374) (by decide +kernel), List.mem_of_getElem? (i := 1375) (by decide +kernel)⟩
theorem lw_p52 : lw_okq (⟨"DoorLettersModel", "isCounted", "(I)V"⟩, 54) := ⟨⟨by decide +kernel, by decide +kernel⟩, List.mem_of_getElem? (i := 1099) (by decide +kernel), List.mem_of_getElem? (i := 1378) (by decide +kernel), List.mem_of_getElem? (i := 1379) (by decide +kernel)⟩
theorem lw_p53 : lw_okq (⟨"DoorLettersModel", "entry", "(II)V"⟩, 54) := ⟨⟨by decide +kernel, by decide +kernel⟩, List.mem_of_getElem? (i := 1099) (by decide +kernel), List.mem_of_getElem? (i := 1382) (by decide +kernel), List.mem_of_getElem? (i := 1383) (by decide +kernel)⟩
theorem lw_p54 : lw_okq (⟨"DoorLettersModel", "takes", "(Ljava/lang/String;)Z"⟩, 54) := ⟨⟨by decide +kernel, by decide +kernel⟩, List.mem_of_getElem? (i := 1099) (by decide +kernel), List.mem_of_getElem? (i := 1398) (by decide +kernel), List.mem_of_getElem? (i := 1399) (by decide +kernel)⟩
theorem lw_p55 : lw_okq (⟨"DoorLettersModel", "test", "()V"⟩, 54) := ⟨⟨by decide +kernel, by decide +kernel⟩, List.mem_of_getElem? (i := 1099) (by decide +kernel), List.mem_of_getElem? (i := 1402) (by decide +kernel), List.mem_of_getElem? (i := 1403) (by decide +kernel)⟩
theorem lw_p56 : lw_okq (⟨"DoorLettersModel", "fact", "()Z"⟩, 54) := ⟨⟨by decide +kernel, by decide +kernel⟩, List.mem_of_getElem? (i := 1099) (by decide +kernel), List.mem_of_getElem? (i := 1406) (by decide +kernel), List.mem_of_getElem? (i := 1407) (by decide +kernel)⟩
theorem lw_p57 : lw_okq (⟨"DoorLettersModel", "opens", "(I)V"⟩, 54) := ⟨⟨by decide +kernel, by decide +kernel⟩, List.mem_of_getElem? (i := 1099) (by decide +kernel), List.mem_of_getElem? (i := 1411) (by decide +kernel), List.mem_of_getElem? (i := 1412) (by decide +kernel)⟩
theorem lw_p58 : lw_okq (⟨"DoorLettersModel", "compared", "()V"⟩, 54) := ⟨⟨by decide +kernel, by decide +kernel⟩, List.mem_of_getElem? (i := 1099) (by decide +kernel), List.mem_of_getElem? (i := 1415) (by decide +kernel), List.mem_of_getElem? (i := 1416) (by decide +kernel)⟩
theorem lw_p59 : lw_okq (⟨"DoorLettersModel", "answers", "(I)V"⟩, 54) := ⟨⟨by decide +kernel, by decide +kernel⟩, List.mem_of_getElem? (i := 1099) (by decide +kernel), List.mem_of_getElem? (i := 1419) (by decide +kernel), List.mem_of_getElem? (i := 1420) (by decide +kernel)⟩
theorem lw_p60 : lw_okq (⟨"DoorLettersModel", "top", "()I"⟩, 54) := ⟨⟨by decide +kernel, by decide +kernel⟩, List.mem_of_getElem? (i := 1099) (by decide +kernel), List.mem_of_getElem? (i := 1423) (by decide +kernel), List.mem_of_getElem? (i := 1424) (by decide +kernel)⟩
theorem lw_p61 : lw_okq (⟨"DoorLettersModel", "isPerson", "(I)Z"⟩, 54) := ⟨⟨by decide +kernel, by decide +kernel⟩, List.mem_of_getElem? (i := 1099) (by decide +kernel), List.mem_of_getElem? (i := 1438) (by decide +kernel), List.mem_of_getElem? (i := 1439) (by decide +kernel)⟩
theorem lw_p62 : lw_okq (⟨"DoorLettersModel", "isLetter", "(I)Z"⟩, 54) := ⟨⟨by decide +kernel, by decide +kernel⟩, List.mem_of_getElem? (i := 1099) (by decide +kernel), List.mem_of_getElem? (i := 1446) (by decide +kernel), List.mem_of_getElem? (i := 1447) (by decide +kernel)⟩
theorem lw_p63 : lw_okq (⟨"DoorLettersModel", "fitsOf", "(II)I"⟩, 54) := ⟨⟨by decide +kernel, by decide +kernel⟩, List.mem_of_getElem? (i := 1099) (by decide +kernel), List.mem_of_getElem? (i := 1455) (by decide +kernel), List.mem_of_getElem? (i := 1456) (by decide +kernel)⟩
def lw_privs_4 : List (MethodName × Nat) := [(⟨"DoorLettersModel", "ruleClause", "(I)V"⟩, 54), (⟨"DoorLettersModel", "sum", "()V"⟩, 54), (⟨"DoorLettersModel", "term", "()V"⟩, 54), (⟨"DoorLettersModel", "value", "()V"⟩, 54), (⟨"DoorLettersModel", "isCounted", "(I)V"⟩, 54), (⟨"DoorLettersModel", "entry", "(II)V"⟩, 54), (⟨"DoorLettersModel", "takes", "(Ljava/lang/String;)Z"⟩, 54), (⟨"DoorLettersModel", "test", "()V"⟩, 54), (⟨"DoorLettersModel", "fact", "()Z"⟩, 54), (⟨"DoorLettersModel", "opens", "(I)V"⟩, 54), (⟨"DoorLettersModel", "compared", "()V"⟩, 54), (⟨"DoorLettersModel", "answers", "(I)V"⟩, 54), (⟨"DoorLettersModel", "top", "()I"⟩, 54), (⟨"DoorLettersModel", "isPerson", "(I)Z"⟩, 54), (⟨"DoorLettersModel", "isLetter", "(I)Z"⟩, 54), (⟨"DoorLettersModel", "fitsOf", "(II)I"⟩, 54)]
theorem lw_r4 : ∀ q ∈ lw_privs_4, lw_okq q := List.forall_mem_cons.mpr ⟨lw_p48, List.forall_mem_cons.mpr ⟨lw_p49, List.forall_mem_cons.mpr ⟨lw_p50, List.forall_mem_cons.mpr ⟨lw_p51, List.forall_mem_cons.mpr ⟨lw_p52, List.forall_mem_cons.mpr ⟨lw_p53, List.forall_mem_cons.mpr ⟨lw_p54, List.forall_mem_cons.mpr ⟨lw_p55, List.forall_mem_cons.mpr ⟨lw_p56, List.forall_mem_cons.mpr ⟨lw_p57, List.forall_mem_cons.mpr ⟨lw_p58, List.forall_mem_cons.mpr ⟨lw_p59, List.forall_mem_cons.mpr ⟨lw_p60, List.forall_mem_cons.mpr ⟨lw_p61, List.forall_mem_cons.mpr ⟨lw_p62, List.forall_mem_cons.mpr ⟨lw_p63, fun _ h => absurd h List.not_mem_nil⟩⟩⟩⟩⟩⟩⟩⟩⟩⟩⟩⟩⟩⟩⟩⟩
theorem lw_p64 : lw_okq (⟨"DoorLettersModel", "lacksOf", "(II)I"⟩, 54) := ⟨⟨by decide +kernel, by decide +kernel⟩, List.mem_of_getElem? (i := 1099) (by decide +kernel), List.mem_of_getElem? (i := 1462) (by decide +kernel), List.mem_of_getElem? (i := 1463) (by decide +kernel)⟩
theorem lw_p65 : lw_okq (⟨"DoorLettersModel", "beyondOf", "(II)I"⟩, 54) := ⟨⟨by decide +kernel, by decide +kernel⟩, List.mem_of_getElem? (i := 1099) (by decide +kernel), List.mem_of_getElem? (i := 1466) (by decide +kernel), List.mem_of_getElem? (i := 1467) (by decide +kernel)⟩
theorem lw_p66 : lw_okq (⟨"DoorLettersModel", "movesAll", "(IZ)V"⟩, 54) := ⟨⟨by decide +kernel, by decide +kernel⟩, List.mem_of_getElem? (i := 1099) (by decide +kernel), List.mem_of_getElem? (i := 1474) (by decide +kernel), List.mem_of_getElem? (i := 1475) (by decide +kernel)⟩
theorem lw_p67 : lw_okq (⟨"DoorLettersModel", "moves", "(I)I"⟩, 54) := ⟨⟨by decide +kernel, by decide +kernel⟩, List.mem_of_getElem? (i := 1099) (by decide +kernel), List.mem_of_getElem? (i := 1478) (by decide +kernel), List.mem_of_getElem? (i := 1479) (by decide +kernel)⟩
theorem lw_p68 : lw_okq (⟨"DoorLettersModel", "movesRow", "([I)V"⟩, 54) := ⟨⟨by decide +kernel, by decide +kernel⟩, List.mem_of_getElem? (i := 1099) (by decide +kernel), List.mem_of_getElem? (i := 1482) (by decide +kernel), List.mem_of_getElem? (i := 1483) (by decide +kernel)⟩
theorem lw_p69 : lw_okq (⟨"DoorLettersModel", "isVillage", "()Z"⟩, 54) := ⟨⟨by decide +kernel, by decide +kernel⟩, List.mem_of_getElem? (i := 1099) (by decide +kernel), List.mem_of_getElem? (i := 1490) (by decide +kernel), List.mem_of_getElem? (i := 1491) (by decide +kernel)⟩
theorem lw_p70 : lw_okq (⟨"DoorLettersModel", "keepsAct", "()V"⟩, 54) := ⟨⟨by decide +kernel, by decide +kernel⟩, List.mem_of_getElem? (i := 1099) (by decide +kernel), List.mem_of_getElem? (i := 1494) (by decide +kernel), List.mem_of_getElem? (i := 1495) (by decide +kernel)⟩
theorem lw_p71 : lw_okq (⟨"DoorLettersModel", "goes", "()I"⟩, 54) := ⟨⟨by decide +kernel, by decide +kernel⟩, List.mem_of_getElem? (i := 1099) (by decide +kernel), List.mem_of_getElem? (i := 1498) (by decide +kernel), List.mem_of_getElem? (i := 1499) (by decide +kernel)⟩
theorem lw_p72 : lw_okq (⟨"DoorLettersModel", "isRead", "(I)I"⟩, 54) := ⟨⟨by decide +kernel, by decide +kernel⟩, List.mem_of_getElem? (i := 1099) (by decide +kernel), List.mem_of_getElem? (i := 1502) (by decide +kernel), List.mem_of_getElem? (i := 1503) (by decide +kernel)⟩
theorem lw_p73 : lw_okq (⟨"DoorLettersModel", "isClaimed", "(III)Z"⟩, 54) := ⟨⟨by decide +kernel, by decide +kernel⟩, List.mem_of_getElem? (i := 1099) (by decide +kernel), List.mem_of_getElem? (i := 1506) (by decide +kernel), List.mem_of_getElem? (i := 1507) (by decide +kernel)⟩
theorem lw_p74 : lw_okq (⟨"DoorLettersModel", "wanted", "()J"⟩, 54) := ⟨⟨by decide +kernel, by decide +kernel⟩, List.mem_of_getElem? (i := 1099) (by decide +kernel), List.mem_of_getElem? (i := 1510) (by decide +kernel), List.mem_of_getElem? (i := 1511) (by decide +kernel)⟩
theorem lw_p75 : lw_okq (⟨"DoorLettersModel", "answer", "(III)J"⟩, 54) := ⟨⟨by decide +kernel, by decide +kernel⟩, List.mem_of_getElem? (i := 1099) (by decide +kernel), List.mem_of_getElem? (i := 1514) (by decide +kernel), List.mem_of_getElem? (i := 1515) (by decide +kernel)⟩
theorem lw_p76 : lw_okq (⟨"DoorLettersModel", "claimsIt", "(II)V"⟩, 54) := ⟨⟨by decide +kernel, by decide +kernel⟩, List.mem_of_getElem? (i := 1099) (by decide +kernel), List.mem_of_getElem? (i := 1524) (by decide +kernel), List.mem_of_getElem? (i := 1525) (by decide +kernel)⟩
theorem lw_p77 : lw_okq (⟨"DoorLettersModel", "bestMatter", "(I)I"⟩, 54) := ⟨⟨by decide +kernel, by decide +kernel⟩, List.mem_of_getElem? (i := 1099) (by decide +kernel), List.mem_of_getElem? (i := 1555) (by decide +kernel), List.mem_of_getElem? (i := 1556) (by decide +kernel)⟩
theorem lw_p78 : lw_okq (⟨"DoorLettersModel", "costBy", "(II)I"⟩, 54) := ⟨⟨by decide +kernel, by decide +kernel⟩, List.mem_of_getElem? (i := 1099) (by decide +kernel), List.mem_of_getElem? (i := 1559) (by decide +kernel), List.mem_of_getElem? (i := 1560) (by decide +kernel)⟩
theorem lw_p79 : lw_okq (⟨"DoorLettersModel", "whoLived", "(II)I"⟩, 54) := ⟨⟨by decide +kernel, by decide +kernel⟩, List.mem_of_getElem? (i := 1099) (by decide +kernel), List.mem_of_getElem? (i := 1563) (by decide +kernel), List.mem_of_getElem? (i := 1564) (by decide +kernel)⟩
def lw_privs_5 : List (MethodName × Nat) := [(⟨"DoorLettersModel", "lacksOf", "(II)I"⟩, 54), (⟨"DoorLettersModel", "beyondOf", "(II)I"⟩, 54), (⟨"DoorLettersModel", "movesAll", "(IZ)V"⟩, 54), (⟨"DoorLettersModel", "moves", "(I)I"⟩, 54), (⟨"DoorLettersModel", "movesRow", "([I)V"⟩, 54), (⟨"DoorLettersModel", "isVillage", "()Z"⟩, 54), (⟨"DoorLettersModel", "keepsAct", "()V"⟩, 54), (⟨"DoorLettersModel", "goes", "()I"⟩, 54), (⟨"DoorLettersModel", "isRead", "(I)I"⟩, 54), (⟨"DoorLettersModel", "isClaimed", "(III)Z"⟩, 54), (⟨"DoorLettersModel", "wanted", "()J"⟩, 54), (⟨"DoorLettersModel", "answer", "(III)J"⟩, 54), (⟨"DoorLettersModel", "claimsIt", "(II)V"⟩, 54), (⟨"DoorLettersModel", "bestMatter", "(I)I"⟩, 54), (⟨"DoorLettersModel", "costBy", "(II)I"⟩, 54), (⟨"DoorLettersModel", "whoLived", "(II)I"⟩, 54)]
theorem lw_r5 : ∀ q ∈ lw_privs_5, lw_okq q := List.forall_mem_cons.mpr ⟨lw_p64, List.forall_mem_cons.mpr ⟨lw_p65, List.forall_mem_cons.mpr ⟨lw_p66, List.forall_mem_cons.mpr ⟨lw_p67, List.forall_mem_cons.mpr ⟨lw_p68, List.forall_mem_cons.mpr ⟨lw_p69, List.forall_mem_cons.mpr ⟨lw_p70, List.forall_mem_cons.mpr ⟨lw_p71, List.forall_mem_cons.mpr ⟨lw_p72, List.forall_mem_cons.mpr ⟨lw_p73, List.forall_mem_cons.mpr ⟨lw_p74, List.forall_mem_cons.mpr ⟨lw_p75, List.forall_mem_cons.mpr ⟨lw_p76, List.forall_mem_cons.mpr ⟨lw_p77, List.forall_mem_cons.mpr ⟨lw_p78, List.forall_mem_cons.mpr ⟨lw_p79, fun _ h => absurd h List.not_mem_nil⟩⟩⟩⟩⟩⟩⟩⟩⟩⟩⟩⟩⟩⟩⟩⟩
theorem lw_p80 : lw_okq (⟨"DoorLettersModel", "areTold", "(I)Z"⟩, 54) := ⟨⟨by decide +kernel, by decide +kernel⟩, List.mem_of_getElem? (i := 1099) (by decide +kernel), List.mem_of_getElem? (i := 1571) (by decide +kernel), List.mem_of_getElem? (i := 1572) (by decide +kernel)⟩
theorem lw_p81 : lw_okq (⟨"DoorLettersModel", "laysMost", "(Z)V"⟩, 54) := ⟨⟨by decide +kernel, by decide +kernel⟩, List.mem_of_getElem? (i := 1099) (by decide +kernel), List.mem_of_getElem? (i := 1579) (by decide +kernel), List.mem_of_getElem? (i := 1580) (by decide +kernel)⟩
theorem lw_p82 : lw_okq (⟨"DoorLettersModel", "gain", "(IIZ)I"⟩, 54) := ⟨⟨by decide +kernel, by decide +kernel⟩, List.mem_of_getElem? (i := 1099) (by decide +kernel), List.mem_of_getElem? (i := 1583) (by decide +kernel), List.mem_of_getElem? (i := 1584) (by decide +kernel)⟩
theorem lw_p83 : lw_okq (⟨"DoorLettersModel", "givenTo", "(I)I"⟩, 54) := ⟨⟨by decide +kernel, by decide +kernel⟩, List.mem_of_getElem? (i := 1099) (by decide +kernel), List.mem_of_getElem? (i := 1587) (by decide +kernel), List.mem_of_getElem? (i := 1588) (by decide +kernel)⟩
theorem lw_p84 : lw_okq (⟨"DoorLettersModel", "nextReader", "(II)I"⟩, 54) := ⟨⟨by decide +kernel, by decide +kernel⟩, List.mem_of_getElem? (i := 1099) (by decide +kernel), List.mem_of_getElem? (i := 1599) (by decide +kernel), List.mem_of_getElem? (i := 1600) (by decide +kernel)⟩
theorem lw_p85 : lw_okq (⟨"DoorLettersModel", "readsBy", "(III)I"⟩, 54) := ⟨⟨by decide +kernel, by decide +kernel⟩, List.mem_of_getElem? (i := 1099) (by decide +kernel), List.mem_of_getElem? (i := 1603) (by decide +kernel), List.mem_of_getElem? (i := 1604) (by decide +kernel)⟩
theorem lw_p86 : lw_okq (⟨"DoorLettersModel", "joined", "(I)I"⟩, 54) := ⟨⟨by decide +kernel, by decide +kernel⟩, List.mem_of_getElem? (i := 1099) (by decide +kernel), List.mem_of_getElem? (i := 1611) (by decide +kernel), List.mem_of_getElem? (i := 1612) (by decide +kernel)⟩
theorem lw_p87 : lw_okq (⟨"DoorLettersModel", "isRest", "(IIIII)Z"⟩, 54) := ⟨⟨by decide +kernel, by decide +kernel⟩, List.mem_of_getElem? (i := 1099) (by decide +kernel), List.mem_of_getElem? (i := 1619) (by decide +kernel), List.mem_of_getElem? (i := 1620) (by decide +kernel)⟩
theorem lw_p88 : lw_okq (⟨"DoorLettersModel", "worthOf", "(IIIII)I"⟩, 54) := ⟨⟨by decide +kernel, by decide +kernel⟩, List.mem_of_getElem? (i := 1099) (by decide +kernel), List.mem_of_getElem? (i := 1623) (by decide +kernel), List.mem_of_getElem? (i := 1624) (by decide +kernel)⟩
theorem lw_p89 : lw_okq (⟨"DoorLettersModel", "keepsAll", "()V"⟩, 54) := ⟨⟨by decide +kernel, by decide +kernel⟩, List.mem_of_getElem? (i := 1099) (by decide +kernel), List.mem_of_getElem? (i := 1632) (by decide +kernel), List.mem_of_getElem? (i := 1633) (by decide +kernel)⟩
theorem lw_p90 : lw_okq (⟨"DoorLettersModel", "carriesAll", "(IZ)V"⟩, 54) := ⟨⟨by decide +kernel, by decide +kernel⟩, List.mem_of_getElem? (i := 1099) (by decide +kernel), List.mem_of_getElem? (i := 1636) (by decide +kernel), List.mem_of_getElem? (i := 1637) (by decide +kernel)⟩
theorem lw_p91 : lw_okq (⟨"DoorLettersModel", "carryRow", "([I)V"⟩, 54) := ⟨⟨by decide +kernel, by decide +kernel⟩, List.mem_of_getElem? (i := 1099) (by decide +kernel), List.mem_of_getElem? (i := 1640) (by decide +kernel), List.mem_of_getElem? (i := 1641) (by decide +kernel)⟩
theorem lw_p92 : lw_okq (⟨"DoorLettersModel", "goFor", "(I)V"⟩, 54) := ⟨⟨by decide +kernel, by decide +kernel⟩, List.mem_of_getElem? (i := 1099) (by decide +kernel), List.mem_of_getElem? (i := 1644) (by decide +kernel), List.mem_of_getElem? (i := 1645) (by decide +kernel)⟩
theorem lw_p93 : lw_okq (⟨"DoorLettersModel", "laysBack", "()V"⟩, 54) := ⟨⟨by decide +kernel, by decide +kernel⟩, List.mem_of_getElem? (i := 1099) (by decide +kernel), List.mem_of_getElem? (i := 1648) (by decide +kernel), List.mem_of_getElem? (i := 1649) (by decide +kernel)⟩
theorem lw_p94 : lw_okq (⟨"DoorLettersModel", "firstDay", "(I)I"⟩, 54) := ⟨⟨by decide +kernel, by decide +kernel⟩, List.mem_of_getElem? (i := 1099) (by decide +kernel), List.mem_of_getElem? (i := 1656) (by decide +kernel), List.mem_of_getElem? (i := 1657) (by decide +kernel)⟩
theorem lw_p95 : lw_okq (⟨"DoorLettersModel", "fitIn", "(I)I"⟩, 54) := ⟨⟨by decide +kernel, by decide +kernel⟩, List.mem_of_getElem? (i := 1099) (by decide +kernel), List.mem_of_getElem? (i := 1673) (by decide +kernel), List.mem_of_getElem? (i := 1674) (by decide +kernel)⟩
def lw_privs_6 : List (MethodName × Nat) := [(⟨"DoorLettersModel", "areTold", "(I)Z"⟩, 54), (⟨"DoorLettersModel", "laysMost", "(Z)V"⟩, 54), (⟨"DoorLettersModel", "gain", "(IIZ)I"⟩, 54), (⟨"DoorLettersModel", "givenTo", "(I)I"⟩, 54), (⟨"DoorLettersModel", "nextReader", "(II)I"⟩, 54), (⟨"DoorLettersModel", "readsBy", "(III)I"⟩, 54), (⟨"DoorLettersModel", "joined", "(I)I"⟩, 54), (⟨"DoorLettersModel", "isRest", "(IIIII)Z"⟩, 54), (⟨"DoorLettersModel", "worthOf", "(IIIII)I"⟩, 54), (⟨"DoorLettersModel", "keepsAll", "()V"⟩, 54), (⟨"DoorLettersModel", "carriesAll", "(IZ)V"⟩, 54), (⟨"DoorLettersModel", "carryRow", "([I)V"⟩, 54), (⟨"DoorLettersModel", "goFor", "(I)V"⟩, 54), (⟨"DoorLettersModel", "laysBack", "()V"⟩, 54), (⟨"DoorLettersModel", "firstDay", "(I)I"⟩, 54), (⟨"DoorLettersModel", "fitIn", "(I)I"⟩, 54)]
theorem lw_r6 : ∀ q ∈ lw_privs_6, lw_okq q := List.forall_mem_cons.mpr ⟨lw_p80, List.forall_mem_cons.mpr ⟨lw_p81, List.forall_mem_cons.mpr ⟨lw_p82, List.forall_mem_cons.mpr ⟨lw_p83, List.forall_mem_cons.mpr ⟨lw_p84, List.forall_mem_cons.mpr ⟨lw_p85, List.forall_mem_cons.mpr ⟨lw_p86, List.forall_mem_cons.mpr ⟨lw_p87, List.forall_mem_cons.mpr ⟨lw_p88, List.forall_mem_cons.mpr ⟨lw_p89, List.forall_mem_cons.mpr ⟨lw_p90, List.forall_mem_cons.mpr ⟨lw_p91, List.forall_mem_cons.mpr ⟨lw_p92, List.forall_mem_cons.mpr ⟨lw_p93, List.forall_mem_cons.mpr ⟨lw_p94, List.forall_mem_cons.mpr ⟨lw_p95, fun _ h => absurd h List.not_mem_nil⟩⟩⟩⟩⟩⟩⟩⟩⟩⟩⟩⟩⟩⟩⟩⟩
theorem lw_p96 : lw_okq (⟨"DoorLettersModel", "laysDay", "(I)V"⟩, 54) := ⟨⟨by decide +kernel, by decide +kernel⟩, List.mem_of_getElem? (i := 1099) (by decide +kernel), List.mem_of_getElem? (i := 1681) (by decide +kernel), List.mem_of_getElem? (i := 1682) (by decide +kernel)⟩
theorem lw_p97 : lw_okq (⟨"DoorLettersModel", "areAlike", "(II)Z"⟩, 54) := ⟨⟨by decide +kernel, by decide +kernel⟩, List.mem_of_getElem? (i := 1099) (by decide +kernel), List.mem_of_getElem? (i := 1685) (by decide +kernel), List.mem_of_getElem? (i := 1686) (by decide +kernel)⟩
theorem lw_p98 : lw_okq (⟨"DoorLettersModel", "allOf", "([I)I"⟩, 54) := ⟨⟨by decide +kernel, by decide +kernel⟩, List.mem_of_getElem? (i := 1099) (by decide +kernel), List.mem_of_getElem? (i := 1694) (by decide +kernel), List.mem_of_getElem? (i := 1695) (by decide +kernel)⟩
theorem lw_p99 : lw_okq (⟨"DoorLettersModel", "couldRule", "(I)Z"⟩, 54) := ⟨⟨by decide +kernel, by decide +kernel⟩, List.mem_of_getElem? (i := 1099) (by decide +kernel), List.mem_of_getElem? (i := 1707) (by decide +kernel), List.mem_of_getElem? (i := 1708) (by decide +kernel)⟩
theorem lw_p100 : lw_okq (⟨"DoorLettersModel", "doNotesFit", "()Z"⟩, 54) := ⟨⟨by decide +kernel, by decide +kernel⟩, List.mem_of_getElem? (i := 1099) (by decide +kernel), List.mem_of_getElem? (i := 1711) (by decide +kernel), List.mem_of_getElem? (i := 1712) (by decide +kernel)⟩
theorem lw_p101 : lw_okq (⟨"DoorLettersModel", "couldBe", "([III)I"⟩, 54) := ⟨⟨by decide +kernel, by decide +kernel⟩, List.mem_of_getElem? (i := 1099) (by decide +kernel), List.mem_of_getElem? (i := 1719) (by decide +kernel), List.mem_of_getElem? (i := 1720) (by decide +kernel)⟩
theorem lw_p102 : lw_okq (⟨"DoorLettersModel", "mostAlike", "(II)I"⟩, 54) := ⟨⟨by decide +kernel, by decide +kernel⟩, List.mem_of_getElem? (i := 1099) (by decide +kernel), List.mem_of_getElem? (i := 1731) (by decide +kernel), List.mem_of_getElem? (i := 1732) (by decide +kernel)⟩
theorem lw_p103 : lw_okq (⟨"DoorLettersModel", "draws", "(I)I"⟩, 54) := ⟨⟨by decide +kernel, by decide +kernel⟩, List.mem_of_getElem? (i := 1099) (by decide +kernel), List.mem_of_getElem? (i := 1744) (by decide +kernel), List.mem_of_getElem? (i := 1745) (by decide +kernel)⟩
theorem lw_p104 : lw_okq (⟨"DoorLettersModel", "rainsOn", "(I)I"⟩, 54) := ⟨⟨by decide +kernel, by decide +kernel⟩, List.mem_of_getElem? (i := 1099) (by decide +kernel), List.mem_of_getElem? (i := 1752) (by decide +kernel), List.mem_of_getElem? (i := 1753) (by decide +kernel)⟩
def lw_privs_7 : List (MethodName × Nat) := [(⟨"DoorLettersModel", "laysDay", "(I)V"⟩, 54), (⟨"DoorLettersModel", "areAlike", "(II)Z"⟩, 54), (⟨"DoorLettersModel", "allOf", "([I)I"⟩, 54), (⟨"DoorLettersModel", "couldRule", "(I)Z"⟩, 54), (⟨"DoorLettersModel", "doNotesFit", "()Z"⟩, 54), (⟨"DoorLettersModel", "couldBe", "([III)I"⟩, 54), (⟨"DoorLettersModel", "mostAlike", "(II)I"⟩, 54), (⟨"DoorLettersModel", "draws", "(I)I"⟩, 54), (⟨"DoorLettersModel", "rainsOn", "(I)I"⟩, 54)]
theorem lw_r7 : ∀ q ∈ lw_privs_7, lw_okq q := List.forall_mem_cons.mpr ⟨lw_p96, List.forall_mem_cons.mpr ⟨lw_p97, List.forall_mem_cons.mpr ⟨lw_p98, List.forall_mem_cons.mpr ⟨lw_p99, List.forall_mem_cons.mpr ⟨lw_p100, List.forall_mem_cons.mpr ⟨lw_p101, List.forall_mem_cons.mpr ⟨lw_p102, List.forall_mem_cons.mpr ⟨lw_p103, List.forall_mem_cons.mpr ⟨lw_p104, fun _ h => absurd h List.not_mem_nil⟩⟩⟩⟩⟩⟩⟩⟩⟩
def lw_privs : List (MethodName × Nat) := lw_privs_1 ++ (lw_privs_2 ++ (lw_privs_3 ++ (lw_privs_4 ++ (lw_privs_5 ++ (lw_privs_6 ++ (lw_privs_7))))))
def lw_tbl : List Cond := k2_sels lw_privs ++ tables_1
theorem lw_privs_ok : ∀ q ∈ lw_privs, lw_okq q := by
  show ∀ q ∈ lw_privs_1 ++ (lw_privs_2 ++ (lw_privs_3 ++ (lw_privs_4 ++ (lw_privs_5 ++ (lw_privs_6 ++ (lw_privs_7)))))), lw_okq q
  exact List.forall_mem_append.mpr ⟨lw_r1, List.forall_mem_append.mpr ⟨lw_r2, List.forall_mem_append.mpr ⟨lw_r3, List.forall_mem_append.mpr ⟨lw_r4, List.forall_mem_append.mpr ⟨lw_r5, List.forall_mem_append.mpr ⟨lw_r6, lw_r7⟩⟩⟩⟩⟩⟩
def RX0 : String := "DoorLetters$Future"
def RX1 : String := "DoorLetters$Moment"
def RX2 : String := "DoorLetters$Past"
def RX3 : String := "DoorLetters$Present"
def RX4 : String := "DoorLetters$Rule"
def RX5 : String := "DoorLetters$RuleReader"
def RX6 : String := "DoorLetters$State"
def RX7 : String := "DoorLetters$Text"
def RX8 : String := "DoorLetters$Told"
def RX9 : String := "DoorLetters$VillageReader"
def RX10 : String := "DoorLetters$Walk"
def RX11 : String := "DoorLetters"
def RX12 : String := "DoorLettersModel"
def RJx145de : String := "java/io/Serializable"
def RJx9f9b0 : String := "java/lang/CharSequence"
def RJx8e188 : String := "java/lang/Cloneable"
def RJxb160c : String := "java/lang/Comparable"
def RJ6 : String := "java/lang/Integer"
def RJ9 : String := "java/lang/Math"
def RJ0 : String := "java/lang/String"
def RJ1 : String := "java/lang/StringLatin1"
def RJ2 : String := "java/lang/StringUTF16"
def RJ10 : String := "java/lang/System"
def RJxfd54e : String := "java/lang/constant/Constable"
def RJx3cf43 : String := "java/lang/constant/ConstantDesc"
def RJ7 : String := "java/util/Arrays"
def RJ3 : String := "jdk/internal/util/Preconditions"
def RL : String := "DoorLettersLaw"
def TX0 : u_T := fun k => match k with
  | 0 => ("DoorLetters$Future", "walk", "LDoorLetters$Walk;", true)
  | 1 => ("DoorLetters$Future", "then", "LDoorLetters$Moment;", true)
  | 2 => ("DoorLetters$Future", "claimed", "[I", true)
  | 3 => ("DoorLetters$Future", "feelings", "[J", true)
  | 4 => ("DoorLetters$Future", "boards", "[I", true)
  | 5 => ("DoorLetters$Future", "x", "I", false)
  | 6 => ("DoorLetters$Future", "rainClaimed", "I", false)
  | _ => ("DoorLetters$Future", "rainShame", "I", false)
def tyX0 : Nat → FieldType := fun k => match k with
  | 0 => .object "DoorLetters$Walk"
  | 1 => .object "DoorLetters$Moment"
  | 2 => .array .int
  | 3 => .array .long
  | 4 => .array .int
  | 5 => .int
  | 6 => .int
  | _ => .int
abbrev wsX00 : List Cond := u_ws RX0 TX0 8
theorem nmX0 : ∀ a, a < 8 → ∀ b, b < 8 → a ≠ b → (TX0 a).2.1 ≠ (TX0 b).2.1 := by decide +kernel
theorem tyX0_ok : ∀ k, k < 8 → parseFieldDescriptor (TX0 k).2.2.1 = some (tyX0 k) := by decide +kernel
abbrev cX0_init : ByteArray := prog_2_method_1_code
def yX0_init : MethodName := ⟨RX0, "<init>", "()V"⟩
abbrev cX0_startOver : ByteArray := prog_2_method_2_code
def yX0_startOver : MethodName := ⟨RX0, "startOver", "(LDoorLetters$State;LDoorLetters$Rule;)V"⟩
abbrev cX0_after : ByteArray := prog_2_method_3_code
def yX0_after : MethodName := ⟨RX0, "after", "(LDoorLetters$State;LDoorLetters$Rule;I)LDoorLetters$Moment;"⟩
abbrev cX0_firstBy : ByteArray := prog_2_method_4_code
def yX0_firstBy : MethodName := ⟨RX0, "firstBy", "(LDoorLetters$State;LDoorLetters$Rule;I)I"⟩
abbrev cX0_mostOften : ByteArray := prog_2_method_5_code
def yX0_mostOften : MethodName := ⟨RX0, "mostOften", "(LDoorLetters$State;LDoorLetters$Rule;II)I"⟩
abbrev cX0_bestStart : ByteArray := prog_2_method_6_code
def yX0_bestStart : MethodName := ⟨RX0, "bestStart", "(LDoorLetters$State;LDoorLetters$Rule;II)I"⟩
abbrev cX0_fittingDays : ByteArray := prog_2_method_7_code
def yX0_fittingDays : MethodName := ⟨RX0, "fittingDays", "(LDoorLetters$State;LDoorLetters$Rule;II)I"⟩
abbrev cX0_firstAlike : ByteArray := prog_2_method_8_code
def yX0_firstAlike : MethodName := ⟨RX0, "firstAlike", "(LDoorLetters$State;LDoorLetters$Rule;I)I"⟩
abbrev cX0_rain : ByteArray := prog_2_method_9_code
def yX0_rain : MethodName := ⟨RX0, "rain", "(LDoorLetters$State;LDoorLetters$Rule;III)V"⟩
abbrev cX0_drawn : ByteArray := prog_2_method_10_code
def yX0_drawn : MethodName := ⟨RX0, "drawn", "(I)I"⟩
def TX1 : u_T := fun k => match k with
  | 0 => ("DoorLetters$Moment", "lived", "[I", true)
  | 1 => ("DoorLetters$Moment", "pride", "[I", true)
  | 2 => ("DoorLetters$Moment", "shame", "[I", true)
  | 3 => ("DoorLetters$Moment", "has", "[I", true)
  | 4 => ("DoorLetters$Moment", "pinned", "I", false)
  | 5 => ("DoorLetters$Moment", "day", "I", false)
  | _ => ("DoorLetters$Moment", "begin", "I", false)
def tyX1 : Nat → FieldType := fun k => match k with
  | 0 => .array .int
  | 1 => .array .int
  | 2 => .array .int
  | 3 => .array .int
  | 4 => .int
  | 5 => .int
  | _ => .int
abbrev wsX10 : List Cond := u_ws RX1 TX1 7
theorem nmX1 : ∀ a, a < 7 → ∀ b, b < 7 → a ≠ b → (TX1 a).2.1 ≠ (TX1 b).2.1 := by decide +kernel
theorem tyX1_ok : ∀ k, k < 7 → parseFieldDescriptor (TX1 k).2.2.1 = some (tyX1 k) := by decide +kernel
abbrev cX1_init : ByteArray := prog_3_method_1_code
def yX1_init : MethodName := ⟨RX1, "<init>", "()V"⟩
abbrev cX1_fitting : ByteArray := prog_3_method_2_code
def yX1_fitting : MethodName := ⟨RX1, "fitting", "(II)I"⟩
abbrev cX1_lacking : ByteArray := prog_3_method_3_code
def yX1_lacking : MethodName := ⟨RX1, "lacking", "(II)I"⟩
abbrev cX1_exceeding : ByteArray := prog_3_method_4_code
def yX1_exceeding : MethodName := ⟨RX1, "exceeding", "(II)I"⟩
abbrev cX1_become : ByteArray := prog_3_method_5_code
def yX1_become : MethodName := ⟨RX1, "become", "(LDoorLetters$Moment;)V"⟩
abbrev cX1_becomeBegin : ByteArray := prog_3_method_6_code
def yX1_becomeBegin : MethodName := ⟨RX1, "becomeBegin", "(LDoorLetters$Told;)V"⟩
abbrev cX1_writeTo : ByteArray := prog_3_method_7_code
def yX1_writeTo : MethodName := ⟨RX1, "writeTo", "([II)V"⟩
abbrev cX1_readFrom : ByteArray := prog_3_method_8_code
def yX1_readFrom : MethodName := ⟨RX1, "readFrom", "([II)V"⟩
abbrev cX1_feelings : ByteArray := prog_3_method_9_code
def yX1_feelings : MethodName := ⟨RX1, "feelings", "()J"⟩
def TX2 : u_T := fun k => match k with
  | 0 => ("DoorLetters$Past", "walk", "LDoorLetters$Walk;", true)
  | 1 => ("DoorLetters$Past", "then", "LDoorLetters$Moment;", true)
  | 2 => ("DoorLetters$Past", "draft", "LDoorLetters$Told;", true)
  | 3 => ("DoorLetters$Past", "noted", "[I", true)
  | 4 => ("DoorLetters$Past", "claimer", "[I", true)
  | 5 => ("DoorLetters$Past", "tales", "[I", true)
  | _ => ("DoorLetters$Past", "notedDays", "I", false)
def tyX2 : Nat → FieldType := fun k => match k with
  | 0 => .object "DoorLetters$Walk"
  | 1 => .object "DoorLetters$Moment"
  | 2 => .object "DoorLetters$Told"
  | 3 => .array .int
  | 4 => .array .int
  | 5 => .array .int
  | _ => .int
abbrev wsX20 : List Cond := u_ws RX2 TX2 7
theorem nmX2 : ∀ a, a < 7 → ∀ b, b < 7 → a ≠ b → (TX2 a).2.1 ≠ (TX2 b).2.1 := by decide +kernel
theorem tyX2_ok : ∀ k, k < 7 → parseFieldDescriptor (TX2 k).2.2.1 = some (tyX2 k) := by decide +kernel
abbrev cX2_init : ByteArray := prog_4_method_1_code
def yX2_init : MethodName := ⟨RX2, "<init>", "()V"⟩
abbrev cX2_possible : ByteArray := prog_4_method_2_code
def yX2_possible : MethodName := ⟨RX2, "possible", "(LDoorLetters$State;LDoorLetters$Rule;ZII)I"⟩
abbrev cX2_ruling : ByteArray := prog_4_method_3_code
def yX2_ruling : MethodName := ⟨RX2, "ruling", "(LDoorLetters$State;[LDoorLetters$Rule;II)I"⟩
abbrev cX2_bestLook : ByteArray := prog_4_method_4_code
def yX2_bestLook : MethodName := ⟨RX2, "bestLook", "(LDoorLetters$State;[LDoorLetters$Rule;II)I"⟩
abbrev cX2_mostAlike : ByteArray := prog_4_method_5_code
def yX2_mostAlike : MethodName := ⟨RX2, "mostAlike", "(II)I"⟩
abbrev cX2_readNotes : ByteArray := prog_4_method_6_code
def yX2_readNotes : MethodName := ⟨RX2, "readNotes", "(LDoorLetters$State;)Z"⟩
abbrev cX2_isSo : ByteArray := prog_4_method_7_code
def yX2_isSo : MethodName := ⟨RX2, "isSo", "(LDoorLetters$Rule;I)Z"⟩
def TX3 : u_T := fun k => match k with
  | 0 => ("DoorLetters$Present", "asked", "[I", true)
  | 1 => ("DoorLetters$Present", "given", "[J", true)
  | 2 => ("DoorLetters$Present", "gains", "[J", true)
  | _ => ("DoorLetters$Present", "lost", "[I", true)
def tyX3 : Nat → FieldType := fun k => match k with
  | 0 => .array .int
  | 1 => .array .long
  | 2 => .array .long
  | _ => .array .int
abbrev wsX30 : List Cond := u_ws RX3 TX3 4
theorem nmX3 : ∀ a, a < 4 → ∀ b, b < 4 → a ≠ b → (TX3 a).2.1 ≠ (TX3 b).2.1 := by decide +kernel
theorem tyX3_ok : ∀ k, k < 4 → parseFieldDescriptor (TX3 k).2.2.1 = some (tyX3 k) := by decide +kernel
abbrev cX3_init : ByteArray := prog_5_method_1_code
def yX3_init : MethodName := ⟨RX3, "<init>", "()V"⟩
abbrev cX3_fitted : ByteArray := prog_5_method_2_code
def yX3_fitted : MethodName := ⟨RX3, "fitted", "(LDoorLetters$State;I)I"⟩
abbrev cX3_nearest : ByteArray := prog_5_method_3_code
def yX3_nearest : MethodName := ⟨RX3, "nearest", "(LDoorLetters$State;I)I"⟩
abbrev cX3_questions : ByteArray := prog_5_method_4_code
def yX3_questions : MethodName := ⟨RX3, "questions", "(LDoorLetters$State;II)I"⟩
abbrev cX3_fewestFor : ByteArray := prog_5_method_5_code
def yX3_fewestFor : MethodName := ⟨RX3, "fewestFor", "(LDoorLetters$State;I)I"⟩
abbrev cX3_askedBy : ByteArray := prog_5_method_6_code
def yX3_askedBy : MethodName := ⟨RX3, "askedBy", "(LDoorLetters$State;II)I"⟩
abbrev cX3_telling : ByteArray := prog_5_method_7_code
def yX3_telling : MethodName := ⟨RX3, "telling", "(LDoorLetters$State;)I"⟩
abbrev cX3_tells : ByteArray := prog_5_method_8_code
def yX3_tells : MethodName := ⟨RX3, "tells", "(LDoorLetters$State;I)Z"⟩
abbrev cX3_paired : ByteArray := prog_5_method_9_code
def yX3_paired : MethodName := ⟨RX3, "paired", "(LDoorLetters$State;I)I"⟩
abbrev cX3_bestGiven : ByteArray := prog_5_method_10_code
def yX3_bestGiven : MethodName := ⟨RX3, "bestGiven", "(LDoorLetters$State;)I"⟩
abbrev cX3_mostGiven : ByteArray := prog_5_method_11_code
def yX3_mostGiven : MethodName := ⟨RX3, "mostGiven", "(LDoorLetters$State;Z)J"⟩
abbrev cX3_fillGains : ByteArray := prog_5_method_12_code
def yX3_fillGains : MethodName := ⟨RX3, "fillGains", "(LDoorLetters$State;IZ)V"⟩
abbrev cX3_joined : ByteArray := prog_5_method_13_code
def yX3_joined : MethodName := ⟨RX3, "joined", "(LDoorLetters$State;I)I"⟩
abbrev cX3_unionOf : ByteArray := prog_5_method_14_code
def yX3_unionOf : MethodName := ⟨RX3, "unionOf", "(LDoorLetters$State;I)I"⟩
abbrev cX3_rested : ByteArray := prog_5_method_15_code
def yX3_rested : MethodName := ⟨RX3, "rested", "(LDoorLetters$State;IIII)I"⟩
abbrev cX3_gain : ByteArray := prog_5_method_16_code
def yX3_gain : MethodName := ⟨RX3, "gain", "(LDoorLetters$State;IIIII)I"⟩
abbrev cX3_parted : ByteArray := prog_5_method_17_code
def yX3_parted : MethodName := ⟨RX3, "parted", "(LDoorLetters$State;II)I"⟩
def TX4 : u_T := fun k => match k with
  | 0 => ("DoorLetters$Rule", "code", "[I", true)
  | _ => ("DoorLetters$Rule", "stack", "[J", true)
def tyX4 : Nat → FieldType := fun k => match k with
  | 0 => .array .int
  | _ => .array .long
abbrev wsX40 : List Cond := u_ws RX4 TX4 2
theorem nmX4 : ∀ a, a < 2 → ∀ b, b < 2 → a ≠ b → (TX4 a).2.1 ≠ (TX4 b).2.1 := by decide +kernel
theorem tyX4_ok : ∀ k, k < 2 → parseFieldDescriptor (TX4 k).2.2.1 = some (tyX4 k) := by decide +kernel
abbrev cX4_init : ByteArray := prog_6_method_1_code
def yX4_init : MethodName := ⟨RX4, "<init>", "([I)V"⟩
abbrev cX4_claimed : ByteArray := prog_6_method_2_code
def yX4_claimed : MethodName := ⟨RX4, "claimed", "([J)J"⟩
abbrev cX4_combined : ByteArray := prog_6_method_3_code
def yX4_combined : MethodName := ⟨RX4, "combined", "(IJJ)J"⟩
def TX5 : u_T := fun k => match k with
  | 0 => ("DoorLetters$RuleReader", "code", "[I", true)
  | 1 => ("DoorLetters$RuleReader", "waiting", "[I", true)
  | 2 => ("DoorLetters$RuleReader", "size", "I", false)
  | 3 => ("DoorLetters$RuleReader", "held", "I", false)
  | 4 => ("DoorLetters$RuleReader", "clauses", "I", false)
  | 5 => ("DoorLetters$RuleReader", "parts", "I", false)
  | 6 => ("DoorLetters$RuleReader", "depth", "I", false)
  | 7 => ("DoorLetters$RuleReader", "due", "I", false)
  | _ => ("DoorLetters$RuleReader", "stage", "I", false)
def tyX5 : Nat → FieldType := fun k => match k with
  | 0 => .array .int
  | 1 => .array .int
  | 2 => .int
  | 3 => .int
  | 4 => .int
  | 5 => .int
  | 6 => .int
  | 7 => .int
  | _ => .int
abbrev wsX50 : List Cond := u_ws RX5 TX5 9
theorem nmX5 : ∀ a, a < 9 → ∀ b, b < 9 → a ≠ b → (TX5 a).2.1 ≠ (TX5 b).2.1 := by decide +kernel
theorem tyX5_ok : ∀ k, k < 9 → parseFieldDescriptor (TX5 k).2.2.1 = some (tyX5 k) := by decide +kernel
abbrev cX5_init : ByteArray := prog_7_method_1_code
def yX5_init : MethodName := ⟨RX5, "<init>", "()V"⟩
abbrev cX5_read : ByteArray := prog_7_method_2_code
def yX5_read : MethodName := ⟨RX5, "read", "(LDoorLetters$Text;)I"⟩
abbrev cX5_made : ByteArray := prog_7_method_3_code
def yX5_made : MethodName := ⟨RX5, "made", "()LDoorLetters$Rule;"⟩
abbrev cX5_readClaim : ByteArray := prog_7_method_4_code
def yX5_readClaim : MethodName := ⟨RX5, "readClaim", "(LDoorLetters$Text;)V"⟩
abbrev cX5_readFactBegin : ByteArray := prog_7_method_5_code
def yX5_readFactBegin : MethodName := ⟨RX5, "readFactBegin", "(LDoorLetters$Text;)V"⟩
abbrev cX5_readValue : ByteArray := prog_7_method_6_code
def yX5_readValue : MethodName := ⟨RX5, "readValue", "(LDoorLetters$Text;)V"⟩
abbrev cX5_readJoint : ByteArray := prog_7_method_7_code
def yX5_readJoint : MethodName := ⟨RX5, "readJoint", "(LDoorLetters$Text;)V"⟩
abbrev cX5_readSign : ByteArray := prog_7_method_8_code
def yX5_readSign : MethodName := ⟨RX5, "readSign", "(LDoorLetters$Text;)V"⟩
abbrev cX5_readBehindFact : ByteArray := prog_7_method_9_code
def yX5_readBehindFact : MethodName := ⟨RX5, "readBehindFact", "(LDoorLetters$Text;)V"⟩
abbrev cX5_endClause : ByteArray := prog_7_method_10_code
def yX5_endClause : MethodName := ⟨RX5, "endClause", "(LDoorLetters$Text;I)V"⟩
abbrev cX5_countPart : ByteArray := prog_7_method_11_code
def yX5_countPart : MethodName := ⟨RX5, "countPart", "(LDoorLetters$Text;)V"⟩
abbrev cX5_joinBy : ByteArray := prog_7_method_12_code
def yX5_joinBy : MethodName := ⟨RX5, "joinBy", "(II)V"⟩
abbrev cX5_settle : ByteArray := prog_7_method_13_code
def yX5_settle : MethodName := ⟨RX5, "settle", "(I)V"⟩
abbrev cX5_hold : ByteArray := prog_7_method_14_code
def yX5_hold : MethodName := ⟨RX5, "hold", "(I)V"⟩
abbrev cX5_write : ByteArray := prog_7_method_15_code
def yX5_write : MethodName := ⟨RX5, "write", "(I)V"⟩
abbrev cX5_levelOf : ByteArray := prog_7_method_16_code
def yX5_levelOf : MethodName := ⟨RX5, "levelOf", "(I)I"⟩
abbrev cX5_operationOf : ByteArray := prog_7_method_17_code
def yX5_operationOf : MethodName := ⟨RX5, "operationOf", "(I)I"⟩
abbrev cX5_signOf : ByteArray := prog_7_method_18_code
def yX5_signOf : MethodName := ⟨RX5, "signOf", "(I)I"⟩
abbrev cX5_wordOf : ByteArray := prog_7_method_19_code
def yX5_wordOf : MethodName := ⟨RX5, "wordOf", "(LDoorLetters$Text;)I"⟩
abbrev cX5_nameOf : ByteArray := prog_7_method_20_code
def yX5_nameOf : MethodName := ⟨RX5, "nameOf", "(I)Ljava/lang/String;"⟩
def TX6 : u_T := fun k => match k with
  | 0 => ("DoorLetters$State", "told", "LDoorLetters$Told;", true)
  | 1 => ("DoorLetters$State", "now", "LDoorLetters$Moment;", true)
  | 2 => ("DoorLetters$State", "before", "[I", true)
  | 3 => ("DoorLetters$State", "slot", "I", false)
  | 4 => ("DoorLetters$State", "undoable", "I", false)
  | 5 => ("DoorLetters$State", "noteDay", "[I", true)
  | 6 => ("DoorLetters$State", "noteClaimer", "[I", true)
  | 7 => ("DoorLetters$State", "notes", "I", false)
  | 8 => ("DoorLetters$State", "force", "I", false)
  | _ => ("DoorLetters$State", "x", "I", false)
def tyX6 : Nat → FieldType := fun k => match k with
  | 0 => .object "DoorLetters$Told"
  | 1 => .object "DoorLetters$Moment"
  | 2 => .array .int
  | 3 => .int
  | 4 => .int
  | 5 => .array .int
  | 6 => .array .int
  | 7 => .int
  | 8 => .int
  | _ => .int
abbrev wsX60 : List Cond := u_ws RX6 TX6 10
theorem nmX6 : ∀ a, a < 10 → ∀ b, b < 10 → a ≠ b → (TX6 a).2.1 ≠ (TX6 b).2.1 := by decide +kernel
theorem tyX6_ok : ∀ k, k < 10 → parseFieldDescriptor (TX6 k).2.2.1 = some (tyX6 k) := by decide +kernel
abbrev cX6_init : ByteArray := prog_8_method_1_code
def yX6_init : MethodName := ⟨RX6, "<init>", "()V"⟩
abbrev cX6_become : ByteArray := prog_8_method_2_code
def yX6_become : MethodName := ⟨RX6, "become", "(LDoorLetters$State;)V"⟩
abbrev cX6_settle : ByteArray := prog_8_method_3_code
def yX6_settle : MethodName := ⟨RX6, "settle", "(LDoorLetters$Told;)V"⟩
abbrev cX6_remember : ByteArray := prog_8_method_4_code
def yX6_remember : MethodName := ⟨RX6, "remember", "()V"⟩
abbrev cX6_recall : ByteArray := prog_8_method_5_code
def yX6_recall : MethodName := ⟨RX6, "recall", "()V"⟩
def TX7 : u_T := fun k => match k with
  | 0 => ("DoorLetters$Text", "bytes", "[B", true)
  | 1 => ("DoorLetters$Text", "length", "I", false)
  | 2 => ("DoorLetters$Text", "fault", "I", false)
  | 3 => ("DoorLetters$Text", "kind", "I", false)
  | 4 => ("DoorLetters$Text", "from", "I", false)
  | 5 => ("DoorLetters$Text", "to", "I", false)
  | _ => ("DoorLetters$Text", "number", "I", false)
def tyX7 : Nat → FieldType := fun k => match k with
  | 0 => .array .byte
  | 1 => .int
  | 2 => .int
  | 3 => .int
  | 4 => .int
  | 5 => .int
  | _ => .int
abbrev wsX70 : List Cond := u_ws RX7 TX7 7
theorem nmX7 : ∀ a, a < 7 → ∀ b, b < 7 → a ≠ b → (TX7 a).2.1 ≠ (TX7 b).2.1 := by decide +kernel
theorem tyX7_ok : ∀ k, k < 7 → parseFieldDescriptor (TX7 k).2.2.1 = some (tyX7 k) := by decide +kernel
abbrev cX7_init : ByteArray := prog_9_method_1_code
def yX7_init : MethodName := ⟨RX7, "<init>", "()V"⟩
abbrev cX7_append : ByteArray := prog_9_method_2_code
def yX7_append : MethodName := ⟨RX7, "append", "(I)V"⟩
abbrev cX7_open : ByteArray := prog_9_method_3_code
def yX7_open : MethodName := ⟨RX7, "open", "()V"⟩
abbrev cX7_next : ByteArray := prog_9_method_4_code
def yX7_next : MethodName := ⟨RX7, "next", "()V"⟩
abbrev cX7_byteAt : ByteArray := prog_9_method_5_code
def yX7_byteAt : MethodName := ⟨RX7, "byteAt", "(I)I"⟩
abbrev cX7_isWord : ByteArray := prog_9_method_6_code
def yX7_isWord : MethodName := ⟨RX7, "isWord", "(Ljava/lang/String;)Z"⟩
abbrev cX7_numberWithin : ByteArray := prog_9_method_7_code
def yX7_numberWithin : MethodName := ⟨RX7, "numberWithin", "(II)I"⟩
abbrev cX7_fail : ByteArray := prog_9_method_8_code
def yX7_fail : MethodName := ⟨RX7, "fail", "(I)V"⟩
abbrev cX7_isDigit : ByteArray := prog_9_method_9_code
def yX7_isDigit : MethodName := ⟨RX7, "isDigit", "(I)Z"⟩
abbrev cX7_isSmallLetter : ByteArray := prog_9_method_10_code
def yX7_isSmallLetter : MethodName := ⟨RX7, "isSmallLetter", "(I)Z"⟩
def TX8 : u_T := fun k => match k with
  | 0 => ("DoorLetters$Told", "matters", "I", false)
  | 1 => ("DoorLetters$Told", "people", "I", false)
  | 2 => ("DoorLetters$Told", "letters", "I", false)
  | 3 => ("DoorLetters$Told", "lived", "[I", true)
  | 4 => ("DoorLetters$Told", "pride", "[I", true)
  | 5 => ("DoorLetters$Told", "shame", "[I", true)
  | _ => ("DoorLetters$Told", "claims", "[I", true)
def tyX8 : Nat → FieldType := fun k => match k with
  | 0 => .int
  | 1 => .int
  | 2 => .int
  | 3 => .array .int
  | 4 => .array .int
  | 5 => .array .int
  | _ => .array .int
abbrev wsX80 : List Cond := u_ws RX8 TX8 7
theorem nmX8 : ∀ a, a < 7 → ∀ b, b < 7 → a ≠ b → (TX8 a).2.1 ≠ (TX8 b).2.1 := by decide +kernel
theorem tyX8_ok : ∀ k, k < 7 → parseFieldDescriptor (TX8 k).2.2.1 = some (tyX8 k) := by decide +kernel
abbrev cX8_init : ByteArray := prog_10_method_1_code
def yX8_init : MethodName := ⟨RX8, "<init>", "()V"⟩
abbrev cX8_clear : ByteArray := prog_10_method_2_code
def yX8_clear : MethodName := ⟨RX8, "clear", "()V"⟩
abbrev cX8_become : ByteArray := prog_10_method_3_code
def yX8_become : MethodName := ⟨RX8, "become", "(LDoorLetters$Told;)V"⟩
def TX9 : u_T := fun k => match k with
  | 0 => ("DoorLetters$VillageReader", "told", "LDoorLetters$Told;", true)
  | _ => ("DoorLetters$VillageReader", "clauses", "I", false)
def tyX9 : Nat → FieldType := fun k => match k with
  | 0 => .object "DoorLetters$Told"
  | _ => .int
abbrev wsX90 : List Cond := u_ws RX9 TX9 2
theorem nmX9 : ∀ a, a < 2 → ∀ b, b < 2 → a ≠ b → (TX9 a).2.1 ≠ (TX9 b).2.1 := by decide +kernel
theorem tyX9_ok : ∀ k, k < 2 → parseFieldDescriptor (TX9 k).2.2.1 = some (tyX9 k) := by decide +kernel
abbrev cX9_init : ByteArray := prog_11_method_1_code
def yX9_init : MethodName := ⟨RX9, "<init>", "()V"⟩
abbrev cX9_read : ByteArray := prog_11_method_2_code
def yX9_read : MethodName := ⟨RX9, "read", "(LDoorLetters$Text;)I"⟩
abbrev cX9_readClause : ByteArray := prog_11_method_3_code
def yX9_readClause : MethodName := ⟨RX9, "readClause", "(LDoorLetters$Text;)V"⟩
abbrev cX9_readPerson : ByteArray := prog_11_method_4_code
def yX9_readPerson : MethodName := ⟨RX9, "readPerson", "(LDoorLetters$Text;)V"⟩
abbrev cX9_readLetter : ByteArray := prog_11_method_5_code
def yX9_readLetter : MethodName := ⟨RX9, "readLetter", "(LDoorLetters$Text;)V"⟩
abbrev cX9_takeNumber : ByteArray := prog_11_method_6_code
def yX9_takeNumber : MethodName := ⟨RX9, "takeNumber", "(LDoorLetters$Text;II)I"⟩
def TX10 : u_T := fun k => match k with
  | 0 => ("DoorLetters$Walk", "words", "[J", true)
  | 1 => ("DoorLetters$Walk", "told", "LDoorLetters$Told;", false)
  | 2 => ("DoorLetters$Walk", "moment", "LDoorLetters$Moment;", false)
  | _ => ("DoorLetters$Walk", "rule", "LDoorLetters$Rule;", false)
def tyX10 : Nat → FieldType := fun k => match k with
  | 0 => .array .long
  | 1 => .object "DoorLetters$Told"
  | 2 => .object "DoorLetters$Moment"
  | _ => .object "DoorLetters$Rule"
abbrev wsX100 : List Cond := u_ws RX10 TX10 4
theorem nmX10 : ∀ a, a < 4 → ∀ b, b < 4 → a ≠ b → (TX10 a).2.1 ≠ (TX10 b).2.1 := by decide +kernel
theorem tyX10_ok : ∀ k, k < 4 → parseFieldDescriptor (TX10 k).2.2.1 = some (tyX10 k) := by decide +kernel
abbrev cX10_init : ByteArray := prog_12_method_1_code
def yX10_init : MethodName := ⟨RX10, "<init>", "()V"⟩
abbrev cX10_go : ByteArray := prog_12_method_2_code
def yX10_go : MethodName := ⟨RX10, "go", "(LDoorLetters$Told;LDoorLetters$Moment;LDoorLetters$Rule;)V"⟩
abbrev cX10_letterOfDay : ByteArray := prog_12_method_3_code
def yX10_letterOfDay : MethodName := ⟨RX10, "letterOfDay", "()I"⟩
abbrev cX10_passDay : ByteArray := prog_12_method_4_code
def yX10_passDay : MethodName := ⟨RX10, "passDay", "(I)I"⟩
abbrev cX10_hand : ByteArray := prog_12_method_5_code
def yX10_hand : MethodName := ⟨RX10, "hand", "(II)V"⟩
abbrev cX10_wouldClaim : ByteArray := prog_12_method_6_code
def yX10_wouldClaim : MethodName := ⟨RX10, "wouldClaim", "(IIII)Z"⟩
abbrev cX10_shortestWay : ByteArray := prog_12_method_7_code
def yX10_shortestWay : MethodName := ⟨RX10, "shortestWay", "(II)I"⟩
def TX11 : u_T := fun k => match k with
  | 0 => ("DoorLetters", "tape", "LDoorLetters$Text;", true)
  | 1 => ("DoorLetters", "villageReader", "LDoorLetters$VillageReader;", true)
  | 2 => ("DoorLetters", "ruleReader", "LDoorLetters$RuleReader;", true)
  | 3 => ("DoorLetters", "rules", "[LDoorLetters$Rule;", true)
  | 4 => ("DoorLetters", "ruleCount", "I", false)
  | 5 => ("DoorLetters", "state", "LDoorLetters$State;", true)
  | 6 => ("DoorLetters", "images", "[LDoorLetters$State;", true)
  | 7 => ("DoorLetters", "walk", "LDoorLetters$Walk;", true)
  | 8 => ("DoorLetters", "present", "LDoorLetters$Present;", true)
  | 9 => ("DoorLetters", "future", "LDoorLetters$Future;", true)
  | _ => ("DoorLetters", "past", "LDoorLetters$Past;", true)
def tyX11 : Nat → FieldType := fun k => match k with
  | 0 => .object "DoorLetters$Text"
  | 1 => .object "DoorLetters$VillageReader"
  | 2 => .object "DoorLetters$RuleReader"
  | 3 => .array (.object "DoorLetters$Rule")
  | 4 => .int
  | 5 => .object "DoorLetters$State"
  | 6 => .array (.object "DoorLetters$State")
  | 7 => .object "DoorLetters$Walk"
  | 8 => .object "DoorLetters$Present"
  | 9 => .object "DoorLetters$Future"
  | _ => .object "DoorLetters$Past"
abbrev wsX110 : List Cond := u_ws RX11 TX11 11
theorem nmX11 : ∀ a, a < 11 → ∀ b, b < 11 → a ≠ b → (TX11 a).2.1 ≠ (TX11 b).2.1 := by decide +kernel
theorem tyX11_ok : ∀ k, k < 11 → parseFieldDescriptor (TX11 k).2.2.1 = some (tyX11 k) := by decide +kernel
abbrev cX11_init : ByteArray := prog_1_method_1_code
def yX11_init : MethodName := ⟨RX11, "<init>", "()V"⟩
abbrev cX11_feed : ByteArray := prog_1_method_2_code
def yX11_feed : MethodName := ⟨RX11, "feed", "(IIIII)I"⟩
abbrev cX11_end : ByteArray := prog_1_method_3_code
def yX11_end : MethodName := ⟨RX11, "end", "(I)I"⟩
abbrev cX11_village : ByteArray := prog_1_method_4_code
def yX11_village : MethodName := ⟨RX11, "village", "()I"⟩
abbrev cX11_rule : ByteArray := prog_1_method_5_code
def yX11_rule : MethodName := ⟨RX11, "rule", "()I"⟩
abbrev cX11_force : ByteArray := prog_1_method_6_code
def yX11_force : MethodName := ⟨RX11, "force", "(I)I"⟩
abbrev cX11_person : ByteArray := prog_1_method_7_code
def yX11_person : MethodName := ⟨RX11, "person", "(II)I"⟩
abbrev cX11_letter : ByteArray := prog_1_method_8_code
def yX11_letter : MethodName := ⟨RX11, "letter", "(II)I"⟩
abbrev cX11_day : ByteArray := prog_1_method_9_code
def yX11_day : MethodName := ⟨RX11, "day", "()I"⟩
abbrev cX11_begin : ByteArray := prog_1_method_10_code
def yX11_begin : MethodName := ⟨RX11, "begin", "(I)I"⟩
abbrev cX11_live : ByteArray := prog_1_method_11_code
def yX11_live : MethodName := ⟨RX11, "live", "(II)I"⟩
abbrev cX11_give : ByteArray := prog_1_method_12_code
def yX11_give : MethodName := ⟨RX11, "give", "(II)I"⟩
abbrev cX11_hush : ByteArray := prog_1_method_13_code
def yX11_hush : MethodName := ⟨RX11, "hush", "(I)I"⟩
abbrev cX11_undo : ByteArray := prog_1_method_14_code
def yX11_undo : MethodName := ⟨RX11, "undo", "()I"⟩
abbrev cX11_fits : ByteArray := prog_1_method_15_code
def yX11_fits : MethodName := ⟨RX11, "fits", "(III)I"⟩
abbrev cX11_whose : ByteArray := prog_1_method_16_code
def yX11_whose : MethodName := ⟨RX11, "whose", "(II)I"⟩
abbrev cX11_ask : ByteArray := prog_1_method_17_code
def yX11_ask : MethodName := ⟨RX11, "ask", "(II)I"⟩
abbrev cX11_know : ByteArray := prog_1_method_18_code
def yX11_know : MethodName := ⟨RX11, "know", "(I)I"⟩
abbrev cX11_pairs : ByteArray := prog_1_method_19_code
def yX11_pairs : MethodName := ⟨RX11, "pairs", "(I)I"⟩
abbrev cX11_best : ByteArray := prog_1_method_20_code
def yX11_best : MethodName := ⟨RX11, "best", "()I"⟩
abbrev cX11_way : ByteArray := prog_1_method_21_code
def yX11_way : MethodName := ⟨RX11, "way", "(II)I"⟩
abbrev cX11_join : ByteArray := prog_1_method_22_code
def yX11_join : MethodName := ⟨RX11, "join", "(II)I"⟩
abbrev cX11_rests : ByteArray := prog_1_method_23_code
def yX11_rests : MethodName := ⟨RX11, "rests", "(IIII)I"⟩
abbrev cX11_ahead : ByteArray := prog_1_method_24_code
def yX11_ahead : MethodName := ⟨RX11, "ahead", "(III)I"⟩
abbrev cX11_first : ByteArray := prog_1_method_25_code
def yX11_first : MethodName := ⟨RX11, "first", "(I)I"⟩
abbrev cX11_nobody : ByteArray := prog_1_method_26_code
def yX11_nobody : MethodName := ⟨RX11, "nobody", "()I"⟩
abbrev cX11_often : ByteArray := prog_1_method_27_code
def yX11_often : MethodName := ⟨RX11, "often", "(II)I"⟩
abbrev cX11_start : ByteArray := prog_1_method_28_code
def yX11_start : MethodName := ⟨RX11, "start", "(II)I"⟩
abbrev cX11_lives : ByteArray := prog_1_method_29_code
def yX11_lives : MethodName := ⟨RX11, "lives", "(II)I"⟩
abbrev cX11_writes : ByteArray := prog_1_method_30_code
def yX11_writes : MethodName := ⟨RX11, "writes", "(II)I"⟩
abbrev cX11_alike : ByteArray := prog_1_method_31_code
def yX11_alike : MethodName := ⟨RX11, "alike", "(I)I"⟩
abbrev cX11_pence : ByteArray := prog_1_method_32_code
def yX11_pence : MethodName := ⟨RX11, "pence", "(II)I"⟩
abbrev cX11_note : ByteArray := prog_1_method_33_code
def yX11_note : MethodName := ⟨RX11, "note", "(II)I"⟩
abbrev cX11_ruled : ByteArray := prog_1_method_34_code
def yX11_ruled : MethodName := ⟨RX11, "ruled", "(I)I"⟩
abbrev cX11_look : ByteArray := prog_1_method_35_code
def yX11_look : MethodName := ⟨RX11, "look", "(I)I"⟩
abbrev cX11_seed : ByteArray := prog_1_method_36_code
def yX11_seed : MethodName := ⟨RX11, "seed", "(I)I"⟩
abbrev cX11_rains : ByteArray := prog_1_method_37_code
def yX11_rains : MethodName := ⟨RX11, "rains", "(IIII)I"⟩
abbrev cX11_count : ByteArray := prog_1_method_38_code
def yX11_count : MethodName := ⟨RX11, "count", "(I)I"⟩
abbrev cX11_image : ByteArray := prog_1_method_39_code
def yX11_image : MethodName := ⟨RX11, "image", "(I)I"⟩
abbrev cX11_back : ByteArray := prog_1_method_40_code
def yX11_back : MethodName := ⟨RX11, "back", "(I)I"⟩
abbrev cX11_isVillage : ByteArray := prog_1_method_41_code
def yX11_isVillage : MethodName := ⟨RX11, "isVillage", "()Z"⟩
abbrev cX11_isPerson : ByteArray := prog_1_method_42_code
def yX11_isPerson : MethodName := ⟨RX11, "isPerson", "(I)Z"⟩
abbrev cX11_isLetter : ByteArray := prog_1_method_43_code
def yX11_isLetter : MethodName := ⟨RX11, "isLetter", "(I)Z"⟩
abbrev cX11_isEither : ByteArray := prog_1_method_44_code
def yX11_isEither : MethodName := ⟨RX11, "isEither", "(I)Z"⟩
abbrev cX11_isWithin : ByteArray := prog_1_method_45_code
def yX11_isWithin : MethodName := ⟨RX11, "isWithin", "(III)Z"⟩
abbrev cX11_ruleInForce : ByteArray := prog_1_method_46_code
def yX11_ruleInForce : MethodName := ⟨RX11, "ruleInForce", "()LDoorLetters$Rule;"⟩
abbrev cX11_sumOf : ByteArray := prog_1_method_47_code
def yX11_sumOf : MethodName := ⟨RX11, "sumOf", "([I)I"⟩
def TX12 : u_T := fun k => match k with
  | 0 => ("DoorLettersModel", "thrown", "I", false)
  | 1 => ("DoorLettersModel", "scalar", "[I", true)
  | 2 => ("DoorLettersModel", "lived", "[I", true)
  | 3 => ("DoorLettersModel", "pride", "[I", true)
  | 4 => ("DoorLettersModel", "shame", "[I", true)
  | 5 => ("DoorLettersModel", "holds", "[I", true)
  | 6 => ("DoorLettersModel", "claims", "[I", true)
  | 7 => ("DoorLettersModel", "noteDay", "[I", true)
  | 8 => ("DoorLettersModel", "noteWho", "[I", true)
  | 9 => ("DoorLettersModel", "toldLived", "[I", true)
  | 10 => ("DoorLettersModel", "toldPride", "[I", true)
  | 11 => ("DoorLettersModel", "toldShame", "[I", true)
  | 12 => ("DoorLettersModel", "toldClaims", "[I", true)
  | 13 => ("DoorLettersModel", "newScalar", "[I", true)
  | 14 => ("DoorLettersModel", "newLived", "[I", true)
  | 15 => ("DoorLettersModel", "newPride", "[I", true)
  | 16 => ("DoorLettersModel", "newShame", "[I", true)
  | 17 => ("DoorLettersModel", "newClaims", "[I", true)
  | 18 => ("DoorLettersModel", "taped", "I", false)
  | 19 => ("DoorLettersModel", "p", "I", false)
  | 20 => ("DoorLettersModel", "fault", "I", false)
  | 21 => ("DoorLettersModel", "slot", "I", false)
  | 22 => ("DoorLettersModel", "rules", "I", false)
  | 23 => ("DoorLettersModel", "entries", "I", false)
  | 24 => ("DoorLettersModel", "deep", "I", false)
  | 25 => ("DoorLettersModel", "counted", "I", false)
  | 26 => ("DoorLettersModel", "opened", "I", false)
  | 27 => ("DoorLettersModel", "words", "I", false)
  | 28 => ("DoorLettersModel", "tape", "[B", true)
  | 29 => ("DoorLettersModel", "sort", "[I", true)
  | 30 => ("DoorLettersModel", "number", "[I", true)
  | 31 => ("DoorLettersModel", "clauses", "[I", true)
  | 32 => ("DoorLettersModel", "sumAt", "[I", true)
  | 33 => ("DoorLettersModel", "testAt", "[I", true)
  | 34 => ("DoorLettersModel", "endAt", "[I", true)
  | 35 => ("DoorLettersModel", "open", "[I", true)
  | 36 => ("DoorLettersModel", "asked", "[J", true)
  | 37 => ("DoorLettersModel", "stack", "[J", true)
  | 38 => ("DoorLettersModel", "didFit", "Z", false)
  | 39 => ("DoorLettersModel", "past", "[I", true)
  | 40 => ("DoorLettersModel", "pastOf", "[I", true)
  | 41 => ("DoorLettersModel", "pastMany", "I", false)
  | 42 => ("DoorLettersModel", "pastAt", "I", false)
  | 43 => ("DoorLettersModel", "takesBack", "Z", false)
  | 44 => ("DoorLettersModel", "cost", "[I", true)
  | 45 => ("DoorLettersModel", "most", "[I", true)
  | 46 => ("DoorLettersModel", "times", "[I", true)
  | 47 => ("DoorLettersModel", "lay", "[I", true)
  | 48 => ("DoorLettersModel", "course", "[I", true)
  | 49 => ("DoorLettersModel", "shows", "[I", true)
  | 50 => ("DoorLettersModel", "images", "[I", true)
  | 51 => ("DoorLettersModel", "isMade", "[Z", true)
  | 52 => ("DoorLettersModel", "imageAt", "I", false)
  | _ => ("DoorLettersModel", "goesBack", "Z", false)
def tyX12 : Nat → FieldType := fun k => match k with
  | 0 => .int
  | 1 => .array .int
  | 2 => .array .int
  | 3 => .array .int
  | 4 => .array .int
  | 5 => .array .int
  | 6 => .array .int
  | 7 => .array .int
  | 8 => .array .int
  | 9 => .array .int
  | 10 => .array .int
  | 11 => .array .int
  | 12 => .array .int
  | 13 => .array .int
  | 14 => .array .int
  | 15 => .array .int
  | 16 => .array .int
  | 17 => .array .int
  | 18 => .int
  | 19 => .int
  | 20 => .int
  | 21 => .int
  | 22 => .int
  | 23 => .int
  | 24 => .int
  | 25 => .int
  | 26 => .int
  | 27 => .int
  | 28 => .array .byte
  | 29 => .array .int
  | 30 => .array .int
  | 31 => .array .int
  | 32 => .array .int
  | 33 => .array .int
  | 34 => .array .int
  | 35 => .array .int
  | 36 => .array .long
  | 37 => .array .long
  | 38 => .boolean
  | 39 => .array .int
  | 40 => .array .int
  | 41 => .int
  | 42 => .int
  | 43 => .boolean
  | 44 => .array .int
  | 45 => .array .int
  | 46 => .array .int
  | 47 => .array .int
  | 48 => .array .int
  | 49 => .array .int
  | 50 => .array .int
  | 51 => .array .boolean
  | 52 => .int
  | _ => .boolean
abbrev wsX120 : List Cond := u_ws RX12 TX12 54
theorem nmX12 : ∀ a, a < 54 → ∀ b, b < 54 → a ≠ b → (TX12 a).2.1 ≠ (TX12 b).2.1 := by decide +kernel
theorem tyX12_ok : ∀ k, k < 54 → parseFieldDescriptor (TX12 k).2.2.1 = some (tyX12 k) := by decide +kernel
abbrev cX12_init : ByteArray := prog_14_method_1_code
def yX12_init : MethodName := ⟨RX12, "<init>", "()V"⟩
abbrev cX12_in : ByteArray := prog_14_method_3_code
def yX12_in : MethodName := ⟨RX12, "in", "(JJJ)Z"⟩
abbrev cX12_bits : ByteArray := prog_14_method_4_code
def yX12_bits : MethodName := ⟨RX12, "bits", "(I)I"⟩
abbrev cX12_has : ByteArray := prog_14_method_5_code
def yX12_has : MethodName := ⟨RX12, "has", "(II)Z"⟩
abbrev cX12_isVillage : ByteArray := prog_14_method_6_code
def yX12_isVillage : MethodName := ⟨RX12, "isVillage", "()Z"⟩
abbrev cX12_isPerson : ByteArray := prog_14_method_7_code
def yX12_isPerson : MethodName := ⟨RX12, "isPerson", "(I)Z"⟩
abbrev cX12_isLetter : ByteArray := prog_14_method_8_code
def yX12_isLetter : MethodName := ⟨RX12, "isLetter", "(I)Z"⟩
abbrev cX12_feed : ByteArray := prog_14_method_9_code
def yX12_feed : MethodName := ⟨RX12, "feed", "(IIIII)I"⟩
abbrev cX12_put : ByteArray := prog_14_method_10_code
def yX12_put : MethodName := ⟨RX12, "put", "(I)V"⟩
abbrev cX12_end : ByteArray := prog_14_method_11_code
def yX12_end : MethodName := ⟨RX12, "end", "(I)I"⟩
abbrev cX12_wordOf : ByteArray := prog_14_method_12_code
def yX12_wordOf : MethodName := ⟨RX12, "wordOf", "(I)Ljava/lang/String;"⟩
abbrev cX12_fails : ByteArray := prog_14_method_13_code
def yX12_fails : MethodName := ⟨RX12, "fails", "(II)V"⟩
abbrev cX12_sign : ByteArray := prog_14_method_14_code
def yX12_sign : MethodName := ⟨RX12, "sign", "()I"⟩
abbrev cX12_blanks : ByteArray := prog_14_method_15_code
def yX12_blanks : MethodName := ⟨RX12, "blanks", "()V"⟩
abbrev cX12_isDigit : ByteArray := prog_14_method_16_code
def yX12_isDigit : MethodName := ⟨RX12, "isDigit", "()Z"⟩
abbrev cX12_stood : ByteArray := prog_14_method_17_code
def yX12_stood : MethodName := ⟨RX12, "stood", "(Ljava/lang/String;)Z"⟩
abbrev cX12_takes : ByteArray := prog_14_method_18_code
def yX12_takes : MethodName := ⟨RX12, "takes", "(Ljava/lang/String;)Z"⟩
abbrev cX12_entry : ByteArray := prog_14_method_19_code
def yX12_entry : MethodName := ⟨RX12, "entry", "(II)V"⟩
abbrev cX12_isCounted : ByteArray := prog_14_method_20_code
def yX12_isCounted : MethodName := ⟨RX12, "isCounted", "(I)V"⟩
abbrev cX12_digits : ByteArray := prog_14_method_21_code
def yX12_digits : MethodName := ⟨RX12, "digits", "(I)I"⟩
abbrev cX12_value : ByteArray := prog_14_method_22_code
def yX12_value : MethodName := ⟨RX12, "value", "()V"⟩
abbrev cX12_term : ByteArray := prog_14_method_23_code
def yX12_term : MethodName := ⟨RX12, "term", "()V"⟩
abbrev cX12_sum : ByteArray := prog_14_method_24_code
def yX12_sum : MethodName := ⟨RX12, "sum", "()V"⟩
abbrev cX12_compared : ByteArray := prog_14_method_25_code
def yX12_compared : MethodName := ⟨RX12, "compared", "()V"⟩
abbrev cX12_top : ByteArray := prog_14_method_26_code
def yX12_top : MethodName := ⟨RX12, "top", "()I"⟩
abbrev cX12_opens : ByteArray := prog_14_method_27_code
def yX12_opens : MethodName := ⟨RX12, "opens", "(I)V"⟩
abbrev cX12_answers : ByteArray := prog_14_method_28_code
def yX12_answers : MethodName := ⟨RX12, "answers", "(I)V"⟩
abbrev cX12_fact : ByteArray := prog_14_method_29_code
def yX12_fact : MethodName := ⟨RX12, "fact", "()Z"⟩
abbrev cX12_test : ByteArray := prog_14_method_30_code
def yX12_test : MethodName := ⟨RX12, "test", "()V"⟩
abbrev cX12_amount : ByteArray := prog_14_method_31_code
def yX12_amount : MethodName := ⟨RX12, "amount", "(II)I"⟩
abbrev cX12_villageWord : ByteArray := prog_14_method_32_code
def yX12_villageWord : MethodName := ⟨RX12, "villageWord", "(I)Ljava/lang/String;"⟩
abbrev cX12_villagePart : ByteArray := prog_14_method_33_code
def yX12_villagePart : MethodName := ⟨RX12, "villagePart", "(I)V"⟩
abbrev cX12_isOver : ByteArray := prog_14_method_34_code
def yX12_isOver : MethodName := ⟨RX12, "isOver", "(II)Z"⟩
abbrev cX12_villageClause : ByteArray := prog_14_method_35_code
def yX12_villageClause : MethodName := ⟨RX12, "villageClause", "(I)V"⟩
abbrev cX12_copies : ByteArray := prog_14_method_36_code
def yX12_copies : MethodName := ⟨RX12, "copies", "([I[I)V"⟩
abbrev cX12_goesOn : ByteArray := prog_14_method_37_code
def yX12_goesOn : MethodName := ⟨RX12, "goesOn", "()Z"⟩
abbrev cX12_starts : ByteArray := prog_14_method_38_code
def yX12_starts : MethodName := ⟨RX12, "starts", "()V"⟩
abbrev cX12_readsAll : ByteArray := prog_14_method_39_code
def yX12_readsAll : MethodName := ⟨RX12, "readsAll", "()V"⟩
abbrev cX12_begins : ByteArray := prog_14_method_40_code
def yX12_begins : MethodName := ⟨RX12, "begins", "()V"⟩
abbrev cX12_village : ByteArray := prog_14_method_41_code
def yX12_village : MethodName := ⟨RX12, "village", "()I"⟩
abbrev cX12_ruleClause : ByteArray := prog_14_method_42_code
def yX12_ruleClause : MethodName := ⟨RX12, "ruleClause", "(I)V"⟩
abbrev cX12_rule : ByteArray := prog_14_method_43_code
def yX12_rule : MethodName := ⟨RX12, "rule", "()I"⟩
abbrev cX12_force : ByteArray := prog_14_method_44_code
def yX12_force : MethodName := ⟨RX12, "force", "(I)I"⟩
abbrev cX12_wanted : ByteArray := prog_14_method_45_code
def yX12_wanted : MethodName := ⟨RX12, "wanted", "()J"⟩
abbrev cX12_truth : ByteArray := prog_14_method_46_code
def yX12_truth : MethodName := ⟨RX12, "truth", "(Z)J"⟩
abbrev cX12_both : ByteArray := prog_14_method_47_code
def yX12_both : MethodName := ⟨RX12, "both", "(IJJ)J"⟩
abbrev cX12_answer : ByteArray := prog_14_method_48_code
def yX12_answer : MethodName := ⟨RX12, "answer", "(III)J"⟩
abbrev cX12_person : ByteArray := prog_14_method_49_code
def yX12_person : MethodName := ⟨RX12, "person", "(II)I"⟩
abbrev cX12_letter : ByteArray := prog_14_method_50_code
def yX12_letter : MethodName := ⟨RX12, "letter", "(II)I"⟩
abbrev cX12_fitsOf : ByteArray := prog_14_method_51_code
def yX12_fitsOf : MethodName := ⟨RX12, "fitsOf", "(II)I"⟩
abbrev cX12_lacksOf : ByteArray := prog_14_method_52_code
def yX12_lacksOf : MethodName := ⟨RX12, "lacksOf", "(II)I"⟩
abbrev cX12_beyondOf : ByteArray := prog_14_method_53_code
def yX12_beyondOf : MethodName := ⟨RX12, "beyondOf", "(II)I"⟩
abbrev cX12_fits : ByteArray := prog_14_method_54_code
def yX12_fits : MethodName := ⟨RX12, "fits", "(III)I"⟩
abbrev cX12_isClaimed : ByteArray := prog_14_method_55_code
def yX12_isClaimed : MethodName := ⟨RX12, "isClaimed", "(III)Z"⟩
abbrev cX12_claimsIt : ByteArray := prog_14_method_56_code
def yX12_claimsIt : MethodName := ⟨RX12, "claimsIt", "(II)V"⟩
abbrev cX12_isRead : ByteArray := prog_14_method_57_code
def yX12_isRead : MethodName := ⟨RX12, "isRead", "(I)I"⟩
abbrev cX12_goes : ByteArray := prog_14_method_58_code
def yX12_goes : MethodName := ⟨RX12, "goes", "()I"⟩
abbrev cX12_goFor : ByteArray := prog_14_method_59_code
def yX12_goFor : MethodName := ⟨RX12, "goFor", "(I)V"⟩
abbrev cX12_moves : ByteArray := prog_14_method_60_code
def yX12_moves : MethodName := ⟨RX12, "moves", "(I)I"⟩
abbrev cX12_movesRow : ByteArray := prog_14_method_61_code
def yX12_movesRow : MethodName := ⟨RX12, "movesRow", "([I)V"⟩
abbrev cX12_movesAll : ByteArray := prog_14_method_62_code
def yX12_movesAll : MethodName := ⟨RX12, "movesAll", "(IZ)V"⟩
abbrev cX12_keepsAct : ByteArray := prog_14_method_63_code
def yX12_keepsAct : MethodName := ⟨RX12, "keepsAct", "()V"⟩
abbrev cX12_undo : ByteArray := prog_14_method_64_code
def yX12_undo : MethodName := ⟨RX12, "undo", "()I"⟩
abbrev cX12_day : ByteArray := prog_14_method_65_code
def yX12_day : MethodName := ⟨RX12, "day", "()I"⟩
abbrev cX12_begin : ByteArray := prog_14_method_66_code
def yX12_begin : MethodName := ⟨RX12, "begin", "(I)I"⟩
abbrev cX12_live : ByteArray := prog_14_method_67_code
def yX12_live : MethodName := ⟨RX12, "live", "(II)I"⟩
abbrev cX12_give : ByteArray := prog_14_method_68_code
def yX12_give : MethodName := ⟨RX12, "give", "(II)I"⟩
abbrev cX12_hush : ByteArray := prog_14_method_69_code
def yX12_hush : MethodName := ⟨RX12, "hush", "(I)I"⟩
abbrev cX12_whose : ByteArray := prog_14_method_70_code
def yX12_whose : MethodName := ⟨RX12, "whose", "(II)I"⟩
abbrev cX12_whoLived : ByteArray := prog_14_method_71_code
def yX12_whoLived : MethodName := ⟨RX12, "whoLived", "(II)I"⟩
abbrev cX12_costBy : ByteArray := prog_14_method_72_code
def yX12_costBy : MethodName := ⟨RX12, "costBy", "(II)I"⟩
abbrev cX12_bestMatter : ByteArray := prog_14_method_73_code
def yX12_bestMatter : MethodName := ⟨RX12, "bestMatter", "(I)I"⟩
abbrev cX12_ask : ByteArray := prog_14_method_74_code
def yX12_ask : MethodName := ⟨RX12, "ask", "(II)I"⟩
abbrev cX12_areTold : ByteArray := prog_14_method_75_code
def yX12_areTold : MethodName := ⟨RX12, "areTold", "(I)Z"⟩
abbrev cX12_know : ByteArray := prog_14_method_76_code
def yX12_know : MethodName := ⟨RX12, "know", "(I)I"⟩
abbrev cX12_gain : ByteArray := prog_14_method_77_code
def yX12_gain : MethodName := ⟨RX12, "gain", "(IIZ)I"⟩
abbrev cX12_laysMost : ByteArray := prog_14_method_78_code
def yX12_laysMost : MethodName := ⟨RX12, "laysMost", "(Z)V"⟩
abbrev cX12_givenTo : ByteArray := prog_14_method_79_code
def yX12_givenTo : MethodName := ⟨RX12, "givenTo", "(I)I"⟩
abbrev cX12_pairs : ByteArray := prog_14_method_80_code
def yX12_pairs : MethodName := ⟨RX12, "pairs", "(I)I"⟩
abbrev cX12_best : ByteArray := prog_14_method_81_code
def yX12_best : MethodName := ⟨RX12, "best", "()I"⟩
abbrev cX12_readsBy : ByteArray := prog_14_method_82_code
def yX12_readsBy : MethodName := ⟨RX12, "readsBy", "(III)I"⟩
abbrev cX12_nextReader : ByteArray := prog_14_method_83_code
def yX12_nextReader : MethodName := ⟨RX12, "nextReader", "(II)I"⟩
abbrev cX12_way : ByteArray := prog_14_method_84_code
def yX12_way : MethodName := ⟨RX12, "way", "(II)I"⟩
abbrev cX12_joined : ByteArray := prog_14_method_85_code
def yX12_joined : MethodName := ⟨RX12, "joined", "(I)I"⟩
abbrev cX12_join : ByteArray := prog_14_method_86_code
def yX12_join : MethodName := ⟨RX12, "join", "(II)I"⟩
abbrev cX12_worthOf : ByteArray := prog_14_method_87_code
def yX12_worthOf : MethodName := ⟨RX12, "worthOf", "(IIIII)I"⟩
abbrev cX12_isRest : ByteArray := prog_14_method_88_code
def yX12_isRest : MethodName := ⟨RX12, "isRest", "(IIIII)Z"⟩
abbrev cX12_rests : ByteArray := prog_14_method_89_code
def yX12_rests : MethodName := ⟨RX12, "rests", "(IIII)I"⟩
abbrev cX12_keepsAll : ByteArray := prog_14_method_90_code
def yX12_keepsAll : MethodName := ⟨RX12, "keepsAll", "()V"⟩
abbrev cX12_laysBack : ByteArray := prog_14_method_91_code
def yX12_laysBack : MethodName := ⟨RX12, "laysBack", "()V"⟩
abbrev cX12_ahead : ByteArray := prog_14_method_92_code
def yX12_ahead : MethodName := ⟨RX12, "ahead", "(III)I"⟩
abbrev cX12_firstDay : ByteArray := prog_14_method_93_code
def yX12_firstDay : MethodName := ⟨RX12, "firstDay", "(I)I"⟩
abbrev cX12_first : ByteArray := prog_14_method_94_code
def yX12_first : MethodName := ⟨RX12, "first", "(I)I"⟩
abbrev cX12_nobody : ByteArray := prog_14_method_95_code
def yX12_nobody : MethodName := ⟨RX12, "nobody", "()I"⟩
abbrev cX12_often : ByteArray := prog_14_method_96_code
def yX12_often : MethodName := ⟨RX12, "often", "(II)I"⟩
abbrev cX12_fitIn : ByteArray := prog_14_method_97_code
def yX12_fitIn : MethodName := ⟨RX12, "fitIn", "(I)I"⟩
abbrev cX12_start : ByteArray := prog_14_method_98_code
def yX12_start : MethodName := ⟨RX12, "start", "(II)I"⟩
abbrev cX12_laysDay : ByteArray := prog_14_method_99_code
def yX12_laysDay : MethodName := ⟨RX12, "laysDay", "(I)V"⟩
abbrev cX12_areAlike : ByteArray := prog_14_method_100_code
def yX12_areAlike : MethodName := ⟨RX12, "areAlike", "(II)Z"⟩
abbrev cX12_alike : ByteArray := prog_14_method_101_code
def yX12_alike : MethodName := ⟨RX12, "alike", "(I)I"⟩
abbrev cX12_allOf : ByteArray := prog_14_method_102_code
def yX12_allOf : MethodName := ⟨RX12, "allOf", "([I)I"⟩
abbrev cX12_pence : ByteArray := prog_14_method_103_code
def yX12_pence : MethodName := ⟨RX12, "pence", "(II)I"⟩
abbrev cX12_note : ByteArray := prog_14_method_104_code
def yX12_note : MethodName := ⟨RX12, "note", "(II)I"⟩
abbrev cX12_doNotesFit : ByteArray := prog_14_method_105_code
def yX12_doNotesFit : MethodName := ⟨RX12, "doNotesFit", "()Z"⟩
abbrev cX12_couldRule : ByteArray := prog_14_method_106_code
def yX12_couldRule : MethodName := ⟨RX12, "couldRule", "(I)Z"⟩
abbrev cX12_ruled : ByteArray := prog_14_method_107_code
def yX12_ruled : MethodName := ⟨RX12, "ruled", "(I)I"⟩
abbrev cX12_couldBe : ByteArray := prog_14_method_108_code
def yX12_couldBe : MethodName := ⟨RX12, "couldBe", "([III)I"⟩
abbrev cX12_lives : ByteArray := prog_14_method_109_code
def yX12_lives : MethodName := ⟨RX12, "lives", "(II)I"⟩
abbrev cX12_writes : ByteArray := prog_14_method_110_code
def yX12_writes : MethodName := ⟨RX12, "writes", "(II)I"⟩
abbrev cX12_mostAlike : ByteArray := prog_14_method_111_code
def yX12_mostAlike : MethodName := ⟨RX12, "mostAlike", "(II)I"⟩
abbrev cX12_look : ByteArray := prog_14_method_112_code
def yX12_look : MethodName := ⟨RX12, "look", "(I)I"⟩
abbrev cX12_seed : ByteArray := prog_14_method_113_code
def yX12_seed : MethodName := ⟨RX12, "seed", "(I)I"⟩
abbrev cX12_draws : ByteArray := prog_14_method_114_code
def yX12_draws : MethodName := ⟨RX12, "draws", "(I)I"⟩
abbrev cX12_rainsOn : ByteArray := prog_14_method_115_code
def yX12_rainsOn : MethodName := ⟨RX12, "rainsOn", "(I)I"⟩
abbrev cX12_rains : ByteArray := prog_14_method_116_code
def yX12_rains : MethodName := ⟨RX12, "rains", "(IIII)I"⟩
abbrev cX12_count : ByteArray := prog_14_method_117_code
def yX12_count : MethodName := ⟨RX12, "count", "(I)I"⟩
abbrev cX12_carryRow : ByteArray := prog_14_method_118_code
def yX12_carryRow : MethodName := ⟨RX12, "carryRow", "([I)V"⟩
abbrev cX12_carriesAll : ByteArray := prog_14_method_119_code
def yX12_carriesAll : MethodName := ⟨RX12, "carriesAll", "(IZ)V"⟩
abbrev cX12_image : ByteArray := prog_14_method_120_code
def yX12_image : MethodName := ⟨RX12, "image", "(I)I"⟩
abbrev cX12_back : ByteArray := prog_14_method_121_code
def yX12_back : MethodName := ⟨RX12, "back", "(I)I"⟩
abbrev cJ6_bitCount_0f7a4 : ByteArray := prog_16_method_49_code
def yJ6_bitCount_0f7a4 : MethodName := ⟨RJ6, "bitCount", "(I)I"⟩
abbrev cJ9_max_7cf53 : ByteArray := prog_17_method_65_code
def yJ9_max_7cf53 : MethodName := ⟨RJ9, "max", "(II)I"⟩
abbrev cJ9_max_f86c9 : ByteArray := prog_17_method_66_code
def yJ9_max_f86c9 : MethodName := ⟨RJ9, "max", "(JJ)J"⟩
abbrev cJ9_min_7cf53 : ByteArray := prog_17_method_69_code
def yJ9_min_7cf53 : MethodName := ⟨RJ9, "min", "(II)I"⟩
abbrev cJ0_length_8abf5 : ByteArray := prog_18_method_54_code
def yJ0_length_8abf5 : MethodName := ⟨RJ0, "length", "()I"⟩
abbrev cJ0_charAt_5068e : ByteArray := prog_18_method_56_code
def yJ0_charAt_5068e : MethodName := ⟨RJ0, "charAt", "(I)C"⟩
abbrev cJ0_coder_7d493 : ByteArray := prog_18_method_152_code
def yJ0_coder_7d493 : MethodName := ⟨RJ0, "coder", "()B"⟩
abbrev cJ0_isLatin1_aae02 : ByteArray := prog_18_method_154_code
def yJ0_isLatin1_aae02 : MethodName := ⟨RJ0, "isLatin1", "()Z"⟩
abbrev cJ0_checkIndex_df160 : ByteArray := prog_18_method_155_code
def yJ0_checkIndex_df160 : MethodName := ⟨RJ0, "checkIndex", "(II)V"⟩
abbrev cJ1_charAt_3b067 : ByteArray := prog_19_method_2_code
def yJ1_charAt_3b067 : MethodName := ⟨RJ1, "charAt", "([BI)C"⟩
abbrev cJ2_getChar_3b067 : ByteArray := prog_20_method_5_code
def yJ2_getChar_3b067 : MethodName := ⟨RJ2, "getChar", "([BI)C"⟩
abbrev cJ2_length_9d52b : ByteArray := prog_20_method_6_code
def yJ2_length_9d52b : MethodName := ⟨RJ2, "length", "([B)I"⟩
abbrev cJ2_charAt_3b067 : ByteArray := prog_20_method_83_code
def yJ2_charAt_3b067 : MethodName := ⟨RJ2, "charAt", "([BI)C"⟩
abbrev cJ2_checkIndex_2214a : ByteArray := prog_20_method_91_code
def yJ2_checkIndex_2214a : MethodName := ⟨RJ2, "checkIndex", "(I[B)V"⟩
abbrev cJ7_fill_d0a16 : ByteArray := prog_22_method_101_code
def yJ7_fill_d0a16 : MethodName := ⟨RJ7, "fill", "([JJ)V"⟩
abbrev cJ7_fill_53178 : ByteArray := prog_22_method_103_code
def yJ7_fill_53178 : MethodName := ⟨RJ7, "fill", "([II)V"⟩
abbrev cJ7_copyOf_59c91 : ByteArray := prog_22_method_123_code
def yJ7_copyOf_59c91 : MethodName := ⟨RJ7, "copyOf", "([II)[I"⟩
abbrev cJ3_checkIndex_8e157 : ByteArray := prog_23_method_11_code
def yJ3_checkIndex_8e157 : MethodName := ⟨RJ3, "checkIndex", "(IILjava/util/function/BiFunction;)I"⟩
abbrev cL_law : ByteArray := code
abbrev vwCl : List vw_C := [(RX0, TX0, 8), (RX1, TX1, 7), (RX2, TX2, 7), (RX3, TX3, 4), (RX4, TX4, 2), (RX5, TX5, 9), (RX6, TX6, 10), (RX7, TX7, 7), (RX8, TX8, 7), (RX9, TX9, 2), (RX10, TX10, 4), (RX11, TX11, 11), (RX12, TX12, 54)]
