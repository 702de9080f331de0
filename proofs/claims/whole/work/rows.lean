section
-- ===== PART A: goes FIRST, ahead of the names: the tables' words, and 'selects' of the private methods out of them =====
/-- a private method of a class that the tables say can be made, by its rows of tables_1 -/
def lw_okq (q : MethodName × Nat) : Prop := (q.1.cls ≠ "java/lang/invoke/MethodHandle" ∧ q.1.cls ≠ "java/lang/invoke/VarHandle") ∧ Cond.instantiable q.1.cls q.2 ∈ tables_1 ∧ Cond.privateMethod q.1 ∈ tables_1 ∧ Cond.instanceMethod q.1 ∈ tables_1
theorem lw_p0 : lw_okq (⟨"HeraldDesk$PackReader", "readBody", "(LHeraldDesk$Pack;)Z"⟩, 1) := ⟨⟨by decide +kernel, by decide +kernel⟩, List.mem_of_getElem? (i := 65) (by decide +kernel), List.mem_of_getElem? (i := 246) (by decide +kernel), List.mem_of_getElem? (i := 247) (by decide +kernel)⟩
theorem lw_p1 : lw_okq (⟨"HeraldDesk$PackReader", "readExpression", "(LHeraldDesk$Pack;I)Z"⟩, 1) := ⟨⟨by decide +kernel, by decide +kernel⟩, List.mem_of_getElem? (i := 65) (by decide +kernel), List.mem_of_getElem? (i := 311) (by decide +kernel), List.mem_of_getElem? (i := 312) (by decide +kernel)⟩
theorem lw_p2 : lw_okq (⟨"HeraldDesk$PackReader", "readTerm", "(LHeraldDesk$Pack;I)Z"⟩, 1) := ⟨⟨by decide +kernel, by decide +kernel⟩, List.mem_of_getElem? (i := 65) (by decide +kernel), List.mem_of_getElem? (i := 315) (by decide +kernel), List.mem_of_getElem? (i := 316) (by decide +kernel)⟩
theorem lw_p3 : lw_okq (⟨"HeraldDesk$PackReader", "readFactor", "(LHeraldDesk$Pack;I)Z"⟩, 1) := ⟨⟨by decide +kernel, by decide +kernel⟩, List.mem_of_getElem? (i := 65) (by decide +kernel), List.mem_of_getElem? (i := 319) (by decide +kernel), List.mem_of_getElem? (i := 320) (by decide +kernel)⟩
theorem lw_p4 : lw_okq (⟨"HeraldDesk", "layOnTape", "(I)V"⟩, 10) := ⟨⟨by decide +kernel, by decide +kernel⟩, List.mem_of_getElem? (i := 21) (by decide +kernel), List.mem_of_getElem? (i := 425) (by decide +kernel), List.mem_of_getElem? (i := 426) (by decide +kernel)⟩
theorem lw_p5 : lw_okq (⟨"HeraldDesk$ShieldReader", "readField", "(LHeraldDesk$Shield;)Z"⟩, 1) := ⟨⟨by decide +kernel, by decide +kernel⟩, List.mem_of_getElem? (i := 55) (by decide +kernel), List.mem_of_getElem? (i := 470) (by decide +kernel), List.mem_of_getElem? (i := 471) (by decide +kernel)⟩
theorem lw_p6 : lw_okq (⟨"HeraldDesk$ShieldReader", "readMember", "(LHeraldDesk$Shield;I)I"⟩, 1) := ⟨⟨by decide +kernel, by decide +kernel⟩, List.mem_of_getElem? (i := 55) (by decide +kernel), List.mem_of_getElem? (i := 482) (by decide +kernel), List.mem_of_getElem? (i := 483) (by decide +kernel)⟩
theorem lw_p7 : lw_okq (⟨"HeraldDesk$ShieldReader", "readOn", "(LHeraldDesk$Shield;I)I"⟩, 1) := ⟨⟨by decide +kernel, by decide +kernel⟩, List.mem_of_getElem? (i := 55) (by decide +kernel), List.mem_of_getElem? (i := 487) (by decide +kernel), List.mem_of_getElem? (i := 488) (by decide +kernel)⟩
theorem lw_p8 : lw_okq (⟨"HeraldDesk$ShieldReader", "readCharges", "(LHeraldDesk$Shield;II)I"⟩, 1) := ⟨⟨by decide +kernel, by decide +kernel⟩, List.mem_of_getElem? (i := 55) (by decide +kernel), List.mem_of_getElem? (i := 493) (by decide +kernel), List.mem_of_getElem? (i := 494) (by decide +kernel)⟩
theorem lw_p9 : lw_okq (⟨"HeraldDesk$ShieldReader", "readAttitude", "(LHeraldDesk$Part;)Z"⟩, 1) := ⟨⟨by decide +kernel, by decide +kernel⟩, List.mem_of_getElem? (i := 55) (by decide +kernel), List.mem_of_getElem? (i := 553) (by decide +kernel), List.mem_of_getElem? (i := 554) (by decide +kernel)⟩
theorem lw_p10 : lw_okq (⟨"HeraldDesk$ShieldReader", "readTincture", "(LHeraldDesk$Part;)Z"⟩, 1) := ⟨⟨by decide +kernel, by decide +kernel⟩, List.mem_of_getElem? (i := 55) (by decide +kernel), List.mem_of_getElem? (i := 558) (by decide +kernel), List.mem_of_getElem? (i := 559) (by decide +kernel)⟩
theorem lw_p11 : lw_okq (⟨"HeraldDesk$ShieldReader", "readDuties", "(LHeraldDesk$Part;)Z"⟩, 1) := ⟨⟨by decide +kernel, by decide +kernel⟩, List.mem_of_getElem? (i := 55) (by decide +kernel), List.mem_of_getElem? (i := 562) (by decide +kernel), List.mem_of_getElem? (i := 563) (by decide +kernel)⟩
theorem lw_p12 : lw_okq (⟨"HeraldDesk$ShieldReader", "readBordure", "(LHeraldDesk$Shield;)I"⟩, 1) := ⟨⟨by decide +kernel, by decide +kernel⟩, List.mem_of_getElem? (i := 55) (by decide +kernel), List.mem_of_getElem? (i := 575) (by decide +kernel), List.mem_of_getElem? (i := 576) (by decide +kernel)⟩
theorem lw_p13 : lw_okq (⟨"HeraldDesk$ShieldReader", "readPlain", "(LHeraldDesk$Shield;II)I"⟩, 1) := ⟨⟨by decide +kernel, by decide +kernel⟩, List.mem_of_getElem? (i := 55) (by decide +kernel), List.mem_of_getElem? (i := 581) (by decide +kernel), List.mem_of_getElem? (i := 582) (by decide +kernel)⟩
theorem lw_p14 : lw_okq (⟨"HeraldDesk$ShieldReader", "readMark", "(LHeraldDesk$Shield;)I"⟩, 1) := ⟨⟨by decide +kernel, by decide +kernel⟩, List.mem_of_getElem? (i := 55) (by decide +kernel), List.mem_of_getElem? (i := 585) (by decide +kernel), List.mem_of_getElem? (i := 586) (by decide +kernel)⟩
theorem lw_p15 : lw_okq (⟨"HeraldDesk", "refusal", "()I"⟩, 10) := ⟨⟨by decide +kernel, by decide +kernel⟩, List.mem_of_getElem? (i := 21) (by decide +kernel), List.mem_of_getElem? (i := 591) (by decide +kernel), List.mem_of_getElem? (i := 592) (by decide +kernel)⟩
def lw_privs_1 : List (MethodName × Nat) := [(⟨"HeraldDesk$PackReader", "readBody", "(LHeraldDesk$Pack;)Z"⟩, 1), (⟨"HeraldDesk$PackReader", "readExpression", "(LHeraldDesk$Pack;I)Z"⟩, 1), (⟨"HeraldDesk$PackReader", "readTerm", "(LHeraldDesk$Pack;I)Z"⟩, 1), (⟨"HeraldDesk$PackReader", "readFactor", "(LHeraldDesk$Pack;I)Z"⟩, 1), (⟨"HeraldDesk", "layOnTape", "(I)V"⟩, 10), (⟨"HeraldDesk$ShieldReader", "readField", "(LHeraldDesk$Shield;)Z"⟩, 1), (⟨"HeraldDesk$ShieldReader", "readMember", "(LHeraldDesk$Shield;I)I"⟩, 1), (⟨"HeraldDesk$ShieldReader", "readOn", "(LHeraldDesk$Shield;I)I"⟩, 1), (⟨"HeraldDesk$ShieldReader", "readCharges", "(LHeraldDesk$Shield;II)I"⟩, 1), (⟨"HeraldDesk$ShieldReader", "readAttitude", "(LHeraldDesk$Part;)Z"⟩, 1), (⟨"HeraldDesk$ShieldReader", "readTincture", "(LHeraldDesk$Part;)Z"⟩, 1), (⟨"HeraldDesk$ShieldReader", "readDuties", "(LHeraldDesk$Part;)Z"⟩, 1), (⟨"HeraldDesk$ShieldReader", "readBordure", "(LHeraldDesk$Shield;)I"⟩, 1), (⟨"HeraldDesk$ShieldReader", "readPlain", "(LHeraldDesk$Shield;II)I"⟩, 1), (⟨"HeraldDesk$ShieldReader", "readMark", "(LHeraldDesk$Shield;)I"⟩, 1), (⟨"HeraldDesk", "refusal", "()I"⟩, 10)]
theorem lw_r1 : ∀ q ∈ lw_privs_1, lw_okq q := List.forall_mem_cons.mpr ⟨lw_p0, List.forall_mem_cons.mpr ⟨lw_p1, List.forall_mem_cons.mpr ⟨lw_p2, List.forall_mem_cons.mpr ⟨lw_p3, List.forall_mem_cons.mpr ⟨lw_p4, List.forall_mem_cons.mpr ⟨lw_p5, List.forall_mem_cons.mpr ⟨lw_p6, List.forall_mem_cons.mpr ⟨lw_p7, List.forall_mem_cons.mpr ⟨lw_p8, List.forall_mem_cons.mpr ⟨lw_p9, List.forall_mem_cons.mpr ⟨lw_p10, List.forall_mem_cons.mpr ⟨lw_p11, List.forall_mem_cons.mpr ⟨lw_p12, List.forall_mem_cons.mpr ⟨lw_p13, List.forall_mem_cons.mpr ⟨lw_p14, List.forall_mem_cons.mpr ⟨lw_p15, fun _ h => absurd h List.not_mem_nil⟩⟩⟩⟩⟩⟩⟩⟩⟩⟩⟩⟩⟩⟩⟩⟩
theorem lw_p16 : lw_okq (⟨"HeraldDesk", "enter", "(LHeraldDesk$Shield;)I"⟩, 10) := ⟨⟨by decide +kernel, by decide +kernel⟩, List.mem_of_getElem? (i := 21) (by decide +kernel), List.mem_of_getElem? (i := 595) (by decide +kernel), List.mem_of_getElem? (i := 596) (by decide +kernel)⟩
theorem lw_p17 : lw_okq (⟨"HeraldDesk", "shieldAt", "(I)LHeraldDesk$Shield;"⟩, 10) := ⟨⟨by decide +kernel, by decide +kernel⟩, List.mem_of_getElem? (i := 21) (by decide +kernel), List.mem_of_getElem? (i := 630) (by decide +kernel), List.mem_of_getElem? (i := 631) (by decide +kernel)⟩
theorem lw_p18 : lw_okq (⟨"HeraldDesk$Pen", "putField", "(LHeraldDesk$Shield;)V"⟩, 2) := ⟨⟨by decide +kernel, by decide +kernel⟩, List.mem_of_getElem? (i := 75) (by decide +kernel), List.mem_of_getElem? (i := 638) (by decide +kernel), List.mem_of_getElem? (i := 639) (by decide +kernel)⟩
theorem lw_p19 : lw_okq (⟨"HeraldDesk$Pen", "putWord", "(Ljava/lang/String;I)V"⟩, 2) := ⟨⟨by decide +kernel, by decide +kernel⟩, List.mem_of_getElem? (i := 75) (by decide +kernel), List.mem_of_getElem? (i := 643) (by decide +kernel), List.mem_of_getElem? (i := 644) (by decide +kernel)⟩
theorem lw_p20 : lw_okq (⟨"HeraldDesk$Pen", "put", "(C)V"⟩, 2) := ⟨⟨by decide +kernel, by decide +kernel⟩, List.mem_of_getElem? (i := 75) (by decide +kernel), List.mem_of_getElem? (i := 647) (by decide +kernel), List.mem_of_getElem? (i := 648) (by decide +kernel)⟩
theorem lw_p21 : lw_okq (⟨"HeraldDesk$Pen", "putPart", "(LHeraldDesk$Part;)V"⟩, 2) := ⟨⟨by decide +kernel, by decide +kernel⟩, List.mem_of_getElem? (i := 75) (by decide +kernel), List.mem_of_getElem? (i := 660) (by decide +kernel), List.mem_of_getElem? (i := 661) (by decide +kernel)⟩
theorem lw_p22 : lw_okq (⟨"HeraldDesk$Pen", "putName", "(LHeraldDesk$Part;)V"⟩, 2) := ⟨⟨by decide +kernel, by decide +kernel⟩, List.mem_of_getElem? (i := 75) (by decide +kernel), List.mem_of_getElem? (i := 668) (by decide +kernel), List.mem_of_getElem? (i := 669) (by decide +kernel)⟩
theorem lw_p23 : lw_okq (⟨"HeraldDesk$Pen", "putDuties", "(LHeraldDesk$Part;)V"⟩, 2) := ⟨⟨by decide +kernel, by decide +kernel⟩, List.mem_of_getElem? (i := 75) (by decide +kernel), List.mem_of_getElem? (i := 675) (by decide +kernel), List.mem_of_getElem? (i := 676) (by decide +kernel)⟩
theorem lw_p24 : lw_okq (⟨"HeraldDesk$Shield", "partCount", "()I"⟩, 5) := ⟨⟨by decide +kernel, by decide +kernel⟩, List.mem_of_getElem? (i := 437) (by decide +kernel), List.mem_of_getElem? (i := 696) (by decide +kernel), List.mem_of_getElem? (i := 697) (by decide +kernel)⟩
theorem lw_p25 : lw_okq (⟨"HeraldDesk$Part", "firstDuty", "()I"⟩, 6) := ⟨⟨by decide +kernel, by decide +kernel⟩, List.mem_of_getElem? (i := 503) (by decide +kernel), List.mem_of_getElem? (i := 712) (by decide +kernel), List.mem_of_getElem? (i := 713) (by decide +kernel)⟩
theorem lw_p26 : lw_okq (⟨"HeraldDesk$Part", "lastDuty", "()I"⟩, 6) := ⟨⟨by decide +kernel, by decide +kernel⟩, List.mem_of_getElem? (i := 503) (by decide +kernel), List.mem_of_getElem? (i := 716) (by decide +kernel), List.mem_of_getElem? (i := 717) (by decide +kernel)⟩
theorem lw_p27 : lw_okq (⟨"HeraldDesk$Bench", "packOfSeat", "(II)LHeraldDesk$Pack;"⟩, 5) := ⟨⟨by decide +kernel, by decide +kernel⟩, List.mem_of_getElem? (i := 88) (by decide +kernel), List.mem_of_getElem? (i := 730) (by decide +kernel), List.mem_of_getElem? (i := 731) (by decide +kernel)⟩
theorem lw_p28 : lw_okq (⟨"HeraldDesk$Bench", "run", "(LHeraldDesk$Pack;ILHeraldDesk$Shield;LHeraldDesk$Part;I)I"⟩, 5) := ⟨⟨by decide +kernel, by decide +kernel⟩, List.mem_of_getElem? (i := 88) (by decide +kernel), List.mem_of_getElem? (i := 746) (by decide +kernel), List.mem_of_getElem? (i := 747) (by decide +kernel)⟩
theorem lw_p29 : lw_okq (⟨"HeraldDesk$Shield", "fieldSort", "()I"⟩, 5) := ⟨⟨by decide +kernel, by decide +kernel⟩, List.mem_of_getElem? (i := 437) (by decide +kernel), List.mem_of_getElem? (i := 763) (by decide +kernel), List.mem_of_getElem? (i := 764) (by decide +kernel)⟩
theorem lw_p30 : lw_okq (⟨"HeraldDesk$Register", "personAt", "(I)LHeraldDesk$Person;"⟩, 3) := ⟨⟨by decide +kernel, by decide +kernel⟩, List.mem_of_getElem? (i := 147) (by decide +kernel), List.mem_of_getElem? (i := 855) (by decide +kernel), List.mem_of_getElem? (i := 856) (by decide +kernel)⟩
theorem lw_p31 : lw_okq (⟨"HeraldDesk$Register", "gather", "()V"⟩, 3) := ⟨⟨by decide +kernel, by decide +kernel⟩, List.mem_of_getElem? (i := 147) (by decide +kernel), List.mem_of_getElem? (i := 933) (by decide +kernel), List.mem_of_getElem? (i := 934) (by decide +kernel)⟩
def lw_privs_2 : List (MethodName × Nat) := [(⟨"HeraldDesk", "enter", "(LHeraldDesk$Shield;)I"⟩, 10), (⟨"HeraldDesk", "shieldAt", "(I)LHeraldDesk$Shield;"⟩, 10), (⟨"HeraldDesk$Pen", "putField", "(LHeraldDesk$Shield;)V"⟩, 2), (⟨"HeraldDesk$Pen", "putWord", "(Ljava/lang/String;I)V"⟩, 2), (⟨"HeraldDesk$Pen", "put", "(C)V"⟩, 2), (⟨"HeraldDesk$Pen", "putPart", "(LHeraldDesk$Part;)V"⟩, 2), (⟨"HeraldDesk$Pen", "putName", "(LHeraldDesk$Part;)V"⟩, 2), (⟨"HeraldDesk$Pen", "putDuties", "(LHeraldDesk$Part;)V"⟩, 2), (⟨"HeraldDesk$Shield", "partCount", "()I"⟩, 5), (⟨"HeraldDesk$Part", "firstDuty", "()I"⟩, 6), (⟨"HeraldDesk$Part", "lastDuty", "()I"⟩, 6), (⟨"HeraldDesk$Bench", "packOfSeat", "(II)LHeraldDesk$Pack;"⟩, 5), (⟨"HeraldDesk$Bench", "run", "(LHeraldDesk$Pack;ILHeraldDesk$Shield;LHeraldDesk$Part;I)I"⟩, 5), (⟨"HeraldDesk$Shield", "fieldSort", "()I"⟩, 5), (⟨"HeraldDesk$Register", "personAt", "(I)LHeraldDesk$Person;"⟩, 3), (⟨"HeraldDesk$Register", "gather", "()V"⟩, 3)]
theorem lw_r2 : ∀ q ∈ lw_privs_2, lw_okq q := List.forall_mem_cons.mpr ⟨lw_p16, List.forall_mem_cons.mpr ⟨lw_p17, List.forall_mem_cons.mpr ⟨lw_p18, List.forall_mem_cons.mpr ⟨lw_p19, List.forall_mem_cons.mpr ⟨lw_p20, List.forall_mem_cons.mpr ⟨lw_p21, List.forall_mem_cons.mpr ⟨lw_p22, List.forall_mem_cons.mpr ⟨lw_p23, List.forall_mem_cons.mpr ⟨lw_p24, List.forall_mem_cons.mpr ⟨lw_p25, List.forall_mem_cons.mpr ⟨lw_p26, List.forall_mem_cons.mpr ⟨lw_p27, List.forall_mem_cons.mpr ⟨lw_p28, List.forall_mem_cons.mpr ⟨lw_p29, List.forall_mem_cons.mpr ⟨lw_p30, List.forall_mem_cons.mpr ⟨lw_p31, fun _ h => absurd h List.not_mem_nil⟩⟩⟩⟩⟩⟩⟩⟩⟩⟩⟩⟩⟩⟩⟩⟩
theorem lw_p32 : lw_okq (⟨"HeraldDesk$Person", "addQuartering", "(I)V"⟩, 13) := ⟨⟨by decide +kernel, by decide +kernel⟩, List.mem_of_getElem? (i := 858) (by decide +kernel), List.mem_of_getElem? (i := 941) (by decide +kernel), List.mem_of_getElem? (i := 942) (by decide +kernel)⟩
theorem lw_p33 : lw_okq (⟨"HeraldDesk$Person", "addQuarteringsOf", "(LHeraldDesk$Person;)V"⟩, 13) := ⟨⟨by decide +kernel, by decide +kernel⟩, List.mem_of_getElem? (i := 858) (by decide +kernel), List.mem_of_getElem? (i := 945) (by decide +kernel), List.mem_of_getElem? (i := 946) (by decide +kernel)⟩
theorem lw_p34 : lw_okq (⟨"HeraldDeskModel", "commons", "()V"⟩, 48) := ⟨⟨by decide +kernel, by decide +kernel⟩, List.mem_of_getElem? (i := 962) (by decide +kernel), List.mem_of_getElem? (i := 968) (by decide +kernel), List.mem_of_getElem? (i := 969) (by decide +kernel)⟩
theorem lw_p35 : lw_okq (⟨"HeraldDeskModel", "begins", "(III)V"⟩, 48) := ⟨⟨by decide +kernel, by decide +kernel⟩, List.mem_of_getElem? (i := 962) (by decide +kernel), List.mem_of_getElem? (i := 972) (by decide +kernel), List.mem_of_getElem? (i := 973) (by decide +kernel)⟩
theorem lw_p36 : lw_okq (⟨"HeraldDeskModel", "code", "(III)V"⟩, 48) := ⟨⟨by decide +kernel, by decide +kernel⟩, List.mem_of_getElem? (i := 962) (by decide +kernel), List.mem_of_getElem? (i := 976) (by decide +kernel), List.mem_of_getElem? (i := 977) (by decide +kernel)⟩
theorem lw_p37 : lw_okq (⟨"HeraldDeskModel", "ends", "(I)V"⟩, 48) := ⟨⟨by decide +kernel, by decide +kernel⟩, List.mem_of_getElem? (i := 962) (by decide +kernel), List.mem_of_getElem? (i := 980) (by decide +kernel), List.mem_of_getElem? (i := 981) (by decide +kernel)⟩
theorem lw_p38 : lw_okq (⟨"HeraldDeskModel", "types", "(I)V"⟩, 48) := ⟨⟨by decide +kernel, by decide +kernel⟩, List.mem_of_getElem? (i := 962) (by decide +kernel), List.mem_of_getElem? (i := 1134) (by decide +kernel), List.mem_of_getElem? (i := 1135) (by decide +kernel)⟩
theorem lw_p39 : lw_okq (⟨"HeraldDeskModel", "takes", "(I)Z"⟩, 48) := ⟨⟨by decide +kernel, by decide +kernel⟩, List.mem_of_getElem? (i := 962) (by decide +kernel), List.mem_of_getElem? (i := 1142) (by decide +kernel), List.mem_of_getElem? (i := 1143) (by decide +kernel)⟩
theorem lw_p40 : lw_okq (⟨"HeraldDeskModel", "shield", "()Z"⟩, 48) := ⟨⟨by decide +kernel, by decide +kernel⟩, List.mem_of_getElem? (i := 962) (by decide +kernel), List.mem_of_getElem? (i := 1146) (by decide +kernel), List.mem_of_getElem? (i := 1147) (by decide +kernel)⟩
theorem lw_p41 : lw_okq (⟨"HeraldDeskModel", "empties", "(I)V"⟩, 48) := ⟨⟨by decide +kernel, by decide +kernel⟩, List.mem_of_getElem? (i := 962) (by decide +kernel), List.mem_of_getElem? (i := 1150) (by decide +kernel), List.mem_of_getElem? (i := 1151) (by decide +kernel)⟩
theorem lw_p42 : lw_okq (⟨"HeraldDeskModel", "next", "()V"⟩, 48) := ⟨⟨by decide +kernel, by decide +kernel⟩, List.mem_of_getElem? (i := 962) (by decide +kernel), List.mem_of_getElem? (i := 1157) (by decide +kernel), List.mem_of_getElem? (i := 1158) (by decide +kernel)⟩
theorem lw_p43 : lw_okq (⟨"HeraldDeskModel", "at", "(I)I"⟩, 48) := ⟨⟨by decide +kernel, by decide +kernel⟩, List.mem_of_getElem? (i := 962) (by decide +kernel), List.mem_of_getElem? (i := 1161) (by decide +kernel), List.mem_of_getElem? (i := 1162) (by decide +kernel)⟩
theorem lw_p44 : lw_okq (⟨"HeraldDeskModel", "field", "()Z"⟩, 48) := ⟨⟨by decide +kernel, by decide +kernel⟩, List.mem_of_getElem? (i := 962) (by decide +kernel), List.mem_of_getElem? (i := 1171) (by decide +kernel), List.mem_of_getElem? (i := 1172) (by decide +kernel)⟩
theorem lw_p45 : lw_okq (⟨"HeraldDeskModel", "takesTincture", "()I"⟩, 48) := ⟨⟨by decide +kernel, by decide +kernel⟩, List.mem_of_getElem? (i := 962) (by decide +kernel), List.mem_of_getElem? (i := 1175) (by decide +kernel), List.mem_of_getElem? (i := 1176) (by decide +kernel)⟩
theorem lw_p46 : lw_okq (⟨"HeraldDeskModel", "tincture", "()I"⟩, 48) := ⟨⟨by decide +kernel, by decide +kernel⟩, List.mem_of_getElem? (i := 962) (by decide +kernel), List.mem_of_getElem? (i := 1179) (by decide +kernel), List.mem_of_getElem? (i := 1180) (by decide +kernel)⟩
theorem lw_p47 : lw_okq (⟨"HeraldDeskModel", "isWord", "(J)Z"⟩, 48) := ⟨⟨by decide +kernel, by decide +kernel⟩, List.mem_of_getElem? (i := 962) (by decide +kernel), List.mem_of_getElem? (i := 1195) (by decide +kernel), List.mem_of_getElem? (i := 1196) (by decide +kernel)⟩
def lw_privs_3 : List (MethodName × Nat) := [(⟨"HeraldDesk$Person", "addQuartering", "(I)V"⟩, 13), (⟨"HeraldDesk$Person", "addQuarteringsOf", "(LHeraldDesk$Person;)V"⟩, 13), (⟨"HeraldDeskModel", "commons", "()V"⟩, 48), (⟨"HeraldDeskModel", "begins", "(III)V"⟩, 48), (⟨"HeraldDeskModel", "code", "(III)V"⟩, 48), (⟨"HeraldDeskModel", "ends", "(I)V"⟩, 48), (⟨"HeraldDeskModel", "types", "(I)V"⟩, 48), (⟨"HeraldDeskModel", "takes", "(I)Z"⟩, 48), (⟨"HeraldDeskModel", "shield", "()Z"⟩, 48), (⟨"HeraldDeskModel", "empties", "(I)V"⟩, 48), (⟨"HeraldDeskModel", "next", "()V"⟩, 48), (⟨"HeraldDeskModel", "at", "(I)I"⟩, 48), (⟨"HeraldDeskModel", "field", "()Z"⟩, 48), (⟨"HeraldDeskModel", "takesTincture", "()I"⟩, 48), (⟨"HeraldDeskModel", "tincture", "()I"⟩, 48), (⟨"HeraldDeskModel", "isWord", "(J)Z"⟩, 48)]
theorem lw_r3 : ∀ q ∈ lw_privs_3, lw_okq q := List.forall_mem_cons.mpr ⟨lw_p32, List.forall_mem_cons.mpr ⟨lw_p33, List.forall_mem_cons.mpr ⟨lw_p34, List.forall_mem_cons.mpr ⟨lw_p35, List.forall_mem_cons.mpr ⟨lw_p36, List.forall_mem_cons.mpr ⟨lw_p37, List.forall_mem_cons.mpr ⟨lw_p38, List.forall_mem_cons.mpr ⟨lw_p39, List.forall_mem_cons.mpr ⟨lw_p40, List.forall_mem_cons.mpr ⟨lw_p41, List.forall_mem_cons.mpr ⟨lw_p42, List.forall_mem_cons.mpr ⟨lw_p43, List.forall_mem_cons.mpr ⟨lw_p44, List.forall_mem_cons.mpr ⟨lw_p45, List.forall_mem_cons.mpr ⟨lw_p46, List.forall_mem_cons.mpr ⟨lw_p47, fun _ h => absurd h List.not_mem_nil⟩⟩⟩⟩⟩⟩⟩⟩⟩⟩⟩⟩⟩⟩⟩⟩
theorem lw_p48 : lw_okq (⟨"HeraldDeskModel", "takesWord", "(J)Z"⟩, 48) := ⟨⟨by decide +kernel, by decide +kernel⟩, List.mem_of_getElem? (i := 962) (by decide +kernel), List.mem_of_getElem? (i := 1200) (by decide +kernel), List.mem_of_getElem? (i := 1201) (by decide +kernel)⟩
theorem lw_p49 : lw_okq (⟨"HeraldDeskModel", "isParting", "(I)Z"⟩, 48) := ⟨⟨by decide +kernel, by decide +kernel⟩, List.mem_of_getElem? (i := 962) (by decide +kernel), List.mem_of_getElem? (i := 1204) (by decide +kernel), List.mem_of_getElem? (i := 1205) (by decide +kernel)⟩
theorem lw_p50 : lw_okq (⟨"HeraldDeskModel", "more", "(I)I"⟩, 48) := ⟨⟨by decide +kernel, by decide +kernel⟩, List.mem_of_getElem? (i := 962) (by decide +kernel), List.mem_of_getElem? (i := 1223) (by decide +kernel), List.mem_of_getElem? (i := 1224) (by decide +kernel)⟩
theorem lw_p51 : lw_okq (⟨"HeraldDeskModel", "puts", "(III)V"⟩, 48) := ⟨⟨by decide +kernel, by decide +kernel⟩, List.mem_of_getElem? (i := 962) (by decide +kernel), List.mem_of_getElem? (i := 1230) (by decide +kernel), List.mem_of_getElem? (i := 1231) (by decide +kernel)⟩
theorem lw_p52 : lw_okq (⟨"HeraldDeskModel", "mark", "()I"⟩, 48) := ⟨⟨by decide +kernel, by decide +kernel⟩, List.mem_of_getElem? (i := 962) (by decide +kernel), List.mem_of_getElem? (i := 1235) (by decide +kernel), List.mem_of_getElem? (i := 1236) (by decide +kernel)⟩
theorem lw_p53 : lw_okq (⟨"HeraldDeskModel", "many", "()I"⟩, 48) := ⟨⟨by decide +kernel, by decide +kernel⟩, List.mem_of_getElem? (i := 962) (by decide +kernel), List.mem_of_getElem? (i := 1272) (by decide +kernel), List.mem_of_getElem? (i := 1273) (by decide +kernel)⟩
theorem lw_p54 : lw_okq (⟨"HeraldDeskModel", "kindNamed", "()I"⟩, 48) := ⟨⟨by decide +kernel, by decide +kernel⟩, List.mem_of_getElem? (i := 962) (by decide +kernel), List.mem_of_getElem? (i := 1284) (by decide +kernel), List.mem_of_getElem? (i := 1285) (by decide +kernel)⟩
theorem lw_p55 : lw_okq (⟨"HeraldDeskModel", "on", "(I)Z"⟩, 48) := ⟨⟨by decide +kernel, by decide +kernel⟩, List.mem_of_getElem? (i := 962) (by decide +kernel), List.mem_of_getElem? (i := 1288) (by decide +kernel), List.mem_of_getElem? (i := 1289) (by decide +kernel)⟩
theorem lw_p56 : lw_okq (⟨"HeraldDeskModel", "chargeNamed", "(I)I"⟩, 48) := ⟨⟨by decide +kernel, by decide +kernel⟩, List.mem_of_getElem? (i := 962) (by decide +kernel), List.mem_of_getElem? (i := 1294) (by decide +kernel), List.mem_of_getElem? (i := 1295) (by decide +kernel)⟩
theorem lw_p57 : lw_okq (⟨"HeraldDeskModel", "isMany", "(I)Z"⟩, 48) := ⟨⟨by decide +kernel, by decide +kernel⟩, List.mem_of_getElem? (i := 962) (by decide +kernel), List.mem_of_getElem? (i := 1298) (by decide +kernel), List.mem_of_getElem? (i := 1299) (by decide +kernel)⟩
theorem lw_p58 : lw_okq (⟨"HeraldDeskModel", "charges", "(III)Z"⟩, 48) := ⟨⟨by decide +kernel, by decide +kernel⟩, List.mem_of_getElem? (i := 962) (by decide +kernel), List.mem_of_getElem? (i := 1304) (by decide +kernel), List.mem_of_getElem? (i := 1305) (by decide +kernel)⟩
theorem lw_p59 : lw_okq (⟨"HeraldDeskModel", "isAttitude", "(I)Z"⟩, 48) := ⟨⟨by decide +kernel, by decide +kernel⟩, List.mem_of_getElem? (i := 962) (by decide +kernel), List.mem_of_getElem? (i := 1314) (by decide +kernel), List.mem_of_getElem? (i := 1315) (by decide +kernel)⟩
theorem lw_p60 : lw_okq (⟨"HeraldDeskModel", "isSame", "(II)Z"⟩, 48) := ⟨⟨by decide +kernel, by decide +kernel⟩, List.mem_of_getElem? (i := 962) (by decide +kernel), List.mem_of_getElem? (i := 1338) (by decide +kernel), List.mem_of_getElem? (i := 1339) (by decide +kernel)⟩
theorem lw_p61 : lw_okq (⟨"HeraldDeskModel", "isSameField", "(II)Z"⟩, 48) := ⟨⟨by decide +kernel, by decide +kernel⟩, List.mem_of_getElem? (i := 962) (by decide +kernel), List.mem_of_getElem? (i := 1342) (by decide +kernel), List.mem_of_getElem? (i := 1343) (by decide +kernel)⟩
theorem lw_p62 : lw_okq (⟨"HeraldDeskModel", "changed", "(II)I"⟩, 48) := ⟨⟨by decide +kernel, by decide +kernel⟩, List.mem_of_getElem? (i := 962) (by decide +kernel), List.mem_of_getElem? (i := 1346) (by decide +kernel), List.mem_of_getElem? (i := 1347) (by decide +kernel)⟩
theorem lw_p63 : lw_okq (⟨"HeraldDeskModel", "isShield", "(I)Z"⟩, 48) := ⟨⟨by decide +kernel, by decide +kernel⟩, List.mem_of_getElem? (i := 962) (by decide +kernel), List.mem_of_getElem? (i := 1354) (by decide +kernel), List.mem_of_getElem? (i := 1355) (by decide +kernel)⟩
def lw_privs_4 : List (MethodName × Nat) := [(⟨"HeraldDeskModel", "takesWord", "(J)Z"⟩, 48), (⟨"HeraldDeskModel", "isParting", "(I)Z"⟩, 48), (⟨"HeraldDeskModel", "more", "(I)I"⟩, 48), (⟨"HeraldDeskModel", "puts", "(III)V"⟩, 48), (⟨"HeraldDeskModel", "mark", "()I"⟩, 48), (⟨"HeraldDeskModel", "many", "()I"⟩, 48), (⟨"HeraldDeskModel", "kindNamed", "()I"⟩, 48), (⟨"HeraldDeskModel", "on", "(I)Z"⟩, 48), (⟨"HeraldDeskModel", "chargeNamed", "(I)I"⟩, 48), (⟨"HeraldDeskModel", "isMany", "(I)Z"⟩, 48), (⟨"HeraldDeskModel", "charges", "(III)Z"⟩, 48), (⟨"HeraldDeskModel", "isAttitude", "(I)Z"⟩, 48), (⟨"HeraldDeskModel", "isSame", "(II)Z"⟩, 48), (⟨"HeraldDeskModel", "isSameField", "(II)Z"⟩, 48), (⟨"HeraldDeskModel", "changed", "(II)I"⟩, 48), (⟨"HeraldDeskModel", "isShield", "(I)Z"⟩, 48)]
theorem lw_r4 : ∀ q ∈ lw_privs_4, lw_okq q := List.forall_mem_cons.mpr ⟨lw_p48, List.forall_mem_cons.mpr ⟨lw_p49, List.forall_mem_cons.mpr ⟨lw_p50, List.forall_mem_cons.mpr ⟨lw_p51, List.forall_mem_cons.mpr ⟨lw_p52, List.forall_mem_cons.mpr ⟨lw_p53, List.forall_mem_cons.mpr ⟨lw_p54, List.forall_mem_cons.mpr ⟨lw_p55, List.forall_mem_cons.mpr ⟨lw_p56, List.forall_mem_cons.mpr ⟨lw_p57, List.forall_mem_cons.mpr ⟨lw_p58, List.forall_mem_cons.mpr ⟨lw_p59, List.forall_mem_cons.mpr ⟨lw_p60, List.forall_mem_cons.mpr ⟨lw_p61, List.forall_mem_cons.mpr ⟨lw_p62, List.forall_mem_cons.mpr ⟨lw_p63, fun _ h => absurd h List.not_mem_nil⟩⟩⟩⟩⟩⟩⟩⟩⟩⟩⟩⟩⟩⟩⟩⟩
theorem lw_p64 : lw_okq (⟨"HeraldDeskModel", "letters", "(J)V"⟩, 48) := ⟨⟨by decide +kernel, by decide +kernel⟩, List.mem_of_getElem? (i := 962) (by decide +kernel), List.mem_of_getElem? (i := 1358) (by decide +kernel), List.mem_of_getElem? (i := 1359) (by decide +kernel)⟩
theorem lw_p65 : lw_okq (⟨"HeraldDeskModel", "blank", "()V"⟩, 48) := ⟨⟨by decide +kernel, by decide +kernel⟩, List.mem_of_getElem? (i := 962) (by decide +kernel), List.mem_of_getElem? (i := 1363) (by decide +kernel), List.mem_of_getElem? (i := 1364) (by decide +kernel)⟩
theorem lw_p66 : lw_okq (⟨"HeraldDeskModel", "says", "(J)V"⟩, 48) := ⟨⟨by decide +kernel, by decide +kernel⟩, List.mem_of_getElem? (i := 962) (by decide +kernel), List.mem_of_getElem? (i := 1367) (by decide +kernel), List.mem_of_getElem? (i := 1368) (by decide +kernel)⟩
theorem lw_p67 : lw_okq (⟨"HeraldDeskModel", "saysPart", "(III)V"⟩, 48) := ⟨⟨by decide +kernel, by decide +kernel⟩, List.mem_of_getElem? (i := 962) (by decide +kernel), List.mem_of_getElem? (i := 1371) (by decide +kernel), List.mem_of_getElem? (i := 1372) (by decide +kernel)⟩
theorem lw_p68 : lw_okq (⟨"HeraldDeskModel", "comma", "()V"⟩, 48) := ⟨⟨by decide +kernel, by decide +kernel⟩, List.mem_of_getElem? (i := 962) (by decide +kernel), List.mem_of_getElem? (i := 1375) (by decide +kernel), List.mem_of_getElem? (i := 1376) (by decide +kernel)⟩
theorem lw_p69 : lw_okq (⟨"HeraldDeskModel", "saysCharges", "(I)V"⟩, 48) := ⟨⟨by decide +kernel, by decide +kernel⟩, List.mem_of_getElem? (i := 962) (by decide +kernel), List.mem_of_getElem? (i := 1379) (by decide +kernel), List.mem_of_getElem? (i := 1380) (by decide +kernel)⟩
theorem lw_p70 : lw_okq (⟨"HeraldDeskModel", "saysOn", "(I)V"⟩, 48) := ⟨⟨by decide +kernel, by decide +kernel⟩, List.mem_of_getElem? (i := 962) (by decide +kernel), List.mem_of_getElem? (i := 1383) (by decide +kernel), List.mem_of_getElem? (i := 1384) (by decide +kernel)⟩
theorem lw_p71 : lw_okq (⟨"HeraldDeskModel", "partsOf", "(I)I"⟩, 48) := ⟨⟨by decide +kernel, by decide +kernel⟩, List.mem_of_getElem? (i := 962) (by decide +kernel), List.mem_of_getElem? (i := 1395) (by decide +kernel), List.mem_of_getElem? (i := 1396) (by decide +kernel)⟩
theorem lw_p72 : lw_okq (⟨"HeraldDeskModel", "placeOf", "(II)I"⟩, 48) := ⟨⟨by decide +kernel, by decide +kernel⟩, List.mem_of_getElem? (i := 962) (by decide +kernel), List.mem_of_getElem? (i := 1399) (by decide +kernel), List.mem_of_getElem? (i := 1400) (by decide +kernel)⟩
theorem lw_p73 : lw_okq (⟨"HeraldDeskModel", "duties", "(I)I"⟩, 48) := ⟨⟨by decide +kernel, by decide +kernel⟩, List.mem_of_getElem? (i := 962) (by decide +kernel), List.mem_of_getElem? (i := 1403) (by decide +kernel), List.mem_of_getElem? (i := 1404) (by decide +kernel)⟩
theorem lw_p74 : lw_okq (⟨"HeraldDeskModel", "duty", "(IZ)I"⟩, 48) := ⟨⟨by decide +kernel, by decide +kernel⟩, List.mem_of_getElem? (i := 962) (by decide +kernel), List.mem_of_getElem? (i := 1407) (by decide +kernel), List.mem_of_getElem? (i := 1408) (by decide +kernel)⟩
theorem lw_p75 : lw_okq (⟨"HeraldDeskModel", "packs", "()Z"⟩, 48) := ⟨⟨by decide +kernel, by decide +kernel⟩, List.mem_of_getElem? (i := 962) (by decide +kernel), List.mem_of_getElem? (i := 1422) (by decide +kernel), List.mem_of_getElem? (i := 1423) (by decide +kernel)⟩
theorem lw_p76 : lw_okq (⟨"HeraldDeskModel", "find", "(III)I"⟩, 48) := ⟨⟨by decide +kernel, by decide +kernel⟩, List.mem_of_getElem? (i := 962) (by decide +kernel), List.mem_of_getElem? (i := 1427) (by decide +kernel), List.mem_of_getElem? (i := 1428) (by decide +kernel)⟩
theorem lw_p77 : lw_okq (⟨"HeraldDeskModel", "expression", "()Z"⟩, 48) := ⟨⟨by decide +kernel, by decide +kernel⟩, List.mem_of_getElem? (i := 962) (by decide +kernel), List.mem_of_getElem? (i := 1431) (by decide +kernel), List.mem_of_getElem? (i := 1432) (by decide +kernel)⟩
theorem lw_p78 : lw_okq (⟨"HeraldDeskModel", "waitsFor", "(I)V"⟩, 48) := ⟨⟨by decide +kernel, by decide +kernel⟩, List.mem_of_getElem? (i := 962) (by decide +kernel), List.mem_of_getElem? (i := 1447) (by decide +kernel), List.mem_of_getElem? (i := 1448) (by decide +kernel)⟩
theorem lw_p79 : lw_okq (⟨"HeraldDeskModel", "joinsTo", "(I)V"⟩, 48) := ⟨⟨by decide +kernel, by decide +kernel⟩, List.mem_of_getElem? (i := 962) (by decide +kernel), List.mem_of_getElem? (i := 1454) (by decide +kernel), List.mem_of_getElem? (i := 1455) (by decide +kernel)⟩
def lw_privs_5 : List (MethodName × Nat) := [(⟨"HeraldDeskModel", "letters", "(J)V"⟩, 48), (⟨"HeraldDeskModel", "blank", "()V"⟩, 48), (⟨"HeraldDeskModel", "says", "(J)V"⟩, 48), (⟨"HeraldDeskModel", "saysPart", "(III)V"⟩, 48), (⟨"HeraldDeskModel", "comma", "()V"⟩, 48), (⟨"HeraldDeskModel", "saysCharges", "(I)V"⟩, 48), (⟨"HeraldDeskModel", "saysOn", "(I)V"⟩, 48), (⟨"HeraldDeskModel", "partsOf", "(I)I"⟩, 48), (⟨"HeraldDeskModel", "placeOf", "(II)I"⟩, 48), (⟨"HeraldDeskModel", "duties", "(I)I"⟩, 48), (⟨"HeraldDeskModel", "duty", "(IZ)I"⟩, 48), (⟨"HeraldDeskModel", "packs", "()Z"⟩, 48), (⟨"HeraldDeskModel", "find", "(III)I"⟩, 48), (⟨"HeraldDeskModel", "expression", "()Z"⟩, 48), (⟨"HeraldDeskModel", "waitsFor", "(I)V"⟩, 48), (⟨"HeraldDeskModel", "joinsTo", "(I)V"⟩, 48)]
theorem lw_r5 : ∀ q ∈ lw_privs_5, lw_okq q := List.forall_mem_cons.mpr ⟨lw_p64, List.forall_mem_cons.mpr ⟨lw_p65, List.forall_mem_cons.mpr ⟨lw_p66, List.forall_mem_cons.mpr ⟨lw_p67, List.forall_mem_cons.mpr ⟨lw_p68, List.forall_mem_cons.mpr ⟨lw_p69, List.forall_mem_cons.mpr ⟨lw_p70, List.forall_mem_cons.mpr ⟨lw_p71, List.forall_mem_cons.mpr ⟨lw_p72, List.forall_mem_cons.mpr ⟨lw_p73, List.forall_mem_cons.mpr ⟨lw_p74, List.forall_mem_cons.mpr ⟨lw_p75, List.forall_mem_cons.mpr ⟨lw_p76, List.forall_mem_cons.mpr ⟨lw_p77, List.forall_mem_cons.mpr ⟨lw_p78, List.forall_mem_cons.mpr ⟨lw_p79, fun _ h => absurd h List.not_mem_nil⟩⟩⟩⟩⟩⟩⟩⟩⟩⟩⟩⟩⟩⟩⟩⟩
theorem lw_p80 : lw_okq (⟨"HeraldDeskModel", "stepFrom", "(IIII)I"⟩, 48) := ⟨⟨by decide +kernel, by decide +kernel⟩, List.mem_of_getElem? (i := 962) (by decide +kernel), List.mem_of_getElem? (i := 1462) (by decide +kernel), List.mem_of_getElem? (i := 1463) (by decide +kernel)⟩
theorem lw_p81 : lw_okq (⟨"HeraldDeskModel", "numberOf", "(IIII)I"⟩, 48) := ⟨⟨by decide +kernel, by decide +kernel⟩, List.mem_of_getElem? (i := 962) (by decide +kernel), List.mem_of_getElem? (i := 1470) (by decide +kernel), List.mem_of_getElem? (i := 1471) (by decide +kernel)⟩
theorem lw_p82 : lw_okq (⟨"HeraldDeskModel", "enters", "(II)V"⟩, 48) := ⟨⟨by decide +kernel, by decide +kernel⟩, List.mem_of_getElem? (i := 962) (by decide +kernel), List.mem_of_getElem? (i := 1474) (by decide +kernel), List.mem_of_getElem? (i := 1475) (by decide +kernel)⟩
theorem lw_p83 : lw_okq (⟨"HeraldDeskModel", "pushes", "(I)V"⟩, 48) := ⟨⟨by decide +kernel, by decide +kernel⟩, List.mem_of_getElem? (i := 962) (by decide +kernel), List.mem_of_getElem? (i := 1478) (by decide +kernel), List.mem_of_getElem? (i := 1479) (by decide +kernel)⟩
theorem lw_p84 : lw_okq (⟨"HeraldDeskModel", "operand", "(III)I"⟩, 48) := ⟨⟨by decide +kernel, by decide +kernel⟩, List.mem_of_getElem? (i := 962) (by decide +kernel), List.mem_of_getElem? (i := 1482) (by decide +kernel), List.mem_of_getElem? (i := 1483) (by decide +kernel)⟩
theorem lw_p85 : lw_okq (⟨"HeraldDeskModel", "below", "(II)I"⟩, 48) := ⟨⟨by decide +kernel, by decide +kernel⟩, List.mem_of_getElem? (i := 962) (by decide +kernel), List.mem_of_getElem? (i := 1489) (by decide +kernel), List.mem_of_getElem? (i := 1490) (by decide +kernel)⟩
theorem lw_p86 : lw_okq (⟨"HeraldDeskModel", "isChargesAt", "(IIII)Z"⟩, 48) := ⟨⟨by decide +kernel, by decide +kernel⟩, List.mem_of_getElem? (i := 962) (by decide +kernel), List.mem_of_getElem? (i := 1514) (by decide +kernel), List.mem_of_getElem? (i := 1515) (by decide +kernel)⟩
theorem lw_p87 : lw_okq (⟨"HeraldDeskModel", "fieldAt", "(III)I"⟩, 48) := ⟨⟨by decide +kernel, by decide +kernel⟩, List.mem_of_getElem? (i := 962) (by decide +kernel), List.mem_of_getElem? (i := 1530) (by decide +kernel), List.mem_of_getElem? (i := 1531) (by decide +kernel)⟩
theorem lw_p88 : lw_okq (⟨"HeraldDeskModel", "isPerson", "(I)Z"⟩, 48) := ⟨⟨by decide +kernel, by decide +kernel⟩, List.mem_of_getElem? (i := 962) (by decide +kernel), List.mem_of_getElem? (i := 1543) (by decide +kernel), List.mem_of_getElem? (i := 1544) (by decide +kernel)⟩
theorem lw_p89 : lw_okq (⟨"HeraldDeskModel", "quarterings", "(I)V"⟩, 48) := ⟨⟨by decide +kernel, by decide +kernel⟩, List.mem_of_getElem? (i := 962) (by decide +kernel), List.mem_of_getElem? (i := 1555) (by decide +kernel), List.mem_of_getElem? (i := 1556) (by decide +kernel)⟩
theorem lw_p90 : lw_okq (⟨"HeraldDeskModel", "joins", "(II)V"⟩, 48) := ⟨⟨by decide +kernel, by decide +kernel⟩, List.mem_of_getElem? (i := 962) (by decide +kernel), List.mem_of_getElem? (i := 1559) (by decide +kernel), List.mem_of_getElem? (i := 1560) (by decide +kernel)⟩
theorem lw_p91 : lw_okq (⟨"HeraldDeskModel", "isHeiress", "(I)Z"⟩, 48) := ⟨⟨by decide +kernel, by decide +kernel⟩, List.mem_of_getElem? (i := 962) (by decide +kernel), List.mem_of_getElem? (i := 1563) (by decide +kernel), List.mem_of_getElem? (i := 1564) (by decide +kernel)⟩
def lw_privs_6 : List (MethodName × Nat) := [(⟨"HeraldDeskModel", "stepFrom", "(IIII)I"⟩, 48), (⟨"HeraldDeskModel", "numberOf", "(IIII)I"⟩, 48), (⟨"HeraldDeskModel", "enters", "(II)V"⟩, 48), (⟨"HeraldDeskModel", "pushes", "(I)V"⟩, 48), (⟨"HeraldDeskModel", "operand", "(III)I"⟩, 48), (⟨"HeraldDeskModel", "below", "(II)I"⟩, 48), (⟨"HeraldDeskModel", "isChargesAt", "(IIII)Z"⟩, 48), (⟨"HeraldDeskModel", "fieldAt", "(III)I"⟩, 48), (⟨"HeraldDeskModel", "isPerson", "(I)Z"⟩, 48), (⟨"HeraldDeskModel", "quarterings", "(I)V"⟩, 48), (⟨"HeraldDeskModel", "joins", "(II)V"⟩, 48), (⟨"HeraldDeskModel", "isHeiress", "(I)Z"⟩, 48)]
theorem lw_r6 : ∀ q ∈ lw_privs_6, lw_okq q := List.forall_mem_cons.mpr ⟨lw_p80, List.forall_mem_cons.mpr ⟨lw_p81, List.forall_mem_cons.mpr ⟨lw_p82, List.forall_mem_cons.mpr ⟨lw_p83, List.forall_mem_cons.mpr ⟨lw_p84, List.forall_mem_cons.mpr ⟨lw_p85, List.forall_mem_cons.mpr ⟨lw_p86, List.forall_mem_cons.mpr ⟨lw_p87, List.forall_mem_cons.mpr ⟨lw_p88, List.forall_mem_cons.mpr ⟨lw_p89, List.forall_mem_cons.mpr ⟨lw_p90, List.forall_mem_cons.mpr ⟨lw_p91, fun _ h => absurd h List.not_mem_nil⟩⟩⟩⟩⟩⟩⟩⟩⟩⟩⟩⟩
def lw_privs : List (MethodName × Nat) := lw_privs_1 ++ (lw_privs_2 ++ (lw_privs_3 ++ (lw_privs_4 ++ (lw_privs_5 ++ (lw_privs_6)))))
def lw_tbl : List Cond := k2_sels lw_privs ++ tables_1
theorem lw_privs_ok : ∀ q ∈ lw_privs, lw_okq q := by
  show ∀ q ∈ lw_privs_1 ++ (lw_privs_2 ++ (lw_privs_3 ++ (lw_privs_4 ++ (lw_privs_5 ++ (lw_privs_6))))), lw_okq q
  exact List.forall_mem_append.mpr ⟨lw_r1, List.forall_mem_append.mpr ⟨lw_r2, List.forall_mem_append.mpr ⟨lw_r3, List.forall_mem_append.mpr ⟨lw_r4, List.forall_mem_append.mpr ⟨lw_r5, lw_r6⟩⟩⟩⟩⟩
-- ===== end of PART A; then your names; then what follows =====
end
section
/-! tables of the claim, by program (wip/whole/gen.py) -/
def TR0 : u_T := fun k => match k with
  | 0 => ("HeraldDesk$Bench", "common", "LHeraldDesk$Pack;", true)
  | 1 => ("HeraldDesk$Bench", "own", "[LHeraldDesk$Pack;", true)
  | 2 => ("HeraldDesk$Bench", "draft", "LHeraldDesk$Pack;", false)
  | 3 => ("HeraldDesk$Bench", "stack", "[I", true)
  | _ => ("HeraldDesk$Bench", "begun", "I", false)
def tyR0 : Nat → FieldType := fun k => match k with
  | 0 => .object "HeraldDesk$Pack"
  | 1 => .array (.object "HeraldDesk$Pack")
  | 2 => .object "HeraldDesk$Pack"
  | 3 => .array .int
  | _ => .int
def TR1 : u_T := fun k => match k with
  | 0 => ("HeraldDesk$Pack", "bodies", "I", false)
  | 1 => ("HeraldDesk$Pack", "used", "I", false)
  | 2 => ("HeraldDesk$Pack", "rules", "[I", true)
  | 3 => ("HeraldDesk$Pack", "kinds", "[I", true)
  | 4 => ("HeraldDesk$Pack", "starts", "[I", true)
  | 5 => ("HeraldDesk$Pack", "nexts", "[I", true)
  | _ => ("HeraldDesk$Pack", "steps", "[I", true)
def tyR1 : Nat → FieldType := fun k => match k with
  | 0 => .int
  | 1 => .int
  | 2 => .array .int
  | 3 => .array .int
  | 4 => .array .int
  | 5 => .array .int
  | _ => .array .int
def TR2 : u_T := fun k => match k with
  | _ => ("HeraldDesk$PackReader", "tokens", "LHeraldDesk$Tokens;", true)
def tyR2 : Nat → FieldType := fun k => match k with
  | _ => .object "HeraldDesk$Tokens"
def TR3 : u_T := fun k => match k with
  | 0 => ("HeraldDesk$Part", "place", "I", true)
  | 1 => ("HeraldDesk$Part", "kind", "I", true)
  | 2 => ("HeraldDesk$Part", "number", "I", true)
  | 3 => ("HeraldDesk$Part", "attitude", "I", false)
  | 4 => ("HeraldDesk$Part", "tincture", "I", false)
  | _ => ("HeraldDesk$Part", "duties", "[I", true)
def tyR3 : Nat → FieldType := fun k => match k with
  | 0 => .int
  | 1 => .int
  | 2 => .int
  | 3 => .int
  | 4 => .int
  | _ => .array .int
def TR4 : u_T := fun k => match k with
  | 0 => ("HeraldDesk$Pen", "row", "[C", true)
  | _ => ("HeraldDesk$Pen", "length", "I", false)
def tyR4 : Nat → FieldType := fun k => match k with
  | 0 => .array .char
  | _ => .int
def TR5 : u_T := fun k => match k with
  | 0 => ("HeraldDesk$Person", "number", "I", true)
  | 1 => ("HeraldDesk$Person", "man", "Z", true)
  | 2 => ("HeraldDesk$Person", "father", "LHeraldDesk$Person;", true)
  | 3 => ("HeraldDesk$Person", "mother", "LHeraldDesk$Person;", true)
  | 4 => ("HeraldDesk$Person", "shield", "I", true)
  | 5 => ("HeraldDesk$Person", "mark", "I", true)
  | 6 => ("HeraldDesk$Person", "generations", "I", true)
  | 7 => ("HeraldDesk$Person", "married", "LHeraldDesk$Person;", false)
  | 8 => ("HeraldDesk$Person", "sons", "I", false)
  | 9 => ("HeraldDesk$Person", "children", "I", false)
  | 10 => ("HeraldDesk$Person", "quarterings", "[I", true)
  | 11 => ("HeraldDesk$Person", "quarteringCount", "I", false)
  | _ => ("HeraldDesk$Person", "quartered", "J", false)
def tyR5 : Nat → FieldType := fun k => match k with
  | 0 => .int
  | 1 => .boolean
  | 2 => .object "HeraldDesk$Person"
  | 3 => .object "HeraldDesk$Person"
  | 4 => .int
  | 5 => .int
  | 6 => .int
  | 7 => .object "HeraldDesk$Person"
  | 8 => .int
  | 9 => .int
  | 10 => .array .int
  | 11 => .int
  | _ => .long
def TR6 : u_T := fun k => match k with
  | 0 => ("HeraldDesk$Register", "persons", "[LHeraldDesk$Person;", true)
  | 1 => ("HeraldDesk$Register", "size", "I", false)
  | _ => ("HeraldDesk$Register", "gathered", "I", false)
def tyR6 : Nat → FieldType := fun k => match k with
  | 0 => .array (.object "HeraldDesk$Person")
  | 1 => .int
  | _ => .int
def TR7 : u_T := fun k => match k with
  | 0 => ("HeraldDesk$Shield", "parting", "I", false)
  | 1 => ("HeraldDesk$Shield", "first", "I", false)
  | 2 => ("HeraldDesk$Shield", "second", "I", false)
  | 3 => ("HeraldDesk$Shield", "parts", "[LHeraldDesk$Part;", true)
  | _ => ("HeraldDesk$Shield", "pointsOf", "[I", false)
def tyR7 : Nat → FieldType := fun k => match k with
  | 0 => .int
  | 1 => .int
  | 2 => .int
  | 3 => .array (.object "HeraldDesk$Part")
  | _ => .array .int
def TR8 : u_T := fun k => match k with
  | _ => ("HeraldDesk$ShieldReader", "tokens", "LHeraldDesk$Tokens;", true)
def tyR8 : Nat → FieldType := fun k => match k with
  | _ => .object "HeraldDesk$Tokens"
def TR9 : u_T := fun k => match k with
  | 0 => ("HeraldDesk$Tokens", "text", "[C", false)
  | 1 => ("HeraldDesk$Tokens", "length", "I", false)
  | 2 => ("HeraldDesk$Tokens", "sort", "I", false)
  | 3 => ("HeraldDesk$Tokens", "start", "I", false)
  | _ => ("HeraldDesk$Tokens", "end", "I", false)
def tyR9 : Nat → FieldType := fun k => match k with
  | 0 => .array .char
  | 1 => .int
  | 2 => .int
  | 3 => .int
  | _ => .int
def TR10 : u_T := fun k => match k with
  | 0 => ("HeraldDesk", "tape", "[C", true)
  | 1 => ("HeraldDesk", "taped", "I", false)
  | 2 => ("HeraldDesk", "shields", "[LHeraldDesk$Shield;", true)
  | 3 => ("HeraldDesk", "shieldCount", "I", false)
  | 4 => ("HeraldDesk", "tokens", "LHeraldDesk$Tokens;", true)
  | 5 => ("HeraldDesk", "shieldReader", "LHeraldDesk$ShieldReader;", true)
  | 6 => ("HeraldDesk", "packReader", "LHeraldDesk$PackReader;", true)
  | 7 => ("HeraldDesk", "pen", "LHeraldDesk$Pen;", true)
  | 8 => ("HeraldDesk", "bench", "LHeraldDesk$Bench;", true)
  | _ => ("HeraldDesk", "register", "LHeraldDesk$Register;", true)
def tyR10 : Nat → FieldType := fun k => match k with
  | 0 => .array .char
  | 1 => .int
  | 2 => .array (.object "HeraldDesk$Shield")
  | 3 => .int
  | 4 => .object "HeraldDesk$Tokens"
  | 5 => .object "HeraldDesk$ShieldReader"
  | 6 => .object "HeraldDesk$PackReader"
  | 7 => .object "HeraldDesk$Pen"
  | 8 => .object "HeraldDesk$Bench"
  | _ => .object "HeraldDesk$Register"
def TR11 : u_T := fun k => match k with
  | 0 => ("HeraldDeskModel", "tape", "[B", true)
  | 1 => ("HeraldDeskModel", "taped", "I", false)
  | 2 => ("HeraldDeskModel", "text", "[B", true)
  | 3 => ("HeraldDeskModel", "size", "I", false)
  | 4 => ("HeraldDeskModel", "token", "I", false)
  | 5 => ("HeraldDeskModel", "begin", "I", false)
  | 6 => ("HeraldDeskModel", "next0", "I", false)
  | 7 => ("HeraldDeskModel", "value", "I", false)
  | 8 => ("HeraldDeskModel", "head", "J", false)
  | 9 => ("HeraldDeskModel", "tail", "J", false)
  | 10 => ("HeraldDeskModel", "digits", "I", false)
  | 11 => ("HeraldDeskModel", "shields", "I", false)
  | 12 => ("HeraldDeskModel", "parting", "[I", true)
  | 13 => ("HeraldDeskModel", "first", "[I", true)
  | 14 => ("HeraldDeskModel", "second", "[I", true)
  | 15 => ("HeraldDeskModel", "parts", "[I", true)
  | 16 => ("HeraldDeskModel", "out", "[B", true)
  | 17 => ("HeraldDeskModel", "written", "I", false)
  | 18 => ("HeraldDeskModel", "bodies", "[I", true)
  | 19 => ("HeraldDeskModel", "codes", "[I", true)
  | 20 => ("HeraldDeskModel", "bodyRule", "[I", true)
  | 21 => ("HeraldDeskModel", "bodyKind", "[I", true)
  | 22 => ("HeraldDeskModel", "bodyAt", "[I", true)
  | 23 => ("HeraldDeskModel", "bodyEnd", "[I", true)
  | 24 => ("HeraldDeskModel", "op", "[I", true)
  | 25 => ("HeraldDeskModel", "arg", "[I", true)
  | 26 => ("HeraldDeskModel", "wait", "[I", true)
  | 27 => ("HeraldDeskModel", "waits", "I", false)
  | 28 => ("HeraldDeskModel", "open", "I", false)
  | 29 => ("HeraldDeskModel", "takenKind", "I", false)
  | 30 => ("HeraldDeskModel", "takenBody", "I", false)
  | 31 => ("HeraldDeskModel", "takenOffice", "Z", false)
  | 32 => ("HeraldDeskModel", "ran", "I", false)
  | 33 => ("HeraldDeskModel", "pile", "[I", true)
  | 34 => ("HeraldDeskModel", "top", "I", false)
  | 35 => ("HeraldDeskModel", "framePc", "[I", true)
  | 36 => ("HeraldDeskModel", "frameEnd", "[I", true)
  | 37 => ("HeraldDeskModel", "frameOffice", "[I", true)
  | 38 => ("HeraldDeskModel", "frameStep", "[I", true)
  | 39 => ("HeraldDeskModel", "frames", "I", false)
  | 40 => ("HeraldDeskModel", "persons", "I", false)
  | 41 => ("HeraldDeskModel", "isMan", "[Z", true)
  | 42 => ("HeraldDeskModel", "father", "[I", true)
  | 43 => ("HeraldDeskModel", "mother", "[I", true)
  | 44 => ("HeraldDeskModel", "its", "[I", true)
  | 45 => ("HeraldDeskModel", "married", "[I", true)
  | 46 => ("HeraldDeskModel", "quarters", "[I", true)
  | _ => ("HeraldDeskModel", "quarterMany", "[I", true)
def tyR11 : Nat → FieldType := fun k => match k with
  | 0 => .array .byte
  | 1 => .int
  | 2 => .array .byte
  | 3 => .int
  | 4 => .int
  | 5 => .int
  | 6 => .int
  | 7 => .int
  | 8 => .long
  | 9 => .long
  | 10 => .int
  | 11 => .int
  | 12 => .array .int
  | 13 => .array .int
  | 14 => .array .int
  | 15 => .array .int
  | 16 => .array .byte
  | 17 => .int
  | 18 => .array .int
  | 19 => .array .int
  | 20 => .array .int
  | 21 => .array .int
  | 22 => .array .int
  | 23 => .array .int
  | 24 => .array .int
  | 25 => .array .int
  | 26 => .array .int
  | 27 => .int
  | 28 => .int
  | 29 => .int
  | 30 => .int
  | 31 => .boolean
  | 32 => .int
  | 33 => .array .int
  | 34 => .int
  | 35 => .array .int
  | 36 => .array .int
  | 37 => .array .int
  | 38 => .array .int
  | 39 => .int
  | 40 => .int
  | 41 => .array .boolean
  | 42 => .array .int
  | 43 => .array .int
  | 44 => .array .int
  | 45 => .array .int
  | 46 => .array .int
  | _ => .array .int
def cnm : Nat → String := fun t => match t with
  | 0 => "HeraldDesk$Bench"
  | 1 => "HeraldDesk$Pack"
  | 2 => "HeraldDesk$PackReader"
  | 3 => "HeraldDesk$Part"
  | 4 => "HeraldDesk$Pen"
  | 5 => "HeraldDesk$Person"
  | 6 => "HeraldDesk$Register"
  | 7 => "HeraldDesk$Shield"
  | 8 => "HeraldDesk$ShieldReader"
  | 9 => "HeraldDesk$Tokens"
  | 10 => "HeraldDesk"
  | 11 => "HeraldDeskModel"
  | 12 => "HeraldDesk$Painter"
  | 13 => "HeraldDeskLaw"
  | 40 => "java/lang/String"
  | 44 => "java/lang/StringLatin1"
  | 45 => "java/lang/Math"
  | _ => ""
def nfl : Nat → Nat := fun t => match t with
  | 0 => 5
  | 1 => 7
  | 2 => 1
  | 3 => 6
  | 4 => 2
  | 5 => 13
  | 6 => 3
  | 7 => 5
  | 8 => 1
  | 9 => 5
  | 10 => 10
  | 11 => 48
  | _ => 0
def TRs : Nat → u_T := fun t => match t with
  | 0 => TR0
  | 1 => TR1
  | 2 => TR2
  | 3 => TR3
  | 4 => TR4
  | 5 => TR5
  | 6 => TR6
  | 7 => TR7
  | 8 => TR8
  | 9 => TR9
  | 10 => TR10
  | 11 => TR11
  | _ => TR2
def tyRs : Nat → Nat → FieldType := fun t => match t with
  | 0 => tyR0
  | 1 => tyR1
  | 2 => tyR2
  | 3 => tyR3
  | 4 => tyR4
  | 5 => tyR5
  | 6 => tyR6
  | 7 => tyR7
  | 8 => tyR8
  | 9 => tyR9
  | 10 => tyR10
  | 11 => tyR11
  | _ => tyR2
def clsL : List vw_C := [("HeraldDesk$Bench", TR0, 5), ("HeraldDesk$Pack", TR1, 7), ("HeraldDesk$PackReader", TR2, 1), ("HeraldDesk$Part", TR3, 6), ("HeraldDesk$Pen", TR4, 2), ("HeraldDesk$Person", TR5, 13), ("HeraldDesk$Register", TR6, 3), ("HeraldDesk$Shield", TR7, 5), ("HeraldDesk$ShieldReader", TR8, 1), ("HeraldDesk$Tokens", TR9, 5), ("HeraldDesk", TR10, 10), ("HeraldDeskModel", TR11, 48)]
/-- kinds of fields: 0 int, 1 long, 2 boolean, 5 + t a reference of region t -/
def fkL : List (List Nat) := [[6, 36, 6, 26, 0], [0, 0, 26, 26, 26, 26, 26], [14], [0, 0, 0, 0, 0, 26], [28, 0], [0, 2, 10, 10, 0, 0, 0, 10, 0, 0, 26, 0, 1], [40, 0, 0], [0, 0, 0, 38, 26], [14], [28, 0, 0, 0, 0], [28, 0, 42, 0, 14, 13, 7, 9, 5, 11], [27, 0, 27, 0, 0, 0, 0, 0, 1, 1, 0, 0, 26, 26, 26, 26, 27, 0, 26, 26, 26, 26, 26, 26, 26, 26, 26, 0, 0, 0, 0, 2, 0, 26, 0, 26, 26, 26, 26, 0, 0, 29, 26, 26, 26, 26, 26, 26]]
def kd0 : List (Nat × Instr) := [(0, .aload_n 0), (1, .invokespecial 3), (4, .aload_n 0), (5, .new 9), (8, .dup), (9, .invokespecial 11), (12, .putfield 12), (15, .aload_n 0), (16, .iconst 4), (17, .anewarray 9), (20, .putfield 18), (23, .aload_n 0), (24, .new 9), (27, .dup), (28, .invokespecial 11), (31, .putfield 22), (34, .aload_n 0), (35, .bipush 32), (37, .newarray .int), (39, .putfield 25), (42, .iconst 0), (43, .istore_n 1), (44, .iload_n 1), (45, .iconst 4), (46, .if_icmp .ge (22)), (49, .aload_n 0), (50, .getfield 18), (53, .iload_n 1), (54, .new 9), (57, .dup), (58, .invokespecial 11), (61, .aastore), (62, .iinc 1 1), (65, .goto (-21)), (68, .return_)]
def kd1 : List (Nat × Instr) := [(0, .iload_n 1), (1, .invokestatic 29), (4, .ifCond .eq (25)), (7, .aload_n 0), (8, .getfield 18), (11, .iload_n 1), (12, .aaload), (13, .astore_n 2), (14, .aload_n 0), (15, .getfield 18), (18, .iload_n 1), (19, .aload_n 0), (20, .getfield 22), (23, .aastore), (24, .aload_n 0), (25, .aload_n 2), (26, .putfield 22), (29, .return_)]
def kd2 : List (Nat × Instr) := [(0, .iload_n 1), (1, .invokestatic 29), (4, .ifCond .eq (15)), (7, .aload_n 0), (8, .getfield 18), (11, .iload_n 1), (12, .aaload), (13, .getfield 33), (16, .goto 4), (19, .iconst (-1)), (20, .ireturn)]
def kd3 : List (Nat × Instr) := [(0, .iconst 0), (1, .istore 5), (3, .iconst 0), (4, .istore 6), (6, .bipush 7), (8, .istore 7), (10, .iload 7), (12, .ifCond .lt (71)), (15, .aload_n 0), (16, .iload 7), (18, .iload 4), (20, .invokevirtual 41), (23, .astore 8), (25, .aload 8), (27, .iload_n 3), (28, .aload_n 2), (29, .getfield 48), (32, .iload 7), (34, .invokestatic 37), (37, .invokevirtual 45), (40, .istore 9), (42, .iload 9), (44, .iconst (-1)), (45, .if_icmp .eq (32)), (48, .aload_n 0), (49, .aload 8), (51, .iload 9), (53, .aload_n 1), (54, .aload_n 2), (55, .iload 5), (57, .invokevirtual 53), (60, .istore 5), (62, .iconst 1), (63, .aload 8), (65, .getfield 57), (68, .iload 9), (70, .iaload), (71, .iload 6), (73, .imul), (74, .iadd), (75, .istore 6), (77, .iinc 7 (-1)), (80, .goto (-70)), (83, .aload_n 0), (84, .dup), (85, .getfield 60), (88, .iload 6), (90, .iadd), (91, .putfield 60), (94, .iload 5), (96, .ireturn)]
def kd4 : List (Nat × Instr) := [(0, .iload_n 1), (1, .iconst 2), (2, .irem), (3, .ifCond .ne (19)), (6, .iload_n 2), (7, .invokestatic 29), (10, .ifCond .eq (12)), (13, .aload_n 0), (14, .getfield 18), (17, .iload_n 2), (18, .aaload), (19, .goto 7), (22, .aload_n 0), (23, .getfield 12), (26, .areturn)]
def kd5 : List (Nat × Instr) := [(0, .iload_n 0), (1, .istore_n 2), (2, .iconst 0), (3, .istore_n 3), (4, .iload_n 3), (5, .iload_n 1), (6, .iconst 2), (7, .idiv), (8, .if_icmp .ge (14)), (11, .iload_n 2), (12, .invokestatic 63), (15, .istore_n 2), (16, .iinc 3 1), (19, .goto (-15)), (22, .iload_n 2), (23, .ireturn)]
def kd6 : List (Nat × Instr) := [(0, .iconst 0), (1, .istore 6), (3, .aload_n 1), (4, .getfield 67), (7, .iload_n 2), (8, .iaload), (9, .istore 7), (11, .iload 7), (13, .aload_n 1), (14, .getfield 67), (17, .iload_n 2), (18, .iconst 1), (19, .iadd), (20, .iaload), (21, .if_icmp .ge (119)), (24, .aload_n 1), (25, .getfield 70), (28, .iload 7), (30, .iaload), (31, .istore 8), (33, .iload 8), (35, .sipush 20000), (38, .if_icmp .lt (49)), (41, .iload 6), (43, .iconst 2), (44, .if_icmp .lt (90)), (47, .iinc 6 (-1)), (50, .aload_n 0), (51, .getfield 25), (54, .iload 6), (56, .iconst 1), (57, .isub), (58, .iload 8), (60, .sipush 20000), (63, .isub), (64, .aload_n 0), (65, .getfield 25), (68, .iload 6), (70, .iconst 1), (71, .isub), (72, .iaload), (73, .aload_n 0), (74, .getfield 25), (77, .iload 6), (79, .iaload), (80, .invokestatic 73), (83, .iastore), (84, .goto 50), (87, .iload 6), (89, .aload_n 0), (90, .getfield 25), (93, .arraylength), (94, .if_icmp .ge (40)), (97, .aload_n 0), (98, .getfield 25), (101, .iload 6), (103, .iload 8), (105, .sipush 10000), (108, .if_icmp .ge (8)), (111, .iload 8), (113, .goto 17), (116, .iload 8), (118, .sipush 10000), (121, .isub), (122, .aload_n 3), (123, .aload 4), (125, .iload 5), (127, .invokestatic 77), (130, .iastore), (131, .iinc 6 1), (134, .iinc 7 1), (137, .goto (-126)), (140, .iload 6), (142, .ifCond .le (12)), (145, .aload_n 0), (146, .getfield 25), (149, .iconst 0), (150, .iaload), (151, .goto 4), (154, .iconst 0), (155, .ireturn)]
def kd7 : List (Nat × Instr) := [(0, .iload_n 0), (1, .tableswitch (69) (0) (4) #[35, 39, 43, 47, 58]), (36, .iload_n 1), (37, .iload_n 2), (38, .iadd), (39, .ireturn), (40, .iload_n 1), (41, .iload_n 2), (42, .isub), (43, .ireturn), (44, .iload_n 1), (45, .iload_n 2), (46, .imul), (47, .ireturn), (48, .iload_n 1), (49, .iload_n 2), (50, .if_icmp .ne (7)), (53, .iconst 1), (54, .goto 4), (57, .iconst 0), (58, .ireturn), (59, .iload_n 1), (60, .iload_n 2), (61, .if_icmp .ge (7)), (64, .iconst 1), (65, .goto 4), (68, .iconst 0), (69, .ireturn), (70, .iload_n 1), (71, .iload_n 2), (72, .if_icmp .le (7)), (75, .iconst 1), (76, .goto 4), (79, .iconst 0), (80, .ireturn)]
def kd8 : List (Nat × Instr) := [(0, .iload_n 0), (1, .tableswitch (91) (0) (7) #[47, 55, 61, 66, 71, 76, 81, 86]), (48, .aload_n 2), (49, .getfield 81), (52, .invokestatic 84), (55, .ireturn), (56, .aload_n 1), (57, .aload_n 2), (58, .invokevirtual 87), (61, .ireturn), (62, .aload_n 2), (63, .getfield 81), (66, .ireturn), (67, .aload_n 2), (68, .getfield 93), (71, .ireturn), (72, .aload_n 2), (73, .getfield 96), (76, .ireturn), (77, .aload_n 2), (78, .invokevirtual 99), (81, .ireturn), (82, .aload_n 2), (83, .getfield 48), (86, .ireturn), (87, .aload_n 2), (88, .getfield 103), (91, .ireturn), (92, .iload_n 3), (93, .ireturn)]
def kd9 : List (Nat × Instr) := [(0, .iconst 0), (1, .istore 4), (3, .iload 4), (5, .bipush 8), (7, .if_icmp .ge (52)), (10, .iload_n 1), (11, .iload 4), (13, .invokestatic 37), (16, .istore 5), (18, .aload_n 0), (19, .iload 4), (21, .iload_n 3), (22, .invokevirtual 41), (25, .iload_n 2), (26, .iload 5), (28, .invokevirtual 45), (31, .iconst (-1)), (32, .if_icmp .eq (21)), (35, .iload 4), (37, .iconst 2), (38, .irem), (39, .ifCond .ne (11)), (42, .iload 5), (44, .bipush 32), (46, .iadd), (47, .goto 5), (50, .iload 5), (52, .ireturn), (53, .iinc 4 1), (56, .goto (-53)), (59, .iconst (-1)), (60, .ireturn)]
def kd10 : List (Nat × Instr) := [(0, .aload_n 0), (1, .invokespecial 3), (4, .aload_n 0), (5, .bipush 12), (7, .newarray .int), (9, .putfield 11), (12, .aload_n 0), (13, .bipush 12), (15, .newarray .int), (17, .putfield 15), (20, .aload_n 0), (21, .bipush 13), (23, .newarray .int), (25, .putfield 18), (28, .aload_n 0), (29, .bipush 12), (31, .newarray .int), (33, .putfield 21), (36, .aload_n 0), (37, .sipush 240), (40, .newarray .int), (42, .putfield 24), (45, .return_)]
def kd11 : List (Nat × Instr) := [(0, .aload_n 0), (1, .iconst 0), (2, .putfield 27), (5, .aload_n 0), (6, .iconst 0), (7, .putfield 31), (10, .return_)]
def kd12 : List (Nat × Instr) := [(0, .aload_n 0), (1, .getfield 27), (4, .bipush 12), (6, .if_icmp .lt (7)), (9, .iconst 1), (10, .goto 4), (13, .iconst 0), (14, .ireturn)]
def kd13 : List (Nat × Instr) := [(0, .iconst 0), (1, .istore_n 3), (2, .iload_n 3), (3, .aload_n 0), (4, .getfield 27), (7, .if_icmp .ge (31)), (10, .aload_n 0), (11, .getfield 11), (14, .iload_n 3), (15, .iaload), (16, .iload_n 1), (17, .if_icmp .ne (15)), (20, .aload_n 0), (21, .getfield 15), (24, .iload_n 3), (25, .iaload), (26, .iload_n 2), (27, .if_icmp .ne (5)), (30, .iload_n 3), (31, .ireturn), (32, .iinc 3 1), (35, .goto (-33)), (38, .iconst (-1)), (39, .ireturn)]
def kd14 : List (Nat × Instr) := [(0, .aload_n 0), (1, .getfield 27), (4, .bipush 12), (6, .if_icmp .ge (71)), (9, .aload_n 0), (10, .getfield 11), (13, .aload_n 0), (14, .getfield 27), (17, .iload_n 1), (18, .iastore), (19, .aload_n 0), (20, .getfield 15), (23, .aload_n 0), (24, .getfield 27), (27, .iload_n 2), (28, .iastore), (29, .aload_n 0), (30, .getfield 21), (33, .aload_n 0), (34, .getfield 27), (37, .iconst 0), (38, .iastore), (39, .aload_n 0), (40, .getfield 18), (43, .aload_n 0), (44, .getfield 27), (47, .aload_n 0), (48, .getfield 31), (51, .iastore), (52, .aload_n 0), (53, .getfield 18), (56, .aload_n 0), (57, .getfield 27), (60, .iconst 1), (61, .iadd), (62, .aload_n 0), (63, .getfield 31), (66, .iastore), (67, .aload_n 0), (68, .dup), (69, .getfield 27), (72, .iconst 1), (73, .iadd), (74, .putfield 27), (77, .return_)]
def kd15 : List (Nat × Instr) := [(0, .aload_n 0), (1, .getfield 31), (4, .sipush 240), (7, .if_icmp .ge (65)), (10, .aload_n 0), (11, .getfield 27), (14, .ifCond .le (58)), (17, .aload_n 0), (18, .getfield 24), (21, .aload_n 0), (22, .getfield 31), (25, .iload_n 1), (26, .iastore), (27, .aload_n 0), (28, .dup), (29, .getfield 31), (32, .iconst 1), (33, .iadd), (34, .putfield 31), (37, .aload_n 0), (38, .getfield 18), (41, .aload_n 0), (42, .getfield 27), (45, .aload_n 0), (46, .getfield 31), (49, .iastore), (50, .iload_n 1), (51, .sipush 10008), (54, .if_icmp .ne (18)), (57, .aload_n 0), (58, .getfield 21), (61, .aload_n 0), (62, .getfield 27), (65, .iconst 1), (66, .isub), (67, .dup2), (68, .iaload), (69, .iconst 1), (70, .iadd), (71, .iastore), (72, .return_)]
def kd16 : List (Nat × Instr) := [(0, .aload_n 0), (1, .invokespecial 3), (4, .aload_n 0), (5, .aload_n 1), (6, .putfield 9), (9, .return_)]
def kd17 : List (Nat × Instr) := [(0, .aload_n 1), (1, .invokevirtual 15), (4, .iconst 0), (5, .istore_n 2), (6, .iload_n 2), (7, .sipush 240), (10, .if_icmp .ge (29)), (13, .aload_n 0), (14, .getfield 9), (17, .invokevirtual 20), (20, .ifCond .ne (19)), (23, .aload_n 0), (24, .aload_n 1), (25, .invokevirtual 26), (28, .ifCond .ne (5)), (31, .iconst 0), (32, .ireturn), (33, .iinc 2 1), (36, .goto (-30)), (39, .aload_n 0), (40, .getfield 9), (43, .invokevirtual 20), (46, .ireturn)]
def kd18 : List (Nat × Instr) := [(0, .aload_n 1), (1, .invokevirtual 30), (4, .ifCond .ne (15)), (7, .aload_n 0), (8, .getfield 9), (11, .ldc 33), (13, .invokevirtual 35), (16, .ifCond .ne (5)), (19, .iconst 0), (20, .ireturn), (21, .aload_n 0), (22, .getfield 9), (25, .iconst 1), (26, .invokevirtual 39), (29, .istore_n 2), (30, .iload_n 2), (31, .invokestatic 43), (34, .ifCond .ne (5)), (37, .iconst 0), (38, .ireturn), (39, .aload_n 0), (40, .getfield 9), (43, .invokevirtual 47), (46, .aload_n 0), (47, .getfield 9), (50, .ldc 50), (52, .invokevirtual 35), (55, .ifCond .ne (5)), (58, .iconst 0), (59, .ireturn), (60, .aload_n 0), (61, .getfield 9), (64, .ldc 52), (66, .invokevirtual 54), (69, .istore_n 3), (70, .iload_n 3), (71, .iconst (-1)), (72, .if_icmp .eq (13)), (75, .aload_n 1), (76, .iload_n 2), (77, .iload_n 3), (78, .invokevirtual 58), (81, .iconst (-1)), (82, .if_icmp .eq (5)), (85, .iconst 0), (86, .ireturn), (87, .aload_n 0), (88, .getfield 9), (91, .invokevirtual 47), (94, .aload_n 1), (95, .iload_n 2), (96, .iload_n 3), (97, .invokevirtual 62), (100, .aload_n 0), (101, .getfield 9), (104, .bipush 58), (106, .invokevirtual 66), (109, .ifCond .eq (28)), (112, .aload_n 0), (113, .aload_n 1), (114, .iconst 0), (115, .invokevirtual 70), (118, .ifCond .eq (19)), (121, .aload_n 0), (122, .getfield 9), (125, .bipush 59), (127, .invokevirtual 66), (130, .ifCond .eq (7)), (133, .iconst 1), (134, .goto 4), (137, .iconst 0), (138, .ireturn)]
def kd19 : List (Nat × Instr) := [(0, .aload_n 0), (1, .aload_n 1), (2, .iload_n 2), (3, .invokevirtual 74), (6, .ifCond .ne (5)), (9, .iconst 0), (10, .ireturn), (11, .iconst 0), (12, .istore_n 3), (13, .iload_n 3), (14, .sipush 240), (17, .if_icmp .ge (60)), (20, .aload_n 0), (21, .getfield 9), (24, .invokevirtual 77), (27, .istore 4), (29, .iload 4), (31, .iconst (-1)), (32, .if_icmp .eq (9)), (35, .iload 4), (37, .iconst 2), (38, .if_icmp .lt (5)), (41, .iconst 1), (42, .ireturn), (43, .aload_n 0), (44, .getfield 9), (47, .invokevirtual 47), (50, .aload_n 0), (51, .aload_n 1), (52, .iload_n 2), (53, .invokevirtual 74), (56, .ifCond .ne (5)), (59, .iconst 0), (60, .ireturn), (61, .aload_n 1), (62, .sipush 20000), (65, .iload 4), (67, .iadd), (68, .invokevirtual 81), (71, .iinc 3 1), (74, .goto (-61)), (77, .iconst 1), (78, .ireturn)]
def kd20 : List (Nat × Instr) := [(0, .aload_n 0), (1, .aload_n 1), (2, .iload_n 2), (3, .invokevirtual 85), (6, .ifCond .ne (5)), (9, .iconst 0), (10, .ireturn), (11, .iconst 0), (12, .istore_n 3), (13, .iload_n 3), (14, .sipush 240), (17, .if_icmp .ge (54)), (20, .aload_n 0), (21, .getfield 9), (24, .invokevirtual 77), (27, .istore 4), (29, .iload 4), (31, .iconst 2), (32, .if_icmp .ge (5)), (35, .iconst 1), (36, .ireturn), (37, .aload_n 0), (38, .getfield 9), (41, .invokevirtual 47), (44, .aload_n 0), (45, .aload_n 1), (46, .iload_n 2), (47, .invokevirtual 85), (50, .ifCond .ne (5)), (53, .iconst 0), (54, .ireturn), (55, .aload_n 1), (56, .sipush 20000), (59, .iload 4), (61, .iadd), (62, .invokevirtual 81), (65, .iinc 3 1), (68, .goto (-55)), (71, .iconst 1), (72, .ireturn)]
def kd21 : List (Nat × Instr) := [(0, .aload_n 0), (1, .getfield 9), (4, .iconst 4), (5, .invokevirtual 39), (8, .istore_n 3), (9, .iload_n 3), (10, .iconst (-1)), (11, .if_icmp .eq (17)), (14, .aload_n 1), (15, .iload_n 3), (16, .invokevirtual 81), (19, .aload_n 0), (20, .getfield 9), (23, .invokevirtual 47), (26, .iconst 1), (27, .ireturn), (28, .aload_n 0), (29, .getfield 9), (32, .ldc 88), (34, .invokevirtual 90), (37, .istore 4), (39, .iload 4), (41, .iconst (-1)), (42, .if_icmp .eq (15)), (45, .aload_n 1), (46, .sipush 10000), (49, .iload 4), (51, .iadd), (52, .invokevirtual 81), (55, .iconst 1), (56, .ireturn), (57, .iload_n 2), (58, .bipush 9), (60, .if_icmp .ge (15)), (63, .aload_n 0), (64, .getfield 9), (67, .bipush 40), (69, .invokevirtual 66), (72, .ifCond .ne (5)), (75, .iconst 0), (76, .ireturn), (77, .aload_n 0), (78, .aload_n 1), (79, .iload_n 2), (80, .iconst 1), (81, .iadd), (82, .invokevirtual 70), (85, .ifCond .eq (19)), (88, .aload_n 0), (89, .getfield 9), (92, .bipush 41), (94, .invokevirtual 66), (97, .ifCond .eq (7)), (100, .iconst 1), (101, .goto 4), (104, .iconst 0), (105, .ireturn)]
def kd22 : List (Nat × Instr) := [(0, .aload_n 0), (1, .invokespecial 3), (4, .aload_n 0), (5, .iconst 5), (6, .newarray .int), (8, .dup), (9, .iconst 0), (10, .iconst (-1)), (11, .iastore), (12, .dup), (13, .iconst 1), (14, .iconst (-1)), (15, .iastore), (16, .dup), (17, .iconst 2), (18, .iconst (-1)), (19, .iastore), (20, .dup), (21, .iconst 3), (22, .iconst (-1)), (23, .iastore), (24, .dup), (25, .iconst 4), (26, .iconst (-1)), (27, .iastore), (28, .putfield 9), (31, .aload_n 0), (32, .iload_n 1), (33, .putfield 15), (36, .aload_n 0), (37, .iload_n 2), (38, .putfield 19), (41, .aload_n 0), (42, .iload_n 3), (43, .putfield 22), (46, .return_)]
def kd23 : List (Nat × Instr) := [(0, .iload_n 1), (1, .tableswitch (113) (0) (4) #[35, 59, 71, 89, 101]), (36, .iload_n 0), (37, .bipush 16), (39, .if_icmp .eq (15)), (42, .iload_n 0), (43, .bipush 17), (45, .if_icmp .eq (9)), (48, .iload_n 0), (49, .bipush 19), (51, .if_icmp .ne (7)), (54, .iconst 1), (55, .goto 4), (58, .iconst 0), (59, .ireturn), (60, .iload_n 0), (61, .bipush 18), (63, .if_icmp .ne (7)), (66, .iconst 1), (67, .goto 4), (70, .iconst 0), (71, .ireturn), (72, .iload_n 0), (73, .bipush 16), (75, .if_icmp .eq (9)), (78, .iload_n 0), (79, .bipush 19), (81, .if_icmp .ne (7)), (84, .iconst 1), (85, .goto 4), (88, .iconst 0), (89, .ireturn), (90, .iload_n 0), (91, .bipush 21), (93, .if_icmp .ne (7)), (96, .iconst 1), (97, .goto 4), (100, .iconst 0), (101, .ireturn), (102, .iload_n 0), (103, .bipush 29), (105, .if_icmp .ne (7)), (108, .iconst 1), (109, .goto 4), (112, .iconst 0), (113, .ireturn), (114, .iconst 0), (115, .ireturn)]
def kd24 : List (Nat × Instr) := [(0, .aload_n 0), (1, .getfield 19), (4, .aload_n 1), (5, .getfield 19), (8, .if_icmp .ne (36)), (11, .aload_n 0), (12, .getfield 25), (15, .aload_n 1), (16, .getfield 25), (19, .if_icmp .ne (25)), (22, .aload_n 0), (23, .getfield 22), (26, .aload_n 1), (27, .getfield 22), (30, .if_icmp .ne (14)), (33, .aload_n 0), (34, .getfield 28), (37, .aload_n 1), (38, .getfield 28), (41, .if_icmp .eq (5)), (44, .iconst 0), (45, .ireturn), (46, .iconst 0), (47, .istore_n 2), (48, .iload_n 2), (49, .iconst 5), (50, .if_icmp .ge (26)), (53, .aload_n 0), (54, .getfield 9), (57, .iload_n 2), (58, .iaload), (59, .aload_n 1), (60, .getfield 9), (63, .iload_n 2), (64, .iaload), (65, .if_icmp .eq (5)), (68, .iconst 0), (69, .ireturn), (70, .iinc 2 1), (73, .goto (-25)), (76, .iconst 1), (77, .ireturn)]
def kd25 : List (Nat × Instr) := [(0, .iload_n 1), (1, .tableswitch (87) (0) (7) #[47, 52, 57, 62, 67, 72, 77, 82]), (48, .aload_n 0), (49, .getfield 19), (52, .ireturn), (53, .aload_n 0), (54, .getfield 25), (57, .ireturn), (58, .aload_n 0), (59, .getfield 22), (62, .ireturn), (63, .aload_n 0), (64, .getfield 28), (67, .ireturn), (68, .aload_n 0), (69, .getfield 15), (72, .ireturn), (73, .aload_n 0), (74, .invokevirtual 31), (77, .ireturn), (78, .aload_n 0), (79, .invokevirtual 35), (82, .ireturn), (83, .aload_n 0), (84, .invokevirtual 38), (87, .ireturn), (88, .iconst (-1)), (89, .ireturn)]
def kd26 : List (Nat × Instr) := [(0, .iconst 0), (1, .istore_n 1), (2, .iconst 0), (3, .istore_n 2), (4, .iload_n 2), (5, .iconst 5), (6, .if_icmp .ge (22)), (9, .aload_n 0), (10, .getfield 9), (13, .iload_n 2), (14, .iaload), (15, .iconst (-1)), (16, .if_icmp .eq (6)), (19, .iinc 1 1), (22, .iinc 2 1), (25, .goto (-21)), (28, .iload_n 1), (29, .ireturn)]
def kd27 : List (Nat × Instr) := [(0, .iconst 0), (1, .istore_n 1), (2, .iload_n 1), (3, .iconst 5), (4, .if_icmp .ge (26)), (7, .aload_n 0), (8, .getfield 9), (11, .iload_n 1), (12, .iaload), (13, .iconst (-1)), (14, .if_icmp .eq (10)), (17, .aload_n 0), (18, .getfield 9), (21, .iload_n 1), (22, .iaload), (23, .ireturn), (24, .iinc 1 1), (27, .goto (-25)), (30, .iconst (-1)), (31, .ireturn)]
def kd28 : List (Nat × Instr) := [(0, .iconst 4), (1, .istore_n 1), (2, .iload_n 1), (3, .ifCond .lt (26)), (6, .aload_n 0), (7, .getfield 9), (10, .iload_n 1), (11, .iaload), (12, .iconst (-1)), (13, .if_icmp .eq (10)), (16, .aload_n 0), (17, .getfield 9), (20, .iload_n 1), (21, .iaload), (22, .ireturn), (23, .iinc 1 (-1)), (26, .goto (-24)), (29, .iconst (-1)), (30, .ireturn)]
def kd29 : List (Nat × Instr) := [(0, .aload_n 0), (1, .invokespecial 3), (4, .aload_n 0), (5, .sipush 256), (8, .newarray .char), (10, .putfield 9), (13, .return_)]
def kd30 : List (Nat × Instr) := [(0, .aload_n 0), (1, .iconst 0), (2, .putfield 15), (5, .aload_n 0), (6, .aload_n 1), (7, .invokevirtual 19), (10, .iconst 0), (11, .istore_n 2), (12, .iload_n 2), (13, .bipush 7), (15, .if_icmp .ge (24)), (18, .aload_n 1), (19, .iload_n 2), (20, .invokevirtual 23), (23, .astore_n 3), (24, .aload_n 3), (25, .ifnull 8), (28, .aload_n 0), (29, .aload_n 3), (30, .invokevirtual 29), (33, .iinc 2 1), (36, .goto (-24)), (39, .aload_n 0), (40, .getfield 15), (43, .ireturn)]
def kd31 : List (Nat × Instr) := [(0, .aload_n 1), (1, .getfield 33), (4, .ifCond .le (33)), (7, .aload_n 1), (8, .getfield 33), (11, .iconst 5), (12, .if_icmp .gt (25)), (15, .aload_n 0), (16, .ldc 36), (18, .iconst 0), (19, .invokevirtual 38), (22, .aload_n 0), (23, .ldc 42), (25, .aload_n 1), (26, .getfield 33), (29, .iconst 1), (30, .isub), (31, .invokevirtual 38), (34, .goto 23), (37, .aload_n 1), (38, .getfield 33), (41, .iconst 5), (42, .if_icmp .le (15)), (45, .aload_n 0), (46, .ldc 36), (48, .aload_n 1), (49, .getfield 33), (52, .iconst 5), (53, .isub), (54, .invokevirtual 38), (57, .aload_n 0), (58, .ldc 44), (60, .aload_n 1), (61, .getfield 46), (64, .invokevirtual 38), (67, .aload_n 1), (68, .getfield 33), (71, .ifCond .le (20)), (74, .aload_n 0), (75, .ldc 49), (77, .iconst 0), (78, .invokevirtual 38), (81, .aload_n 0), (82, .ldc 44), (84, .aload_n 1), (85, .getfield 51), (88, .invokevirtual 38), (91, .return_)]
def kd32 : List (Nat × Instr) := [(0, .aload_n 0), (1, .getfield 15), (4, .ifCond .le (9)), (7, .aload_n 0), (8, .bipush 32), (10, .invokevirtual 61), (13, .iconst 0), (14, .istore_n 3), (15, .iconst 0), (16, .istore 4), (18, .iload 4), (20, .aload_n 1), (21, .invokevirtual 101), (24, .if_icmp .ge (46)), (27, .iload_n 3), (28, .iload_n 2), (29, .if_icmp .gt (41)), (32, .aload_n 1), (33, .iload 4), (35, .invokevirtual 106), (38, .bipush 32), (40, .if_icmp .ne (9)), (43, .iinc 3 1), (46, .goto 18), (49, .iload_n 3), (50, .iload_n 2), (51, .if_icmp .ne (13)), (54, .aload_n 0), (55, .aload_n 1), (56, .iload 4), (58, .invokevirtual 106), (61, .invokevirtual 61), (64, .iinc 4 1), (67, .goto (-49)), (70, .return_)]
def kd33 : List (Nat × Instr) := [(0, .aload_n 0), (1, .getfield 15), (4, .aload_n 0), (5, .getfield 9), (8, .arraylength), (9, .if_icmp .ge (23)), (12, .aload_n 0), (13, .getfield 9), (16, .aload_n 0), (17, .getfield 15), (20, .iload_n 1), (21, .castore), (22, .aload_n 0), (23, .dup), (24, .getfield 15), (27, .iconst 1), (28, .iadd), (29, .putfield 15), (32, .return_)]
def kd34 : List (Nat × Instr) := [(0, .aload_n 1), (1, .getfield 54), (4, .iconst 1), (5, .if_icmp .eq (11)), (8, .aload_n 1), (9, .getfield 54), (12, .iconst 4), (13, .if_icmp .ne (20)), (16, .aload_n 0), (17, .ldc 59), (19, .iconst 0), (20, .invokevirtual 38), (23, .aload_n 0), (24, .ldc 59), (26, .iconst 1), (27, .invokevirtual 38), (30, .goto 9), (33, .aload_n 0), (34, .bipush 44), (36, .invokevirtual 61), (39, .aload_n 1), (40, .getfield 54), (43, .iconst 5), (44, .if_icmp .ne (13)), (47, .aload_n 0), (48, .ldc 65), (50, .iconst 0), (51, .invokevirtual 38), (54, .goto 26), (57, .aload_n 1), (58, .getfield 54), (61, .bipush 6), (63, .if_icmp .ne (17)), (66, .aload_n 0), (67, .ldc 67), (69, .iconst 0), (70, .invokevirtual 38), (73, .aload_n 0), (74, .ldc 67), (76, .iconst 1), (77, .invokevirtual 38), (80, .aload_n 0), (81, .ldc 69), (83, .aload_n 1), (84, .getfield 71), (87, .iconst 1), (88, .isub), (89, .invokevirtual 38), (92, .aload_n 0), (93, .aload_n 1), (94, .invokevirtual 74), (97, .aload_n 1), (98, .getfield 77), (101, .ifCond .le (15)), (104, .aload_n 0), (105, .ldc 80), (107, .aload_n 1), (108, .getfield 77), (111, .iconst 1), (112, .isub), (113, .invokevirtual 38), (116, .aload_n 0), (117, .ldc 44), (119, .aload_n 1), (120, .getfield 82), (123, .invokevirtual 38), (126, .aload_n 0), (127, .aload_n 1), (128, .invokevirtual 85), (131, .return_)]
def kd35 : List (Nat × Instr) := [(0, .aload_n 1), (1, .getfield 71), (4, .iconst 1), (5, .if_icmp .ne (16)), (8, .aload_n 0), (9, .ldc 88), (11, .aload_n 1), (12, .getfield 90), (15, .invokevirtual 38), (18, .goto 16), (21, .aload_n 0), (22, .ldc 93), (24, .aload_n 1), (25, .getfield 90), (28, .bipush 16), (30, .isub), (31, .invokevirtual 38), (34, .return_)]
def kd36 : List (Nat × Instr) := [(0, .iconst 0), (1, .istore_n 2), (2, .iload_n 2), (3, .iconst 5), (4, .if_icmp .ge (38)), (7, .aload_n 1), (8, .getfield 95), (11, .iload_n 2), (12, .iaload), (13, .iconst (-1)), (14, .if_icmp .eq (22)), (17, .aload_n 0), (18, .ldc 99), (20, .iload_n 2), (21, .invokevirtual 38), (24, .aload_n 0), (25, .ldc 44), (27, .aload_n 1), (28, .getfield 95), (31, .iload_n 2), (32, .iaload), (33, .invokevirtual 38), (36, .iinc 2 1), (39, .goto (-37)), (42, .return_)]
def kd37 : List (Nat × Instr) := [(0, .iload_n 1), (1, .ifCond .lt (20)), (4, .iload_n 1), (5, .aload_n 0), (6, .getfield 15), (9, .if_icmp .ge (12)), (12, .aload_n 0), (13, .getfield 9), (16, .iload_n 1), (17, .caload), (18, .goto 4), (21, .iconst (-1)), (22, .ireturn)]
def kd38 : List (Nat × Instr) := [(0, .aload_n 0), (1, .invokespecial 3), (4, .aload_n 0), (5, .bipush 32), (7, .newarray .int), (9, .putfield 11), (12, .aload_n 0), (13, .iload_n 1), (14, .putfield 15), (17, .aload_n 0), (18, .iload_n 2), (19, .putfield 19), (22, .aload_n 0), (23, .aload_n 3), (24, .putfield 23), (27, .aload_n 0), (28, .aload 4), (30, .putfield 27), (33, .aload_n 0), (34, .iconst (-1)), (35, .putfield 30), (38, .aload_n 0), (39, .iload_n 2), (40, .ifCond .eq (10)), (43, .aload_n 3), (44, .getfield 39), (47, .goto 4), (50, .iconst 0), (51, .putfield 33), (54, .aload_n 0), (55, .aload_n 3), (56, .getfield 36), (59, .iconst 1), (60, .iadd), (61, .putfield 36), (64, .return_)]
def kd39 : List (Nat × Instr) := [(0, .aload_n 0), (1, .invokespecial 3), (4, .aload_n 0), (5, .bipush 32), (7, .newarray .int), (9, .putfield 11), (12, .aload_n 0), (13, .iload_n 1), (14, .putfield 15), (17, .aload_n 0), (18, .iload_n 2), (19, .putfield 19), (22, .aload_n 0), (23, .aconst_null), (24, .putfield 23), (27, .aload_n 0), (28, .aconst_null), (29, .putfield 27), (32, .aload_n 0), (33, .iload_n 3), (34, .putfield 30), (37, .aload_n 0), (38, .iconst 0), (39, .putfield 33), (42, .aload_n 0), (43, .iconst 0), (44, .putfield 36), (47, .return_)]
def kd40 : List (Nat × Instr) := [(0, .aload_n 0), (1, .iconst 0), (2, .putfield 42), (5, .aload_n 0), (6, .lconst 0), (7, .putfield 45), (10, .aload_n 0), (11, .getfield 23), (14, .ifnonnull 14), (17, .aload_n 0), (18, .aload_n 0), (19, .getfield 30), (22, .invokevirtual 49), (25, .goto 11), (28, .aload_n 0), (29, .aload_n 0), (30, .getfield 23), (33, .invokevirtual 53), (36, .aload_n 0), (37, .getfield 27), (40, .ifnull 21), (43, .aload_n 0), (44, .getfield 27), (47, .invokevirtual 57), (50, .ifCond .eq (11)), (53, .aload_n 0), (54, .aload_n 0), (55, .getfield 27), (58, .invokevirtual 53), (61, .return_)]
def kd41 : List (Nat × Instr) := [(0, .lconst 1), (1, .iload_n 1), (2, .lshl), (3, .lstore_n 2), (4, .aload_n 0), (5, .getfield 45), (8, .lload_n 2), (9, .land), (10, .lconst 0), (11, .lcmp), (12, .ifCond .ne (42)), (15, .aload_n 0), (16, .getfield 42), (19, .bipush 32), (21, .if_icmp .ge (33)), (24, .aload_n 0), (25, .getfield 11), (28, .aload_n 0), (29, .getfield 42), (32, .iload_n 1), (33, .iastore), (34, .aload_n 0), (35, .dup), (36, .getfield 42), (39, .iconst 1), (40, .iadd), (41, .putfield 42), (44, .aload_n 0), (45, .dup), (46, .getfield 45), (49, .lload_n 2), (50, .lor), (51, .putfield 45), (54, .return_)]
def kd42 : List (Nat × Instr) := [(0, .iconst 0), (1, .istore_n 2), (2, .iload_n 2), (3, .aload_n 1), (4, .getfield 42), (7, .if_icmp .ge (19)), (10, .aload_n 0), (11, .aload_n 1), (12, .getfield 11), (15, .iload_n 2), (16, .iaload), (17, .invokevirtual 49), (20, .iinc 2 1), (23, .goto (-21)), (26, .return_)]
def kd43 : List (Nat × Instr) := [(0, .aload_n 0), (1, .getfield 19), (4, .ifCond .ne (24)), (7, .aload_n 0), (8, .getfield 23), (11, .ifnull 17), (14, .aload_n 0), (15, .getfield 23), (18, .getfield 39), (21, .ifCond .ne (7)), (24, .iconst 1), (25, .goto 4), (28, .iconst 0), (29, .ireturn)]
def kd44 : List (Nat × Instr) := [(0, .iload_n 1), (1, .ifCond .lt (20)), (4, .iload_n 1), (5, .aload_n 0), (6, .getfield 42), (9, .if_icmp .ge (12)), (12, .aload_n 0), (13, .getfield 11), (16, .iload_n 1), (17, .iaload), (18, .goto 4), (21, .iconst (-1)), (22, .ireturn)]
def kd45 : List (Nat × Instr) := [(0, .aload_n 0), (1, .invokespecial 3), (4, .aload_n 0), (5, .bipush 100), (7, .anewarray 11), (10, .putfield 13), (13, .return_)]
def kd46 : List (Nat × Instr) := [(0, .aload_n 0), (1, .iload_n 2), (2, .invokevirtual 24), (5, .astore 4), (7, .aload_n 0), (8, .iload_n 3), (9, .invokevirtual 24), (12, .astore 5), (14, .aload_n 0), (15, .getfield 17), (18, .bipush 100), (20, .if_icmp .ge (13)), (23, .aload 4), (25, .ifnull 8), (28, .aload 5), (30, .ifnonnull 5), (33, .iconst (-1)), (34, .ireturn), (35, .aload 4), (37, .getfield 28), (40, .ifCond .eq (13)), (43, .aload 4), (45, .getfield 32), (48, .aload 5), (50, .if_acmp .eq (5)), (53, .iconst (-1)), (54, .ireturn), (55, .aload_n 0), (56, .getfield 13), (59, .aload_n 0), (60, .getfield 17), (63, .new 11), (66, .dup), (67, .aload_n 0), (68, .getfield 17), (71, .iload_n 1), (72, .aload 4), (74, .aload 5), (76, .invokespecial 36), (79, .aastore), (80, .aload_n 0), (81, .dup), (82, .getfield 17), (85, .iconst 1), (86, .iadd), (87, .putfield 17), (90, .aload 4), (92, .dup), (93, .getfield 39), (96, .iconst 1), (97, .iadd), (98, .putfield 39), (101, .aload 5), (103, .dup), (104, .getfield 39), (107, .iconst 1), (108, .iadd), (109, .putfield 39), (112, .iload_n 1), (113, .ifCond .eq (14)), (116, .aload 4), (118, .dup), (119, .getfield 42), (122, .iconst 1), (123, .iadd), (124, .putfield 42), (127, .aload_n 0), (128, .getfield 17), (131, .iconst 1), (132, .isub), (133, .ireturn)]
def kd47 : List (Nat × Instr) := [(0, .iload_n 1), (1, .ifCond .lt (20)), (4, .iload_n 1), (5, .aload_n 0), (6, .getfield 17), (9, .if_icmp .ge (12)), (12, .aload_n 0), (13, .getfield 13), (16, .iload_n 1), (17, .aaload), (18, .goto 4), (21, .aconst_null), (22, .areturn)]
def kd48 : List (Nat × Instr) := [(0, .aload_n 0), (1, .getfield 17), (4, .bipush 100), (6, .if_icmp .lt (5)), (9, .iconst (-1)), (10, .ireturn), (11, .aload_n 0), (12, .getfield 13), (15, .aload_n 0), (16, .getfield 17), (19, .new 11), (22, .dup), (23, .aload_n 0), (24, .getfield 17), (27, .iload_n 1), (28, .iload_n 2), (29, .invokespecial 21), (32, .aastore), (33, .aload_n 0), (34, .dup), (35, .getfield 17), (38, .iconst 1), (39, .iadd), (40, .putfield 17), (43, .aload_n 0), (44, .getfield 17), (47, .iconst 1), (48, .isub), (49, .ireturn)]
def kd49 : List (Nat × Instr) := [(0, .aload_n 0), (1, .iload_n 1), (2, .invokevirtual 24), (5, .astore_n 3), (6, .aload_n 0), (7, .iload_n 2), (8, .invokevirtual 24), (11, .astore 4), (13, .aload_n 3), (14, .ifnull 23), (17, .aload 4), (19, .ifnull 18), (22, .aload_n 3), (23, .getfield 28), (26, .ifCond .eq (11)), (29, .aload 4), (31, .getfield 28), (34, .ifCond .eq (5)), (37, .iconst 0), (38, .ireturn), (39, .aload_n 3), (40, .getfield 32), (43, .ifnonnull 11), (46, .aload 4), (48, .getfield 32), (51, .ifnull 5), (54, .iconst 0), (55, .ireturn), (56, .aload_n 3), (57, .aload 4), (59, .putfield 32), (62, .aload 4), (64, .aload_n 3), (65, .putfield 32), (68, .iconst 1), (69, .ireturn)]
def kd50 : List (Nat × Instr) := [(0, .aload_n 0), (1, .iload_n 1), (2, .invokevirtual 24), (5, .astore_n 3), (6, .aload_n 3), (7, .ifnonnull 5), (10, .iconst (-1)), (11, .ireturn), (12, .iload_n 2), (13, .ifCond .eq (9)), (16, .iload_n 2), (17, .bipush 100), (19, .if_icmp .lt (7)), (22, .aload_n 0), (23, .invokevirtual 45), (26, .iload_n 2), (27, .tableswitch (89) (0) (5) #[37, 42, 55, 60, 65, 84]), (64, .aload_n 3), (65, .getfield 48), (68, .ireturn), (69, .aload_n 3), (70, .invokevirtual 51), (73, .ifCond .eq (7)), (76, .iconst 1), (77, .goto 4), (80, .iconst 0), (81, .ireturn), (82, .aload_n 3), (83, .getfield 55), (86, .ireturn), (87, .aload_n 3), (88, .getfield 58), (91, .ireturn), (92, .aload_n 3), (93, .getfield 32), (96, .ifnonnull 7), (99, .iconst (-1)), (100, .goto 10), (103, .aload_n 3), (104, .getfield 32), (107, .getfield 61), (110, .ireturn), (111, .aload_n 3), (112, .getfield 39), (115, .ireturn), (116, .iload_n 2), (117, .bipush 100), (119, .if_icmp .lt (14)), (122, .aload_n 3), (123, .iload_n 2), (124, .bipush 100), (126, .isub), (127, .invokevirtual 64), (130, .goto 4), (133, .iconst (-1)), (134, .ireturn)]
def kd51 : List (Nat × Instr) := [(0, .aload_n 0), (1, .getfield 68), (4, .aload_n 0), (5, .getfield 17), (8, .if_icmp .ne (4)), (11, .return_), (12, .iconst 0), (13, .istore_n 1), (14, .iload_n 1), (15, .aload_n 0), (16, .getfield 17), (19, .if_icmp .ge (18)), (22, .aload_n 0), (23, .getfield 13), (26, .iload_n 1), (27, .aaload), (28, .invokevirtual 71), (31, .iinc 1 1), (34, .goto (-20)), (37, .aload_n 0), (38, .aload_n 0), (39, .getfield 17), (42, .putfield 68), (45, .return_)]
def kd52 : List (Nat × Instr) := [(0, .aload_n 0), (1, .invokespecial 3), (4, .aload_n 0), (5, .iconst (-1)), (6, .putfield 9), (9, .aload_n 0), (10, .iconst (-1)), (11, .putfield 15), (14, .aload_n 0), (15, .bipush 7), (17, .anewarray 18), (20, .putfield 20), (23, .return_)]
def kd53 : List (Nat × Instr) := [(0, .aload_n 1), (1, .getfield 24), (4, .ifCond .lt (22)), (7, .aload_n 1), (8, .getfield 24), (11, .bipush 7), (13, .if_icmp .ge (13)), (16, .aload_n 0), (17, .getfield 20), (20, .aload_n 1), (21, .getfield 24), (24, .aload_n 1), (25, .aastore), (26, .return_)]
def kd54 : List (Nat × Instr) := [(0, .aload_n 0), (1, .getfield 27), (4, .aload_n 1), (5, .getfield 27), (8, .if_icmp .ne (29)), (11, .aload_n 0), (12, .getfield 9), (15, .aload_n 1), (16, .getfield 9), (19, .if_icmp .ne (18)), (22, .aload_n 0), (23, .getfield 15), (26, .aload_n 1), (27, .getfield 15), (30, .if_icmp .ne (7)), (33, .iconst 1), (34, .goto 4), (37, .iconst 0), (38, .istore_n 2), (39, .iload_n 2), (40, .ifCond .eq (7)), (43, .iconst 0), (44, .goto 4), (47, .iconst 1), (48, .istore_n 3), (49, .iconst 0), (50, .istore 4), (52, .iload 4), (54, .bipush 7), (56, .if_icmp .ge (32)), (59, .aload_n 0), (60, .getfield 20), (63, .iload 4), (65, .aaload), (66, .aload_n 1), (67, .getfield 20), (70, .iload 4), (72, .aaload), (73, .invokestatic 34), (76, .ifCond .ne (6)), (79, .iinc 3 1), (82, .iinc 4 1), (85, .goto (-33)), (88, .iload_n 3), (89, .ireturn)]
def kd55 : List (Nat × Instr) := [(0, .aload_n 0), (1, .ifnull 7), (4, .aload_n 1), (5, .ifnonnull 14), (8, .aload_n 0), (9, .aload_n 1), (10, .if_acmp .ne (7)), (13, .iconst 1), (14, .goto 4), (17, .iconst 0), (18, .ireturn), (19, .aload_n 0), (20, .aload_n 1), (21, .invokevirtual 48), (24, .ireturn)]
def kd56 : List (Nat × Instr) := [(0, .iload_n 1), (1, .ifCond .lt (18)), (4, .iload_n 1), (5, .bipush 7), (7, .if_icmp .ge (12)), (10, .aload_n 0), (11, .getfield 20), (14, .iload_n 1), (15, .aaload), (16, .goto 4), (19, .aconst_null), (20, .areturn)]
def kd57 : List (Nat × Instr) := [(0, .iload_n 1), (1, .tableswitch (51) (0) (3) #[31, 36, 41, 46]), (32, .aload_n 0), (33, .getfield 27), (36, .ireturn), (37, .aload_n 0), (38, .getfield 9), (41, .ireturn), (42, .aload_n 0), (43, .getfield 15), (46, .ireturn), (47, .aload_n 0), (48, .invokevirtual 30), (51, .ireturn), (52, .iconst (-1)), (53, .ireturn)]
def kd58 : List (Nat × Instr) := [(0, .iconst 0), (1, .istore_n 1), (2, .iconst 0), (3, .istore_n 2), (4, .iload_n 2), (5, .bipush 7), (7, .if_icmp .ge (21)), (10, .aload_n 0), (11, .getfield 20), (14, .iload_n 2), (15, .aaload), (16, .ifnull 6), (19, .iinc 1 1), (22, .iinc 2 1), (25, .goto (-21)), (28, .iload_n 1), (29, .ireturn)]
def kd59 : List (Nat × Instr) := [(0, .iconst 0), (1, .istore_n 2), (2, .iconst 0), (3, .istore_n 3), (4, .iload_n 3), (5, .bipush 7), (7, .if_icmp .ge (33)), (10, .aload_n 0), (11, .getfield 20), (14, .iload_n 3), (15, .aaload), (16, .ifnull 18), (19, .iload_n 2), (20, .iload_n 1), (21, .if_icmp .ne (10)), (24, .aload_n 0), (25, .getfield 20), (28, .iload_n 3), (29, .aaload), (30, .areturn), (31, .iinc 2 1), (34, .iinc 3 1), (37, .goto (-33)), (40, .aconst_null), (41, .areturn)]
def kd60 : List (Nat × Instr) := [(0, .aconst_null), (1, .astore_n 2), (2, .aload_n 1), (3, .getfield 24), (6, .iconst 1), (7, .if_icmp .ne (13)), (10, .aload_n 0), (11, .getfield 20), (14, .iconst 0), (15, .aaload), (16, .astore_n 2), (17, .goto 18), (20, .aload_n 1), (21, .getfield 24), (24, .iconst 4), (25, .if_icmp .ne (10)), (28, .aload_n 0), (29, .getfield 20), (32, .iconst 3), (33, .aaload), (34, .astore_n 2), (35, .aload_n 2), (36, .ifnonnull 10), (39, .aload_n 0), (40, .invokevirtual 38), (43, .goto 10), (46, .aload_n 2), (47, .getfield 41), (50, .invokestatic 44), (53, .ireturn)]
def kd61 : List (Nat × Instr) := [(0, .aload_n 0), (1, .getfield 9), (4, .invokestatic 44), (7, .istore_n 1), (8, .aload_n 0), (9, .getfield 27), (12, .ifCond .eq (14)), (15, .iload_n 1), (16, .aload_n 0), (17, .getfield 15), (20, .invokestatic 44), (23, .if_icmp .ne (7)), (26, .iload_n 1), (27, .goto 4), (30, .iconst 0), (31, .ireturn)]
def kd62 : List (Nat × Instr) := [(0, .aload_n 0), (1, .invokespecial 3), (4, .aload_n 0), (5, .aload_n 1), (6, .putfield 9), (9, .return_)]
def kd63 : List (Nat × Instr) := [(0, .new 15), (3, .dup), (4, .invokespecial 17), (7, .astore_n 1), (8, .aload_n 0), (9, .aload_n 1), (10, .invokevirtual 18), (13, .ifCond .ne (5)), (16, .aconst_null), (17, .areturn), (18, .iconst (-1)), (19, .istore_n 2), (20, .iconst 0), (21, .istore_n 3), (22, .iload_n 3), (23, .bipush 7), (25, .if_icmp .ge (33)), (28, .aload_n 0), (29, .getfield 9), (32, .invokevirtual 22), (35, .ifCond .ne (23)), (38, .aload_n 0), (39, .aload_n 1), (40, .iload_n 2), (41, .invokevirtual 28), (44, .istore_n 2), (45, .iload_n 2), (46, .iconst (-1)), (47, .if_icmp .ne (5)), (50, .aconst_null), (51, .areturn), (52, .iinc 3 1), (55, .goto (-33)), (58, .aload_n 0), (59, .getfield 9), (62, .invokevirtual 22), (65, .ifCond .eq (7)), (68, .aload_n 1), (69, .goto 4), (72, .aconst_null), (73, .areturn)]
def kd64 : List (Nat × Instr) := [(0, .aload_n 0), (1, .getfield 9), (4, .ldc 32), (6, .invokevirtual 34), (9, .istore_n 2), (10, .iload_n 2), (11, .iconst (-1)), (12, .if_icmp .ne (30)), (15, .aload_n 1), (16, .aload_n 0), (17, .getfield 9), (20, .ldc 38), (22, .invokevirtual 34), (25, .putfield 40), (28, .aload_n 1), (29, .getfield 40), (32, .iconst (-1)), (33, .if_icmp .eq (7)), (36, .iconst 1), (37, .goto 4), (40, .iconst 0), (41, .ireturn), (42, .aload_n 1), (43, .iload_n 2), (44, .ifCond .ne (17)), (47, .aload_n 0), (48, .getfield 9), (51, .ldc 44), (53, .invokevirtual 34), (56, .iconst 1), (57, .iadd), (58, .goto 6), (61, .iload_n 2), (62, .iconst 5), (63, .iadd), (64, .putfield 46), (67, .aload_n 1), (68, .getfield 46), (71, .ifCond .ne (5)), (74, .iconst 0), (75, .ireturn), (76, .aload_n 1), (77, .aload_n 0), (78, .getfield 9), (81, .ldc 38), (83, .invokevirtual 34), (86, .putfield 40), (89, .aload_n 1), (90, .getfield 40), (93, .iconst (-1)), (94, .if_icmp .eq (15)), (97, .aload_n 0), (98, .getfield 9), (101, .ldc 49), (103, .invokevirtual 51), (106, .ifCond .ne (5)), (109, .iconst 0), (110, .ireturn), (111, .aload_n 0), (112, .getfield 9), (115, .ldc 38), (117, .invokevirtual 55), (120, .aload_n 1), (121, .getfield 40), (124, .if_icmp .ne (5)), (127, .iconst 0), (128, .ireturn), (129, .aload_n 1), (130, .aload_n 0), (131, .getfield 9), (134, .ldc 38), (136, .invokevirtual 34), (139, .putfield 58), (142, .aload_n 1), (143, .getfield 58), (146, .iconst (-1)), (147, .if_icmp .eq (7)), (150, .iconst 1), (151, .goto 4), (154, .iconst 0), (155, .ireturn)]
def kd65 : List (Nat × Instr) := [(0, .iload_n 2), (1, .ifCond .eq (8)), (4, .iload_n 2), (5, .iconst 3), (6, .if_icmp .ne (24)), (9, .aload_n 0), (10, .getfield 9), (13, .ldc 61), (15, .invokevirtual 51), (18, .ifCond .eq (12)), (21, .aload_n 0), (22, .aload_n 1), (23, .iload_n 2), (24, .iconst 1), (25, .iadd), (26, .invokevirtual 63), (29, .ireturn), (30, .iload_n 2), (31, .bipush 6), (33, .if_icmp .eq (15)), (36, .aload_n 0), (37, .getfield 9), (40, .bipush 44), (42, .invokevirtual 66), (45, .ifCond .ne (5)), (48, .iconst (-1)), (49, .ireturn), (50, .aload_n 0), (51, .getfield 9), (54, .ldc 70), (56, .invokevirtual 55), (59, .istore_n 3), (60, .iload_n 3), (61, .iconst (-1)), (62, .if_icmp .eq (11)), (65, .iload_n 2), (66, .iload_n 3), (67, .invokestatic 72), (70, .if_icmp .lt (5)), (73, .iconst (-1)), (74, .ireturn), (75, .aload_n 0), (76, .getfield 9), (79, .invokevirtual 76), (82, .iload_n 3), (83, .bipush 6), (85, .if_icmp .ne (9)), (88, .aload_n 0), (89, .aload_n 1), (90, .invokevirtual 79), (93, .ireturn), (94, .iload_n 3), (95, .bipush 7), (97, .if_icmp .ne (9)), (100, .aload_n 0), (101, .aload_n 1), (102, .invokevirtual 83), (105, .ireturn), (106, .iload_n 3), (107, .ifCond .ne (15)), (110, .aload_n 0), (111, .getfield 9), (114, .ldc 86), (116, .invokevirtual 55), (119, .goto 4), (122, .iconst (-1)), (123, .istore 4), (125, .iload 4), (127, .bipush 8), (129, .if_icmp .lt (30)), (132, .iload 4), (134, .bipush 14), (136, .if_icmp .gt (23)), (139, .iload_n 2), (140, .ifCond .ge (19)), (143, .aload_n 0), (144, .getfield 9), (147, .invokevirtual 76), (150, .aload_n 0), (151, .aload_n 1), (152, .iconst 0), (153, .iload 4), (155, .invokevirtual 88), (158, .ireturn), (159, .iload 4), (161, .bipush 7), (163, .if_icmp .ne (19)), (166, .aload_n 0), (167, .getfield 9), (170, .invokevirtual 76), (173, .aload_n 0), (174, .aload_n 1), (175, .iconst 3), (176, .iload 4), (178, .invokevirtual 88), (181, .ireturn), (182, .iload_n 2), (183, .iconst 2), (184, .if_icmp .ge (15)), (187, .aload_n 0), (188, .aload_n 1), (189, .iconst 2), (190, .iload_n 3), (191, .iconst 1), (192, .iadd), (193, .invokevirtual 92), (196, .goto 4), (199, .iconst (-1)), (200, .ireturn)]
def kd66 : List (Nat × Instr) := [(0, .aload_n 0), (1, .getfield 9), (4, .ldc 95), (6, .invokevirtual 51), (9, .ifCond .ne (5)), (12, .iconst (-1)), (13, .ireturn), (14, .aload_n 0), (15, .getfield 9), (18, .ldc 97), (20, .invokevirtual 34), (23, .iconst 1), (24, .iadd), (25, .istore_n 3), (26, .iload_n 3), (27, .ifCond .le (13)), (30, .aload_n 0), (31, .aload_n 1), (32, .iload_n 2), (33, .iload_n 3), (34, .invokevirtual 92), (37, .goto 4), (40, .iconst (-1)), (41, .ireturn)]
def kd67 : List (Nat × Instr) := [(0, .iload_n 3), (1, .iconst 1), (2, .if_icmp .ne (15)), (5, .aload_n 0), (6, .getfield 9), (9, .ldc 86), (11, .invokevirtual 55), (14, .goto 15), (17, .bipush 16), (19, .aload_n 0), (20, .getfield 9), (23, .ldc 120), (25, .invokevirtual 55), (28, .iadd), (29, .istore 4), (31, .iload 4), (33, .invokestatic 122), (36, .ifCond .ne (5)), (39, .iconst (-1)), (40, .ireturn), (41, .aload_n 0), (42, .getfield 9), (45, .invokevirtual 76), (48, .new 107), (51, .dup), (52, .iload_n 2), (53, .iload 4), (55, .iload_n 3), (56, .invokespecial 109), (59, .astore 5), (61, .aload_n 1), (62, .aload 5), (64, .invokevirtual 112), (67, .aload_n 0), (68, .aload 5), (70, .invokevirtual 126), (73, .ifCond .eq (25)), (76, .aload_n 0), (77, .aload 5), (79, .invokevirtual 116), (82, .ifCond .eq (16)), (85, .aload_n 0), (86, .aload 5), (88, .invokevirtual 129), (91, .ifCond .eq (7)), (94, .iload_n 2), (95, .goto 4), (98, .iconst (-1)), (99, .ireturn)]
def kd68 : List (Nat × Instr) := [(0, .aload_n 1), (1, .getfield 132), (4, .bipush 19), (6, .if_icmp .le (5)), (9, .iconst 1), (10, .ireturn), (11, .aload_n 0), (12, .getfield 9), (15, .ldc 135), (17, .invokevirtual 55), (20, .iconst 1), (21, .iadd), (22, .istore_n 2), (23, .aload_n 1), (24, .getfield 132), (27, .bipush 19), (29, .if_icmp .ne (16)), (32, .iload_n 2), (33, .iconst 3), (34, .if_icmp .le (7)), (37, .iconst 1), (38, .goto 21), (41, .iconst 0), (42, .goto 17), (45, .iload_n 2), (46, .ifCond .le (12)), (49, .iload_n 2), (50, .iconst 3), (51, .if_icmp .gt (7)), (54, .iconst 1), (55, .goto 4), (58, .iconst 0), (59, .istore_n 3), (60, .iload_n 3), (61, .ifCond .eq (15)), (64, .aload_n 1), (65, .iload_n 2), (66, .putfield 137), (69, .aload_n 0), (70, .getfield 9), (73, .invokevirtual 76), (76, .iload_n 3), (77, .ireturn)]
def kd69 : List (Nat × Instr) := [(0, .aload_n 1), (1, .aload_n 0), (2, .getfield 9), (5, .ldc 38), (7, .invokevirtual 34), (10, .putfield 140), (13, .aload_n 1), (14, .getfield 140), (17, .iconst (-1)), (18, .if_icmp .eq (7)), (21, .iconst 1), (22, .goto 4), (25, .iconst 0), (26, .ireturn)]
def kd70 : List (Nat × Instr) := [(0, .iconst 0), (1, .istore_n 2), (2, .iload_n 2), (3, .iconst 5), (4, .if_icmp .ge (67)), (7, .aload_n 0), (8, .getfield 9), (11, .ldc 143), (13, .invokevirtual 55), (16, .iload_n 2), (17, .if_icmp .ne (48)), (20, .aload_n 1), (21, .getfield 132), (24, .iload_n 2), (25, .invokestatic 145), (28, .ifCond .eq (37)), (31, .aload_n 0), (32, .getfield 9), (35, .invokevirtual 76), (38, .aload_n 1), (39, .getfield 149), (42, .iload_n 2), (43, .aload_n 0), (44, .getfield 9), (47, .ldc 38), (49, .invokevirtual 34), (52, .iastore), (53, .aload_n 1), (54, .getfield 149), (57, .iload_n 2), (58, .iaload), (59, .iconst (-1)), (60, .if_icmp .ne (5)), (63, .iconst 0), (64, .ireturn), (65, .iinc 2 1), (68, .goto (-66)), (71, .iconst 1), (72, .ireturn)]
def kd71 : List (Nat × Instr) := [(0, .iload_n 0), (1, .lookupswitch (42) #[(0, 35), (6, 37), (7, 39)]), (36, .iconst 3), (37, .ireturn), (38, .iconst 5), (39, .ireturn), (40, .bipush 6), (42, .ireturn), (43, .iconst 2), (44, .ireturn)]
def kd72 : List (Nat × Instr) := [(0, .aload_n 0), (1, .getfield 9), (4, .ldc 99), (6, .invokevirtual 51), (9, .ifCond .eq (19)), (12, .aload_n 0), (13, .getfield 9), (16, .ldc 101), (18, .invokevirtual 51), (21, .ifCond .eq (7)), (24, .iconst 1), (25, .goto 4), (28, .iconst 0), (29, .istore_n 2), (30, .iload_n 2), (31, .ifCond .eq (14)), (34, .aload_n 0), (35, .aload_n 1), (36, .iconst 5), (37, .bipush 15), (39, .invokevirtual 88), (42, .goto 4), (45, .iconst (-1)), (46, .ireturn)]
def kd73 : List (Nat × Instr) := [(0, .new 107), (3, .dup), (4, .iload_n 2), (5, .iload_n 3), (6, .iconst 1), (7, .invokespecial 109), (10, .astore 4), (12, .aload_n 1), (13, .aload 4), (15, .invokevirtual 112), (18, .aload_n 0), (19, .aload 4), (21, .invokevirtual 116), (24, .ifCond .eq (7)), (27, .iload_n 2), (28, .goto 4), (31, .iconst (-1)), (32, .ireturn)]
def kd74 : List (Nat × Instr) := [(0, .aload_n 0), (1, .getfield 9), (4, .ldc 103), (6, .invokevirtual 51), (9, .ifCond .eq (15)), (12, .aload_n 0), (13, .getfield 9), (16, .ldc 99), (18, .invokevirtual 51), (21, .ifCond .ne (5)), (24, .iconst (-1)), (25, .ireturn), (26, .aload_n 0), (27, .getfield 9), (30, .ldc 86), (32, .invokevirtual 55), (35, .istore_n 2), (36, .aload_n 0), (37, .getfield 9), (40, .ldc 105), (42, .invokevirtual 51), (45, .ifCond .eq (14)), (48, .aload_n 0), (49, .aload_n 1), (50, .bipush 6), (52, .iload_n 2), (53, .invokevirtual 88), (56, .goto 4), (59, .iconst (-1)), (60, .ireturn)]
def kd75 : List (Nat × Instr) := [(0, .aload_n 0), (1, .invokespecial 3), (4, .aload_n 0), (5, .iconst 0), (6, .newarray .char), (8, .putfield 9), (11, .return_)]
def kd76 : List (Nat × Instr) := [(0, .aload_n 0), (1, .aload_n 1), (2, .putfield 9), (5, .aload_n 0), (6, .iconst 0), (7, .iload_n 2), (8, .aload_n 1), (9, .arraylength), (10, .invokestatic 15), (13, .invokestatic 21), (16, .putfield 24), (19, .aload_n 0), (20, .iconst 0), (21, .putfield 28), (24, .aload_n 0), (25, .invokevirtual 31), (28, .return_)]
def kd77 : List (Nat × Instr) := [(0, .aload_n 0), (1, .aload_n 0), (2, .getfield 28), (5, .putfield 34), (8, .aload_n 0), (9, .getfield 34), (12, .aload_n 0), (13, .getfield 24), (16, .if_icmp .ge (30)), (19, .aload_n 0), (20, .getfield 9), (23, .aload_n 0), (24, .getfield 34), (27, .caload), (28, .bipush 32), (30, .if_icmp .ne (16)), (33, .aload_n 0), (34, .dup), (35, .getfield 34), (38, .iconst 1), (39, .iadd), (40, .putfield 34), (43, .goto (-35)), (46, .aload_n 0), (47, .aload_n 0), (48, .getfield 34), (51, .putfield 28), (54, .aload_n 0), (55, .getfield 28), (58, .aload_n 0), (59, .getfield 24), (62, .if_icmp .ge (44)), (65, .aload_n 0), (66, .getfield 9), (69, .aload_n 0), (70, .getfield 28), (73, .caload), (74, .bipush 97), (76, .if_icmp .lt (30)), (79, .aload_n 0), (80, .getfield 9), (83, .aload_n 0), (84, .getfield 28), (87, .caload), (88, .bipush 122), (90, .if_icmp .gt (16)), (93, .aload_n 0), (94, .dup), (95, .getfield 28), (98, .iconst 1), (99, .iadd), (100, .putfield 28), (103, .goto (-49)), (106, .aload_n 0), (107, .getfield 28), (110, .aload_n 0), (111, .getfield 34), (114, .if_icmp .le (9)), (117, .aload_n 0), (118, .iconst 1), (119, .putfield 37), (122, .return_), (123, .aload_n 0), (124, .getfield 28), (127, .aload_n 0), (128, .getfield 24), (131, .if_icmp .ge (44)), (134, .aload_n 0), (135, .getfield 9), (138, .aload_n 0), (139, .getfield 28), (142, .caload), (143, .bipush 48), (145, .if_icmp .lt (30)), (148, .aload_n 0), (149, .getfield 9), (152, .aload_n 0), (153, .getfield 28), (156, .caload), (157, .bipush 57), (159, .if_icmp .gt (16)), (162, .aload_n 0), (163, .dup), (164, .getfield 28), (167, .iconst 1), (168, .iadd), (169, .putfield 28), (172, .goto (-49)), (175, .aload_n 0), (176, .getfield 28), (179, .aload_n 0), (180, .getfield 34), (183, .if_icmp .le (9)), (186, .aload_n 0), (187, .iconst 2), (188, .putfield 37), (191, .return_), (192, .aload_n 0), (193, .aload_n 0), (194, .getfield 34), (197, .aload_n 0), (198, .getfield 24), (201, .if_icmp .ge (7)), (204, .iconst 3), (205, .goto 4), (208, .iconst 0), (209, .putfield 37), (212, .aload_n 0), (213, .aload_n 0), (214, .getfield 34), (217, .iconst 1), (218, .iadd), (219, .aload_n 0), (220, .getfield 24), (223, .invokestatic 15), (226, .putfield 28), (229, .return_)]
def kd78 : List (Nat × Instr) := [(0, .aload_n 0), (1, .getfield 37), (4, .ifCond .ne (7)), (7, .iconst 1), (8, .goto 4), (11, .iconst 0), (12, .ireturn)]
def kd79 : List (Nat × Instr) := [(0, .aload_n 0), (1, .aload_n 1), (2, .invokevirtual 53), (5, .iconst (-1)), (6, .if_icmp .eq (7)), (9, .iconst 1), (10, .goto 4), (13, .iconst 0), (14, .ireturn)]
def kd80 : List (Nat × Instr) := [(0, .aload_n 0), (1, .aload_n 1), (2, .invokevirtual 49), (5, .istore_n 2), (6, .iload_n 2), (7, .iconst (-1)), (8, .if_icmp .eq (7)), (11, .aload_n 0), (12, .invokevirtual 31), (15, .iload_n 2), (16, .ireturn)]
def kd81 : List (Nat × Instr) := [(0, .aload_n 0), (1, .getfield 37), (4, .iconst 1), (5, .if_icmp .eq (5)), (8, .iconst (-1)), (9, .ireturn), (10, .iconst 0), (11, .istore_n 2), (12, .iconst 0), (13, .istore_n 3), (14, .iconst 0), (15, .istore 4), (17, .iload 4), (19, .aload_n 1), (20, .invokevirtual 40), (23, .if_icmp .ge (101)), (26, .aload_n 1), (27, .iload 4), (29, .invokevirtual 45), (32, .istore 5), (34, .iload 5), (36, .bipush 32), (38, .if_icmp .ne (26)), (41, .iload_n 3), (42, .aload_n 0), (43, .getfield 28), (46, .aload_n 0), (47, .getfield 34), (50, .isub), (51, .if_icmp .ne (5)), (54, .iload_n 2), (55, .ireturn), (56, .iinc 2 1), (59, .iconst 0), (60, .istore_n 3), (61, .goto 57), (64, .iload_n 3), (65, .iconst (-1)), (66, .if_icmp .eq (36)), (69, .aload_n 0), (70, .getfield 34), (73, .iload_n 3), (74, .iadd), (75, .aload_n 0), (76, .getfield 28), (79, .if_icmp .ge (23)), (82, .aload_n 0), (83, .getfield 9), (86, .aload_n 0), (87, .getfield 34), (90, .iload_n 3), (91, .iadd), (92, .caload), (93, .iload 5), (95, .if_icmp .ne (7)), (98, .iconst 1), (99, .goto 4), (102, .iconst 0), (103, .istore 6), (105, .iload 6), (107, .ifCond .eq (9)), (110, .iload_n 3), (111, .iconst 1), (112, .iadd), (113, .goto 4), (116, .iconst (-1)), (117, .istore_n 3), (118, .iinc 4 1), (121, .goto (-104)), (124, .iconst (-1)), (125, .ireturn)]
def kd82 : List (Nat × Instr) := [(0, .aload_n 0), (1, .getfield 37), (4, .iconst 2), (5, .if_icmp .ne (16)), (8, .aload_n 0), (9, .getfield 28), (12, .aload_n 0), (13, .getfield 34), (16, .isub), (17, .iload_n 1), (18, .if_icmp .le (5)), (21, .iconst (-1)), (22, .ireturn), (23, .iconst 0), (24, .istore_n 2), (25, .aload_n 0), (26, .getfield 34), (29, .istore_n 3), (30, .iload_n 3), (31, .aload_n 0), (32, .getfield 28), (35, .if_icmp .ge (24)), (38, .iload_n 2), (39, .bipush 10), (41, .imul), (42, .aload_n 0), (43, .getfield 9), (46, .iload_n 3), (47, .caload), (48, .bipush 48), (50, .isub), (51, .iadd), (52, .istore_n 2), (53, .iinc 3 1), (56, .goto (-26)), (59, .iload_n 2), (60, .ireturn)]
def kd83 : List (Nat × Instr) := [(0, .aload_n 0), (1, .getfield 37), (4, .iconst 3), (5, .if_icmp .ne (27)), (8, .aload_n 0), (9, .getfield 34), (12, .aload_n 0), (13, .getfield 24), (16, .if_icmp .ge (16)), (19, .aload_n 0), (20, .getfield 9), (23, .aload_n 0), (24, .getfield 34), (27, .caload), (28, .iload_n 1), (29, .if_icmp .eq (5)), (32, .iconst 0), (33, .ireturn), (34, .aload_n 0), (35, .invokevirtual 31), (38, .iconst 1), (39, .ireturn)]
def kd84 : List (Nat × Instr) := [(0, .aload_n 0), (1, .getfield 37), (4, .iconst 3), (5, .if_icmp .ne (31)), (8, .aload_n 0), (9, .getfield 34), (12, .aload_n 0), (13, .getfield 24), (16, .if_icmp .ge (20)), (19, .ldc 56), (21, .aload_n 0), (22, .getfield 9), (25, .aload_n 0), (26, .getfield 34), (29, .caload), (30, .invokevirtual 58), (33, .goto 4), (36, .iconst (-1)), (37, .ireturn)]
def kd85 : List (Nat × Instr) := [(0, .aload_n 0), (1, .invokespecial 1), (4, .aload_n 0), (5, .sipush 240), (8, .newarray .char), (10, .putfield 9), (13, .aload_n 0), (14, .bipush 60), (16, .anewarray 13), (19, .putfield 15), (22, .aload_n 0), (23, .new 19), (26, .dup), (27, .invokespecial 21), (30, .putfield 22), (33, .aload_n 0), (34, .new 26), (37, .dup), (38, .aload_n 0), (39, .getfield 22), (42, .invokespecial 28), (45, .putfield 31), (48, .aload_n 0), (49, .new 35), (52, .dup), (53, .aload_n 0), (54, .getfield 22), (57, .invokespecial 37), (60, .putfield 38), (63, .aload_n 0), (64, .new 42), (67, .dup), (68, .invokespecial 44), (71, .putfield 45), (74, .aload_n 0), (75, .new 49), (78, .dup), (79, .invokespecial 51), (82, .putfield 52), (85, .aload_n 0), (86, .new 56), (89, .dup), (90, .invokespecial 58), (93, .putfield 59), (96, .aload_n 0), (97, .getfield 22), (100, .ldc 63), (102, .invokevirtual 65), (105, .ldc 63), (107, .invokevirtual 71), (110, .invokevirtual 75), (113, .aload_n 0), (114, .getfield 38), (117, .aload_n 0), (118, .getfield 52), (121, .getfield 79), (124, .invokevirtual 83), (127, .pop), (128, .return_)]
def kd86 : List (Nat × Instr) := [(0, .iload_n 0), (1, .ifCond .lt (12)), (4, .iload_n 0), (5, .iconst 4), (6, .if_icmp .ge (7)), (9, .iconst 1), (10, .goto 4), (13, .iconst 0), (14, .ireturn)]
def kd87 : List (Nat × Instr) := [(0, .aload_n 0), (1, .getfield 87), (4, .bipush 20), (6, .iadd), (7, .sipush 240), (10, .if_icmp .le (5)), (13, .iconst (-1)), (14, .ireturn), (15, .aload_n 0), (16, .iload_n 1), (17, .invokevirtual 91), (20, .aload_n 0), (21, .iload_n 2), (22, .invokevirtual 91), (25, .aload_n 0), (26, .iload_n 3), (27, .invokevirtual 91), (30, .aload_n 0), (31, .iload 4), (33, .invokevirtual 91), (36, .aload_n 0), (37, .iload 5), (39, .invokevirtual 91), (42, .aload_n 0), (43, .getfield 87), (46, .ireturn)]
def kd88 : List (Nat × Instr) := [(0, .bipush 24), (2, .istore_n 2), (3, .iload_n 2), (4, .ifCond .lt (46)), (7, .aload_n 0), (8, .getfield 87), (11, .sipush 240), (14, .if_icmp .ge (36)), (17, .aload_n 0), (18, .getfield 9), (21, .aload_n 0), (22, .getfield 87), (25, .iload_n 1), (26, .iload_n 2), (27, .iushr), (28, .sipush 255), (31, .iand), (32, .i2c), (33, .castore), (34, .aload_n 0), (35, .dup), (36, .getfield 87), (39, .iconst 1), (40, .iadd), (41, .putfield 87), (44, .iinc 2 (-8)), (47, .goto (-44)), (50, .return_)]
def kd89 : List (Nat × Instr) := [(0, .iload_n 1), (1, .ifCond .lt (11)), (4, .iload_n 1), (5, .aload_n 0), (6, .getfield 87), (9, .if_icmp .le (5)), (12, .iconst (-1)), (13, .ireturn), (14, .aload_n 0), (15, .iconst 0), (16, .putfield 87), (19, .aload_n 0), (20, .getfield 22), (23, .aload_n 0), (24, .getfield 9), (27, .iload_n 1), (28, .invokevirtual 75), (31, .aload_n 0), (32, .getfield 31), (35, .invokevirtual 95), (38, .astore_n 2), (39, .aload_n 2), (40, .ifnonnull 10), (43, .aload_n 0), (44, .invokevirtual 99), (47, .goto 8), (50, .aload_n 0), (51, .aload_n 2), (52, .invokevirtual 102), (55, .ireturn)]
def kd90 : List (Nat × Instr) := [(0, .iload_n 0), (1, .bipush 16), (3, .if_icmp .lt (13)), (6, .iload_n 0), (7, .bipush 29), (9, .if_icmp .gt (7)), (12, .iconst 1), (13, .goto 4), (16, .iconst 0), (17, .ireturn)]
def kd91 : List (Nat × Instr) := [(0, .bipush (-2)), (2, .aload_n 0), (3, .getfield 22), (6, .getfield 198), (9, .isub), (10, .ireturn)]
def kd92 : List (Nat × Instr) := [(0, .iconst 0), (1, .istore_n 2), (2, .iload_n 2), (3, .aload_n 0), (4, .getfield 192), (7, .if_icmp .ge (24)), (10, .aload_n 0), (11, .getfield 15), (14, .iload_n 2), (15, .aaload), (16, .aload_n 1), (17, .invokevirtual 174), (20, .ifCond .ne (5)), (23, .iload_n 2), (24, .ireturn), (25, .iinc 2 1), (28, .goto (-26)), (31, .aload_n 0), (32, .getfield 192), (35, .bipush 60), (37, .if_icmp .lt (5)), (40, .iconst (-1)), (41, .ireturn), (42, .aload_n 0), (43, .getfield 15), (46, .aload_n 0), (47, .getfield 192), (50, .aload_n 1), (51, .aastore), (52, .aload_n 0), (53, .dup), (54, .getfield 192), (57, .iconst 1), (58, .iadd), (59, .putfield 192), (62, .aload_n 0), (63, .getfield 192), (66, .iconst 1), (67, .isub), (68, .ireturn)]
def kd93 : List (Nat × Instr) := [(0, .iload_n 1), (1, .invokestatic 106), (4, .ifCond .eq (15)), (7, .iload_n 2), (8, .ifCond .lt (11)), (11, .iload_n 2), (12, .aload_n 0), (13, .getfield 87), (16, .if_icmp .le (5)), (19, .iconst (-1)), (20, .ireturn), (21, .aload_n 0), (22, .iconst 0), (23, .putfield 87), (26, .aload_n 0), (27, .getfield 22), (30, .aload_n 0), (31, .getfield 9), (34, .iload_n 2), (35, .invokevirtual 75), (38, .aload_n 0), (39, .getfield 38), (42, .aload_n 0), (43, .getfield 52), (46, .getfield 110), (49, .invokevirtual 83), (52, .ifCond .ne (8)), (55, .aload_n 0), (56, .invokevirtual 99), (59, .ireturn), (60, .aload_n 0), (61, .getfield 52), (64, .iload_n 1), (65, .invokevirtual 113), (68, .aload_n 0), (69, .getfield 52), (72, .iload_n 1), (73, .invokevirtual 116), (76, .ireturn)]
def kd94 : List (Nat × Instr) := [(0, .iload_n 0), (1, .ifCond .lt (12)), (4, .iload_n 0), (5, .iconst 4), (6, .if_icmp .ge (7)), (9, .iconst 1), (10, .goto 4), (13, .iconst 0), (14, .ireturn)]
def kd95 : List (Nat × Instr) := [(0, .aload_n 0), (1, .iload_n 1), (2, .invokevirtual 120), (5, .astore_n 2), (6, .aload_n 2), (7, .ifnonnull 7), (10, .iconst (-1)), (11, .goto 11), (14, .aload_n 0), (15, .getfield 45), (18, .aload_n 2), (19, .invokevirtual 124), (22, .ireturn)]
def kd96 : List (Nat × Instr) := [(0, .iload_n 1), (1, .ifCond .lt (20)), (4, .iload_n 1), (5, .aload_n 0), (6, .getfield 192), (9, .if_icmp .ge (12)), (12, .aload_n 0), (13, .getfield 15), (16, .iload_n 1), (17, .aaload), (18, .goto 4), (21, .aconst_null), (22, .areturn)]
def kd97 : List (Nat × Instr) := [(0, .aload_n 0), (1, .getfield 45), (4, .iload_n 1), (5, .invokevirtual 127), (8, .ireturn)]
def kd98 : List (Nat × Instr) := [(0, .aload_n 0), (1, .iload_n 1), (2, .invokevirtual 120), (5, .astore_n 3), (6, .aload_n 3), (7, .ifnonnull 5), (10, .iconst (-1)), (11, .ireturn), (12, .iload_n 2), (13, .bipush 10), (15, .if_icmp .ge (9)), (18, .aload_n 3), (19, .iload_n 2), (20, .invokevirtual 130), (23, .ireturn), (24, .aload_n 3), (25, .iload_n 2), (26, .bipush 10), (28, .isub), (29, .bipush 8), (31, .idiv), (32, .invokevirtual 133), (35, .astore 4), (37, .aload 4), (39, .ifnonnull 7), (42, .iconst (-1)), (43, .goto 15), (46, .aload 4), (48, .iload_n 2), (49, .bipush 10), (51, .isub), (52, .bipush 8), (54, .irem), (55, .invokevirtual 137), (58, .ireturn)]
def kd99 : List (Nat × Instr) := [(0, .aload_n 0), (1, .getfield 52), (4, .iconst 0), (5, .putfield 140), (8, .aload_n 0), (9, .iload_n 1), (10, .invokevirtual 120), (13, .astore 4), (15, .aload 4), (17, .ifnull 17), (20, .iload_n 2), (21, .invokestatic 143), (24, .ifCond .eq (10)), (27, .iload_n 3), (28, .invokestatic 106), (31, .ifCond .ne (5)), (34, .iconst 0), (35, .ireturn), (36, .iconst 0), (37, .istore 5), (39, .iconst 0), (40, .istore 6), (42, .iload 6), (44, .bipush 7), (46, .if_icmp .ge (41)), (49, .aload 4), (51, .iload 6), (53, .invokevirtual 146), (56, .astore 7), (58, .aload 7), (60, .ifnull 21), (63, .iload 5), (65, .aload_n 0), (66, .getfield 52), (69, .aload 4), (71, .aload 7), (73, .iload_n 2), (74, .iload_n 3), (75, .invokevirtual 149), (78, .iadd), (79, .istore 5), (81, .iinc 6 1), (84, .goto (-42)), (87, .iload 5), (89, .ireturn)]
def kd100 : List (Nat × Instr) := [(0, .getstatic 201), (3, .iload_n 0), (4, .invokestatic 170), (7, .ireturn)]
def kd101 : List (Nat × Instr) := [(0, .iload_n 1), (1, .ifCond .lt (15)), (4, .iload_n 1), (5, .aload_n 0), (6, .arraylength), (7, .if_icmp .ge (9)), (10, .aload_n 0), (11, .iload_n 1), (12, .iaload), (13, .goto 4), (16, .iconst (-1)), (17, .ireturn)]
def kd102 : List (Nat × Instr) := [(0, .iload_n 0), (1, .iconst 2), (2, .if_icmp .ge (5)), (5, .iconst 1), (6, .ireturn), (7, .iload_n 0), (8, .bipush 7), (10, .if_icmp .ge (7)), (13, .iconst 2), (14, .goto 4), (17, .iconst 0), (18, .ireturn)]
def kd103 : List (Nat × Instr) := [(0, .aload_n 0), (1, .getfield 52), (4, .iconst 0), (5, .putfield 140), (8, .aload_n 0), (9, .iload_n 1), (10, .invokevirtual 120), (13, .astore 5), (15, .aload 5), (17, .ifnull 18), (20, .iload_n 3), (21, .invokestatic 143), (24, .ifCond .eq (11)), (27, .iload 4), (29, .invokestatic 106), (32, .ifCond .ne (5)), (35, .iconst 0), (36, .ireturn), (37, .aload 5), (39, .iload_n 2), (40, .invokevirtual 133), (43, .astore 6), (45, .aload 6), (47, .ifnonnull 7), (50, .iconst 0), (51, .goto 17), (54, .aload_n 0), (55, .getfield 52), (58, .aload 5), (60, .aload 6), (62, .iload_n 3), (63, .iload 4), (65, .invokevirtual 149), (68, .ireturn)]
def kd104 : List (Nat × Instr) := [(0, .iload_n 1), (1, .ifCond .lt (27)), (4, .iload_n 1), (5, .bipush 31), (7, .if_icmp .ge (21)), (10, .iload_n 2), (11, .invokestatic 143), (14, .ifCond .eq (14)), (17, .iload_n 3), (18, .invokestatic 106), (21, .ifCond .eq (7)), (24, .iconst 1), (25, .goto 4), (28, .iconst 0), (29, .istore 4), (31, .iload 4), (33, .ifCond .eq (16)), (36, .aload_n 0), (37, .getfield 52), (40, .iload_n 1), (41, .iload_n 2), (42, .iload_n 3), (43, .invokevirtual 153), (46, .goto 4), (49, .iconst (-1)), (50, .ireturn)]
def kd105 : List (Nat × Instr) := [(0, .aload_n 0), (1, .getfield 52), (4, .getfield 140), (7, .ireturn)]
def kd106 : List (Nat × Instr) := [(0, .aload_n 0), (1, .iload_n 1), (2, .invokevirtual 120), (5, .astore 4), (7, .aload 4), (9, .ifnonnull 7), (12, .iconst (-1)), (13, .goto 10), (16, .aload 4), (18, .iload_n 2), (19, .iload_n 3), (20, .invokestatic 157), (23, .ireturn)]
def kd107 : List (Nat × Instr) := [(0, .aload_n 0), (1, .iload_n 1), (2, .invokevirtual 120), (5, .astore_n 3), (6, .aload_n 3), (7, .ifnull 13), (10, .iload_n 2), (11, .ifCond .lt (9)), (14, .iload_n 2), (15, .bipush 9), (17, .if_icmp .lt (5)), (20, .iconst (-1)), (21, .ireturn), (22, .aload_n 3), (23, .getfield 163), (26, .ifnonnull 11), (29, .aload_n 3), (30, .aload_n 3), (31, .invokestatic 167), (34, .putfield 163), (37, .aload_n 3), (38, .getfield 163), (41, .iload_n 2), (42, .invokestatic 170), (45, .ireturn)]
def kd108 : List (Nat × Instr) := [(0, .aload_n 0), (1, .iload_n 1), (2, .invokevirtual 120), (5, .astore_n 3), (6, .aload_n 0), (7, .iload_n 2), (8, .invokevirtual 120), (11, .astore 4), (13, .aload_n 3), (14, .ifnull 8), (17, .aload 4), (19, .ifnonnull 7), (22, .iconst (-1)), (23, .goto 9), (26, .aload_n 3), (27, .aload 4), (29, .invokevirtual 174), (32, .ireturn)]
def kd109 : List (Nat × Instr) := [(0, .iload_n 2), (1, .iconst (-1)), (2, .if_icmp .ne (8)), (5, .iload_n 3), (6, .iconst (-1)), (7, .if_icmp .eq (14)), (10, .aload_n 0), (11, .getfield 59), (14, .iload_n 1), (15, .iload_n 2), (16, .iload_n 3), (17, .invokevirtual 177), (20, .ireturn), (21, .aload_n 0), (22, .iload 4), (24, .invokevirtual 120), (27, .ifnonnull 7), (30, .iconst (-1)), (31, .goto 13), (34, .aload_n 0), (35, .getfield 59), (38, .iload_n 1), (39, .iload 4), (41, .invokevirtual 181), (44, .ireturn)]
def kd110 : List (Nat × Instr) := [(0, .aload_n 0), (1, .getfield 59), (4, .iload_n 1), (5, .iload_n 2), (6, .invokevirtual 185), (9, .ireturn)]
def kd111 : List (Nat × Instr) := [(0, .aload_n 0), (1, .getfield 59), (4, .iload_n 1), (5, .iload_n 2), (6, .invokevirtual 189), (9, .ireturn)]
def kd112 : List (Nat × Instr) := [(0, .iload_n 1), (1, .tableswitch (45) (0) (2) #[27, 32, 40]), (28, .aload_n 0), (29, .getfield 192), (32, .ireturn), (33, .aload_n 0), (34, .getfield 59), (37, .getfield 195), (40, .ireturn), (41, .aload_n 0), (42, .getfield 87), (45, .ireturn), (46, .iload_n 1), (47, .iconst 3), (48, .if_icmp .lt (22)), (51, .iload_n 1), (52, .bipush 7), (54, .if_icmp .ge (16)), (57, .aload_n 0), (58, .getfield 52), (61, .iload_n 1), (62, .iconst 3), (63, .isub), (64, .invokevirtual 116), (67, .goto 4), (70, .iconst (-1)), (71, .ireturn)]
def kd113 : List (Nat × Instr) := [(0, .aload_n 0), (1, .invokespecial 1), (4, .aload_n 0), (5, .sipush 240), (8, .newarray .byte), (10, .putfield 7), (13, .aload_n 0), (14, .sipush 241), (17, .newarray .byte), (19, .putfield 13), (22, .aload_n 0), (23, .bipush 61), (25, .newarray .int), (27, .putfield 16), (30, .aload_n 0), (31, .bipush 61), (33, .newarray .int), (35, .putfield 20), (38, .aload_n 0), (39, .bipush 61), (41, .newarray .int), (43, .putfield 23), (46, .aload_n 0), (47, .sipush 3843), (50, .newarray .int), (52, .putfield 26), (55, .aload_n 0), (56, .sipush 700), (59, .newarray .byte), (61, .putfield 29), (64, .aload_n 0), (65, .bipush 6), (67, .newarray .int), (69, .putfield 32), (72, .aload_n 0), (73, .bipush 6), (75, .newarray .int), (77, .putfield 35), (80, .aload_n 0), (81, .bipush 72), (83, .newarray .int), (85, .putfield 38), (88, .aload_n 0), (89, .bipush 72), (91, .newarray .int), (93, .putfield 41), (96, .aload_n 0), (97, .bipush 72), (99, .newarray .int), (101, .putfield 44), (104, .aload_n 0), (105, .bipush 72), (107, .newarray .int), (109, .putfield 47), (112, .aload_n 0), (113, .sipush 1440), (116, .newarray .int), (118, .putfield 50), (121, .aload_n 0), (122, .sipush 1440), (125, .newarray .int), (127, .putfield 53), (130, .aload_n 0), (131, .sipush 250), (134, .newarray .int), (136, .putfield 56), (139, .aload_n 0), (140, .sipush 2200), (143, .newarray .int), (145, .putfield 59), (148, .aload_n 0), (149, .bipush 12), (151, .newarray .int), (153, .putfield 62), (156, .aload_n 0), (157, .bipush 12), (159, .newarray .int), (161, .putfield 65), (164, .aload_n 0), (165, .bipush 12), (167, .newarray .int), (169, .putfield 68), (172, .aload_n 0), (173, .bipush 12), (175, .newarray .int), (177, .putfield 71), (180, .aload_n 0), (181, .bipush 100), (183, .newarray .boolean), (185, .putfield 74), (188, .aload_n 0), (189, .bipush 100), (191, .newarray .int), (193, .putfield 78), (196, .aload_n 0), (197, .bipush 100), (199, .newarray .int), (201, .putfield 81), (204, .aload_n 0), (205, .bipush 100), (207, .newarray .int), (209, .putfield 84), (212, .aload_n 0), (213, .bipush 100), (215, .newarray .int), (217, .putfield 87), (220, .aload_n 0), (221, .sipush 3200), (224, .newarray .int), (226, .putfield 90), (229, .aload_n 0), (230, .bipush 100), (232, .newarray .int), (234, .putfield 93), (237, .aload_n 0), (238, .invokevirtual 96), (241, .return_)]
def kd114 : List (Nat × Instr) := [(0, .aload_n 0), (1, .iconst 4), (2, .iconst 0), (3, .iconst 0), (4, .invokevirtual 445), (7, .aload_n 0), (8, .iconst 4), (9, .iconst 2), (10, .iconst 0), (11, .invokevirtual 448), (14, .aload_n 0), (15, .iconst 4), (16, .iconst 2), (17, .iconst 0), (18, .invokevirtual 448), (21, .aload_n 0), (22, .iconst 4), (23, .iconst 3), (24, .iconst 0), (25, .invokevirtual 448), (28, .aload_n 0), (29, .iconst 4), (30, .bipush 61), (32, .iconst 0), (33, .invokevirtual 448), (36, .aload_n 0), (37, .iconst 4), (38, .bipush 42), (40, .iconst 0), (41, .invokevirtual 448), (44, .aload_n 0), (45, .iconst 4), (46, .invokevirtual 451), (49, .aload_n 0), (50, .iconst 4), (51, .iconst 1), (52, .iconst 2), (53, .invokevirtual 445), (56, .aload_n 0), (57, .iconst 4), (58, .iconst 5), (59, .iconst 0), (60, .invokevirtual 448), (63, .aload_n 0), (64, .iconst 4), (65, .iconst 1), (66, .iconst 3), (67, .invokevirtual 448), (70, .aload_n 0), (71, .iconst 4), (72, .bipush 62), (74, .iconst 0), (75, .invokevirtual 448), (78, .aload_n 0), (79, .iconst 4), (80, .invokevirtual 451), (83, .aload_n 0), (84, .iconst 4), (85, .iconst 2), (86, .iconst 0), (87, .invokevirtual 445), (90, .aload_n 0), (91, .iconst 4), (92, .iconst 1), (93, .iconst 0), (94, .invokevirtual 448), (97, .aload_n 0), (98, .iconst 4), (99, .invokevirtual 451), (102, .aload_n 0), (103, .iconst 4), (104, .iconst 2), (105, .bipush 15), (107, .invokevirtual 445), (110, .aload_n 0), (111, .iconst 4), (112, .iconst 3), (113, .iconst 0), (114, .invokevirtual 448), (117, .aload_n 0), (118, .iconst 4), (119, .iconst 1), (120, .iconst 1), (121, .invokevirtual 448), (124, .aload_n 0), (125, .iconst 4), (126, .bipush 60), (128, .iconst 0), (129, .invokevirtual 448), (132, .aload_n 0), (133, .iconst 4), (134, .invokevirtual 451), (137, .aload_n 0), (138, .iconst 4), (139, .iconst 3), (140, .iconst 0), (141, .invokevirtual 445), (144, .aload_n 0), (145, .iconst 4), (146, .iconst 1), (147, .iconst 1), (148, .invokevirtual 448), (151, .aload_n 0), (152, .iconst 4), (153, .invokevirtual 451), (156, .aload_n 0), (157, .iconst 4), (158, .iconst 3), (159, .iconst 1), (160, .invokevirtual 445), (163, .aload_n 0), (164, .iconst 4), (165, .bipush 10), (167, .iconst 0), (168, .invokevirtual 448), (171, .aload_n 0), (172, .iconst 4), (173, .iconst 1), (174, .iconst 1), (175, .invokevirtual 448), (178, .aload_n 0), (179, .iconst 4), (180, .bipush 43), (182, .iconst 0), (183, .invokevirtual 448), (186, .aload_n 0), (187, .iconst 4), (188, .invokevirtual 451), (191, .return_)]
def kd115 : List (Nat × Instr) := [(0, .bipush 12), (2, .iload_n 1), (3, .imul), (4, .aload_n 0), (5, .getfield 32), (8, .iload_n 1), (9, .iaload), (10, .iadd), (11, .istore 4), (13, .aload_n 0), (14, .getfield 38), (17, .iload 4), (19, .iload_n 2), (20, .iastore), (21, .aload_n 0), (22, .getfield 41), (25, .iload 4), (27, .iload_n 3), (28, .iastore), (29, .aload_n 0), (30, .getfield 44), (33, .iload 4), (35, .aload_n 0), (36, .getfield 35), (39, .iload_n 1), (40, .iaload), (41, .iastore), (42, .aload_n 0), (43, .getfield 47), (46, .iload 4), (48, .aload_n 0), (49, .getfield 35), (52, .iload_n 1), (53, .iaload), (54, .iastore), (55, .aload_n 0), (56, .getfield 32), (59, .iload_n 1), (60, .aload_n 0), (61, .getfield 32), (64, .iload_n 1), (65, .iaload), (66, .iconst 1), (67, .iadd), (68, .iastore), (69, .return_)]
def kd116 : List (Nat × Instr) := [(0, .aload_n 0), (1, .getfield 50), (4, .sipush 240), (7, .iload_n 1), (8, .imul), (9, .aload_n 0), (10, .getfield 35), (13, .iload_n 1), (14, .iaload), (15, .iadd), (16, .iload_n 2), (17, .iastore), (18, .aload_n 0), (19, .getfield 53), (22, .sipush 240), (25, .iload_n 1), (26, .imul), (27, .aload_n 0), (28, .getfield 35), (31, .iload_n 1), (32, .iaload), (33, .iadd), (34, .iload_n 3), (35, .iastore), (36, .aload_n 0), (37, .getfield 35), (40, .iload_n 1), (41, .aload_n 0), (42, .getfield 35), (45, .iload_n 1), (46, .iaload), (47, .iconst 1), (48, .iadd), (49, .iastore), (50, .return_)]
def kd117 : List (Nat × Instr) := [(0, .aload_n 0), (1, .getfield 47), (4, .bipush 12), (6, .iload_n 1), (7, .imul), (8, .aload_n 0), (9, .getfield 32), (12, .iload_n 1), (13, .iaload), (14, .iadd), (15, .iconst 1), (16, .isub), (17, .aload_n 0), (18, .getfield 35), (21, .iload_n 1), (22, .iaload), (23, .iastore), (24, .return_)]
def kd118 : List (Nat × Instr) := [(0, .aload_n 0), (1, .getfield 99), (4, .bipush 20), (6, .iadd), (7, .sipush 240), (10, .if_icmp .le (5)), (13, .iconst (-1)), (14, .ireturn), (15, .aload_n 0), (16, .iload_n 1), (17, .invokevirtual 103), (20, .aload_n 0), (21, .iload_n 2), (22, .invokevirtual 103), (25, .aload_n 0), (26, .iload_n 3), (27, .invokevirtual 103), (30, .aload_n 0), (31, .iload 4), (33, .invokevirtual 103), (36, .aload_n 0), (37, .iload 5), (39, .invokevirtual 103), (42, .aload_n 0), (43, .getfield 99), (46, .ireturn)]
def kd119 : List (Nat × Instr) := [(0, .iconst 3), (1, .istore_n 2), (2, .iload_n 2), (3, .ifCond .lt (35)), (6, .aload_n 0), (7, .getfield 7), (10, .aload_n 0), (11, .getfield 99), (14, .iload_n 1), (15, .bipush 8), (17, .iload_n 2), (18, .imul), (19, .ishr), (20, .i2b), (21, .bastore), (22, .aload_n 0), (23, .aload_n 0), (24, .getfield 99), (27, .iconst 1), (28, .iadd), (29, .putfield 99), (32, .iinc 2 (-1)), (35, .goto (-33)), (38, .return_)]
def kd120 : List (Nat × Instr) := [(0, .aload_n 0), (1, .iload_n 1), (2, .invokevirtual 393), (5, .ifCond .ne (5)), (8, .iconst (-1)), (9, .ireturn), (10, .aload_n 0), (11, .invokevirtual 396), (14, .ifCond .ne (11)), (17, .bipush (-2)), (19, .aload_n 0), (20, .getfield 117), (23, .isub), (24, .ireturn), (25, .iconst 0), (26, .istore_n 2), (27, .iload_n 2), (28, .aload_n 0), (29, .getfield 297), (32, .if_icmp .ge (23)), (35, .aload_n 0), (36, .iload_n 2), (37, .aload_n 0), (38, .getfield 297), (41, .invokevirtual 399), (44, .ifCond .eq (5)), (47, .iload_n 2), (48, .ireturn), (49, .iinc 2 1), (52, .goto (-25)), (55, .aload_n 0), (56, .getfield 297), (59, .bipush 60), (61, .if_icmp .ne (5)), (64, .iconst (-1)), (65, .ireturn), (66, .aload_n 0), (67, .aload_n 0), (68, .getfield 297), (71, .iconst 1), (72, .iadd), (73, .putfield 297), (76, .aload_n 0), (77, .getfield 297), (80, .iconst 1), (81, .isub), (82, .ireturn)]
def kd121 : List (Nat × Instr) := [(0, .iload_n 1), (1, .ifCond .lt (11)), (4, .iload_n 1), (5, .aload_n 0), (6, .getfield 99), (9, .if_icmp .le (5)), (12, .iconst 0), (13, .ireturn), (14, .iconst 0), (15, .istore_n 2), (16, .iload_n 2), (17, .iload_n 1), (18, .if_icmp .ge (21)), (21, .aload_n 0), (22, .getfield 13), (25, .iload_n 2), (26, .aload_n 0), (27, .getfield 7), (30, .iload_n 2), (31, .baload), (32, .bastore), (33, .iinc 2 1), (36, .goto (-20)), (39, .aload_n 0), (40, .iload_n 1), (41, .putfield 107), (44, .aload_n 0), (45, .iconst 0), (46, .putfield 99), (49, .aload_n 0), (50, .iconst 0), (51, .putfield 110), (54, .iconst 1), (55, .ireturn)]
def kd122 : List (Nat × Instr) := [(0, .aload_n 0), (1, .aload_n 0), (2, .getfield 297), (5, .invokevirtual 377), (8, .aload_n 0), (9, .invokevirtual 304), (12, .aload_n 0), (13, .invokevirtual 380), (16, .ifCond .ne (5)), (19, .iconst 0), (20, .ireturn), (21, .iconst 0), (22, .istore_n 1), (23, .aload_n 0), (24, .getfield 130), (27, .bipush 44), (29, .if_icmp .ne (28)), (32, .iload_n 1), (33, .bipush 6), (35, .if_icmp .ne (5)), (38, .iconst 0), (39, .ireturn), (40, .aload_n 0), (41, .invokevirtual 304), (44, .aload_n 0), (45, .iload_n 1), (46, .invokevirtual 384), (49, .istore_n 1), (50, .iload_n 1), (51, .iconst (-1)), (52, .if_icmp .ne (-29)), (55, .iconst 0), (56, .ireturn), (57, .aload_n 0), (58, .getfield 130), (61, .ifCond .ne (7)), (64, .iconst 1), (65, .goto 4), (68, .iconst 0), (69, .ireturn)]
def kd123 : List (Nat × Instr) := [(0, .iconst 0), (1, .istore_n 2), (2, .iload_n 2), (3, .bipush 7), (5, .if_icmp .ge (51)), (8, .iload_n 1), (9, .iload_n 2), (10, .invokestatic 293), (13, .istore_n 3), (14, .iconst 0), (15, .istore 4), (17, .iload 4), (19, .bipush 9), (21, .if_icmp .ge (29)), (24, .aload_n 0), (25, .getfield 26), (28, .iload_n 3), (29, .iload 4), (31, .iadd), (32, .iload 4), (34, .iconst 4), (35, .if_icmp .ge (7)), (38, .iconst 0), (39, .goto 4), (42, .iconst (-1)), (43, .iastore), (44, .iinc 4 1), (47, .goto (-30)), (50, .iinc 2 1), (53, .goto (-51)), (56, .return_)]
def kd124 : List (Nat × Instr) := [(0, .iload_n 0), (1, .bipush 7), (3, .imul), (4, .iload_n 1), (5, .iadd), (6, .bipush 9), (8, .imul), (9, .ireturn)]
def kd125 : List (Nat × Instr) := [(0, .aload_n 0), (1, .getfield 110), (4, .istore_n 1), (5, .aload_n 0), (6, .iload_n 1), (7, .invokevirtual 113), (10, .bipush 32), (12, .if_icmp .ne (18)), (15, .iload_n 1), (16, .aload_n 0), (17, .getfield 107), (20, .if_icmp .ge (10)), (23, .iload_n 1), (24, .iconst 1), (25, .iadd), (26, .istore_n 1), (27, .goto (-22)), (30, .aload_n 0), (31, .iload_n 1), (32, .putfield 117), (35, .aload_n 0), (36, .lconst 0), (37, .putfield 120), (40, .aload_n 0), (41, .lconst 0), (42, .putfield 124), (45, .aload_n 0), (46, .iconst 0), (47, .putfield 127), (50, .aload_n 0), (51, .iload_n 1), (52, .invokevirtual 113), (55, .istore_n 2), (56, .iload_n 1), (57, .aload_n 0), (58, .getfield 107), (61, .if_icmp .lt (14)), (64, .aload_n 0), (65, .iconst 0), (66, .putfield 130), (69, .aload_n 0), (70, .iload_n 1), (71, .putfield 110), (74, .return_), (75, .iconst 0), (76, .istore_n 3), (77, .iload_n 2), (78, .invokestatic 133), (81, .ifCond .eq (92)), (84, .aload_n 0), (85, .iload_n 1), (86, .iload_n 3), (87, .iadd), (88, .invokevirtual 113), (91, .invokestatic 133), (94, .ifCond .eq (59)), (97, .iload_n 3), (98, .bipush 8), (100, .if_icmp .ge (26)), (103, .aload_n 0), (104, .aload_n 0), (105, .getfield 120), (108, .bipush 8), (110, .lshl), (111, .aload_n 0), (112, .iload_n 1), (113, .iload_n 3), (114, .iadd), (115, .invokevirtual 113), (118, .i2l), (119, .lor), (120, .putfield 120), (123, .goto 23), (126, .aload_n 0), (127, .aload_n 0), (128, .getfield 124), (131, .bipush 8), (133, .lshl), (134, .aload_n 0), (135, .iload_n 1), (136, .iload_n 3), (137, .iadd), (138, .invokevirtual 113), (141, .i2l), (142, .lor), (143, .putfield 124), (146, .iload_n 3), (147, .iconst 1), (148, .iadd), (149, .istore_n 3), (150, .goto (-66)), (153, .aload_n 0), (154, .iload_n 3), (155, .bipush 12), (157, .if_icmp .le (8)), (160, .bipush 63), (162, .goto 5), (165, .bipush 119), (167, .putfield 130), (170, .goto 178), (173, .iload_n 2), (174, .invokestatic 137), (177, .ifCond .eq (81)), (180, .aload_n 0), (181, .iload_n 1), (182, .iload_n 3), (183, .iadd), (184, .invokevirtual 113), (187, .invokestatic 137), (190, .ifCond .eq (44)), (193, .aload_n 0), (194, .iload_n 3), (195, .iconst 4), (196, .if_icmp .ge (24)), (199, .bipush 10), (201, .aload_n 0), (202, .getfield 127), (205, .imul), (206, .aload_n 0), (207, .iload_n 1), (208, .iload_n 3), (209, .iadd), (210, .invokevirtual 113), (213, .iadd), (214, .bipush 48), (216, .isub), (217, .goto 7), (220, .aload_n 0), (221, .getfield 127), (224, .putfield 127), (227, .iload_n 3), (228, .iconst 1), (229, .iadd), (230, .istore_n 3), (231, .goto (-51)), (234, .aload_n 0), (235, .iload_n 3), (236, .iconst 4), (237, .if_icmp .le (8)), (240, .bipush 63), (242, .goto 5), (245, .bipush 100), (247, .putfield 130), (250, .aload_n 0), (251, .iload_n 3), (252, .putfield 140), (255, .goto 93), (258, .iconst 1), (259, .istore_n 3), (260, .iload_n 2), (261, .bipush 44), (263, .if_icmp .eq (63)), (266, .iload_n 2), (267, .bipush 43), (269, .if_icmp .eq (57)), (272, .iload_n 2), (273, .bipush 45), (275, .if_icmp .eq (51)), (278, .iload_n 2), (279, .bipush 42), (281, .if_icmp .eq (45)), (284, .iload_n 2), (285, .bipush 61), (287, .if_icmp .eq (39)), (290, .iload_n 2), (291, .bipush 60), (293, .if_icmp .eq (33)), (296, .iload_n 2), (297, .bipush 62), (299, .if_icmp .eq (27)), (302, .iload_n 2), (303, .bipush 40), (305, .if_icmp .eq (21)), (308, .iload_n 2), (309, .bipush 41), (311, .if_icmp .eq (15)), (314, .iload_n 2), (315, .bipush 58), (317, .if_icmp .eq (9)), (320, .iload_n 2), (321, .bipush 59), (323, .if_icmp .ne (7)), (326, .iconst 1), (327, .goto 4), (330, .iconst 0), (331, .istore 4), (333, .aload_n 0), (334, .iload 4), (336, .ifCond .eq (7)), (339, .iload_n 2), (340, .goto 5), (343, .bipush 63), (345, .putfield 130), (348, .aload_n 0), (349, .iload_n 1), (350, .iload_n 3), (351, .iadd), (352, .putfield 110), (355, .return_)]
def kd126 : List (Nat × Instr) := [(0, .iload_n 1), (1, .aload_n 0), (2, .getfield 107), (5, .if_icmp .ge (16)), (8, .aload_n 0), (9, .getfield 13), (12, .iload_n 1), (13, .baload), (14, .sipush 255), (17, .iand), (18, .goto 4), (21, .iconst 0), (22, .ireturn)]
def kd127 : List (Nat × Instr) := [(0, .iload_n 0), (1, .bipush 97), (3, .if_icmp .lt (13)), (6, .iload_n 0), (7, .bipush 122), (9, .if_icmp .gt (7)), (12, .iconst 1), (13, .goto 4), (16, .iconst 0), (17, .ireturn)]
def kd128 : List (Nat × Instr) := [(0, .iload_n 0), (1, .bipush 48), (3, .if_icmp .lt (13)), (6, .iload_n 0), (7, .bipush 57), (9, .if_icmp .gt (7)), (12, .iconst 1), (13, .goto 4), (16, .iconst 0), (17, .ireturn)]
def kd129 : List (Nat × Instr) := [(0, .aload_n 0), (1, .getfield 297), (4, .istore_n 1), (5, .aload_n 0), (6, .getfield 16), (9, .iload_n 1), (10, .iconst 0), (11, .iastore), (12, .aload_n 0), (13, .getfield 23), (16, .iload_n 1), (17, .iconst (-1)), (18, .iastore), (19, .aload_n 0), (20, .getfield 20), (23, .iload_n 1), (24, .aload_n 0), (25, .invokevirtual 307), (28, .iastore), (29, .aload_n 0), (30, .getfield 20), (33, .iload_n 1), (34, .iaload), (35, .iconst (-1)), (36, .if_icmp .eq (5)), (39, .iconst 1), (40, .ireturn), (41, .aload_n 0), (42, .ldc2_w 310), (45, .invokevirtual 312), (48, .istore_n 2), (49, .iload_n 2), (50, .ifCond .eq (7)), (53, .iconst 1), (54, .goto 5), (57, .bipush 6), (59, .istore_n 3), (60, .iload_n 3), (61, .iload_n 2), (62, .ifCond .eq (7)), (65, .iconst 5), (66, .goto 5), (69, .bipush 10), (71, .if_icmp .gt (37)), (74, .aload_n 0), (75, .getfield 16), (78, .iload_n 1), (79, .iaload), (80, .ifCond .ne (28)), (83, .aload_n 0), (84, .getfield 16), (87, .iload_n 1), (88, .aload_n 0), (89, .iload_n 3), (90, .invokevirtual 315), (93, .ifCond .eq (7)), (96, .iload_n 3), (97, .goto 4), (100, .iconst 0), (101, .iastore), (102, .iinc 3 1), (105, .goto (-45)), (108, .aload_n 0), (109, .getfield 16), (112, .iload_n 1), (113, .iaload), (114, .ifCond .ne (5)), (117, .iconst 0), (118, .ireturn), (119, .aload_n 0), (120, .invokevirtual 304), (123, .aload_n 0), (124, .getfield 20), (127, .iload_n 1), (128, .aload_n 0), (129, .invokevirtual 307), (132, .iastore), (133, .aload_n 0), (134, .getfield 20), (137, .iload_n 1), (138, .iaload), (139, .iconst (-1)), (140, .if_icmp .eq (13)), (143, .aload_n 0), (144, .ldc2_w 318), (147, .invokevirtual 312), (150, .ifCond .ne (5)), (153, .iconst 0), (154, .ireturn), (155, .aload_n 0), (156, .invokevirtual 300), (159, .istore_n 3), (160, .iload_n 3), (161, .iconst (-1)), (162, .if_icmp .eq (13)), (165, .iload_n 3), (166, .aload_n 0), (167, .getfield 20), (170, .iload_n 1), (171, .iaload), (172, .if_icmp .ne (5)), (175, .iconst 0), (176, .ireturn), (177, .aload_n 0), (178, .getfield 23), (181, .iload_n 1), (182, .iload_n 3), (183, .iastore), (184, .aload_n 0), (185, .invokevirtual 304), (188, .iconst 1), (189, .ireturn)]
def kd130 : List (Nat × Instr) := [(0, .aload_n 0), (1, .invokevirtual 300), (4, .istore_n 1), (5, .iload_n 1), (6, .iconst (-1)), (7, .if_icmp .eq (7)), (10, .aload_n 0), (11, .invokevirtual 304), (14, .iload_n 1), (15, .ireturn)]
def kd131 : List (Nat × Instr) := [(0, .iconst 0), (1, .istore_n 1), (2, .iload_n 1), (3, .bipush 9), (5, .if_icmp .ge (22)), (8, .aload_n 0), (9, .iload_n 1), (10, .invokestatic 226), (13, .invokevirtual 230), (16, .ifCond .eq (5)), (19, .iload_n 1), (20, .ireturn), (21, .iinc 1 1), (24, .goto (-22)), (27, .iconst (-1)), (28, .ireturn)]
def kd132 : List (Nat × Instr) := [(0, .iload_n 0), (1, .tableswitch (79) (0) (7) #[47, 51, 55, 59, 63, 67, 71, 75]), (48, .ldc2_w 143), (51, .lreturn), (52, .ldc2_w 145), (55, .lreturn), (56, .ldc2_w 147), (59, .lreturn), (60, .ldc2_w 149), (63, .lreturn), (64, .ldc2_w 151), (67, .lreturn), (68, .ldc2_w 153), (71, .lreturn), (72, .ldc2_w 155), (75, .lreturn), (76, .ldc2_w 157), (79, .lreturn), (80, .ldc2_w 159), (83, .lreturn)]
def kd133 : List (Nat × Instr) := [(0, .aload_n 0), (1, .getfield 130), (4, .bipush 119), (6, .if_icmp .ne (25)), (9, .aload_n 0), (10, .getfield 124), (13, .lconst 0), (14, .lcmp), (15, .ifCond .ne (16)), (18, .aload_n 0), (19, .getfield 120), (22, .lload_n 1), (23, .lcmp), (24, .ifCond .ne (7)), (27, .iconst 1), (28, .goto 4), (31, .iconst 0), (32, .ireturn)]
def kd134 : List (Nat × Instr) := [(0, .aload_n 0), (1, .lload_n 1), (2, .invokevirtual 230), (5, .ifCond .ne (5)), (8, .iconst 0), (9, .ireturn), (10, .aload_n 0), (11, .invokevirtual 304), (14, .iconst 1), (15, .ireturn)]
def kd135 : List (Nat × Instr) := [(0, .iload_n 1), (1, .bipush 6), (3, .if_icmp .ne (44)), (6, .aload_n 0), (7, .getfield 130), (10, .bipush 119), (12, .if_icmp .ne (31)), (15, .aload_n 0), (16, .getfield 120), (19, .bipush 6), (21, .invokestatic 288), (24, .lcmp), (25, .ifCond .ne (18)), (28, .aload_n 0), (29, .getfield 124), (32, .ldc2_w 291), (35, .lcmp), (36, .ifCond .ne (7)), (39, .iconst 1), (40, .goto 15), (43, .iconst 0), (44, .goto 11), (47, .aload_n 0), (48, .iload_n 1), (49, .invokestatic 288), (52, .invokevirtual 230), (55, .ireturn)]
def kd136 : List (Nat × Instr) := [(0, .iload_n 0), (1, .tableswitch (87) (1) (9) #[51, 55, 59, 63, 67, 71, 75, 79, 83]), (52, .ldc2_w 177), (55, .lreturn), (56, .ldc2_w 179), (59, .lreturn), (60, .ldc2_w 181), (63, .lreturn), (64, .ldc2_w 183), (67, .lreturn), (68, .ldc2_w 187), (71, .lreturn), (72, .ldc2_w 278), (75, .lreturn), (76, .ldc2_w 280), (79, .lreturn), (80, .ldc2_w 282), (83, .lreturn), (84, .ldc2_w 284), (87, .lreturn), (88, .ldc2_w 286), (91, .lreturn)]
def kd137 : List (Nat × Instr) := [(0, .aload_n 0), (1, .ldc2_w 353), (4, .invokevirtual 230), (7, .ifCond .eq (58)), (10, .iload_n 1), (11, .iconst 5), (12, .if_icmp .ge (53)), (15, .aload_n 0), (16, .invokevirtual 304), (19, .aload_n 0), (20, .ldc2_w 241), (23, .invokevirtual 312), (26, .ifCond .eq (13)), (29, .aload_n 0), (30, .ldc2_w 191), (33, .invokevirtual 312), (36, .ifCond .ne (5)), (39, .iconst (-1)), (40, .ireturn), (41, .aload_n 0), (42, .invokevirtual 307), (45, .istore_n 2), (46, .aload_n 0), (47, .iconst 5), (48, .bipush 15), (50, .iload_n 2), (51, .invokevirtual 355), (54, .iload_n 2), (55, .iconst (-1)), (56, .if_icmp .ne (7)), (59, .iconst (-1)), (60, .goto 4), (63, .iconst 5), (64, .ireturn), (65, .aload_n 0), (66, .ldc2_w 359), (69, .invokevirtual 230), (72, .ifCond .eq (14)), (75, .iload_n 1), (76, .bipush 6), (78, .if_icmp .ge (8)), (81, .aload_n 0), (82, .invokevirtual 361), (85, .ireturn), (86, .aload_n 0), (87, .invokevirtual 343), (90, .istore_n 2), (91, .iload_n 2), (92, .ifCond .eq (18)), (95, .iload_n 1), (96, .iconst 4), (97, .if_icmp .ge (13)), (100, .iload_n 1), (101, .iconst 3), (102, .if_icmp .lt (10)), (105, .iload_n 2), (106, .iconst 1), (107, .if_icmp .le (5)), (110, .iconst (-1)), (111, .ireturn), (112, .aload_n 0), (113, .invokevirtual 304), (116, .iload_n 2), (117, .iconst 1), (118, .if_icmp .ne (10)), (121, .aload_n 0), (122, .invokevirtual 364), (125, .goto 4), (128, .iconst (-1)), (129, .istore_n 3), (130, .iload_n 2), (131, .iconst 1), (132, .if_icmp .ne (58)), (135, .iload_n 3), (136, .bipush 8), (138, .if_icmp .lt (52)), (141, .iload_n 3), (142, .bipush 14), (144, .if_icmp .gt (46)), (147, .iload_n 1), (148, .iconst 1), (149, .if_icmp .ge (41)), (152, .aload_n 0), (153, .invokevirtual 304), (156, .aload_n 0), (157, .invokevirtual 307), (160, .istore 4), (162, .aload_n 0), (163, .iconst 0), (164, .iload_n 3), (165, .iload 4), (167, .invokevirtual 355), (170, .iload 4), (172, .iconst (-1)), (173, .if_icmp .eq (15)), (176, .aload_n 0), (177, .iconst 1), (178, .invokevirtual 367), (181, .ifCond .eq (7)), (184, .iconst 1), (185, .goto 4), (188, .iconst (-1)), (189, .ireturn), (190, .iload_n 2), (191, .iconst 1), (192, .if_icmp .ne (48)), (195, .iload_n 3), (196, .bipush 7), (198, .if_icmp .ne (42)), (201, .aload_n 0), (202, .invokevirtual 304), (205, .aload_n 0), (206, .invokevirtual 307), (209, .istore 4), (211, .aload_n 0), (212, .iconst 3), (213, .bipush 7), (215, .iload 4), (217, .invokevirtual 355), (220, .iload 4), (222, .iconst (-1)), (223, .if_icmp .eq (15)), (226, .aload_n 0), (227, .iconst 4), (228, .invokevirtual 367), (231, .ifCond .eq (7)), (234, .iconst 4), (235, .goto 4), (238, .iconst (-1)), (239, .ireturn), (240, .aload_n 0), (241, .iload_n 2), (242, .invokevirtual 346), (245, .istore 4), (247, .iload 4), (249, .iconst (-1)), (250, .if_icmp .eq (23)), (253, .iload_n 1), (254, .iconst 3), (255, .if_icmp .ge (18)), (258, .aload_n 0), (259, .iconst 2), (260, .iload_n 2), (261, .iload 4), (263, .invokevirtual 349), (266, .ifCond .eq (7)), (269, .iconst 3), (270, .goto 4), (273, .iconst (-1)), (274, .ireturn)]
def kd138 : List (Nat × Instr) := [(0, .aload_n 0), (1, .getfield 297), (4, .iload_n 1), (5, .invokestatic 293), (8, .istore 4), (10, .aload_n 0), (11, .getfield 26), (14, .iload 4), (16, .iload_n 2), (17, .iastore), (18, .aload_n 0), (19, .getfield 26), (22, .iload 4), (24, .iconst 1), (25, .iadd), (26, .iload_n 3), (27, .iastore), (28, .aload_n 0), (29, .getfield 26), (32, .iload 4), (34, .iconst 2), (35, .iadd), (36, .iconst 1), (37, .iastore), (38, .return_)]
def kd139 : List (Nat × Instr) := [(0, .aload_n 0), (1, .invokevirtual 304), (4, .aload_n 0), (5, .getfield 130), (8, .bipush 119), (10, .if_icmp .ne (25)), (13, .aload_n 0), (14, .getfield 120), (17, .ldc2_w 370), (20, .lcmp), (21, .ifCond .ne (14)), (24, .aload_n 0), (25, .getfield 124), (28, .ldc2_w 372), (31, .lcmp), (32, .ifCond .eq (5)), (35, .iconst (-1)), (36, .ireturn), (37, .aload_n 0), (38, .invokevirtual 304), (41, .aload_n 0), (42, .ldc2_w 241), (45, .invokevirtual 312), (48, .ifCond .ne (5)), (51, .iconst (-1)), (52, .ireturn), (53, .iconst (-1)), (54, .istore_n 1), (55, .iconst 0), (56, .istore_n 2), (57, .iload_n 2), (58, .bipush 7), (60, .if_icmp .ge (28)), (63, .aload_n 0), (64, .iload_n 2), (65, .invokestatic 374), (68, .invokestatic 234), (71, .invokevirtual 230), (74, .ifCond .eq (8)), (77, .iload_n 2), (78, .invokestatic 374), (81, .istore_n 1), (82, .iinc 2 1), (85, .goto (-28)), (88, .iload_n 1), (89, .iconst (-1)), (90, .if_icmp .ne (5)), (93, .iconst (-1)), (94, .ireturn), (95, .aload_n 0), (96, .invokevirtual 304), (99, .aload_n 0), (100, .invokevirtual 307), (103, .istore_n 2), (104, .aload_n 0), (105, .bipush 6), (107, .iload_n 1), (108, .iload_n 2), (109, .invokevirtual 355), (112, .iload_n 2), (113, .iconst (-1)), (114, .if_icmp .ne (7)), (117, .iconst (-1)), (118, .goto 5), (121, .bipush 6), (123, .ireturn)]
def kd140 : List (Nat × Instr) := [(0, .iload_n 0), (1, .tableswitch (57) (0) (5) #[39, 42, 45, 48, 51, 54]), (40, .bipush 30), (42, .ireturn), (43, .bipush 25), (45, .ireturn), (46, .bipush 24), (48, .ireturn), (49, .bipush 20), (51, .ireturn), (52, .bipush 26), (54, .ireturn), (55, .bipush 22), (57, .ireturn), (58, .bipush 21), (60, .ireturn)]
def kd141 : List (Nat × Instr) := [(0, .iload_n 0), (1, .tableswitch (255) (0) (29) #[135, 139, 143, 147, 151, 155, 159, 163, 167, 171, 175, 179, 183, 187, 191, 195, 199, 203, 207, 211, 215, 219, 223, 227, 231, 235, 239, 243, 247, 251]), (136, .ldc2_w 161), (139, .lreturn), (140, .ldc2_w 163), (143, .lreturn), (144, .ldc2_w 165), (147, .lreturn), (148, .ldc2_w 167), (151, .lreturn), (152, .ldc2_w 169), (155, .lreturn), (156, .ldc2_w 171), (159, .lreturn), (160, .ldc2_w 173), (163, .lreturn), (164, .ldc2_w 175), (167, .lreturn), (168, .ldc2_w 177), (171, .lreturn), (172, .ldc2_w 179), (175, .lreturn), (176, .ldc2_w 181), (179, .lreturn), (180, .ldc2_w 183), (183, .lreturn), (184, .ldc2_w 185), (187, .lreturn), (188, .ldc2_w 187), (191, .lreturn), (192, .ldc2_w 189), (195, .lreturn), (196, .ldc2_w 191), (199, .lreturn), (200, .ldc2_w 193), (203, .lreturn), (204, .ldc2_w 195), (207, .lreturn), (208, .ldc2_w 197), (211, .lreturn), (212, .ldc2_w 199), (215, .lreturn), (216, .ldc2_w 201), (219, .lreturn), (220, .ldc2_w 203), (223, .lreturn), (224, .ldc2_w 205), (227, .lreturn), (228, .ldc2_w 207), (231, .lreturn), (232, .ldc2_w 209), (235, .lreturn), (236, .ldc2_w 211), (239, .lreturn), (240, .ldc2_w 213), (243, .lreturn), (244, .ldc2_w 215), (247, .lreturn), (248, .ldc2_w 217), (251, .lreturn), (252, .ldc2_w 219), (255, .lreturn), (256, .ldc2_w 221), (259, .lreturn)]
def kd142 : List (Nat × Instr) := [(0, .iconst 1), (1, .istore_n 1), (2, .iload_n 1), (3, .bipush 6), (5, .if_icmp .gt (22)), (8, .aload_n 0), (9, .iload_n 1), (10, .invokestatic 333), (13, .invokevirtual 230), (16, .ifCond .eq (5)), (19, .iload_n 1), (20, .ireturn), (21, .iinc 1 1), (24, .goto (-22)), (27, .iconst 0), (28, .ireturn)]
def kd143 : List (Nat × Instr) := [(0, .iload_n 0), (1, .tableswitch (55) (1) (5) #[35, 39, 43, 47, 51]), (36, .ldc2_w 241), (39, .lreturn), (40, .ldc2_w 243), (43, .lreturn), (44, .ldc2_w 245), (47, .lreturn), (48, .ldc2_w 247), (51, .lreturn), (52, .ldc2_w 249), (55, .lreturn), (56, .ldc2_w 251), (59, .lreturn)]
def kd144 : List (Nat × Instr) := [(0, .iconst 0), (1, .istore_n 1), (2, .iload_n 1), (3, .bipush 30), (5, .if_icmp .gt (22)), (8, .aload_n 0), (9, .iload_n 1), (10, .invokestatic 234), (13, .invokevirtual 230), (16, .ifCond .eq (5)), (19, .iload_n 1), (20, .ireturn), (21, .iinc 1 1), (24, .goto (-22)), (27, .iconst (-1)), (28, .ireturn)]
def kd145 : List (Nat × Instr) := [(0, .aload_n 0), (1, .ldc2_w 339), (4, .invokevirtual 312), (7, .ifCond .ne (5)), (10, .iconst 1), (11, .ireturn), (12, .aload_n 0), (13, .ldc2_w 341), (16, .invokevirtual 312), (19, .ifCond .ne (5)), (22, .iconst 0), (23, .ireturn), (24, .aload_n 0), (25, .invokevirtual 343), (28, .istore_n 2), (29, .iload_n 2), (30, .ifCond .ne (5)), (33, .iconst 0), (34, .ireturn), (35, .aload_n 0), (36, .invokevirtual 304), (39, .aload_n 0), (40, .iload_n 2), (41, .invokevirtual 346), (44, .istore_n 3), (45, .iload_n 3), (46, .iconst (-1)), (47, .if_icmp .eq (17)), (50, .aload_n 0), (51, .iload_n 1), (52, .iload_n 2), (53, .iload_n 3), (54, .invokevirtual 349), (57, .ifCond .eq (7)), (60, .iconst 1), (61, .goto 4), (64, .iconst 0), (65, .ireturn)]
def kd146 : List (Nat × Instr) := [(0, .bipush 16), (2, .istore_n 2), (3, .iload_n 2), (4, .bipush 30), (6, .if_icmp .ge (38)), (9, .iload_n 1), (10, .iconst 1), (11, .if_icmp .ne (17)), (14, .aload_n 0), (15, .iload_n 2), (16, .invokestatic 234), (19, .invokevirtual 230), (22, .ifCond .eq (16)), (25, .goto 11), (28, .aload_n 0), (29, .iload_n 2), (30, .invokevirtual 336), (33, .ifCond .eq (5)), (36, .iload_n 2), (37, .ireturn), (38, .iinc 2 1), (41, .goto (-38)), (44, .iconst (-1)), (45, .ireturn)]
def kd147 : List (Nat × Instr) := [(0, .aload_n 0), (1, .getfield 130), (4, .bipush 119), (6, .if_icmp .eq (5)), (9, .iconst 0), (10, .ireturn), (11, .iload_n 1), (12, .bipush 22), (14, .if_icmp .ne (11)), (17, .aload_n 0), (18, .ldc2_w 237), (21, .invokevirtual 230), (24, .ireturn), (25, .iload_n 1), (26, .invokestatic 234), (29, .lstore_n 2), (30, .lload_n 2), (31, .bipush 56), (33, .lshr), (34, .lconst 0), (35, .lcmp), (36, .ifCond .ne (16)), (39, .aload_n 0), (40, .lload_n 2), (41, .bipush 8), (43, .lshl), (44, .ldc2_w 239), (47, .lor), (48, .invokevirtual 230), (51, .ireturn), (52, .aload_n 0), (53, .getfield 120), (56, .lload_n 2), (57, .lcmp), (58, .ifCond .ne (18)), (61, .aload_n 0), (62, .getfield 124), (65, .ldc2_w 239), (68, .lcmp), (69, .ifCond .ne (7)), (72, .iconst 1), (73, .goto 4), (76, .iconst 0), (77, .ireturn)]
def kd148 : List (Nat × Instr) := [(0, .aload_n 0), (1, .invokevirtual 304), (4, .aload_n 0), (5, .getfield 297), (8, .iload_n 1), (9, .invokestatic 293), (12, .istore 4), (14, .aload_n 0), (15, .getfield 26), (18, .iload 4), (20, .iload_n 3), (21, .iastore), (22, .aload_n 0), (23, .getfield 26), (26, .iload 4), (28, .iconst 2), (29, .iadd), (30, .iload_n 2), (31, .iastore), (32, .iload_n 3), (33, .iconst 3), (34, .invokestatic 320), (37, .ifCond .eq (7)), (40, .iconst 1), (41, .goto 14), (44, .iload_n 3), (45, .bipush 19), (47, .if_icmp .ne (7)), (50, .iconst 4), (51, .goto 4), (54, .iconst 0), (55, .istore 5), (57, .iload_n 3), (58, .iconst 3), (59, .invokestatic 320), (62, .ifCond .eq (7)), (65, .iconst 3), (66, .goto 14), (69, .iload_n 3), (70, .bipush 19), (72, .if_icmp .ne (7)), (75, .iconst 5), (76, .goto 4), (79, .iconst (-1)), (80, .istore 6), (82, .iload 5), (84, .ifCond .le (58)), (87, .iload 5), (89, .istore 7), (91, .iload 7), (93, .iload 6), (95, .if_icmp .gt (29)), (98, .aload_n 0), (99, .iload 7), (101, .invokevirtual 324), (104, .ifCond .eq (14)), (107, .aload_n 0), (108, .getfield 26), (111, .iload 4), (113, .iconst 3), (114, .iadd), (115, .iload 7), (117, .iastore), (118, .iinc 7 1), (121, .goto (-30)), (124, .aload_n 0), (125, .getfield 26), (128, .iload 4), (130, .iconst 3), (131, .iadd), (132, .iaload), (133, .ifCond .ne (5)), (136, .iconst 0), (137, .ireturn), (138, .aload_n 0), (139, .invokevirtual 304), (142, .aload_n 0), (143, .getfield 26), (146, .iload 4), (148, .iconst 1), (149, .iadd), (150, .aload_n 0), (151, .invokevirtual 307), (154, .iastore), (155, .aload_n 0), (156, .getfield 26), (159, .iload 4), (161, .iconst 1), (162, .iadd), (163, .iaload), (164, .iconst (-1)), (165, .if_icmp .ne (5)), (168, .iconst 0), (169, .ireturn), (170, .iconst 0), (171, .istore 7), (173, .iload 7), (175, .iconst 5), (176, .if_icmp .ge (67)), (179, .iload_n 3), (180, .iload 7), (182, .invokestatic 327), (185, .ifCond .eq (52)), (188, .aload_n 0), (189, .iload 7), (191, .invokestatic 330), (194, .invokevirtual 312), (197, .ifCond .ne (6)), (200, .goto 37), (203, .aload_n 0), (204, .getfield 26), (207, .iload 4), (209, .iconst 4), (210, .iadd), (211, .iload 7), (213, .iadd), (214, .aload_n 0), (215, .invokevirtual 307), (218, .iastore), (219, .aload_n 0), (220, .getfield 26), (223, .iload 4), (225, .iconst 4), (226, .iadd), (227, .iload 7), (229, .iadd), (230, .iaload), (231, .iconst (-1)), (232, .if_icmp .ne (5)), (235, .iconst 0), (236, .ireturn), (237, .iinc 7 1), (240, .goto (-67)), (243, .iconst 1), (244, .ireturn)]
def kd149 : List (Nat × Instr) := [(0, .iload_n 0), (1, .istore_n 2), (2, .iload_n 2), (3, .iconst (-1)), (4, .if_icmp .eq (16)), (7, .iload_n 2), (8, .iload_n 1), (9, .if_icmp .eq (11)), (12, .iload_n 2), (13, .invokestatic 223), (16, .istore_n 2), (17, .goto (-15)), (20, .iload_n 2), (21, .iload_n 1), (22, .if_icmp .ne (7)), (25, .iconst 1), (26, .goto 4), (29, .iconst 0), (30, .ireturn)]
def kd150 : List (Nat × Instr) := [(0, .iload_n 0), (1, .ifCond .ne (5)), (4, .iconst (-1)), (5, .ireturn), (6, .iload_n 0), (7, .iconst 3), (8, .if_icmp .ge (5)), (11, .iconst 0), (12, .ireturn), (13, .iload_n 0), (14, .bipush 7), (16, .if_icmp .ge (5)), (19, .iconst 2), (20, .ireturn), (21, .iload_n 0), (22, .bipush 16), (24, .if_icmp .ge (5)), (27, .iconst 1), (28, .ireturn), (29, .iload_n 0), (30, .bipush 19), (32, .if_icmp .ge (5)), (35, .iconst 3), (36, .ireturn), (37, .iload_n 0), (38, .bipush 21), (40, .if_icmp .ge (5)), (43, .iconst 4), (44, .ireturn), (45, .iload_n 0), (46, .bipush 24), (48, .if_icmp .ge (7)), (51, .iconst 5), (52, .goto 5), (55, .bipush 6), (57, .ireturn)]
def kd151 : List (Nat × Instr) := [(0, .iload_n 1), (1, .iconst 4), (2, .if_icmp .ne (43)), (5, .aload_n 0), (6, .getfield 130), (9, .bipush 119), (11, .if_icmp .ne (30)), (14, .aload_n 0), (15, .getfield 120), (18, .iconst 4), (19, .invokestatic 263), (22, .lcmp), (23, .ifCond .ne (18)), (26, .aload_n 0), (27, .getfield 124), (30, .ldc2_w 266), (33, .lcmp), (34, .ifCond .ne (7)), (37, .iconst 1), (38, .goto 15), (41, .iconst 0), (42, .goto 11), (45, .aload_n 0), (46, .iload_n 1), (47, .invokestatic 263), (50, .invokevirtual 230), (53, .ireturn)]
def kd152 : List (Nat × Instr) := [(0, .iload_n 0), (1, .tableswitch (47) (1) (4) #[31, 35, 39, 43]), (32, .ldc2_w 253), (35, .lreturn), (36, .ldc2_w 255), (39, .lreturn), (40, .ldc2_w 257), (43, .lreturn), (44, .ldc2_w 259), (47, .lreturn), (48, .ldc2_w 261), (51, .lreturn)]
def kd153 : List (Nat × Instr) := [(0, .iload_n 1), (1, .tableswitch (97) (0) (3) #[31, 55, 67, 85]), (32, .iload_n 0), (33, .bipush 16), (35, .if_icmp .eq (15)), (38, .iload_n 0), (39, .bipush 17), (41, .if_icmp .eq (9)), (44, .iload_n 0), (45, .bipush 19), (47, .if_icmp .ne (7)), (50, .iconst 1), (51, .goto 4), (54, .iconst 0), (55, .ireturn), (56, .iload_n 0), (57, .bipush 18), (59, .if_icmp .ne (7)), (62, .iconst 1), (63, .goto 4), (66, .iconst 0), (67, .ireturn), (68, .iload_n 0), (69, .bipush 16), (71, .if_icmp .eq (9)), (74, .iload_n 0), (75, .bipush 19), (77, .if_icmp .ne (7)), (80, .iconst 1), (81, .goto 4), (84, .iconst 0), (85, .ireturn), (86, .iload_n 0), (87, .bipush 21), (89, .if_icmp .ne (7)), (92, .iconst 1), (93, .goto 4), (96, .iconst 0), (97, .ireturn), (98, .iload_n 0), (99, .bipush 29), (101, .if_icmp .ne (7)), (104, .iconst 1), (105, .goto 4), (108, .iconst 0), (109, .ireturn)]
def kd154 : List (Nat × Instr) := [(0, .iload_n 0), (1, .tableswitch (47) (0) (3) #[31, 35, 39, 43]), (32, .ldc2_w 268), (35, .lreturn), (36, .ldc2_w 270), (39, .lreturn), (40, .ldc2_w 272), (43, .lreturn), (44, .ldc2_w 274), (47, .lreturn), (48, .ldc2_w 276), (51, .lreturn)]
def kd155 : List (Nat × Instr) := [(0, .aload_n 0), (1, .iload_n 1), (2, .iload_n 2), (3, .invokevirtual 387), (6, .ifCond .eq (16)), (9, .aload_n 0), (10, .iload_n 1), (11, .iload_n 2), (12, .invokevirtual 390), (15, .ifCond .ne (7)), (18, .iconst 1), (19, .goto 4), (22, .iconst 0), (23, .ireturn)]
def kd156 : List (Nat × Instr) := [(0, .aload_n 0), (1, .getfield 16), (4, .iload_n 1), (5, .iaload), (6, .aload_n 0), (7, .getfield 16), (10, .iload_n 2), (11, .iaload), (12, .if_icmp .ne (37)), (15, .aload_n 0), (16, .getfield 20), (19, .iload_n 1), (20, .iaload), (21, .aload_n 0), (22, .getfield 20), (25, .iload_n 2), (26, .iaload), (27, .if_icmp .ne (22)), (30, .aload_n 0), (31, .getfield 23), (34, .iload_n 1), (35, .iaload), (36, .aload_n 0), (37, .getfield 23), (40, .iload_n 2), (41, .iaload), (42, .if_icmp .ne (7)), (45, .iconst 1), (46, .goto 4), (49, .iconst 0), (50, .ireturn)]
def kd157 : List (Nat × Instr) := [(0, .iconst 0), (1, .istore_n 3), (2, .iconst 0), (3, .istore 4), (5, .iload 4), (7, .bipush 7), (9, .if_icmp .ge (84)), (12, .iconst 1), (13, .istore 5), (15, .iconst 0), (16, .istore 6), (18, .iload 6), (20, .bipush 9), (22, .if_icmp .ge (52)), (25, .iload 5), (27, .ifCond .eq (38)), (30, .aload_n 0), (31, .getfield 26), (34, .iload_n 1), (35, .iload 4), (37, .invokestatic 293), (40, .iload 6), (42, .iadd), (43, .iaload), (44, .aload_n 0), (45, .getfield 26), (48, .iload_n 2), (49, .iload 4), (51, .invokestatic 293), (54, .iload 6), (56, .iadd), (57, .iaload), (58, .if_icmp .ne (7)), (61, .iconst 1), (62, .goto 4), (65, .iconst 0), (66, .istore 5), (68, .iinc 6 1), (71, .goto (-53)), (74, .iload_n 3), (75, .iload 5), (77, .ifCond .eq (7)), (80, .iconst 0), (81, .goto 4), (84, .iconst 1), (85, .iadd), (86, .istore_n 3), (87, .iinc 4 1), (90, .goto (-85)), (93, .iload_n 3), (94, .ireturn)]
def kd158 : List (Nat × Instr) := [(0, .aload_n 0), (1, .iload_n 1), (2, .invokevirtual 420), (5, .ifCond .ne (5)), (8, .iconst (-1)), (9, .ireturn), (10, .aload_n 0), (11, .iconst 0), (12, .putfield 404), (15, .aload_n 0), (16, .getfield 16), (19, .iload_n 1), (20, .iaload), (21, .istore_n 2), (22, .iload_n 2), (23, .ifCond .le (20)), (26, .iload_n 2), (27, .bipush 6), (29, .if_icmp .ge (14)), (32, .aload_n 0), (33, .ldc2_w 310), (36, .invokevirtual 410), (39, .aload_n 0), (40, .invokevirtual 407), (43, .iload_n 2), (44, .ifCond .le (60)), (47, .aload_n 0), (48, .iload_n 2), (49, .invokestatic 288), (52, .invokevirtual 410), (55, .iload_n 2), (56, .bipush 6), (58, .if_icmp .ne (10)), (61, .aload_n 0), (62, .ldc2_w 291), (65, .invokevirtual 410), (68, .aload_n 0), (69, .aload_n 0), (70, .getfield 20), (73, .iload_n 1), (74, .iaload), (75, .invokestatic 226), (78, .invokevirtual 414), (81, .aload_n 0), (82, .ldc2_w 318), (85, .invokevirtual 414), (88, .aload_n 0), (89, .aload_n 0), (90, .getfield 23), (93, .iload_n 1), (94, .iaload), (95, .invokestatic 226), (98, .invokevirtual 414), (101, .goto 16), (104, .aload_n 0), (105, .aload_n 0), (106, .getfield 20), (109, .iload_n 1), (110, .iaload), (111, .invokestatic 226), (114, .invokevirtual 410), (117, .iconst 0), (118, .istore_n 3), (119, .iload_n 3), (120, .bipush 7), (122, .if_icmp .ge (44)), (125, .iload_n 1), (126, .iload_n 3), (127, .invokestatic 293), (130, .istore 4), (132, .aload_n 0), (133, .getfield 26), (136, .iload 4), (138, .iaload), (139, .ifCond .eq (21)), (142, .iload_n 3), (143, .iconst 1), (144, .if_icmp .eq (16)), (147, .iload_n 3), (148, .iconst 4), (149, .if_icmp .eq (11)), (152, .aload_n 0), (153, .iload_n 1), (154, .iload_n 3), (155, .iload 4), (157, .invokevirtual 423), (160, .iinc 3 1), (163, .goto (-44)), (166, .aload_n 0), (167, .getfield 404), (170, .ireturn)]
def kd159 : List (Nat × Instr) := [(0, .iload_n 1), (1, .ifCond .lt (15)), (4, .iload_n 1), (5, .aload_n 0), (6, .getfield 297), (9, .if_icmp .ge (7)), (12, .iconst 1), (13, .goto 4), (16, .iconst 0), (17, .ireturn)]
def kd160 : List (Nat × Instr) := [(0, .bipush 56), (2, .istore_n 3), (3, .iload_n 3), (4, .ifCond .lt (46)), (7, .lload_n 1), (8, .iload_n 3), (9, .lshr), (10, .ldc2_w 402), (13, .land), (14, .l2i), (15, .istore 4), (17, .iload 4), (19, .ifCond .eq (25)), (22, .aload_n 0), (23, .getfield 29), (26, .aload_n 0), (27, .getfield 404), (30, .iload 4), (32, .i2b), (33, .bastore), (34, .aload_n 0), (35, .aload_n 0), (36, .getfield 404), (39, .iconst 1), (40, .iadd), (41, .putfield 404), (44, .iinc 3 (-8)), (47, .goto (-44)), (50, .return_)]
def kd161 : List (Nat × Instr) := [(0, .aload_n 0), (1, .getfield 29), (4, .aload_n 0), (5, .getfield 404), (8, .bipush 32), (10, .bastore), (11, .aload_n 0), (12, .aload_n 0), (13, .getfield 404), (16, .iconst 1), (17, .iadd), (18, .putfield 404), (21, .return_)]
def kd162 : List (Nat × Instr) := [(0, .aload_n 0), (1, .invokevirtual 407), (4, .aload_n 0), (5, .lload_n 1), (6, .invokevirtual 410), (9, .return_)]
def kd163 : List (Nat × Instr) := [(0, .aload_n 0), (1, .invokevirtual 426), (4, .iload_n 2), (5, .iconst 2), (6, .if_icmp .ne (9)), (9, .aload_n 0), (10, .iload_n 3), (11, .invokevirtual 417), (14, .return_), (15, .iload_n 2), (16, .iconst 5), (17, .if_icmp .ne (10)), (20, .aload_n 0), (21, .ldc2_w 353), (24, .invokevirtual 414), (27, .iload_n 2), (28, .bipush 6), (30, .if_icmp .ne (24)), (33, .aload_n 0), (34, .ldc2_w 359), (37, .invokevirtual 414), (40, .aload_n 0), (41, .ldc2_w 370), (44, .invokevirtual 414), (47, .aload_n 0), (48, .ldc2_w 372), (51, .invokevirtual 410), (54, .aload_n 0), (55, .ldc2_w 241), (58, .invokevirtual 414), (61, .aload_n 0), (62, .aload_n 0), (63, .getfield 26), (66, .iload_n 3), (67, .iaload), (68, .invokestatic 234), (71, .invokevirtual 414), (74, .aload_n 0), (75, .aload_n 0), (76, .getfield 26), (79, .iload_n 3), (80, .iconst 1), (81, .iadd), (82, .iaload), (83, .invokestatic 226), (86, .invokevirtual 414), (89, .iload_n 2), (90, .ifCond .eq (8)), (93, .iload_n 2), (94, .iconst 3), (95, .if_icmp .ne (14)), (98, .aload_n 0), (99, .iload_n 1), (100, .iload_n 2), (101, .iconst 1), (102, .iadd), (103, .invokestatic 293), (106, .invokevirtual 429), (109, .return_)]
def kd164 : List (Nat × Instr) := [(0, .aload_n 0), (1, .getfield 29), (4, .aload_n 0), (5, .getfield 404), (8, .bipush 44), (10, .bastore), (11, .aload_n 0), (12, .aload_n 0), (13, .getfield 404), (16, .iconst 1), (17, .iadd), (18, .putfield 404), (21, .return_)]
def kd165 : List (Nat × Instr) := [(0, .aload_n 0), (1, .getfield 26), (4, .iload_n 1), (5, .iconst 2), (6, .iadd), (7, .iaload), (8, .istore_n 2), (9, .aload_n 0), (10, .getfield 26), (13, .iload_n 1), (14, .iaload), (15, .istore_n 3), (16, .aload_n 0), (17, .iload_n 2), (18, .invokestatic 333), (21, .invokevirtual 414), (24, .aload_n 0), (25, .iload_n 2), (26, .iconst 1), (27, .if_icmp .le (15)), (30, .iload_n 3), (31, .bipush 22), (33, .if_icmp .ne (9)), (36, .ldc2_w 237), (39, .goto 7), (42, .iload_n 3), (43, .invokestatic 234), (46, .invokevirtual 414), (49, .iload_n 2), (50, .iconst 1), (51, .if_icmp .le (16)), (54, .iload_n 3), (55, .bipush 22), (57, .if_icmp .eq (10)), (60, .aload_n 0), (61, .ldc2_w 239), (64, .invokevirtual 410), (67, .aload_n 0), (68, .getfield 26), (71, .iload_n 1), (72, .iconst 3), (73, .iadd), (74, .iaload), (75, .istore 4), (77, .iload 4), (79, .ifCond .le (12)), (82, .aload_n 0), (83, .iload 4), (85, .invokestatic 263), (88, .invokevirtual 414), (91, .iload 4), (93, .iconst 4), (94, .if_icmp .ne (10)), (97, .aload_n 0), (98, .ldc2_w 266), (101, .invokevirtual 410), (104, .aload_n 0), (105, .aload_n 0), (106, .getfield 26), (109, .iload_n 1), (110, .iconst 1), (111, .iadd), (112, .iaload), (113, .invokestatic 226), (116, .invokevirtual 414), (119, .iconst 0), (120, .istore 5), (122, .iload 5), (124, .iconst 5), (125, .if_icmp .ge (54)), (128, .aload_n 0), (129, .getfield 26), (132, .iload_n 1), (133, .iconst 4), (134, .iadd), (135, .iload 5), (137, .iadd), (138, .iaload), (139, .iconst (-1)), (140, .if_icmp .ne (6)), (143, .goto 30), (146, .aload_n 0), (147, .iload 5), (149, .invokestatic 330), (152, .invokevirtual 414), (155, .aload_n 0), (156, .aload_n 0), (157, .getfield 26), (160, .iload_n 1), (161, .iconst 4), (162, .iadd), (163, .iload 5), (165, .iadd), (166, .iaload), (167, .invokestatic 226), (170, .invokevirtual 414), (173, .iinc 5 1), (176, .goto (-54)), (179, .return_)]
def kd166 : List (Nat × Instr) := [(0, .aload_n 0), (1, .getfield 26), (4, .iload_n 1), (5, .iaload), (6, .ifCond .ne (4)), (9, .return_), (10, .aload_n 0), (11, .ldc2_w 339), (14, .invokevirtual 414), (17, .aload_n 0), (18, .ldc2_w 341), (21, .invokevirtual 414), (24, .aload_n 0), (25, .iload_n 1), (26, .invokevirtual 417), (29, .return_)]
def kd167 : List (Nat × Instr) := [(0, .iload_n 1), (1, .ifCond .lt (24)), (4, .iload_n 1), (5, .aload_n 0), (6, .getfield 404), (9, .if_icmp .ge (16)), (12, .aload_n 0), (13, .getfield 29), (16, .iload_n 1), (17, .baload), (18, .sipush 255), (21, .iand), (22, .goto 4), (25, .iconst (-1)), (26, .ireturn)]
def kd168 : List (Nat × Instr) := [(0, .aload_n 0), (1, .iload_n 1), (2, .invokevirtual 420), (5, .ifCond .ne (5)), (8, .iconst (-1)), (9, .ireturn), (10, .iload_n 2), (11, .ifCond .ne (10)), (14, .aload_n 0), (15, .getfield 16), (18, .iload_n 1), (19, .iaload), (20, .ireturn), (21, .iload_n 2), (22, .iconst 1), (23, .if_icmp .ne (10)), (26, .aload_n 0), (27, .getfield 20), (30, .iload_n 1), (31, .iaload), (32, .ireturn), (33, .iload_n 2), (34, .iconst 2), (35, .if_icmp .ne (10)), (38, .aload_n 0), (39, .getfield 23), (42, .iload_n 1), (43, .iaload), (44, .ireturn), (45, .iload_n 2), (46, .iconst 3), (47, .if_icmp .ne (9)), (50, .aload_n 0), (51, .iload_n 1), (52, .invokevirtual 432), (55, .ireturn), (56, .iload_n 2), (57, .bipush 10), (59, .if_icmp .ge (5)), (62, .iconst (-1)), (63, .ireturn), (64, .aload_n 0), (65, .iload_n 1), (66, .iload_n 2), (67, .bipush 10), (69, .isub), (70, .bipush 8), (72, .idiv), (73, .invokevirtual 435), (76, .istore_n 3), (77, .iload_n 3), (78, .iconst (-1)), (79, .if_icmp .ne (5)), (82, .iconst (-1)), (83, .ireturn), (84, .iload_n 1), (85, .iload_n 3), (86, .invokestatic 293), (89, .istore 4), (91, .iload_n 2), (92, .bipush 10), (94, .isub), (95, .bipush 8), (97, .irem), (98, .tableswitch (97) (0) (6) #[42, 50, 60, 70, 80, 82, 89]), (140, .aload_n 0), (141, .getfield 26), (144, .iload 4), (146, .iaload), (147, .ireturn), (148, .aload_n 0), (149, .getfield 26), (152, .iload 4), (154, .iconst 1), (155, .iadd), (156, .iaload), (157, .ireturn), (158, .aload_n 0), (159, .getfield 26), (162, .iload 4), (164, .iconst 2), (165, .iadd), (166, .iaload), (167, .ireturn), (168, .aload_n 0), (169, .getfield 26), (172, .iload 4), (174, .iconst 3), (175, .iadd), (176, .iaload), (177, .ireturn), (178, .iload_n 3), (179, .ireturn), (180, .aload_n 0), (181, .iload 4), (183, .invokevirtual 438), (186, .ireturn), (187, .aload_n 0), (188, .iload 4), (190, .iconst 0), (191, .invokevirtual 441), (194, .ireturn), (195, .aload_n 0), (196, .iload 4), (198, .iconst 1), (199, .invokevirtual 441), (202, .ireturn)]
def kd169 : List (Nat × Instr) := [(0, .iconst 0), (1, .istore_n 2), (2, .iconst 0), (3, .istore_n 3), (4, .iload_n 3), (5, .bipush 7), (7, .if_icmp .ge (30)), (10, .iload_n 2), (11, .aload_n 0), (12, .getfield 26), (15, .iload_n 1), (16, .iload_n 3), (17, .invokestatic 293), (20, .iaload), (21, .ifCond .eq (7)), (24, .iconst 1), (25, .goto 4), (28, .iconst 0), (29, .iadd), (30, .istore_n 2), (31, .iinc 3 1), (34, .goto (-30)), (37, .iload_n 2), (38, .ireturn)]
def kd170 : List (Nat × Instr) := [(0, .iconst 0), (1, .istore_n 3), (2, .iconst 0), (3, .istore 4), (5, .iload 4), (7, .bipush 7), (9, .if_icmp .ge (38)), (12, .aload_n 0), (13, .getfield 26), (16, .iload_n 1), (17, .iload 4), (19, .invokestatic 293), (22, .iaload), (23, .ifCond .ne (6)), (26, .goto 15), (29, .iload_n 3), (30, .iload_n 2), (31, .if_icmp .ne (6)), (34, .iload 4), (36, .ireturn), (37, .iload_n 3), (38, .iconst 1), (39, .iadd), (40, .istore_n 3), (41, .iinc 4 1), (44, .goto (-39)), (47, .iconst (-1)), (48, .ireturn)]
def kd171 : List (Nat × Instr) := [(0, .iconst 0), (1, .istore_n 2), (2, .iconst 0), (3, .istore_n 3), (4, .iload_n 3), (5, .iconst 5), (6, .if_icmp .ge (31)), (9, .iload_n 2), (10, .aload_n 0), (11, .getfield 26), (14, .iload_n 1), (15, .iconst 4), (16, .iadd), (17, .iload_n 3), (18, .iadd), (19, .iaload), (20, .iconst (-1)), (21, .if_icmp .eq (7)), (24, .iconst 1), (25, .goto 4), (28, .iconst 0), (29, .iadd), (30, .istore_n 2), (31, .iinc 3 1), (34, .goto (-30)), (37, .iload_n 2), (38, .ireturn)]
def kd172 : List (Nat × Instr) := [(0, .iconst (-1)), (1, .istore_n 3), (2, .iconst 0), (3, .istore 4), (5, .iload 4), (7, .iconst 5), (8, .if_icmp .ge (40)), (11, .aload_n 0), (12, .getfield 26), (15, .iload_n 1), (16, .iconst 4), (17, .iadd), (18, .iload 4), (20, .iadd), (21, .iaload), (22, .istore 5), (24, .iload 5), (26, .iconst (-1)), (27, .if_icmp .eq (15)), (30, .iload_n 2), (31, .ifCond .ne (8)), (34, .iload_n 3), (35, .iconst (-1)), (36, .if_icmp .ne (6)), (39, .iload 5), (41, .istore_n 3), (42, .iinc 4 1), (45, .goto (-40)), (48, .iload_n 3), (49, .ireturn)]
def kd173 : List (Nat × Instr) := [(0, .aload_n 0), (1, .iload_n 1), (2, .invokevirtual 420), (5, .ifCond .eq (11)), (8, .aload_n 0), (9, .iload_n 2), (10, .invokevirtual 420), (13, .ifCond .ne (5)), (16, .iconst (-1)), (17, .ireturn), (18, .aload_n 0), (19, .iload_n 1), (20, .iload_n 2), (21, .invokevirtual 390), (24, .aload_n 0), (25, .iload_n 1), (26, .iload_n 2), (27, .invokevirtual 387), (30, .ifCond .eq (7)), (33, .iconst 0), (34, .goto 4), (37, .iconst 1), (38, .iadd), (39, .ireturn)]
def kd174 : List (Nat × Instr) := [(0, .iload_n 1), (1, .invokestatic 499), (4, .ifCond .eq (11)), (7, .aload_n 0), (8, .iload_n 2), (9, .invokevirtual 393), (12, .ifCond .ne (5)), (15, .iconst (-1)), (16, .ireturn), (17, .aload_n 0), (18, .invokevirtual 502), (21, .ifCond .ne (11)), (24, .bipush (-2)), (26, .aload_n 0), (27, .getfield 117), (30, .isub), (31, .ireturn), (32, .aload_n 0), (33, .getfield 32), (36, .iload_n 1), (37, .aload_n 0), (38, .getfield 32), (41, .iconst 5), (42, .iaload), (43, .iastore), (44, .aload_n 0), (45, .getfield 35), (48, .iload_n 1), (49, .aload_n 0), (50, .getfield 35), (53, .iconst 5), (54, .iaload), (55, .iastore), (56, .iconst 0), (57, .istore_n 3), (58, .iload_n 3), (59, .aload_n 0), (60, .getfield 32), (63, .iconst 5), (64, .iaload), (65, .if_icmp .ge (89)), (68, .aload_n 0), (69, .getfield 38), (72, .bipush 12), (74, .iload_n 1), (75, .imul), (76, .iload_n 3), (77, .iadd), (78, .aload_n 0), (79, .getfield 38), (82, .bipush 60), (84, .iload_n 3), (85, .iadd), (86, .iaload), (87, .iastore), (88, .aload_n 0), (89, .getfield 41), (92, .bipush 12), (94, .iload_n 1), (95, .imul), (96, .iload_n 3), (97, .iadd), (98, .aload_n 0), (99, .getfield 41), (102, .bipush 60), (104, .iload_n 3), (105, .iadd), (106, .iaload), (107, .iastore), (108, .aload_n 0), (109, .getfield 44), (112, .bipush 12), (114, .iload_n 1), (115, .imul), (116, .iload_n 3), (117, .iadd), (118, .aload_n 0), (119, .getfield 44), (122, .bipush 60), (124, .iload_n 3), (125, .iadd), (126, .iaload), (127, .iastore), (128, .aload_n 0), (129, .getfield 47), (132, .bipush 12), (134, .iload_n 1), (135, .imul), (136, .iload_n 3), (137, .iadd), (138, .aload_n 0), (139, .getfield 47), (142, .bipush 60), (144, .iload_n 3), (145, .iadd), (146, .iaload), (147, .iastore), (148, .iinc 3 1), (151, .goto (-93)), (154, .iconst 0), (155, .istore_n 3), (156, .iload_n 3), (157, .aload_n 0), (158, .getfield 35), (161, .iconst 5), (162, .iaload), (163, .if_icmp .ge (53)), (166, .aload_n 0), (167, .getfield 50), (170, .sipush 240), (173, .iload_n 1), (174, .imul), (175, .iload_n 3), (176, .iadd), (177, .aload_n 0), (178, .getfield 50), (181, .sipush 1200), (184, .iload_n 3), (185, .iadd), (186, .iaload), (187, .iastore), (188, .aload_n 0), (189, .getfield 53), (192, .sipush 240), (195, .iload_n 1), (196, .imul), (197, .iload_n 3), (198, .iadd), (199, .aload_n 0), (200, .getfield 53), (203, .sipush 1200), (206, .iload_n 3), (207, .iadd), (208, .iaload), (209, .iastore), (210, .iinc 3 1), (213, .goto (-57)), (216, .aload_n 0), (217, .getfield 32), (220, .iload_n 1), (221, .iaload), (222, .ireturn)]
def kd175 : List (Nat × Instr) := [(0, .iload_n 0), (1, .ifCond .lt (12)), (4, .iload_n 0), (5, .iconst 4), (6, .if_icmp .ge (7)), (9, .iconst 1), (10, .goto 4), (13, .iconst 0), (14, .ireturn)]
def kd176 : List (Nat × Instr) := [(0, .aload_n 0), (1, .getfield 32), (4, .iconst 5), (5, .iconst 0), (6, .iastore), (7, .aload_n 0), (8, .getfield 35), (11, .iconst 5), (12, .iconst 0), (13, .iastore), (14, .aload_n 0), (15, .invokevirtual 304), (18, .aload_n 0), (19, .getfield 130), (22, .ifCond .eq (148)), (25, .aload_n 0), (26, .ldc2_w 490), (29, .invokevirtual 230), (32, .ifCond .eq (14)), (35, .aload_n 0), (36, .getfield 32), (39, .iconst 5), (40, .iaload), (41, .bipush 12), (43, .if_icmp .ne (5)), (46, .iconst 0), (47, .ireturn), (48, .aload_n 0), (49, .invokevirtual 304), (52, .aload_n 0), (53, .getfield 130), (56, .bipush 100), (58, .if_icmp .ne (19)), (61, .aload_n 0), (62, .getfield 140), (65, .iconst 1), (66, .if_icmp .ne (11)), (69, .aload_n 0), (70, .getfield 127), (73, .iconst 3), (74, .if_icmp .le (5)), (77, .iconst 0), (78, .ireturn), (79, .aload_n 0), (80, .getfield 127), (83, .istore_n 1), (84, .aload_n 0), (85, .invokevirtual 304), (88, .aload_n 0), (89, .ldc2_w 359), (92, .invokevirtual 312), (95, .ifCond .ne (5)), (98, .iconst 0), (99, .ireturn), (100, .aload_n 0), (101, .invokevirtual 364), (104, .istore_n 2), (105, .iload_n 2), (106, .iconst (-1)), (107, .if_icmp .eq (14)), (110, .aload_n 0), (111, .iconst 5), (112, .iload_n 1), (113, .iload_n 2), (114, .invokevirtual 492), (117, .iconst (-1)), (118, .if_icmp .eq (5)), (121, .iconst 0), (122, .ireturn), (123, .aload_n 0), (124, .invokevirtual 304), (127, .aload_n 0), (128, .getfield 130), (131, .bipush 58), (133, .if_icmp .eq (5)), (136, .iconst 0), (137, .ireturn), (138, .aload_n 0), (139, .invokevirtual 304), (142, .aload_n 0), (143, .iconst 5), (144, .iload_n 1), (145, .iload_n 2), (146, .invokevirtual 445), (149, .aload_n 0), (150, .invokevirtual 496), (153, .ifCond .ne (5)), (156, .iconst 0), (157, .ireturn), (158, .aload_n 0), (159, .iconst 5), (160, .invokevirtual 451), (163, .aload_n 0), (164, .invokevirtual 304), (167, .goto (-149)), (170, .iconst 1), (171, .ireturn)]
def kd177 : List (Nat × Instr) := [(0, .iconst 0), (1, .istore 4), (3, .iload 4), (5, .aload_n 0), (6, .getfield 32), (9, .iload_n 1), (10, .iaload), (11, .if_icmp .ge (44)), (14, .aload_n 0), (15, .getfield 38), (18, .bipush 12), (20, .iload_n 1), (21, .imul), (22, .iload 4), (24, .iadd), (25, .iaload), (26, .iload_n 2), (27, .if_icmp .ne (22)), (30, .aload_n 0), (31, .getfield 41), (34, .bipush 12), (36, .iload_n 1), (37, .imul), (38, .iload 4), (40, .iadd), (41, .iaload), (42, .iload_n 3), (43, .if_icmp .ne (6)), (46, .iload 4), (48, .ireturn), (49, .iinc 4 1), (52, .goto (-49)), (55, .iconst (-1)), (56, .ireturn)]
def kd178 : List (Nat × Instr) := [(0, .aload_n 0), (1, .iconst 0), (2, .putfield 472), (5, .aload_n 0), (6, .iconst 0), (7, .putfield 478), (10, .iconst 1), (11, .istore_n 1), (12, .iload_n 1), (13, .ifCond .eq (112)), (16, .iconst 0), (17, .istore_n 2), (18, .iconst 2), (19, .istore_n 3), (20, .iload_n 3), (21, .bipush 10), (23, .if_icmp .gt (22)), (26, .aload_n 0), (27, .iload_n 3), (28, .invokestatic 481), (31, .invokevirtual 230), (34, .ifCond .eq (5)), (37, .iload_n 3), (38, .istore_n 2), (39, .iinc 3 1), (42, .goto (-22)), (45, .aload_n 0), (46, .getfield 130), (49, .bipush 40), (51, .if_icmp .ne (33)), (54, .aload_n 0), (55, .getfield 478), (58, .bipush 9), (60, .if_icmp .ne (5)), (63, .iconst 0), (64, .ireturn), (65, .aload_n 0), (66, .aload_n 0), (67, .getfield 478), (70, .iconst 1), (71, .iadd), (72, .putfield 478), (75, .aload_n 0), (76, .bipush 40), (78, .invokevirtual 484), (81, .goto 41), (84, .aload_n 0), (85, .getfield 130), (88, .bipush 100), (90, .if_icmp .eq (7)), (93, .iload_n 2), (94, .ifCond .eq (26)), (97, .aload_n 0), (98, .iconst 5), (99, .iload_n 2), (100, .ifCond .ne (7)), (103, .iconst 1), (104, .goto 4), (107, .iload_n 2), (108, .aload_n 0), (109, .getfield 127), (112, .invokevirtual 448), (115, .iconst 0), (116, .istore_n 1), (117, .goto 5), (120, .iconst 0), (121, .ireturn), (122, .goto 150), (125, .aload_n 0), (126, .getfield 130), (129, .bipush 43), (131, .if_icmp .eq (48)), (134, .aload_n 0), (135, .getfield 130), (138, .bipush 45), (140, .if_icmp .eq (39)), (143, .aload_n 0), (144, .getfield 130), (147, .bipush 42), (149, .if_icmp .eq (30)), (152, .aload_n 0), (153, .getfield 130), (156, .bipush 61), (158, .if_icmp .eq (21)), (161, .aload_n 0), (162, .getfield 130), (165, .bipush 60), (167, .if_icmp .eq (12)), (170, .aload_n 0), (171, .getfield 130), (174, .bipush 62), (176, .if_icmp .ne (27)), (179, .aload_n 0), (180, .aload_n 0), (181, .getfield 130), (184, .invokestatic 475), (187, .invokevirtual 487), (190, .aload_n 0), (191, .aload_n 0), (192, .getfield 130), (195, .invokevirtual 484), (198, .iconst 1), (199, .istore_n 1), (200, .goto 72), (203, .aload_n 0), (204, .getfield 130), (207, .bipush 41), (209, .if_icmp .ne (38)), (212, .aload_n 0), (213, .getfield 478), (216, .ifCond .le (31)), (219, .aload_n 0), (220, .iconst 1), (221, .invokevirtual 487), (224, .aload_n 0), (225, .aload_n 0), (226, .getfield 472), (229, .iconst 1), (230, .isub), (231, .putfield 472), (234, .aload_n 0), (235, .aload_n 0), (236, .getfield 478), (239, .iconst 1), (240, .isub), (241, .putfield 478), (244, .goto 28), (247, .aload_n 0), (248, .getfield 130), (251, .bipush 59), (253, .if_icmp .ne (17)), (256, .aload_n 0), (257, .getfield 478), (260, .ifCond .ne (10)), (263, .aload_n 0), (264, .iconst 1), (265, .invokevirtual 487), (268, .iconst 1), (269, .ireturn), (270, .iconst 0), (271, .ireturn), (272, .aload_n 0), (273, .invokevirtual 304), (276, .goto (-264))]
def kd179 : List (Nat × Instr) := [(0, .iload_n 0), (1, .tableswitch (79) (2) (9) #[47, 51, 55, 59, 63, 67, 71, 75]), (48, .ldc2_w 454), (51, .lreturn), (52, .ldc2_w 456), (55, .lreturn), (56, .ldc2_w 458), (59, .lreturn), (60, .ldc2_w 460), (63, .lreturn), (64, .ldc2_w 462), (67, .lreturn), (68, .ldc2_w 464), (71, .lreturn), (72, .ldc2_w 466), (75, .lreturn), (76, .ldc2_w 468), (79, .lreturn), (80, .ldc2_w 470), (83, .lreturn)]
def kd180 : List (Nat × Instr) := [(0, .aload_n 0), (1, .getfield 56), (4, .aload_n 0), (5, .getfield 472), (8, .iload_n 1), (9, .iastore), (10, .aload_n 0), (11, .aload_n 0), (12, .getfield 472), (15, .iconst 1), (16, .iadd), (17, .putfield 472), (20, .return_)]
def kd181 : List (Nat × Instr) := [(0, .iload_n 0), (1, .bipush 40), (3, .if_icmp .ne (7)), (6, .iconst 0), (7, .goto 20), (10, .iload_n 0), (11, .bipush 43), (13, .if_icmp .eq (9)), (16, .iload_n 0), (17, .bipush 45), (19, .if_icmp .ne (7)), (22, .iconst 1), (23, .goto 4), (26, .iconst 2), (27, .ireturn)]
def kd182 : List (Nat × Instr) := [(0, .aload_n 0), (1, .getfield 472), (4, .ifCond .le (49)), (7, .aload_n 0), (8, .getfield 56), (11, .aload_n 0), (12, .getfield 472), (15, .iconst 1), (16, .isub), (17, .iaload), (18, .invokestatic 475), (21, .iload_n 1), (22, .if_icmp .lt (31)), (25, .aload_n 0), (26, .aload_n 0), (27, .getfield 472), (30, .iconst 1), (31, .isub), (32, .putfield 472), (35, .aload_n 0), (36, .iconst 5), (37, .aload_n 0), (38, .getfield 56), (41, .aload_n 0), (42, .getfield 472), (45, .iaload), (46, .iconst 0), (47, .invokevirtual 448), (50, .goto (-50)), (53, .return_)]
def kd183 : List (Nat × Instr) := [(0, .iload_n 1), (1, .ifCond .lt (25)), (4, .iload_n 1), (5, .bipush 30), (7, .if_icmp .gt (19)), (10, .iload_n 2), (11, .ifCond .lt (15)), (14, .iload_n 2), (15, .iconst 3), (16, .if_icmp .gt (10)), (19, .iload_n 3), (20, .invokestatic 499), (23, .ifCond .ne (5)), (26, .iconst (-1)), (27, .ireturn), (28, .aload_n 0), (29, .iconst 0), (30, .iload_n 1), (31, .iload_n 2), (32, .iload_n 3), (33, .invokevirtual 515), (36, .iconst (-1)), (37, .if_icmp .ne (7)), (40, .iconst (-1)), (41, .goto 21), (44, .aload_n 0), (45, .getfield 505), (48, .aload_n 0), (49, .getfield 508), (52, .ifCond .eq (8)), (55, .bipush 32), (57, .goto 4), (60, .iconst 0), (61, .iadd), (62, .ireturn)]
def kd184 : List (Nat × Instr) := [(0, .iload_n 2), (1, .istore 5), (3, .iconst 0), (4, .istore 6), (6, .iload 5), (8, .iconst (-1)), (9, .if_icmp .eq (104)), (12, .iconst 0), (13, .istore 7), (15, .iload 7), (17, .iconst 2), (18, .if_icmp .ge (82)), (21, .iload 6), (23, .iload 7), (25, .iadd), (26, .iload_n 1), (27, .if_icmp .ge (6)), (30, .goto 64), (33, .aload_n 0), (34, .iload 7), (36, .ifCond .ne (8)), (39, .iload 4), (41, .goto 4), (44, .iconst 4), (45, .iload_n 3), (46, .iload 5), (48, .invokevirtual 492), (51, .istore 8), (53, .iload 8), (55, .iconst (-1)), (56, .if_icmp .ne (6)), (59, .goto 35), (62, .aload_n 0), (63, .iload 5), (65, .putfield 505), (68, .aload_n 0), (69, .iload 7), (71, .ifCond .ne (7)), (74, .iconst 1), (75, .goto 4), (78, .iconst 0), (79, .putfield 508), (82, .aload_n 0), (83, .iload 8), (85, .putfield 512), (88, .iload 6), (90, .iload 7), (92, .iadd), (93, .ireturn), (94, .iinc 7 1), (97, .goto (-82)), (100, .iload 5), (102, .invokestatic 223), (105, .istore 5), (107, .iinc 6 2), (110, .goto (-104)), (113, .iconst (-1)), (114, .ireturn)]
def kd185 : List (Nat × Instr) := [(0, .aload_n 0), (1, .iconst 0), (2, .putfield 528), (5, .aload_n 0), (6, .iload_n 1), (7, .invokevirtual 420), (10, .ifCond .eq (19)), (13, .iload_n 2), (14, .ifCond .lt (15)), (17, .iload_n 2), (18, .iconst 3), (19, .if_icmp .gt (10)), (22, .iload_n 3), (23, .invokestatic 499), (26, .ifCond .ne (5)), (29, .iconst 0), (30, .ireturn), (31, .iconst 0), (32, .istore 4), (34, .iconst 0), (35, .istore 5), (37, .iload 5), (39, .bipush 7), (41, .if_icmp .ge (37)), (44, .aload_n 0), (45, .getfield 26), (48, .iload_n 1), (49, .iload 5), (51, .invokestatic 293), (54, .iaload), (55, .ifCond .eq (17)), (58, .iload 4), (60, .aload_n 0), (61, .iload_n 1), (62, .iload 5), (64, .iload_n 2), (65, .iload_n 3), (66, .invokevirtual 547), (69, .iadd), (70, .istore 4), (72, .iinc 5 1), (75, .goto (-38)), (78, .iload 4), (80, .ireturn)]
def kd186 : List (Nat × Instr) := [(0, .aload_n 0), (1, .getfield 26), (4, .iload_n 1), (5, .iload_n 2), (6, .invokestatic 293), (9, .iaload), (10, .istore 5), (12, .aload_n 0), (13, .iconst 0), (14, .putfield 525), (17, .aload_n 0), (18, .iconst 0), (19, .putfield 522), (22, .aload_n 0), (23, .iconst 0), (24, .iload 5), (26, .iload_n 3), (27, .iload 4), (29, .invokevirtual 515), (32, .istore 6), (34, .iload 6), (36, .iconst (-1)), (37, .if_icmp .ne (5)), (40, .iconst 0), (41, .ireturn), (42, .aload_n 0), (43, .iload 6), (45, .iload 4), (47, .invokevirtual 534), (50, .aload_n 0), (51, .getfield 525), (54, .ifCond .le (226)), (57, .aload_n 0), (58, .getfield 525), (61, .iconst 1), (62, .isub), (63, .istore 7), (65, .aload_n 0), (66, .getfield 62), (69, .iload 7), (71, .iaload), (72, .aload_n 0), (73, .getfield 65), (76, .iload 7), (78, .iaload), (79, .if_icmp .ne (12)), (82, .aload_n 0), (83, .iload 7), (85, .putfield 525), (88, .goto (-38)), (91, .sipush 240), (94, .aload_n 0), (95, .getfield 68), (98, .iload 7), (100, .iaload), (101, .imul), (102, .aload_n 0), (103, .getfield 62), (106, .iload 7), (108, .iaload), (109, .iadd), (110, .istore 8), (112, .aload_n 0), (113, .getfield 62), (116, .iload 7), (118, .aload_n 0), (119, .getfield 62), (122, .iload 7), (124, .iaload), (125, .iconst 1), (126, .iadd), (127, .iastore), (128, .aload_n 0), (129, .getfield 50), (132, .iload 8), (134, .iaload), (135, .istore 9), (137, .iload 9), (139, .bipush 10), (141, .if_icmp .ne (48)), (144, .aload_n 0), (145, .aload_n 0), (146, .getfield 71), (149, .iload 7), (151, .iaload), (152, .iconst 1), (153, .iadd), (154, .iload 5), (156, .iload_n 3), (157, .iload 4), (159, .invokevirtual 515), (162, .istore 10), (164, .iload 10), (166, .iconst (-1)), (167, .if_icmp .ne (11)), (170, .aload_n 0), (171, .iconst 0), (172, .invokevirtual 538), (175, .goto 11), (178, .aload_n 0), (179, .iload 10), (181, .iload 4), (183, .invokevirtual 534), (186, .goto 91), (189, .iload 9), (191, .iconst 1), (192, .if_icmp .ne (17)), (195, .aload_n 0), (196, .aload_n 0), (197, .getfield 53), (200, .iload 8), (202, .iaload), (203, .invokevirtual 538), (206, .goto 71), (209, .iload 9), (211, .bipush 9), (213, .if_icmp .gt (18)), (216, .aload_n 0), (217, .aload_n 0), (218, .iload 9), (220, .iload_n 1), (221, .iload_n 2), (222, .invokevirtual 541), (225, .invokevirtual 538), (228, .goto 49), (231, .aload_n 0), (232, .aload_n 0), (233, .getfield 522), (236, .iconst 1), (237, .isub), (238, .putfield 522), (241, .aload_n 0), (242, .getfield 59), (245, .aload_n 0), (246, .getfield 522), (249, .iconst 1), (250, .isub), (251, .iload 9), (253, .aload_n 0), (254, .getfield 59), (257, .aload_n 0), (258, .getfield 522), (261, .iconst 1), (262, .isub), (263, .iaload), (264, .aload_n 0), (265, .getfield 59), (268, .aload_n 0), (269, .getfield 522), (272, .iaload), (273, .invokestatic 544), (276, .iastore), (277, .goto (-227)), (280, .aload_n 0), (281, .getfield 59), (284, .iconst 0), (285, .iaload), (286, .ireturn)]
def kd187 : List (Nat × Instr) := [(0, .aload_n 0), (1, .getfield 508), (4, .ifCond .eq (7)), (7, .iload_n 2), (8, .goto 4), (11, .iconst 4), (12, .istore_n 3), (13, .aload_n 0), (14, .getfield 62), (17, .aload_n 0), (18, .getfield 525), (21, .aload_n 0), (22, .getfield 44), (25, .bipush 12), (27, .iload_n 3), (28, .imul), (29, .aload_n 0), (30, .getfield 512), (33, .iadd), (34, .iaload), (35, .iastore), (36, .aload_n 0), (37, .getfield 65), (40, .aload_n 0), (41, .getfield 525), (44, .aload_n 0), (45, .getfield 47), (48, .bipush 12), (50, .iload_n 3), (51, .imul), (52, .aload_n 0), (53, .getfield 512), (56, .iadd), (57, .iaload), (58, .iastore), (59, .aload_n 0), (60, .getfield 68), (63, .aload_n 0), (64, .getfield 525), (67, .iload_n 3), (68, .iastore), (69, .aload_n 0), (70, .getfield 71), (73, .aload_n 0), (74, .getfield 525), (77, .iload_n 1), (78, .iastore), (79, .aload_n 0), (80, .aload_n 0), (81, .getfield 525), (84, .iconst 1), (85, .iadd), (86, .putfield 525), (89, .aload_n 0), (90, .aload_n 0), (91, .getfield 528), (94, .iconst 1), (95, .iadd), (96, .putfield 528), (99, .return_)]
def kd188 : List (Nat × Instr) := [(0, .aload_n 0), (1, .getfield 59), (4, .aload_n 0), (5, .getfield 522), (8, .iload_n 1), (9, .iastore), (10, .aload_n 0), (11, .aload_n 0), (12, .getfield 522), (15, .iconst 1), (16, .iadd), (17, .putfield 522), (20, .return_)]
def kd189 : List (Nat × Instr) := [(0, .iload_n 2), (1, .iload_n 3), (2, .invokestatic 293), (5, .istore 4), (7, .iload_n 1), (8, .tableswitch (109) (2) (8) #[44, 57, 64, 74, 84, 94, 101]), (52, .aload_n 0), (53, .getfield 26), (56, .iload 4), (58, .iconst 1), (59, .iadd), (60, .iaload), (61, .invokestatic 519), (64, .ireturn), (65, .aload_n 0), (66, .iload_n 2), (67, .iload_n 3), (68, .invokevirtual 531), (71, .ireturn), (72, .aload_n 0), (73, .getfield 26), (76, .iload 4), (78, .iconst 1), (79, .iadd), (80, .iaload), (81, .ireturn), (82, .aload_n 0), (83, .getfield 26), (86, .iload 4), (88, .iconst 2), (89, .iadd), (90, .iaload), (91, .ireturn), (92, .aload_n 0), (93, .getfield 26), (96, .iload 4), (98, .iconst 3), (99, .iadd), (100, .iaload), (101, .ireturn), (102, .aload_n 0), (103, .iload 4), (105, .invokevirtual 438), (108, .ireturn), (109, .aload_n 0), (110, .getfield 26), (113, .iload 4), (115, .iaload), (116, .ireturn), (117, .iload_n 3), (118, .ireturn)]
def kd190 : List (Nat × Instr) := [(0, .iload_n 0), (1, .bipush 6), (3, .if_icmp .le (7)), (6, .iconst 0), (7, .goto 13), (10, .iload_n 0), (11, .iconst 2), (12, .if_icmp .ge (7)), (15, .iconst 1), (16, .goto 4), (19, .iconst 2), (20, .ireturn)]
def kd191 : List (Nat × Instr) := [(0, .iload_n 2), (1, .iconst 1), (2, .if_icmp .eq (8)), (5, .iload_n 2), (6, .iconst 4), (7, .if_icmp .ne (21)), (10, .aload_n 0), (11, .getfield 26), (14, .iload_n 1), (15, .iload_n 2), (16, .iconst 1), (17, .isub), (18, .invokestatic 293), (21, .iconst 1), (22, .iadd), (23, .iaload), (24, .invokestatic 519), (27, .ireturn), (28, .aload_n 0), (29, .getfield 20), (32, .iload_n 1), (33, .iaload), (34, .invokestatic 519), (37, .istore_n 3), (38, .aload_n 0), (39, .getfield 23), (42, .iload_n 1), (43, .iaload), (44, .iconst (-1)), (45, .if_icmp .eq (16)), (48, .aload_n 0), (49, .getfield 23), (52, .iload_n 1), (53, .iaload), (54, .invokestatic 519), (57, .iload_n 3), (58, .if_icmp .ne (7)), (61, .iload_n 3), (62, .goto 4), (65, .iconst 0), (66, .ireturn)]
def kd192 : List (Nat × Instr) := [(0, .iload_n 0), (1, .lookupswitch (85) #[(42, 59), (43, 51), (45, 55), (60, 74), (61, 63)]), (52, .iload_n 1), (53, .iload_n 2), (54, .iadd), (55, .ireturn), (56, .iload_n 1), (57, .iload_n 2), (58, .isub), (59, .ireturn), (60, .iload_n 1), (61, .iload_n 2), (62, .imul), (63, .ireturn), (64, .iload_n 1), (65, .iload_n 2), (66, .if_icmp .ne (7)), (69, .iconst 1), (70, .goto 4), (73, .iconst 0), (74, .ireturn), (75, .iload_n 1), (76, .iload_n 2), (77, .if_icmp .ge (7)), (80, .iconst 1), (81, .goto 4), (84, .iconst 0), (85, .ireturn), (86, .iload_n 1), (87, .iload_n 2), (88, .if_icmp .le (7)), (91, .iconst 1), (92, .goto 4), (95, .iconst 0), (96, .ireturn)]
def kd193 : List (Nat × Instr) := [(0, .aload_n 0), (1, .iconst 0), (2, .putfield 528), (5, .aload_n 0), (6, .iload_n 1), (7, .invokevirtual 420), (10, .ifCond .eq (20)), (13, .iload_n 3), (14, .ifCond .lt (16)), (17, .iload_n 3), (18, .iconst 3), (19, .if_icmp .gt (11)), (22, .iload 4), (24, .invokestatic 499), (27, .ifCond .ne (5)), (30, .iconst 0), (31, .ireturn), (32, .iload_n 2), (33, .ifCond .ge (7)), (36, .iconst (-1)), (37, .goto 9), (40, .aload_n 0), (41, .iload_n 1), (42, .iload_n 2), (43, .invokevirtual 435), (46, .istore 5), (48, .iload 5), (50, .iconst (-1)), (51, .if_icmp .ne (7)), (54, .iconst 0), (55, .goto 13), (58, .aload_n 0), (59, .iload_n 1), (60, .iload 5), (62, .iload_n 3), (63, .iload 4), (65, .invokevirtual 547), (68, .ireturn)]
def kd194 : List (Nat × Instr) := [(0, .aload_n 0), (1, .getfield 528), (4, .ireturn)]
def kd195 : List (Nat × Instr) := [(0, .aload_n 0), (1, .iload_n 1), (2, .invokevirtual 420), (5, .ifCond .eq (11)), (8, .iload_n 2), (9, .iload_n 3), (10, .invokestatic 553), (13, .ifCond .ne (5)), (16, .iconst (-1)), (17, .ireturn), (18, .bipush 6), (20, .istore 4), (22, .iload 4), (24, .ifCond .lt (108)), (27, .iload_n 1), (28, .iload 4), (30, .invokestatic 293), (33, .istore 5), (35, .aload_n 0), (36, .getfield 26), (39, .iload 5), (41, .iaload), (42, .ifCond .ne (6)), (45, .goto 81), (48, .iload 4), (50, .iconst 1), (51, .if_icmp .eq (22)), (54, .iload 4), (56, .iconst 2), (57, .if_icmp .eq (16)), (60, .iload 4), (62, .iconst 4), (63, .if_icmp .eq (10)), (66, .iload 4), (68, .bipush 6), (70, .if_icmp .ne (7)), (73, .iconst 1), (74, .goto 4), (77, .iconst 0), (78, .istore 6), (80, .iload 6), (82, .ifCond .eq (19)), (85, .aload_n 0), (86, .iload 5), (88, .iload 4), (90, .iload_n 2), (91, .iload_n 3), (92, .invokevirtual 566), (95, .ifCond .eq (31)), (98, .goto 18), (101, .aload_n 0), (102, .getfield 26), (105, .iload 5), (107, .iaload), (108, .iload_n 2), (109, .iload_n 3), (110, .invokestatic 569), (113, .ifCond .eq (13)), (116, .aload_n 0), (117, .getfield 26), (120, .iload 5), (122, .iconst 1), (123, .iadd), (124, .iaload), (125, .ireturn), (126, .iinc 4 (-1)), (129, .goto (-107)), (132, .aload_n 0), (133, .iload_n 1), (134, .iload_n 2), (135, .iload_n 3), (136, .invokevirtual 572), (139, .ireturn)]
def kd196 : List (Nat × Instr) := [(0, .iload_n 0), (1, .ifCond .lt (19)), (4, .iload_n 0), (5, .bipush 59), (7, .if_icmp .gt (13)), (10, .iload_n 1), (11, .ifCond .lt (9)), (14, .iload_n 1), (15, .bipush 71), (17, .if_icmp .le (5)), (20, .iconst 0), (21, .ireturn), (22, .iload_n 1), (23, .bipush 36), (25, .if_icmp .lt (30)), (28, .iconst 2), (29, .iload_n 0), (30, .imul), (31, .bipush 59), (33, .isub), (34, .invokestatic 550), (37, .bipush 59), (39, .iload_n 1), (40, .bipush 36), (42, .isub), (43, .iload_n 1), (44, .bipush 36), (46, .isub), (47, .imul), (48, .bipush 22), (50, .idiv), (51, .isub), (52, .if_icmp .gt (7)), (55, .iconst 1), (56, .goto 4), (59, .iconst 0), (60, .ireturn)]
def kd197 : List (Nat × Instr) := [(0, .iload_n 0), (1, .ifCond .ge (8)), (4, .iload_n 0), (5, .ineg), (6, .goto 4), (9, .iload_n 0), (10, .ireturn)]
def kd198 : List (Nat × Instr) := [(0, .aload_n 0), (1, .getfield 26), (4, .iload_n 1), (5, .iconst 2), (6, .iadd), (7, .iaload), (8, .istore 5), (10, .iload_n 2), (11, .bipush 6), (13, .if_icmp .ne (8)), (16, .bipush 8), (18, .goto 27), (21, .iload 5), (23, .iconst 1), (24, .if_icmp .ne (8)), (27, .bipush 16), (29, .goto 16), (32, .iload 5), (34, .iconst 4), (35, .if_icmp .ge (8)), (38, .bipush 12), (40, .goto 5), (43, .bipush 10), (45, .istore 6), (47, .iconst 2), (48, .iload_n 3), (49, .imul), (50, .bipush 59), (52, .isub), (53, .istore 7), (55, .iconst 2), (56, .iload 4), (58, .imul), (59, .bipush 71), (61, .isub), (62, .istore 8), (64, .iconst 0), (65, .istore 9), (67, .iload 9), (69, .iload 5), (71, .if_icmp .ge (108)), (74, .iload 5), (76, .iload 9), (78, .invokestatic 556), (81, .istore 10), (83, .iload 5), (85, .iload 9), (87, .invokestatic 559), (90, .istore 11), (92, .iload_n 2), (93, .iconst 1), (94, .if_icmp .eq (8)), (97, .iload_n 2), (98, .iconst 4), (99, .if_icmp .ne (35)), (102, .iconst 2), (103, .iload 9), (105, .imul), (106, .iload 5), (108, .isub), (109, .iconst 1), (110, .iadd), (111, .iload 6), (113, .iconst 2), (114, .iadd), (115, .imul), (116, .istore 10), (118, .iload_n 2), (119, .iconst 4), (120, .if_icmp .ne (8)), (123, .bipush (-49)), (125, .goto 4), (128, .iconst 0), (129, .istore 11), (131, .goto 16), (134, .iload_n 2), (135, .bipush 6), (137, .if_icmp .ne (10)), (140, .iconst 0), (141, .istore 10), (143, .bipush (-30)), (145, .istore 11), (147, .aload_n 0), (148, .getfield 26), (151, .iload_n 1), (152, .iaload), (153, .iload 7), (155, .iload 10), (157, .isub), (158, .iload 8), (160, .iload 11), (162, .isub), (163, .iload 6), (165, .invokestatic 562), (168, .ifCond .eq (5)), (171, .iconst 1), (172, .ireturn), (173, .iinc 9 1), (176, .goto (-109)), (179, .iconst 0), (180, .ireturn)]
def kd199 : List (Nat × Instr) := [(0, .iload_n 0), (1, .iconst 1), (2, .if_icmp .ne (5)), (5, .iconst 0), (6, .ireturn), (7, .iload_n 0), (8, .iconst 2), (9, .if_icmp .ne (15)), (12, .iload_n 1), (13, .ifCond .ne (8)), (16, .bipush (-20)), (18, .goto 5), (21, .bipush 20), (23, .ireturn), (24, .iload_n 0), (25, .iconst 3), (26, .if_icmp .ne (24)), (29, .iload_n 1), (30, .iconst 2), (31, .if_icmp .ne (7)), (34, .iconst 0), (35, .goto 14), (38, .iload_n 1), (39, .ifCond .ne (8)), (42, .bipush (-20)), (44, .goto 5), (47, .bipush 20), (49, .ireturn), (50, .iload_n 0), (51, .bipush 6), (53, .if_icmp .ge (26)), (56, .iload_n 1), (57, .iconst 4), (58, .if_icmp .ne (7)), (61, .iconst 0), (62, .goto 16), (65, .iload_n 1), (66, .iconst 2), (67, .irem), (68, .ifCond .ne (8)), (71, .bipush (-20)), (73, .goto 5), (76, .bipush 20), (78, .ireturn), (79, .iload_n 1), (80, .iconst 3), (81, .if_icmp .ge (12)), (84, .bipush 24), (86, .iload_n 1), (87, .iconst 1), (88, .isub), (89, .imul), (90, .goto 21), (93, .iload_n 1), (94, .iconst 5), (95, .if_icmp .ne (7)), (98, .iconst 0), (99, .goto 12), (102, .bipush 28), (104, .iload_n 1), (105, .iconst 3), (106, .isub), (107, .imul), (108, .bipush 14), (110, .isub), (111, .ireturn)]
def kd200 : List (Nat × Instr) := [(0, .iload_n 0), (1, .iconst 3), (2, .if_icmp .ge (5)), (5, .iconst 0), (6, .ireturn), (7, .iload_n 0), (8, .iconst 3), (9, .if_icmp .ne (16)), (12, .iload_n 1), (13, .iconst 2), (14, .if_icmp .ne (8)), (17, .bipush 20), (19, .goto 5), (22, .bipush (-30)), (24, .ireturn), (25, .iload_n 0), (26, .bipush 6), (28, .if_icmp .ge (26)), (31, .iload_n 1), (32, .iconst 4), (33, .if_icmp .ne (8)), (36, .bipush (-5)), (38, .goto 15), (41, .iload_n 1), (42, .iconst 2), (43, .if_icmp .ge (8)), (46, .bipush (-30)), (48, .goto 5), (51, .bipush 20), (53, .ireturn), (54, .iload_n 1), (55, .iconst 3), (56, .if_icmp .ge (8)), (59, .bipush (-30)), (61, .goto 14), (64, .iload_n 1), (65, .iconst 5), (66, .if_icmp .ne (8)), (69, .bipush 30), (71, .goto 4), (74, .iconst 0), (75, .ireturn)]
def kd201 : List (Nat × Instr) := [(0, .iload_n 3), (1, .iconst 2), (2, .idiv), (3, .istore 4), (5, .iload_n 1), (6, .invokestatic 550), (9, .iload_n 3), (10, .if_icmp .ge (15)), (13, .iload_n 2), (14, .invokestatic 550), (17, .iload_n 3), (18, .if_icmp .ge (7)), (21, .iconst 1), (22, .goto 4), (25, .iconst 0), (26, .istore 5), (28, .iload_n 1), (29, .iload_n 1), (30, .imul), (31, .iload_n 2), (32, .iload_n 2), (33, .imul), (34, .iadd), (35, .iload_n 3), (36, .iload_n 3), (37, .imul), (38, .if_icmp .ge (7)), (41, .iconst 1), (42, .goto 4), (45, .iconst 0), (46, .istore 6), (48, .iload_n 0), (49, .iconst 3), (50, .invokestatic 320), (53, .ifCond .eq (6)), (56, .iload 5), (58, .ireturn), (59, .iload_n 0), (60, .iconst 4), (61, .invokestatic 320), (64, .ifCond .eq (22)), (67, .iload_n 1), (68, .invokestatic 550), (71, .iload_n 2), (72, .invokestatic 550), (75, .iadd), (76, .iload_n 3), (77, .if_icmp .ge (7)), (80, .iconst 1), (81, .goto 4), (84, .iconst 0), (85, .ireturn), (86, .iload_n 0), (87, .iconst 5), (88, .invokestatic 320), (91, .ifCond .eq (6)), (94, .iload 6), (96, .ireturn), (97, .iload_n 0), (98, .tableswitch (187) (24) (29) #[38, 75, 107, 133, 136, 160]), (136, .iload_n 1), (137, .invokestatic 550), (140, .iload_n 2), (141, .invokestatic 550), (144, .iadd), (145, .iload_n 3), (146, .if_icmp .lt (21)), (149, .iload_n 1), (150, .invokestatic 550), (153, .iload 4), (155, .if_icmp .ge (16)), (158, .iload_n 2), (159, .invokestatic 550), (162, .iload 4), (164, .if_icmp .ge (7)), (167, .iconst 1), (168, .goto 4), (171, .iconst 0), (172, .ireturn), (173, .iload 6), (175, .ifCond .eq (28)), (178, .iload_n 1), (179, .iload_n 1), (180, .imul), (181, .iload_n 2), (182, .iload 4), (184, .iadd), (185, .iload_n 2), (186, .iload 4), (188, .iadd), (189, .imul), (190, .iadd), (191, .iload_n 3), (192, .iload_n 3), (193, .imul), (194, .iconst 2), (195, .idiv), (196, .if_icmp .lt (7)), (199, .iconst 1), (200, .goto 4), (203, .iconst 0), (204, .ireturn), (205, .iload 6), (207, .ifCond .eq (22)), (210, .iload_n 1), (211, .iload_n 1), (212, .imul), (213, .iload_n 2), (214, .iload_n 2), (215, .imul), (216, .iadd), (217, .iload_n 3), (218, .iload_n 3), (219, .imul), (220, .iconst 4), (221, .idiv), (222, .if_icmp .lt (7)), (225, .iconst 1), (226, .goto 4), (229, .iconst 0), (230, .ireturn), (231, .iload 6), (233, .ireturn), (234, .iconst 2), (235, .iload_n 1), (236, .invokestatic 550), (239, .imul), (240, .iload_n 3), (241, .if_icmp .ge (15)), (244, .iload_n 2), (245, .invokestatic 550), (248, .iload_n 3), (249, .if_icmp .ge (7)), (252, .iconst 1), (253, .goto 4), (256, .iconst 0), (257, .ireturn), (258, .iload 5), (260, .ifCond .eq (23)), (263, .iload_n 2), (264, .ifCond .gt (15)), (267, .iload_n 1), (268, .bipush 64), (270, .iadd), (271, .iconst 4), (272, .idiv), (273, .iconst 1), (274, .iand), (275, .iconst 1), (276, .if_icmp .ne (7)), (279, .iconst 1), (280, .goto 4), (283, .iconst 0), (284, .ireturn), (285, .iload_n 1), (286, .invokestatic 550), (289, .iload_n 3), (290, .if_icmp .ge (31)), (293, .iload_n 2), (294, .invokestatic 550), (297, .iconst 2), (298, .if_icmp .lt (19)), (301, .iload_n 2), (302, .ifCond .le (19)), (305, .iload_n 1), (306, .bipush 64), (308, .iadd), (309, .iconst 4), (310, .idiv), (311, .iconst 1), (312, .iand), (313, .iconst 1), (314, .if_icmp .ne (7)), (317, .iconst 1), (318, .goto 4), (321, .iconst 0), (322, .ireturn)]
def kd202 : List (Nat × Instr) := [(0, .iconst 2), (1, .iload_n 1), (2, .imul), (3, .bipush 59), (5, .isub), (6, .istore_n 3), (7, .iconst 2), (8, .iload_n 2), (9, .imul), (10, .bipush 71), (12, .isub), (13, .istore 4), (15, .iload_n 0), (16, .tableswitch (219) (7) (14) #[48, 60, 75, 91, 109, 137, 162, 192]), (64, .iload_n 2), (65, .bipush 22), (67, .if_icmp .ge (7)), (70, .iconst 1), (71, .goto 4), (74, .iconst 0), (75, .ireturn), (76, .iload_n 3), (77, .invokestatic 550), (80, .bipush 20), (82, .if_icmp .ge (7)), (85, .iconst 1), (86, .goto 4), (89, .iconst 0), (90, .ireturn), (91, .iload 4), (93, .invokestatic 550), (96, .bipush 24), (98, .if_icmp .ge (7)), (101, .iconst 1), (102, .goto 4), (105, .iconst 0), (106, .ireturn), (107, .iload_n 3), (108, .iload 4), (110, .isub), (111, .invokestatic 550), (114, .bipush 24), (116, .if_icmp .ge (7)), (119, .iconst 1), (120, .goto 4), (123, .iconst 0), (124, .ireturn), (125, .iload 4), (127, .iload_n 3), (128, .invokestatic 550), (131, .isub), (132, .invokestatic 550), (135, .bipush 20), (137, .if_icmp .ge (14)), (140, .iload 4), (142, .bipush (-30)), (144, .if_icmp .le (7)), (147, .iconst 1), (148, .goto 4), (151, .iconst 0), (152, .ireturn), (153, .iload_n 3), (154, .invokestatic 550), (157, .bipush 14), (159, .if_icmp .lt (13)), (162, .iload 4), (164, .invokestatic 550), (167, .bipush 14), (169, .if_icmp .ge (7)), (172, .iconst 1), (173, .goto 4), (176, .iconst 0), (177, .ireturn), (178, .iload_n 3), (179, .iload 4), (181, .isub), (182, .invokestatic 550), (185, .bipush 18), (187, .if_icmp .lt (15)), (190, .iload_n 3), (191, .iload 4), (193, .iadd), (194, .invokestatic 550), (197, .bipush 18), (199, .if_icmp .ge (7)), (202, .iconst 1), (203, .goto 4), (206, .iconst 0), (207, .ireturn), (208, .iconst 3), (209, .iload_n 3), (210, .invokestatic 550), (213, .imul), (214, .bipush 71), (216, .iload 4), (218, .isub), (219, .if_icmp .ge (14)), (222, .iload 4), (224, .bipush 50), (226, .if_icmp .ge (7)), (229, .iconst 1), (230, .goto 4), (233, .iconst 0), (234, .ireturn), (235, .iload_n 1), (236, .iconst 5), (237, .isub), (238, .iload_n 2), (239, .invokestatic 553), (242, .ifCond .eq (33)), (245, .iload_n 1), (246, .iconst 5), (247, .iadd), (248, .iload_n 2), (249, .invokestatic 553), (252, .ifCond .eq (23)), (255, .iload_n 1), (256, .iload_n 2), (257, .iconst 5), (258, .isub), (259, .invokestatic 553), (262, .ifCond .eq (13)), (265, .iload_n 1), (266, .iload_n 2), (267, .iconst 5), (268, .iadd), (269, .invokestatic 553), (272, .ifCond .ne (7)), (275, .iconst 1), (276, .goto 4), (279, .iconst 0), (280, .ireturn)]
def kd203 : List (Nat × Instr) := [(0, .iconst 2), (1, .iload_n 2), (2, .imul), (3, .bipush 59), (5, .isub), (6, .istore 4), (8, .iconst 2), (9, .iload_n 3), (10, .imul), (11, .bipush 71), (13, .isub), (14, .istore 5), (16, .aload_n 0), (17, .getfield 16), (20, .iload_n 1), (21, .iaload), (22, .tableswitch (245) (0) (9) #[54, 60, 75, 90, 107, 127, 150, 183, 203, 223]), (76, .iconst 0), (77, .istore 6), (79, .goto 210), (82, .iload 4), (84, .ifCond .le (7)), (87, .iconst 1), (88, .goto 4), (91, .iconst 0), (92, .istore 6), (94, .goto 195), (97, .iload 5), (99, .ifCond .le (7)), (102, .iconst 1), (103, .goto 4), (106, .iconst 0), (107, .istore 6), (109, .goto 180), (112, .iload 4), (114, .iload 5), (116, .if_icmp .le (7)), (119, .iconst 1), (120, .goto 4), (123, .iconst 0), (124, .istore 6), (126, .goto 163), (129, .iload 5), (131, .iload 4), (133, .invokestatic 550), (136, .if_icmp .le (7)), (139, .iconst 1), (140, .goto 4), (143, .iconst 0), (144, .istore 6), (146, .goto 143), (149, .iload 4), (151, .invokestatic 550), (154, .iload 5), (156, .invokestatic 550), (159, .if_icmp .le (7)), (162, .iconst 1), (163, .goto 4), (166, .iconst 0), (167, .istore 6), (169, .goto 120), (172, .iload 4), (174, .ifCond .le (7)), (177, .iconst 1), (178, .goto 4), (181, .iconst 0), (182, .iload 5), (184, .ifCond .le (7)), (187, .iconst 1), (188, .goto 4), (191, .iconst 0), (192, .if_icmp .eq (7)), (195, .iconst 1), (196, .goto 4), (199, .iconst 0), (200, .istore 6), (202, .goto 87), (205, .iload_n 2), (206, .bipush 10), (208, .idiv), (209, .iconst 1), (210, .iand), (211, .iconst 1), (212, .if_icmp .ne (7)), (215, .iconst 1), (216, .goto 4), (219, .iconst 0), (220, .istore 6), (222, .goto 67), (225, .iload_n 3), (226, .bipush 12), (228, .idiv), (229, .iconst 1), (230, .iand), (231, .iconst 1), (232, .if_icmp .ne (7)), (235, .iconst 1), (236, .goto 4), (239, .iconst 0), (240, .istore 6), (242, .goto 47), (245, .iload_n 2), (246, .iload_n 3), (247, .iadd), (248, .bipush 12), (250, .idiv), (251, .iconst 1), (252, .iand), (253, .iconst 1), (254, .if_icmp .ne (7)), (257, .iconst 1), (258, .goto 4), (261, .iconst 0), (262, .istore 6), (264, .goto 25), (267, .iload_n 2), (268, .bipush 10), (270, .idiv), (271, .iload_n 3), (272, .bipush 12), (274, .idiv), (275, .iadd), (276, .iconst 1), (277, .iand), (278, .iconst 1), (279, .if_icmp .ne (7)), (282, .iconst 1), (283, .goto 4), (286, .iconst 0), (287, .istore 6), (289, .iload 6), (291, .ifCond .eq (12)), (294, .aload_n 0), (295, .getfield 23), (298, .iload_n 1), (299, .iaload), (300, .goto 9), (303, .aload_n 0), (304, .getfield 20), (307, .iload_n 1), (308, .iaload), (309, .ireturn)]
def kd204 : List (Nat × Instr) := [(0, .aload_n 0), (1, .iload_n 1), (2, .invokevirtual 420), (5, .ifCond .eq (13)), (8, .iload_n 2), (9, .ifCond .lt (9)), (12, .iload_n 2), (13, .bipush 8), (15, .if_icmp .le (5)), (18, .iconst (-1)), (19, .ireturn), (20, .iconst 0), (21, .istore_n 3), (22, .iconst 0), (23, .istore 4), (25, .iload 4), (27, .bipush 72), (29, .if_icmp .ge (46)), (32, .iconst 0), (33, .istore 5), (35, .iload 5), (37, .bipush 60), (39, .if_icmp .ge (30)), (42, .iload_n 3), (43, .aload_n 0), (44, .iload_n 1), (45, .iload 5), (47, .iload 4), (49, .invokevirtual 575), (52, .iload_n 2), (53, .if_icmp .ne (7)), (56, .iconst 1), (57, .goto 4), (60, .iconst 0), (61, .iadd), (62, .istore_n 3), (63, .iinc 5 1), (66, .goto (-31)), (69, .iinc 4 1), (72, .goto (-47)), (75, .iload_n 3), (76, .ireturn)]
def kd205 : List (Nat × Instr) := [(0, .aload_n 0), (1, .getfield 578), (4, .bipush 100), (6, .if_icmp .ne (5)), (9, .iconst (-1)), (10, .ireturn), (11, .iload_n 2), (12, .iconst (-1)), (13, .if_icmp .ne (12)), (16, .iload_n 3), (17, .iconst (-1)), (18, .if_icmp .ne (7)), (21, .iconst 1), (22, .goto 4), (25, .iconst 0), (26, .istore 5), (28, .iload 5), (30, .ifCond .eq (15)), (33, .aload_n 0), (34, .iload 4), (36, .invokevirtual 420), (39, .ifCond .ne (52)), (42, .goto 47), (45, .aload_n 0), (46, .iload_n 2), (47, .invokevirtual 581), (50, .ifCond .eq (39)), (53, .aload_n 0), (54, .iload_n 3), (55, .invokevirtual 581), (58, .ifCond .eq (31)), (61, .aload_n 0), (62, .getfield 74), (65, .iload_n 2), (66, .baload), (67, .ifCond .eq (22)), (70, .aload_n 0), (71, .getfield 74), (74, .iload_n 3), (75, .baload), (76, .ifCond .ne (13)), (79, .aload_n 0), (80, .getfield 87), (83, .iload_n 2), (84, .iaload), (85, .iload_n 3), (86, .if_icmp .eq (5)), (89, .iconst (-1)), (90, .ireturn), (91, .aload_n 0), (92, .getfield 74), (95, .aload_n 0), (96, .getfield 578), (99, .iload_n 1), (100, .bastore), (101, .aload_n 0), (102, .getfield 78), (105, .aload_n 0), (106, .getfield 578), (109, .iload_n 2), (110, .iastore), (111, .aload_n 0), (112, .getfield 81), (115, .aload_n 0), (116, .getfield 578), (119, .iload_n 3), (120, .iastore), (121, .aload_n 0), (122, .getfield 84), (125, .aload_n 0), (126, .getfield 578), (129, .iload 5), (131, .ifCond .eq (8)), (134, .iload 4), (136, .goto 4), (139, .iconst (-1)), (140, .iastore), (141, .aload_n 0), (142, .getfield 87), (145, .aload_n 0), (146, .getfield 578), (149, .iconst (-1)), (150, .iastore), (151, .aload_n 0), (152, .aload_n 0), (153, .getfield 578), (156, .iconst 1), (157, .iadd), (158, .putfield 578), (161, .aload_n 0), (162, .getfield 578), (165, .iconst 1), (166, .isub), (167, .ireturn)]
def kd206 : List (Nat × Instr) := [(0, .iload_n 1), (1, .ifCond .lt (15)), (4, .iload_n 1), (5, .aload_n 0), (6, .getfield 578), (9, .if_icmp .ge (7)), (12, .iconst 1), (13, .goto 4), (16, .iconst 0), (17, .ireturn)]
def kd207 : List (Nat × Instr) := [(0, .aload_n 0), (1, .iload_n 1), (2, .invokevirtual 581), (5, .ifCond .eq (49)), (8, .aload_n 0), (9, .iload_n 2), (10, .invokevirtual 581), (13, .ifCond .eq (41)), (16, .aload_n 0), (17, .getfield 74), (20, .iload_n 1), (21, .baload), (22, .ifCond .eq (32)), (25, .aload_n 0), (26, .getfield 74), (29, .iload_n 2), (30, .baload), (31, .ifCond .ne (23)), (34, .aload_n 0), (35, .getfield 87), (38, .iload_n 1), (39, .iaload), (40, .iconst (-1)), (41, .if_icmp .ne (13)), (44, .aload_n 0), (45, .getfield 87), (48, .iload_n 2), (49, .iaload), (50, .iconst (-1)), (51, .if_icmp .eq (5)), (54, .iconst 0), (55, .ireturn), (56, .aload_n 0), (57, .getfield 87), (60, .iload_n 1), (61, .iload_n 2), (62, .iastore), (63, .aload_n 0), (64, .getfield 87), (67, .iload_n 2), (68, .iload_n 1), (69, .iastore), (70, .iconst 1), (71, .ireturn)]
def kd208 : List (Nat × Instr) := [(0, .aload_n 0), (1, .iload_n 1), (2, .invokevirtual 581), (5, .ifCond .ne (5)), (8, .iconst (-1)), (9, .ireturn), (10, .iconst 0), (11, .istore_n 3), (12, .iload_n 2), (13, .tableswitch (224) (0) (5) #[39, 51, 65, 135, 167, 174]), (52, .aload_n 0), (53, .iload_n 1), (54, .invokevirtual 590), (57, .aload_n 0), (58, .getfield 93), (61, .iload_n 1), (62, .iaload), (63, .ireturn), (64, .aload_n 0), (65, .iload_n 1), (66, .invokevirtual 587), (69, .ifCond .eq (7)), (72, .iconst 1), (73, .goto 4), (76, .iconst 0), (77, .ireturn), (78, .iconst 0), (79, .istore 4), (81, .iload 4), (83, .iload_n 1), (84, .if_icmp .ge (62)), (87, .aload_n 0), (88, .getfield 74), (91, .iload_n 1), (92, .baload), (93, .ifCond .eq (53)), (96, .aload_n 0), (97, .getfield 78), (100, .iload_n 1), (101, .iaload), (102, .iconst (-1)), (103, .if_icmp .eq (43)), (106, .iload_n 3), (107, .aload_n 0), (108, .getfield 74), (111, .iload 4), (113, .baload), (114, .ifCond .eq (23)), (117, .aload_n 0), (118, .getfield 78), (121, .iload 4), (123, .iaload), (124, .aload_n 0), (125, .getfield 78), (128, .iload_n 1), (129, .iaload), (130, .if_icmp .ne (7)), (133, .iconst 1), (134, .goto 4), (137, .iconst 0), (138, .iadd), (139, .istore_n 3), (140, .iinc 4 1), (143, .goto (-62)), (146, .iload_n 3), (147, .ireturn), (148, .iload_n 1), (149, .istore 4), (151, .aload_n 0), (152, .getfield 78), (155, .iload 4), (157, .iaload), (158, .iconst (-1)), (159, .if_icmp .eq (19)), (162, .iload_n 3), (163, .iconst 1), (164, .iadd), (165, .istore_n 3), (166, .aload_n 0), (167, .getfield 78), (170, .iload 4), (172, .iaload), (173, .istore 4), (175, .goto (-24)), (178, .iload_n 3), (179, .ireturn), (180, .aload_n 0), (181, .getfield 87), (184, .iload_n 1), (185, .iaload), (186, .ireturn), (187, .iconst 0), (188, .istore 4), (190, .iload 4), (192, .aload_n 0), (193, .getfield 578), (196, .if_icmp .ge (39)), (199, .iload_n 3), (200, .aload_n 0), (201, .getfield 78), (204, .iload 4), (206, .iaload), (207, .iload_n 1), (208, .if_icmp .eq (14)), (211, .aload_n 0), (212, .getfield 81), (215, .iload 4), (217, .iaload), (218, .iload_n 1), (219, .if_icmp .ne (7)), (222, .iconst 1), (223, .goto 4), (226, .iconst 0), (227, .iadd), (228, .istore_n 3), (229, .iinc 4 1), (232, .goto (-42)), (235, .iload_n 3), (236, .ireturn), (237, .iload_n 2), (238, .bipush 100), (240, .if_icmp .ge (5)), (243, .iconst (-1)), (244, .ireturn), (245, .aload_n 0), (246, .iload_n 1), (247, .invokevirtual 590), (250, .iload_n 2), (251, .bipush 100), (253, .isub), (254, .aload_n 0), (255, .getfield 93), (258, .iload_n 1), (259, .iaload), (260, .if_icmp .ge (20)), (263, .aload_n 0), (264, .getfield 90), (267, .bipush 32), (269, .iload_n 1), (270, .imul), (271, .iload_n 2), (272, .iadd), (273, .bipush 100), (275, .isub), (276, .iaload), (277, .goto 4), (280, .iconst (-1)), (281, .ireturn)]
def kd209 : List (Nat × Instr) := [(0, .iconst 0), (1, .istore_n 2), (2, .iload_n 2), (3, .iload_n 1), (4, .if_icmp .gt (86)), (7, .aload_n 0), (8, .getfield 93), (11, .iload_n 2), (12, .iconst 0), (13, .iastore), (14, .aload_n 0), (15, .getfield 78), (18, .iload_n 2), (19, .iaload), (20, .iconst (-1)), (21, .if_icmp .ne (28)), (24, .aload_n 0), (25, .getfield 90), (28, .bipush 32), (30, .iload_n 2), (31, .imul), (32, .aload_n 0), (33, .getfield 84), (36, .iload_n 2), (37, .iaload), (38, .iastore), (39, .aload_n 0), (40, .getfield 93), (43, .iload_n 2), (44, .iconst 1), (45, .iastore), (46, .goto 38), (49, .aload_n 0), (50, .iload_n 2), (51, .aload_n 0), (52, .getfield 78), (55, .iload_n 2), (56, .iaload), (57, .invokevirtual 584), (60, .aload_n 0), (61, .aload_n 0), (62, .getfield 81), (65, .iload_n 2), (66, .iaload), (67, .invokevirtual 587), (70, .ifCond .eq (14)), (73, .aload_n 0), (74, .iload_n 2), (75, .aload_n 0), (76, .getfield 81), (79, .iload_n 2), (80, .iaload), (81, .invokevirtual 584), (84, .iinc 2 1), (87, .goto (-85)), (90, .return_)]
def kd210 : List (Nat × Instr) := [(0, .iconst 0), (1, .istore_n 3), (2, .iload_n 3), (3, .aload_n 0), (4, .getfield 93), (7, .iload_n 2), (8, .iaload), (9, .if_icmp .ge (125)), (12, .aload_n 0), (13, .getfield 90), (16, .bipush 32), (18, .iload_n 2), (19, .imul), (20, .iload_n 3), (21, .iadd), (22, .iaload), (23, .istore 4), (25, .iconst 0), (26, .istore 5), (28, .iconst 0), (29, .istore 6), (31, .iload 6), (33, .aload_n 0), (34, .getfield 93), (37, .iload_n 1), (38, .iaload), (39, .if_icmp .ge (38)), (42, .iload 5), (44, .ifCond .ne (20)), (47, .aload_n 0), (48, .getfield 90), (51, .bipush 32), (53, .iload_n 1), (54, .imul), (55, .iload 6), (57, .iadd), (58, .iaload), (59, .iload 4), (61, .if_icmp .ne (7)), (64, .iconst 1), (65, .goto 4), (68, .iconst 0), (69, .istore 5), (71, .iinc 6 1), (74, .goto (-43)), (77, .iload 5), (79, .ifCond .ne (49)), (82, .aload_n 0), (83, .getfield 93), (86, .iload_n 1), (87, .iaload), (88, .bipush 32), (90, .if_icmp .ne (6)), (93, .goto 35), (96, .aload_n 0), (97, .getfield 90), (100, .bipush 32), (102, .iload_n 1), (103, .imul), (104, .aload_n 0), (105, .getfield 93), (108, .iload_n 1), (109, .iaload), (110, .iadd), (111, .iload 4), (113, .iastore), (114, .aload_n 0), (115, .getfield 93), (118, .iload_n 1), (119, .aload_n 0), (120, .getfield 93), (123, .iload_n 1), (124, .iaload), (125, .iconst 1), (126, .iadd), (127, .iastore), (128, .iinc 3 1), (131, .goto (-129)), (134, .return_)]
def kd211 : List (Nat × Instr) := [(0, .aload_n 0), (1, .getfield 74), (4, .iload_n 1), (5, .baload), (6, .ifCond .ne (13)), (9, .aload_n 0), (10, .getfield 78), (13, .iload_n 1), (14, .iaload), (15, .iconst (-1)), (16, .if_icmp .ne (5)), (19, .iconst 0), (20, .ireturn), (21, .iconst 0), (22, .istore_n 2), (23, .iload_n 2), (24, .aload_n 0), (25, .getfield 578), (28, .if_icmp .ge (35)), (31, .aload_n 0), (32, .getfield 74), (35, .iload_n 2), (36, .baload), (37, .ifCond .eq (20)), (40, .aload_n 0), (41, .getfield 78), (44, .iload_n 2), (45, .iaload), (46, .aload_n 0), (47, .getfield 78), (50, .iload_n 1), (51, .iaload), (52, .if_icmp .ne (5)), (55, .iconst 0), (56, .ireturn), (57, .iinc 2 1), (60, .goto (-37)), (63, .iconst 1), (64, .ireturn)]
def kd212 : List (Nat × Instr) := [(0, .iload_n 1), (1, .ifCond .ne (8)), (4, .aload_n 0), (5, .getfield 297), (8, .ireturn), (9, .iload_n 1), (10, .iconst 1), (11, .if_icmp .ne (8)), (14, .aload_n 0), (15, .getfield 578), (18, .ireturn), (19, .iload_n 1), (20, .iconst 2), (21, .if_icmp .ne (8)), (24, .aload_n 0), (25, .getfield 99), (28, .ireturn), (29, .iload_n 1), (30, .iconst 3), (31, .if_icmp .lt (20)), (34, .iload_n 1), (35, .bipush 7), (37, .if_icmp .ge (14)), (40, .aload_n 0), (41, .getfield 32), (44, .iload_n 1), (45, .iconst 3), (46, .isub), (47, .iaload), (48, .goto 4), (51, .iconst (-1)), (52, .ireturn)]
def kd213 : List (Nat × Instr) := [(0, .iload_n 1), (1, .iload_n 2), (2, .invokestatic 15), (5, .ifCond .ne (5)), (8, .iconst (-1)), (9, .ireturn), (10, .bipush 6), (12, .istore_n 3), (13, .iload_n 3), (14, .ifCond .lt (37)), (17, .aload_n 0), (18, .iload_n 3), (19, .invokevirtual 19), (22, .astore 4), (24, .aload 4), (26, .ifnull 19), (29, .aload 4), (31, .iload_n 1), (32, .iload_n 2), (33, .invokestatic 25), (36, .ifCond .eq (9)), (39, .aload 4), (41, .getfield 29), (44, .ireturn), (45, .iinc 3 (-1)), (48, .goto (-35)), (51, .aload_n 0), (52, .getfield 35), (55, .iload_n 1), (56, .iload_n 2), (57, .invokestatic 38), (60, .ifCond .eq (10)), (63, .aload_n 0), (64, .getfield 42), (67, .goto 7), (70, .aload_n 0), (71, .getfield 45), (74, .ireturn)]
def kd214 : List (Nat × Instr) := [(0, .iload_n 0), (1, .ifCond .lt (19)), (4, .iload_n 0), (5, .bipush 60), (7, .if_icmp .ge (13)), (10, .iload_n 1), (11, .ifCond .lt (9)), (14, .iload_n 1), (15, .bipush 72), (17, .if_icmp .lt (5)), (20, .iconst 0), (21, .ireturn), (22, .iload_n 1), (23, .bipush 36), (25, .if_icmp .lt (30)), (28, .iconst 2), (29, .iload_n 0), (30, .imul), (31, .bipush 59), (33, .isub), (34, .invokestatic 48), (37, .bipush 59), (39, .iload_n 1), (40, .bipush 36), (42, .isub), (43, .iload_n 1), (44, .bipush 36), (46, .isub), (47, .imul), (48, .bipush 22), (50, .idiv), (51, .isub), (52, .if_icmp .gt (7)), (55, .iconst 1), (56, .goto 4), (59, .iconst 0), (60, .ireturn)]
def kd215 : List (Nat × Instr) := [(0, .aload_n 0), (1, .getfield 58), (4, .lookupswitch (114) #[(0, 36), (3, 56), (5, 68)]), (40, .aload_n 0), (41, .getfield 61), (44, .iconst 2), (45, .iload_n 1), (46, .imul), (47, .bipush 59), (49, .isub), (50, .iconst 2), (51, .iload_n 2), (52, .imul), (53, .bipush 71), (55, .isub), (56, .invokestatic 64), (59, .ireturn), (60, .iload_n 2), (61, .bipush 22), (63, .if_icmp .ge (7)), (66, .iconst 1), (67, .goto 4), (70, .iconst 0), (71, .ireturn), (72, .iload_n 1), (73, .iconst 5), (74, .isub), (75, .iload_n 2), (76, .invokestatic 15), (79, .ifCond .eq (33)), (82, .iload_n 1), (83, .iconst 5), (84, .iadd), (85, .iload_n 2), (86, .invokestatic 15), (89, .ifCond .eq (23)), (92, .iload_n 1), (93, .iload_n 2), (94, .iconst 5), (95, .isub), (96, .invokestatic 15), (99, .ifCond .eq (13)), (102, .iload_n 1), (103, .iload_n 2), (104, .iconst 5), (105, .iadd), (106, .invokestatic 15), (109, .ifCond .ne (7)), (112, .iconst 1), (113, .goto 4), (116, .iconst 0), (117, .ireturn), (118, .aload_n 0), (119, .iconst 2), (120, .iload_n 1), (121, .imul), (122, .bipush 59), (124, .isub), (125, .iconst 2), (126, .iload_n 2), (127, .imul), (128, .bipush 71), (130, .isub), (131, .invokestatic 67), (134, .ireturn)]
def kd216 : List (Nat × Instr) := [(0, .iload_n 0), (1, .tableswitch (193) (8) (14) #[43, 58, 73, 90, 116, 140, 168]), (44, .iload_n 1), (45, .invokestatic 48), (48, .bipush 20), (50, .if_icmp .ge (7)), (53, .iconst 1), (54, .goto 4), (57, .iconst 0), (58, .ireturn), (59, .iload_n 2), (60, .invokestatic 48), (63, .bipush 24), (65, .if_icmp .ge (7)), (68, .iconst 1), (69, .goto 4), (72, .iconst 0), (73, .ireturn), (74, .iload_n 1), (75, .iload_n 2), (76, .isub), (77, .invokestatic 48), (80, .bipush 24), (82, .if_icmp .ge (7)), (85, .iconst 1), (86, .goto 4), (89, .iconst 0), (90, .ireturn), (91, .iload_n 2), (92, .iload_n 1), (93, .invokestatic 48), (96, .isub), (97, .invokestatic 48), (100, .bipush 20), (102, .if_icmp .ge (13)), (105, .iload_n 2), (106, .bipush (-30)), (108, .if_icmp .le (7)), (111, .iconst 1), (112, .goto 4), (115, .iconst 0), (116, .ireturn), (117, .iload_n 1), (118, .invokestatic 48), (121, .bipush 14), (123, .if_icmp .lt (12)), (126, .iload_n 2), (127, .invokestatic 48), (130, .bipush 14), (132, .if_icmp .ge (7)), (135, .iconst 1), (136, .goto 4), (139, .iconst 0), (140, .ireturn), (141, .iload_n 1), (142, .iload_n 2), (143, .isub), (144, .invokestatic 48), (147, .bipush 18), (149, .if_icmp .lt (14)), (152, .iload_n 1), (153, .iload_n 2), (154, .iadd), (155, .invokestatic 48), (158, .bipush 18), (160, .if_icmp .ge (7)), (163, .iconst 1), (164, .goto 4), (167, .iconst 0), (168, .ireturn), (169, .iconst 3), (170, .iload_n 1), (171, .invokestatic 48), (174, .imul), (175, .bipush 71), (177, .iload_n 2), (178, .isub), (179, .if_icmp .ge (13)), (182, .iload_n 2), (183, .bipush 50), (185, .if_icmp .ge (7)), (188, .iconst 1), (189, .goto 4), (192, .iconst 0), (193, .ireturn), (194, .iconst 0), (195, .ireturn)]
def kd217 : List (Nat × Instr) := [(0, .aload_n 0), (1, .invokestatic 70), (4, .istore_n 3), (5, .iconst 0), (6, .istore 4), (8, .iload 4), (10, .aload_n 0), (11, .getfield 74), (14, .if_icmp .ge (39)), (17, .aload_n 0), (18, .getfield 61), (21, .iload_n 3), (22, .iload_n 1), (23, .aload_n 0), (24, .iload_n 3), (25, .iload 4), (27, .invokestatic 77), (30, .isub), (31, .iload_n 2), (32, .aload_n 0), (33, .iload 4), (35, .invokestatic 81), (38, .isub), (39, .invokestatic 85), (42, .ifCond .eq (5)), (45, .iconst 1), (46, .ireturn), (47, .iinc 4 1), (50, .goto (-42)), (53, .iconst 0), (54, .ireturn)]
def kd218 : List (Nat × Instr) := [(0, .aload_n 0), (1, .getfield 58), (4, .bipush 6), (6, .if_icmp .ne (6)), (9, .bipush 8), (11, .ireturn), (12, .aload_n 0), (13, .getfield 74), (16, .iconst 1), (17, .if_icmp .ne (6)), (20, .bipush 16), (22, .ireturn), (23, .aload_n 0), (24, .getfield 74), (27, .iconst 3), (28, .if_icmp .gt (8)), (31, .bipush 12), (33, .goto 5), (36, .bipush 10), (38, .ireturn)]
def kd219 : List (Nat × Instr) := [(0, .aload_n 0), (1, .getfield 58), (4, .iconst 2), (5, .if_icmp .ne (25)), (8, .getstatic 89), (11, .aload_n 0), (12, .getfield 74), (15, .aload_n 0), (16, .getfield 74), (19, .iconst 1), (20, .isub), (21, .imul), (22, .iconst 2), (23, .idiv), (24, .iload_n 2), (25, .iadd), (26, .invokestatic 93), (29, .ireturn), (30, .iconst 2), (31, .iload_n 2), (32, .imul), (33, .aload_n 0), (34, .getfield 74), (37, .iconst 1), (38, .isub), (39, .isub), (40, .iload_n 1), (41, .iconst 2), (42, .iadd), (43, .imul), (44, .ireturn)]
def kd220 : List (Nat × Instr) := [(0, .aload_n 0), (1, .getfield 58), (4, .tableswitch (64) (2) (6) #[36, 64, 58, 64, 61]), (40, .getstatic 97), (43, .aload_n 0), (44, .getfield 74), (47, .aload_n 0), (48, .getfield 74), (51, .iconst 1), (52, .isub), (53, .imul), (54, .iconst 2), (55, .idiv), (56, .iload_n 1), (57, .iadd), (58, .invokestatic 93), (61, .ireturn), (62, .bipush (-49)), (64, .ireturn), (65, .bipush (-30)), (67, .ireturn), (68, .iconst 0), (69, .ireturn)]
def kd221 : List (Nat × Instr) := [(0, .iload_n 0), (1, .invokestatic 100), (4, .tableswitch (88) (3) (5) #[28, 50, 69]), (32, .iload_n 2), (33, .invokestatic 48), (36, .iload_n 1), (37, .if_icmp .ge (15)), (40, .iload_n 3), (41, .invokestatic 48), (44, .iload_n 1), (45, .if_icmp .ge (7)), (48, .iconst 1), (49, .goto 4), (52, .iconst 0), (53, .ireturn), (54, .iload_n 2), (55, .invokestatic 48), (58, .iload_n 3), (59, .invokestatic 48), (62, .iadd), (63, .iload_n 1), (64, .if_icmp .ge (7)), (67, .iconst 1), (68, .goto 4), (71, .iconst 0), (72, .ireturn), (73, .iload_n 2), (74, .iload_n 2), (75, .imul), (76, .iload_n 3), (77, .iload_n 3), (78, .imul), (79, .iadd), (80, .iload_n 1), (81, .iload_n 1), (82, .imul), (83, .if_icmp .ge (7)), (86, .iconst 1), (87, .goto 4), (90, .iconst 0), (91, .ireturn), (92, .iload_n 0), (93, .iload_n 1), (94, .iload_n 2), (95, .iload_n 3), (96, .invokestatic 103), (99, .ireturn)]
def kd222 : List (Nat × Instr) := [(0, .iload_n 2), (1, .invokestatic 48), (4, .istore 4), (6, .iload_n 3), (7, .invokestatic 48), (10, .istore 5), (12, .iload_n 2), (13, .iload_n 2), (14, .imul), (15, .iload_n 3), (16, .iload_n 3), (17, .imul), (18, .iadd), (19, .istore 6), (21, .iload_n 3), (22, .iload_n 1), (23, .iconst 2), (24, .idiv), (25, .iadd), (26, .istore 7), (28, .iload_n 0), (29, .tableswitch (231) (24) (30) #[43, 74, 105, 129, 143, 163, 197]), (72, .iload 4), (74, .iload 5), (76, .iadd), (77, .iload_n 1), (78, .if_icmp .lt (19)), (81, .iload 4), (83, .iload_n 1), (84, .iconst 2), (85, .idiv), (86, .if_icmp .ge (15)), (89, .iload 5), (91, .iload_n 1), (92, .iconst 2), (93, .idiv), (94, .if_icmp .ge (7)), (97, .iconst 1), (98, .goto 4), (101, .iconst 0), (102, .ireturn), (103, .iload 6), (105, .iload_n 1), (106, .iload_n 1), (107, .imul), (108, .if_icmp .ge (24)), (111, .iload_n 2), (112, .iload_n 2), (113, .imul), (114, .iload 7), (116, .iload 7), (118, .imul), (119, .iadd), (120, .iload_n 1), (121, .iload_n 1), (122, .imul), (123, .iconst 2), (124, .idiv), (125, .if_icmp .lt (7)), (128, .iconst 1), (129, .goto 4), (132, .iconst 0), (133, .ireturn), (134, .iload 6), (136, .iload_n 1), (137, .iload_n 1), (138, .imul), (139, .if_icmp .ge (17)), (142, .iload 6), (144, .iload_n 1), (145, .iload_n 1), (146, .imul), (147, .iconst 4), (148, .idiv), (149, .if_icmp .lt (7)), (152, .iconst 1), (153, .goto 4), (156, .iconst 0), (157, .ireturn), (158, .iload 6), (160, .iload_n 1), (161, .iload_n 1), (162, .imul), (163, .if_icmp .ge (7)), (166, .iconst 1), (167, .goto 4), (170, .iconst 0), (171, .ireturn), (172, .iconst 2), (173, .iload 4), (175, .imul), (176, .iload_n 1), (177, .if_icmp .ge (13)), (180, .iload 5), (182, .iload_n 1), (183, .if_icmp .ge (7)), (186, .iconst 1), (187, .goto 4), (190, .iconst 0), (191, .ireturn), (192, .iload 4), (194, .iload_n 1), (195, .if_icmp .ge (29)), (198, .iload 5), (200, .iload_n 1), (201, .if_icmp .ge (23)), (204, .iload_n 3), (205, .ifCond .gt (15)), (208, .iload_n 2), (209, .bipush 64), (211, .iadd), (212, .iconst 4), (213, .idiv), (214, .invokestatic 54), (217, .ifCond .eq (7)), (220, .iconst 1), (221, .goto 4), (224, .iconst 0), (225, .ireturn), (226, .iload 4), (228, .iload_n 1), (229, .if_icmp .ge (29)), (232, .iload 5), (234, .iconst 2), (235, .if_icmp .lt (19)), (238, .iload_n 3), (239, .ifCond .le (19)), (242, .iload_n 2), (243, .bipush 64), (245, .iadd), (246, .iconst 4), (247, .idiv), (248, .invokestatic 54), (251, .ifCond .eq (7)), (254, .iconst 1), (255, .goto 4), (258, .iconst 0), (259, .ireturn), (260, .iconst 0), (261, .ireturn)]
def kd223 : List (Nat × Instr) := [(0, .iload_n 0), (1, .iconst 1), (2, .iand), (3, .iconst 1), (4, .if_icmp .ne (7)), (7, .iconst 1), (8, .goto 4), (11, .iconst 0), (12, .ireturn)]
def kd224 : List (Nat × Instr) := [(0, .iconst 2), (1, .iload_n 1), (2, .imul), (3, .bipush 59), (5, .isub), (6, .istore_n 3), (7, .iconst 2), (8, .iload_n 2), (9, .imul), (10, .bipush 71), (12, .isub), (13, .istore 4), (15, .iload_n 0), (16, .tableswitch (189) (1) (10) #[56, 66, 77, 89, 104, 122, 150, 158, 166, 176]), (72, .iload_n 3), (73, .ifCond .le (7)), (76, .iconst 1), (77, .goto 4), (80, .iconst 0), (81, .ireturn), (82, .iload 4), (84, .ifCond .le (7)), (87, .iconst 1), (88, .goto 4), (91, .iconst 0), (92, .ireturn), (93, .iload_n 3), (94, .iload 4), (96, .if_icmp .le (7)), (99, .iconst 1), (100, .goto 4), (103, .iconst 0), (104, .ireturn), (105, .iload 4), (107, .iload_n 3), (108, .invokestatic 48), (111, .if_icmp .le (7)), (114, .iconst 1), (115, .goto 4), (118, .iconst 0), (119, .ireturn), (120, .iload_n 3), (121, .invokestatic 48), (124, .iload 4), (126, .invokestatic 48), (129, .if_icmp .le (7)), (132, .iconst 1), (133, .goto 4), (136, .iconst 0), (137, .ireturn), (138, .iload_n 3), (139, .ifCond .le (7)), (142, .iconst 1), (143, .goto 4), (146, .iconst 0), (147, .iload 4), (149, .ifCond .le (7)), (152, .iconst 1), (153, .goto 4), (156, .iconst 0), (157, .if_icmp .eq (7)), (160, .iconst 1), (161, .goto 4), (164, .iconst 0), (165, .ireturn), (166, .iload_n 1), (167, .bipush 10), (169, .idiv), (170, .invokestatic 54), (173, .ireturn), (174, .iload_n 2), (175, .bipush 12), (177, .idiv), (178, .invokestatic 54), (181, .ireturn), (182, .iload_n 1), (183, .iload_n 2), (184, .iadd), (185, .bipush 12), (187, .idiv), (188, .invokestatic 54), (191, .ireturn), (192, .iload_n 1), (193, .bipush 10), (195, .idiv), (196, .iload_n 2), (197, .bipush 12), (199, .idiv), (200, .iadd), (201, .invokestatic 54), (204, .ireturn), (205, .iconst 0), (206, .ireturn)]
def kd225 : List (Nat × Instr) := [(0, .bipush 9), (2, .newarray .int), (4, .astore_n 1), (5, .iconst 0), (6, .istore_n 2), (7, .iload_n 2), (8, .bipush 72), (10, .if_icmp .ge (51)), (13, .iconst 0), (14, .istore_n 3), (15, .iload_n 3), (16, .bipush 60), (18, .if_icmp .ge (37)), (21, .aload_n 0), (22, .iload_n 3), (23, .iload_n 2), (24, .invokestatic 11), (27, .istore 4), (29, .iload 4), (31, .ifCond .lt (18)), (34, .iload 4), (36, .bipush 9), (38, .if_icmp .ge (11)), (41, .aload_n 1), (42, .iload 4), (44, .dup2), (45, .iaload), (46, .iconst 1), (47, .iadd), (48, .iastore), (49, .iinc 3 1), (52, .goto (-37)), (55, .iinc 2 1), (58, .goto (-51)), (61, .aload_n 1), (62, .areturn)]
def kd226 : List (Nat × Instr) := [(0, .aload_n 0), (1, .invokevirtual 492), (4, .ifCond .eq (13)), (7, .aload_n 0), (8, .getfield 9), (11, .invokestatic 299), (14, .goto 10), (17, .aload_n 0), (18, .getfield 9), (21, .invokestatic 303), (24, .areturn)]
def kd227 : List (Nat × Instr) := [(0, .getstatic 38), (3, .ifCond .eq (14)), (6, .aload_n 0), (7, .getfield 15), (10, .ifCond .ne (7)), (13, .iconst 1), (14, .goto 4), (17, .iconst 0), (18, .ireturn)]
def kd228 : List (Nat × Instr) := [(0, .aload_n 0), (1, .getfield 9), (4, .arraylength), (5, .aload_n 0), (6, .invokevirtual 335), (9, .ishr), (10, .ireturn)]
def kd229 : List (Nat × Instr) := [(0, .getstatic 38), (3, .ifCond .eq (10)), (6, .aload_n 0), (7, .getfield 15), (10, .goto 4), (13, .iconst 1), (14, .ireturn)]
def kd230 : List (Nat × Instr) := [(0, .aload_n 0), (1, .invokevirtual 492), (4, .ifCond .eq (12)), (7, .aload_n 0), (8, .getfield 9), (11, .iload_n 1), (12, .invokestatic 495), (15, .ireturn), (16, .aload_n 0), (17, .getfield 9), (20, .iload_n 1), (21, .invokestatic 498), (24, .ireturn)]
def kd231 : List (Nat × Instr) := [(0, .aload_n 0), (1, .iload_n 1), (2, .iconst 0), (3, .invokevirtual 633), (6, .ireturn)]
def kd232 : List (Nat × Instr) := [(0, .aload_n 0), (1, .invokevirtual 492), (4, .ifCond .eq (19)), (7, .aload_n 0), (8, .getfield 9), (11, .iload_n 1), (12, .iload_n 2), (13, .aload_n 0), (14, .invokevirtual 505), (17, .invokestatic 637), (20, .goto 16), (23, .aload_n 0), (24, .getfield 9), (27, .iload_n 1), (28, .iload_n 2), (29, .aload_n 0), (30, .invokevirtual 505), (33, .invokestatic 640), (36, .ireturn)]
def kd233 : List (Nat × Instr) := [(0, .aload_n 0), (1, .arraylength), (2, .newarray .char), (4, .astore_n 1), (5, .aload_n 0), (6, .iconst 0), (7, .aload_n 1), (8, .iconst 0), (9, .aload_n 0), (10, .arraylength), (11, .invokestatic 13), (14, .aload_n 1), (15, .areturn)]
def kd234 : List (Nat × Instr) := [(0, .iconst 0), (1, .istore 5), (3, .iload 5), (5, .iload 4), (7, .if_icmp .ge (26)), (10, .aload_n 2), (11, .iload_n 3), (12, .iinc 3 1), (15, .aload_n 0), (16, .iload_n 1), (17, .iinc 1 1), (20, .baload), (21, .sipush 255), (24, .iand), (25, .i2c), (26, .castore), (27, .iinc 5 1), (30, .goto (-27)), (33, .return_)]
def kd235 : List (Nat × Instr) := [(0, .iload_n 1), (1, .aload_n 0), (2, .arraylength), (3, .invokestatic 9), (6, .aload_n 0), (7, .iload_n 1), (8, .baload), (9, .sipush 255), (12, .iand), (13, .i2c), (14, .ireturn)]
def kd236 : List (Nat × Instr) := [(0, .iload_n 1), (1, .invokestatic 88), (4, .ifCond .ne (5)), (7, .iconst (-1)), (8, .ireturn), (9, .iload_n 2), (10, .iconst 0), (11, .invokestatic 92), (14, .istore_n 2), (15, .iload_n 3), (16, .aload_n 0), (17, .arraylength), (18, .invokestatic 38), (21, .istore_n 3), (22, .iload_n 2), (23, .iload_n 3), (24, .if_icmp .lt (5)), (27, .iconst (-1)), (28, .ireturn), (29, .aload_n 0), (30, .iload_n 1), (31, .iload_n 2), (32, .iload_n 3), (33, .invokestatic 95), (36, .ireturn)]
def kd237 : List (Nat × Instr) := [(0, .iload_n 0), (1, .ifCond .lt (14)), (4, .iload_n 0), (5, .sipush 255), (8, .if_icmp .gt (7)), (11, .iconst 1), (12, .goto 4), (15, .iconst 0), (16, .ireturn)]
def kd238 : List (Nat × Instr) := [(0, .iload_n 1), (1, .i2b), (2, .istore 4), (4, .iload_n 2), (5, .istore 5), (7, .iload 5), (9, .iload_n 3), (10, .if_icmp .ge (21)), (13, .aload_n 0), (14, .iload 5), (16, .baload), (17, .iload 4), (19, .if_icmp .ne (6)), (22, .iload 5), (24, .ireturn), (25, .iinc 5 1), (28, .goto (-21)), (31, .iconst (-1)), (32, .ireturn)]
/-- a method: its name, bytes, locals, answer; own class, parameters, 0 static 1 instance 2 constructor, what it answers (0 nothing, 1 int, 2 small int, 3 long, 5 + t a reference); its code -/
abbrev MRow : Type := MethodName × ByteArray × Nat × Option FieldType × Nat × Nat × Nat × Nat × List (Nat × Instr)
def mtab0 : List MRow := [(⟨"HeraldDesk$Bench", "<init>", "()V"⟩, prog_2_method_1_code, 2, (Option.none : Option FieldType), 0, 0, 2, 0, kd0),
  (⟨"HeraldDesk$Bench", "seatDraft", "(I)V"⟩, prog_2_method_2_code, 3, (Option.none : Option FieldType), 0, 1, 1, 0, kd1),
  (⟨"HeraldDesk$Bench", "bodiesOf", "(I)I"⟩, prog_2_method_3_code, 2, (Option.some FieldType.int), 0, 1, 1, 1, kd2),
  (⟨"HeraldDesk$Bench", "numberOf", "(LHeraldDesk$Shield;LHeraldDesk$Part;II)I"⟩, prog_2_method_5_code, 10, (Option.some FieldType.int), 0, 4, 1, 1, kd3),
  (⟨"HeraldDesk$Bench", "packOfSeat", "(II)LHeraldDesk$Pack;"⟩, prog_2_method_6_code, 3, (Option.some (FieldType.object "HeraldDesk$Pack")), 0, 2, 1, 6, kd4),
  (⟨"HeraldDesk$Bench", "kindInSeat", "(II)I"⟩, prog_2_method_7_code, 4, (Option.some FieldType.int), 0, 2, 0, 1, kd5),
  (⟨"HeraldDesk$Bench", "run", "(LHeraldDesk$Pack;ILHeraldDesk$Shield;LHeraldDesk$Part;I)I"⟩, prog_2_method_8_code, 9, (Option.some FieldType.int), 0, 5, 1, 1, kd6),
  (⟨"HeraldDesk$Bench", "combine", "(III)I"⟩, prog_2_method_9_code, 3, (Option.some FieldType.int), 0, 3, 0, 1, kd7),
  (⟨"HeraldDesk$Bench", "valueOf", "(ILHeraldDesk$Shield;LHeraldDesk$Part;I)I"⟩, prog_2_method_10_code, 4, (Option.some FieldType.int), 0, 4, 0, 1, kd8),
  (⟨"HeraldDesk$Bench", "choice", "(III)I"⟩, prog_2_method_4_code, 6, (Option.some FieldType.int), 0, 3, 1, 1, kd9),
  (⟨"HeraldDesk$Pack", "<init>", "()V"⟩, prog_3_method_1_code, 1, (Option.none : Option FieldType), 1, 0, 2, 0, kd10),
  (⟨"HeraldDesk$Pack", "clear", "()V"⟩, prog_3_method_2_code, 1, (Option.none : Option FieldType), 1, 0, 1, 0, kd11),
  (⟨"HeraldDesk$Pack", "isFull", "()Z"⟩, prog_3_method_3_code, 1, (Option.some FieldType.boolean), 1, 0, 1, 2, kd12),
  (⟨"HeraldDesk$Pack", "find", "(II)I"⟩, prog_3_method_6_code, 4, (Option.some FieldType.int), 1, 2, 1, 1, kd13),
  (⟨"HeraldDesk$Pack", "open", "(II)V"⟩, prog_3_method_4_code, 3, (Option.none : Option FieldType), 1, 2, 1, 0, kd14),
  (⟨"HeraldDesk$Pack", "addStep", "(I)V"⟩, prog_3_method_5_code, 2, (Option.none : Option FieldType), 1, 1, 1, 0, kd15),
  (⟨"HeraldDesk$PackReader", "<init>", "(LHeraldDesk$Tokens;)V"⟩, prog_4_method_1_code, 2, (Option.none : Option FieldType), 2, 1, 2, 0, kd16),
  (⟨"HeraldDesk$PackReader", "fill", "(LHeraldDesk$Pack;)Z"⟩, prog_4_method_2_code, 3, (Option.some FieldType.boolean), 2, 1, 1, 2, kd17),
  (⟨"HeraldDesk$PackReader", "readBody", "(LHeraldDesk$Pack;)Z"⟩, prog_4_method_3_code, 4, (Option.some FieldType.boolean), 2, 1, 1, 2, kd18),
  (⟨"HeraldDesk$PackReader", "readExpression", "(LHeraldDesk$Pack;I)Z"⟩, prog_4_method_4_code, 5, (Option.some FieldType.boolean), 2, 2, 1, 2, kd19),
  (⟨"HeraldDesk$PackReader", "readTerm", "(LHeraldDesk$Pack;I)Z"⟩, prog_4_method_5_code, 5, (Option.some FieldType.boolean), 2, 2, 1, 2, kd20),
  (⟨"HeraldDesk$PackReader", "readFactor", "(LHeraldDesk$Pack;I)Z"⟩, prog_4_method_6_code, 5, (Option.some FieldType.boolean), 2, 2, 1, 2, kd21),
  (⟨"HeraldDesk$Part", "<init>", "(III)V"⟩, prog_6_method_1_code, 4, (Option.none : Option FieldType), 3, 3, 2, 0, kd22),
  (⟨"HeraldDesk$Part", "allows", "(II)Z"⟩, prog_6_method_5_code, 2, (Option.some FieldType.boolean), 3, 2, 0, 2, kd23),
  (⟨"HeraldDesk$Part", "isLike", "(LHeraldDesk$Part;)Z"⟩, prog_6_method_4_code, 3, (Option.some FieldType.boolean), 3, 1, 1, 2, kd24),
  (⟨"HeraldDesk$Part", "detail", "(I)I"⟩, prog_6_method_2_code, 2, (Option.some FieldType.int), 3, 1, 1, 1, kd25),
  (⟨"HeraldDesk$Part", "dutyCount", "()I"⟩, prog_6_method_3_code, 3, (Option.some FieldType.int), 3, 0, 1, 1, kd26),
  (⟨"HeraldDesk$Part", "firstDuty", "()I"⟩, prog_6_method_6_code, 2, (Option.some FieldType.int), 3, 0, 1, 1, kd27),
  (⟨"HeraldDesk$Part", "lastDuty", "()I"⟩, prog_6_method_7_code, 2, (Option.some FieldType.int), 3, 0, 1, 1, kd28),
  (⟨"HeraldDesk$Pen", "<init>", "()V"⟩, prog_7_method_1_code, 1, (Option.none : Option FieldType), 4, 0, 2, 0, kd29),
  (⟨"HeraldDesk$Pen", "writeShield", "(LHeraldDesk$Shield;)I"⟩, prog_7_method_2_code, 4, (Option.some FieldType.int), 4, 1, 1, 1, kd30),
  (⟨"HeraldDesk$Pen", "putField", "(LHeraldDesk$Shield;)V"⟩, prog_7_method_4_code, 2, (Option.none : Option FieldType), 4, 1, 1, 0, kd31),
  (⟨"HeraldDesk$Pen", "putWord", "(Ljava/lang/String;I)V"⟩, prog_7_method_8_code, 5, (Option.none : Option FieldType), 4, 2, 1, 0, kd32),
  (⟨"HeraldDesk$Pen", "put", "(C)V"⟩, prog_7_method_9_code, 2, (Option.none : Option FieldType), 4, 1, 1, 0, kd33),
  (⟨"HeraldDesk$Pen", "putPart", "(LHeraldDesk$Part;)V"⟩, prog_7_method_5_code, 2, (Option.none : Option FieldType), 4, 1, 1, 0, kd34),
  (⟨"HeraldDesk$Pen", "putName", "(LHeraldDesk$Part;)V"⟩, prog_7_method_6_code, 2, (Option.none : Option FieldType), 4, 1, 1, 0, kd35),
  (⟨"HeraldDesk$Pen", "putDuties", "(LHeraldDesk$Part;)V"⟩, prog_7_method_7_code, 3, (Option.none : Option FieldType), 4, 1, 1, 0, kd36),
  (⟨"HeraldDesk$Pen", "byteAt", "(I)I"⟩, prog_7_method_3_code, 2, (Option.some FieldType.int), 4, 1, 1, 1, kd37),
  (⟨"HeraldDesk$Person", "<init>", "(IZLHeraldDesk$Person;LHeraldDesk$Person;)V"⟩, prog_8_method_2_code, 5, (Option.none : Option FieldType), 5, 4, 2, 0, kd38),
  (⟨"HeraldDesk$Person", "<init>", "(IZI)V"⟩, prog_8_method_1_code, 4, (Option.none : Option FieldType), 5, 3, 2, 0, kd39)]
def mtab1 : List MRow := [(⟨"HeraldDesk$Person", "gatherQuarterings", "()V"⟩, prog_8_method_4_code, 1, (Option.none : Option FieldType), 5, 0, 1, 0, kd40),
  (⟨"HeraldDesk$Person", "addQuartering", "(I)V"⟩, prog_8_method_7_code, 4, (Option.none : Option FieldType), 5, 1, 1, 0, kd41),
  (⟨"HeraldDesk$Person", "addQuarteringsOf", "(LHeraldDesk$Person;)V"⟩, prog_8_method_6_code, 3, (Option.none : Option FieldType), 5, 1, 1, 0, kd42),
  (⟨"HeraldDesk$Person", "isHeiress", "()Z"⟩, prog_8_method_3_code, 1, (Option.some FieldType.boolean), 5, 0, 1, 2, kd43),
  (⟨"HeraldDesk$Person", "quarteringAt", "(I)I"⟩, prog_8_method_5_code, 2, (Option.some FieldType.int), 5, 1, 1, 1, kd44),
  (⟨"HeraldDesk$Register", "<init>", "()V"⟩, prog_9_method_1_code, 1, (Option.none : Option FieldType), 6, 0, 2, 0, kd45),
  (⟨"HeraldDesk$Register", "addChild", "(ZII)I"⟩, prog_9_method_3_code, 6, (Option.some FieldType.int), 6, 3, 1, 1, kd46),
  (⟨"HeraldDesk$Register", "personAt", "(I)LHeraldDesk$Person;"⟩, prog_9_method_6_code, 2, (Option.some (FieldType.object "HeraldDesk$Person")), 6, 1, 1, 10, kd47),
  (⟨"HeraldDesk$Register", "addFounder", "(ZI)I"⟩, prog_9_method_2_code, 3, (Option.some FieldType.int), 6, 2, 1, 1, kd48),
  (⟨"HeraldDesk$Register", "join", "(II)Z"⟩, prog_9_method_4_code, 5, (Option.some FieldType.boolean), 6, 2, 1, 2, kd49),
  (⟨"HeraldDesk$Register", "detail", "(II)I"⟩, prog_9_method_5_code, 4, (Option.some FieldType.int), 6, 2, 1, 1, kd50),
  (⟨"HeraldDesk$Register", "gather", "()V"⟩, prog_9_method_7_code, 2, (Option.none : Option FieldType), 6, 0, 1, 0, kd51),
  (⟨"HeraldDesk$Shield", "<init>", "()V"⟩, prog_10_method_1_code, 1, (Option.none : Option FieldType), 7, 0, 2, 0, kd52),
  (⟨"HeraldDesk$Shield", "setPart", "(LHeraldDesk$Part;)V"⟩, prog_10_method_3_code, 2, (Option.none : Option FieldType), 7, 1, 1, 0, kd53),
  (⟨"HeraldDesk$Shield", "differences", "(LHeraldDesk$Shield;)I"⟩, prog_10_method_6_code, 5, (Option.some FieldType.int), 7, 1, 1, 1, kd54),
  (⟨"HeraldDesk$Shield", "samePart", "(LHeraldDesk$Part;LHeraldDesk$Part;)Z"⟩, prog_10_method_10_code, 2, (Option.some FieldType.boolean), 7, 2, 0, 2, kd55),
  (⟨"HeraldDesk$Shield", "partAt", "(I)LHeraldDesk$Part;"⟩, prog_10_method_2_code, 2, (Option.some (FieldType.object "HeraldDesk$Part")), 7, 1, 1, 8, kd56),
  (⟨"HeraldDesk$Shield", "detail", "(I)I"⟩, prog_10_method_5_code, 2, (Option.some FieldType.int), 7, 1, 1, 1, kd57),
  (⟨"HeraldDesk$Shield", "partCount", "()I"⟩, prog_10_method_9_code, 3, (Option.some FieldType.int), 7, 0, 1, 1, kd58),
  (⟨"HeraldDesk$Shield", "partInOrder", "(I)LHeraldDesk$Part;"⟩, prog_10_method_4_code, 4, (Option.some (FieldType.object "HeraldDesk$Part")), 7, 1, 1, 8, kd59),
  (⟨"HeraldDesk$Shield", "sortBelow", "(LHeraldDesk$Part;)I"⟩, prog_10_method_7_code, 3, (Option.some FieldType.int), 7, 1, 1, 1, kd60),
  (⟨"HeraldDesk$Shield", "fieldSort", "()I"⟩, prog_10_method_8_code, 2, (Option.some FieldType.int), 7, 0, 1, 1, kd61),
  (⟨"HeraldDesk$ShieldReader", "<init>", "(LHeraldDesk$Tokens;)V"⟩, prog_11_method_1_code, 2, (Option.none : Option FieldType), 8, 1, 2, 0, kd62),
  (⟨"HeraldDesk$ShieldReader", "readShield", "()LHeraldDesk$Shield;"⟩, prog_11_method_2_code, 4, (Option.some (FieldType.object "HeraldDesk$Shield")), 8, 0, 1, 12, kd63),
  (⟨"HeraldDesk$ShieldReader", "readField", "(LHeraldDesk$Shield;)Z"⟩, prog_11_method_3_code, 3, (Option.some FieldType.boolean), 8, 1, 1, 2, kd64),
  (⟨"HeraldDesk$ShieldReader", "readMember", "(LHeraldDesk$Shield;I)I"⟩, prog_11_method_4_code, 5, (Option.some FieldType.int), 8, 2, 1, 1, kd65),
  (⟨"HeraldDesk$ShieldReader", "readOn", "(LHeraldDesk$Shield;I)I"⟩, prog_11_method_6_code, 4, (Option.some FieldType.int), 8, 2, 1, 1, kd66),
  (⟨"HeraldDesk$ShieldReader", "readCharges", "(LHeraldDesk$Shield;II)I"⟩, prog_11_method_10_code, 6, (Option.some FieldType.int), 8, 3, 1, 1, kd67),
  (⟨"HeraldDesk$ShieldReader", "readAttitude", "(LHeraldDesk$Part;)Z"⟩, prog_11_method_11_code, 4, (Option.some FieldType.boolean), 8, 1, 1, 2, kd68),
  (⟨"HeraldDesk$ShieldReader", "readTincture", "(LHeraldDesk$Part;)Z"⟩, prog_11_method_12_code, 2, (Option.some FieldType.boolean), 8, 1, 1, 2, kd69),
  (⟨"HeraldDesk$ShieldReader", "readDuties", "(LHeraldDesk$Part;)Z"⟩, prog_11_method_13_code, 3, (Option.some FieldType.boolean), 8, 1, 1, 2, kd70),
  (⟨"HeraldDesk$ShieldReader", "latestPlace", "(I)I"⟩, prog_11_method_5_code, 1, (Option.some FieldType.int), 8, 1, 0, 1, kd71),
  (⟨"HeraldDesk$ShieldReader", "readBordure", "(LHeraldDesk$Shield;)I"⟩, prog_11_method_7_code, 3, (Option.some FieldType.int), 8, 1, 1, 1, kd72),
  (⟨"HeraldDesk$ShieldReader", "readPlain", "(LHeraldDesk$Shield;II)I"⟩, prog_11_method_9_code, 5, (Option.some FieldType.int), 8, 3, 1, 1, kd73),
  (⟨"HeraldDesk$ShieldReader", "readMark", "(LHeraldDesk$Shield;)I"⟩, prog_11_method_8_code, 3, (Option.some FieldType.int), 8, 1, 1, 1, kd74),
  (⟨"HeraldDesk$Tokens", "<init>", "()V"⟩, prog_12_method_1_code, 1, (Option.none : Option FieldType), 9, 0, 2, 0, kd75),
  (⟨"HeraldDesk$Tokens", "begin", "([CI)V"⟩, prog_12_method_2_code, 3, (Option.none : Option FieldType), 9, 2, 1, 0, kd76),
  (⟨"HeraldDesk$Tokens", "advance", "()V"⟩, prog_12_method_3_code, 1, (Option.none : Option FieldType), 9, 0, 1, 0, kd77),
  (⟨"HeraldDesk$Tokens", "atEnd", "()Z"⟩, prog_12_method_4_code, 1, (Option.some FieldType.boolean), 9, 0, 1, 2, kd78),
  (⟨"HeraldDesk$Tokens", "takeWord", "(Ljava/lang/String;)Z"⟩, prog_12_method_7_code, 2, (Option.some FieldType.boolean), 9, 1, 1, 2, kd79)]
def mtab2 : List MRow := [(⟨"HeraldDesk$Tokens", "take", "(Ljava/lang/String;)I"⟩, prog_12_method_6_code, 3, (Option.some FieldType.int), 9, 1, 1, 1, kd80),
  (⟨"HeraldDesk$Tokens", "among", "(Ljava/lang/String;)I"⟩, prog_12_method_5_code, 7, (Option.some FieldType.int), 9, 1, 1, 1, kd81),
  (⟨"HeraldDesk$Tokens", "number", "(I)I"⟩, prog_12_method_10_code, 4, (Option.some FieldType.int), 9, 1, 1, 1, kd82),
  (⟨"HeraldDesk$Tokens", "takeByte", "(C)Z"⟩, prog_12_method_8_code, 2, (Option.some FieldType.boolean), 9, 1, 1, 2, kd83),
  (⟨"HeraldDesk$Tokens", "signNumber", "()I"⟩, prog_12_method_9_code, 1, (Option.some FieldType.int), 9, 0, 1, 1, kd84),
  (⟨"HeraldDesk", "<init>", "()V"⟩, prog_1_method_1_code, 1, (Option.none : Option FieldType), 10, 0, 2, 0, kd85),
  (⟨"HeraldDesk", "isRule", "(I)Z"⟩, prog_1_method_23_code, 1, (Option.some FieldType.boolean), 10, 1, 0, 2, kd86),
  (⟨"HeraldDesk", "feed", "(IIIII)I"⟩, prog_1_method_2_code, 6, (Option.some FieldType.int), 10, 5, 1, 1, kd87),
  (⟨"HeraldDesk", "layOnTape", "(I)V"⟩, prog_1_method_19_code, 3, (Option.none : Option FieldType), 10, 1, 1, 0, kd88),
  (⟨"HeraldDesk", "read", "(I)I"⟩, prog_1_method_3_code, 3, (Option.some FieldType.int), 10, 1, 1, 1, kd89),
  (⟨"HeraldDesk", "isCharge", "(I)Z"⟩, prog_1_method_27_code, 1, (Option.some FieldType.boolean), 10, 1, 0, 2, kd90),
  (⟨"HeraldDesk", "refusal", "()I"⟩, prog_1_method_20_code, 1, (Option.some FieldType.int), 10, 0, 1, 1, kd91),
  (⟨"HeraldDesk", "enter", "(LHeraldDesk$Shield;)I"⟩, prog_1_method_21_code, 3, (Option.some FieldType.int), 10, 1, 1, 1, kd92),
  (⟨"HeraldDesk", "pack", "(II)I"⟩, prog_1_method_4_code, 3, (Option.some FieldType.int), 10, 2, 1, 1, kd93),
  (⟨"HeraldDesk", "isOffice", "(I)Z"⟩, prog_1_method_24_code, 1, (Option.some FieldType.boolean), 10, 1, 0, 2, kd94),
  (⟨"HeraldDesk", "write", "(I)I"⟩, prog_1_method_5_code, 3, (Option.some FieldType.int), 10, 1, 1, 1, kd95),
  (⟨"HeraldDesk", "shieldAt", "(I)LHeraldDesk$Shield;"⟩, prog_1_method_22_code, 2, (Option.some (FieldType.object "HeraldDesk$Shield")), 10, 1, 1, 12, kd96),
  (⟨"HeraldDesk", "octet", "(I)I"⟩, prog_1_method_6_code, 2, (Option.some FieldType.int), 10, 1, 1, 1, kd97),
  (⟨"HeraldDesk", "look", "(II)I"⟩, prog_1_method_7_code, 5, (Option.some FieldType.int), 10, 2, 1, 1, kd98),
  (⟨"HeraldDesk", "judge", "(III)I"⟩, prog_1_method_8_code, 8, (Option.some FieldType.int), 10, 3, 1, 1, kd99),
  (⟨"HeraldDesk", "familyOf", "(I)I"⟩, prog_1_method_26_code, 1, (Option.some FieldType.int), 10, 1, 0, 1, kd100),
  (⟨"HeraldDesk", "entry", "([II)I"⟩, prog_1_method_25_code, 2, (Option.some FieldType.int), 10, 2, 0, 1, kd101),
  (⟨"HeraldDesk", "sortOf", "(I)I"⟩, prog_1_method_28_code, 1, (Option.some FieldType.int), 10, 1, 0, 1, kd102),
  (⟨"HeraldDesk", "part", "(IIII)I"⟩, prog_1_method_9_code, 7, (Option.some FieldType.int), 10, 4, 1, 1, kd103),
  (⟨"HeraldDesk", "chosen", "(III)I"⟩, prog_1_method_10_code, 5, (Option.some FieldType.int), 10, 3, 1, 1, kd104),
  (⟨"HeraldDesk", "ran", "()I"⟩, prog_1_method_11_code, 1, (Option.some FieldType.int), 10, 0, 1, 1, kd105),
  (⟨"HeraldDesk", "point", "(III)I"⟩, prog_1_method_12_code, 5, (Option.some FieldType.int), 10, 3, 1, 1, kd106),
  (⟨"HeraldDesk", "points", "(II)I"⟩, prog_1_method_13_code, 4, (Option.some FieldType.int), 10, 2, 1, 1, kd107),
  (⟨"HeraldDesk", "differ", "(II)I"⟩, prog_1_method_14_code, 5, (Option.some FieldType.int), 10, 2, 1, 1, kd108),
  (⟨"HeraldDesk", "person", "(ZIII)I"⟩, prog_1_method_15_code, 5, (Option.some FieldType.int), 10, 4, 1, 1, kd109),
  (⟨"HeraldDesk", "marry", "(II)Z"⟩, prog_1_method_16_code, 3, (Option.some FieldType.boolean), 10, 2, 1, 2, kd110),
  (⟨"HeraldDesk", "family", "(II)I"⟩, prog_1_method_17_code, 3, (Option.some FieldType.int), 10, 2, 1, 1, kd111),
  (⟨"HeraldDesk", "count", "(I)I"⟩, prog_1_method_18_code, 2, (Option.some FieldType.int), 10, 1, 1, 1, kd112),
  (⟨"HeraldDeskModel", "<init>", "()V"⟩, prog_14_method_1_code, 1, (Option.none : Option FieldType), 11, 0, 2, 0, kd113),
  (⟨"HeraldDeskModel", "commons", "()V"⟩, prog_14_method_61_code, 1, (Option.none : Option FieldType), 11, 0, 1, 0, kd114),
  (⟨"HeraldDeskModel", "begins", "(III)V"⟩, prog_14_method_59_code, 5, (Option.none : Option FieldType), 11, 3, 1, 0, kd115),
  (⟨"HeraldDeskModel", "code", "(III)V"⟩, prog_14_method_58_code, 4, (Option.none : Option FieldType), 11, 3, 1, 0, kd116),
  (⟨"HeraldDeskModel", "ends", "(I)V"⟩, prog_14_method_60_code, 2, (Option.none : Option FieldType), 11, 1, 1, 0, kd117),
  (⟨"HeraldDeskModel", "feed", "(IIIII)I"⟩, prog_14_method_3_code, 6, (Option.some FieldType.int), 11, 5, 1, 1, kd118),
  (⟨"HeraldDeskModel", "types", "(I)V"⟩, prog_14_method_2_code, 3, (Option.none : Option FieldType), 11, 1, 1, 0, kd119)]
def mtab3 : List MRow := [(⟨"HeraldDeskModel", "read", "(I)I"⟩, prog_14_method_41_code, 3, (Option.some FieldType.int), 11, 1, 1, 1, kd120),
  (⟨"HeraldDeskModel", "takes", "(I)Z"⟩, prog_14_method_4_code, 3, (Option.some FieldType.boolean), 11, 1, 1, 2, kd121),
  (⟨"HeraldDeskModel", "shield", "()Z"⟩, prog_14_method_37_code, 2, (Option.some FieldType.boolean), 11, 0, 1, 2, kd122),
  (⟨"HeraldDeskModel", "empties", "(I)V"⟩, prog_14_method_26_code, 5, (Option.none : Option FieldType), 11, 1, 1, 0, kd123),
  (⟨"HeraldDeskModel", "spot", "(II)I"⟩, prog_14_method_25_code, 2, (Option.some FieldType.int), 11, 2, 0, 1, kd124),
  (⟨"HeraldDeskModel", "next", "()V"⟩, prog_14_method_8_code, 5, (Option.none : Option FieldType), 11, 0, 1, 0, kd125),
  (⟨"HeraldDeskModel", "at", "(I)I"⟩, prog_14_method_5_code, 2, (Option.some FieldType.int), 11, 1, 1, 1, kd126),
  (⟨"HeraldDeskModel", "isSmall", "(I)Z"⟩, prog_14_method_6_code, 1, (Option.some FieldType.boolean), 11, 1, 0, 2, kd127),
  (⟨"HeraldDeskModel", "isDigit", "(I)Z"⟩, prog_14_method_7_code, 1, (Option.some FieldType.boolean), 11, 1, 0, 2, kd128),
  (⟨"HeraldDeskModel", "field", "()Z"⟩, prog_14_method_30_code, 4, (Option.some FieldType.boolean), 11, 0, 1, 2, kd129),
  (⟨"HeraldDeskModel", "takesTincture", "()I"⟩, prog_14_method_28_code, 2, (Option.some FieldType.int), 11, 0, 1, 1, kd130),
  (⟨"HeraldDeskModel", "tincture", "()I"⟩, prog_14_method_14_code, 2, (Option.some FieldType.int), 11, 0, 1, 1, kd131),
  (⟨"HeraldDeskModel", "tinctureWord", "(I)J"⟩, prog_14_method_10_code, 1, (Option.some FieldType.long), 11, 1, 0, 3, kd132),
  (⟨"HeraldDeskModel", "isWord", "(J)Z"⟩, prog_14_method_9_code, 3, (Option.some FieldType.boolean), 11, 1, 1, 2, kd133),
  (⟨"HeraldDeskModel", "takesWord", "(J)Z"⟩, prog_14_method_29_code, 3, (Option.some FieldType.boolean), 11, 1, 1, 2, kd134),
  (⟨"HeraldDeskModel", "isParting", "(I)Z"⟩, prog_14_method_23_code, 2, (Option.some FieldType.boolean), 11, 1, 1, 2, kd135),
  (⟨"HeraldDeskModel", "partingWord", "(I)J"⟩, prog_14_method_22_code, 1, (Option.some FieldType.long), 11, 1, 0, 3, kd136),
  (⟨"HeraldDeskModel", "more", "(I)I"⟩, prog_14_method_35_code, 5, (Option.some FieldType.int), 11, 1, 1, 1, kd137),
  (⟨"HeraldDeskModel", "puts", "(III)V"⟩, prog_14_method_27_code, 5, (Option.none : Option FieldType), 11, 3, 1, 0, kd138),
  (⟨"HeraldDeskModel", "mark", "()I"⟩, prog_14_method_36_code, 3, (Option.some FieldType.int), 11, 0, 1, 1, kd139),
  (⟨"HeraldDeskModel", "markKind", "(I)I"⟩, prog_14_method_24_code, 1, (Option.some FieldType.int), 11, 1, 0, 1, kd140),
  (⟨"HeraldDeskModel", "kindWord", "(I)J"⟩, prog_14_method_11_code, 1, (Option.some FieldType.long), 11, 1, 0, 3, kd141),
  (⟨"HeraldDeskModel", "many", "()I"⟩, prog_14_method_32_code, 2, (Option.some FieldType.int), 11, 0, 1, 1, kd142),
  (⟨"HeraldDeskModel", "numberWord", "(I)J"⟩, prog_14_method_17_code, 1, (Option.some FieldType.long), 11, 1, 0, 3, kd143),
  (⟨"HeraldDeskModel", "kindNamed", "()I"⟩, prog_14_method_15_code, 2, (Option.some FieldType.int), 11, 0, 1, 1, kd144),
  (⟨"HeraldDeskModel", "on", "(I)Z"⟩, prog_14_method_34_code, 4, (Option.some FieldType.boolean), 11, 1, 1, 2, kd145),
  (⟨"HeraldDeskModel", "chargeNamed", "(I)I"⟩, prog_14_method_33_code, 3, (Option.some FieldType.int), 11, 1, 1, 1, kd146),
  (⟨"HeraldDeskModel", "isMany", "(I)Z"⟩, prog_14_method_16_code, 4, (Option.some FieldType.boolean), 11, 1, 1, 2, kd147),
  (⟨"HeraldDeskModel", "charges", "(III)Z"⟩, prog_14_method_31_code, 8, (Option.some FieldType.boolean), 11, 3, 1, 2, kd148),
  (⟨"HeraldDeskModel", "isIn", "(II)Z"⟩, prog_14_method_13_code, 3, (Option.some FieldType.boolean), 11, 2, 0, 2, kd149),
  (⟨"HeraldDeskModel", "familyOf", "(I)I"⟩, prog_14_method_12_code, 1, (Option.some FieldType.int), 11, 1, 0, 1, kd150),
  (⟨"HeraldDeskModel", "isAttitude", "(I)Z"⟩, prog_14_method_19_code, 2, (Option.some FieldType.boolean), 11, 1, 1, 2, kd151),
  (⟨"HeraldDeskModel", "attitudeWord", "(I)J"⟩, prog_14_method_18_code, 1, (Option.some FieldType.long), 11, 1, 0, 3, kd152),
  (⟨"HeraldDeskModel", "hasDuty", "(II)Z"⟩, prog_14_method_21_code, 2, (Option.some FieldType.boolean), 11, 2, 0, 2, kd153),
  (⟨"HeraldDeskModel", "dutyWord", "(I)J"⟩, prog_14_method_20_code, 1, (Option.some FieldType.long), 11, 1, 0, 3, kd154),
  (⟨"HeraldDeskModel", "isSame", "(II)Z"⟩, prog_14_method_38_code, 3, (Option.some FieldType.boolean), 11, 2, 1, 2, kd155),
  (⟨"HeraldDeskModel", "isSameField", "(II)Z"⟩, prog_14_method_39_code, 3, (Option.some FieldType.boolean), 11, 2, 1, 2, kd156),
  (⟨"HeraldDeskModel", "changed", "(II)I"⟩, prog_14_method_40_code, 7, (Option.some FieldType.int), 11, 2, 1, 1, kd157),
  (⟨"HeraldDeskModel", "write", "(I)I"⟩, prog_14_method_49_code, 5, (Option.some FieldType.int), 11, 1, 1, 1, kd158),
  (⟨"HeraldDeskModel", "isShield", "(I)Z"⟩, prog_14_method_42_code, 2, (Option.some FieldType.boolean), 11, 1, 1, 2, kd159)]
def mtab4 : List MRow := [(⟨"HeraldDeskModel", "letters", "(J)V"⟩, prog_14_method_43_code, 5, (Option.none : Option FieldType), 11, 1, 1, 0, kd160),
  (⟨"HeraldDeskModel", "blank", "()V"⟩, prog_14_method_44_code, 1, (Option.none : Option FieldType), 11, 0, 1, 0, kd161),
  (⟨"HeraldDeskModel", "says", "(J)V"⟩, prog_14_method_45_code, 3, (Option.none : Option FieldType), 11, 1, 1, 0, kd162),
  (⟨"HeraldDeskModel", "saysPart", "(III)V"⟩, prog_14_method_50_code, 4, (Option.none : Option FieldType), 11, 3, 1, 0, kd163),
  (⟨"HeraldDeskModel", "comma", "()V"⟩, prog_14_method_46_code, 1, (Option.none : Option FieldType), 11, 0, 1, 0, kd164),
  (⟨"HeraldDeskModel", "saysCharges", "(I)V"⟩, prog_14_method_47_code, 6, (Option.none : Option FieldType), 11, 1, 1, 0, kd165),
  (⟨"HeraldDeskModel", "saysOn", "(I)V"⟩, prog_14_method_48_code, 2, (Option.none : Option FieldType), 11, 1, 1, 0, kd166),
  (⟨"HeraldDeskModel", "octet", "(I)I"⟩, prog_14_method_51_code, 2, (Option.some FieldType.int), 11, 1, 1, 1, kd167),
  (⟨"HeraldDeskModel", "look", "(II)I"⟩, prog_14_method_56_code, 5, (Option.some FieldType.int), 11, 2, 1, 1, kd168),
  (⟨"HeraldDeskModel", "partsOf", "(I)I"⟩, prog_14_method_53_code, 4, (Option.some FieldType.int), 11, 1, 1, 1, kd169),
  (⟨"HeraldDeskModel", "placeOf", "(II)I"⟩, prog_14_method_52_code, 5, (Option.some FieldType.int), 11, 2, 1, 1, kd170),
  (⟨"HeraldDeskModel", "duties", "(I)I"⟩, prog_14_method_54_code, 4, (Option.some FieldType.int), 11, 1, 1, 1, kd171),
  (⟨"HeraldDeskModel", "duty", "(IZ)I"⟩, prog_14_method_55_code, 6, (Option.some FieldType.int), 11, 2, 1, 1, kd172),
  (⟨"HeraldDeskModel", "differ", "(II)I"⟩, prog_14_method_57_code, 3, (Option.some FieldType.int), 11, 2, 1, 1, kd173),
  (⟨"HeraldDeskModel", "pack", "(II)I"⟩, prog_14_method_70_code, 4, (Option.some FieldType.int), 11, 2, 1, 1, kd174),
  (⟨"HeraldDeskModel", "isOffice", "(I)Z"⟩, prog_14_method_69_code, 1, (Option.some FieldType.boolean), 11, 1, 0, 2, kd175),
  (⟨"HeraldDeskModel", "packs", "()Z"⟩, prog_14_method_67_code, 3, (Option.some FieldType.boolean), 11, 0, 1, 2, kd176),
  (⟨"HeraldDeskModel", "find", "(III)I"⟩, prog_14_method_68_code, 5, (Option.some FieldType.int), 11, 3, 1, 1, kd177),
  (⟨"HeraldDeskModel", "expression", "()Z"⟩, prog_14_method_66_code, 4, (Option.some FieldType.boolean), 11, 0, 1, 2, kd178),
  (⟨"HeraldDeskModel", "operandWord", "(I)J"⟩, prog_14_method_62_code, 1, (Option.some FieldType.long), 11, 1, 0, 3, kd179),
  (⟨"HeraldDeskModel", "waitsFor", "(I)V"⟩, prog_14_method_65_code, 2, (Option.none : Option FieldType), 11, 1, 1, 0, kd180),
  (⟨"HeraldDeskModel", "levelOf", "(I)I"⟩, prog_14_method_63_code, 1, (Option.some FieldType.int), 11, 1, 0, 1, kd181),
  (⟨"HeraldDeskModel", "joinsTo", "(I)V"⟩, prog_14_method_64_code, 2, (Option.none : Option FieldType), 11, 1, 1, 0, kd182),
  (⟨"HeraldDeskModel", "chosen", "(III)I"⟩, prog_14_method_72_code, 4, (Option.some FieldType.int), 11, 3, 1, 1, kd183),
  (⟨"HeraldDeskModel", "stepFrom", "(IIII)I"⟩, prog_14_method_71_code, 9, (Option.some FieldType.int), 11, 4, 1, 1, kd184),
  (⟨"HeraldDeskModel", "judge", "(III)I"⟩, prog_14_method_80_code, 6, (Option.some FieldType.int), 11, 3, 1, 1, kd185),
  (⟨"HeraldDeskModel", "numberOf", "(IIII)I"⟩, prog_14_method_79_code, 11, (Option.some FieldType.int), 11, 4, 1, 1, kd186),
  (⟨"HeraldDeskModel", "enters", "(II)V"⟩, prog_14_method_76_code, 4, (Option.none : Option FieldType), 11, 2, 1, 0, kd187),
  (⟨"HeraldDeskModel", "pushes", "(I)V"⟩, prog_14_method_75_code, 2, (Option.none : Option FieldType), 11, 1, 1, 0, kd188),
  (⟨"HeraldDeskModel", "operand", "(III)I"⟩, prog_14_method_77_code, 5, (Option.some FieldType.int), 11, 3, 1, 1, kd189),
  (⟨"HeraldDeskModel", "sort", "(I)I"⟩, prog_14_method_73_code, 1, (Option.some FieldType.int), 11, 1, 0, 1, kd190),
  (⟨"HeraldDeskModel", "below", "(II)I"⟩, prog_14_method_74_code, 4, (Option.some FieldType.int), 11, 2, 1, 1, kd191),
  (⟨"HeraldDeskModel", "joined", "(III)I"⟩, prog_14_method_78_code, 3, (Option.some FieldType.int), 11, 3, 0, 1, kd192),
  (⟨"HeraldDeskModel", "part", "(IIII)I"⟩, prog_14_method_81_code, 6, (Option.some FieldType.int), 11, 4, 1, 1, kd193),
  (⟨"HeraldDeskModel", "ran", "()I"⟩, prog_14_method_82_code, 1, (Option.some FieldType.int), 11, 0, 1, 1, kd194),
  (⟨"HeraldDeskModel", "point", "(III)I"⟩, prog_14_method_91_code, 7, (Option.some FieldType.int), 11, 3, 1, 1, kd195),
  (⟨"HeraldDeskModel", "isOn", "(II)Z"⟩, prog_14_method_84_code, 2, (Option.some FieldType.boolean), 11, 2, 0, 2, kd196),
  (⟨"HeraldDeskModel", "sized", "(I)I"⟩, prog_14_method_83_code, 1, (Option.some FieldType.int), 11, 1, 0, 1, kd197),
  (⟨"HeraldDeskModel", "isChargesAt", "(IIII)Z"⟩, prog_14_method_90_code, 12, (Option.some FieldType.boolean), 11, 4, 1, 2, kd198),
  (⟨"HeraldDeskModel", "middleU", "(II)I"⟩, prog_14_method_88_code, 2, (Option.some FieldType.int), 11, 2, 0, 1, kd199)]
def mtab5 : List MRow := [(⟨"HeraldDeskModel", "middleV", "(II)I"⟩, prog_14_method_89_code, 2, (Option.some FieldType.int), 11, 2, 0, 1, kd200),
  (⟨"HeraldDeskModel", "isCharge", "(IIII)Z"⟩, prog_14_method_87_code, 7, (Option.some FieldType.boolean), 11, 4, 0, 2, kd201),
  (⟨"HeraldDeskModel", "isOrdinary", "(III)Z"⟩, prog_14_method_86_code, 5, (Option.some FieldType.boolean), 11, 3, 0, 2, kd202),
  (⟨"HeraldDeskModel", "fieldAt", "(III)I"⟩, prog_14_method_85_code, 7, (Option.some FieldType.int), 11, 3, 1, 1, kd203),
  (⟨"HeraldDeskModel", "points", "(II)I"⟩, prog_14_method_92_code, 6, (Option.some FieldType.int), 11, 2, 1, 1, kd204),
  (⟨"HeraldDeskModel", "person", "(ZIII)I"⟩, prog_14_method_94_code, 6, (Option.some FieldType.int), 11, 4, 1, 1, kd205),
  (⟨"HeraldDeskModel", "isPerson", "(I)Z"⟩, prog_14_method_93_code, 2, (Option.some FieldType.boolean), 11, 1, 1, 2, kd206),
  (⟨"HeraldDeskModel", "marry", "(II)Z"⟩, prog_14_method_95_code, 3, (Option.some FieldType.boolean), 11, 2, 1, 2, kd207),
  (⟨"HeraldDeskModel", "family", "(II)I"⟩, prog_14_method_99_code, 5, (Option.some FieldType.int), 11, 2, 1, 1, kd208),
  (⟨"HeraldDeskModel", "quarterings", "(I)V"⟩, prog_14_method_98_code, 3, (Option.none : Option FieldType), 11, 1, 1, 0, kd209),
  (⟨"HeraldDeskModel", "joins", "(II)V"⟩, prog_14_method_97_code, 7, (Option.none : Option FieldType), 11, 2, 1, 0, kd210),
  (⟨"HeraldDeskModel", "isHeiress", "(I)Z"⟩, prog_14_method_96_code, 3, (Option.some FieldType.boolean), 11, 1, 1, 2, kd211),
  (⟨"HeraldDeskModel", "count", "(I)I"⟩, prog_14_method_100_code, 2, (Option.some FieldType.int), 11, 1, 1, 1, kd212),
  (⟨"HeraldDesk$Painter", "tinctureAt", "(LHeraldDesk$Shield;II)I"⟩, prog_5_method_3_code, 5, (Option.some FieldType.int), 12, 3, 0, 1, kd213),
  (⟨"HeraldDesk$Painter", "isInside", "(II)Z"⟩, prog_5_method_4_code, 2, (Option.some FieldType.boolean), 12, 2, 0, 2, kd214),
  (⟨"HeraldDesk$Painter", "covers", "(LHeraldDesk$Part;II)Z"⟩, prog_5_method_6_code, 3, (Option.some FieldType.boolean), 12, 3, 0, 2, kd215),
  (⟨"HeraldDesk$Painter", "ordinaryCovers", "(III)Z"⟩, prog_5_method_7_code, 3, (Option.some FieldType.boolean), 12, 3, 0, 2, kd216),
  (⟨"HeraldDesk$Painter", "chargesCover", "(LHeraldDesk$Part;II)Z"⟩, prog_5_method_8_code, 5, (Option.some FieldType.boolean), 12, 3, 0, 2, kd217),
  (⟨"HeraldDesk$Painter", "sideOf", "(LHeraldDesk$Part;)I"⟩, prog_5_method_9_code, 1, (Option.some FieldType.int), 12, 1, 0, 1, kd218),
  (⟨"HeraldDesk$Painter", "middleU", "(LHeraldDesk$Part;II)I"⟩, prog_5_method_10_code, 3, (Option.some FieldType.int), 12, 3, 0, 1, kd219),
  (⟨"HeraldDesk$Painter", "middleV", "(LHeraldDesk$Part;I)I"⟩, prog_5_method_11_code, 2, (Option.some FieldType.int), 12, 2, 0, 1, kd220),
  (⟨"HeraldDesk$Painter", "chargeCovers", "(IIII)Z"⟩, prog_5_method_12_code, 4, (Option.some FieldType.boolean), 12, 4, 0, 2, kd221),
  (⟨"HeraldDesk$Painter", "thingCovers", "(IIII)Z"⟩, prog_5_method_13_code, 8, (Option.some FieldType.boolean), 12, 4, 0, 2, kd222),
  (⟨"HeraldDesk$Painter", "isOdd", "(I)Z"⟩, prog_5_method_14_code, 1, (Option.some FieldType.boolean), 12, 1, 0, 2, kd223),
  (⟨"HeraldDesk$Painter", "isSecond", "(III)Z"⟩, prog_5_method_5_code, 5, (Option.some FieldType.boolean), 12, 3, 0, 2, kd224),
  (⟨"HeraldDesk$Painter", "pointsOf", "(LHeraldDesk$Shield;)[I"⟩, prog_5_method_2_code, 5, (Option.some (FieldType.array FieldType.int)), 12, 1, 0, 26, kd225),
  (⟨"java/lang/String", "toCharArray", "()[C"⟩, prog_17_method_129_code, 1, (Option.some (FieldType.array FieldType.char)), 40, 0, 1, 28, kd226),
  (⟨"java/lang/String", "isLatin1", "()Z"⟩, prog_17_method_154_code, 1, (Option.some FieldType.boolean), 40, 0, 1, 2, kd227),
  (⟨"java/lang/String", "length", "()I"⟩, prog_17_method_54_code, 1, (Option.some FieldType.int), 40, 0, 1, 1, kd228),
  (⟨"java/lang/String", "coder", "()B"⟩, prog_17_method_152_code, 1, (Option.some FieldType.byte), 40, 0, 1, 2, kd229),
  (⟨"java/lang/String", "charAt", "(I)C"⟩, prog_17_method_56_code, 2, (Option.some FieldType.char), 40, 1, 1, 2, kd230),
  (⟨"java/lang/String", "indexOf", "(I)I"⟩, prog_17_method_79_code, 2, (Option.some FieldType.int), 40, 1, 1, 1, kd231),
  (⟨"java/lang/String", "indexOf", "(II)I"⟩, prog_17_method_80_code, 3, (Option.some FieldType.int), 40, 2, 1, 1, kd232),
  (⟨"java/lang/StringLatin1", "toChars", "([B)[C"⟩, prog_18_method_9_code, 2, (Option.some (FieldType.array FieldType.char)), 44, 1, 0, 28, kd233),
  (⟨"java/lang/StringLatin1", "inflate", "([BI[CII)V"⟩, prog_18_method_49_code, 6, (Option.none : Option FieldType), 44, 5, 0, 0, kd234),
  (⟨"java/lang/StringLatin1", "charAt", "([BI)C"⟩, prog_18_method_2_code, 2, (Option.some FieldType.char), 44, 2, 0, 2, kd235),
  (⟨"java/lang/StringLatin1", "indexOf", "([BIII)I"⟩, prog_18_method_22_code, 4, (Option.some FieldType.int), 44, 4, 0, 1, kd236),
  (⟨"java/lang/StringLatin1", "canEncode", "(I)Z"⟩, prog_18_method_4_code, 1, (Option.some FieldType.boolean), 44, 1, 0, 2, kd237),
  (⟨"java/lang/StringLatin1", "indexOfChar", "([BIII)I"⟩, prog_18_method_23_code, 6, (Option.some FieldType.int), 44, 4, 0, 1, kd238)]
def mtl : List (List MRow) := [mtab0, mtab1, mtab2, mtab3, mtab4, mtab5]
/-- fields: own class, index, region, slot, 1 by the nest -/
def fldL : List (Nat × Nat × Nat × Nat × Nat) := [(0, 12, 0, 0, 0), (0, 18, 0, 1, 0), (0, 22, 0, 2, 0), (0, 25, 0, 3, 0), (0, 60, 0, 4, 0), (0, 33, 1, 0, 1), (0, 48, 3, 1, 1), (0, 57, 1, 5, 1), (0, 67, 1, 4, 1), (0, 70, 1, 6, 1), (0, 81, 3, 4, 1), (0, 93, 3, 2, 1), (0, 96, 3, 3, 1), (0, 103, 3, 0, 1), (1, 11, 1, 2, 0), (1, 15, 1, 3, 0), (1, 18, 1, 4, 0), (1, 21, 1, 5, 0), (1, 24, 1, 6, 0), (1, 27, 1, 0, 0), (1, 31, 1, 1, 0), (2, 9, 2, 0, 0), (3, 9, 3, 5, 0), (3, 15, 3, 0, 0), (3, 19, 3, 1, 0), (3, 22, 3, 2, 0), (3, 25, 3, 4, 0), (3, 28, 3, 3, 0), (4, 9, 4, 0, 0), (4, 15, 4, 1, 0), (4, 33, 7, 0, 1), (4, 46, 7, 1, 1), (4, 51, 7, 2, 1), (4, 54, 3, 0, 1), (4, 71, 3, 2, 1), (4, 77, 3, 3, 1), (4, 82, 3, 4, 1), (4, 90, 3, 1, 1), (4, 95, 3, 5, 1), (5, 11, 5, 10, 0), (5, 15, 5, 0, 0), (5, 19, 5, 1, 0), (5, 23, 5, 2, 0), (5, 27, 5, 3, 0), (5, 30, 5, 4, 0), (5, 33, 5, 5, 0), (5, 36, 5, 6, 0), (5, 39, 5, 8, 0), (5, 42, 5, 11, 0), (5, 45, 5, 12, 0), (6, 13, 6, 0, 0), (6, 17, 6, 1, 0), (6, 68, 6, 2, 0), (6, 28, 5, 1, 1), (6, 32, 5, 7, 1), (6, 39, 5, 9, 1), (6, 42, 5, 8, 1), (6, 48, 5, 11, 1), (6, 55, 5, 5, 1), (6, 58, 5, 6, 1), (6, 61, 5, 0, 1), (7, 9, 7, 1, 0), (7, 15, 7, 2, 0), (7, 20, 7, 3, 0), (7, 27, 7, 0, 0), (7, 24, 3, 0, 1), (7, 41, 3, 4, 1), (8, 9, 8, 0, 0), (8, 40, 7, 1, 1), (8, 46, 7, 0, 1), (8, 58, 7, 2, 1), (8, 132, 3, 1, 1), (8, 137, 3, 3, 1), (8, 140, 3, 4, 1), (8, 149, 3, 5, 1), (9, 9, 9, 0, 0), (9, 24, 9, 1, 0), (9, 28, 9, 4, 0), (9, 34, 9, 3, 0), (9, 37, 9, 2, 0), (10, 9, 10, 0, 0), (10, 15, 10, 2, 0), (10, 22, 10, 4, 0), (10, 31, 10, 5, 0), (10, 38, 10, 6, 0), (10, 45, 10, 7, 0), (10, 52, 10, 8, 0), (10, 59, 10, 9, 0), (10, 87, 10, 1, 0), (10, 192, 10, 3, 0), (10, 79, 0, 0, 1), (10, 110, 0, 2, 1), (10, 140, 0, 4, 1), (10, 163, 7, 4, 1), (10, 195, 6, 1, 1), (10, 198, 9, 3, 1), (11, 7, 11, 0, 0), (11, 13, 11, 2, 0), (11, 16, 11, 12, 0), (11, 20, 11, 13, 0), (11, 23, 11, 14, 0), (11, 26, 11, 15, 0), (11, 29, 11, 16, 0), (11, 32, 11, 18, 0), (11, 35, 11, 19, 0), (11, 38, 11, 20, 0), (11, 41, 11, 21, 0), (11, 44, 11, 22, 0), (11, 47, 11, 23, 0), (11, 50, 11, 24, 0), (11, 53, 11, 25, 0), (11, 56, 11, 26, 0), (11, 59, 11, 33, 0), (11, 62, 11, 35, 0), (11, 65, 11, 36, 0), (11, 68, 11, 37, 0), (11, 71, 11, 38, 0), (11, 74, 11, 41, 0), (11, 78, 11, 42, 0), (11, 81, 11, 43, 0), (11, 84, 11, 44, 0), (11, 87, 11, 45, 0), (11, 90, 11, 46, 0), (11, 93, 11, 47, 0), (11, 99, 11, 1, 0), (11, 107, 11, 3, 0), (11, 110, 11, 6, 0), (11, 117, 11, 5, 0), (11, 120, 11, 8, 0), (11, 124, 11, 9, 0), (11, 127, 11, 7, 0), (11, 130, 11, 4, 0), (11, 140, 11, 10, 0), (11, 297, 11, 11, 0), (11, 404, 11, 17, 0), (11, 472, 11, 27, 0), (11, 478, 11, 28, 0), (11, 505, 11, 29, 0), (11, 508, 11, 31, 0), (11, 512, 11, 30, 0), (11, 522, 11, 34, 0), (11, 525, 11, 39, 0), (11, 528, 11, 32, 0), (11, 578, 11, 40, 0), (12, 29, 3, 4, 1), (12, 35, 7, 0, 1), (12, 42, 7, 2, 1), (12, 45, 7, 1, 1), (12, 58, 3, 0, 1), (12, 61, 3, 1, 1), (12, 74, 3, 2, 1), (40, 9, 40, 0, 0), (40, 15, 40, 1, 0)]
/-- methods: own class, index, number (9999 Object(), 9998 checkIndex), 1 by the nest -/
def mthL : List (Nat × Nat × Nat × Nat) := [(0, 3, 9999, 0), (0, 37, 5, 0), (0, 41, 4, 0), (0, 45, 13, 0), (0, 53, 6, 0), (0, 73, 7, 0), (0, 77, 8, 0), (0, 87, 60, 0), (0, 99, 26, 0), (0, 11, 10, 1), (0, 29, 94, 1), (0, 63, 100, 1), (0, 84, 102, 1), (1, 3, 9999, 0), (2, 3, 9999, 0), (2, 15, 11, 0), (2, 20, 78, 0), (2, 26, 18, 0), (2, 30, 12, 0), (2, 35, 79, 0), (2, 39, 82, 0), (2, 47, 77, 0), (2, 54, 81, 0), (2, 58, 13, 0), (2, 62, 14, 0), (2, 66, 83, 0), (2, 70, 19, 0), (2, 74, 20, 0), (2, 77, 84, 0), (2, 81, 15, 0), (2, 85, 21, 0), (2, 90, 80, 0), (2, 43, 86, 1), (3, 3, 9999, 0), (3, 31, 26, 0), (3, 35, 27, 0), (3, 38, 28, 0), (4, 3, 9999, 0), (4, 19, 31, 0), (4, 23, 56, 0), (4, 29, 34, 0), (4, 38, 32, 0), (4, 61, 33, 0), (4, 74, 35, 0), (4, 85, 36, 0), (4, 101, 228, 0), (4, 106, 230, 0), (5, 3, 9999, 0), (5, 49, 41, 0), (5, 53, 42, 0), (5, 57, 43, 0), (6, 3, 9999, 0), (6, 21, 39, 0), (6, 24, 47, 0), (6, 36, 38, 0), (6, 45, 51, 0), (6, 51, 43, 0), (6, 64, 44, 0), (6, 71, 40, 0), (7, 3, 9999, 0), (7, 30, 58, 0), (7, 34, 55, 0), (7, 38, 61, 0), (7, 48, 24, 0), (7, 44, 102, 1), (8, 3, 9999, 0), (8, 18, 64, 0), (8, 22, 78, 0), (8, 28, 65, 0), (8, 34, 80, 0), (8, 51, 79, 0), (8, 55, 81, 0), (8, 63, 66, 0), (8, 66, 83, 0), (8, 72, 71, 0), (8, 76, 77, 0), (8, 79, 72, 0), (8, 83, 74, 0), (8, 88, 73, 0), (8, 92, 67, 0), (8, 109, 22, 0), (8, 112, 53, 0), (8, 116, 69, 0), (8, 126, 68, 0), (8, 129, 70, 0), (8, 145, 23, 0), (8, 17, 52, 1), (8, 122, 90, 1), (9, 3, 9999, 0), (9, 15, 9997, 0), (9, 21, 9996, 0), (9, 31, 77, 0), (9, 40, 228, 0), (9, 45, 230, 0), (9, 49, 81, 0), (9, 53, 80, 0), (9, 58, 231, 0), (10, 1, 9999, 0), (10, 28, 62, 0), (10, 37, 16, 0), (10, 51, 0, 0), (10, 65, 226, 0), (10, 71, 228, 0), (10, 75, 76, 0), (10, 83, 17, 0), (10, 91, 88, 0), (10, 95, 63, 0), (10, 99, 91, 0), (10, 102, 92, 0), (10, 106, 94, 0), (10, 113, 1, 0), (10, 116, 2, 0), (10, 120, 96, 0), (10, 124, 30, 0), (10, 127, 37, 0), (10, 130, 57, 0), (10, 133, 59, 0), (10, 137, 25, 0), (10, 143, 86, 0), (10, 146, 56, 0), (10, 149, 3, 0), (10, 153, 9, 0), (10, 157, 213, 0), (10, 167, 225, 0), (10, 170, 101, 0), (10, 174, 54, 0), (10, 177, 46, 0), (10, 181, 48, 0), (10, 185, 49, 0), (10, 189, 50, 0), (10, 21, 75, 1), (10, 44, 29, 1), (10, 58, 45, 1), (11, 1, 9999, 0), (11, 96, 114, 0), (11, 103, 119, 0), (11, 113, 126, 0), (11, 133, 127, 0), (11, 137, 128, 0), (11, 223, 150, 0), (11, 226, 132, 0), (11, 230, 133, 0), (11, 234, 141, 0), (11, 263, 152, 0), (11, 288, 136, 0), (11, 293, 124, 0), (11, 300, 131, 0), (11, 304, 125, 0), (11, 307, 130, 0), (11, 312, 134, 0), (11, 315, 135, 0), (11, 320, 149, 0), (11, 324, 151, 0), (11, 327, 153, 0), (11, 330, 154, 0), (11, 333, 143, 0), (11, 336, 147, 0), (11, 343, 142, 0), (11, 346, 146, 0), (11, 349, 148, 0), (11, 355, 138, 0), (11, 361, 139, 0), (11, 364, 144, 0), (11, 367, 145, 0), (11, 374, 140, 0), (11, 377, 123, 0), (11, 380, 129, 0), (11, 384, 137, 0), (11, 387, 156, 0), (11, 390, 157, 0), (11, 393, 121, 0), (11, 396, 122, 0), (11, 399, 155, 0), (11, 407, 161, 0), (11, 410, 160, 0), (11, 414, 162, 0), (11, 417, 165, 0), (11, 420, 159, 0), (11, 423, 163, 0), (11, 426, 164, 0), (11, 429, 166, 0), (11, 432, 169, 0), (11, 435, 170, 0), (11, 438, 171, 0), (11, 441, 172, 0), (11, 445, 115, 0), (11, 448, 116, 0), (11, 451, 117, 0), (11, 475, 181, 0), (11, 481, 179, 0), (11, 484, 180, 0), (11, 487, 182, 0), (11, 492, 177, 0), (11, 496, 178, 0), (11, 499, 175, 0), (11, 502, 176, 0), (11, 515, 184, 0), (11, 519, 190, 0), (11, 531, 191, 0), (11, 534, 187, 0), (11, 538, 188, 0), (11, 541, 189, 0), (11, 544, 192, 0), (11, 547, 186, 0), (11, 550, 197, 0), (11, 553, 196, 0), (11, 556, 199, 0), (11, 559, 200, 0), (11, 562, 201, 0), (11, 566, 198, 0), (11, 569, 202, 0), (11, 572, 203, 0), (11, 575, 195, 0), (11, 581, 206, 0), (11, 584, 210, 0), (11, 587, 211, 0), (11, 590, 209, 0), (12, 11, 213, 0), (12, 15, 214, 0), (12, 19, 56, 0), (12, 25, 215, 0), (12, 38, 224, 0), (12, 48, 9995, 0), (12, 54, 223, 0), (12, 64, 216, 0), (12, 67, 217, 0), (12, 70, 218, 0), (12, 77, 219, 0), (12, 81, 220, 0), (12, 85, 221, 0), (12, 103, 222, 0), (12, 93, 101, 1), (12, 100, 100, 1), (13, 9, 85, 0), (13, 12, 113, 0), (13, 13, 87, 0), (13, 17, 118, 0), (13, 18, 89, 0), (13, 22, 120, 0), (13, 23, 93, 0), (13, 27, 174, 0), (13, 28, 95, 0), (13, 31, 158, 0), (13, 32, 97, 0), (13, 35, 167, 0), (13, 36, 98, 0), (13, 39, 168, 0), (13, 40, 99, 0), (13, 44, 185, 0), (13, 45, 103, 0), (13, 49, 193, 0), (13, 50, 104, 0), (13, 53, 183, 0), (13, 54, 105, 0), (13, 58, 194, 0), (13, 59, 106, 0), (13, 62, 195, 0), (13, 63, 107, 0), (13, 66, 204, 0), (13, 67, 108, 0), (13, 70, 173, 0), (13, 71, 109, 0), (13, 75, 205, 0), (13, 76, 110, 0), (13, 80, 207, 0), (13, 81, 111, 0), (13, 84, 208, 0), (13, 85, 112, 0), (13, 88, 212, 0), (40, 299, 233, 0), (40, 335, 229, 0), (40, 492, 227, 0), (40, 495, 235, 0), (40, 505, 228, 0), (40, 633, 232, 0), (40, 637, 236, 0), (44, 9, 9998, 0), (44, 13, 234, 0), (44, 38, 9997, 0), (44, 88, 237, 0), (44, 92, 9996, 0), (44, 95, 238, 0)]
/-- classes: own class, index, region -/
def clkL : List (Nat × Nat × Nat) := [(0, 9, 1), (6, 11, 5), (7, 18, 3), (8, 15, 7), (8, 107, 3), (10, 13, 7), (10, 19, 9), (10, 26, 8), (10, 35, 2), (10, 42, 4), (10, 49, 0), (10, 56, 6), (13, 7, 10), (13, 10, 11)]
def cjL : List (Nat × Nat × Int64) := [(11, 143, 28530), (11, 145, 107143988866676), (11, 147, 444351669619), (11, 149, 418666345061), (11, 151, 495555079269), (11, 153, 1986359924), (11, 155, 31654331765060197), (11, 157, 111542136303205), (11, 159, 1986095474), (11, 161, 1885434484), (11, 163, 8030591489541239417), (11, 165, 109299962636133), (11, 167, 422607680372), (11, 169, 1651077732), (11, 171, 482854661748), (11, 173, 499967946343), (11, 175, 426953500006), (11, 177, 1885432933), (11, 179, 1717924723), (11, 181, 1650814564), (11, 183, 27980807682551662), (11, 185, 427121668979), (11, 187, 32476740759155301), (11, 189, 1885957221), (11, 191, 27707084820017765), (11, 193, 1818849134), (11, 195, 1651466610), (11, 197, 1937006951), (11, 199, 435425864805), (11, 201, 30787916668888436), (11, 203, 1919906661), (11, 205, 1818848377), (11, 207, 32776877134276972), (11, 209, 120351097644404), (11, 211, 7165901503363116660), (11, 213, 27424493436429684), (11, 215, 32210697498944876), (11, 217, 108204930131316), (11, 219, 500086302066), (11, 221, 465490306412), (11, 237, 119200046212467), (11, 239, 115), (11, 241, 97), (11, 243, 7632751), (11, 245, 499968533861), (11, 247, 1718580594), (11, 249, 1718187621), (11, 251, 7563640), (11, 253, 32195270009777780), (11, 255, 31632345876491892), (11, 257, 126879413661300), (11, 259, 7235441203039271269), (11, 261, 427021005669), (11, 266, 100), (11, 268, 418531599716), (11, 270, 27431116075066724), (11, 272, 27991845765014884), (11, 274, 126879329969508), (11, 276, 30787920880100708), (11, 278, 8175547842767975020), (11, 280, 1885432953), (11, 282, 422541685369), (11, 284, 422608528505), (11, 286, 109300029683065), (11, 291, 121), (11, 310, 7366002), (11, 318, 6385252), (11, 339, 27980790434850148), (11, 341, 2003399784), (11, 353, 131294808271214), (11, 359, 6713202), (11, 370, 7235426866322105710), (11, 372, 25445), (11, 402, 255), (11, 454, 1936683636), (11, 456, 422608400247), (11, 458, 8388357154388931173), (11, 460, 121450625394034), (11, 462, 7022365715251684453), (11, 464, 110455627015539), (11, 466, 1802071652), (11, 468, 482854658917), (11, 470, 1852143732), (11, 490, 1920298085)]
/-- String constants: own class, index, number of the text -/
def strL : List (Nat × Nat × Nat) := [(2, 33, 0), (2, 50, 1), (2, 52, 2), (2, 88, 3), (4, 36, 4), (4, 42, 5), (4, 44, 6), (4, 49, 7), (4, 59, 8), (4, 65, 9), (4, 67, 10), (4, 69, 11), (4, 80, 12), (4, 88, 13), (4, 93, 14), (4, 99, 15), (8, 32, 16), (8, 38, 17), (8, 44, 18), (8, 49, 19), (8, 61, 20), (8, 70, 21), (8, 86, 22), (8, 95, 23), (8, 97, 24), (8, 99, 25), (8, 101, 26), (8, 103, 27), (8, 105, 28), (8, 120, 29), (8, 135, 30), (8, 143, 31), (9, 56, 32), (10, 63, 33)]
def txtL : List String := ["rule ", "for ", "part ordinary charge beast bird plant thing chief pale fess bend chevron cross saltire pile bordure lion boar stag eagle martlet rose lily trefoil mullet crescent annulet roundel billet tower label ", "sort below tincture number attitude duties kind place next ", "per quarterly paly barry bendy chequy ", "pale fess bend chevron saltire ", "or argent gules azure sable vert purpure ermine vair ", "and ", "charged with ", "within ", "for difference ", "a two three four five six ", "rampant passant sejant displayed close ", "part ordinary charge beast bird plant thing chief pale fess bend chevron cross saltire pile bordure lion boar stag eagle martlet rose lily trefoil mullet crescent annulet roundel billet tower label ", "lions boars stags eagles martlets roses lilies trefoils mullets crescents annulets roundels billets towers ", "armed attired crowned seeded masoned ", "per quarterly paly barry bendy chequy ", "or argent gules azure sable vert purpure ermine vair ", "pale fess bend chevron saltire ", "and ", "charged ", "a two three four five six within for ", "part ordinary charge beast bird plant thing chief pale fess bend chevron cross saltire pile bordure lion boar stag eagle martlet rose lily trefoil mullet crescent annulet roundel billet tower label ", "with ", "a two three four five six ", "a ", "bordure ", "difference ", "label crescent mullet martlet annulet lily rose ", "lions boars stags eagles martlets roses lilies trefoils mullets crescents annulets roundels billets towers ", "rampant passant sejant displayed close ", "armed attired crowned seeded masoned ", "+-*=<>", "rule 0 for part: sort * (sort = below); rule 1 for charge: number > 3; rule 2 for part: 0; rule 2 for bordure: below < 1; rule 3 for part: 1; rule 3 for ordinary: next + 1;"]
def txbL : List (List Int32) := [[114, 117, 108, 101, 32],
  [102, 111, 114, 32],
  [112, 97, 114, 116, 32, 111, 114, 100, 105, 110, 97, 114, 121, 32, 99, 104, 97, 114, 103, 101, 32, 98, 101, 97, 115, 116, 32, 98, 105, 114, 100, 32, 112, 108, 97, 110, 116, 32, 116, 104, 105, 110, 103, 32, 99, 104, 105, 101, 102, 32, 112, 97, 108, 101, 32, 102, 101, 115, 115, 32, 98, 101, 110, 100, 32, 99, 104, 101, 118, 114, 111, 110, 32, 99, 114, 111, 115, 115, 32, 115, 97, 108, 116, 105, 114, 101, 32, 112, 105, 108, 101, 32, 98, 111, 114, 100, 117, 114, 101, 32, 108, 105, 111, 110, 32, 98, 111, 97, 114, 32, 115, 116, 97, 103, 32, 101, 97, 103, 108, 101, 32, 109, 97, 114, 116, 108, 101, 116, 32, 114, 111, 115, 101, 32, 108, 105, 108, 121, 32, 116, 114, 101, 102, 111, 105, 108, 32, 109, 117, 108, 108, 101, 116, 32, 99, 114, 101, 115, 99, 101, 110, 116, 32, 97, 110, 110, 117, 108, 101, 116, 32, 114, 111, 117, 110, 100, 101, 108, 32, 98, 105, 108, 108, 101, 116, 32, 116, 111, 119, 101, 114, 32, 108, 97, 98, 101, 108, 32],
  [115, 111, 114, 116, 32, 98, 101, 108, 111, 119, 32, 116, 105, 110, 99, 116, 117, 114, 101, 32, 110, 117, 109, 98, 101, 114, 32, 97, 116, 116, 105, 116, 117, 100, 101, 32, 100, 117, 116, 105, 101, 115, 32, 107, 105, 110, 100, 32, 112, 108, 97, 99, 101, 32, 110, 101, 120, 116, 32],
  [112, 101, 114, 32, 113, 117, 97, 114, 116, 101, 114, 108, 121, 32, 112, 97, 108, 121, 32, 98, 97, 114, 114, 121, 32, 98, 101, 110, 100, 121, 32, 99, 104, 101, 113, 117, 121, 32],
  [112, 97, 108, 101, 32, 102, 101, 115, 115, 32, 98, 101, 110, 100, 32, 99, 104, 101, 118, 114, 111, 110, 32, 115, 97, 108, 116, 105, 114, 101, 32],
  [111, 114, 32, 97, 114, 103, 101, 110, 116, 32, 103, 117, 108, 101, 115, 32, 97, 122, 117, 114, 101, 32, 115, 97, 98, 108, 101, 32, 118, 101, 114, 116, 32, 112, 117, 114, 112, 117, 114, 101, 32, 101, 114, 109, 105, 110, 101, 32, 118, 97, 105, 114, 32],
  [97, 110, 100, 32],
  [99, 104, 97, 114, 103, 101, 100, 32, 119, 105, 116, 104, 32],
  [119, 105, 116, 104, 105, 110, 32],
  [102, 111, 114, 32, 100, 105, 102, 102, 101, 114, 101, 110, 99, 101, 32],
  [97, 32, 116, 119, 111, 32, 116, 104, 114, 101, 101, 32, 102, 111, 117, 114, 32, 102, 105, 118, 101, 32, 115, 105, 120, 32],
  [114, 97, 109, 112, 97, 110, 116, 32, 112, 97, 115, 115, 97, 110, 116, 32, 115, 101, 106, 97, 110, 116, 32, 100, 105, 115, 112, 108, 97, 121, 101, 100, 32, 99, 108, 111, 115, 101, 32],
  [112, 97, 114, 116, 32, 111, 114, 100, 105, 110, 97, 114, 121, 32, 99, 104, 97, 114, 103, 101, 32, 98, 101, 97, 115, 116, 32, 98, 105, 114, 100, 32, 112, 108, 97, 110, 116, 32, 116, 104, 105, 110, 103, 32, 99, 104, 105, 101, 102, 32, 112, 97, 108, 101, 32, 102, 101, 115, 115, 32, 98, 101, 110, 100, 32, 99, 104, 101, 118, 114, 111, 110, 32, 99, 114, 111, 115, 115, 32, 115, 97, 108, 116, 105, 114, 101, 32, 112, 105, 108, 101, 32, 98, 111, 114, 100, 117, 114, 101, 32, 108, 105, 111, 110, 32, 98, 111, 97, 114, 32, 115, 116, 97, 103, 32, 101, 97, 103, 108, 101, 32, 109, 97, 114, 116, 108, 101, 116, 32, 114, 111, 115, 101, 32, 108, 105, 108, 121, 32, 116, 114, 101, 102, 111, 105, 108, 32, 109, 117, 108, 108, 101, 116, 32, 99, 114, 101, 115, 99, 101, 110, 116, 32, 97, 110, 110, 117, 108, 101, 116, 32, 114, 111, 117, 110, 100, 101, 108, 32, 98, 105, 108, 108, 101, 116, 32, 116, 111, 119, 101, 114, 32, 108, 97, 98, 101, 108, 32],
  [108, 105, 111, 110, 115, 32, 98, 111, 97, 114, 115, 32, 115, 116, 97, 103, 115, 32, 101, 97, 103, 108, 101, 115, 32, 109, 97, 114, 116, 108, 101, 116, 115, 32, 114, 111, 115, 101, 115, 32, 108, 105, 108, 105, 101, 115, 32, 116, 114, 101, 102, 111, 105, 108, 115, 32, 109, 117, 108, 108, 101, 116, 115, 32, 99, 114, 101, 115, 99, 101, 110, 116, 115, 32, 97, 110, 110, 117, 108, 101, 116, 115, 32, 114, 111, 117, 110, 100, 101, 108, 115, 32, 98, 105, 108, 108, 101, 116, 115, 32, 116, 111, 119, 101, 114, 115, 32],
  [97, 114, 109, 101, 100, 32, 97, 116, 116, 105, 114, 101, 100, 32, 99, 114, 111, 119, 110, 101, 100, 32, 115, 101, 101, 100, 101, 100, 32, 109, 97, 115, 111, 110, 101, 100, 32],
  [112, 101, 114, 32, 113, 117, 97, 114, 116, 101, 114, 108, 121, 32, 112, 97, 108, 121, 32, 98, 97, 114, 114, 121, 32, 98, 101, 110, 100, 121, 32, 99, 104, 101, 113, 117, 121, 32],
  [111, 114, 32, 97, 114, 103, 101, 110, 116, 32, 103, 117, 108, 101, 115, 32, 97, 122, 117, 114, 101, 32, 115, 97, 98, 108, 101, 32, 118, 101, 114, 116, 32, 112, 117, 114, 112, 117, 114, 101, 32, 101, 114, 109, 105, 110, 101, 32, 118, 97, 105, 114, 32],
  [112, 97, 108, 101, 32, 102, 101, 115, 115, 32, 98, 101, 110, 100, 32, 99, 104, 101, 118, 114, 111, 110, 32, 115, 97, 108, 116, 105, 114, 101, 32],
  [97, 110, 100, 32],
  [99, 104, 97, 114, 103, 101, 100, 32],
  [97, 32, 116, 119, 111, 32, 116, 104, 114, 101, 101, 32, 102, 111, 117, 114, 32, 102, 105, 118, 101, 32, 115, 105, 120, 32, 119, 105, 116, 104, 105, 110, 32, 102, 111, 114, 32],
  [112, 97, 114, 116, 32, 111, 114, 100, 105, 110, 97, 114, 121, 32, 99, 104, 97, 114, 103, 101, 32, 98, 101, 97, 115, 116, 32, 98, 105, 114, 100, 32, 112, 108, 97, 110, 116, 32, 116, 104, 105, 110, 103, 32, 99, 104, 105, 101, 102, 32, 112, 97, 108, 101, 32, 102, 101, 115, 115, 32, 98, 101, 110, 100, 32, 99, 104, 101, 118, 114, 111, 110, 32, 99, 114, 111, 115, 115, 32, 115, 97, 108, 116, 105, 114, 101, 32, 112, 105, 108, 101, 32, 98, 111, 114, 100, 117, 114, 101, 32, 108, 105, 111, 110, 32, 98, 111, 97, 114, 32, 115, 116, 97, 103, 32, 101, 97, 103, 108, 101, 32, 109, 97, 114, 116, 108, 101, 116, 32, 114, 111, 115, 101, 32, 108, 105, 108, 121, 32, 116, 114, 101, 102, 111, 105, 108, 32, 109, 117, 108, 108, 101, 116, 32, 99, 114, 101, 115, 99, 101, 110, 116, 32, 97, 110, 110, 117, 108, 101, 116, 32, 114, 111, 117, 110, 100, 101, 108, 32, 98, 105, 108, 108, 101, 116, 32, 116, 111, 119, 101, 114, 32, 108, 97, 98, 101, 108, 32],
  [119, 105, 116, 104, 32],
  [97, 32, 116, 119, 111, 32, 116, 104, 114, 101, 101, 32, 102, 111, 117, 114, 32, 102, 105, 118, 101, 32, 115, 105, 120, 32],
  [97, 32],
  [98, 111, 114, 100, 117, 114, 101, 32],
  [100, 105, 102, 102, 101, 114, 101, 110, 99, 101, 32],
  [108, 97, 98, 101, 108, 32, 99, 114, 101, 115, 99, 101, 110, 116, 32, 109, 117, 108, 108, 101, 116, 32, 109, 97, 114, 116, 108, 101, 116, 32, 97, 110, 110, 117, 108, 101, 116, 32, 108, 105, 108, 121, 32, 114, 111, 115, 101, 32],
  [108, 105, 111, 110, 115, 32, 98, 111, 97, 114, 115, 32, 115, 116, 97, 103, 115, 32, 101, 97, 103, 108, 101, 115, 32, 109, 97, 114, 116, 108, 101, 116, 115, 32, 114, 111, 115, 101, 115, 32, 108, 105, 108, 105, 101, 115, 32, 116, 114, 101, 102, 111, 105, 108, 115, 32, 109, 117, 108, 108, 101, 116, 115, 32, 99, 114, 101, 115, 99, 101, 110, 116, 115, 32, 97, 110, 110, 117, 108, 101, 116, 115, 32, 114, 111, 117, 110, 100, 101, 108, 115, 32, 98, 105, 108, 108, 101, 116, 115, 32, 116, 111, 119, 101, 114, 115, 32],
  [114, 97, 109, 112, 97, 110, 116, 32, 112, 97, 115, 115, 97, 110, 116, 32, 115, 101, 106, 97, 110, 116, 32, 100, 105, 115, 112, 108, 97, 121, 101, 100, 32, 99, 108, 111, 115, 101, 32],
  [97, 114, 109, 101, 100, 32, 97, 116, 116, 105, 114, 101, 100, 32, 99, 114, 111, 119, 110, 101, 100, 32, 115, 101, 101, 100, 101, 100, 32, 109, 97, 115, 111, 110, 101, 100, 32],
  [43, 45, 42, 61, 60, 62],
  [114, 117, 108, 101, 32, 48, 32, 102, 111, 114, 32, 112, 97, 114, 116, 58, 32, 115, 111, 114, 116, 32, 42, 32, 40, 115, 111, 114, 116, 32, 61, 32, 98, 101, 108, 111, 119, 41, 59, 32, 114, 117, 108, 101, 32, 49, 32, 102, 111, 114, 32, 99, 104, 97, 114, 103, 101, 58, 32, 110, 117, 109, 98, 101, 114, 32, 62, 32, 51, 59, 32, 114, 117, 108, 101, 32, 50, 32, 102, 111, 114, 32, 112, 97, 114, 116, 58, 32, 48, 59, 32, 114, 117, 108, 101, 32, 50, 32, 102, 111, 114, 32, 98, 111, 114, 100, 117, 114, 101, 58, 32, 98, 101, 108, 111, 119, 32, 60, 32, 49, 59, 32, 114, 117, 108, 101, 32, 51, 32, 102, 111, 114, 32, 112, 97, 114, 116, 58, 32, 49, 59, 32, 114, 117, 108, 101, 32, 51, 32, 102, 111, 114, 32, 111, 114, 100, 105, 110, 97, 114, 121, 58, 32, 110, 101, 120, 116, 32, 43, 32, 49, 59]]
end
section
/-! THE ABSTRACT MACHINE. Values: ints, longs, references (region, id). A heap: how many ids a region has, lengths, ints, longs, references by region, id, slot; cells, slots made. -/
abbrev AV : Type := Int32 ⊕ (Int64 ⊕ (Nat × Option Nat))
abbrev Hp : Type := (Nat → Nat) × (Nat → Nat → Nat) × (Nat → Nat → Nat → Int32) × (Nat → Nat → Nat → Int64) × (Nat → Nat → Nat → Option Nat) × Nat × Nat
abbrev jN (h : Hp) : Nat → Nat := h.1
abbrev jLen (h : Hp) : Nat → Nat → Nat := h.2.1
abbrev jI (h : Hp) : Nat → Nat → Nat → Int32 := h.2.2.1
abbrev jL (h : Hp) : Nat → Nat → Nat → Int64 := h.2.2.2.1
abbrev jR (h : Hp) : Nat → Nat → Nat → Option Nat := h.2.2.2.2.1
abbrev jC (h : Hp) : Nat := h.2.2.2.2.2.1
abbrev jZ (h : Hp) : Nat := h.2.2.2.2.2.2
abbrev vI (x : Int32) : AV := .inl x
abbrev vL (x : Int64) : AV := .inr (.inl x)
abbrev vR (t : Nat) (o : Option Nat) : AV := .inr (.inr (t, o))
abbrev un : AV := .inr (.inr (999, none))
abbrev nul : AV := .inr (.inr (998, none))
def up3 {α : Type} (f : Nat → Nat → Nat → α) (t a k : Nat) (v : α) : Nat → Nat → Nat → α := fun t' a' k' => if t' = t ∧ a' = a ∧ k' = k then v else f t' a' k'
def wI (h : Hp) (t a k : Nat) (v : Int32) : Hp := (jN h, jLen h, up3 (jI h) t a k v, jL h, jR h, jC h, jZ h)
def wL (h : Hp) (t a k : Nat) (v : Int64) : Hp := (jN h, jLen h, jI h, up3 (jL h) t a k v, jR h, jC h, jZ h)
def wR (h : Hp) (t a k : Nat) (v : Option Nat) : Hp := (jN h, jLen h, jI h, jL h, up3 (jR h) t a k v, jC h, jZ h)
/-- one more cell in region t, of length n, sl slots -/
def mk (h : Hp) (t n sl : Nat) : Hp := (fun t' => if t' = t then jN h t + 1 else jN h t', fun t' a' => if t' = t ∧ a' = jN h t then n else jLen h t' a', fun t' a' k => if t' = t ∧ a' = jN h t then 0 else jI h t' a' k, fun t' a' k => if t' = t ∧ a' = jN h t then 0 else jL h t' a' k, fun t' a' k => if t' = t ∧ a' = jN h t then none else jR h t' a' k, jC h + 1, jZ h + sl)
def gt : List AV → Nat → Option AV
  | [], _ => none
  | v :: _, 0 => some v
  | _ :: r, n + 1 => gt r n
def stt : List AV → Nat → AV → List AV
  | [], _, _ => []
  | _ :: r, 0, w => w :: r
  | v :: r, n + 1, w => v :: stt r n w
def lk {α : Type} : List (Nat × α) → Nat → Option α
  | [], _ => none
  | (k, v) :: r, n => match Nat.beq k n with
    | true => some v
    | false => lk r n
def lk2 {α : Type} : List (Nat × Nat × α) → Nat → Nat → Option α
  | [], _, _ => none
  | (a, b, v) :: r, m, n => match Nat.beq a m, Nat.beq b n with
    | true, true => some v
    | _, _ => lk2 r m n
/-- a value of one word is stored; the second half of a long is not torn off -/
def st1 (ls : List AV) (i : Nat) (v : AV) : Option (List AV) := match gt ls i with
  | none => none
  | some _ => match i with
    | 0 => some (stt ls 0 v)
    | j + 1 => match gt ls j with
      | some (.inr (.inl _)) => none
      | _ => some (stt ls (j + 1) v)
def st2 (ls : List AV) (i : Nat) (v : AV) : Option (List AV) := match gt ls (i + 1) with
  | none => none
  | some _ => match i with
    | 0 => some (stt (stt ls 0 v) 1 un)
    | j + 1 => match gt ls j with
      | some (.inr (.inl _)) => none
      | _ => some (stt (stt ls (j + 1) v) (j + 2) un)
def ldI (ls : List AV) (k : Nat) : Option AV := match gt ls k with
  | some (.inl x) => some (.inl x)
  | _ => none
def ldJ (ls : List AV) (k : Nat) : Option AV := match gt ls k with
  | some (.inr (.inl x)) => some (.inr (.inl x))
  | _ => none
def ldA (ls : List AV) (k : Nat) : Option AV := match gt ls k with
  | some (.inr (.inr (t, o))) => match Nat.beq t 999 with
    | true => none
    | false => some (.inr (.inr (t, o)))
  | _ => none
def toI (ls : List AV) (k : Nat) (st : List AV) (d pc : Nat) : Option (Nat × List AV × List AV) := match st with
  | .inl x :: r => (st1 ls k (.inl x)).map (fun l => (pc + d, l, r))
  | _ => none
def toJ (ls : List AV) (k : Nat) (st : List AV) (d pc : Nat) : Option (Nat × List AV × List AV) := match st with
  | .inr (.inl x) :: r => (st2 ls k (.inr (.inl x))).map (fun l => (pc + d, l, r))
  | _ => none
def toA (ls : List AV) (k : Nat) (st : List AV) (d pc : Nat) : Option (Nat × List AV × List AV) := match st with
  | .inr (.inr (t, o)) :: r => (st1 ls k (.inr (.inr (t, o)))).map (fun l => (pc + d, l, r))
  | _ => none
def bI (f : Int32 → Int32 → Int32) (pc : Nat) (ls st : List AV) : Option (Nat × List AV × List AV) := match st with
  | .inl y :: .inl x :: r => some (pc + 1, ls, .inl (f x y) :: r)
  | _ => none
def bJ (f : Int64 → Int64 → Int64) (pc : Nat) (ls st : List AV) : Option (Nat × List AV × List AV) := match st with
  | .inr (.inl y) :: .inr (.inl x) :: r => some (pc + 1, ls, .inr (.inl (f x y)) :: r)
  | _ => none
def uI (f : Int32 → Int32) (pc : Nat) (ls st : List AV) : Option (Nat × List AV × List AV) := match st with
  | .inl x :: r => some (pc + 1, ls, .inl (f x) :: r)
  | _ => none
def shJ (f : Int64 → Int32 → Int64) (pc : Nat) (ls st : List AV) : Option (Nat × List AV × List AV) := match st with
  | .inl y :: .inr (.inl x) :: r => some (pc + 1, ls, .inr (.inl (f x y)) :: r)
  | _ => none
def push (pc d : Nat) (ls : List AV) (v : Option AV) (st : List AV) : Option (Nat × List AV × List AV) := match v with
  | some v => some (pc + d, ls, v :: st)
  | none => none
def jto (pc : Nat) (off : Int) : Option Nat := match (pc : Int) + off with
  | .ofNat t => some t
  | .negSucc _ => none
def ldcv (own idx : Nat) : Option AV := match lk2 strL own idx with
  | some k => some (.inr (.inr (40, some k)))
  | none => none
def ldjv (own idx : Nat) : Option AV := match lk2 cjL own idx with
  | some k => some (.inr (.inl k))
  | none => none
def gstv (own idx : Nat) : Option AV := match lk2 [(10, 201, (.inr (.inr (42, some 0)) : AV)), (12, 89, .inr (.inr (42, some 1))), (12, 97, .inr (.inr (42, some 2))), (40, 38, .inl 1)] own idx with
  | some v => some v
  | none => none
/-- the steps that look at no heap and ask nothing -/
def step1 (own : Nat) (i : Instr) (pc : Nat) (ls st : List AV) : Option (Nat × List AV × List AV) := match i with
  | .aconst_null => some (pc + 1, ls, nul :: st)
  | .iconst n => some (pc + 1, ls, .inl (Int32.ofInt n) :: st)
  | .bipush n => some (pc + 2, ls, .inl (Int8.ofInt n).toInt32 :: st)
  | .sipush n => some (pc + 3, ls, .inl (Int16.ofInt n).toInt32 :: st)
  | .lconst n => some (pc + 1, ls, .inr (.inl (Int64.ofNat (n : Nat))) :: st)
  | .ldc k => push pc 2 ls (ldcv own k) st
  | .ldc2_w k => push pc 3 ls (ldjv own k) st
  | .getstatic k => push pc 3 ls (gstv own k) st
  | .iload k => push pc 2 ls (ldI ls k) st
  | .iload_n k => push pc 1 ls (ldI ls k.val) st
  | .lload k => push pc 2 ls (ldJ ls k) st
  | .lload_n k => push pc 1 ls (ldJ ls k.val) st
  | .aload k => push pc 2 ls (ldA ls k) st
  | .aload_n k => push pc 1 ls (ldA ls k.val) st
  | .istore k => toI ls k st 2 pc
  | .istore_n k => toI ls k.val st 1 pc
  | .lstore k => toJ ls k st 2 pc
  | .lstore_n k => toJ ls k.val st 1 pc
  | .astore k => toA ls k st 2 pc
  | .astore_n k => toA ls k.val st 1 pc
  | .iinc k n => match gt ls k with
    | some (.inl x) => (st1 ls k (.inl (x + Int32.ofInt n))).map (fun l => (pc + 3, l, st))
    | _ => none
  | .iadd => bI (fun x y => x + y) pc ls st
  | .isub => bI (fun x y => x - y) pc ls st
  | .imul => bI (fun x y => x * y) pc ls st
  | .iand => bI (fun x y => x &&& y) pc ls st
  | .ior => bI (fun x y => x ||| y) pc ls st
  | .ishr => bI (fun x y => x >>> (y &&& 31)) pc ls st
  | .iushr => bI (fun x y => (x.toUInt32 >>> (y.toUInt32 &&& Int32.toUInt32 31)).toInt32) pc ls st
  | .ineg => uI (fun x => -x) pc ls st
  | .i2b => uI (fun x => x.toInt8.toInt32) pc ls st
  | .i2c => uI (fun x => (x.toUInt32 % 65536).toInt32) pc ls st
  | .land => bJ (fun x y => x &&& y) pc ls st
  | .lor => bJ (fun x y => x ||| y) pc ls st
  | .lshl => shJ (fun x y => x <<< (y.toInt64 &&& 63)) pc ls st
  | .lshr => shJ (fun x y => x >>> (y.toInt64 &&& 63)) pc ls st
  | .lcmp => match st with
    | .inr (.inl y) :: .inr (.inl x) :: r => some (pc + 1, ls, .inl (lg_cmp x y) :: r)
    | _ => none
  | .i2l => match st with
    | .inl x :: r => some (pc + 1, ls, .inr (.inl x.toInt64) :: r)
    | _ => none
  | .l2i => match st with
    | .inr (.inl x) :: r => some (pc + 1, ls, .inl x.toInt32 :: r)
    | _ => none
  | .dup => match st with
    | .inl x :: r => some (pc + 1, ls, .inl x :: .inl x :: r)
    | .inr (.inr x) :: r => some (pc + 1, ls, .inr (.inr x) :: .inr (.inr x) :: r)
    | _ => none
  | .dup2 => match st with
    | .inl x :: .inr (.inr y) :: r => some (pc + 1, ls, .inl x :: .inr (.inr y) :: .inl x :: .inr (.inr y) :: r)
    | _ => none
  | .pop => match st with
    | .inl _ :: r => some (pc + 1, ls, r)
    | .inr (.inr _) :: r => some (pc + 1, ls, r)
    | _ => none
  | .goto off => (jto pc off).map (fun t => (t, ls, st))
  | _ => none
/-- branches: the condition, where it leads, where not, the stack behind it -/
def br1 (i : Instr) (pc : Nat) (st : List AV) : Option (Prop × Nat × List AV) := match i with
  | .ifCond c off => match st with
    | .inl x :: r => (jto pc off).map (fun t => ((match c with
      | .eq => x = 0
      | .ne => ¬ x = 0
      | .lt => x < 0
      | .ge => 0 ≤ x
      | .gt => 0 < x
      | .le => x ≤ 0), t, r))
    | _ => none
  | .if_icmp c off => match st with
    | .inl y :: .inl x :: r => (jto pc off).map (fun t => ((match c with
      | .eq => x = y
      | .ne => ¬ x = y
      | .lt => x < y
      | .ge => y ≤ x
      | .gt => y < x
      | .le => x ≤ y), t, r))
    | _ => none
  | .if_acmp c off => match st with
    | .inr (.inr (t1, o1)) :: .inr (.inr (t2, o2)) :: r => match Nat.beq t1 t2 && Nat.blt t1 12 with
      | true => (jto pc off).map (fun t => ((match c with
        | .eq => o2 = o1
        | .ne => ¬ o2 = o1), t, r))
      | false => none
    | _ => none
  | .ifnull off => match st with
    | .inr (.inr (_, o)) :: r => (jto pc off).map (fun t => (o = none, t, r))
    | _ => none
  | .ifnonnull off => match st with
    | .inr (.inr (_, o)) :: r => (jto pc off).map (fun t => (¬ o = none, t, r))
    | _ => none
  | _ => none
end
section
/-! the tables, read -/
abbrev ix (i : Int32) : Nat := i.toNatClampNeg
def fk (t k : Nat) : Nat := (fkL.getD t []).getD k 0
def fld (own idx : Nat) : Option (Nat × Nat × Nat) := lk2 fldL own idx
def mth (own idx : Nat) : Option (Nat × Nat) := lk2 mthL own idx
def clk (own idx : Nat) : Option Nat := lk2 clkL own idx
def mrow (y : Nat) : MRow := (mtl.getD (y / 40) []).getD (y % 40) (⟨"", "", ""⟩, ⟨#[]⟩, 0, none, 0, 0, 0, 0, [])
abbrev mNm (y : Nat) : MethodName := (mrow y).1
abbrev mBy (y : Nat) : ByteArray := (mrow y).2.1
abbrev mLo (y : Nat) : Nat := (mrow y).2.2.1
abbrev mRt (y : Nat) : Option FieldType := (mrow y).2.2.2.1
abbrev mOw (y : Nat) : Nat := (mrow y).2.2.2.2.1
abbrev mPa (y : Nat) : Nat := (mrow y).2.2.2.2.2.1
abbrev mKi (y : Nat) : Nat := (mrow y).2.2.2.2.2.2.1
abbrev mRc (y : Nat) : Nat := (mrow y).2.2.2.2.2.2.2.1
abbrev mCo (y : Nat) : List (Nat × Instr) := (mrow y).2.2.2.2.2.2.2.2
end
section
/-! CHECKS by program (wip/whole/gen8.py): the words of the tables, the code -/
def lw_good : List Cond := lw_tbl.filter goodWord
def wOK (j : Nat) (w : Cond) : Bool := match lw_tbl[j]? with
  | some v => decide (v = w) && goodWord w
  | none => false
theorem wOK_mem {j : Nat} {w : Cond} (h : wOK j w = true) : w ∈ lw_good := by
  unfold wOK at h
  split at h
  · rename_i v hv
    simp only [Bool.and_eq_true, decide_eq_true_eq] at h
    obtain ⟨rfl, h2⟩ := h
    exact List.mem_filter.mpr ⟨List.mem_of_getElem? hv, h2⟩
  · cases h
theorem lw_good_good {w : Cond} (h : w ∈ lw_good) : w ∈ lw_tbl ∧ goodWord w = true := List.mem_filter.mp h
theorem all_zip {α β : Type} {l : List α} {m : List β} {f : α × β → Bool} (h : (l.zip m).all f = true) (hl : l.length ≤ m.length) : ∀ x ∈ l, ∃ j, f (x, j) = true := by
  induction l generalizing m with
  | nil => intro x hx; cases hx
  | cons a r ih =>
    cases m with
    | nil => exact absurd hl (by simp)
    | cons b s =>
      simp only [List.zip_cons_cons, List.all_cons, Bool.and_eq_true] at h
      intro x hx
      rcases List.mem_cons.mp hx with rfl | hx
      · exact ⟨b, h.1⟩
      · exact ih h.2 (by simpa using hl) x hx
theorem lk2_mem {α : Type} {l : List (Nat × Nat × α)} {m n : Nat} {v : α} (h : lk2 l m n = some v) : (m, n, v) ∈ l := by
  induction l with
  | nil => cases h
  | cons q r ih =>
    obtain ⟨a, b, w⟩ := q
    unfold lk2 at h
    split at h
    · rename_i h1 h2
      have e1 := Nat.eq_of_beq_eq_true h1
      have e2 := Nat.eq_of_beq_eq_true h2
      cases h
      rw [e1, e2]
      exact List.mem_cons_self
    · exact List.mem_cons_of_mem _ (ih h)
theorem lk_mem {α : Type} {l : List (Nat × α)} {n : Nat} {v : α} (h : lk l n = some v) : (n, v) ∈ l := by
  induction l with
  | nil => cases h
  | cons q r ih =>
    obtain ⟨a, w⟩ := q
    unfold lk at h
    split at h
    · rename_i h1
      have e1 := Nat.eq_of_beq_eq_true h1
      cases h
      rw [e1]
      exact List.mem_cons_self
    · exact List.mem_cons_of_mem _ (ih h)
def layW : List (List Nat) := [[227, 229, 231, 233, 235], [202, 204, 206, 208, 210, 212, 214], [163], [627, 629, 631, 633, 635, 637], [174, 176], [974, 976, 978, 980, 982, 984, 986, 988, 990, 992, 994, 996, 998], [250, 252, 254], [550, 552, 554, 556, 558], [153], [134, 136, 138, 140, 142], [490, 492, 494, 496, 498, 500, 502, 504, 506, 508], [1123, 1125, 1127, 1129, 1131, 1133, 1135, 1137, 1139, 1141, 1143, 1145, 1147, 1149, 1151, 1153, 1155, 1157, 1159, 1161, 1163, 1165, 1167, 1169, 1171, 1173, 1175, 1177, 1179, 1181, 1183, 1185, 1187, 1189, 1191, 1193, 1195, 1197, 1199, 1201, 1203, 1205, 1207, 1209, 1211, 1213, 1215, 1217]]
def chkL (t : Nat) : Bool := (List.range (nfl t)).all fun k => wOK ((layW.getD t []).getD k 0) (u_lay (cnm t) (TRs t) k) && decide (parseFieldDescriptor (TRs t k).2.2.1 = some (tyRs t k))
set_option maxRecDepth 100000 in
theorem chkL_ok : (List.range 12).all chkL = true := by decide +kernel
def chkNm (t : Nat) : Bool := (List.range (nfl t)).all fun a => (List.range (nfl t)).all fun b => Nat.beq a b || !((TRs t a).2.1 == (TRs t b).2.1)
set_option maxRecDepth 100000 in
theorem chkNm_ok : (List.range 12).all chkNm = true := by decide +kernel
theorem cls_at : ∀ t, t < 12 → clsL[t]? = some (cnm t, TRs t, nfl t)
  | 0, _ => rfl
  | 1, _ => rfl
  | 2, _ => rfl
  | 3, _ => rfl
  | 4, _ => rfl
  | 5, _ => rfl
  | 6, _ => rfl
  | 7, _ => rfl
  | 8, _ => rfl
  | 9, _ => rfl
  | 10, _ => rfl
  | 11, _ => rfl
  | n + 12, h => absurd h (by omega)
def insW : List (Nat × Nat) := [(180, 98), (186, 99), (157, 96), (595, 109), (167, 97), (950, 111), (239, 100), (529, 108), (147, 95), (123, 94), (113, 93), (1054, 107)]
def chkI (t : Nat) : Bool := wOK (insW.getD t (0, 0)).1 (.instantiable (cnm t) (nfl t)) && wOK (insW.getD t (0, 0)).2 (.initialized (cnm t))
set_option maxRecDepth 100000 in
theorem chkI_ok : (List.range 12).all chkI = true := by decide +kernel
def nestL : List Cond := [.fieldLinkNest "HeraldDesk" 79 "HeraldDesk$Bench" "common" "LHeraldDesk$Pack;" "HeraldDesk", .fieldLinkNest "HeraldDesk" 110 "HeraldDesk$Bench" "draft" "LHeraldDesk$Pack;" "HeraldDesk", .fieldLinkNest "HeraldDesk" 140 "HeraldDesk$Bench" "begun" "I" "HeraldDesk", .fieldLinkNest "HeraldDesk" 163 "HeraldDesk$Shield" "pointsOf" "[I" "HeraldDesk", .fieldLinkNest "HeraldDesk" 195 "HeraldDesk$Register" "size" "I" "HeraldDesk", .fieldLinkNest "HeraldDesk" 198 "HeraldDesk$Tokens" "start" "I" "HeraldDesk", .fieldLinkNest "HeraldDesk$Bench" 33 "HeraldDesk$Pack" "bodies" "I" "HeraldDesk", .fieldLinkNest "HeraldDesk$Bench" 48 "HeraldDesk$Part" "kind" "I" "HeraldDesk", .fieldLinkNest "HeraldDesk$Bench" 57 "HeraldDesk$Pack" "nexts" "[I" "HeraldDesk", .fieldLinkNest "HeraldDesk$Bench" 67 "HeraldDesk$Pack" "starts" "[I" "HeraldDesk", .fieldLinkNest "HeraldDesk$Bench" 70 "HeraldDesk$Pack" "steps" "[I" "HeraldDesk", .fieldLinkNest "HeraldDesk$Bench" 81 "HeraldDesk$Part" "tincture" "I" "HeraldDesk", .fieldLinkNest "HeraldDesk$Bench" 93 "HeraldDesk$Part" "number" "I" "HeraldDesk", .fieldLinkNest "HeraldDesk$Bench" 96 "HeraldDesk$Part" "attitude" "I" "HeraldDesk", .fieldLinkNest "HeraldDesk$Bench" 103 "HeraldDesk$Part" "place" "I" "HeraldDesk", .fieldLinkNest "HeraldDesk$Painter" 29 "HeraldDesk$Part" "tincture" "I" "HeraldDesk", .fieldLinkNest "HeraldDesk$Painter" 35 "HeraldDesk$Shield" "parting" "I" "HeraldDesk", .fieldLinkNest "HeraldDesk$Painter" 42 "HeraldDesk$Shield" "second" "I" "HeraldDesk", .fieldLinkNest "HeraldDesk$Painter" 45 "HeraldDesk$Shield" "first" "I" "HeraldDesk", .fieldLinkNest "HeraldDesk$Painter" 58 "HeraldDesk$Part" "place" "I" "HeraldDesk", .fieldLinkNest "HeraldDesk$Painter" 61 "HeraldDesk$Part" "kind" "I" "HeraldDesk", .fieldLinkNest "HeraldDesk$Painter" 74 "HeraldDesk$Part" "number" "I" "HeraldDesk", .fieldLinkNest "HeraldDesk$Pen" 33 "HeraldDesk$Shield" "parting" "I" "HeraldDesk", .fieldLinkNest "HeraldDesk$Pen" 46 "HeraldDesk$Shield" "first" "I" "HeraldDesk", .fieldLinkNest "HeraldDesk$Pen" 51 "HeraldDesk$Shield" "second" "I" "HeraldDesk", .fieldLinkNest "HeraldDesk$Pen" 54 "HeraldDesk$Part" "place" "I" "HeraldDesk", .fieldLinkNest "HeraldDesk$Pen" 71 "HeraldDesk$Part" "number" "I" "HeraldDesk", .fieldLinkNest "HeraldDesk$Pen" 77 "HeraldDesk$Part" "attitude" "I" "HeraldDesk", .fieldLinkNest "HeraldDesk$Pen" 82 "HeraldDesk$Part" "tincture" "I" "HeraldDesk", .fieldLinkNest "HeraldDesk$Pen" 90 "HeraldDesk$Part" "kind" "I" "HeraldDesk", .fieldLinkNest "HeraldDesk$Pen" 95 "HeraldDesk$Part" "duties" "[I" "HeraldDesk", .fieldLinkNest "HeraldDesk$Register" 28 "HeraldDesk$Person" "man" "Z" "HeraldDesk", .fieldLinkNest "HeraldDesk$Register" 32 "HeraldDesk$Person" "married" "LHeraldDesk$Person;" "HeraldDesk", .fieldLinkNest "HeraldDesk$Register" 39 "HeraldDesk$Person" "children" "I" "HeraldDesk", .fieldLinkNest "HeraldDesk$Register" 42 "HeraldDesk$Person" "sons" "I" "HeraldDesk", .fieldLinkNest "HeraldDesk$Register" 48 "HeraldDesk$Person" "quarteringCount" "I" "HeraldDesk", .fieldLinkNest "HeraldDesk$Register" 55 "HeraldDesk$Person" "mark" "I" "HeraldDesk", .fieldLinkNest "HeraldDesk$Register" 58 "HeraldDesk$Person" "generations" "I" "HeraldDesk", .fieldLinkNest "HeraldDesk$Register" 61 "HeraldDesk$Person" "number" "I" "HeraldDesk", .fieldLinkNest "HeraldDesk$Shield" 24 "HeraldDesk$Part" "place" "I" "HeraldDesk", .fieldLinkNest "HeraldDesk$Shield" 41 "HeraldDesk$Part" "tincture" "I" "HeraldDesk", .fieldLinkNest "HeraldDesk$ShieldReader" 40 "HeraldDesk$Shield" "first" "I" "HeraldDesk", .fieldLinkNest "HeraldDesk$ShieldReader" 46 "HeraldDesk$Shield" "parting" "I" "HeraldDesk", .fieldLinkNest "HeraldDesk$ShieldReader" 58 "HeraldDesk$Shield" "second" "I" "HeraldDesk", .fieldLinkNest "HeraldDesk$ShieldReader" 132 "HeraldDesk$Part" "kind" "I" "HeraldDesk", .fieldLinkNest "HeraldDesk$ShieldReader" 137 "HeraldDesk$Part" "attitude" "I" "HeraldDesk", .fieldLinkNest "HeraldDesk$ShieldReader" 140 "HeraldDesk$Part" "tincture" "I" "HeraldDesk", .fieldLinkNest "HeraldDesk$ShieldReader" 149 "HeraldDesk$Part" "duties" "[I" "HeraldDesk", .methodLinkNest "HeraldDesk" 21 ⟨"HeraldDesk$Tokens", "<init>", "()V"⟩ "HeraldDesk", .methodLinkNest "HeraldDesk" 44 ⟨"HeraldDesk$Pen", "<init>", "()V"⟩ "HeraldDesk", .methodLinkNest "HeraldDesk" 58 ⟨"HeraldDesk$Register", "<init>", "()V"⟩ "HeraldDesk", .methodLinkNest "HeraldDesk$Bench" 11 ⟨"HeraldDesk$Pack", "<init>", "()V"⟩ "HeraldDesk", .methodLinkNest "HeraldDesk$Bench" 29 ⟨"HeraldDesk", "isOffice", "(I)Z"⟩ "HeraldDesk", .methodLinkNest "HeraldDesk$Bench" 63 ⟨"HeraldDesk", "familyOf", "(I)I"⟩ "HeraldDesk", .methodLinkNest "HeraldDesk$Bench" 84 ⟨"HeraldDesk", "sortOf", "(I)I"⟩ "HeraldDesk", .methodLinkNest "HeraldDesk$PackReader" 43 ⟨"HeraldDesk", "isRule", "(I)Z"⟩ "HeraldDesk", .methodLinkNest "HeraldDesk$Painter" 93 ⟨"HeraldDesk", "entry", "([II)I"⟩ "HeraldDesk", .methodLinkNest "HeraldDesk$Painter" 100 ⟨"HeraldDesk", "familyOf", "(I)I"⟩ "HeraldDesk", .methodLinkNest "HeraldDesk$Shield" 44 ⟨"HeraldDesk", "sortOf", "(I)I"⟩ "HeraldDesk", .methodLinkNest "HeraldDesk$ShieldReader" 17 ⟨"HeraldDesk$Shield", "<init>", "()V"⟩ "HeraldDesk", .methodLinkNest "HeraldDesk$ShieldReader" 122 ⟨"HeraldDesk", "isCharge", "(I)Z"⟩ "HeraldDesk"]
def nestW : List Nat := [220, 223, 226, 549, 248, 132, 192, 606, 199, 197, 201, 622, 613, 616, 604, 619, 536, 545, 542, 603, 608, 612, 538, 543, 547, 602, 611, 615, 620, 607, 625, 958, 966, 969, 968, 972, 963, 965, 956, 601, 621, 541, 537, 546, 609, 617, 623, 626, 124, 168, 240, 187, 712, 828, 847, 383, 907, 916, 858, 530, 590]
def nestOk (q : Cond × Nat) : Bool := decide (lw_tbl[q.2]? = some q.1) && q.1.onTables
set_option maxRecDepth 100000 in
theorem nest_ok : (nestL.zip nestW).all nestOk = true := by decide +kernel
def isNest : Cond → Bool
  | .fieldLinkNest _ _ _ _ _ _ => true
  | .methodLinkNest _ _ _ _ => true
  | _ => false
theorem nest_is : nestL.all isNest = true := by decide +kernel
def fldW : List Nat := [219, 221, 222, 224, 225, 6, 7, 8, 9, 10, 11, 12, 13, 14, 194, 195, 196, 198, 200, 191, 193, 162, 624, 600, 605, 610, 618, 614, 172, 173, 22, 23, 24, 25, 26, 27, 28, 29, 30, 970, 955, 957, 959, 960, 961, 962, 964, 967, 971, 973, 246, 247, 249, 31, 32, 33, 34, 35, 36, 37, 38, 540, 544, 548, 539, 39, 40, 152, 41, 42, 43, 44, 45, 46, 47, 128, 129, 133, 131, 130, 480, 482, 484, 485, 486, 487, 488, 489, 481, 483, 0, 1, 2, 3, 4, 5, 1075, 1077, 1087, 1088, 1089, 1090, 1091, 1093, 1094, 1095, 1096, 1097, 1098, 1099, 1100, 1101, 1108, 1110, 1111, 1112, 1113, 1116, 1117, 1118, 1119, 1120, 1121, 1122, 1076, 1078, 1081, 1080, 1083, 1084, 1082, 1079, 1085, 1086, 1092, 1102, 1103, 1104, 1106, 1105, 1109, 1114, 1107, 1115, 15, 16, 17, 18, 19, 20, 21, 1663, 1662]
/-- the kind of a field fits its type -/
def kOk (t k : Nat) : Bool := match fk t k with
  | 0 => decide (tyRs t k = .int)
  | 1 => decide (tyRs t k = .long)
  | 2 => decide (tyRs t k = .boolean)
  | 3 => false
  | 4 => false
  | _ + 5 => match tyRs t k with
    | .object _ => true
    | .array _ => true
    | _ => false
def chkF (q : (Nat × Nat × Nat × Nat × Nat) × Nat) : Bool := match q with
  | ((own, idx, 40, k, 0), j) => match k with
    | 0 => wOK j (.fieldLink (cnm own) idx "java/lang/String" "value" "[B")
    | 1 => wOK j (.fieldLink (cnm own) idx "java/lang/String" "coder" "B")
    | _ => false
  | ((own, idx, t, k, 0), j) => Nat.blt t 12 && Nat.blt k (nfl t) && kOk t k && wOK j (.fieldLink (cnm own) idx (TRs t k).1 (TRs t k).2.1 (TRs t k).2.2.1)
  | ((own, idx, t, k, _), j) => Nat.blt t 12 && Nat.blt k (nfl t) && kOk t k && decide (nestL[j]? = some (.fieldLinkNest (cnm own) idx (TRs t k).1 (TRs t k).2.1 (TRs t k).2.2.1 "HeraldDesk"))
set_option maxRecDepth 100000 in
theorem fld_ok : (fldL.zip fldW).all chkF = true := by decide +kernel
theorem fld_len : fldL.length ≤ fldW.length := by decide +kernel
def mthW : List Nat := [184, 825, 821, 836, 837, 841, 844, 850, 859, 51, 52, 53, 54, 190, 161, 329, 333, 337, 341, 346, 379, 386, 389, 390, 394, 398, 402, 406, 420, 414, 410, 419, 55, 599, 799, 803, 807, 171, 729, 747, 751, 734, 738, 759, 766, 742, 743, 954, 1032, 1036, 1040, 243, 1005, 946, 951, 1024, 1044, 1045, 1028, 533, 787, 694, 854, 697, 58, 151, 561, 572, 573, 566, 570, 571, 578, 661, 663, 593, 666, 676, 672, 584, 596, 640, 649, 644, 653, 658, 59, 60, 127, 315, 318, 321, 358, 359, 354, 350, 425, 117, 148, 158, 181, 258, 303, 311, 325, 516, 524, 682, 686, 705, 708, 713, 721, 725, 775, 783, 791, 795, 815, 816, 817, 868, 880, 930, 833, 690, 942, 1001, 1012, 1020, 48, 49, 50, 1058, 1059, 1225, 1252, 1256, 1259, 1402, 1274, 1286, 1335, 1409, 1299, 1245, 1270, 1248, 1266, 1291, 1295, 1399, 1405, 1418, 1421, 1367, 1389, 1363, 1385, 1395, 1321, 1326, 1375, 1379, 1332, 1241, 1262, 1314, 1433, 1437, 1233, 1237, 1429, 1454, 1449, 1458, 1470, 1445, 1462, 1466, 1474, 1486, 1490, 1494, 1498, 1063, 1067, 1071, 1542, 1526, 1538, 1545, 1518, 1522, 1510, 1513, 1553, 1577, 1580, 1565, 1569, 1573, 1584, 1561, 1602, 1599, 1609, 1612, 1615, 1605, 1618, 1621, 1629, 1634, 1650, 1654, 1646, 933, 883, 889, 890, 923, 886, 920, 893, 896, 899, 902, 908, 913, 917, 56, 57, 114, 1055, 512, 1221, 520, 1229, 701, 1506, 717, 1441, 771, 1478, 779, 1482, 811, 1557, 860, 1587, 864, 1549, 872, 1591, 876, 1595, 926, 1625, 934, 1502, 938, 1630, 1008, 1638, 1016, 1642, 1049, 1658, 268, 307, 262, 363, 433, 429, 434, 366, 271, 441, 437, 440, 442]
def ckName : MethodName := ⟨"java/lang/String", "checkIndex", "(II)V"⟩
def chkT (q : (Nat × Nat × Nat × Nat) × Nat) : Bool := match q with
  | ((own, idx, 9999, 0), j) => wOK j (.methodLink (cnm own) idx objectInit)
  | ((own, idx, 9998, 0), j) => wOK j (.methodLink (cnm own) idx ckName)
  | ((own, idx, 9997, 0), j) => wOK j (.methodLink (cnm own) idx Lib.Math.min.name)
  | ((own, idx, 9996, 0), j) => wOK j (.methodLink (cnm own) idx Lib.Math.max.name)
  | ((own, idx, 9995, 0), j) => wOK j (.methodLink (cnm own) idx Lib.Math.abs.name)
  | ((own, idx, y, 0), j) => Nat.blt y 239 && wOK j (.methodLink (cnm own) idx (mNm y))
  | ((own, idx, y, _), j) => Nat.blt y 239 && decide (nestL[j]? = some (.methodLinkNest (cnm own) idx (mNm y) "HeraldDesk"))
set_option maxRecDepth 100000 in
theorem mth_ok : (mthL.zip mthW).all chkT = true := by decide +kernel
theorem mth_len : mthL.length ≤ mthW.length := by decide +kernel
def clkW : List Nat := [185, 244, 534, 528, 594, 120, 122, 146, 156, 166, 179, 238, 112, 1053]
def chkC (q : (Nat × Nat × Nat) × Nat) : Bool := wOK q.2 (.classLink (cnm q.1.1) q.1.2.1 (cnm q.1.2.2))
set_option maxRecDepth 100000 in
theorem clk_ok : (clkL.zip clkW).all chkC = true := by decide +kernel
theorem clk_len : clkL.length ≤ clkW.length := by decide +kernel
def cjW : List Nat := [1277, 1278, 1279, 1280, 1281, 1282, 1283, 1284, 1285, 1338, 1339, 1340, 1341, 1342, 1343, 1344, 1345, 1302, 1303, 1304, 1305, 1346, 1306, 1347, 1320, 1348, 1349, 1350, 1351, 1352, 1353, 1354, 1355, 1356, 1357, 1358, 1359, 1360, 1361, 1362, 1393, 1394, 1319, 1370, 1371, 1372, 1373, 1374, 1412, 1413, 1414, 1415, 1416, 1417, 1424, 1425, 1426, 1427, 1428, 1307, 1308, 1309, 1310, 1311, 1312, 1290, 1313, 1383, 1384, 1318, 1325, 1330, 1331, 1453, 1529, 1530, 1531, 1532, 1533, 1534, 1535, 1536, 1537, 1517]
def chkJ (q : (Nat × Nat × Int64) × Nat) : Bool := wOK q.2 (.constantLong (cnm q.1.1) q.1.2.1 q.1.2.2)
set_option maxRecDepth 100000 in
theorem cj_ok : (cjL.zip cjW).all chkJ = true := by decide +kernel
theorem cj_len : cjL.length ≤ cjW.length := by decide +kernel
theorem gst_ok0 : Cond.fieldLink (cnm 10) 201 "HeraldDesk" "FAMILIES" "[I" ∈ lw_good := wOK_mem (j := 831) (by decide +kernel)
theorem gst_ok1 : Cond.fieldLink (cnm 12) 89 "HeraldDesk$Painter" "FIELD_U" "[I" ∈ lw_good := wOK_mem (j := 905) (by decide +kernel)
theorem gst_ok2 : Cond.fieldLink (cnm 12) 97 "HeraldDesk$Painter" "FIELD_V" "[I" ∈ lw_good := wOK_mem (j := 911) (by decide +kernel)
theorem gst_ok3 : Cond.fieldLink (cnm 40) 38 "java/lang/String" "COMPACT_STRINGS" "Z" ∈ lw_good := wOK_mem (j := 266) (by decide +kernel)
theorem arc_int : Cond.arrayClass .int ∈ lw_good := wOK_mem (j := 217) (by decide +kernel)
theorem arc_byte : Cond.arrayClass .byte ∈ lw_good := wOK_mem (j := 511) (by decide +kernel)
theorem arc_char : Cond.arrayClass .char ∈ lw_good := wOK_mem (j := 145) (by decide +kernel)
theorem arc_boolean : Cond.arrayClass .boolean ∈ lw_good := wOK_mem (j := 1220) (by decide +kernel)
theorem obj_w1 : Cond.instanceMethod objectInit ∈ lw_good := wOK_mem (j := 118) (by decide +kernel)
theorem obj_w2 : Cond.code objectInit ⟨#[0xb1]⟩ 1 none ∈ lw_good := wOK_mem (j := 119) (by decide +kernel)
end
section
theorem math_min1 : Cond.static Lib.Math.min.name ∈ lw_good := wOK_mem (j := 316) (by decide +kernel)
theorem math_min2 : Cond.code Lib.Math.min.name Lib.Math.min.code 2 (some .int) ∈ lw_good := wOK_mem (j := 317) (by decide +kernel)
theorem math_max1 : Cond.static Lib.Math.max.name ∈ lw_good := wOK_mem (j := 319) (by decide +kernel)
theorem math_max2 : Cond.code Lib.Math.max.name Lib.Math.max.code 2 (some .int) ∈ lw_good := wOK_mem (j := 320) (by decide +kernel)
theorem math_abs1 : Cond.static Lib.Math.abs.name ∈ lw_good := wOK_mem (j := 887) (by decide +kernel)
theorem math_abs2 : Cond.code Lib.Math.abs.name Lib.Math.abs.code 1 (some .int) ∈ lw_good := wOK_mem (j := 888) (by decide +kernel)
theorem math_ini : Cond.initialized "java/lang/Math" ∈ lw_good := wOK_mem (j := 105) (by decide +kernel)
def mW : List (Nat × Nat × Nat × Nat) := [(183, 98, 182, 0), (711, 98, 709, 710), (716, 98, 714, 715), (820, 98, 818, 819), (824, 98, 823, 27), (827, 98, 826, 0), (840, 98, 839, 28), (843, 98, 842, 0), (846, 98, 845, 0), (871, 98, 869, 870), (189, 99, 188, 0), (332, 99, 330, 331), (344, 99, 342, 343), (393, 99, 391, 392), (397, 99, 395, 396), (417, 99, 415, 416), (160, 96, 159, 0), (328, 96, 326, 327), (340, 96, 339, 0), (405, 96, 404, 1), (409, 96, 408, 2), (413, 96, 412, 3), (598, 109, 597, 0), (660, 109, 659, 0), (700, 109, 698, 699), (798, 109, 796, 797), (802, 109, 800, 801), (806, 109, 805, 25), (810, 109, 809, 26), (170, 97, 169, 0), (728, 97, 726, 727), (732, 97, 731, 18), (737, 97, 736, 19), (741, 97, 740, 20), (754, 97, 753, 21), (762, 97, 761, 22), (769, 97, 768, 23), (778, 97, 776, 777), (953, 111, 952, 0), (1007, 111, 1006, 0), (1031, 111, 1029, 1030), (1035, 111, 1034, 32), (1039, 111, 1038, 33), (1043, 111, 1041, 1042), (1048, 111, 1046, 1047), (242, 100, 241, 0), (945, 100, 943, 944), (949, 100, 948, 30), (1004, 100, 1002, 1003), (1015, 100, 1013, 1014), (1023, 100, 1021, 1022), (1027, 100, 1026, 31), (532, 108, 531, 0), (643, 108, 641, 642), (693, 108, 691, 692), (696, 108, 695, 0), (750, 108, 748, 749), (786, 108, 784, 785), (790, 108, 789, 24), (794, 108, 792, 793), (853, 108, 851, 852), (857, 108, 856, 29), (150, 95, 149, 0), (527, 95, 525, 526), (564, 95, 563, 5), (576, 95, 575, 6), (581, 95, 580, 7), (587, 95, 586, 8), (647, 95, 646, 9), (652, 95, 651, 10), (656, 95, 655, 11), (665, 95, 664, 0), (669, 95, 668, 12), (675, 95, 674, 13), (679, 95, 678, 14), (126, 94, 125, 0), (314, 94, 312, 313), (324, 94, 322, 323), (336, 94, 334, 335), (349, 94, 347, 348), (353, 94, 351, 352), (357, 94, 355, 356), (382, 94, 380, 381), (401, 94, 399, 400), (423, 94, 421, 422), (116, 93, 115, 0), (385, 93, 384, 0), (515, 93, 513, 514), (519, 93, 518, 4), (523, 93, 521, 522), (592, 93, 591, 0), (685, 93, 684, 15), (689, 93, 688, 16), (704, 93, 702, 703), (707, 93, 706, 0), (720, 93, 718, 719), (724, 93, 723, 17), (774, 93, 772, 773), (782, 93, 780, 781), (814, 93, 812, 813), (830, 93, 829, 0), (835, 93, 834, 0), (849, 93, 848, 0), (863, 93, 861, 862), (867, 93, 865, 866), (875, 93, 873, 874), (879, 93, 877, 878), (929, 93, 927, 928), (937, 93, 935, 936), (941, 93, 939, 940), (1011, 93, 1009, 1010), (1019, 93, 1017, 1018), (1052, 93, 1050, 1051), (1057, 107, 1056, 0), (1062, 107, 1061, 34), (1066, 107, 1065, 35), (1070, 107, 1069, 36), (1074, 107, 1073, 37), (1224, 107, 1222, 1223), (1228, 107, 1227, 38), (1232, 107, 1230, 1231), (1236, 107, 1235, 39), (1240, 107, 1239, 40), (1244, 107, 1243, 41), (1247, 107, 1246, 0), (1251, 107, 1250, 42), (1255, 107, 1254, 43), (1258, 107, 1257, 0), (1261, 107, 1260, 0), (1265, 107, 1264, 44), (1269, 107, 1268, 45), (1273, 107, 1272, 46), (1276, 107, 1275, 0), (1289, 107, 1288, 47), (1294, 107, 1293, 48), (1298, 107, 1297, 49), (1301, 107, 1300, 0), (1317, 107, 1316, 50), (1324, 107, 1323, 51), (1329, 107, 1328, 52), (1334, 107, 1333, 0), (1337, 107, 1336, 0), (1366, 107, 1365, 53), (1369, 107, 1368, 0), (1378, 107, 1377, 54), (1382, 107, 1381, 55), (1388, 107, 1387, 56), (1392, 107, 1391, 57), (1398, 107, 1397, 58), (1401, 107, 1400, 0), (1404, 107, 1403, 0), (1408, 107, 1407, 59), (1411, 107, 1410, 0), (1420, 107, 1419, 0), (1423, 107, 1422, 0), (1432, 107, 1431, 60), (1436, 107, 1435, 61), (1440, 107, 1439, 62), (1444, 107, 1442, 1443), (1448, 107, 1447, 63), (1452, 107, 1451, 64), (1457, 107, 1456, 65), (1461, 107, 1460, 66), (1465, 107, 1464, 67), (1469, 107, 1468, 68), (1473, 107, 1472, 69), (1477, 107, 1476, 70), (1481, 107, 1479, 1480), (1485, 107, 1483, 1484), (1489, 107, 1488, 71), (1493, 107, 1492, 72), (1497, 107, 1496, 73), (1501, 107, 1500, 74), (1505, 107, 1503, 1504), (1509, 107, 1507, 1508), (1512, 107, 1511, 0), (1516, 107, 1515, 75), (1521, 107, 1520, 76), (1525, 107, 1524, 77), (1528, 107, 1527, 0), (1541, 107, 1540, 78), (1544, 107, 1543, 0), (1548, 107, 1547, 79), (1552, 107, 1550, 1551), (1556, 107, 1555, 80), (1560, 107, 1558, 1559), (1564, 107, 1563, 81), (1568, 107, 1567, 82), (1572, 107, 1571, 83), (1576, 107, 1575, 84), (1579, 107, 1578, 0), (1583, 107, 1582, 85), (1586, 107, 1585, 0), (1590, 107, 1588, 1589), (1594, 107, 1592, 1593), (1598, 107, 1596, 1597), (1601, 107, 1600, 0), (1604, 107, 1603, 0), (1608, 107, 1607, 86), (1611, 107, 1610, 0), (1614, 107, 1613, 0), (1617, 107, 1616, 0), (1620, 107, 1619, 0), (1624, 107, 1623, 87), (1628, 107, 1626, 1627), (1633, 107, 1631, 1632), (1637, 107, 1636, 88), (1641, 107, 1639, 1640), (1645, 107, 1643, 1644), (1649, 107, 1648, 89), (1653, 107, 1652, 90), (1657, 107, 1656, 91), (1661, 107, 1659, 1660), (882, 110, 881, 0), (885, 110, 884, 0), (892, 110, 891, 0), (895, 110, 894, 0), (898, 110, 897, 0), (901, 110, 900, 0), (904, 110, 903, 0), (910, 110, 909, 0), (915, 110, 914, 0), (919, 110, 918, 0), (922, 110, 921, 0), (925, 110, 924, 0), (932, 110, 931, 0), (261, 101, 259, 260), (265, 101, 263, 264), (306, 101, 304, 305), (310, 101, 308, 309), (362, 101, 360, 361), (428, 101, 426, 427), (432, 101, 430, 431), (270, 102, 269, 0), (273, 102, 272, 0), (365, 102, 364, 0), (436, 102, 435, 0), (439, 102, 438, 0), (444, 102, 443, 0)]
/-- what a method answers fits its type -/
def rOk (y : Nat) : Bool := match mRc y, mRt y with
  | 0, none => true
  | 1, some .int => true
  | 2, some .boolean => true
  | 2, some .char => true
  | 2, some .byte => true
  | 3, some .long => true
  | _ + 5, some (.object _) => true
  | _ + 5, some (.array _) => true
  | _, _ => false
def chkM (y : Nat) : Bool := wOK (mW.getD y (0, 0, 0, 0)).2.1 (.initialized (mNm y).cls) && (match mKi y with
  | 0 => wOK (mW.getD y (0, 0, 0, 0)).2.2.1 (.static (mNm y))
  | 1 => wOK (mW.getD y (0, 0, 0, 0)).2.2.1 (.instanceMethod (mNm y)) && wOK (mW.getD y (0, 0, 0, 0)).2.2.2 (.selects (mNm y).cls (mNm y) (mNm y)) && (Nat.blt (mOw y) 12 || Nat.beq (mOw y) 40)
  | 2 => wOK (mW.getD y (0, 0, 0, 0)).2.2.1 (.instanceMethod (mNm y)) && decide ((mNm y).name = "<init>") && decide (mRt y = none) && Nat.blt (mOw y) 12
  | _ => false) && rOk y && Nat.ble (mLo y) 40 && plainName (mNm y).cls && decide ((mNm y).cls ≠ "java/lang/invoke/MethodHandle") && decide ((mNm y).cls ≠ "java/lang/invoke/VarHandle") && decide ((parseMethodDescriptor (mNm y).desc).map (fun d => d.parameters.length) = some (mPa y)) && decide (cnm (mOw y) = (mNm y).cls)
set_option maxRecDepth 100000 in
theorem cwd0 : Cond.code (mNm 0) (mBy 0) (mLo 0) (mRt 0) ∈ lw_good := List.mem_filter.mpr ⟨List.mem_of_getElem? (show lw_tbl[183]? = some _ from rfl), rfl⟩
set_option maxRecDepth 100000 in
theorem cwd1 : Cond.code (mNm 1) (mBy 1) (mLo 1) (mRt 1) ∈ lw_good := List.mem_filter.mpr ⟨List.mem_of_getElem? (show lw_tbl[711]? = some _ from rfl), rfl⟩
set_option maxRecDepth 100000 in
theorem cwd2 : Cond.code (mNm 2) (mBy 2) (mLo 2) (mRt 2) ∈ lw_good := List.mem_filter.mpr ⟨List.mem_of_getElem? (show lw_tbl[716]? = some _ from rfl), rfl⟩
set_option maxRecDepth 100000 in
theorem cwd3 : Cond.code (mNm 3) (mBy 3) (mLo 3) (mRt 3) ∈ lw_good := List.mem_filter.mpr ⟨List.mem_of_getElem? (show lw_tbl[820]? = some _ from rfl), rfl⟩
set_option maxRecDepth 100000 in
theorem cwd4 : Cond.code (mNm 4) (mBy 4) (mLo 4) (mRt 4) ∈ lw_good := List.mem_filter.mpr ⟨List.mem_of_getElem? (show lw_tbl[824]? = some _ from rfl), rfl⟩
set_option maxRecDepth 100000 in
theorem cwd5 : Cond.code (mNm 5) (mBy 5) (mLo 5) (mRt 5) ∈ lw_good := List.mem_filter.mpr ⟨List.mem_of_getElem? (show lw_tbl[827]? = some _ from rfl), rfl⟩
set_option maxRecDepth 100000 in
theorem cwd6 : Cond.code (mNm 6) (mBy 6) (mLo 6) (mRt 6) ∈ lw_good := List.mem_filter.mpr ⟨List.mem_of_getElem? (show lw_tbl[840]? = some _ from rfl), rfl⟩
set_option maxRecDepth 100000 in
theorem cwd7 : Cond.code (mNm 7) (mBy 7) (mLo 7) (mRt 7) ∈ lw_good := List.mem_filter.mpr ⟨List.mem_of_getElem? (show lw_tbl[843]? = some _ from rfl), rfl⟩
set_option maxRecDepth 100000 in
theorem cwd8 : Cond.code (mNm 8) (mBy 8) (mLo 8) (mRt 8) ∈ lw_good := List.mem_filter.mpr ⟨List.mem_of_getElem? (show lw_tbl[846]? = some _ from rfl), rfl⟩
set_option maxRecDepth 100000 in
theorem cwd9 : Cond.code (mNm 9) (mBy 9) (mLo 9) (mRt 9) ∈ lw_good := List.mem_filter.mpr ⟨List.mem_of_getElem? (show lw_tbl[871]? = some _ from rfl), rfl⟩
set_option maxRecDepth 100000 in
theorem cwd10 : Cond.code (mNm 10) (mBy 10) (mLo 10) (mRt 10) ∈ lw_good := List.mem_filter.mpr ⟨List.mem_of_getElem? (show lw_tbl[189]? = some _ from rfl), rfl⟩
set_option maxRecDepth 100000 in
theorem cwd11 : Cond.code (mNm 11) (mBy 11) (mLo 11) (mRt 11) ∈ lw_good := List.mem_filter.mpr ⟨List.mem_of_getElem? (show lw_tbl[332]? = some _ from rfl), rfl⟩
set_option maxRecDepth 100000 in
theorem cwd12 : Cond.code (mNm 12) (mBy 12) (mLo 12) (mRt 12) ∈ lw_good := List.mem_filter.mpr ⟨List.mem_of_getElem? (show lw_tbl[344]? = some _ from rfl), rfl⟩
set_option maxRecDepth 100000 in
theorem cwd13 : Cond.code (mNm 13) (mBy 13) (mLo 13) (mRt 13) ∈ lw_good := List.mem_filter.mpr ⟨List.mem_of_getElem? (show lw_tbl[393]? = some _ from rfl), rfl⟩
set_option maxRecDepth 100000 in
theorem cwd14 : Cond.code (mNm 14) (mBy 14) (mLo 14) (mRt 14) ∈ lw_good := List.mem_filter.mpr ⟨List.mem_of_getElem? (show lw_tbl[397]? = some _ from rfl), rfl⟩
set_option maxRecDepth 100000 in
theorem cwd15 : Cond.code (mNm 15) (mBy 15) (mLo 15) (mRt 15) ∈ lw_good := List.mem_filter.mpr ⟨List.mem_of_getElem? (show lw_tbl[417]? = some _ from rfl), rfl⟩
set_option maxRecDepth 100000 in
theorem cwd16 : Cond.code (mNm 16) (mBy 16) (mLo 16) (mRt 16) ∈ lw_good := List.mem_filter.mpr ⟨List.mem_of_getElem? (show lw_tbl[160]? = some _ from rfl), rfl⟩
set_option maxRecDepth 100000 in
theorem cwd17 : Cond.code (mNm 17) (mBy 17) (mLo 17) (mRt 17) ∈ lw_good := List.mem_filter.mpr ⟨List.mem_of_getElem? (show lw_tbl[328]? = some _ from rfl), rfl⟩
set_option maxRecDepth 100000 in
theorem cwd18 : Cond.code (mNm 18) (mBy 18) (mLo 18) (mRt 18) ∈ lw_good := List.mem_filter.mpr ⟨List.mem_of_getElem? (show lw_tbl[340]? = some _ from rfl), rfl⟩
set_option maxRecDepth 100000 in
theorem cwd19 : Cond.code (mNm 19) (mBy 19) (mLo 19) (mRt 19) ∈ lw_good := List.mem_filter.mpr ⟨List.mem_of_getElem? (show lw_tbl[405]? = some _ from rfl), rfl⟩
set_option maxRecDepth 100000 in
theorem cwd20 : Cond.code (mNm 20) (mBy 20) (mLo 20) (mRt 20) ∈ lw_good := List.mem_filter.mpr ⟨List.mem_of_getElem? (show lw_tbl[409]? = some _ from rfl), rfl⟩
set_option maxRecDepth 100000 in
theorem cwd21 : Cond.code (mNm 21) (mBy 21) (mLo 21) (mRt 21) ∈ lw_good := List.mem_filter.mpr ⟨List.mem_of_getElem? (show lw_tbl[413]? = some _ from rfl), rfl⟩
set_option maxRecDepth 100000 in
theorem cwd22 : Cond.code (mNm 22) (mBy 22) (mLo 22) (mRt 22) ∈ lw_good := List.mem_filter.mpr ⟨List.mem_of_getElem? (show lw_tbl[598]? = some _ from rfl), rfl⟩
set_option maxRecDepth 100000 in
theorem cwd23 : Cond.code (mNm 23) (mBy 23) (mLo 23) (mRt 23) ∈ lw_good := List.mem_filter.mpr ⟨List.mem_of_getElem? (show lw_tbl[660]? = some _ from rfl), rfl⟩
set_option maxRecDepth 100000 in
theorem cwd24 : Cond.code (mNm 24) (mBy 24) (mLo 24) (mRt 24) ∈ lw_good := List.mem_filter.mpr ⟨List.mem_of_getElem? (show lw_tbl[700]? = some _ from rfl), rfl⟩
set_option maxRecDepth 100000 in
theorem cwd25 : Cond.code (mNm 25) (mBy 25) (mLo 25) (mRt 25) ∈ lw_good := List.mem_filter.mpr ⟨List.mem_of_getElem? (show lw_tbl[798]? = some _ from rfl), rfl⟩
set_option maxRecDepth 100000 in
theorem cwd26 : Cond.code (mNm 26) (mBy 26) (mLo 26) (mRt 26) ∈ lw_good := List.mem_filter.mpr ⟨List.mem_of_getElem? (show lw_tbl[802]? = some _ from rfl), rfl⟩
set_option maxRecDepth 100000 in
theorem cwd27 : Cond.code (mNm 27) (mBy 27) (mLo 27) (mRt 27) ∈ lw_good := List.mem_filter.mpr ⟨List.mem_of_getElem? (show lw_tbl[806]? = some _ from rfl), rfl⟩
set_option maxRecDepth 100000 in
theorem cwd28 : Cond.code (mNm 28) (mBy 28) (mLo 28) (mRt 28) ∈ lw_good := List.mem_filter.mpr ⟨List.mem_of_getElem? (show lw_tbl[810]? = some _ from rfl), rfl⟩
set_option maxRecDepth 100000 in
theorem cwd29 : Cond.code (mNm 29) (mBy 29) (mLo 29) (mRt 29) ∈ lw_good := List.mem_filter.mpr ⟨List.mem_of_getElem? (show lw_tbl[170]? = some _ from rfl), rfl⟩
set_option maxRecDepth 100000 in
theorem cwd30 : Cond.code (mNm 30) (mBy 30) (mLo 30) (mRt 30) ∈ lw_good := List.mem_filter.mpr ⟨List.mem_of_getElem? (show lw_tbl[728]? = some _ from rfl), rfl⟩
set_option maxRecDepth 100000 in
theorem cwd31 : Cond.code (mNm 31) (mBy 31) (mLo 31) (mRt 31) ∈ lw_good := List.mem_filter.mpr ⟨List.mem_of_getElem? (show lw_tbl[732]? = some _ from rfl), rfl⟩
set_option maxRecDepth 100000 in
theorem cwd32 : Cond.code (mNm 32) (mBy 32) (mLo 32) (mRt 32) ∈ lw_good := List.mem_filter.mpr ⟨List.mem_of_getElem? (show lw_tbl[737]? = some _ from rfl), rfl⟩
set_option maxRecDepth 100000 in
theorem cwd33 : Cond.code (mNm 33) (mBy 33) (mLo 33) (mRt 33) ∈ lw_good := List.mem_filter.mpr ⟨List.mem_of_getElem? (show lw_tbl[741]? = some _ from rfl), rfl⟩
set_option maxRecDepth 100000 in
theorem cwd34 : Cond.code (mNm 34) (mBy 34) (mLo 34) (mRt 34) ∈ lw_good := List.mem_filter.mpr ⟨List.mem_of_getElem? (show lw_tbl[754]? = some _ from rfl), rfl⟩
set_option maxRecDepth 100000 in
theorem cwd35 : Cond.code (mNm 35) (mBy 35) (mLo 35) (mRt 35) ∈ lw_good := List.mem_filter.mpr ⟨List.mem_of_getElem? (show lw_tbl[762]? = some _ from rfl), rfl⟩
set_option maxRecDepth 100000 in
theorem cwd36 : Cond.code (mNm 36) (mBy 36) (mLo 36) (mRt 36) ∈ lw_good := List.mem_filter.mpr ⟨List.mem_of_getElem? (show lw_tbl[769]? = some _ from rfl), rfl⟩
set_option maxRecDepth 100000 in
theorem cwd37 : Cond.code (mNm 37) (mBy 37) (mLo 37) (mRt 37) ∈ lw_good := List.mem_filter.mpr ⟨List.mem_of_getElem? (show lw_tbl[778]? = some _ from rfl), rfl⟩
set_option maxRecDepth 100000 in
theorem cwd38 : Cond.code (mNm 38) (mBy 38) (mLo 38) (mRt 38) ∈ lw_good := List.mem_filter.mpr ⟨List.mem_of_getElem? (show lw_tbl[953]? = some _ from rfl), rfl⟩
set_option maxRecDepth 100000 in
theorem cwd39 : Cond.code (mNm 39) (mBy 39) (mLo 39) (mRt 39) ∈ lw_good := List.mem_filter.mpr ⟨List.mem_of_getElem? (show lw_tbl[1007]? = some _ from rfl), rfl⟩
set_option maxRecDepth 100000 in
theorem cwd40 : Cond.code (mNm 40) (mBy 40) (mLo 40) (mRt 40) ∈ lw_good := List.mem_filter.mpr ⟨List.mem_of_getElem? (show lw_tbl[1031]? = some _ from rfl), rfl⟩
set_option maxRecDepth 100000 in
theorem cwd41 : Cond.code (mNm 41) (mBy 41) (mLo 41) (mRt 41) ∈ lw_good := List.mem_filter.mpr ⟨List.mem_of_getElem? (show lw_tbl[1035]? = some _ from rfl), rfl⟩
set_option maxRecDepth 100000 in
theorem cwd42 : Cond.code (mNm 42) (mBy 42) (mLo 42) (mRt 42) ∈ lw_good := List.mem_filter.mpr ⟨List.mem_of_getElem? (show lw_tbl[1039]? = some _ from rfl), rfl⟩
set_option maxRecDepth 100000 in
theorem cwd43 : Cond.code (mNm 43) (mBy 43) (mLo 43) (mRt 43) ∈ lw_good := List.mem_filter.mpr ⟨List.mem_of_getElem? (show lw_tbl[1043]? = some _ from rfl), rfl⟩
set_option maxRecDepth 100000 in
theorem cwd44 : Cond.code (mNm 44) (mBy 44) (mLo 44) (mRt 44) ∈ lw_good := List.mem_filter.mpr ⟨List.mem_of_getElem? (show lw_tbl[1048]? = some _ from rfl), rfl⟩
set_option maxRecDepth 100000 in
theorem cwd45 : Cond.code (mNm 45) (mBy 45) (mLo 45) (mRt 45) ∈ lw_good := List.mem_filter.mpr ⟨List.mem_of_getElem? (show lw_tbl[242]? = some _ from rfl), rfl⟩
set_option maxRecDepth 100000 in
theorem cwd46 : Cond.code (mNm 46) (mBy 46) (mLo 46) (mRt 46) ∈ lw_good := List.mem_filter.mpr ⟨List.mem_of_getElem? (show lw_tbl[945]? = some _ from rfl), rfl⟩
set_option maxRecDepth 100000 in
theorem cwd47 : Cond.code (mNm 47) (mBy 47) (mLo 47) (mRt 47) ∈ lw_good := List.mem_filter.mpr ⟨List.mem_of_getElem? (show lw_tbl[949]? = some _ from rfl), rfl⟩
set_option maxRecDepth 100000 in
theorem cwd48 : Cond.code (mNm 48) (mBy 48) (mLo 48) (mRt 48) ∈ lw_good := List.mem_filter.mpr ⟨List.mem_of_getElem? (show lw_tbl[1004]? = some _ from rfl), rfl⟩
set_option maxRecDepth 100000 in
theorem cwd49 : Cond.code (mNm 49) (mBy 49) (mLo 49) (mRt 49) ∈ lw_good := List.mem_filter.mpr ⟨List.mem_of_getElem? (show lw_tbl[1015]? = some _ from rfl), rfl⟩
set_option maxRecDepth 100000 in
theorem cwd50 : Cond.code (mNm 50) (mBy 50) (mLo 50) (mRt 50) ∈ lw_good := List.mem_filter.mpr ⟨List.mem_of_getElem? (show lw_tbl[1023]? = some _ from rfl), rfl⟩
set_option maxRecDepth 100000 in
theorem cwd51 : Cond.code (mNm 51) (mBy 51) (mLo 51) (mRt 51) ∈ lw_good := List.mem_filter.mpr ⟨List.mem_of_getElem? (show lw_tbl[1027]? = some _ from rfl), rfl⟩
set_option maxRecDepth 100000 in
theorem cwd52 : Cond.code (mNm 52) (mBy 52) (mLo 52) (mRt 52) ∈ lw_good := List.mem_filter.mpr ⟨List.mem_of_getElem? (show lw_tbl[532]? = some _ from rfl), rfl⟩
set_option maxRecDepth 100000 in
theorem cwd53 : Cond.code (mNm 53) (mBy 53) (mLo 53) (mRt 53) ∈ lw_good := List.mem_filter.mpr ⟨List.mem_of_getElem? (show lw_tbl[643]? = some _ from rfl), rfl⟩
set_option maxRecDepth 100000 in
theorem cwd54 : Cond.code (mNm 54) (mBy 54) (mLo 54) (mRt 54) ∈ lw_good := List.mem_filter.mpr ⟨List.mem_of_getElem? (show lw_tbl[693]? = some _ from rfl), rfl⟩
set_option maxRecDepth 100000 in
theorem cwd55 : Cond.code (mNm 55) (mBy 55) (mLo 55) (mRt 55) ∈ lw_good := List.mem_filter.mpr ⟨List.mem_of_getElem? (show lw_tbl[696]? = some _ from rfl), rfl⟩
set_option maxRecDepth 100000 in
theorem cwd56 : Cond.code (mNm 56) (mBy 56) (mLo 56) (mRt 56) ∈ lw_good := List.mem_filter.mpr ⟨List.mem_of_getElem? (show lw_tbl[750]? = some _ from rfl), rfl⟩
set_option maxRecDepth 100000 in
theorem cwd57 : Cond.code (mNm 57) (mBy 57) (mLo 57) (mRt 57) ∈ lw_good := List.mem_filter.mpr ⟨List.mem_of_getElem? (show lw_tbl[786]? = some _ from rfl), rfl⟩
set_option maxRecDepth 100000 in
theorem cwd58 : Cond.code (mNm 58) (mBy 58) (mLo 58) (mRt 58) ∈ lw_good := List.mem_filter.mpr ⟨List.mem_of_getElem? (show lw_tbl[790]? = some _ from rfl), rfl⟩
set_option maxRecDepth 100000 in
theorem cwd59 : Cond.code (mNm 59) (mBy 59) (mLo 59) (mRt 59) ∈ lw_good := List.mem_filter.mpr ⟨List.mem_of_getElem? (show lw_tbl[794]? = some _ from rfl), rfl⟩
set_option maxRecDepth 100000 in
theorem cwd60 : Cond.code (mNm 60) (mBy 60) (mLo 60) (mRt 60) ∈ lw_good := List.mem_filter.mpr ⟨List.mem_of_getElem? (show lw_tbl[853]? = some _ from rfl), rfl⟩
set_option maxRecDepth 100000 in
theorem cwd61 : Cond.code (mNm 61) (mBy 61) (mLo 61) (mRt 61) ∈ lw_good := List.mem_filter.mpr ⟨List.mem_of_getElem? (show lw_tbl[857]? = some _ from rfl), rfl⟩
set_option maxRecDepth 100000 in
theorem cwd62 : Cond.code (mNm 62) (mBy 62) (mLo 62) (mRt 62) ∈ lw_good := List.mem_filter.mpr ⟨List.mem_of_getElem? (show lw_tbl[150]? = some _ from rfl), rfl⟩
set_option maxRecDepth 100000 in
theorem cwd63 : Cond.code (mNm 63) (mBy 63) (mLo 63) (mRt 63) ∈ lw_good := List.mem_filter.mpr ⟨List.mem_of_getElem? (show lw_tbl[527]? = some _ from rfl), rfl⟩
set_option maxRecDepth 100000 in
theorem cwd64 : Cond.code (mNm 64) (mBy 64) (mLo 64) (mRt 64) ∈ lw_good := List.mem_filter.mpr ⟨List.mem_of_getElem? (show lw_tbl[564]? = some _ from rfl), rfl⟩
set_option maxRecDepth 100000 in
theorem cwd65 : Cond.code (mNm 65) (mBy 65) (mLo 65) (mRt 65) ∈ lw_good := List.mem_filter.mpr ⟨List.mem_of_getElem? (show lw_tbl[576]? = some _ from rfl), rfl⟩
set_option maxRecDepth 100000 in
theorem cwd66 : Cond.code (mNm 66) (mBy 66) (mLo 66) (mRt 66) ∈ lw_good := List.mem_filter.mpr ⟨List.mem_of_getElem? (show lw_tbl[581]? = some _ from rfl), rfl⟩
set_option maxRecDepth 100000 in
theorem cwd67 : Cond.code (mNm 67) (mBy 67) (mLo 67) (mRt 67) ∈ lw_good := List.mem_filter.mpr ⟨List.mem_of_getElem? (show lw_tbl[587]? = some _ from rfl), rfl⟩
set_option maxRecDepth 100000 in
theorem cwd68 : Cond.code (mNm 68) (mBy 68) (mLo 68) (mRt 68) ∈ lw_good := List.mem_filter.mpr ⟨List.mem_of_getElem? (show lw_tbl[647]? = some _ from rfl), rfl⟩
set_option maxRecDepth 100000 in
theorem cwd69 : Cond.code (mNm 69) (mBy 69) (mLo 69) (mRt 69) ∈ lw_good := List.mem_filter.mpr ⟨List.mem_of_getElem? (show lw_tbl[652]? = some _ from rfl), rfl⟩
set_option maxRecDepth 100000 in
theorem cwd70 : Cond.code (mNm 70) (mBy 70) (mLo 70) (mRt 70) ∈ lw_good := List.mem_filter.mpr ⟨List.mem_of_getElem? (show lw_tbl[656]? = some _ from rfl), rfl⟩
set_option maxRecDepth 100000 in
theorem cwd71 : Cond.code (mNm 71) (mBy 71) (mLo 71) (mRt 71) ∈ lw_good := List.mem_filter.mpr ⟨List.mem_of_getElem? (show lw_tbl[665]? = some _ from rfl), rfl⟩
set_option maxRecDepth 100000 in
theorem cwd72 : Cond.code (mNm 72) (mBy 72) (mLo 72) (mRt 72) ∈ lw_good := List.mem_filter.mpr ⟨List.mem_of_getElem? (show lw_tbl[669]? = some _ from rfl), rfl⟩
set_option maxRecDepth 100000 in
theorem cwd73 : Cond.code (mNm 73) (mBy 73) (mLo 73) (mRt 73) ∈ lw_good := List.mem_filter.mpr ⟨List.mem_of_getElem? (show lw_tbl[675]? = some _ from rfl), rfl⟩
set_option maxRecDepth 100000 in
theorem cwd74 : Cond.code (mNm 74) (mBy 74) (mLo 74) (mRt 74) ∈ lw_good := List.mem_filter.mpr ⟨List.mem_of_getElem? (show lw_tbl[679]? = some _ from rfl), rfl⟩
set_option maxRecDepth 100000 in
theorem cwd75 : Cond.code (mNm 75) (mBy 75) (mLo 75) (mRt 75) ∈ lw_good := List.mem_filter.mpr ⟨List.mem_of_getElem? (show lw_tbl[126]? = some _ from rfl), rfl⟩
set_option maxRecDepth 100000 in
theorem cwd76 : Cond.code (mNm 76) (mBy 76) (mLo 76) (mRt 76) ∈ lw_good := List.mem_filter.mpr ⟨List.mem_of_getElem? (show lw_tbl[314]? = some _ from rfl), rfl⟩
set_option maxRecDepth 100000 in
theorem cwd77 : Cond.code (mNm 77) (mBy 77) (mLo 77) (mRt 77) ∈ lw_good := List.mem_filter.mpr ⟨List.mem_of_getElem? (show lw_tbl[324]? = some _ from rfl), rfl⟩
set_option maxRecDepth 100000 in
theorem cwd78 : Cond.code (mNm 78) (mBy 78) (mLo 78) (mRt 78) ∈ lw_good := List.mem_filter.mpr ⟨List.mem_of_getElem? (show lw_tbl[336]? = some _ from rfl), rfl⟩
set_option maxRecDepth 100000 in
theorem cwd79 : Cond.code (mNm 79) (mBy 79) (mLo 79) (mRt 79) ∈ lw_good := List.mem_filter.mpr ⟨List.mem_of_getElem? (show lw_tbl[349]? = some _ from rfl), rfl⟩
set_option maxRecDepth 100000 in
theorem cwd80 : Cond.code (mNm 80) (mBy 80) (mLo 80) (mRt 80) ∈ lw_good := List.mem_filter.mpr ⟨List.mem_of_getElem? (show lw_tbl[353]? = some _ from rfl), rfl⟩
set_option maxRecDepth 100000 in
theorem cwd81 : Cond.code (mNm 81) (mBy 81) (mLo 81) (mRt 81) ∈ lw_good := List.mem_filter.mpr ⟨List.mem_of_getElem? (show lw_tbl[357]? = some _ from rfl), rfl⟩
set_option maxRecDepth 100000 in
theorem cwd82 : Cond.code (mNm 82) (mBy 82) (mLo 82) (mRt 82) ∈ lw_good := List.mem_filter.mpr ⟨List.mem_of_getElem? (show lw_tbl[382]? = some _ from rfl), rfl⟩
set_option maxRecDepth 100000 in
theorem cwd83 : Cond.code (mNm 83) (mBy 83) (mLo 83) (mRt 83) ∈ lw_good := List.mem_filter.mpr ⟨List.mem_of_getElem? (show lw_tbl[401]? = some _ from rfl), rfl⟩
set_option maxRecDepth 100000 in
theorem cwd84 : Cond.code (mNm 84) (mBy 84) (mLo 84) (mRt 84) ∈ lw_good := List.mem_filter.mpr ⟨List.mem_of_getElem? (show lw_tbl[423]? = some _ from rfl), rfl⟩
set_option maxRecDepth 100000 in
theorem cwd85 : Cond.code (mNm 85) (mBy 85) (mLo 85) (mRt 85) ∈ lw_good := List.mem_filter.mpr ⟨List.mem_of_getElem? (show lw_tbl[116]? = some _ from rfl), rfl⟩
set_option maxRecDepth 100000 in
theorem cwd86 : Cond.code (mNm 86) (mBy 86) (mLo 86) (mRt 86) ∈ lw_good := List.mem_filter.mpr ⟨List.mem_of_getElem? (show lw_tbl[385]? = some _ from rfl), rfl⟩
set_option maxRecDepth 100000 in
theorem cwd87 : Cond.code (mNm 87) (mBy 87) (mLo 87) (mRt 87) ∈ lw_good := List.mem_filter.mpr ⟨List.mem_of_getElem? (show lw_tbl[515]? = some _ from rfl), rfl⟩
set_option maxRecDepth 100000 in
theorem cwd88 : Cond.code (mNm 88) (mBy 88) (mLo 88) (mRt 88) ∈ lw_good := List.mem_filter.mpr ⟨List.mem_of_getElem? (show lw_tbl[519]? = some _ from rfl), rfl⟩
set_option maxRecDepth 100000 in
theorem cwd89 : Cond.code (mNm 89) (mBy 89) (mLo 89) (mRt 89) ∈ lw_good := List.mem_filter.mpr ⟨List.mem_of_getElem? (show lw_tbl[523]? = some _ from rfl), rfl⟩
set_option maxRecDepth 100000 in
theorem cwd90 : Cond.code (mNm 90) (mBy 90) (mLo 90) (mRt 90) ∈ lw_good := List.mem_filter.mpr ⟨List.mem_of_getElem? (show lw_tbl[592]? = some _ from rfl), rfl⟩
set_option maxRecDepth 100000 in
theorem cwd91 : Cond.code (mNm 91) (mBy 91) (mLo 91) (mRt 91) ∈ lw_good := List.mem_filter.mpr ⟨List.mem_of_getElem? (show lw_tbl[685]? = some _ from rfl), rfl⟩
set_option maxRecDepth 100000 in
theorem cwd92 : Cond.code (mNm 92) (mBy 92) (mLo 92) (mRt 92) ∈ lw_good := List.mem_filter.mpr ⟨List.mem_of_getElem? (show lw_tbl[689]? = some _ from rfl), rfl⟩
set_option maxRecDepth 100000 in
theorem cwd93 : Cond.code (mNm 93) (mBy 93) (mLo 93) (mRt 93) ∈ lw_good := List.mem_filter.mpr ⟨List.mem_of_getElem? (show lw_tbl[704]? = some _ from rfl), rfl⟩
set_option maxRecDepth 100000 in
theorem cwd94 : Cond.code (mNm 94) (mBy 94) (mLo 94) (mRt 94) ∈ lw_good := List.mem_filter.mpr ⟨List.mem_of_getElem? (show lw_tbl[707]? = some _ from rfl), rfl⟩
set_option maxRecDepth 100000 in
theorem cwd95 : Cond.code (mNm 95) (mBy 95) (mLo 95) (mRt 95) ∈ lw_good := List.mem_filter.mpr ⟨List.mem_of_getElem? (show lw_tbl[720]? = some _ from rfl), rfl⟩
set_option maxRecDepth 100000 in
theorem cwd96 : Cond.code (mNm 96) (mBy 96) (mLo 96) (mRt 96) ∈ lw_good := List.mem_filter.mpr ⟨List.mem_of_getElem? (show lw_tbl[724]? = some _ from rfl), rfl⟩
set_option maxRecDepth 100000 in
theorem cwd97 : Cond.code (mNm 97) (mBy 97) (mLo 97) (mRt 97) ∈ lw_good := List.mem_filter.mpr ⟨List.mem_of_getElem? (show lw_tbl[774]? = some _ from rfl), rfl⟩
set_option maxRecDepth 100000 in
theorem cwd98 : Cond.code (mNm 98) (mBy 98) (mLo 98) (mRt 98) ∈ lw_good := List.mem_filter.mpr ⟨List.mem_of_getElem? (show lw_tbl[782]? = some _ from rfl), rfl⟩
set_option maxRecDepth 100000 in
theorem cwd99 : Cond.code (mNm 99) (mBy 99) (mLo 99) (mRt 99) ∈ lw_good := List.mem_filter.mpr ⟨List.mem_of_getElem? (show lw_tbl[814]? = some _ from rfl), rfl⟩
set_option maxRecDepth 100000 in
theorem cwd100 : Cond.code (mNm 100) (mBy 100) (mLo 100) (mRt 100) ∈ lw_good := List.mem_filter.mpr ⟨List.mem_of_getElem? (show lw_tbl[830]? = some _ from rfl), rfl⟩
set_option maxRecDepth 100000 in
theorem cwd101 : Cond.code (mNm 101) (mBy 101) (mLo 101) (mRt 101) ∈ lw_good := List.mem_filter.mpr ⟨List.mem_of_getElem? (show lw_tbl[835]? = some _ from rfl), rfl⟩
set_option maxRecDepth 100000 in
theorem cwd102 : Cond.code (mNm 102) (mBy 102) (mLo 102) (mRt 102) ∈ lw_good := List.mem_filter.mpr ⟨List.mem_of_getElem? (show lw_tbl[849]? = some _ from rfl), rfl⟩
set_option maxRecDepth 100000 in
theorem cwd103 : Cond.code (mNm 103) (mBy 103) (mLo 103) (mRt 103) ∈ lw_good := List.mem_filter.mpr ⟨List.mem_of_getElem? (show lw_tbl[863]? = some _ from rfl), rfl⟩
set_option maxRecDepth 100000 in
theorem cwd104 : Cond.code (mNm 104) (mBy 104) (mLo 104) (mRt 104) ∈ lw_good := List.mem_filter.mpr ⟨List.mem_of_getElem? (show lw_tbl[867]? = some _ from rfl), rfl⟩
set_option maxRecDepth 100000 in
theorem cwd105 : Cond.code (mNm 105) (mBy 105) (mLo 105) (mRt 105) ∈ lw_good := List.mem_filter.mpr ⟨List.mem_of_getElem? (show lw_tbl[875]? = some _ from rfl), rfl⟩
set_option maxRecDepth 100000 in
theorem cwd106 : Cond.code (mNm 106) (mBy 106) (mLo 106) (mRt 106) ∈ lw_good := List.mem_filter.mpr ⟨List.mem_of_getElem? (show lw_tbl[879]? = some _ from rfl), rfl⟩
set_option maxRecDepth 100000 in
theorem cwd107 : Cond.code (mNm 107) (mBy 107) (mLo 107) (mRt 107) ∈ lw_good := List.mem_filter.mpr ⟨List.mem_of_getElem? (show lw_tbl[929]? = some _ from rfl), rfl⟩
set_option maxRecDepth 100000 in
theorem cwd108 : Cond.code (mNm 108) (mBy 108) (mLo 108) (mRt 108) ∈ lw_good := List.mem_filter.mpr ⟨List.mem_of_getElem? (show lw_tbl[937]? = some _ from rfl), rfl⟩
set_option maxRecDepth 100000 in
theorem cwd109 : Cond.code (mNm 109) (mBy 109) (mLo 109) (mRt 109) ∈ lw_good := List.mem_filter.mpr ⟨List.mem_of_getElem? (show lw_tbl[941]? = some _ from rfl), rfl⟩
set_option maxRecDepth 100000 in
theorem cwd110 : Cond.code (mNm 110) (mBy 110) (mLo 110) (mRt 110) ∈ lw_good := List.mem_filter.mpr ⟨List.mem_of_getElem? (show lw_tbl[1011]? = some _ from rfl), rfl⟩
set_option maxRecDepth 100000 in
theorem cwd111 : Cond.code (mNm 111) (mBy 111) (mLo 111) (mRt 111) ∈ lw_good := List.mem_filter.mpr ⟨List.mem_of_getElem? (show lw_tbl[1019]? = some _ from rfl), rfl⟩
set_option maxRecDepth 100000 in
theorem cwd112 : Cond.code (mNm 112) (mBy 112) (mLo 112) (mRt 112) ∈ lw_good := List.mem_filter.mpr ⟨List.mem_of_getElem? (show lw_tbl[1052]? = some _ from rfl), rfl⟩
set_option maxRecDepth 100000 in
theorem cwd113 : Cond.code (mNm 113) (mBy 113) (mLo 113) (mRt 113) ∈ lw_good := List.mem_filter.mpr ⟨List.mem_of_getElem? (show lw_tbl[1057]? = some _ from rfl), rfl⟩
set_option maxRecDepth 100000 in
theorem cwd114 : Cond.code (mNm 114) (mBy 114) (mLo 114) (mRt 114) ∈ lw_good := List.mem_filter.mpr ⟨List.mem_of_getElem? (show lw_tbl[1062]? = some _ from rfl), rfl⟩
set_option maxRecDepth 100000 in
theorem cwd115 : Cond.code (mNm 115) (mBy 115) (mLo 115) (mRt 115) ∈ lw_good := List.mem_filter.mpr ⟨List.mem_of_getElem? (show lw_tbl[1066]? = some _ from rfl), rfl⟩
set_option maxRecDepth 100000 in
theorem cwd116 : Cond.code (mNm 116) (mBy 116) (mLo 116) (mRt 116) ∈ lw_good := List.mem_filter.mpr ⟨List.mem_of_getElem? (show lw_tbl[1070]? = some _ from rfl), rfl⟩
set_option maxRecDepth 100000 in
theorem cwd117 : Cond.code (mNm 117) (mBy 117) (mLo 117) (mRt 117) ∈ lw_good := List.mem_filter.mpr ⟨List.mem_of_getElem? (show lw_tbl[1074]? = some _ from rfl), rfl⟩
set_option maxRecDepth 100000 in
theorem cwd118 : Cond.code (mNm 118) (mBy 118) (mLo 118) (mRt 118) ∈ lw_good := List.mem_filter.mpr ⟨List.mem_of_getElem? (show lw_tbl[1224]? = some _ from rfl), rfl⟩
set_option maxRecDepth 100000 in
theorem cwd119 : Cond.code (mNm 119) (mBy 119) (mLo 119) (mRt 119) ∈ lw_good := List.mem_filter.mpr ⟨List.mem_of_getElem? (show lw_tbl[1228]? = some _ from rfl), rfl⟩
set_option maxRecDepth 100000 in
theorem cwd120 : Cond.code (mNm 120) (mBy 120) (mLo 120) (mRt 120) ∈ lw_good := List.mem_filter.mpr ⟨List.mem_of_getElem? (show lw_tbl[1232]? = some _ from rfl), rfl⟩
set_option maxRecDepth 100000 in
theorem cwd121 : Cond.code (mNm 121) (mBy 121) (mLo 121) (mRt 121) ∈ lw_good := List.mem_filter.mpr ⟨List.mem_of_getElem? (show lw_tbl[1236]? = some _ from rfl), rfl⟩
set_option maxRecDepth 100000 in
theorem cwd122 : Cond.code (mNm 122) (mBy 122) (mLo 122) (mRt 122) ∈ lw_good := List.mem_filter.mpr ⟨List.mem_of_getElem? (show lw_tbl[1240]? = some _ from rfl), rfl⟩
set_option maxRecDepth 100000 in
theorem cwd123 : Cond.code (mNm 123) (mBy 123) (mLo 123) (mRt 123) ∈ lw_good := List.mem_filter.mpr ⟨List.mem_of_getElem? (show lw_tbl[1244]? = some _ from rfl), rfl⟩
set_option maxRecDepth 100000 in
theorem cwd124 : Cond.code (mNm 124) (mBy 124) (mLo 124) (mRt 124) ∈ lw_good := List.mem_filter.mpr ⟨List.mem_of_getElem? (show lw_tbl[1247]? = some _ from rfl), rfl⟩
set_option maxRecDepth 100000 in
theorem cwd125 : Cond.code (mNm 125) (mBy 125) (mLo 125) (mRt 125) ∈ lw_good := List.mem_filter.mpr ⟨List.mem_of_getElem? (show lw_tbl[1251]? = some _ from rfl), rfl⟩
set_option maxRecDepth 100000 in
theorem cwd126 : Cond.code (mNm 126) (mBy 126) (mLo 126) (mRt 126) ∈ lw_good := List.mem_filter.mpr ⟨List.mem_of_getElem? (show lw_tbl[1255]? = some _ from rfl), rfl⟩
set_option maxRecDepth 100000 in
theorem cwd127 : Cond.code (mNm 127) (mBy 127) (mLo 127) (mRt 127) ∈ lw_good := List.mem_filter.mpr ⟨List.mem_of_getElem? (show lw_tbl[1258]? = some _ from rfl), rfl⟩
set_option maxRecDepth 100000 in
theorem cwd128 : Cond.code (mNm 128) (mBy 128) (mLo 128) (mRt 128) ∈ lw_good := List.mem_filter.mpr ⟨List.mem_of_getElem? (show lw_tbl[1261]? = some _ from rfl), rfl⟩
set_option maxRecDepth 100000 in
theorem cwd129 : Cond.code (mNm 129) (mBy 129) (mLo 129) (mRt 129) ∈ lw_good := List.mem_filter.mpr ⟨List.mem_of_getElem? (show lw_tbl[1265]? = some _ from rfl), rfl⟩
set_option maxRecDepth 100000 in
theorem cwd130 : Cond.code (mNm 130) (mBy 130) (mLo 130) (mRt 130) ∈ lw_good := List.mem_filter.mpr ⟨List.mem_of_getElem? (show lw_tbl[1269]? = some _ from rfl), rfl⟩
set_option maxRecDepth 100000 in
theorem cwd131 : Cond.code (mNm 131) (mBy 131) (mLo 131) (mRt 131) ∈ lw_good := List.mem_filter.mpr ⟨List.mem_of_getElem? (show lw_tbl[1273]? = some _ from rfl), rfl⟩
set_option maxRecDepth 100000 in
theorem cwd132 : Cond.code (mNm 132) (mBy 132) (mLo 132) (mRt 132) ∈ lw_good := List.mem_filter.mpr ⟨List.mem_of_getElem? (show lw_tbl[1276]? = some _ from rfl), rfl⟩
set_option maxRecDepth 100000 in
theorem cwd133 : Cond.code (mNm 133) (mBy 133) (mLo 133) (mRt 133) ∈ lw_good := List.mem_filter.mpr ⟨List.mem_of_getElem? (show lw_tbl[1289]? = some _ from rfl), rfl⟩
set_option maxRecDepth 100000 in
theorem cwd134 : Cond.code (mNm 134) (mBy 134) (mLo 134) (mRt 134) ∈ lw_good := List.mem_filter.mpr ⟨List.mem_of_getElem? (show lw_tbl[1294]? = some _ from rfl), rfl⟩
set_option maxRecDepth 100000 in
theorem cwd135 : Cond.code (mNm 135) (mBy 135) (mLo 135) (mRt 135) ∈ lw_good := List.mem_filter.mpr ⟨List.mem_of_getElem? (show lw_tbl[1298]? = some _ from rfl), rfl⟩
set_option maxRecDepth 100000 in
theorem cwd136 : Cond.code (mNm 136) (mBy 136) (mLo 136) (mRt 136) ∈ lw_good := List.mem_filter.mpr ⟨List.mem_of_getElem? (show lw_tbl[1301]? = some _ from rfl), rfl⟩
set_option maxRecDepth 100000 in
theorem cwd137 : Cond.code (mNm 137) (mBy 137) (mLo 137) (mRt 137) ∈ lw_good := List.mem_filter.mpr ⟨List.mem_of_getElem? (show lw_tbl[1317]? = some _ from rfl), rfl⟩
set_option maxRecDepth 100000 in
theorem cwd138 : Cond.code (mNm 138) (mBy 138) (mLo 138) (mRt 138) ∈ lw_good := List.mem_filter.mpr ⟨List.mem_of_getElem? (show lw_tbl[1324]? = some _ from rfl), rfl⟩
set_option maxRecDepth 100000 in
theorem cwd139 : Cond.code (mNm 139) (mBy 139) (mLo 139) (mRt 139) ∈ lw_good := List.mem_filter.mpr ⟨List.mem_of_getElem? (show lw_tbl[1329]? = some _ from rfl), rfl⟩
set_option maxRecDepth 100000 in
theorem cwd140 : Cond.code (mNm 140) (mBy 140) (mLo 140) (mRt 140) ∈ lw_good := List.mem_filter.mpr ⟨List.mem_of_getElem? (show lw_tbl[1334]? = some _ from rfl), rfl⟩
set_option maxRecDepth 100000 in
theorem cwd141 : Cond.code (mNm 141) (mBy 141) (mLo 141) (mRt 141) ∈ lw_good := List.mem_filter.mpr ⟨List.mem_of_getElem? (show lw_tbl[1337]? = some _ from rfl), rfl⟩
set_option maxRecDepth 100000 in
theorem cwd142 : Cond.code (mNm 142) (mBy 142) (mLo 142) (mRt 142) ∈ lw_good := List.mem_filter.mpr ⟨List.mem_of_getElem? (show lw_tbl[1366]? = some _ from rfl), rfl⟩
set_option maxRecDepth 100000 in
theorem cwd143 : Cond.code (mNm 143) (mBy 143) (mLo 143) (mRt 143) ∈ lw_good := List.mem_filter.mpr ⟨List.mem_of_getElem? (show lw_tbl[1369]? = some _ from rfl), rfl⟩
set_option maxRecDepth 100000 in
theorem cwd144 : Cond.code (mNm 144) (mBy 144) (mLo 144) (mRt 144) ∈ lw_good := List.mem_filter.mpr ⟨List.mem_of_getElem? (show lw_tbl[1378]? = some _ from rfl), rfl⟩
set_option maxRecDepth 100000 in
theorem cwd145 : Cond.code (mNm 145) (mBy 145) (mLo 145) (mRt 145) ∈ lw_good := List.mem_filter.mpr ⟨List.mem_of_getElem? (show lw_tbl[1382]? = some _ from rfl), rfl⟩
set_option maxRecDepth 100000 in
theorem cwd146 : Cond.code (mNm 146) (mBy 146) (mLo 146) (mRt 146) ∈ lw_good := List.mem_filter.mpr ⟨List.mem_of_getElem? (show lw_tbl[1388]? = some _ from rfl), rfl⟩
set_option maxRecDepth 100000 in
theorem cwd147 : Cond.code (mNm 147) (mBy 147) (mLo 147) (mRt 147) ∈ lw_good := List.mem_filter.mpr ⟨List.mem_of_getElem? (show lw_tbl[1392]? = some _ from rfl), rfl⟩
set_option maxRecDepth 100000 in
theorem cwd148 : Cond.code (mNm 148) (mBy 148) (mLo 148) (mRt 148) ∈ lw_good := List.mem_filter.mpr ⟨List.mem_of_getElem? (show lw_tbl[1398]? = some _ from rfl), rfl⟩
set_option maxRecDepth 100000 in
theorem cwd149 : Cond.code (mNm 149) (mBy 149) (mLo 149) (mRt 149) ∈ lw_good := List.mem_filter.mpr ⟨List.mem_of_getElem? (show lw_tbl[1401]? = some _ from rfl), rfl⟩
set_option maxRecDepth 100000 in
theorem cwd150 : Cond.code (mNm 150) (mBy 150) (mLo 150) (mRt 150) ∈ lw_good := List.mem_filter.mpr ⟨List.mem_of_getElem? (show lw_tbl[1404]? = some _ from rfl), rfl⟩
set_option maxRecDepth 100000 in
theorem cwd151 : Cond.code (mNm 151) (mBy 151) (mLo 151) (mRt 151) ∈ lw_good := List.mem_filter.mpr ⟨List.mem_of_getElem? (show lw_tbl[1408]? = some _ from rfl), rfl⟩
set_option maxRecDepth 100000 in
theorem cwd152 : Cond.code (mNm 152) (mBy 152) (mLo 152) (mRt 152) ∈ lw_good := List.mem_filter.mpr ⟨List.mem_of_getElem? (show lw_tbl[1411]? = some _ from rfl), rfl⟩
set_option maxRecDepth 100000 in
theorem cwd153 : Cond.code (mNm 153) (mBy 153) (mLo 153) (mRt 153) ∈ lw_good := List.mem_filter.mpr ⟨List.mem_of_getElem? (show lw_tbl[1420]? = some _ from rfl), rfl⟩
set_option maxRecDepth 100000 in
theorem cwd154 : Cond.code (mNm 154) (mBy 154) (mLo 154) (mRt 154) ∈ lw_good := List.mem_filter.mpr ⟨List.mem_of_getElem? (show lw_tbl[1423]? = some _ from rfl), rfl⟩
set_option maxRecDepth 100000 in
theorem cwd155 : Cond.code (mNm 155) (mBy 155) (mLo 155) (mRt 155) ∈ lw_good := List.mem_filter.mpr ⟨List.mem_of_getElem? (show lw_tbl[1432]? = some _ from rfl), rfl⟩
set_option maxRecDepth 100000 in
theorem cwd156 : Cond.code (mNm 156) (mBy 156) (mLo 156) (mRt 156) ∈ lw_good := List.mem_filter.mpr ⟨List.mem_of_getElem? (show lw_tbl[1436]? = some _ from rfl), rfl⟩
set_option maxRecDepth 100000 in
theorem cwd157 : Cond.code (mNm 157) (mBy 157) (mLo 157) (mRt 157) ∈ lw_good := List.mem_filter.mpr ⟨List.mem_of_getElem? (show lw_tbl[1440]? = some _ from rfl), rfl⟩
set_option maxRecDepth 100000 in
theorem cwd158 : Cond.code (mNm 158) (mBy 158) (mLo 158) (mRt 158) ∈ lw_good := List.mem_filter.mpr ⟨List.mem_of_getElem? (show lw_tbl[1444]? = some _ from rfl), rfl⟩
set_option maxRecDepth 100000 in
theorem cwd159 : Cond.code (mNm 159) (mBy 159) (mLo 159) (mRt 159) ∈ lw_good := List.mem_filter.mpr ⟨List.mem_of_getElem? (show lw_tbl[1448]? = some _ from rfl), rfl⟩
set_option maxRecDepth 100000 in
theorem cwd160 : Cond.code (mNm 160) (mBy 160) (mLo 160) (mRt 160) ∈ lw_good := List.mem_filter.mpr ⟨List.mem_of_getElem? (show lw_tbl[1452]? = some _ from rfl), rfl⟩
set_option maxRecDepth 100000 in
theorem cwd161 : Cond.code (mNm 161) (mBy 161) (mLo 161) (mRt 161) ∈ lw_good := List.mem_filter.mpr ⟨List.mem_of_getElem? (show lw_tbl[1457]? = some _ from rfl), rfl⟩
set_option maxRecDepth 100000 in
theorem cwd162 : Cond.code (mNm 162) (mBy 162) (mLo 162) (mRt 162) ∈ lw_good := List.mem_filter.mpr ⟨List.mem_of_getElem? (show lw_tbl[1461]? = some _ from rfl), rfl⟩
set_option maxRecDepth 100000 in
theorem cwd163 : Cond.code (mNm 163) (mBy 163) (mLo 163) (mRt 163) ∈ lw_good := List.mem_filter.mpr ⟨List.mem_of_getElem? (show lw_tbl[1465]? = some _ from rfl), rfl⟩
set_option maxRecDepth 100000 in
theorem cwd164 : Cond.code (mNm 164) (mBy 164) (mLo 164) (mRt 164) ∈ lw_good := List.mem_filter.mpr ⟨List.mem_of_getElem? (show lw_tbl[1469]? = some _ from rfl), rfl⟩
set_option maxRecDepth 100000 in
theorem cwd165 : Cond.code (mNm 165) (mBy 165) (mLo 165) (mRt 165) ∈ lw_good := List.mem_filter.mpr ⟨List.mem_of_getElem? (show lw_tbl[1473]? = some _ from rfl), rfl⟩
set_option maxRecDepth 100000 in
theorem cwd166 : Cond.code (mNm 166) (mBy 166) (mLo 166) (mRt 166) ∈ lw_good := List.mem_filter.mpr ⟨List.mem_of_getElem? (show lw_tbl[1477]? = some _ from rfl), rfl⟩
set_option maxRecDepth 100000 in
theorem cwd167 : Cond.code (mNm 167) (mBy 167) (mLo 167) (mRt 167) ∈ lw_good := List.mem_filter.mpr ⟨List.mem_of_getElem? (show lw_tbl[1481]? = some _ from rfl), rfl⟩
set_option maxRecDepth 100000 in
theorem cwd168 : Cond.code (mNm 168) (mBy 168) (mLo 168) (mRt 168) ∈ lw_good := List.mem_filter.mpr ⟨List.mem_of_getElem? (show lw_tbl[1485]? = some _ from rfl), rfl⟩
set_option maxRecDepth 100000 in
theorem cwd169 : Cond.code (mNm 169) (mBy 169) (mLo 169) (mRt 169) ∈ lw_good := List.mem_filter.mpr ⟨List.mem_of_getElem? (show lw_tbl[1489]? = some _ from rfl), rfl⟩
set_option maxRecDepth 100000 in
theorem cwd170 : Cond.code (mNm 170) (mBy 170) (mLo 170) (mRt 170) ∈ lw_good := List.mem_filter.mpr ⟨List.mem_of_getElem? (show lw_tbl[1493]? = some _ from rfl), rfl⟩
set_option maxRecDepth 100000 in
theorem cwd171 : Cond.code (mNm 171) (mBy 171) (mLo 171) (mRt 171) ∈ lw_good := List.mem_filter.mpr ⟨List.mem_of_getElem? (show lw_tbl[1497]? = some _ from rfl), rfl⟩
set_option maxRecDepth 100000 in
theorem cwd172 : Cond.code (mNm 172) (mBy 172) (mLo 172) (mRt 172) ∈ lw_good := List.mem_filter.mpr ⟨List.mem_of_getElem? (show lw_tbl[1501]? = some _ from rfl), rfl⟩
set_option maxRecDepth 100000 in
theorem cwd173 : Cond.code (mNm 173) (mBy 173) (mLo 173) (mRt 173) ∈ lw_good := List.mem_filter.mpr ⟨List.mem_of_getElem? (show lw_tbl[1505]? = some _ from rfl), rfl⟩
set_option maxRecDepth 100000 in
theorem cwd174 : Cond.code (mNm 174) (mBy 174) (mLo 174) (mRt 174) ∈ lw_good := List.mem_filter.mpr ⟨List.mem_of_getElem? (show lw_tbl[1509]? = some _ from rfl), rfl⟩
set_option maxRecDepth 100000 in
theorem cwd175 : Cond.code (mNm 175) (mBy 175) (mLo 175) (mRt 175) ∈ lw_good := List.mem_filter.mpr ⟨List.mem_of_getElem? (show lw_tbl[1512]? = some _ from rfl), rfl⟩
set_option maxRecDepth 100000 in
theorem cwd176 : Cond.code (mNm 176) (mBy 176) (mLo 176) (mRt 176) ∈ lw_good := List.mem_filter.mpr ⟨List.mem_of_getElem? (show lw_tbl[1516]? = some _ from rfl), rfl⟩
set_option maxRecDepth 100000 in
theorem cwd177 : Cond.code (mNm 177) (mBy 177) (mLo 177) (mRt 177) ∈ lw_good := List.mem_filter.mpr ⟨List.mem_of_getElem? (show lw_tbl[1521]? = some _ from rfl), rfl⟩
set_option maxRecDepth 100000 in
theorem cwd178 : Cond.code (mNm 178) (mBy 178) (mLo 178) (mRt 178) ∈ lw_good := List.mem_filter.mpr ⟨List.mem_of_getElem? (show lw_tbl[1525]? = some _ from rfl), rfl⟩
set_option maxRecDepth 100000 in
theorem cwd179 : Cond.code (mNm 179) (mBy 179) (mLo 179) (mRt 179) ∈ lw_good := List.mem_filter.mpr ⟨List.mem_of_getElem? (show lw_tbl[1528]? = some _ from rfl), rfl⟩
set_option maxRecDepth 100000 in
theorem cwd180 : Cond.code (mNm 180) (mBy 180) (mLo 180) (mRt 180) ∈ lw_good := List.mem_filter.mpr ⟨List.mem_of_getElem? (show lw_tbl[1541]? = some _ from rfl), rfl⟩
set_option maxRecDepth 100000 in
theorem cwd181 : Cond.code (mNm 181) (mBy 181) (mLo 181) (mRt 181) ∈ lw_good := List.mem_filter.mpr ⟨List.mem_of_getElem? (show lw_tbl[1544]? = some _ from rfl), rfl⟩
set_option maxRecDepth 100000 in
theorem cwd182 : Cond.code (mNm 182) (mBy 182) (mLo 182) (mRt 182) ∈ lw_good := List.mem_filter.mpr ⟨List.mem_of_getElem? (show lw_tbl[1548]? = some _ from rfl), rfl⟩
set_option maxRecDepth 100000 in
theorem cwd183 : Cond.code (mNm 183) (mBy 183) (mLo 183) (mRt 183) ∈ lw_good := List.mem_filter.mpr ⟨List.mem_of_getElem? (show lw_tbl[1552]? = some _ from rfl), rfl⟩
set_option maxRecDepth 100000 in
theorem cwd184 : Cond.code (mNm 184) (mBy 184) (mLo 184) (mRt 184) ∈ lw_good := List.mem_filter.mpr ⟨List.mem_of_getElem? (show lw_tbl[1556]? = some _ from rfl), rfl⟩
set_option maxRecDepth 100000 in
theorem cwd185 : Cond.code (mNm 185) (mBy 185) (mLo 185) (mRt 185) ∈ lw_good := List.mem_filter.mpr ⟨List.mem_of_getElem? (show lw_tbl[1560]? = some _ from rfl), rfl⟩
set_option maxRecDepth 100000 in
theorem cwd186 : Cond.code (mNm 186) (mBy 186) (mLo 186) (mRt 186) ∈ lw_good := List.mem_filter.mpr ⟨List.mem_of_getElem? (show lw_tbl[1564]? = some _ from rfl), rfl⟩
set_option maxRecDepth 100000 in
theorem cwd187 : Cond.code (mNm 187) (mBy 187) (mLo 187) (mRt 187) ∈ lw_good := List.mem_filter.mpr ⟨List.mem_of_getElem? (show lw_tbl[1568]? = some _ from rfl), rfl⟩
set_option maxRecDepth 100000 in
theorem cwd188 : Cond.code (mNm 188) (mBy 188) (mLo 188) (mRt 188) ∈ lw_good := List.mem_filter.mpr ⟨List.mem_of_getElem? (show lw_tbl[1572]? = some _ from rfl), rfl⟩
set_option maxRecDepth 100000 in
theorem cwd189 : Cond.code (mNm 189) (mBy 189) (mLo 189) (mRt 189) ∈ lw_good := List.mem_filter.mpr ⟨List.mem_of_getElem? (show lw_tbl[1576]? = some _ from rfl), rfl⟩
set_option maxRecDepth 100000 in
theorem cwd190 : Cond.code (mNm 190) (mBy 190) (mLo 190) (mRt 190) ∈ lw_good := List.mem_filter.mpr ⟨List.mem_of_getElem? (show lw_tbl[1579]? = some _ from rfl), rfl⟩
set_option maxRecDepth 100000 in
theorem cwd191 : Cond.code (mNm 191) (mBy 191) (mLo 191) (mRt 191) ∈ lw_good := List.mem_filter.mpr ⟨List.mem_of_getElem? (show lw_tbl[1583]? = some _ from rfl), rfl⟩
set_option maxRecDepth 100000 in
theorem cwd192 : Cond.code (mNm 192) (mBy 192) (mLo 192) (mRt 192) ∈ lw_good := List.mem_filter.mpr ⟨List.mem_of_getElem? (show lw_tbl[1586]? = some _ from rfl), rfl⟩
set_option maxRecDepth 100000 in
theorem cwd193 : Cond.code (mNm 193) (mBy 193) (mLo 193) (mRt 193) ∈ lw_good := List.mem_filter.mpr ⟨List.mem_of_getElem? (show lw_tbl[1590]? = some _ from rfl), rfl⟩
set_option maxRecDepth 100000 in
theorem cwd194 : Cond.code (mNm 194) (mBy 194) (mLo 194) (mRt 194) ∈ lw_good := List.mem_filter.mpr ⟨List.mem_of_getElem? (show lw_tbl[1594]? = some _ from rfl), rfl⟩
set_option maxRecDepth 100000 in
theorem cwd195 : Cond.code (mNm 195) (mBy 195) (mLo 195) (mRt 195) ∈ lw_good := List.mem_filter.mpr ⟨List.mem_of_getElem? (show lw_tbl[1598]? = some _ from rfl), rfl⟩
set_option maxRecDepth 100000 in
theorem cwd196 : Cond.code (mNm 196) (mBy 196) (mLo 196) (mRt 196) ∈ lw_good := List.mem_filter.mpr ⟨List.mem_of_getElem? (show lw_tbl[1601]? = some _ from rfl), rfl⟩
set_option maxRecDepth 100000 in
theorem cwd197 : Cond.code (mNm 197) (mBy 197) (mLo 197) (mRt 197) ∈ lw_good := List.mem_filter.mpr ⟨List.mem_of_getElem? (show lw_tbl[1604]? = some _ from rfl), rfl⟩
set_option maxRecDepth 100000 in
theorem cwd198 : Cond.code (mNm 198) (mBy 198) (mLo 198) (mRt 198) ∈ lw_good := List.mem_filter.mpr ⟨List.mem_of_getElem? (show lw_tbl[1608]? = some _ from rfl), rfl⟩
set_option maxRecDepth 100000 in
theorem cwd199 : Cond.code (mNm 199) (mBy 199) (mLo 199) (mRt 199) ∈ lw_good := List.mem_filter.mpr ⟨List.mem_of_getElem? (show lw_tbl[1611]? = some _ from rfl), rfl⟩
set_option maxRecDepth 100000 in
theorem cwd200 : Cond.code (mNm 200) (mBy 200) (mLo 200) (mRt 200) ∈ lw_good := List.mem_filter.mpr ⟨List.mem_of_getElem? (show lw_tbl[1614]? = some _ from rfl), rfl⟩
set_option maxRecDepth 100000 in
theorem cwd201 : Cond.code (mNm 201) (mBy 201) (mLo 201) (mRt 201) ∈ lw_good := List.mem_filter.mpr ⟨List.mem_of_getElem? (show lw_tbl[1617]? = some _ from rfl), rfl⟩
set_option maxRecDepth 100000 in
theorem cwd202 : Cond.code (mNm 202) (mBy 202) (mLo 202) (mRt 202) ∈ lw_good := List.mem_filter.mpr ⟨List.mem_of_getElem? (show lw_tbl[1620]? = some _ from rfl), rfl⟩
set_option maxRecDepth 100000 in
theorem cwd203 : Cond.code (mNm 203) (mBy 203) (mLo 203) (mRt 203) ∈ lw_good := List.mem_filter.mpr ⟨List.mem_of_getElem? (show lw_tbl[1624]? = some _ from rfl), rfl⟩
set_option maxRecDepth 100000 in
theorem cwd204 : Cond.code (mNm 204) (mBy 204) (mLo 204) (mRt 204) ∈ lw_good := List.mem_filter.mpr ⟨List.mem_of_getElem? (show lw_tbl[1628]? = some _ from rfl), rfl⟩
set_option maxRecDepth 100000 in
theorem cwd205 : Cond.code (mNm 205) (mBy 205) (mLo 205) (mRt 205) ∈ lw_good := List.mem_filter.mpr ⟨List.mem_of_getElem? (show lw_tbl[1633]? = some _ from rfl), rfl⟩
set_option maxRecDepth 100000 in
theorem cwd206 : Cond.code (mNm 206) (mBy 206) (mLo 206) (mRt 206) ∈ lw_good := List.mem_filter.mpr ⟨List.mem_of_getElem? (show lw_tbl[1637]? = some _ from rfl), rfl⟩
set_option maxRecDepth 100000 in
theorem cwd207 : Cond.code (mNm 207) (mBy 207) (mLo 207) (mRt 207) ∈ lw_good := List.mem_filter.mpr ⟨List.mem_of_getElem? (show lw_tbl[1641]? = some _ from rfl), rfl⟩
set_option maxRecDepth 100000 in
theorem cwd208 : Cond.code (mNm 208) (mBy 208) (mLo 208) (mRt 208) ∈ lw_good := List.mem_filter.mpr ⟨List.mem_of_getElem? (show lw_tbl[1645]? = some _ from rfl), rfl⟩
set_option maxRecDepth 100000 in
theorem cwd209 : Cond.code (mNm 209) (mBy 209) (mLo 209) (mRt 209) ∈ lw_good := List.mem_filter.mpr ⟨List.mem_of_getElem? (show lw_tbl[1649]? = some _ from rfl), rfl⟩
set_option maxRecDepth 100000 in
theorem cwd210 : Cond.code (mNm 210) (mBy 210) (mLo 210) (mRt 210) ∈ lw_good := List.mem_filter.mpr ⟨List.mem_of_getElem? (show lw_tbl[1653]? = some _ from rfl), rfl⟩
set_option maxRecDepth 100000 in
theorem cwd211 : Cond.code (mNm 211) (mBy 211) (mLo 211) (mRt 211) ∈ lw_good := List.mem_filter.mpr ⟨List.mem_of_getElem? (show lw_tbl[1657]? = some _ from rfl), rfl⟩
set_option maxRecDepth 100000 in
theorem cwd212 : Cond.code (mNm 212) (mBy 212) (mLo 212) (mRt 212) ∈ lw_good := List.mem_filter.mpr ⟨List.mem_of_getElem? (show lw_tbl[1661]? = some _ from rfl), rfl⟩
set_option maxRecDepth 100000 in
theorem cwd213 : Cond.code (mNm 213) (mBy 213) (mLo 213) (mRt 213) ∈ lw_good := List.mem_filter.mpr ⟨List.mem_of_getElem? (show lw_tbl[882]? = some _ from rfl), rfl⟩
set_option maxRecDepth 100000 in
theorem cwd214 : Cond.code (mNm 214) (mBy 214) (mLo 214) (mRt 214) ∈ lw_good := List.mem_filter.mpr ⟨List.mem_of_getElem? (show lw_tbl[885]? = some _ from rfl), rfl⟩
set_option maxRecDepth 100000 in
theorem cwd215 : Cond.code (mNm 215) (mBy 215) (mLo 215) (mRt 215) ∈ lw_good := List.mem_filter.mpr ⟨List.mem_of_getElem? (show lw_tbl[892]? = some _ from rfl), rfl⟩
set_option maxRecDepth 100000 in
theorem cwd216 : Cond.code (mNm 216) (mBy 216) (mLo 216) (mRt 216) ∈ lw_good := List.mem_filter.mpr ⟨List.mem_of_getElem? (show lw_tbl[895]? = some _ from rfl), rfl⟩
set_option maxRecDepth 100000 in
theorem cwd217 : Cond.code (mNm 217) (mBy 217) (mLo 217) (mRt 217) ∈ lw_good := List.mem_filter.mpr ⟨List.mem_of_getElem? (show lw_tbl[898]? = some _ from rfl), rfl⟩
set_option maxRecDepth 100000 in
theorem cwd218 : Cond.code (mNm 218) (mBy 218) (mLo 218) (mRt 218) ∈ lw_good := List.mem_filter.mpr ⟨List.mem_of_getElem? (show lw_tbl[901]? = some _ from rfl), rfl⟩
set_option maxRecDepth 100000 in
theorem cwd219 : Cond.code (mNm 219) (mBy 219) (mLo 219) (mRt 219) ∈ lw_good := List.mem_filter.mpr ⟨List.mem_of_getElem? (show lw_tbl[904]? = some _ from rfl), rfl⟩
set_option maxRecDepth 100000 in
theorem cwd220 : Cond.code (mNm 220) (mBy 220) (mLo 220) (mRt 220) ∈ lw_good := List.mem_filter.mpr ⟨List.mem_of_getElem? (show lw_tbl[910]? = some _ from rfl), rfl⟩
set_option maxRecDepth 100000 in
theorem cwd221 : Cond.code (mNm 221) (mBy 221) (mLo 221) (mRt 221) ∈ lw_good := List.mem_filter.mpr ⟨List.mem_of_getElem? (show lw_tbl[915]? = some _ from rfl), rfl⟩
set_option maxRecDepth 100000 in
theorem cwd222 : Cond.code (mNm 222) (mBy 222) (mLo 222) (mRt 222) ∈ lw_good := List.mem_filter.mpr ⟨List.mem_of_getElem? (show lw_tbl[919]? = some _ from rfl), rfl⟩
set_option maxRecDepth 100000 in
theorem cwd223 : Cond.code (mNm 223) (mBy 223) (mLo 223) (mRt 223) ∈ lw_good := List.mem_filter.mpr ⟨List.mem_of_getElem? (show lw_tbl[922]? = some _ from rfl), rfl⟩
set_option maxRecDepth 100000 in
theorem cwd224 : Cond.code (mNm 224) (mBy 224) (mLo 224) (mRt 224) ∈ lw_good := List.mem_filter.mpr ⟨List.mem_of_getElem? (show lw_tbl[925]? = some _ from rfl), rfl⟩
set_option maxRecDepth 100000 in
theorem cwd225 : Cond.code (mNm 225) (mBy 225) (mLo 225) (mRt 225) ∈ lw_good := List.mem_filter.mpr ⟨List.mem_of_getElem? (show lw_tbl[932]? = some _ from rfl), rfl⟩
set_option maxRecDepth 100000 in
theorem cwd226 : Cond.code (mNm 226) (mBy 226) (mLo 226) (mRt 226) ∈ lw_good := List.mem_filter.mpr ⟨List.mem_of_getElem? (show lw_tbl[261]? = some _ from rfl), rfl⟩
set_option maxRecDepth 100000 in
theorem cwd227 : Cond.code (mNm 227) (mBy 227) (mLo 227) (mRt 227) ∈ lw_good := List.mem_filter.mpr ⟨List.mem_of_getElem? (show lw_tbl[265]? = some _ from rfl), rfl⟩
set_option maxRecDepth 100000 in
theorem cwd228 : Cond.code (mNm 228) (mBy 228) (mLo 228) (mRt 228) ∈ lw_good := List.mem_filter.mpr ⟨List.mem_of_getElem? (show lw_tbl[306]? = some _ from rfl), rfl⟩
set_option maxRecDepth 100000 in
theorem cwd229 : Cond.code (mNm 229) (mBy 229) (mLo 229) (mRt 229) ∈ lw_good := List.mem_filter.mpr ⟨List.mem_of_getElem? (show lw_tbl[310]? = some _ from rfl), rfl⟩
set_option maxRecDepth 100000 in
theorem cwd230 : Cond.code (mNm 230) (mBy 230) (mLo 230) (mRt 230) ∈ lw_good := List.mem_filter.mpr ⟨List.mem_of_getElem? (show lw_tbl[362]? = some _ from rfl), rfl⟩
set_option maxRecDepth 100000 in
theorem cwd231 : Cond.code (mNm 231) (mBy 231) (mLo 231) (mRt 231) ∈ lw_good := List.mem_filter.mpr ⟨List.mem_of_getElem? (show lw_tbl[428]? = some _ from rfl), rfl⟩
set_option maxRecDepth 100000 in
theorem cwd232 : Cond.code (mNm 232) (mBy 232) (mLo 232) (mRt 232) ∈ lw_good := List.mem_filter.mpr ⟨List.mem_of_getElem? (show lw_tbl[432]? = some _ from rfl), rfl⟩
set_option maxRecDepth 100000 in
theorem cwd233 : Cond.code (mNm 233) (mBy 233) (mLo 233) (mRt 233) ∈ lw_good := List.mem_filter.mpr ⟨List.mem_of_getElem? (show lw_tbl[270]? = some _ from rfl), rfl⟩
set_option maxRecDepth 100000 in
theorem cwd234 : Cond.code (mNm 234) (mBy 234) (mLo 234) (mRt 234) ∈ lw_good := List.mem_filter.mpr ⟨List.mem_of_getElem? (show lw_tbl[273]? = some _ from rfl), rfl⟩
set_option maxRecDepth 100000 in
theorem cwd235 : Cond.code (mNm 235) (mBy 235) (mLo 235) (mRt 235) ∈ lw_good := List.mem_filter.mpr ⟨List.mem_of_getElem? (show lw_tbl[365]? = some _ from rfl), rfl⟩
set_option maxRecDepth 100000 in
theorem cwd236 : Cond.code (mNm 236) (mBy 236) (mLo 236) (mRt 236) ∈ lw_good := List.mem_filter.mpr ⟨List.mem_of_getElem? (show lw_tbl[436]? = some _ from rfl), rfl⟩
set_option maxRecDepth 100000 in
theorem cwd237 : Cond.code (mNm 237) (mBy 237) (mLo 237) (mRt 237) ∈ lw_good := List.mem_filter.mpr ⟨List.mem_of_getElem? (show lw_tbl[439]? = some _ from rfl), rfl⟩
set_option maxRecDepth 100000 in
theorem cwd238 : Cond.code (mNm 238) (mBy 238) (mLo 238) (mRt 238) ∈ lw_good := List.mem_filter.mpr ⟨List.mem_of_getElem? (show lw_tbl[444]? = some _ from rfl), rfl⟩
theorem cwd_ok : ∀ y, y < 239 → Cond.code (mNm y) (mBy y) (mLo y) (mRt y) ∈ lw_good
  | 0, _ => cwd0
  | 1, _ => cwd1
  | 2, _ => cwd2
  | 3, _ => cwd3
  | 4, _ => cwd4
  | 5, _ => cwd5
  | 6, _ => cwd6
  | 7, _ => cwd7
  | 8, _ => cwd8
  | 9, _ => cwd9
  | 10, _ => cwd10
  | 11, _ => cwd11
  | 12, _ => cwd12
  | 13, _ => cwd13
  | 14, _ => cwd14
  | 15, _ => cwd15
  | 16, _ => cwd16
  | 17, _ => cwd17
  | 18, _ => cwd18
  | 19, _ => cwd19
  | 20, _ => cwd20
  | 21, _ => cwd21
  | 22, _ => cwd22
  | 23, _ => cwd23
  | 24, _ => cwd24
  | 25, _ => cwd25
  | 26, _ => cwd26
  | 27, _ => cwd27
  | 28, _ => cwd28
  | 29, _ => cwd29
  | 30, _ => cwd30
  | 31, _ => cwd31
  | 32, _ => cwd32
  | 33, _ => cwd33
  | 34, _ => cwd34
  | 35, _ => cwd35
  | 36, _ => cwd36
  | 37, _ => cwd37
  | 38, _ => cwd38
  | 39, _ => cwd39
  | 40, _ => cwd40
  | 41, _ => cwd41
  | 42, _ => cwd42
  | 43, _ => cwd43
  | 44, _ => cwd44
  | 45, _ => cwd45
  | 46, _ => cwd46
  | 47, _ => cwd47
  | 48, _ => cwd48
  | 49, _ => cwd49
  | 50, _ => cwd50
  | 51, _ => cwd51
  | 52, _ => cwd52
  | 53, _ => cwd53
  | 54, _ => cwd54
  | 55, _ => cwd55
  | 56, _ => cwd56
  | 57, _ => cwd57
  | 58, _ => cwd58
  | 59, _ => cwd59
  | 60, _ => cwd60
  | 61, _ => cwd61
  | 62, _ => cwd62
  | 63, _ => cwd63
  | 64, _ => cwd64
  | 65, _ => cwd65
  | 66, _ => cwd66
  | 67, _ => cwd67
  | 68, _ => cwd68
  | 69, _ => cwd69
  | 70, _ => cwd70
  | 71, _ => cwd71
  | 72, _ => cwd72
  | 73, _ => cwd73
  | 74, _ => cwd74
  | 75, _ => cwd75
  | 76, _ => cwd76
  | 77, _ => cwd77
  | 78, _ => cwd78
  | 79, _ => cwd79
  | 80, _ => cwd80
  | 81, _ => cwd81
  | 82, _ => cwd82
  | 83, _ => cwd83
  | 84, _ => cwd84
  | 85, _ => cwd85
  | 86, _ => cwd86
  | 87, _ => cwd87
  | 88, _ => cwd88
  | 89, _ => cwd89
  | 90, _ => cwd90
  | 91, _ => cwd91
  | 92, _ => cwd92
  | 93, _ => cwd93
  | 94, _ => cwd94
  | 95, _ => cwd95
  | 96, _ => cwd96
  | 97, _ => cwd97
  | 98, _ => cwd98
  | 99, _ => cwd99
  | 100, _ => cwd100
  | 101, _ => cwd101
  | 102, _ => cwd102
  | 103, _ => cwd103
  | 104, _ => cwd104
  | 105, _ => cwd105
  | 106, _ => cwd106
  | 107, _ => cwd107
  | 108, _ => cwd108
  | 109, _ => cwd109
  | 110, _ => cwd110
  | 111, _ => cwd111
  | 112, _ => cwd112
  | 113, _ => cwd113
  | 114, _ => cwd114
  | 115, _ => cwd115
  | 116, _ => cwd116
  | 117, _ => cwd117
  | 118, _ => cwd118
  | 119, _ => cwd119
  | 120, _ => cwd120
  | 121, _ => cwd121
  | 122, _ => cwd122
  | 123, _ => cwd123
  | 124, _ => cwd124
  | 125, _ => cwd125
  | 126, _ => cwd126
  | 127, _ => cwd127
  | 128, _ => cwd128
  | 129, _ => cwd129
  | 130, _ => cwd130
  | 131, _ => cwd131
  | 132, _ => cwd132
  | 133, _ => cwd133
  | 134, _ => cwd134
  | 135, _ => cwd135
  | 136, _ => cwd136
  | 137, _ => cwd137
  | 138, _ => cwd138
  | 139, _ => cwd139
  | 140, _ => cwd140
  | 141, _ => cwd141
  | 142, _ => cwd142
  | 143, _ => cwd143
  | 144, _ => cwd144
  | 145, _ => cwd145
  | 146, _ => cwd146
  | 147, _ => cwd147
  | 148, _ => cwd148
  | 149, _ => cwd149
  | 150, _ => cwd150
  | 151, _ => cwd151
  | 152, _ => cwd152
  | 153, _ => cwd153
  | 154, _ => cwd154
  | 155, _ => cwd155
  | 156, _ => cwd156
  | 157, _ => cwd157
  | 158, _ => cwd158
  | 159, _ => cwd159
  | 160, _ => cwd160
  | 161, _ => cwd161
  | 162, _ => cwd162
  | 163, _ => cwd163
  | 164, _ => cwd164
  | 165, _ => cwd165
  | 166, _ => cwd166
  | 167, _ => cwd167
  | 168, _ => cwd168
  | 169, _ => cwd169
  | 170, _ => cwd170
  | 171, _ => cwd171
  | 172, _ => cwd172
  | 173, _ => cwd173
  | 174, _ => cwd174
  | 175, _ => cwd175
  | 176, _ => cwd176
  | 177, _ => cwd177
  | 178, _ => cwd178
  | 179, _ => cwd179
  | 180, _ => cwd180
  | 181, _ => cwd181
  | 182, _ => cwd182
  | 183, _ => cwd183
  | 184, _ => cwd184
  | 185, _ => cwd185
  | 186, _ => cwd186
  | 187, _ => cwd187
  | 188, _ => cwd188
  | 189, _ => cwd189
  | 190, _ => cwd190
  | 191, _ => cwd191
  | 192, _ => cwd192
  | 193, _ => cwd193
  | 194, _ => cwd194
  | 195, _ => cwd195
  | 196, _ => cwd196
  | 197, _ => cwd197
  | 198, _ => cwd198
  | 199, _ => cwd199
  | 200, _ => cwd200
  | 201, _ => cwd201
  | 202, _ => cwd202
  | 203, _ => cwd203
  | 204, _ => cwd204
  | 205, _ => cwd205
  | 206, _ => cwd206
  | 207, _ => cwd207
  | 208, _ => cwd208
  | 209, _ => cwd209
  | 210, _ => cwd210
  | 211, _ => cwd211
  | 212, _ => cwd212
  | 213, _ => cwd213
  | 214, _ => cwd214
  | 215, _ => cwd215
  | 216, _ => cwd216
  | 217, _ => cwd217
  | 218, _ => cwd218
  | 219, _ => cwd219
  | 220, _ => cwd220
  | 221, _ => cwd221
  | 222, _ => cwd222
  | 223, _ => cwd223
  | 224, _ => cwd224
  | 225, _ => cwd225
  | 226, _ => cwd226
  | 227, _ => cwd227
  | 228, _ => cwd228
  | 229, _ => cwd229
  | 230, _ => cwd230
  | 231, _ => cwd231
  | 232, _ => cwd232
  | 233, _ => cwd233
  | 234, _ => cwd234
  | 235, _ => cwd235
  | 236, _ => cwd236
  | 237, _ => cwd237
  | 238, _ => cwd238
  | n + 239, h => absurd h (by omega)
set_option maxRecDepth 100000 in
theorem cm0 : chkM 0 = true := by decide +kernel
set_option maxRecDepth 100000 in
theorem cm1 : chkM 1 = true := by decide +kernel
set_option maxRecDepth 100000 in
theorem cm2 : chkM 2 = true := by decide +kernel
set_option maxRecDepth 100000 in
theorem cm3 : chkM 3 = true := by decide +kernel
set_option maxRecDepth 100000 in
theorem cm4 : chkM 4 = true := by decide +kernel
set_option maxRecDepth 100000 in
theorem cm5 : chkM 5 = true := by decide +kernel
set_option maxRecDepth 100000 in
theorem cm6 : chkM 6 = true := by decide +kernel
set_option maxRecDepth 100000 in
theorem cm7 : chkM 7 = true := by decide +kernel
set_option maxRecDepth 100000 in
theorem cm8 : chkM 8 = true := by decide +kernel
set_option maxRecDepth 100000 in
theorem cm9 : chkM 9 = true := by decide +kernel
set_option maxRecDepth 100000 in
theorem cm10 : chkM 10 = true := by decide +kernel
set_option maxRecDepth 100000 in
theorem cm11 : chkM 11 = true := by decide +kernel
set_option maxRecDepth 100000 in
theorem cm12 : chkM 12 = true := by decide +kernel
set_option maxRecDepth 100000 in
theorem cm13 : chkM 13 = true := by decide +kernel
set_option maxRecDepth 100000 in
theorem cm14 : chkM 14 = true := by decide +kernel
set_option maxRecDepth 100000 in
theorem cm15 : chkM 15 = true := by decide +kernel
set_option maxRecDepth 100000 in
theorem cm16 : chkM 16 = true := by decide +kernel
set_option maxRecDepth 100000 in
theorem cm17 : chkM 17 = true := by decide +kernel
set_option maxRecDepth 100000 in
theorem cm18 : chkM 18 = true := by decide +kernel
set_option maxRecDepth 100000 in
theorem cm19 : chkM 19 = true := by decide +kernel
set_option maxRecDepth 100000 in
theorem cm20 : chkM 20 = true := by decide +kernel
set_option maxRecDepth 100000 in
theorem cm21 : chkM 21 = true := by decide +kernel
set_option maxRecDepth 100000 in
theorem cm22 : chkM 22 = true := by decide +kernel
set_option maxRecDepth 100000 in
theorem cm23 : chkM 23 = true := by decide +kernel
set_option maxRecDepth 100000 in
theorem cm24 : chkM 24 = true := by decide +kernel
set_option maxRecDepth 100000 in
theorem cm25 : chkM 25 = true := by decide +kernel
set_option maxRecDepth 100000 in
theorem cm26 : chkM 26 = true := by decide +kernel
set_option maxRecDepth 100000 in
theorem cm27 : chkM 27 = true := by decide +kernel
set_option maxRecDepth 100000 in
theorem cm28 : chkM 28 = true := by decide +kernel
set_option maxRecDepth 100000 in
theorem cm29 : chkM 29 = true := by decide +kernel
set_option maxRecDepth 100000 in
theorem cm30 : chkM 30 = true := by decide +kernel
set_option maxRecDepth 100000 in
theorem cm31 : chkM 31 = true := by decide +kernel
set_option maxRecDepth 100000 in
theorem cm32 : chkM 32 = true := by decide +kernel
set_option maxRecDepth 100000 in
theorem cm33 : chkM 33 = true := by decide +kernel
set_option maxRecDepth 100000 in
theorem cm34 : chkM 34 = true := by decide +kernel
set_option maxRecDepth 100000 in
theorem cm35 : chkM 35 = true := by decide +kernel
set_option maxRecDepth 100000 in
theorem cm36 : chkM 36 = true := by decide +kernel
set_option maxRecDepth 100000 in
theorem cm37 : chkM 37 = true := by decide +kernel
set_option maxRecDepth 100000 in
theorem cm38 : chkM 38 = true := by decide +kernel
set_option maxRecDepth 100000 in
theorem cm39 : chkM 39 = true := by decide +kernel
set_option maxRecDepth 100000 in
theorem cm40 : chkM 40 = true := by decide +kernel
set_option maxRecDepth 100000 in
theorem cm41 : chkM 41 = true := by decide +kernel
set_option maxRecDepth 100000 in
theorem cm42 : chkM 42 = true := by decide +kernel
set_option maxRecDepth 100000 in
theorem cm43 : chkM 43 = true := by decide +kernel
set_option maxRecDepth 100000 in
theorem cm44 : chkM 44 = true := by decide +kernel
set_option maxRecDepth 100000 in
theorem cm45 : chkM 45 = true := by decide +kernel
set_option maxRecDepth 100000 in
theorem cm46 : chkM 46 = true := by decide +kernel
set_option maxRecDepth 100000 in
theorem cm47 : chkM 47 = true := by decide +kernel
set_option maxRecDepth 100000 in
theorem cm48 : chkM 48 = true := by decide +kernel
set_option maxRecDepth 100000 in
theorem cm49 : chkM 49 = true := by decide +kernel
set_option maxRecDepth 100000 in
theorem cm50 : chkM 50 = true := by decide +kernel
set_option maxRecDepth 100000 in
theorem cm51 : chkM 51 = true := by decide +kernel
set_option maxRecDepth 100000 in
theorem cm52 : chkM 52 = true := by decide +kernel
set_option maxRecDepth 100000 in
theorem cm53 : chkM 53 = true := by decide +kernel
set_option maxRecDepth 100000 in
theorem cm54 : chkM 54 = true := by decide +kernel
set_option maxRecDepth 100000 in
theorem cm55 : chkM 55 = true := by decide +kernel
set_option maxRecDepth 100000 in
theorem cm56 : chkM 56 = true := by decide +kernel
set_option maxRecDepth 100000 in
theorem cm57 : chkM 57 = true := by decide +kernel
set_option maxRecDepth 100000 in
theorem cm58 : chkM 58 = true := by decide +kernel
set_option maxRecDepth 100000 in
theorem cm59 : chkM 59 = true := by decide +kernel
set_option maxRecDepth 100000 in
theorem cm60 : chkM 60 = true := by decide +kernel
set_option maxRecDepth 100000 in
theorem cm61 : chkM 61 = true := by decide +kernel
set_option maxRecDepth 100000 in
theorem cm62 : chkM 62 = true := by decide +kernel
set_option maxRecDepth 100000 in
theorem cm63 : chkM 63 = true := by decide +kernel
set_option maxRecDepth 100000 in
theorem cm64 : chkM 64 = true := by decide +kernel
set_option maxRecDepth 100000 in
theorem cm65 : chkM 65 = true := by decide +kernel
set_option maxRecDepth 100000 in
theorem cm66 : chkM 66 = true := by decide +kernel
set_option maxRecDepth 100000 in
theorem cm67 : chkM 67 = true := by decide +kernel
set_option maxRecDepth 100000 in
theorem cm68 : chkM 68 = true := by decide +kernel
set_option maxRecDepth 100000 in
theorem cm69 : chkM 69 = true := by decide +kernel
set_option maxRecDepth 100000 in
theorem cm70 : chkM 70 = true := by decide +kernel
set_option maxRecDepth 100000 in
theorem cm71 : chkM 71 = true := by decide +kernel
set_option maxRecDepth 100000 in
theorem cm72 : chkM 72 = true := by decide +kernel
set_option maxRecDepth 100000 in
theorem cm73 : chkM 73 = true := by decide +kernel
set_option maxRecDepth 100000 in
theorem cm74 : chkM 74 = true := by decide +kernel
set_option maxRecDepth 100000 in
theorem cm75 : chkM 75 = true := by decide +kernel
set_option maxRecDepth 100000 in
theorem cm76 : chkM 76 = true := by decide +kernel
set_option maxRecDepth 100000 in
theorem cm77 : chkM 77 = true := by decide +kernel
set_option maxRecDepth 100000 in
theorem cm78 : chkM 78 = true := by decide +kernel
set_option maxRecDepth 100000 in
theorem cm79 : chkM 79 = true := by decide +kernel
set_option maxRecDepth 100000 in
theorem cm80 : chkM 80 = true := by decide +kernel
set_option maxRecDepth 100000 in
theorem cm81 : chkM 81 = true := by decide +kernel
set_option maxRecDepth 100000 in
theorem cm82 : chkM 82 = true := by decide +kernel
set_option maxRecDepth 100000 in
theorem cm83 : chkM 83 = true := by decide +kernel
set_option maxRecDepth 100000 in
theorem cm84 : chkM 84 = true := by decide +kernel
set_option maxRecDepth 100000 in
theorem cm85 : chkM 85 = true := by decide +kernel
set_option maxRecDepth 100000 in
theorem cm86 : chkM 86 = true := by decide +kernel
set_option maxRecDepth 100000 in
theorem cm87 : chkM 87 = true := by decide +kernel
set_option maxRecDepth 100000 in
theorem cm88 : chkM 88 = true := by decide +kernel
set_option maxRecDepth 100000 in
theorem cm89 : chkM 89 = true := by decide +kernel
set_option maxRecDepth 100000 in
theorem cm90 : chkM 90 = true := by decide +kernel
set_option maxRecDepth 100000 in
theorem cm91 : chkM 91 = true := by decide +kernel
set_option maxRecDepth 100000 in
theorem cm92 : chkM 92 = true := by decide +kernel
set_option maxRecDepth 100000 in
theorem cm93 : chkM 93 = true := by decide +kernel
set_option maxRecDepth 100000 in
theorem cm94 : chkM 94 = true := by decide +kernel
set_option maxRecDepth 100000 in
theorem cm95 : chkM 95 = true := by decide +kernel
set_option maxRecDepth 100000 in
theorem cm96 : chkM 96 = true := by decide +kernel
set_option maxRecDepth 100000 in
theorem cm97 : chkM 97 = true := by decide +kernel
set_option maxRecDepth 100000 in
theorem cm98 : chkM 98 = true := by decide +kernel
set_option maxRecDepth 100000 in
theorem cm99 : chkM 99 = true := by decide +kernel
set_option maxRecDepth 100000 in
theorem cm100 : chkM 100 = true := by decide +kernel
set_option maxRecDepth 100000 in
theorem cm101 : chkM 101 = true := by decide +kernel
set_option maxRecDepth 100000 in
theorem cm102 : chkM 102 = true := by decide +kernel
set_option maxRecDepth 100000 in
theorem cm103 : chkM 103 = true := by decide +kernel
set_option maxRecDepth 100000 in
theorem cm104 : chkM 104 = true := by decide +kernel
set_option maxRecDepth 100000 in
theorem cm105 : chkM 105 = true := by decide +kernel
set_option maxRecDepth 100000 in
theorem cm106 : chkM 106 = true := by decide +kernel
set_option maxRecDepth 100000 in
theorem cm107 : chkM 107 = true := by decide +kernel
set_option maxRecDepth 100000 in
theorem cm108 : chkM 108 = true := by decide +kernel
set_option maxRecDepth 100000 in
theorem cm109 : chkM 109 = true := by decide +kernel
set_option maxRecDepth 100000 in
theorem cm110 : chkM 110 = true := by decide +kernel
set_option maxRecDepth 100000 in
theorem cm111 : chkM 111 = true := by decide +kernel
set_option maxRecDepth 100000 in
theorem cm112 : chkM 112 = true := by decide +kernel
set_option maxRecDepth 100000 in
theorem cm113 : chkM 113 = true := by decide +kernel
set_option maxRecDepth 100000 in
theorem cm114 : chkM 114 = true := by decide +kernel
set_option maxRecDepth 100000 in
theorem cm115 : chkM 115 = true := by decide +kernel
set_option maxRecDepth 100000 in
theorem cm116 : chkM 116 = true := by decide +kernel
set_option maxRecDepth 100000 in
theorem cm117 : chkM 117 = true := by decide +kernel
set_option maxRecDepth 100000 in
theorem cm118 : chkM 118 = true := by decide +kernel
set_option maxRecDepth 100000 in
theorem cm119 : chkM 119 = true := by decide +kernel
set_option maxRecDepth 100000 in
theorem cm120 : chkM 120 = true := by decide +kernel
set_option maxRecDepth 100000 in
theorem cm121 : chkM 121 = true := by decide +kernel
set_option maxRecDepth 100000 in
theorem cm122 : chkM 122 = true := by decide +kernel
set_option maxRecDepth 100000 in
theorem cm123 : chkM 123 = true := by decide +kernel
set_option maxRecDepth 100000 in
theorem cm124 : chkM 124 = true := by decide +kernel
set_option maxRecDepth 100000 in
theorem cm125 : chkM 125 = true := by decide +kernel
set_option maxRecDepth 100000 in
theorem cm126 : chkM 126 = true := by decide +kernel
set_option maxRecDepth 100000 in
theorem cm127 : chkM 127 = true := by decide +kernel
set_option maxRecDepth 100000 in
theorem cm128 : chkM 128 = true := by decide +kernel
set_option maxRecDepth 100000 in
theorem cm129 : chkM 129 = true := by decide +kernel
set_option maxRecDepth 100000 in
theorem cm130 : chkM 130 = true := by decide +kernel
set_option maxRecDepth 100000 in
theorem cm131 : chkM 131 = true := by decide +kernel
set_option maxRecDepth 100000 in
theorem cm132 : chkM 132 = true := by decide +kernel
set_option maxRecDepth 100000 in
theorem cm133 : chkM 133 = true := by decide +kernel
set_option maxRecDepth 100000 in
theorem cm134 : chkM 134 = true := by decide +kernel
set_option maxRecDepth 100000 in
theorem cm135 : chkM 135 = true := by decide +kernel
set_option maxRecDepth 100000 in
theorem cm136 : chkM 136 = true := by decide +kernel
set_option maxRecDepth 100000 in
theorem cm137 : chkM 137 = true := by decide +kernel
set_option maxRecDepth 100000 in
theorem cm138 : chkM 138 = true := by decide +kernel
set_option maxRecDepth 100000 in
theorem cm139 : chkM 139 = true := by decide +kernel
set_option maxRecDepth 100000 in
theorem cm140 : chkM 140 = true := by decide +kernel
set_option maxRecDepth 100000 in
theorem cm141 : chkM 141 = true := by decide +kernel
set_option maxRecDepth 100000 in
theorem cm142 : chkM 142 = true := by decide +kernel
set_option maxRecDepth 100000 in
theorem cm143 : chkM 143 = true := by decide +kernel
set_option maxRecDepth 100000 in
theorem cm144 : chkM 144 = true := by decide +kernel
set_option maxRecDepth 100000 in
theorem cm145 : chkM 145 = true := by decide +kernel
set_option maxRecDepth 100000 in
theorem cm146 : chkM 146 = true := by decide +kernel
set_option maxRecDepth 100000 in
theorem cm147 : chkM 147 = true := by decide +kernel
set_option maxRecDepth 100000 in
theorem cm148 : chkM 148 = true := by decide +kernel
set_option maxRecDepth 100000 in
theorem cm149 : chkM 149 = true := by decide +kernel
set_option maxRecDepth 100000 in
theorem cm150 : chkM 150 = true := by decide +kernel
set_option maxRecDepth 100000 in
theorem cm151 : chkM 151 = true := by decide +kernel
set_option maxRecDepth 100000 in
theorem cm152 : chkM 152 = true := by decide +kernel
set_option maxRecDepth 100000 in
theorem cm153 : chkM 153 = true := by decide +kernel
set_option maxRecDepth 100000 in
theorem cm154 : chkM 154 = true := by decide +kernel
set_option maxRecDepth 100000 in
theorem cm155 : chkM 155 = true := by decide +kernel
set_option maxRecDepth 100000 in
theorem cm156 : chkM 156 = true := by decide +kernel
set_option maxRecDepth 100000 in
theorem cm157 : chkM 157 = true := by decide +kernel
set_option maxRecDepth 100000 in
theorem cm158 : chkM 158 = true := by decide +kernel
set_option maxRecDepth 100000 in
theorem cm159 : chkM 159 = true := by decide +kernel
set_option maxRecDepth 100000 in
theorem cm160 : chkM 160 = true := by decide +kernel
set_option maxRecDepth 100000 in
theorem cm161 : chkM 161 = true := by decide +kernel
set_option maxRecDepth 100000 in
theorem cm162 : chkM 162 = true := by decide +kernel
set_option maxRecDepth 100000 in
theorem cm163 : chkM 163 = true := by decide +kernel
set_option maxRecDepth 100000 in
theorem cm164 : chkM 164 = true := by decide +kernel
set_option maxRecDepth 100000 in
theorem cm165 : chkM 165 = true := by decide +kernel
set_option maxRecDepth 100000 in
theorem cm166 : chkM 166 = true := by decide +kernel
set_option maxRecDepth 100000 in
theorem cm167 : chkM 167 = true := by decide +kernel
set_option maxRecDepth 100000 in
theorem cm168 : chkM 168 = true := by decide +kernel
set_option maxRecDepth 100000 in
theorem cm169 : chkM 169 = true := by decide +kernel
set_option maxRecDepth 100000 in
theorem cm170 : chkM 170 = true := by decide +kernel
set_option maxRecDepth 100000 in
theorem cm171 : chkM 171 = true := by decide +kernel
set_option maxRecDepth 100000 in
theorem cm172 : chkM 172 = true := by decide +kernel
set_option maxRecDepth 100000 in
theorem cm173 : chkM 173 = true := by decide +kernel
set_option maxRecDepth 100000 in
theorem cm174 : chkM 174 = true := by decide +kernel
set_option maxRecDepth 100000 in
theorem cm175 : chkM 175 = true := by decide +kernel
set_option maxRecDepth 100000 in
theorem cm176 : chkM 176 = true := by decide +kernel
set_option maxRecDepth 100000 in
theorem cm177 : chkM 177 = true := by decide +kernel
set_option maxRecDepth 100000 in
theorem cm178 : chkM 178 = true := by decide +kernel
set_option maxRecDepth 100000 in
theorem cm179 : chkM 179 = true := by decide +kernel
set_option maxRecDepth 100000 in
theorem cm180 : chkM 180 = true := by decide +kernel
set_option maxRecDepth 100000 in
theorem cm181 : chkM 181 = true := by decide +kernel
set_option maxRecDepth 100000 in
theorem cm182 : chkM 182 = true := by decide +kernel
set_option maxRecDepth 100000 in
theorem cm183 : chkM 183 = true := by decide +kernel
set_option maxRecDepth 100000 in
theorem cm184 : chkM 184 = true := by decide +kernel
set_option maxRecDepth 100000 in
theorem cm185 : chkM 185 = true := by decide +kernel
set_option maxRecDepth 100000 in
theorem cm186 : chkM 186 = true := by decide +kernel
set_option maxRecDepth 100000 in
theorem cm187 : chkM 187 = true := by decide +kernel
set_option maxRecDepth 100000 in
theorem cm188 : chkM 188 = true := by decide +kernel
set_option maxRecDepth 100000 in
theorem cm189 : chkM 189 = true := by decide +kernel
set_option maxRecDepth 100000 in
theorem cm190 : chkM 190 = true := by decide +kernel
set_option maxRecDepth 100000 in
theorem cm191 : chkM 191 = true := by decide +kernel
set_option maxRecDepth 100000 in
theorem cm192 : chkM 192 = true := by decide +kernel
set_option maxRecDepth 100000 in
theorem cm193 : chkM 193 = true := by decide +kernel
set_option maxRecDepth 100000 in
theorem cm194 : chkM 194 = true := by decide +kernel
set_option maxRecDepth 100000 in
theorem cm195 : chkM 195 = true := by decide +kernel
set_option maxRecDepth 100000 in
theorem cm196 : chkM 196 = true := by decide +kernel
set_option maxRecDepth 100000 in
theorem cm197 : chkM 197 = true := by decide +kernel
set_option maxRecDepth 100000 in
theorem cm198 : chkM 198 = true := by decide +kernel
set_option maxRecDepth 100000 in
theorem cm199 : chkM 199 = true := by decide +kernel
set_option maxRecDepth 100000 in
theorem cm200 : chkM 200 = true := by decide +kernel
set_option maxRecDepth 100000 in
theorem cm201 : chkM 201 = true := by decide +kernel
set_option maxRecDepth 100000 in
theorem cm202 : chkM 202 = true := by decide +kernel
set_option maxRecDepth 100000 in
theorem cm203 : chkM 203 = true := by decide +kernel
set_option maxRecDepth 100000 in
theorem cm204 : chkM 204 = true := by decide +kernel
set_option maxRecDepth 100000 in
theorem cm205 : chkM 205 = true := by decide +kernel
set_option maxRecDepth 100000 in
theorem cm206 : chkM 206 = true := by decide +kernel
set_option maxRecDepth 100000 in
theorem cm207 : chkM 207 = true := by decide +kernel
set_option maxRecDepth 100000 in
theorem cm208 : chkM 208 = true := by decide +kernel
set_option maxRecDepth 100000 in
theorem cm209 : chkM 209 = true := by decide +kernel
set_option maxRecDepth 100000 in
theorem cm210 : chkM 210 = true := by decide +kernel
set_option maxRecDepth 100000 in
theorem cm211 : chkM 211 = true := by decide +kernel
set_option maxRecDepth 100000 in
theorem cm212 : chkM 212 = true := by decide +kernel
set_option maxRecDepth 100000 in
theorem cm213 : chkM 213 = true := by decide +kernel
set_option maxRecDepth 100000 in
theorem cm214 : chkM 214 = true := by decide +kernel
set_option maxRecDepth 100000 in
theorem cm215 : chkM 215 = true := by decide +kernel
set_option maxRecDepth 100000 in
theorem cm216 : chkM 216 = true := by decide +kernel
set_option maxRecDepth 100000 in
theorem cm217 : chkM 217 = true := by decide +kernel
set_option maxRecDepth 100000 in
theorem cm218 : chkM 218 = true := by decide +kernel
set_option maxRecDepth 100000 in
theorem cm219 : chkM 219 = true := by decide +kernel
set_option maxRecDepth 100000 in
theorem cm220 : chkM 220 = true := by decide +kernel
set_option maxRecDepth 100000 in
theorem cm221 : chkM 221 = true := by decide +kernel
set_option maxRecDepth 100000 in
theorem cm222 : chkM 222 = true := by decide +kernel
set_option maxRecDepth 100000 in
theorem cm223 : chkM 223 = true := by decide +kernel
set_option maxRecDepth 100000 in
theorem cm224 : chkM 224 = true := by decide +kernel
set_option maxRecDepth 100000 in
theorem cm225 : chkM 225 = true := by decide +kernel
set_option maxRecDepth 100000 in
theorem cm226 : chkM 226 = true := by decide +kernel
set_option maxRecDepth 100000 in
theorem cm227 : chkM 227 = true := by decide +kernel
set_option maxRecDepth 100000 in
theorem cm228 : chkM 228 = true := by decide +kernel
set_option maxRecDepth 100000 in
theorem cm229 : chkM 229 = true := by decide +kernel
set_option maxRecDepth 100000 in
theorem cm230 : chkM 230 = true := by decide +kernel
set_option maxRecDepth 100000 in
theorem cm231 : chkM 231 = true := by decide +kernel
set_option maxRecDepth 100000 in
theorem cm232 : chkM 232 = true := by decide +kernel
set_option maxRecDepth 100000 in
theorem cm233 : chkM 233 = true := by decide +kernel
set_option maxRecDepth 100000 in
theorem cm234 : chkM 234 = true := by decide +kernel
set_option maxRecDepth 100000 in
theorem cm235 : chkM 235 = true := by decide +kernel
set_option maxRecDepth 100000 in
theorem cm236 : chkM 236 = true := by decide +kernel
set_option maxRecDepth 100000 in
theorem cm237 : chkM 237 = true := by decide +kernel
set_option maxRecDepth 100000 in
theorem cm238 : chkM 238 = true := by decide +kernel
theorem chkM_ok : ∀ y, y < 239 → chkM y = true
  | 0, _ => cm0
  | 1, _ => cm1
  | 2, _ => cm2
  | 3, _ => cm3
  | 4, _ => cm4
  | 5, _ => cm5
  | 6, _ => cm6
  | 7, _ => cm7
  | 8, _ => cm8
  | 9, _ => cm9
  | 10, _ => cm10
  | 11, _ => cm11
  | 12, _ => cm12
  | 13, _ => cm13
  | 14, _ => cm14
  | 15, _ => cm15
  | 16, _ => cm16
  | 17, _ => cm17
  | 18, _ => cm18
  | 19, _ => cm19
  | 20, _ => cm20
  | 21, _ => cm21
  | 22, _ => cm22
  | 23, _ => cm23
  | 24, _ => cm24
  | 25, _ => cm25
  | 26, _ => cm26
  | 27, _ => cm27
  | 28, _ => cm28
  | 29, _ => cm29
  | 30, _ => cm30
  | 31, _ => cm31
  | 32, _ => cm32
  | 33, _ => cm33
  | 34, _ => cm34
  | 35, _ => cm35
  | 36, _ => cm36
  | 37, _ => cm37
  | 38, _ => cm38
  | 39, _ => cm39
  | 40, _ => cm40
  | 41, _ => cm41
  | 42, _ => cm42
  | 43, _ => cm43
  | 44, _ => cm44
  | 45, _ => cm45
  | 46, _ => cm46
  | 47, _ => cm47
  | 48, _ => cm48
  | 49, _ => cm49
  | 50, _ => cm50
  | 51, _ => cm51
  | 52, _ => cm52
  | 53, _ => cm53
  | 54, _ => cm54
  | 55, _ => cm55
  | 56, _ => cm56
  | 57, _ => cm57
  | 58, _ => cm58
  | 59, _ => cm59
  | 60, _ => cm60
  | 61, _ => cm61
  | 62, _ => cm62
  | 63, _ => cm63
  | 64, _ => cm64
  | 65, _ => cm65
  | 66, _ => cm66
  | 67, _ => cm67
  | 68, _ => cm68
  | 69, _ => cm69
  | 70, _ => cm70
  | 71, _ => cm71
  | 72, _ => cm72
  | 73, _ => cm73
  | 74, _ => cm74
  | 75, _ => cm75
  | 76, _ => cm76
  | 77, _ => cm77
  | 78, _ => cm78
  | 79, _ => cm79
  | 80, _ => cm80
  | 81, _ => cm81
  | 82, _ => cm82
  | 83, _ => cm83
  | 84, _ => cm84
  | 85, _ => cm85
  | 86, _ => cm86
  | 87, _ => cm87
  | 88, _ => cm88
  | 89, _ => cm89
  | 90, _ => cm90
  | 91, _ => cm91
  | 92, _ => cm92
  | 93, _ => cm93
  | 94, _ => cm94
  | 95, _ => cm95
  | 96, _ => cm96
  | 97, _ => cm97
  | 98, _ => cm98
  | 99, _ => cm99
  | 100, _ => cm100
  | 101, _ => cm101
  | 102, _ => cm102
  | 103, _ => cm103
  | 104, _ => cm104
  | 105, _ => cm105
  | 106, _ => cm106
  | 107, _ => cm107
  | 108, _ => cm108
  | 109, _ => cm109
  | 110, _ => cm110
  | 111, _ => cm111
  | 112, _ => cm112
  | 113, _ => cm113
  | 114, _ => cm114
  | 115, _ => cm115
  | 116, _ => cm116
  | 117, _ => cm117
  | 118, _ => cm118
  | 119, _ => cm119
  | 120, _ => cm120
  | 121, _ => cm121
  | 122, _ => cm122
  | 123, _ => cm123
  | 124, _ => cm124
  | 125, _ => cm125
  | 126, _ => cm126
  | 127, _ => cm127
  | 128, _ => cm128
  | 129, _ => cm129
  | 130, _ => cm130
  | 131, _ => cm131
  | 132, _ => cm132
  | 133, _ => cm133
  | 134, _ => cm134
  | 135, _ => cm135
  | 136, _ => cm136
  | 137, _ => cm137
  | 138, _ => cm138
  | 139, _ => cm139
  | 140, _ => cm140
  | 141, _ => cm141
  | 142, _ => cm142
  | 143, _ => cm143
  | 144, _ => cm144
  | 145, _ => cm145
  | 146, _ => cm146
  | 147, _ => cm147
  | 148, _ => cm148
  | 149, _ => cm149
  | 150, _ => cm150
  | 151, _ => cm151
  | 152, _ => cm152
  | 153, _ => cm153
  | 154, _ => cm154
  | 155, _ => cm155
  | 156, _ => cm156
  | 157, _ => cm157
  | 158, _ => cm158
  | 159, _ => cm159
  | 160, _ => cm160
  | 161, _ => cm161
  | 162, _ => cm162
  | 163, _ => cm163
  | 164, _ => cm164
  | 165, _ => cm165
  | 166, _ => cm166
  | 167, _ => cm167
  | 168, _ => cm168
  | 169, _ => cm169
  | 170, _ => cm170
  | 171, _ => cm171
  | 172, _ => cm172
  | 173, _ => cm173
  | 174, _ => cm174
  | 175, _ => cm175
  | 176, _ => cm176
  | 177, _ => cm177
  | 178, _ => cm178
  | 179, _ => cm179
  | 180, _ => cm180
  | 181, _ => cm181
  | 182, _ => cm182
  | 183, _ => cm183
  | 184, _ => cm184
  | 185, _ => cm185
  | 186, _ => cm186
  | 187, _ => cm187
  | 188, _ => cm188
  | 189, _ => cm189
  | 190, _ => cm190
  | 191, _ => cm191
  | 192, _ => cm192
  | 193, _ => cm193
  | 194, _ => cm194
  | 195, _ => cm195
  | 196, _ => cm196
  | 197, _ => cm197
  | 198, _ => cm198
  | 199, _ => cm199
  | 200, _ => cm200
  | 201, _ => cm201
  | 202, _ => cm202
  | 203, _ => cm203
  | 204, _ => cm204
  | 205, _ => cm205
  | 206, _ => cm206
  | 207, _ => cm207
  | 208, _ => cm208
  | 209, _ => cm209
  | 210, _ => cm210
  | 211, _ => cm211
  | 212, _ => cm212
  | 213, _ => cm213
  | 214, _ => cm214
  | 215, _ => cm215
  | 216, _ => cm216
  | 217, _ => cm217
  | 218, _ => cm218
  | 219, _ => cm219
  | 220, _ => cm220
  | 221, _ => cm221
  | 222, _ => cm222
  | 223, _ => cm223
  | 224, _ => cm224
  | 225, _ => cm225
  | 226, _ => cm226
  | 227, _ => cm227
  | 228, _ => cm228
  | 229, _ => cm229
  | 230, _ => cm230
  | 231, _ => cm231
  | 232, _ => cm232
  | 233, _ => cm233
  | 234, _ => cm234
  | 235, _ => cm235
  | 236, _ => cm236
  | 237, _ => cm237
  | 238, _ => cm238
  | n + 239, h => absurd h (by omega)
end
section
def ilen : Instr → Nat
  | .iload _ | .lload _ | .aload _ | .istore _ | .lstore _ | .astore _ | .bipush _ | .ldc _ | .newarray _ => 2
  | .sipush _ | .ldc_w _ | .ldc2_w _ | .iinc _ _ | .ifCond _ _ | .if_icmp _ _ | .if_acmp _ _ | .ifnull _ | .ifnonnull _ | .goto _ | .getfield _ | .putfield _ | .getstatic _ | .putstatic _ | .invokevirtual _ | .invokestatic _ | .invokespecial _ | .new _ | .anewarray _ | .checkcast _ | .instanceof _ => 3
  | _ => 1
/-- an instruction stands where the list says; switches are whole; a final field is put in its own class's constructor alone -/
def chkD (y : Nat) (q : Nat × Instr) : Bool := match decode (mBy y) q.1 with
  | .ok (i, n) => decide (i = q.2) && (match q.2 with
    | .tableswitch _ lo hi os => decide (lo + os.size = hi + 1) && decide (-2147483648 ≤ lo) && decide (hi < 2147483648)
    | .lookupswitch _ os => os.toList.all (fun p => decide (-2147483648 ≤ p.1) && decide (p.1 < 2147483648)) && (os.toList.zip (os.toList.drop 1)).all (fun (a, next) => decide (a.1 < next.1))
    | .putfield idx => Nat.beq n 3 && (match fld (mOw y) idx with
      | some (t, k, ns) => !(TRs t k).2.2.2 || (Nat.beq (mKi y) 2 && Nat.beq ns 0 && decide ((TRs t k).1 = cnm (mOw y)))
      | none => true)
    | i => Nat.beq n (ilen i))
  | _ => false
set_option maxRecDepth 100000 in
theorem dk0 : (mCo 0).all (chkD 0) = true := by decide +kernel
set_option maxRecDepth 100000 in
theorem dk1 : (mCo 1).all (chkD 1) = true := by decide +kernel
set_option maxRecDepth 100000 in
theorem dk2 : (mCo 2).all (chkD 2) = true := by decide +kernel
set_option maxRecDepth 100000 in
theorem dk3 : (mCo 3).all (chkD 3) = true := by decide +kernel
set_option maxRecDepth 100000 in
theorem dk4 : (mCo 4).all (chkD 4) = true := by decide +kernel
set_option maxRecDepth 100000 in
theorem dk5 : (mCo 5).all (chkD 5) = true := by decide +kernel
set_option maxRecDepth 100000 in
theorem dk6 : (mCo 6).all (chkD 6) = true := by decide +kernel
set_option maxRecDepth 100000 in
theorem dk7 : (mCo 7).all (chkD 7) = true := by decide +kernel
set_option maxRecDepth 100000 in
theorem dk8 : (mCo 8).all (chkD 8) = true := by decide +kernel
set_option maxRecDepth 100000 in
theorem dk9 : (mCo 9).all (chkD 9) = true := by decide +kernel
set_option maxRecDepth 100000 in
theorem dk10 : (mCo 10).all (chkD 10) = true := by decide +kernel
set_option maxRecDepth 100000 in
theorem dk11 : (mCo 11).all (chkD 11) = true := by decide +kernel
set_option maxRecDepth 100000 in
theorem dk12 : (mCo 12).all (chkD 12) = true := by decide +kernel
set_option maxRecDepth 100000 in
theorem dk13 : (mCo 13).all (chkD 13) = true := by decide +kernel
set_option maxRecDepth 100000 in
theorem dk14 : (mCo 14).all (chkD 14) = true := by decide +kernel
set_option maxRecDepth 100000 in
theorem dk15 : (mCo 15).all (chkD 15) = true := by decide +kernel
set_option maxRecDepth 100000 in
theorem dk16 : (mCo 16).all (chkD 16) = true := by decide +kernel
set_option maxRecDepth 100000 in
theorem dk17 : (mCo 17).all (chkD 17) = true := by decide +kernel
set_option maxRecDepth 100000 in
theorem dk18 : (mCo 18).all (chkD 18) = true := by decide +kernel
set_option maxRecDepth 100000 in
theorem dk19 : (mCo 19).all (chkD 19) = true := by decide +kernel
set_option maxRecDepth 100000 in
theorem dk20 : (mCo 20).all (chkD 20) = true := by decide +kernel
set_option maxRecDepth 100000 in
theorem dk21 : (mCo 21).all (chkD 21) = true := by decide +kernel
set_option maxRecDepth 100000 in
theorem dk22 : (mCo 22).all (chkD 22) = true := by decide +kernel
set_option maxRecDepth 100000 in
theorem dk23 : (mCo 23).all (chkD 23) = true := by decide +kernel
set_option maxRecDepth 100000 in
theorem dk24 : (mCo 24).all (chkD 24) = true := by decide +kernel
set_option maxRecDepth 100000 in
theorem dk25 : (mCo 25).all (chkD 25) = true := by decide +kernel
set_option maxRecDepth 100000 in
theorem dk26 : (mCo 26).all (chkD 26) = true := by decide +kernel
set_option maxRecDepth 100000 in
theorem dk27 : (mCo 27).all (chkD 27) = true := by decide +kernel
set_option maxRecDepth 100000 in
theorem dk28 : (mCo 28).all (chkD 28) = true := by decide +kernel
set_option maxRecDepth 100000 in
theorem dk29 : (mCo 29).all (chkD 29) = true := by decide +kernel
set_option maxRecDepth 100000 in
theorem dk30 : (mCo 30).all (chkD 30) = true := by decide +kernel
set_option maxRecDepth 100000 in
theorem dk31 : (mCo 31).all (chkD 31) = true := by decide +kernel
set_option maxRecDepth 100000 in
theorem dk32 : (mCo 32).all (chkD 32) = true := by decide +kernel
set_option maxRecDepth 100000 in
theorem dk33 : (mCo 33).all (chkD 33) = true := by decide +kernel
set_option maxRecDepth 100000 in
theorem dk34 : (mCo 34).all (chkD 34) = true := by decide +kernel
set_option maxRecDepth 100000 in
theorem dk35 : (mCo 35).all (chkD 35) = true := by decide +kernel
set_option maxRecDepth 100000 in
theorem dk36 : (mCo 36).all (chkD 36) = true := by decide +kernel
set_option maxRecDepth 100000 in
theorem dk37 : (mCo 37).all (chkD 37) = true := by decide +kernel
set_option maxRecDepth 100000 in
theorem dk38 : (mCo 38).all (chkD 38) = true := by decide +kernel
set_option maxRecDepth 100000 in
theorem dk39 : (mCo 39).all (chkD 39) = true := by decide +kernel
set_option maxRecDepth 100000 in
theorem dk40 : (mCo 40).all (chkD 40) = true := by decide +kernel
set_option maxRecDepth 100000 in
theorem dk41 : (mCo 41).all (chkD 41) = true := by decide +kernel
set_option maxRecDepth 100000 in
theorem dk42 : (mCo 42).all (chkD 42) = true := by decide +kernel
set_option maxRecDepth 100000 in
theorem dk43 : (mCo 43).all (chkD 43) = true := by decide +kernel
set_option maxRecDepth 100000 in
theorem dk44 : (mCo 44).all (chkD 44) = true := by decide +kernel
set_option maxRecDepth 100000 in
theorem dk45 : (mCo 45).all (chkD 45) = true := by decide +kernel
set_option maxRecDepth 100000 in
theorem dk46 : (mCo 46).all (chkD 46) = true := by decide +kernel
set_option maxRecDepth 100000 in
theorem dk47 : (mCo 47).all (chkD 47) = true := by decide +kernel
set_option maxRecDepth 100000 in
theorem dk48 : (mCo 48).all (chkD 48) = true := by decide +kernel
set_option maxRecDepth 100000 in
theorem dk49 : (mCo 49).all (chkD 49) = true := by decide +kernel
set_option maxRecDepth 100000 in
theorem dk50 : (mCo 50).all (chkD 50) = true := by decide +kernel
set_option maxRecDepth 100000 in
theorem dk51 : (mCo 51).all (chkD 51) = true := by decide +kernel
set_option maxRecDepth 100000 in
theorem dk52 : (mCo 52).all (chkD 52) = true := by decide +kernel
set_option maxRecDepth 100000 in
theorem dk53 : (mCo 53).all (chkD 53) = true := by decide +kernel
set_option maxRecDepth 100000 in
theorem dk54 : (mCo 54).all (chkD 54) = true := by decide +kernel
set_option maxRecDepth 100000 in
theorem dk55 : (mCo 55).all (chkD 55) = true := by decide +kernel
set_option maxRecDepth 100000 in
theorem dk56 : (mCo 56).all (chkD 56) = true := by decide +kernel
set_option maxRecDepth 100000 in
theorem dk57 : (mCo 57).all (chkD 57) = true := by decide +kernel
set_option maxRecDepth 100000 in
theorem dk58 : (mCo 58).all (chkD 58) = true := by decide +kernel
set_option maxRecDepth 100000 in
theorem dk59 : (mCo 59).all (chkD 59) = true := by decide +kernel
set_option maxRecDepth 100000 in
theorem dk60 : (mCo 60).all (chkD 60) = true := by decide +kernel
set_option maxRecDepth 100000 in
theorem dk61 : (mCo 61).all (chkD 61) = true := by decide +kernel
set_option maxRecDepth 100000 in
theorem dk62 : (mCo 62).all (chkD 62) = true := by decide +kernel
set_option maxRecDepth 100000 in
theorem dk63 : (mCo 63).all (chkD 63) = true := by decide +kernel
set_option maxRecDepth 100000 in
theorem dk64 : (mCo 64).all (chkD 64) = true := by decide +kernel
set_option maxRecDepth 100000 in
theorem dk65 : (mCo 65).all (chkD 65) = true := by decide +kernel
set_option maxRecDepth 100000 in
theorem dk66 : (mCo 66).all (chkD 66) = true := by decide +kernel
set_option maxRecDepth 100000 in
theorem dk67 : (mCo 67).all (chkD 67) = true := by decide +kernel
set_option maxRecDepth 100000 in
theorem dk68 : (mCo 68).all (chkD 68) = true := by decide +kernel
set_option maxRecDepth 100000 in
theorem dk69 : (mCo 69).all (chkD 69) = true := by decide +kernel
set_option maxRecDepth 100000 in
theorem dk70 : (mCo 70).all (chkD 70) = true := by decide +kernel
set_option maxRecDepth 100000 in
theorem dk71 : (mCo 71).all (chkD 71) = true := by decide +kernel
set_option maxRecDepth 100000 in
theorem dk72 : (mCo 72).all (chkD 72) = true := by decide +kernel
set_option maxRecDepth 100000 in
theorem dk73 : (mCo 73).all (chkD 73) = true := by decide +kernel
set_option maxRecDepth 100000 in
theorem dk74 : (mCo 74).all (chkD 74) = true := by decide +kernel
set_option maxRecDepth 100000 in
theorem dk75 : (mCo 75).all (chkD 75) = true := by decide +kernel
set_option maxRecDepth 100000 in
theorem dk76 : (mCo 76).all (chkD 76) = true := by decide +kernel
set_option maxRecDepth 100000 in
theorem dk77 : (mCo 77).all (chkD 77) = true := by decide +kernel
set_option maxRecDepth 100000 in
theorem dk78 : (mCo 78).all (chkD 78) = true := by decide +kernel
set_option maxRecDepth 100000 in
theorem dk79 : (mCo 79).all (chkD 79) = true := by decide +kernel
set_option maxRecDepth 100000 in
theorem dk80 : (mCo 80).all (chkD 80) = true := by decide +kernel
set_option maxRecDepth 100000 in
theorem dk81 : (mCo 81).all (chkD 81) = true := by decide +kernel
set_option maxRecDepth 100000 in
theorem dk82 : (mCo 82).all (chkD 82) = true := by decide +kernel
set_option maxRecDepth 100000 in
theorem dk83 : (mCo 83).all (chkD 83) = true := by decide +kernel
set_option maxRecDepth 100000 in
theorem dk84 : (mCo 84).all (chkD 84) = true := by decide +kernel
set_option maxRecDepth 100000 in
theorem dk85 : (mCo 85).all (chkD 85) = true := by decide +kernel
set_option maxRecDepth 100000 in
theorem dk86 : (mCo 86).all (chkD 86) = true := by decide +kernel
set_option maxRecDepth 100000 in
theorem dk87 : (mCo 87).all (chkD 87) = true := by decide +kernel
set_option maxRecDepth 100000 in
theorem dk88 : (mCo 88).all (chkD 88) = true := by decide +kernel
set_option maxRecDepth 100000 in
theorem dk89 : (mCo 89).all (chkD 89) = true := by decide +kernel
set_option maxRecDepth 100000 in
theorem dk90 : (mCo 90).all (chkD 90) = true := by decide +kernel
set_option maxRecDepth 100000 in
theorem dk91 : (mCo 91).all (chkD 91) = true := by decide +kernel
set_option maxRecDepth 100000 in
theorem dk92 : (mCo 92).all (chkD 92) = true := by decide +kernel
set_option maxRecDepth 100000 in
theorem dk93 : (mCo 93).all (chkD 93) = true := by decide +kernel
set_option maxRecDepth 100000 in
theorem dk94 : (mCo 94).all (chkD 94) = true := by decide +kernel
set_option maxRecDepth 100000 in
theorem dk95 : (mCo 95).all (chkD 95) = true := by decide +kernel
set_option maxRecDepth 100000 in
theorem dk96 : (mCo 96).all (chkD 96) = true := by decide +kernel
set_option maxRecDepth 100000 in
theorem dk97 : (mCo 97).all (chkD 97) = true := by decide +kernel
set_option maxRecDepth 100000 in
theorem dk98 : (mCo 98).all (chkD 98) = true := by decide +kernel
set_option maxRecDepth 100000 in
theorem dk99 : (mCo 99).all (chkD 99) = true := by decide +kernel
set_option maxRecDepth 100000 in
theorem dk100 : (mCo 100).all (chkD 100) = true := by decide +kernel
set_option maxRecDepth 100000 in
theorem dk101 : (mCo 101).all (chkD 101) = true := by decide +kernel
set_option maxRecDepth 100000 in
theorem dk102 : (mCo 102).all (chkD 102) = true := by decide +kernel
set_option maxRecDepth 100000 in
theorem dk103 : (mCo 103).all (chkD 103) = true := by decide +kernel
set_option maxRecDepth 100000 in
theorem dk104 : (mCo 104).all (chkD 104) = true := by decide +kernel
set_option maxRecDepth 100000 in
theorem dk105 : (mCo 105).all (chkD 105) = true := by decide +kernel
set_option maxRecDepth 100000 in
theorem dk106 : (mCo 106).all (chkD 106) = true := by decide +kernel
set_option maxRecDepth 100000 in
theorem dk107 : (mCo 107).all (chkD 107) = true := by decide +kernel
set_option maxRecDepth 100000 in
theorem dk108 : (mCo 108).all (chkD 108) = true := by decide +kernel
set_option maxRecDepth 100000 in
theorem dk109 : (mCo 109).all (chkD 109) = true := by decide +kernel
set_option maxRecDepth 100000 in
theorem dk110 : (mCo 110).all (chkD 110) = true := by decide +kernel
set_option maxRecDepth 100000 in
theorem dk111 : (mCo 111).all (chkD 111) = true := by decide +kernel
set_option maxRecDepth 100000 in
theorem dk112 : (mCo 112).all (chkD 112) = true := by decide +kernel
set_option maxRecDepth 100000 in
theorem dk113 : (mCo 113).all (chkD 113) = true := by decide +kernel
set_option maxRecDepth 100000 in
theorem dk114 : (mCo 114).all (chkD 114) = true := by decide +kernel
set_option maxRecDepth 100000 in
theorem dk115 : (mCo 115).all (chkD 115) = true := by decide +kernel
set_option maxRecDepth 100000 in
theorem dk116 : (mCo 116).all (chkD 116) = true := by decide +kernel
set_option maxRecDepth 100000 in
theorem dk117 : (mCo 117).all (chkD 117) = true := by decide +kernel
set_option maxRecDepth 100000 in
theorem dk118 : (mCo 118).all (chkD 118) = true := by decide +kernel
set_option maxRecDepth 100000 in
theorem dk119 : (mCo 119).all (chkD 119) = true := by decide +kernel
set_option maxRecDepth 100000 in
theorem dk120 : (mCo 120).all (chkD 120) = true := by decide +kernel
set_option maxRecDepth 100000 in
theorem dk121 : (mCo 121).all (chkD 121) = true := by decide +kernel
set_option maxRecDepth 100000 in
theorem dk122 : (mCo 122).all (chkD 122) = true := by decide +kernel
set_option maxRecDepth 100000 in
theorem dk123 : (mCo 123).all (chkD 123) = true := by decide +kernel
set_option maxRecDepth 100000 in
theorem dk124 : (mCo 124).all (chkD 124) = true := by decide +kernel
set_option maxRecDepth 100000 in
theorem dk125 : (mCo 125).all (chkD 125) = true := by decide +kernel
set_option maxRecDepth 100000 in
theorem dk126 : (mCo 126).all (chkD 126) = true := by decide +kernel
set_option maxRecDepth 100000 in
theorem dk127 : (mCo 127).all (chkD 127) = true := by decide +kernel
set_option maxRecDepth 100000 in
theorem dk128 : (mCo 128).all (chkD 128) = true := by decide +kernel
set_option maxRecDepth 100000 in
theorem dk129 : (mCo 129).all (chkD 129) = true := by decide +kernel
set_option maxRecDepth 100000 in
theorem dk130 : (mCo 130).all (chkD 130) = true := by decide +kernel
set_option maxRecDepth 100000 in
theorem dk131 : (mCo 131).all (chkD 131) = true := by decide +kernel
set_option maxRecDepth 100000 in
theorem dk132 : (mCo 132).all (chkD 132) = true := by decide +kernel
set_option maxRecDepth 100000 in
theorem dk133 : (mCo 133).all (chkD 133) = true := by decide +kernel
set_option maxRecDepth 100000 in
theorem dk134 : (mCo 134).all (chkD 134) = true := by decide +kernel
set_option maxRecDepth 100000 in
theorem dk135 : (mCo 135).all (chkD 135) = true := by decide +kernel
set_option maxRecDepth 100000 in
theorem dk136 : (mCo 136).all (chkD 136) = true := by decide +kernel
set_option maxRecDepth 100000 in
theorem dk137 : (mCo 137).all (chkD 137) = true := by decide +kernel
set_option maxRecDepth 100000 in
theorem dk138 : (mCo 138).all (chkD 138) = true := by decide +kernel
set_option maxRecDepth 100000 in
theorem dk139 : (mCo 139).all (chkD 139) = true := by decide +kernel
set_option maxRecDepth 100000 in
theorem dk140 : (mCo 140).all (chkD 140) = true := by decide +kernel
set_option maxRecDepth 100000 in
theorem dk141 : (mCo 141).all (chkD 141) = true := by decide +kernel
set_option maxRecDepth 100000 in
theorem dk142 : (mCo 142).all (chkD 142) = true := by decide +kernel
set_option maxRecDepth 100000 in
theorem dk143 : (mCo 143).all (chkD 143) = true := by decide +kernel
set_option maxRecDepth 100000 in
theorem dk144 : (mCo 144).all (chkD 144) = true := by decide +kernel
set_option maxRecDepth 100000 in
theorem dk145 : (mCo 145).all (chkD 145) = true := by decide +kernel
set_option maxRecDepth 100000 in
theorem dk146 : (mCo 146).all (chkD 146) = true := by decide +kernel
set_option maxRecDepth 100000 in
theorem dk147 : (mCo 147).all (chkD 147) = true := by decide +kernel
set_option maxRecDepth 100000 in
theorem dk148 : (mCo 148).all (chkD 148) = true := by decide +kernel
set_option maxRecDepth 100000 in
theorem dk149 : (mCo 149).all (chkD 149) = true := by decide +kernel
set_option maxRecDepth 100000 in
theorem dk150 : (mCo 150).all (chkD 150) = true := by decide +kernel
set_option maxRecDepth 100000 in
theorem dk151 : (mCo 151).all (chkD 151) = true := by decide +kernel
set_option maxRecDepth 100000 in
theorem dk152 : (mCo 152).all (chkD 152) = true := by decide +kernel
set_option maxRecDepth 100000 in
theorem dk153 : (mCo 153).all (chkD 153) = true := by decide +kernel
set_option maxRecDepth 100000 in
theorem dk154 : (mCo 154).all (chkD 154) = true := by decide +kernel
set_option maxRecDepth 100000 in
theorem dk155 : (mCo 155).all (chkD 155) = true := by decide +kernel
set_option maxRecDepth 100000 in
theorem dk156 : (mCo 156).all (chkD 156) = true := by decide +kernel
set_option maxRecDepth 100000 in
theorem dk157 : (mCo 157).all (chkD 157) = true := by decide +kernel
set_option maxRecDepth 100000 in
theorem dk158 : (mCo 158).all (chkD 158) = true := by decide +kernel
set_option maxRecDepth 100000 in
theorem dk159 : (mCo 159).all (chkD 159) = true := by decide +kernel
set_option maxRecDepth 100000 in
theorem dk160 : (mCo 160).all (chkD 160) = true := by decide +kernel
set_option maxRecDepth 100000 in
theorem dk161 : (mCo 161).all (chkD 161) = true := by decide +kernel
set_option maxRecDepth 100000 in
theorem dk162 : (mCo 162).all (chkD 162) = true := by decide +kernel
set_option maxRecDepth 100000 in
theorem dk163 : (mCo 163).all (chkD 163) = true := by decide +kernel
set_option maxRecDepth 100000 in
theorem dk164 : (mCo 164).all (chkD 164) = true := by decide +kernel
set_option maxRecDepth 100000 in
theorem dk165 : (mCo 165).all (chkD 165) = true := by decide +kernel
set_option maxRecDepth 100000 in
theorem dk166 : (mCo 166).all (chkD 166) = true := by decide +kernel
set_option maxRecDepth 100000 in
theorem dk167 : (mCo 167).all (chkD 167) = true := by decide +kernel
set_option maxRecDepth 100000 in
theorem dk168 : (mCo 168).all (chkD 168) = true := by decide +kernel
set_option maxRecDepth 100000 in
theorem dk169 : (mCo 169).all (chkD 169) = true := by decide +kernel
set_option maxRecDepth 100000 in
theorem dk170 : (mCo 170).all (chkD 170) = true := by decide +kernel
set_option maxRecDepth 100000 in
theorem dk171 : (mCo 171).all (chkD 171) = true := by decide +kernel
set_option maxRecDepth 100000 in
theorem dk172 : (mCo 172).all (chkD 172) = true := by decide +kernel
set_option maxRecDepth 100000 in
theorem dk173 : (mCo 173).all (chkD 173) = true := by decide +kernel
set_option maxRecDepth 100000 in
theorem dk174 : (mCo 174).all (chkD 174) = true := by decide +kernel
set_option maxRecDepth 100000 in
theorem dk175 : (mCo 175).all (chkD 175) = true := by decide +kernel
set_option maxRecDepth 100000 in
theorem dk176 : (mCo 176).all (chkD 176) = true := by decide +kernel
set_option maxRecDepth 100000 in
theorem dk177 : (mCo 177).all (chkD 177) = true := by decide +kernel
set_option maxRecDepth 100000 in
theorem dk178 : (mCo 178).all (chkD 178) = true := by decide +kernel
set_option maxRecDepth 100000 in
theorem dk179 : (mCo 179).all (chkD 179) = true := by decide +kernel
set_option maxRecDepth 100000 in
theorem dk180 : (mCo 180).all (chkD 180) = true := by decide +kernel
set_option maxRecDepth 100000 in
theorem dk181 : (mCo 181).all (chkD 181) = true := by decide +kernel
set_option maxRecDepth 100000 in
theorem dk182 : (mCo 182).all (chkD 182) = true := by decide +kernel
set_option maxRecDepth 100000 in
theorem dk183 : (mCo 183).all (chkD 183) = true := by decide +kernel
set_option maxRecDepth 100000 in
theorem dk184 : (mCo 184).all (chkD 184) = true := by decide +kernel
set_option maxRecDepth 100000 in
theorem dk185 : (mCo 185).all (chkD 185) = true := by decide +kernel
set_option maxRecDepth 100000 in
theorem dk186 : (mCo 186).all (chkD 186) = true := by decide +kernel
set_option maxRecDepth 100000 in
theorem dk187 : (mCo 187).all (chkD 187) = true := by decide +kernel
set_option maxRecDepth 100000 in
theorem dk188 : (mCo 188).all (chkD 188) = true := by decide +kernel
set_option maxRecDepth 100000 in
theorem dk189 : (mCo 189).all (chkD 189) = true := by decide +kernel
set_option maxRecDepth 100000 in
theorem dk190 : (mCo 190).all (chkD 190) = true := by decide +kernel
set_option maxRecDepth 100000 in
theorem dk191 : (mCo 191).all (chkD 191) = true := by decide +kernel
set_option maxRecDepth 100000 in
theorem dk192 : (mCo 192).all (chkD 192) = true := by decide +kernel
set_option maxRecDepth 100000 in
theorem dk193 : (mCo 193).all (chkD 193) = true := by decide +kernel
set_option maxRecDepth 100000 in
theorem dk194 : (mCo 194).all (chkD 194) = true := by decide +kernel
set_option maxRecDepth 100000 in
theorem dk195 : (mCo 195).all (chkD 195) = true := by decide +kernel
set_option maxRecDepth 100000 in
theorem dk196 : (mCo 196).all (chkD 196) = true := by decide +kernel
set_option maxRecDepth 100000 in
theorem dk197 : (mCo 197).all (chkD 197) = true := by decide +kernel
set_option maxRecDepth 100000 in
theorem dk198 : (mCo 198).all (chkD 198) = true := by decide +kernel
set_option maxRecDepth 100000 in
theorem dk199 : (mCo 199).all (chkD 199) = true := by decide +kernel
set_option maxRecDepth 100000 in
theorem dk200 : (mCo 200).all (chkD 200) = true := by decide +kernel
set_option maxRecDepth 100000 in
theorem dk201 : (mCo 201).all (chkD 201) = true := by decide +kernel
set_option maxRecDepth 100000 in
theorem dk202 : (mCo 202).all (chkD 202) = true := by decide +kernel
set_option maxRecDepth 100000 in
theorem dk203 : (mCo 203).all (chkD 203) = true := by decide +kernel
set_option maxRecDepth 100000 in
theorem dk204 : (mCo 204).all (chkD 204) = true := by decide +kernel
set_option maxRecDepth 100000 in
theorem dk205 : (mCo 205).all (chkD 205) = true := by decide +kernel
set_option maxRecDepth 100000 in
theorem dk206 : (mCo 206).all (chkD 206) = true := by decide +kernel
set_option maxRecDepth 100000 in
theorem dk207 : (mCo 207).all (chkD 207) = true := by decide +kernel
set_option maxRecDepth 100000 in
theorem dk208 : (mCo 208).all (chkD 208) = true := by decide +kernel
set_option maxRecDepth 100000 in
theorem dk209 : (mCo 209).all (chkD 209) = true := by decide +kernel
set_option maxRecDepth 100000 in
theorem dk210 : (mCo 210).all (chkD 210) = true := by decide +kernel
set_option maxRecDepth 100000 in
theorem dk211 : (mCo 211).all (chkD 211) = true := by decide +kernel
set_option maxRecDepth 100000 in
theorem dk212 : (mCo 212).all (chkD 212) = true := by decide +kernel
set_option maxRecDepth 100000 in
theorem dk213 : (mCo 213).all (chkD 213) = true := by decide +kernel
set_option maxRecDepth 100000 in
theorem dk214 : (mCo 214).all (chkD 214) = true := by decide +kernel
set_option maxRecDepth 100000 in
theorem dk215 : (mCo 215).all (chkD 215) = true := by decide +kernel
set_option maxRecDepth 100000 in
theorem dk216 : (mCo 216).all (chkD 216) = true := by decide +kernel
set_option maxRecDepth 100000 in
theorem dk217 : (mCo 217).all (chkD 217) = true := by decide +kernel
set_option maxRecDepth 100000 in
theorem dk218 : (mCo 218).all (chkD 218) = true := by decide +kernel
set_option maxRecDepth 100000 in
theorem dk219 : (mCo 219).all (chkD 219) = true := by decide +kernel
set_option maxRecDepth 100000 in
theorem dk220 : (mCo 220).all (chkD 220) = true := by decide +kernel
set_option maxRecDepth 100000 in
theorem dk221 : (mCo 221).all (chkD 221) = true := by decide +kernel
set_option maxRecDepth 100000 in
theorem dk222 : (mCo 222).all (chkD 222) = true := by decide +kernel
set_option maxRecDepth 100000 in
theorem dk223 : (mCo 223).all (chkD 223) = true := by decide +kernel
set_option maxRecDepth 100000 in
theorem dk224 : (mCo 224).all (chkD 224) = true := by decide +kernel
set_option maxRecDepth 100000 in
theorem dk225 : (mCo 225).all (chkD 225) = true := by decide +kernel
set_option maxRecDepth 100000 in
theorem dk226 : (mCo 226).all (chkD 226) = true := by decide +kernel
set_option maxRecDepth 100000 in
theorem dk227 : (mCo 227).all (chkD 227) = true := by decide +kernel
set_option maxRecDepth 100000 in
theorem dk228 : (mCo 228).all (chkD 228) = true := by decide +kernel
set_option maxRecDepth 100000 in
theorem dk229 : (mCo 229).all (chkD 229) = true := by decide +kernel
set_option maxRecDepth 100000 in
theorem dk230 : (mCo 230).all (chkD 230) = true := by decide +kernel
set_option maxRecDepth 100000 in
theorem dk231 : (mCo 231).all (chkD 231) = true := by decide +kernel
set_option maxRecDepth 100000 in
theorem dk232 : (mCo 232).all (chkD 232) = true := by decide +kernel
set_option maxRecDepth 100000 in
theorem dk233 : (mCo 233).all (chkD 233) = true := by decide +kernel
set_option maxRecDepth 100000 in
theorem dk234 : (mCo 234).all (chkD 234) = true := by decide +kernel
set_option maxRecDepth 100000 in
theorem dk235 : (mCo 235).all (chkD 235) = true := by decide +kernel
set_option maxRecDepth 100000 in
theorem dk236 : (mCo 236).all (chkD 236) = true := by decide +kernel
set_option maxRecDepth 100000 in
theorem dk237 : (mCo 237).all (chkD 237) = true := by decide +kernel
set_option maxRecDepth 100000 in
theorem dk238 : (mCo 238).all (chkD 238) = true := by decide +kernel
theorem dk_ok : ∀ y, y < 239 → (mCo y).all (chkD y) = true
  | 0, _ => dk0
  | 1, _ => dk1
  | 2, _ => dk2
  | 3, _ => dk3
  | 4, _ => dk4
  | 5, _ => dk5
  | 6, _ => dk6
  | 7, _ => dk7
  | 8, _ => dk8
  | 9, _ => dk9
  | 10, _ => dk10
  | 11, _ => dk11
  | 12, _ => dk12
  | 13, _ => dk13
  | 14, _ => dk14
  | 15, _ => dk15
  | 16, _ => dk16
  | 17, _ => dk17
  | 18, _ => dk18
  | 19, _ => dk19
  | 20, _ => dk20
  | 21, _ => dk21
  | 22, _ => dk22
  | 23, _ => dk23
  | 24, _ => dk24
  | 25, _ => dk25
  | 26, _ => dk26
  | 27, _ => dk27
  | 28, _ => dk28
  | 29, _ => dk29
  | 30, _ => dk30
  | 31, _ => dk31
  | 32, _ => dk32
  | 33, _ => dk33
  | 34, _ => dk34
  | 35, _ => dk35
  | 36, _ => dk36
  | 37, _ => dk37
  | 38, _ => dk38
  | 39, _ => dk39
  | 40, _ => dk40
  | 41, _ => dk41
  | 42, _ => dk42
  | 43, _ => dk43
  | 44, _ => dk44
  | 45, _ => dk45
  | 46, _ => dk46
  | 47, _ => dk47
  | 48, _ => dk48
  | 49, _ => dk49
  | 50, _ => dk50
  | 51, _ => dk51
  | 52, _ => dk52
  | 53, _ => dk53
  | 54, _ => dk54
  | 55, _ => dk55
  | 56, _ => dk56
  | 57, _ => dk57
  | 58, _ => dk58
  | 59, _ => dk59
  | 60, _ => dk60
  | 61, _ => dk61
  | 62, _ => dk62
  | 63, _ => dk63
  | 64, _ => dk64
  | 65, _ => dk65
  | 66, _ => dk66
  | 67, _ => dk67
  | 68, _ => dk68
  | 69, _ => dk69
  | 70, _ => dk70
  | 71, _ => dk71
  | 72, _ => dk72
  | 73, _ => dk73
  | 74, _ => dk74
  | 75, _ => dk75
  | 76, _ => dk76
  | 77, _ => dk77
  | 78, _ => dk78
  | 79, _ => dk79
  | 80, _ => dk80
  | 81, _ => dk81
  | 82, _ => dk82
  | 83, _ => dk83
  | 84, _ => dk84
  | 85, _ => dk85
  | 86, _ => dk86
  | 87, _ => dk87
  | 88, _ => dk88
  | 89, _ => dk89
  | 90, _ => dk90
  | 91, _ => dk91
  | 92, _ => dk92
  | 93, _ => dk93
  | 94, _ => dk94
  | 95, _ => dk95
  | 96, _ => dk96
  | 97, _ => dk97
  | 98, _ => dk98
  | 99, _ => dk99
  | 100, _ => dk100
  | 101, _ => dk101
  | 102, _ => dk102
  | 103, _ => dk103
  | 104, _ => dk104
  | 105, _ => dk105
  | 106, _ => dk106
  | 107, _ => dk107
  | 108, _ => dk108
  | 109, _ => dk109
  | 110, _ => dk110
  | 111, _ => dk111
  | 112, _ => dk112
  | 113, _ => dk113
  | 114, _ => dk114
  | 115, _ => dk115
  | 116, _ => dk116
  | 117, _ => dk117
  | 118, _ => dk118
  | 119, _ => dk119
  | 120, _ => dk120
  | 121, _ => dk121
  | 122, _ => dk122
  | 123, _ => dk123
  | 124, _ => dk124
  | 125, _ => dk125
  | 126, _ => dk126
  | 127, _ => dk127
  | 128, _ => dk128
  | 129, _ => dk129
  | 130, _ => dk130
  | 131, _ => dk131
  | 132, _ => dk132
  | 133, _ => dk133
  | 134, _ => dk134
  | 135, _ => dk135
  | 136, _ => dk136
  | 137, _ => dk137
  | 138, _ => dk138
  | 139, _ => dk139
  | 140, _ => dk140
  | 141, _ => dk141
  | 142, _ => dk142
  | 143, _ => dk143
  | 144, _ => dk144
  | 145, _ => dk145
  | 146, _ => dk146
  | 147, _ => dk147
  | 148, _ => dk148
  | 149, _ => dk149
  | 150, _ => dk150
  | 151, _ => dk151
  | 152, _ => dk152
  | 153, _ => dk153
  | 154, _ => dk154
  | 155, _ => dk155
  | 156, _ => dk156
  | 157, _ => dk157
  | 158, _ => dk158
  | 159, _ => dk159
  | 160, _ => dk160
  | 161, _ => dk161
  | 162, _ => dk162
  | 163, _ => dk163
  | 164, _ => dk164
  | 165, _ => dk165
  | 166, _ => dk166
  | 167, _ => dk167
  | 168, _ => dk168
  | 169, _ => dk169
  | 170, _ => dk170
  | 171, _ => dk171
  | 172, _ => dk172
  | 173, _ => dk173
  | 174, _ => dk174
  | 175, _ => dk175
  | 176, _ => dk176
  | 177, _ => dk177
  | 178, _ => dk178
  | 179, _ => dk179
  | 180, _ => dk180
  | 181, _ => dk181
  | 182, _ => dk182
  | 183, _ => dk183
  | 184, _ => dk184
  | 185, _ => dk185
  | 186, _ => dk186
  | 187, _ => dk187
  | 188, _ => dk188
  | 189, _ => dk189
  | 190, _ => dk190
  | 191, _ => dk191
  | 192, _ => dk192
  | 193, _ => dk193
  | 194, _ => dk194
  | 195, _ => dk195
  | 196, _ => dk196
  | 197, _ => dk197
  | 198, _ => dk198
  | 199, _ => dk199
  | 200, _ => dk200
  | 201, _ => dk201
  | 202, _ => dk202
  | 203, _ => dk203
  | 204, _ => dk204
  | 205, _ => dk205
  | 206, _ => dk206
  | 207, _ => dk207
  | 208, _ => dk208
  | 209, _ => dk209
  | 210, _ => dk210
  | 211, _ => dk211
  | 212, _ => dk212
  | 213, _ => dk213
  | 214, _ => dk214
  | 215, _ => dk215
  | 216, _ => dk216
  | 217, _ => dk217
  | 218, _ => dk218
  | 219, _ => dk219
  | 220, _ => dk220
  | 221, _ => dk221
  | 222, _ => dk222
  | 223, _ => dk223
  | 224, _ => dk224
  | 225, _ => dk225
  | 226, _ => dk226
  | 227, _ => dk227
  | 228, _ => dk228
  | 229, _ => dk229
  | 230, _ => dk230
  | 231, _ => dk231
  | 232, _ => dk232
  | 233, _ => dk233
  | 234, _ => dk234
  | 235, _ => dk235
  | 236, _ => dk236
  | 237, _ => dk237
  | 238, _ => dk238
  | n + 239, h => absurd h (by omega)
end
section
/-! ONE STEP as a predicate transformer, all steps, calls -/
def dr (o : Option Nat) (K : Nat → Prop) : Prop := match o with
  | some a => K a
  | none => False
theorem dr_of {o : Option Nat} {a : Nat} {K : Nat → Prop} (h : o = some a) (k : K a) : dr o K := by rw [h]; exact k
theorem dr_ex {o : Option Nat} {K : Nat → Prop} (h : dr o K) : ∃ a, o = some a ∧ K a := by
  cases o with
  | none => exact h.elim
  | some a => exact ⟨a, rfl, h⟩
/-- the regions agree -/
def rg (t1 t2 : Nat) (A : Prop) : Prop := match Nat.beq t1 t2 with
  | true => A
  | false => False
theorem rg_ex {t1 t2 : Nat} {A : Prop} (h : rg t1 t2 A) : t1 = t2 ∧ A := by
  unfold rg at h
  cases hb : Nat.beq t1 t2 with
  | true => rw [hb] at h; exact ⟨Nat.eq_of_beq_eq_true hb, h⟩
  | false => rw [hb] at h; exact h.elim
/-- what a field holds -/
def gf (h : Hp) (t a k : Nat) : AV := match fk t k with
  | 0 => .inl (jI h t a k)
  | 1 => .inr (.inl (jL h t a k))
  | 2 => .inl (jI h t a k)
  | 3 => .inl 0
  | 4 => .inl 0
  | n + 5 => .inr (.inr (n, jR h t a k))
/-- String's own fields: value, coder -/
def gfs (a k : Nat) : AV := match k with
  | 0 => .inr (.inr (41, some a))
  | _ => .inl 0
def gfa (h : Hp) (t a k : Nat) : AV := match Nat.beq t 40 with
  | true => gfs a k
  | false => gf h t a k
/-- a value is put into a field -/
def pf (h : Hp) (t a k : Nat) (v : AV) (K : Hp → Prop) : Prop := match fk t k, v with
  | 0, .inl x => K (wI h t a k x)
  | 1, .inr (.inl x) => K (wL h t a k x)
  | 2, .inl x => (x = 0 ∨ x = 1) ∧ K (wI h t a k x)
  | n + 5, .inr (.inr (t', o)) => match Nat.beq n t', o with
    | true, o => K (wR h t a k o)
    | false, none => K (wR h t a k none)
    | false, some _ => False
  | _, _ => False
def romI (a : Nat) : List Int32 := match a with
  | 0 => [-1, 0, 0, 2, 2, 2, 2, 1, 1, 1, 1, 1, 1, 1, 1, 1, 3, 3, 3, 4, 4, 5, 5, 5, 6, 6, 6, 6, 6, 6, 6]
  | 1 => [0, -20, 20, -20, 20, 0, -20, 20, -20, 20, -20, 20, -20, 20, 0, -24, 0, 24, -14, 14, 0]
  | _ => [0, 0, 0, -30, -30, 20, -30, -30, 20, 20, -30, -30, 20, 20, -5, -30, -30, -30, 0, 0, 30]
def romB (a : Nat) : List Int32 := txbL.getD a []
/-- loads of ints out of rows: region 21 ints, 22 bytes, 23 chars, 24 booleans, 41 a String's bytes, 42 constant ints -/
def lda (h : Hp) (t a : Nat) (i : Int32) (K : AV → Prop) : Prop := match t with
  | 21 => vp_in i (jLen h 21 a) ∧ K (.inl (jI h 21 a (ix i)))
  | 22 => vp_in i (jLen h 22 a) ∧ K (.inl (jI h 22 a (ix i)))
  | 23 => vp_in i (jLen h 23 a) ∧ K (.inl (jI h 23 a (ix i)))
  | 24 => vp_in i (jLen h 24 a) ∧ K (.inl (jI h 24 a (ix i)))
  | 41 => vp_in i (romB a).length ∧ K (.inl ((romB a).getD (ix i) 0))
  | 42 => vp_in i (romI a).length ∧ K (.inl ((romI a).getD (ix i) 0))
  | _ => False
def sta (h : Hp) (t a : Nat) (i x : Int32) (K : Hp → Prop) : Prop := match t with
  | 21 => vp_in i (jLen h 21 a) ∧ K (wI h 21 a (ix i) x)
  | 22 => vp_in i (jLen h 22 a) ∧ K (wI h 22 a (ix i) (vp_nar .byte x))
  | 23 => vp_in i (jLen h 23 a) ∧ K (wI h 23 a (ix i) (vp_nar .char x))
  | 24 => vp_in i (jLen h 24 a) ∧ K (wI h 24 a (ix i) (vp_nar .boolean x))
  | _ => False
def alen (h : Hp) (t a : Nat) : Option Nat := match t with
  | 41 => some (romB a).length
  | 42 => some (romI a).length
  | t => match Nat.blt 20 t, Nat.blt t 25 with
    | true, true => some (jLen h t a)
    | _, _ => none
/-- which load or store goes with which region -/
def okA (i : Instr) (t : Nat) : Bool := match i with
  | .iaload => Nat.beq t 21 || Nat.beq t 42
  | .baload => Nat.beq t 22 || Nat.beq t 24 || Nat.beq t 41
  | .caload => Nat.beq t 23
  | .iastore => Nat.beq t 21
  | .bastore => Nat.beq t 22 || Nat.beq t 24
  | .castore => Nat.beq t 23
  | _ => false
def if' (b : Bool) (A : Prop) : Prop := match b with
  | true => A
  | false => False
def ald (i : Instr) (h : Hp) (st : List AV) (K : List AV → Prop) : Prop := match st with
  | .inl j :: .inr (.inr (t, o)) :: r => if' (okA i t) (dr o fun a => lda h t a j fun v => K (v :: r))
  | _ => False
def ast (i : Instr) (h : Hp) (st : List AV) (K : List AV → Hp → Prop) : Prop := match st with
  | .inl x :: .inl j :: .inr (.inr (t, o)) :: r => if' (okA i t) (dr o fun a => sta h t a j x fun h' => K r h')
  | _ => False
def wt : List AV → Nat
  | [] => 0
  | .inr (.inl _) :: r => wt r + 2
  | _ :: r => wt r + 1
def cons? (v : Option AV) (st : List AV) : List AV := match v with
  | some v => v :: st
  | none => st
def atyp (a : ArrayType) : Nat := match a with
  | .int => 21
  | .byte => 22
  | .char => 23
  | .boolean => 24
  | _ => 0
/-- a table of jumps, as pairs -/
def prs : Int → List Int → List (Int × Int)
  | _, [] => []
  | lo, o :: os => (lo, o) :: prs (lo + 1) os
def swl (x : Int32) (pc : Nat) (P : Nat → Prop) (d : Int) : List (Int × Int) → Prop
  | [] => match jto pc d with
    | some t => P t
    | none => False
  | (k, o) :: os => (x = Int32.ofInt k → match jto pc o with
    | some t => P t
    | none => False) ∧ (¬ x = Int32.ofInt k → swl x pc P d os)
def ab1 (x : Int32) : Int32 := if 0 ≤ x then x else 0 - x
def mn2 (x y : Int32) : Int32 := if y < x then y else x
def mx2 (x y : Int32) : Int32 := if x < y then y else x
abbrev CT : Type := Nat → List AV → Hp → (Option AV → Hp → Prop) → Prop
/-- the steps that look at the heap, call, answer -/
def FH (C : CT) (y : Nat) (Q : Option AV → Hp → Prop) (P : Nat → List AV → List AV → Hp → Prop) (pc : Nat) (ls st : List AV) (h : Hp) (i : Instr) : Prop := match i with
  | .idiv => match st with
    | .inl b :: .inl a :: r => ¬ b = 0 ∧ P (pc + 1) ls (.inl (a / b) :: r) h
    | _ => False
  | .irem => match st with
    | .inl b :: .inl a :: r => ¬ b = 0 ∧ P (pc + 1) ls (.inl (a - a / b * b) :: r) h
    | _ => False
  | .tableswitch d lo hi os => match st with
    | .inl x :: r => swl x pc (fun t => P t ls r h) d (prs lo os.toList)
    | _ => False
  | .lookupswitch d os => match st with
    | .inl x :: r => swl x pc (fun t => P t ls r h) d os.toList
    | _ => False
  | .getfield idx => match fld (mOw y) idx, st with
    | some (ci, k, _), .inr (.inr (t, o)) :: r => rg t ci (dr o fun a => P (pc + 3) ls (gfa h ci a k :: r) h)
    | _, _ => False
  | .putfield idx => match fld (mOw y) idx, st with
    | some (ci, k, _), v :: .inr (.inr (t, o)) :: r => rg t ci (dr o fun a => pf h ci a k v fun h' => P (pc + 3) ls r h')
    | _, _ => False
  | .iaload => ald .iaload h st fun st' => P (pc + 1) ls st' h
  | .baload => ald .baload h st fun st' => P (pc + 1) ls st' h
  | .caload => ald .caload h st fun st' => P (pc + 1) ls st' h
  | .iastore => ast .iastore h st fun st' h' => P (pc + 1) ls st' h'
  | .bastore => ast .bastore h st fun st' h' => P (pc + 1) ls st' h'
  | .castore => ast .castore h st fun st' h' => P (pc + 1) ls st' h'
  | .aaload => match st with
    | .inl j :: .inr (.inr (t, o)) :: r => if' (Nat.ble 30 t && Nat.blt t 40) (dr o fun a => vp_in j (jLen h t a) ∧ P (pc + 1) ls (.inr (.inr (t - 30, jR h t a (ix j))) :: r) h)
    | _ => False
  | .aastore => match st with
    | .inr (.inr (t', o')) :: .inl j :: .inr (.inr (t, o)) :: r => if' (Nat.ble 30 t && Nat.blt t 40 && Nat.beq t' (t - 30)) (dr o fun a => vp_in j (jLen h t a) ∧ P (pc + 1) ls r (wR h t a (ix j) o'))
    | _ => False
  | .arraylength => match st with
    | .inr (.inr (t, o)) :: r => dr o fun a => match alen h t a with
      | some n => P (pc + 1) ls (.inl (Int32.ofNat n) :: r) h
      | none => False
    | _ => False
  | .newarray a => match st with
    | .inl n :: r => if' (Nat.blt 0 (atyp a)) (¬ n < 0 ∧ ix n ≤ 100000 ∧ P (pc + 2) ls (.inr (.inr (atyp a, some (jN h (atyp a)))) :: r) (mk h (atyp a) (ix n) (ix n)))
    | _ => False
  | .anewarray idx => match clk (mOw y) idx, st with
    | some e, .inl n :: r => if' (Nat.beq e 1 || Nat.beq e 3 || Nat.beq e 5 || Nat.beq e 7) (¬ n < 0 ∧ ix n ≤ 100000 ∧ P (pc + 3) ls (.inr (.inr (30 + e, some (jN h (30 + e)))) :: r) (mk h (30 + e) (ix n) (ix n)))
    | _, _ => False
  | .new idx => match clk (mOw y) idx with
    | some t => if' (Nat.blt t 12) (P (pc + 3) ls (.inr (.inr (t, some (jN h t))) :: st) (mk h t 0 (nfl t)))
    | none => False
  | .invokestatic idx => match mth (mOw y) idx with
    | some (9998, _) => match st with
      | .inl n :: .inl j :: r => if' (Nat.ble (wt r) 8) ((¬ j < 0 ∧ j < n) ∧ P (pc + 3) ls r h)
      | _ => False
    | some (9997, _) => match st with
      | .inl b :: .inl a :: r => if' (Nat.ble (wt r) 8) (P (pc + 3) ls (.inl (mn2 a b) :: r) h)
      | _ => False
    | some (9996, _) => match st with
      | .inl b :: .inl a :: r => if' (Nat.ble (wt r) 8) (P (pc + 3) ls (.inl (mx2 a b) :: r) h)
      | _ => False
    | some (9995, _) => match st with
      | .inl a :: r => if' (Nat.ble (wt r) 8) (P (pc + 3) ls (.inl (ab1 a) :: r) h)
      | _ => False
    | some (y', _) => if' (Nat.blt y' 239 && Nat.beq (mKi y') 0 && Nat.ble (mPa y') st.length && Nat.ble (wt (st.drop (mPa y'))) 8 && Nat.ble (wt (st.take (mPa y'))) (mLo y')) (C y' (st.take (mPa y')).reverse h fun v h' => P (pc + 3) ls (cons? v (st.drop (mPa y'))) h')
    | none => False
  | .invokevirtual idx => match mth (mOw y) idx with
    | some (y', ns) => match st.drop (mPa y') with
      | .inr (.inr (t, o)) :: r => if' (Nat.blt y' 239 && Nat.beq (mKi y') 1 && Nat.beq ns 0 && Nat.ble (wt r) 8 && Nat.ble (1 + wt (st.take (mPa y'))) (mLo y')) (rg t (mOw y') (dr o fun a => C y' (.inr (.inr (t, some a)) :: (st.take (mPa y')).reverse) h fun v h' => P (pc + 3) ls (cons? v r) h'))
      | _ => False
    | none => False
  | .invokespecial idx => match mth (mOw y) idx with
    | some (9999, _) => match st with
      | .inr (.inr (_, o)) :: r => if' (Nat.ble (wt r) 8) (dr o fun _ => P (pc + 3) ls r h)
      | _ => False
    | some (y', _) => match st.drop (mPa y') with
      | .inr (.inr (t, o)) :: r => if' (Nat.blt y' 239 && Nat.beq (mKi y') 2 && Nat.ble (wt r) 8 && Nat.ble (1 + wt (st.take (mPa y'))) (mLo y')) (rg t (mOw y') (dr o fun a => C y' (.inr (.inr (t, some a)) :: (st.take (mPa y')).reverse) h fun v h' => P (pc + 3) ls (cons? v r) h'))
      | _ => False
    | none => False
  | .ireturn => match st with
    | [.inl x] => match mRc y with
      | 1 => Q (some (.inl x)) h
      | 2 => dr2 (mRt y) (fun ty => narrow ty (.int x) = .int x) ∧ Q (some (.inl x)) h
      | _ => False
    | _ => False
  | .lreturn => match st with
    | [.inr (.inl x)] => match mRc y with
      | 3 => Q (some (.inr (.inl x))) h
      | _ => False
    | _ => False
  | .areturn => match st with
    | [.inr (.inr (t, o))] => match mRc y with
      | n + 5 => match Nat.beq t n, o with
        | true, o => Q (some (.inr (.inr (n, o)))) h
        | false, none => Q (some (.inr (.inr (n, none)))) h
        | false, some _ => False
      | _ => False
    | _ => False
  | .return_ => match st with
    | [] => match mRc y with
      | 0 => Q none h
      | _ => False
    | _ => False
  | _ => False
where dr2 {α : Type} (o : Option α) (K : α → Prop) : Prop := match o with
  | some a => K a
  | none => False
def FI (C : CT) (y : Nat) (Q : Option AV → Hp → Prop) (P : Nat → List AV → List AV → Hp → Prop) (pc : Nat) (ls st : List AV) (h : Hp) (i : Instr) : Prop := match step1 (mOw y) i pc ls st with
  | some q => P q.1 q.2.1 q.2.2 h
  | none => match br1 i pc st with
    | some q => (q.1 → P q.2.1 ls q.2.2 h) ∧ (¬ q.1 → P (pc + 3) ls q.2.2 h)
    | none => FH C y Q P pc ls st h i
def FS (C : CT) (y : Nat) (Q : Option AV → Hp → Prop) (P : Nat → List AV → List AV → Hp → Prop) (pc : Nat) (ls st : List AV) (h : Hp) : Prop := match lk (mCo y) pc with
  | some i => FI C y Q P pc ls st h i
  | none => False
def Wp (C : CT) (y : Nat) (Q : Option AV → Hp → Prop) (pc : Nat) (ls st : List AV) (h : Hp) : Prop := ∀ P : Nat → List AV → List AV → Hp → Prop, (∀ pc ls st h, FS C y Q P pc ls st h → P pc ls st h) → P pc ls st h
def entL : List AV → List AV
  | [] => []
  | .inr (.inl x) :: r => .inr (.inl x) :: un :: entL r
  | v :: r => v :: entL r
def entLs (as : List AV) (n : Nat) : List AV := entL as ++ List.replicate (n - (entL as).length) un
def Call : Nat → CT
  | 0, _, _, _, _ => False
  | d + 1, y, as, h, Q => Wp (Call d) y Q 0 (entLs as (mLo y)) [] h
end
section
/-! the step is monotone; calls answer one thing -/
theorem dr_mono {o : Option Nat} {K K' : Nat → Prop} (h : ∀ a, K a → K' a) (hh : dr o K) : dr o K' := by
  cases o with
  | none => exact hh
  | some a => exact h a hh
theorem rg_mono {t1 t2 : Nat} {A A' : Prop} (h : A → A') (hh : rg t1 t2 A) : rg t1 t2 A' := by
  unfold rg at hh ⊢
  cases hb : Nat.beq t1 t2 with
  | true => rw [hb] at hh; exact h hh
  | false => rw [hb] at hh; exact hh
theorem if_mono {b : Bool} {A A' : Prop} (h : A → A') (hh : if' b A) : if' b A' := by
  cases b with
  | true => exact h hh
  | false => exact hh
theorem if_ex {b : Bool} {A : Prop} (hh : if' b A) : b = true ∧ A := by
  cases b with
  | true => exact ⟨rfl, hh⟩
  | false => exact hh.elim
theorem lda_ex {h : Hp} {t a : Nat} {i : Int32} {K : AV → Prop} (hh : lda h t a i K) : ∃ v, K v ∧ ∀ K', K' v → lda h t a i K' := by
  unfold lda at hh
  split at hh
  · exact ⟨_, hh.2, fun K' k => ⟨hh.1, k⟩⟩
  · exact ⟨_, hh.2, fun K' k => ⟨hh.1, k⟩⟩
  · exact ⟨_, hh.2, fun K' k => ⟨hh.1, k⟩⟩
  · exact ⟨_, hh.2, fun K' k => ⟨hh.1, k⟩⟩
  · exact ⟨_, hh.2, fun K' k => ⟨hh.1, k⟩⟩
  · exact ⟨_, hh.2, fun K' k => ⟨hh.1, k⟩⟩
  · exact hh.elim
theorem sta_ex {h : Hp} {t a : Nat} {i x : Int32} {K : Hp → Prop} (hh : sta h t a i x K) : ∃ v, K (wI h t a (ix i) v) ∧ ∀ K' : Hp → Prop, K' (wI h t a (ix i) v) → sta h t a i x K' := by
  unfold sta at hh
  split at hh
  · exact ⟨_, hh.2, fun K' k => ⟨hh.1, k⟩⟩
  · exact ⟨_, hh.2, fun K' k => ⟨hh.1, k⟩⟩
  · exact ⟨_, hh.2, fun K' k => ⟨hh.1, k⟩⟩
  · exact ⟨_, hh.2, fun K' k => ⟨hh.1, k⟩⟩
  · exact hh.elim
theorem ald_ex {i : Instr} {h : Hp} {st : List AV} {K : List AV → Prop} (hh : ald i h st K) : ∃ s', K s' ∧ ∀ K' : List AV → Prop, K' s' → ald i h st K' := by
  unfold ald at hh
  split at hh
  · rename_i j t o r
    obtain ⟨hb, hd⟩ := if_ex hh
    obtain ⟨a, rfl, hl⟩ := dr_ex hd
    obtain ⟨v, hv, hk⟩ := lda_ex hl
    refine ⟨v :: r, hv, fun K' k => ?_⟩
    show if' (okA i t) (lda h t a j fun v => K' (v :: r))
    rw [hb]
    exact hk (fun v => K' (v :: r)) k
  · exact hh.elim
theorem ast_ex {i : Instr} {h : Hp} {st : List AV} {K : List AV → Hp → Prop} (hh : ast i h st K) : ∃ s' t a k v, K s' (wI h t a k v) ∧ ∀ K' : List AV → Hp → Prop, K' s' (wI h t a k v) → ast i h st K' := by
  unfold ast at hh
  split at hh
  · rename_i x j t o r
    obtain ⟨hb, hd⟩ := if_ex hh
    obtain ⟨a, rfl, hl⟩ := dr_ex hd
    obtain ⟨v, hv, hk⟩ := sta_ex hl
    refine ⟨r, t, a, ix j, v, hv, fun K' k => ?_⟩
    show if' (okA i t) (sta h t a j x fun h' => K' r h')
    rw [hb]
    exact hk (fun h' => K' r h') k
  · exact hh.elim
/-- the heap h' is h with more in it -/
def hle (h h' : Hp) : Prop := (∀ t, jN h t ≤ jN h' t) ∧ jC h ≤ jC h' ∧ jZ h ≤ jZ h'
theorem hle.rf (h : Hp) : hle h h := ⟨fun _ => Nat.le_refl _, Nat.le_refl _, Nat.le_refl _⟩
theorem hle.tr {a b c : Hp} (h : hle a b) (k : hle b c) : hle a c := ⟨fun t => Nat.le_trans (h.1 t) (k.1 t), Nat.le_trans h.2.1 k.2.1, Nat.le_trans h.2.2 k.2.2⟩
theorem hle.wI (h : Hp) (t a k : Nat) (v : Int32) : hle h (wI h t a k v) := ⟨fun _ => Nat.le_refl _, Nat.le_refl _, Nat.le_refl _⟩
theorem hle.wL (h : Hp) (t a k : Nat) (v : Int64) : hle h (wL h t a k v) := ⟨fun _ => Nat.le_refl _, Nat.le_refl _, Nat.le_refl _⟩
theorem hle.wR (h : Hp) (t a k : Nat) (v : Option Nat) : hle h (wR h t a k v) := ⟨fun _ => Nat.le_refl _, Nat.le_refl _, Nat.le_refl _⟩
theorem hle.mk (h : Hp) (t n sl : Nat) : hle h (mk h t n sl) := by
  refine ⟨fun t' => ?_, Nat.le_succ _, Nat.le_add_right _ _⟩
  show jN h t' ≤ if t' = t then jN h t + 1 else jN h t'
  by_cases e : t' = t
  · rw [if_pos e, e]; exact Nat.le_succ _
  · rw [if_neg e]; exact Nat.le_refl _
theorem pf_ex {h : Hp} {t a k : Nat} {v : AV} {K : Hp → Prop} (hh : pf h t a k v K) : ∃ h', hle h h' ∧ K h' ∧ ∀ K' : Hp → Prop, K' h' → pf h t a k v K' := by
  unfold pf at hh ⊢
  split at hh
  · exact ⟨_, hle.wI h t a k _, hh, fun K' k => k⟩
  · exact ⟨_, hle.wL h t a k _, hh, fun K' k => k⟩
  · exact ⟨_, hle.wI h t a k _, hh.2, fun K' k => ⟨hh.1, k⟩⟩
  · split at hh
    · exact ⟨_, hle.wR h t a k _, hh, fun K' k => k⟩
    · exact ⟨_, hle.wR h t a k _, hh, fun K' k => k⟩
    · exact hh.elim
  · exact hh.elim
theorem swl_ex {x : Int32} {pc : Nat} {d : Int} {P : Nat → Prop} : ∀ (os : List (Int × Int)), swl x pc P d os → ∃ t, P t ∧ ∀ P' : Nat → Prop, P' t → swl x pc P' d os
  | [], hh => by
    unfold swl at hh ⊢
    cases hj : jto pc d with
    | none => rw [hj] at hh; exact hh.elim
    | some t => rw [hj] at hh; exact ⟨t, hh, fun P' p => p⟩
  | (k, o) :: os, hh => by
    by_cases e : x = Int32.ofInt k
    · have h1 := hh.1 e
      cases hj : jto pc o with
      | none => rw [hj] at h1; exact h1.elim
      | some t =>
        rw [hj] at h1
        refine ⟨t, h1, fun P' p => ⟨fun _ => ?_, fun n => absurd e n⟩⟩
        rw [hj]
        exact p
    · obtain ⟨t, h1, h2⟩ := swl_ex os (hh.2 e)
      exact ⟨t, h1, fun P' p => ⟨fun n => absurd n e, fun _ => h2 P' p⟩⟩
/-- what a step is: it goes on, it answers, it calls -/
def Nx (C : CT) (y : Nat) (Q : Option AV → Hp → Prop) (P : Nat → List AV → List AV → Hp → Prop) (ls : List AV) (pc : Nat) (h : Hp) (G : CT → (Option AV → Hp → Prop) → (Nat → List AV → List AV → Hp → Prop) → Prop) : Prop :=
  (∃ pc' ls' st' h', hle h h' ∧ P pc' ls' st' h' ∧ ∀ C' Q' P', P' pc' ls' st' h' → G C' Q' P') ∨ (∃ v, Q v h ∧ ∀ C' Q' P', Q' v h → G C' Q' P') ∨
  (∃ y' as r, C y' as h (fun v h' => P (pc + 3) ls (cons? v r) h') ∧ ∀ (C' : CT) Q' P', C' y' as h (fun v h' => P' (pc + 3) ls (cons? v r) h') → G C' Q' P')
theorem Nx.go {C : CT} {y : Nat} {Q : Option AV → Hp → Prop} {P : Nat → List AV → List AV → Hp → Prop} {ls : List AV} {pc : Nat} {h : Hp} {G : CT → (Option AV → Hp → Prop) → (Nat → List AV → List AV → Hp → Prop) → Prop} (pc' : Nat) (ls' st' : List AV) (h' : Hp) (a : hle h h') (b : P pc' ls' st' h') (c : ∀ C' Q' P', P' pc' ls' st' h' → G C' Q' P') : Nx C y Q P ls pc h G := Or.inl ⟨pc', ls', st', h', a, b, c⟩
theorem Nx.re {C : CT} {y : Nat} {Q : Option AV → Hp → Prop} {P : Nat → List AV → List AV → Hp → Prop} {ls : List AV} {pc : Nat} {h : Hp} {G : CT → (Option AV → Hp → Prop) → (Nat → List AV → List AV → Hp → Prop) → Prop} (v : Option AV) (b : Q v h) (c : ∀ C' Q' P', Q' v h → G C' Q' P') : Nx C y Q P ls pc h G := Or.inr (Or.inl ⟨v, b, c⟩)
theorem Nx.ca {C : CT} {y : Nat} {Q : Option AV → Hp → Prop} {P : Nat → List AV → List AV → Hp → Prop} {ls : List AV} {pc : Nat} {h : Hp} {G : CT → (Option AV → Hp → Prop) → (Nat → List AV → List AV → Hp → Prop) → Prop} (y' : Nat) (as r : List AV) (b : C y' as h (fun v h' => P (pc + 3) ls (cons? v r) h')) (c : ∀ (C' : CT) Q' P', C' y' as h (fun v h' => P' (pc + 3) ls (cons? v r) h') → G C' Q' P') : Nx C y Q P ls pc h G := Or.inr (Or.inr ⟨y', as, r, b, c⟩)
set_option maxHeartbeats 4000000 in
theorem FH_ex {C : CT} {y : Nat} {Q : Option AV → Hp → Prop} {P : Nat → List AV → List AV → Hp → Prop} {pc : Nat} {ls st : List AV} {h : Hp} (i : Instr) (hh : FH C y Q P pc ls st h i) : Nx C y Q P ls pc h (fun C' Q' P' => FH C' y Q' P' pc ls st h i) := by
  cases i
  case idiv =>
    dsimp only [FH] at hh ⊢
    split at hh
    · exact Nx.go _ _ _ _ (hle.rf h) hh.2 (fun C' Q' P' p => ⟨hh.1, p⟩)
    · exact hh.elim
  case irem =>
    dsimp only [FH] at hh ⊢
    split at hh
    · exact Nx.go _ _ _ _ (hle.rf h) hh.2 (fun C' Q' P' p => ⟨hh.1, p⟩)
    · exact hh.elim
  case tableswitch d lo hi os =>
    dsimp only [FH] at hh ⊢
    split at hh
    · obtain ⟨t, h1, h2⟩ := swl_ex _ hh
      exact Nx.go t _ _ _ (hle.rf h) h1 (fun C' Q' P' p => h2 (fun t => P' t ls _ h) p)
    · exact hh.elim
  case lookupswitch d os =>
    dsimp only [FH] at hh ⊢
    split at hh
    · obtain ⟨t, h1, h2⟩ := swl_ex _ hh
      exact Nx.go t _ _ _ (hle.rf h) h1 (fun C' Q' P' p => h2 (fun t => P' t ls _ h) p)
    · exact hh.elim
  case getfield idx =>
    dsimp only [FH] at hh ⊢
    split at hh
    · obtain ⟨rfl, h1⟩ := rg_ex hh
      obtain ⟨a, rfl, h2⟩ := dr_ex h1
      refine Nx.go _ _ _ _ (hle.rf h) h2 (fun C' Q' P' p => ?_)
      simp only [rg, Nat.beq_refl, dr]
      exact p
    · exact hh.elim
  case putfield idx =>
    dsimp only [FH] at hh ⊢
    split at hh
    · obtain ⟨rfl, h1⟩ := rg_ex hh
      obtain ⟨a, rfl, h2⟩ := dr_ex h1
      obtain ⟨h', l1, h3, h4⟩ := pf_ex h2
      refine Nx.go _ _ _ _ l1 h3 (fun C' Q' P' p => ?_)
      simp only [rg, Nat.beq_refl, dr]
      exact h4 (fun h' => P' (pc + 3) ls _ h') p
    · exact hh.elim
  case iaload =>
    dsimp only [FH] at hh ⊢
    obtain ⟨s', h1, h2⟩ := ald_ex hh
    exact Nx.go _ _ _ _ (hle.rf h) h1 (fun C' Q' P' p => h2 (fun st' => P' (pc + 1) ls st' h) p)
  case baload =>
    dsimp only [FH] at hh ⊢
    obtain ⟨s', h1, h2⟩ := ald_ex hh
    exact Nx.go _ _ _ _ (hle.rf h) h1 (fun C' Q' P' p => h2 (fun st' => P' (pc + 1) ls st' h) p)
  case caload =>
    dsimp only [FH] at hh ⊢
    obtain ⟨s', h1, h2⟩ := ald_ex hh
    exact Nx.go _ _ _ _ (hle.rf h) h1 (fun C' Q' P' p => h2 (fun st' => P' (pc + 1) ls st' h) p)
  case iastore =>
    dsimp only [FH] at hh ⊢
    obtain ⟨s', t, a, k, v, h1, h2⟩ := ast_ex hh
    exact Nx.go _ _ _ _ (hle.wI h t a k v) h1 (fun C' Q' P' p => h2 (fun st' h' => P' (pc + 1) ls st' h') p)
  case bastore =>
    dsimp only [FH] at hh ⊢
    obtain ⟨s', t, a, k, v, h1, h2⟩ := ast_ex hh
    exact Nx.go _ _ _ _ (hle.wI h t a k v) h1 (fun C' Q' P' p => h2 (fun st' h' => P' (pc + 1) ls st' h') p)
  case castore =>
    dsimp only [FH] at hh ⊢
    obtain ⟨s', t, a, k, v, h1, h2⟩ := ast_ex hh
    exact Nx.go _ _ _ _ (hle.wI h t a k v) h1 (fun C' Q' P' p => h2 (fun st' h' => P' (pc + 1) ls st' h') p)
  case aaload =>
    dsimp only [FH] at hh ⊢
    split at hh
    · obtain ⟨hb, h1⟩ := if_ex hh
      obtain ⟨a, rfl, h2, h3⟩ := dr_ex h1
      refine Nx.go _ _ _ _ (hle.rf h) h3 (fun C' Q' P' p => ?_)
      try simp only [hb, if', dr]
      exact ⟨h2, p⟩
    · exact hh.elim
  case aastore =>
    dsimp only [FH] at hh ⊢
    split at hh
    · obtain ⟨hb, h1⟩ := if_ex hh
      obtain ⟨a, rfl, h2, h3⟩ := dr_ex h1
      refine Nx.go _ _ _ _ (hle.wR h _ _ _ _) h3 (fun C' Q' P' p => ?_)
      try simp only [hb, if', dr]
      exact ⟨h2, p⟩
    · exact hh.elim
  case arraylength =>
    dsimp only [FH] at hh ⊢
    split at hh
    · obtain ⟨a, rfl, h2⟩ := dr_ex hh
      split at h2
      · rename_i n hn
        refine Nx.go _ _ _ _ (hle.rf h) h2 (fun C' Q' P' p => ?_)
        simp only [dr, hn]
        exact p
      · exact h2.elim
    · exact hh.elim
  case newarray at' =>
    dsimp only [FH] at hh ⊢
    split at hh
    · obtain ⟨hb, h1, h2, h3⟩ := if_ex hh
      refine Nx.go _ _ _ _ (hle.mk h _ _ _) h3 (fun C' Q' P' p => ?_)
      try simp only [hb, if']
      exact ⟨h1, h2, p⟩
    · exact hh.elim
  case anewarray idx =>
    dsimp only [FH] at hh ⊢
    split at hh
    · obtain ⟨hb, h1, h2, h3⟩ := if_ex hh
      refine Nx.go _ _ _ _ (hle.mk h _ _ _) h3 (fun C' Q' P' p => ?_)
      try simp only [hb, if']
      exact ⟨h1, h2, p⟩
    · exact hh.elim
  case new idx =>
    dsimp only [FH] at hh ⊢
    split at hh
    · obtain ⟨hb, h1⟩ := if_ex hh
      refine Nx.go _ _ _ _ (hle.mk h _ _ _) h1 (fun C' Q' P' p => ?_)
      try simp only [hb, if']
      exact p
    · exact hh.elim
  case invokestatic idx =>
    dsimp only [FH] at hh ⊢
    split at hh
    · split at hh
      · obtain ⟨hb, h1, h2⟩ := if_ex hh
        refine Nx.go _ _ _ _ (hle.rf h) h2 (fun C' Q' P' p => ?_)
        try simp only [hb, if']
        exact ⟨h1, p⟩
      · exact hh.elim
    · split at hh
      · obtain ⟨hb, h1⟩ := if_ex hh
        refine Nx.go _ _ _ _ (hle.rf h) h1 (fun C' Q' P' p => ?_)
        try simp only [hb, if']
        exact p
      · exact hh.elim
    · split at hh
      · obtain ⟨hb, h1⟩ := if_ex hh
        refine Nx.go _ _ _ _ (hle.rf h) h1 (fun C' Q' P' p => ?_)
        try simp only [hb, if']
        exact p
      · exact hh.elim
    · split at hh
      · obtain ⟨hb, h1⟩ := if_ex hh
        refine Nx.go _ _ _ _ (hle.rf h) h1 (fun C' Q' P' p => ?_)
        try simp only [hb, if']
        exact p
      · exact hh.elim
    · obtain ⟨hb, h1⟩ := if_ex hh
      refine Nx.ca _ _ _ h1 (fun C' Q' P' p => ?_)
      try simp only [hb, if']
      exact p
    · exact hh.elim
  case invokevirtual idx =>
    dsimp only [FH] at hh ⊢
    split at hh
    · split at hh
      · obtain ⟨hb, h1⟩ := if_ex hh
        obtain ⟨rfl, h2⟩ := rg_ex h1
        obtain ⟨a, rfl, h3⟩ := dr_ex h2
        refine Nx.ca _ _ _ h3 (fun C' Q' P' p => ?_)
        try simp only [hb, if', rg, Nat.beq_refl, dr]
        exact p
      · exact hh.elim
    · exact hh.elim
  case invokespecial idx =>
    dsimp only [FH] at hh ⊢
    split at hh
    · split at hh
      · obtain ⟨hb, h1⟩ := if_ex hh
        obtain ⟨a, rfl, h3⟩ := dr_ex h1
        refine Nx.go _ _ _ _ (hle.rf h) h3 (fun C' Q' P' p => ?_)
        try simp only [hb, if', dr]
        exact p
      · exact hh.elim
    · split at hh
      · obtain ⟨hb, h1⟩ := if_ex hh
        obtain ⟨rfl, h2⟩ := rg_ex h1
        obtain ⟨a, rfl, h3⟩ := dr_ex h2
        refine Nx.ca _ _ _ h3 (fun C' Q' P' p => ?_)
        try simp only [hb, if', rg, Nat.beq_refl, dr]
        exact p
      · exact hh.elim
    · exact hh.elim
  case ireturn =>
    dsimp only [FH] at hh ⊢
    split at hh
    · split at hh
      · rename_i hc
        refine Nx.re _ hh (fun C' Q' P' p => ?_)
        exact p
      · rename_i hc
        refine Nx.re _ hh.2 (fun C' Q' P' p => ?_)
        try simp only [hc]
        exact ⟨hh.1, p⟩
      · exact hh.elim
    · exact hh.elim
  case lreturn =>
    dsimp only [FH] at hh ⊢
    split at hh
    · split at hh
      · rename_i hc
        refine Nx.re _ hh (fun C' Q' P' p => ?_)
        try simp only [hc]
        exact p
      · exact hh.elim
    · exact hh.elim
  case areturn =>
    dsimp only [FH] at hh ⊢
    split at hh
    · split at hh
      · rename_i hc
        split at hh
        · rename_i hd
          refine Nx.re _ hh (fun C' Q' P' p => ?_)
          try simp only [hc, hd]
          exact p
        · rename_i hd
          refine Nx.re _ hh (fun C' Q' P' p => ?_)
          try simp only [hc, hd]
          exact p
        · exact hh.elim
      · exact hh.elim
    · exact hh.elim
  case return_ =>
    dsimp only [FH] at hh ⊢
    split at hh
    · split at hh
      · rename_i hc
        refine Nx.re _ hh (fun C' Q' P' p => ?_)
        try simp only [hc]
        exact p
      · exact hh.elim
    · exact hh.elim
  all_goals exact (show False from hh).elim
theorem FS_ex {C : CT} {y : Nat} {Q : Option AV → Hp → Prop} {P : Nat → List AV → List AV → Hp → Prop} {pc : Nat} {ls st : List AV} {h : Hp} (hh : FS C y Q P pc ls st h) : Nx C y Q P ls pc h (fun C' Q' P' => FS C' y Q' P' pc ls st h) := by
  unfold FS at hh ⊢
  split at hh
  · rename_i i hi
    unfold FI at hh ⊢
    split at hh
    · rename_i q hq
      refine Nx.go _ _ _ _ (hle.rf h) hh (fun C' Q' P' p => ?_)
      try simp only [hq]
      exact p
    · rename_i hq
      split at hh
      · rename_i q hb
        by_cases e : q.1
        · refine Nx.go _ _ _ _ (hle.rf h) (hh.1 e) (fun C' Q' P' p => ?_)
          try simp only [hq, hb]
          exact ⟨fun _ => p, fun n => absurd e n⟩
        · refine Nx.go _ _ _ _ (hle.rf h) (hh.2 e) (fun C' Q' P' p => ?_)
          try simp only [hq, hb]
          exact ⟨fun n => absurd n e, fun _ => p⟩
      · rename_i hb
        rcases FH_ex i hh with ⟨a, b, c, d, l1, p, k⟩ | ⟨v, p, k⟩ | ⟨a, b, c, p, k⟩
        · refine Nx.go a b c d l1 p (fun C' Q' P' p => ?_)
          try simp only [hq, hb]
          exact k C' Q' P' p
        · refine Nx.re v p (fun C' Q' P' p => ?_)
          try simp only [hq, hb]
          exact k C' Q' P' p
        · refine Nx.ca a b c p (fun C' Q' P' p => ?_)
          try simp only [hq, hb]
          exact k C' Q' P' p
  · exact hh.elim
end
section
theorem FS_mono {C C' : CT} {y : Nat} {Q Q' : Option AV → Hp → Prop} {P P' : Nat → List AV → List AV → Hp → Prop} {pc : Nat} {ls st : List AV} {h : Hp} (hC : ∀ y as h R R', (∀ v h, R v h → R' v h) → C y as h R → C' y as h R') (hQ : ∀ v h, Q v h → Q' v h) (hP : ∀ pc ls st h, P pc ls st h → P' pc ls st h) (hh : FS C y Q P pc ls st h) : FS C' y Q' P' pc ls st h := by
  rcases FS_ex hh with ⟨a, b, c, d, l1, p, k⟩ | ⟨v, p, k⟩ | ⟨a, b, c, p, k⟩
  · exact k C' Q' P' (hP _ _ _ _ p)
  · exact k C' Q' P' (hQ _ _ p)
  · exact k C' Q' P' (hC _ _ _ _ _ (fun v h' q => hP _ _ _ _ q) p)
theorem Wp.mono {C C' : CT} {y : Nat} {Q Q' : Option AV → Hp → Prop} {pc : Nat} {ls st : List AV} {h : Hp} (hC : ∀ y as h R R', (∀ v h, R v h → R' v h) → C y as h R → C' y as h R') (hQ : ∀ v h, Q v h → Q' v h) (hh : Wp C y Q pc ls st h) : Wp C' y Q' pc ls st h :=
  fun P' hP' => hh P' (fun pc ls st h q => hP' pc ls st h (FS_mono hC hQ (fun _ _ _ _ z => z) q))
theorem Call_up : ∀ (d y : Nat) (as : List AV) (h : Hp) (R R' : Option AV → Hp → Prop), (∀ v h, R v h → R' v h) → Call d y as h R → Call (d + 1) y as h R'
  | 0, _, _, _, _, _, _, hh => hh.elim
  | d + 1, y, as, h, R, R', hR, hh => Wp.mono (C := Call d) (C' := Call (d + 1)) (fun y as h S S' hS q => Call_up d y as h S S' hS q) hR hh
theorem Call_mono {d : Nat} {y : Nat} {as : List AV} {h : Hp} {R R' : Option AV → Hp → Prop} (hR : ∀ v h, R v h → R' v h) (hh : Call d y as h R) : Call d y as h R' := by
  induction d generalizing y as h R R' with
  | zero => exact hh.elim
  | succ d ih => exact Wp.mono (C := Call d) (C' := Call d) (fun y as h S S' hS q => ih hS q) hR hh
theorem Call_le {d d' : Nat} {y : Nat} {as : List AV} {h : Hp} {R : Option AV → Hp → Prop} (hd : d ≤ d') (hh : Call d y as h R) : Call d' y as h R := by
  induction hd with
  | refl => exact hh
  | step _ ih => exact Call_up _ _ _ _ _ _ (fun _ _ q => q) ih
abbrev Cl (C : CT) (y : Nat) (Q : Option AV → Hp → Prop) (P : Nat → List AV → List AV → Hp → Prop) : Prop := ∀ pc ls st h, FS C y Q P pc ls st h → P pc ls st h
theorem Wp.step {d : Nat} {y : Nat} {Q : Option AV → Hp → Prop} {pc : Nat} {ls st : List AV} {h : Hp} (hh : FS (Call d) y Q (Wp (Call d) y Q) pc ls st h) : Wp (Call d) y Q pc ls st h :=
  fun P hP => hP _ _ _ _ (FS_mono (fun _ _ _ _ _ hS q => Call_mono hS q) (fun _ _ z => z) (fun _ _ _ _ w => w P hP) hh)
theorem Call_det : ∀ (d y : Nat) (as : List AV) (h : Hp) (Q : Option AV → Hp → Prop), Call d y as h Q → ∃ v h', hle h h' ∧ Q v h' ∧ Call d y as h (fun v0 h0 => v0 = v ∧ h0 = h')
  | 0, _, _, _, _, hh => hh.elim
  | d + 1, y, as, h, Q, hh => by
    refine hh (fun pc ls st h => ∃ v h', hle h h' ∧ Q v h' ∧ Wp (Call d) y (fun v0 h0 => v0 = v ∧ h0 = h') pc ls st h) ?_
    intro pc ls st h q
    rcases FS_ex q with ⟨a, b, c, e, l1, ⟨v, h', l2, p, w⟩, k⟩ | ⟨v, p, k⟩ | ⟨a, b, c, p, k⟩
    · exact ⟨v, h', l1.tr l2, p, Wp.step (k _ _ _ w)⟩
    · exact ⟨v, h, hle.rf h, p, Wp.step (k _ _ _ ⟨rfl, rfl⟩)⟩
    · obtain ⟨v1, h1, l1, ⟨v, h', l2, p2, w⟩, c1⟩ := Call_det d a b h _ p
      refine ⟨v, h', l1.tr l2, p2, Wp.step (k _ _ _ (Call_mono ?_ c1))⟩
      rintro v0 h0 ⟨rfl, rfl⟩
      exact w
/-- steps up to cut points -/
def FX (C : CT) (y : Nat) (Q : Option AV → Hp → Prop) (P : Nat → List AV → List AV → Hp → Prop) (cuts : List Nat) : Nat → Nat → List AV → List AV → Hp → Prop
  | 0, pc, ls, st, h => P pc ls st h
  | n + 1, pc, ls, st, h => match cuts.elem pc with
    | true => P pc ls st h
    | false => FS C y Q (FX C y Q P cuts n) pc ls st h
theorem FX_run {d y : Nat} {Q : Option AV → Hp → Prop} {P : Nat → List AV → List AV → Hp → Prop} {cuts : List Nat} (hP : Cl (Call d) y Q P) : ∀ (n pc : Nat) (ls st : List AV) (h : Hp), FX (Call d) y Q P cuts n pc ls st h → P pc ls st h
  | 0, _, _, _, _, hh => hh
  | n + 1, pc, ls, st, h, hh => by
    unfold FX at hh
    split at hh
    · exact hh
    · exact hP _ _ _ _ (FS_mono (fun _ _ _ _ _ hS q => Call_mono hS q) (fun _ _ z => z) (fun _ _ _ _ w => FX_run hP n _ _ _ _ w) hh)
theorem Cl.run {d y : Nat} {Q : Option AV → Hp → Prop} {P : Nat → List AV → List AV → Hp → Prop} (hP : Cl (Call d) y Q P) (cuts : List Nat) (n : Nat) {pc : Nat} {ls st : List AV} {h : Hp} (hh : FS (Call d) y Q (FX (Call d) y Q P cuts n) pc ls st h) : P pc ls st h :=
  hP _ _ _ _ (FS_mono (fun _ _ _ _ _ hS q => Call_mono hS q) (fun _ _ z => z) (fun _ _ _ _ w => FX_run hP n _ _ _ _ w) hh)
/-- a trial: isOffice -/
theorem try_94 {d : Nat} {Q : Option AV → Hp → Prop} {P : Nat → List AV → List AV → Hp → Prop} (hP : Cl (Call d) 94 Q P) (x : Int32) (h : Hp) (v : (x < 0 → Q (some (vI 0)) h) ∧ (¬ x < 0 → (4 ≤ x → Q (some (vI 0)) h) ∧ (¬ 4 ≤ x → Q (some (vI 1)) h))) : P 0 [vI x] [] h :=
  hP.run [] 20 ⟨fun c => ⟨rfl, v.1 c⟩, fun c => ⟨fun c2 => ⟨rfl, (v.2 c).1 c2⟩, fun c2 => ⟨rfl, (v.2 c).2 c2⟩⟩⟩
end
section
/-! THE RELATION between an abstract heap and the machine's: addresses by region and id -/
def trv (φ : Nat → Nat → Nat) : AV → Value
  | .inl x => .int x
  | .inr (.inl x) => .long x
  | .inr (.inr (t, o)) => va_rf (o.map (φ t))
def isUn : AV → Bool
  | .inr (.inr (t, _)) => Nat.beq t 999
  | _ => false
def prl (φ : Nat → Nat → Nat) : Nat → List AV → List (Nat × Value)
  | _, [] => []
  | i, v :: r => match isUn v with
    | true => prl φ (i + 1) r
    | false => (i, trv φ v) :: prl φ (i + 1) r
theorem gt_some {ls : List AV} {k : Nat} {v : AV} (h : gt ls k = some v) : k < ls.length := by
  induction ls generalizing k with
  | nil => cases h
  | cons a r ih =>
    cases k with
    | zero => exact Nat.succ_pos _
    | succ k => exact Nat.succ_lt_succ (ih h)
theorem stt_len (ls : List AV) (i : Nat) (v : AV) : (stt ls i v).length = ls.length := by
  induction ls generalizing i with
  | nil => rfl
  | cons a r ih =>
    cases i with
    | zero => rfl
    | succ i => show (stt r i v).length + 1 = _; rw [ih]; rfl
theorem gt_stt_ne {ls : List AV} {i k : Nat} (v : AV) (h : k ≠ i) : gt (stt ls i v) k = gt ls k := by
  induction ls generalizing i k with
  | nil => rfl
  | cons a r ih =>
    cases i with
    | zero =>
      cases k with
      | zero => exact absurd rfl h
      | succ k => rfl
    | succ i =>
      cases k with
      | zero => rfl
      | succ k => exact ih (fun e => h (by rw [e]))
theorem gt_stt_eq {ls : List AV} {i : Nat} {v w : AV} (h : gt (stt ls i v) i = some w) : w = v := by
  induction ls generalizing i with
  | nil => cases h
  | cons a r ih =>
    cases i with
    | zero => exact (Option.some.inj h).symm
    | succ i => exact ih h
theorem mem_prl {φ : Nat → Nat → Nat} {ls : List AV} {i : Nat} {q : Nat × Value} : q ∈ prl φ i ls ↔ ∃ k v, gt ls k = some v ∧ isUn v = false ∧ q = (i + k, trv φ v) := by
  induction ls generalizing i with
  | nil =>
    constructor
    · intro h; cases h
    · rintro ⟨k, v, h, -⟩; cases h
  | cons a r ih =>
    constructor
    · intro h
      unfold prl at h
      split at h
      · obtain ⟨k, v, h1, h2, h3⟩ := ih.mp h
        exact ⟨k + 1, v, h1, h2, by rw [h3]; congr 1; omega⟩
      · rename_i hu
        rcases List.mem_cons.mp h with h | h
        · exact ⟨0, a, rfl, hu, h⟩
        · obtain ⟨k, v, h1, h2, h3⟩ := ih.mp h
          exact ⟨k + 1, v, h1, h2, by rw [h3]; congr 1; omega⟩
    · rintro ⟨k, v, h1, h2, h3⟩
      unfold prl
      cases k with
      | zero =>
        cases Option.some.inj h1
        rw [h2]
        exact List.mem_cons.mpr (Or.inl h3)
      | succ k =>
        have h4 : q ∈ prl φ (i + 1) r := ih.mpr ⟨k, v, h1, h2, by rw [h3]; congr 1; omega⟩
        split
        · exact h4
        · exact List.mem_cons_of_mem _ h4
theorem lv_gt {φ : Nat → Nat → Nat} {L : Array Slot} {nL : Nat} {ls : List AV} {k : Nat} {v : AV} (hl : lv_has L nL (prl φ 0 ls)) (h : gt ls k = some v) (hu : isUn v = false) : L[k]? = some (.val (trv φ v)) := by
  have := hl.2.2 (k, trv φ v) (mem_prl.mpr ⟨k, v, h, hu, by rw [Nat.zero_add]⟩)
  exact this
theorem trv_cat2 {φ : Nat → Nat → Nat} {v : AV} (h : (trv φ v).category = 2) : ∃ x, v = .inr (.inl x) := by
  rcases v with x | x | ⟨t, o⟩
  · cases h
  · exact ⟨x, rfl⟩
  · cases o <;> cases h
theorem lv_st1 {φ : Nat → Nat → Nat} {L : Array Slot} {nL : Nat} {ls ls' : List AV} {i : Nat} {v : AV} (h1 : st1 ls i v = some ls') (hl : lv_has L nL ((i, trv φ v) :: (prl φ 0 ls).filter (fun q => !(q.1 == i) && !(q.1 + 1 == i && q.2.category == 2)))) : lv_has L nL (prl φ 0 ls') ∧ ls' = stt ls i v ∧ i < ls.length := by
  have key : ls' = stt ls i v ∧ i < ls.length ∧ ∀ j, j + 1 = i → ∀ x, gt ls j ≠ some (.inr (.inl x)) := by
    unfold st1 at h1
    split at h1
    · cases h1
    · rename_i w hw
      split at h1
      · cases h1
        exact ⟨rfl, gt_some hw, fun j hj => absurd hj (by omega)⟩
      · rename_i j0
        split at h1
        · cases h1
        · rename_i hn
          cases h1
          exact ⟨rfl, gt_some hw, fun j hj x hx => by
            have : j = j0 := by omega
            subst this
            exact hn x hx⟩
  obtain ⟨rfl, hi, hlong⟩ := key
  refine ⟨⟨hl.1, hl.2.1, fun q hq => ?_⟩, rfl, hi⟩
  obtain ⟨k, w, g1, g2, rfl⟩ := mem_prl.mp hq
  rw [Nat.zero_add]
  by_cases e : k = i
  · subst e
    rw [gt_stt_eq g1]
    exact hl.2.2 (k, trv φ v) List.mem_cons_self
  · rw [gt_stt_ne v e] at g1
    refine hl.2.2 (k, trv φ w) (List.mem_cons_of_mem _ (List.mem_filter.mpr ⟨mem_prl.mpr ⟨k, w, g1, g2, by rw [Nat.zero_add]⟩, ?_⟩))
    simp only [Bool.and_eq_true, Bool.not_eq_true', beq_eq_false_iff_ne, ne_eq, Bool.and_eq_false_iff]
    refine ⟨e, ?_⟩
    by_cases e2 : k + 1 = i
    · right
      intro hc
      obtain ⟨x, rfl⟩ := trv_cat2 hc
      exact hlong k e2 x g1
    · left
      exact e2
theorem lv_st2 {φ : Nat → Nat → Nat} {L : Array Slot} {nL : Nat} {ls ls' : List AV} {i : Nat} {v : AV} (h1 : st2 ls i v = some ls') (hl : lv_has L nL ((i, trv φ v) :: (prl φ 0 ls).filter (fun q => !(q.1 == i) && (!(q.1 == i + 1) && !(q.1 + 1 == i && q.2.category == 2))))) : lv_has L nL (prl φ 0 ls') ∧ ls' = stt (stt ls i v) (i + 1) un ∧ i + 1 < ls.length := by
  have key : ls' = stt (stt ls i v) (i + 1) un ∧ i + 1 < ls.length ∧ ∀ j, j + 1 = i → ∀ x, gt ls j ≠ some (.inr (.inl x)) := by
    unfold st2 at h1
    split at h1
    · cases h1
    · rename_i w hw
      split at h1
      · cases h1
        exact ⟨rfl, gt_some hw, fun j hj => absurd hj (by omega)⟩
      · rename_i j0
        split at h1
        · cases h1
        · rename_i hn
          cases h1
          exact ⟨rfl, gt_some hw, fun j hj x hx => by
            have : j = j0 := by omega
            subst this
            exact hn x hx⟩
  obtain ⟨rfl, hi, hlong⟩ := key
  refine ⟨⟨hl.1, hl.2.1, fun q hq => ?_⟩, rfl, hi⟩
  obtain ⟨k, w, g1, g2, rfl⟩ := mem_prl.mp hq
  rw [Nat.zero_add]
  by_cases e0 : k = i + 1
  · subst e0
    rw [gt_stt_eq g1] at g2
    cases g2
  rw [gt_stt_ne un e0] at g1
  by_cases e : k = i
  · subst e
    rw [gt_stt_eq g1]
    exact hl.2.2 (k, trv φ v) List.mem_cons_self
  · rw [gt_stt_ne v e] at g1
    refine hl.2.2 (k, trv φ w) (List.mem_cons_of_mem _ (List.mem_filter.mpr ⟨mem_prl.mpr ⟨k, w, g1, g2, by rw [Nat.zero_add]⟩, ?_⟩))
    simp only [Bool.and_eq_true, Bool.not_eq_true', beq_eq_false_iff_ne, ne_eq, Bool.and_eq_false_iff]
    refine ⟨e, e0, ?_⟩
    by_cases e2 : k + 1 = i
    · right
      intro hc
      obtain ⟨x, rfl⟩ := trv_cat2 hc
      exact hlong k e2 x g1
    · left
      exact e2
def hrg (t : Nat) : Bool := Nat.blt t 12 || (Nat.blt 20 t && Nat.blt t 25) || (Nat.ble 30 t && Nat.blt t 40)
def flds (h : Hp) (φ : Nat → Nat → Nat) (t a : Nat) : List Value := (List.range (nfl t)).map (fun k => trv φ (gf h t a k))
def cellOf (h : Hp) (φ : Nat → Nat → Nat) (cA : ClassId) (t a : Nat) : va_E := if t < 12 then .inr (t, flds h φ t a) else if t < 25 then .inl (cA, jLen h t a, .inl (jI h t a)) else .inl (cA, jLen h t a, .inr (.inr (.inr (.inr (fun k => (jR h t a k).map (φ (t - 30)))))))
def atf (t : Nat) : FieldType := match t with
  | 21 => .int
  | 22 => .byte
  | 23 => .char
  | 24 => .boolean
  | t => .object (cnm (t - 30))
def vok (h : Hp) : AV → Prop
  | .inr (.inr (t, some a)) => a < jN h t
  | _ => True
def Rel (h : Hp) (ws : va_W) (tys : List (ClassId × FieldType)) (φ : Nat → Nat → Nat) : Prop :=
  (∀ t a, hrg t = true → a < jN h t → ∃ (i : Nat) (cA : ClassId), ws[i]? = some (φ t a, cellOf h φ cA t a) ∧ (12 ≤ t → ∃ j : Nat, tys[j]? = some (cA, atf t))) ∧
  (∀ t a t' a', hrg t = true → hrg t' = true → a < jN h t → a' < jN h t' → φ t a = φ t' a' → t = t' ∧ a = a') ∧
  (∀ t a k, t < 12 → k < nfl t → a < jN h t → vok h (gf h t a k)) ∧
  (∀ t a k, 30 ≤ t → t < 40 → a < jN h t → vok h (vR (t - 30) (jR h t a k))) ∧
  jN h 40 = 34 ∧ jN h 41 = 34 ∧ jN h 42 = 3
theorem vok_le {h h' : Hp} (hl : ∀ t, jN h t ≤ jN h' t) {v : AV} (hv : vok h v) : vok h' v := by
  rcases v with x | x | ⟨t, o⟩
  · trivial
  · trivial
  · cases o with
    | none => trivial
    | some a => exact Nat.lt_of_lt_of_le hv (hl t)
theorem trv_ext {h : Hp} {φ φ' : Nat → Nat → Nat} (he : ∀ t a, a < jN h t → φ' t a = φ t a) {v : AV} (hv : vok h v) : trv φ' v = trv φ v := by
  rcases v with x | x | ⟨t, o⟩
  · rfl
  · rfl
  · cases o with
    | none => rfl
    | some a => show Value.ref (φ' t a) = Value.ref (φ t a); rw [he t a hv]
/-- one cell is written -/
theorem Rel.set {h h' : Hp} {ws : va_W} {tys : List (ClassId × FieldType)} {φ : Nat → Nat → Nat} (hR : Rel h ws tys φ) {t a i : Nat} {cA : ClassId} (ht : hrg t = true) (ha : a < jN h t) (hi : ws[i]? = some (φ t a, cellOf h φ cA t a)) (hj : 12 ≤ t → ∃ j : Nat, tys[j]? = some (cA, atf t)) (hN : jN h' = jN h) (ho : ∀ t' a' c, ¬ (t' = t ∧ a' = a) → cellOf h' φ c t' a' = cellOf h φ c t' a') (h3 : ∀ t a k, t < 12 → k < nfl t → a < jN h t → vok h (gf h' t a k)) (h4 : ∀ t a k, 30 ≤ t → t < 40 → a < jN h t → vok h (vR (t - 30) (jR h' t a k))) {e : va_E} (hE : e = cellOf h' φ cA t a) : Rel h' (ws.set i (φ t a, e)) tys φ := by
  subst hE
  have hv : ∀ v, vok h v → vok h' v := fun v hv => vok_le (fun t => by rw [hN]; exact Nat.le_refl _) hv
  refine ⟨fun t' a' ht' ha' => ?_, ?_, fun t a k x y z => hv _ (h3 t a k x y (by rw [← hN]; exact z)), fun t a k x y z => hv _ (h4 t a k x y (by rw [← hN]; exact z)), ?_⟩
  · rw [hN] at ha'
    by_cases e : t' = t ∧ a' = a
    · obtain ⟨rfl, rfl⟩ := e
      have hlt : i < ws.length := (List.getElem?_eq_some_iff.mp hi).1
      exact ⟨i, cA, by simp [List.getElem?_set, hlt], hj⟩
    · obtain ⟨i', c', h1, h2⟩ := hR.1 t' a' ht' ha'
      refine ⟨i', c', ?_, h2⟩
      have hne : i ≠ i' := by
        rintro rfl
        rw [hi] at h1
        have := (Prod.mk.inj (Option.some.inj h1)).1
        exact e ((hR.2.1 t a t' a' ht ht' ha ha' this).imp Eq.symm Eq.symm)
      rw [List.getElem?_set_ne hne, h1, ho t' a' c' e]
  · rw [hN]; exact hR.2.1
  · rw [hN]; exact hR.2.2.2.2
/-- one cell is made -/
theorem Rel.new {h h' : Hp} {ws : va_W} {tys : List (ClassId × FieldType)} {φ : Nat → Nat → Nat} (hR : Rel h ws tys φ) {t q n sl : Nat} {cA : ClassId} {ex : List (ClassId × FieldType)} (ht : hrg t = true) (hq : ∀ (i : Nat) (p : Nat × va_E), ws[i]? = some p → p.1 ≠ q) (hh : h' = mk h t n sl) (hj : 12 ≤ t → ∃ j : Nat, (tys ++ ex)[j]? = some (cA, atf t)) {e : va_E} (φ' : Nat → Nat → Nat) (hφ : φ' = fun t' a' => if t' = t ∧ a' = jN h t then q else φ t' a') (hE : e = cellOf h' φ' cA t (jN h t)) : Rel h' (ws ++ [(q, e)]) (tys ++ ex) φ' ∧ (∀ t a, a < jN h t → φ' t a = φ t a) := by
  subst hE
  have hold : ∀ t' a', a' < jN h t' → φ' t' a' = φ t' a' := by
    intro t' a' ha'
    rw [hφ]
    show (if t' = t ∧ a' = jN h t then q else φ t' a') = φ t' a'
    rw [if_neg]
    rintro ⟨rfl, rfl⟩
    exact Nat.lt_irrefl _ ha'
  have hnew : φ' t (jN h t) = q := by
    rw [hφ]
    show (if t = t ∧ jN h t = jN h t then q else φ t (jN h t)) = q
    rw [if_pos ⟨rfl, rfl⟩]
  have hN : ∀ t', jN h' t' = if t' = t then jN h t + 1 else jN h t' := fun t' => by rw [hh]; rfl
  have hcase : ∀ t' a', a' < jN h' t' → a' < jN h t' ∨ (t' = t ∧ a' = jN h t) := by
    intro t' a' ha'
    rw [hN] at ha'
    by_cases e : t' = t
    · rw [if_pos e] at ha'
      subst e
      rcases Nat.lt_or_ge a' (jN h t') with h1 | h1
      · exact Or.inl h1
      · exact Or.inr ⟨rfl, by omega⟩
    · rw [if_neg e] at ha'
      exact Or.inl ha'
  have hle : ∀ t', jN h t' ≤ jN h' t' := fun t' => by
    rw [hN]
    by_cases e : t' = t
    · rw [if_pos e, e]; exact Nat.le_succ _
    · rw [if_neg e]; exact Nat.le_refl _
  have hne : ∀ t' a', a' < jN h t' → ¬ (t' = t ∧ a' = jN h t) := by
    rintro t' a' ha' ⟨rfl, rfl⟩
    exact Nat.lt_irrefl _ ha'
  have eI : ∀ t' a' k, a' < jN h t' → jI h' t' a' k = jI h t' a' k := fun t' a' k ha' => by rw [hh]; exact if_neg (hne t' a' ha')
  have eL : ∀ t' a' k, a' < jN h t' → jL h' t' a' k = jL h t' a' k := fun t' a' k ha' => by rw [hh]; exact if_neg (hne t' a' ha')
  have eR : ∀ t' a' k, a' < jN h t' → jR h' t' a' k = jR h t' a' k := fun t' a' k ha' => by rw [hh]; exact if_neg (hne t' a' ha')
  have eZ : ∀ t' a', a' < jN h t' → jLen h' t' a' = jLen h t' a' := fun t' a' ha' => by rw [hh]; exact if_neg (hne t' a' ha')
  have nR : ∀ k, jR h' t (jN h t) k = none := fun k => by rw [hh]; exact if_pos ⟨rfl, rfl⟩
  have eG : ∀ t' a' k, a' < jN h t' → gf h' t' a' k = gf h t' a' k := fun t' a' k ha' => by
    unfold gf
    rw [eI t' a' k ha', eL t' a' k ha', eR t' a' k ha']
  refine ⟨⟨fun t' a' ht' ha' => ?_, fun t1 a1 t2 a2 g1 g2 g3 g4 e => ?_, fun t' a' k x y z => ?_, fun t' a' k x y z => ?_, ?_⟩, hold⟩
  · rcases hcase t' a' ha' with g | ⟨rfl, rfl⟩
    · obtain ⟨i, c', h1, h2⟩ := hR.1 t' a' ht' g
      refine ⟨i, c', ?_, fun g5 => ?_⟩
      · have hlt : i < ws.length := (List.getElem?_eq_some_iff.mp h1).1
        rw [List.getElem?_append_left hlt, h1, hold t' a' g]
        congr 2
        unfold cellOf
        by_cases b1 : t' < 12
        · rw [if_pos b1, if_pos b1]
          congr 2
          unfold flds
          refine List.map_congr_left fun k hk => ?_
          rw [eG t' a' k g]
          exact (trv_ext hold (hR.2.2.1 t' a' k b1 (List.mem_range.mp hk) g)).symm
        · rw [if_neg b1, if_neg b1]
          by_cases b2 : t' < 25
          · rw [if_pos b2, if_pos b2, eZ t' a' g]
            congr 4
            funext k
            exact (eI t' a' k g).symm
          · rw [if_neg b2, if_neg b2, eZ t' a' g]
            congr 7
            funext k
            rw [eR t' a' k g]
            have hv : 30 ≤ t' ∧ t' < 40 := by
              have := ht'
              unfold hrg at this
              simp only [Bool.or_eq_true, Bool.and_eq_true, Nat.blt_eq, Nat.ble_eq] at this
              omega
            have h5 := hR.2.2.2.1 t' a' k hv.1 hv.2 g
            cases hr : jR h t' a' k with
            | none => rfl
            | some b =>
              rw [hr] at h5
              show some (φ (t' - 30) b) = some (φ' (t' - 30) b)
              rw [hold _ _ h5]
      · obtain ⟨j, h6⟩ := h2 g5
        have hlt : j < tys.length := (List.getElem?_eq_some_iff.mp h6).1
        exact ⟨j, by rw [List.getElem?_append_left hlt, h6]⟩
    · refine ⟨ws.length, cA, ?_, hj⟩
      rw [List.getElem?_append_right (Nat.le_refl _), Nat.sub_self, hnew]
      rfl
  · have old : ∀ t' a', hrg t' = true → a' < jN h t' → φ t' a' ≠ q := by
      intro t' a' x y
      obtain ⟨i, c', h1, -⟩ := hR.1 t' a' x y
      exact hq i _ h1
    rcases hcase t1 a1 g3 with k1 | ⟨k1, k2⟩ <;> rcases hcase t2 a2 g4 with k3 | ⟨k3, k4⟩
    · rw [hold t1 a1 k1, hold t2 a2 k3] at e
      exact hR.2.1 t1 a1 t2 a2 g1 g2 k1 k3 e
    · rw [hold t1 a1 k1, k3, k4, hnew] at e
      exact absurd e (old t1 a1 g1 k1)
    · rw [hold t2 a2 k3, k1, k2, hnew] at e
      exact absurd e.symm (old t2 a2 g2 k3)
    · exact ⟨k1.trans k3.symm, k2.trans k4.symm⟩
  · rcases hcase t' a' z with g | ⟨rfl, rfl⟩
    · rw [eG t' a' k g]
      exact vok_le hle (hR.2.2.1 t' a' k x y g)
    · unfold gf
      split
      · trivial
      · trivial
      · trivial
      · trivial
      · trivial
      · rw [nR]; trivial
  · rcases hcase t' a' z with g | ⟨rfl, rfl⟩
    · rw [eR t' a' k g]
      exact vok_le hle (hR.2.2.2.1 t' a' k x y g)
    · rw [nR]; trivial
  · have : t ≠ 40 ∧ t ≠ 41 ∧ t ≠ 42 := by
      have := ht
      unfold hrg at this
      simp only [Bool.or_eq_true, Bool.and_eq_true, Nat.blt_eq, Nat.ble_eq] at this
      omega
    rw [hN, hN, hN, if_neg (Ne.symm this.1), if_neg (Ne.symm this.2.1), if_neg (Ne.symm this.2.2)]
    exact hR.2.2.2.2
end
section
/-! THE STEPS ARE THE MACHINE'S: those that look at no heap -/
def Rom (φ : Nat → Nat → Nat) (A : Nat → Prop) (s : State) (H : Heap) : Prop :=
  (∀ i, i < 34 → va_O "java/lang/String" (φ 40 i) A s H ∧ va_OF "java/lang/String" "coder" "B" (.int 0) (φ 40 i) A s H ∧ va_OF "java/lang/String" "value" "[B" (.ref (φ 41 i)) (φ 40 i) A s H ∧ va_T .byte (φ 41 i) (romB i).length (fun j => .int ((romB i).getD j 0)) A s H) ∧
  (∀ own idx id, lk2 strL own idx = some id → vk_R (cnm own) idx (txtL.getD id "") (φ 40 id) s) ∧
  (∀ a, a < 3 → va_T .int (φ 42 a) (romI a).length (fun j => .int ((romI a).getD j 0)) A s H) ∧
  va_Z "HeraldDesk" "FAMILIES" "[I" (.ref (φ 42 0)) A s H ∧ va_Z "HeraldDesk$Painter" "FIELD_U" "[I" (.ref (φ 42 1)) A s H ∧ va_Z "HeraldDesk$Painter" "FIELD_V" "[I" (.ref (φ 42 2)) A s H ∧ va_Z "java/lang/String" "COMPACT_STRINGS" "Z" (.int 1) A s H ∧
  va_Zq "jdk/internal/util/Preconditions" "SIOOBE_FORMATTER" "Ljava/util/function/BiFunction;" A s H ∧
  (∀ w ∈ nestL, va_Nw w s) ∧ (∀ e ∈ [1, 3, 5, 7], va_AO (cnm e) s)
theorem nest_warm {w : Cond} (hw : isNest w = true) {s U : State} (hW : s.WarmedH U.vm) (h : va_Nw w s) : va_Nw w U := by
  cases w <;> first | exact va_Nw.warmF hW h | exact va_Nw.warmM hW h | cases hw
theorem Rom.to {φ : Nat → Nat → Nat} {A A' : Nat → Prop} {s U : State} {H : Heap} {locs : List Loc} (h : Rom φ A s s.heap) (hS : va_S A s.heap H locs) (hW : s.WarmedH U.vm) (hU : U.heap = H) (hA : ∀ q, A' q → A q) : Rom φ A' U U.heap := by
  obtain ⟨h1, h2, h3, h4, h5, h6, h7, h8, h9, h10⟩ := h
  have hv := hW.alike
  have hk : ∀ a : Nat, a < s.heap.size → ¬ A a → U.heap[a]? = s.heap[a]? := fun a x y => by rw [hU]; exact hS.2.1 a x y
  refine ⟨fun i hi => ?_, fun own idx id hl => (h2 own idx id hl).warm hW, fun a ha => (((h3 a ha).moved hv).kept hk).narrow hA, ((h4.moved hv).kept hk).narrow hA, ((h5.moved hv).kept hk).narrow hA, ((h6.moved hv).kept hk).narrow hA, ((h7.moved hv).kept hk).narrow hA, ((h8.moved hv).kept hk).narrow hA, fun w hw => nest_warm (List.all_eq_true.mp nest_is w hw) hW (h9 w hw), fun e he => (h10 e he).moved hv⟩
  obtain ⟨g1, g2, g3, g4⟩ := h1 i hi
  exact ⟨((g1.moved hv).kept hk).narrow hA, ((g2.moved hv).kept hk).narrow hA, ((g3.moved hv).kept hk).narrow hA, ((g4.moved hv).kept hk).narrow hA⟩
theorem push_ex {pc d : Nat} {ls st : List AV} {v : Option AV} {q : Nat × List AV × List AV} (h : push pc d ls v st = some q) : ∃ w, v = some w ∧ q = (pc + d, ls, w :: st) := by
  unfold push at h
  split at h
  · exact ⟨_, rfl, (Option.some.inj h).symm⟩
  · cases h
theorem ldI_ex {ls : List AV} {k : Nat} {v : AV} (h : ldI ls k = some v) : ∃ x, v = .inl x ∧ gt ls k = some (.inl x) := by
  unfold ldI at h
  split at h
  · rename_i x hx
    exact ⟨x, (Option.some.inj h).symm, hx⟩
  · cases h
theorem ldJ_ex {ls : List AV} {k : Nat} {v : AV} (h : ldJ ls k = some v) : ∃ x, v = .inr (.inl x) ∧ gt ls k = some (.inr (.inl x)) := by
  unfold ldJ at h
  split at h
  · rename_i x hx
    exact ⟨x, (Option.some.inj h).symm, hx⟩
  · cases h
theorem ldA_ex {ls : List AV} {k : Nat} {v : AV} (h : ldA ls k = some v) : ∃ t o, v = .inr (.inr (t, o)) ∧ gt ls k = some (.inr (.inr (t, o))) ∧ isUn (.inr (.inr (t, o))) = false := by
  unfold ldA at h
  split at h
  · rename_i t o hx
    split at h
    · cases h
    · rename_i hb
      exact ⟨t, o, (Option.some.inj h).symm, hx, hb⟩
  · cases h
theorem st1_lt {ls ls' : List AV} {i : Nat} {v : AV} (h1 : st1 ls i v = some ls') : i < ls.length ∧ ls' = stt ls i v := by
  unfold st1 at h1
  split at h1
  · cases h1
  · rename_i w hw
    split at h1
    · cases h1; exact ⟨gt_some hw, rfl⟩
    · split at h1
      · cases h1
      · cases h1; exact ⟨gt_some hw, rfl⟩
theorem st2_lt {ls ls' : List AV} {i : Nat} {v : AV} (h1 : st2 ls i v = some ls') : i + 1 < ls.length ∧ ls' = stt (stt ls i v) (i + 1) un := by
  unfold st2 at h1
  split at h1
  · cases h1
  · rename_i w hw
    split at h1
    · cases h1; exact ⟨gt_some hw, rfl⟩
    · split at h1
      · cases h1
      · cases h1; exact ⟨gt_some hw, rfl⟩
theorem toI_ex {ls : List AV} {k : Nat} {st : List AV} {d pc : Nat} {q : Nat × List AV × List AV} (h : toI ls k st d pc = some q) : ∃ x r l', st = .inl x :: r ∧ st1 ls k (.inl x) = some l' ∧ q = (pc + d, l', r) := by
  unfold toI at h
  split at h
  · rename_i x r
    obtain ⟨l', h1, h2⟩ := Option.map_eq_some_iff.mp h
    exact ⟨x, r, l', rfl, h1, h2.symm⟩
  · cases h
theorem toJ_ex {ls : List AV} {k : Nat} {st : List AV} {d pc : Nat} {q : Nat × List AV × List AV} (h : toJ ls k st d pc = some q) : ∃ x r l', st = .inr (.inl x) :: r ∧ st2 ls k (.inr (.inl x)) = some l' ∧ q = (pc + d, l', r) := by
  unfold toJ at h
  split at h
  · rename_i x r
    obtain ⟨l', h1, h2⟩ := Option.map_eq_some_iff.mp h
    exact ⟨x, r, l', rfl, h1, h2.symm⟩
  · cases h
theorem toA_ex {ls : List AV} {k : Nat} {st : List AV} {d pc : Nat} {q : Nat × List AV × List AV} (h : toA ls k st d pc = some q) : ∃ t o r l', st = .inr (.inr (t, o)) :: r ∧ st1 ls k (.inr (.inr (t, o))) = some l' ∧ q = (pc + d, l', r) := by
  unfold toA at h
  split at h
  · rename_i t o r
    obtain ⟨l', h1, h2⟩ := Option.map_eq_some_iff.mp h
    exact ⟨t, o, r, l', rfl, h1, h2.symm⟩
  · cases h
theorem bI_ex {f : Int32 → Int32 → Int32} {pc : Nat} {ls st : List AV} {q : Nat × List AV × List AV} (h : bI f pc ls st = some q) : ∃ x y r, st = .inl y :: .inl x :: r ∧ q = (pc + 1, ls, .inl (f x y) :: r) := by
  unfold bI at h
  split at h
  · exact ⟨_, _, _, rfl, (Option.some.inj h).symm⟩
  · cases h
theorem bJ_ex {f : Int64 → Int64 → Int64} {pc : Nat} {ls st : List AV} {q : Nat × List AV × List AV} (h : bJ f pc ls st = some q) : ∃ x y r, st = .inr (.inl y) :: .inr (.inl x) :: r ∧ q = (pc + 1, ls, .inr (.inl (f x y)) :: r) := by
  unfold bJ at h
  split at h
  · exact ⟨_, _, _, rfl, (Option.some.inj h).symm⟩
  · cases h
theorem uI_ex {f : Int32 → Int32} {pc : Nat} {ls st : List AV} {q : Nat × List AV × List AV} (h : uI f pc ls st = some q) : ∃ x r, st = .inl x :: r ∧ q = (pc + 1, ls, .inl (f x) :: r) := by
  unfold uI at h
  split at h
  · exact ⟨_, _, rfl, (Option.some.inj h).symm⟩
  · cases h
theorem shJ_ex {f : Int64 → Int32 → Int64} {pc : Nat} {ls st : List AV} {q : Nat × List AV × List AV} (h : shJ f pc ls st = some q) : ∃ x y r, st = .inl y :: .inr (.inl x) :: r ∧ q = (pc + 1, ls, .inr (.inl (f x y)) :: r) := by
  unfold shJ at h
  split at h
  · exact ⟨_, _, _, rfl, (Option.some.inj h).symm⟩
  · cases h
theorem jto_ex {pc : Nat} {off : Int} {t : Nat} (h : jto pc off = some t) : (pc : Int) + off = (t : Int) := by
  unfold jto at h
  split at h
  · rename_i u hu
    rw [hu]
    cases h
    rfl
  · cases h
theorem ldcv_ex {own idx : Nat} {v : AV} (h : ldcv own idx = some v) : ∃ id, lk2 strL own idx = some id ∧ v = .inr (.inr (40, some id)) := by
  unfold ldcv at h
  split at h
  · rename_i k hk
    exact ⟨k, hk, (Option.some.inj h).symm⟩
  · cases h
theorem ldjv_ex {own idx : Nat} {v : AV} (h : ldjv own idx = some v) : ∃ x, Cond.constantLong (cnm own) idx x ∈ lw_good ∧ v = .inr (.inl x) := by
  unfold ldjv at h
  split at h
  · rename_i k hk
    obtain ⟨j, hj⟩ := all_zip cj_ok cj_len _ (lk2_mem hk)
    exact ⟨k, wOK_mem hj, (Option.some.inj h).symm⟩
  · cases h
theorem gstv_ex {own idx : Nat} {v : AV} (h : gstv own idx = some v) : (own = 10 ∧ idx = 201 ∧ v = .inr (.inr (42, some 0))) ∨ (own = 12 ∧ idx = 89 ∧ v = .inr (.inr (42, some 1))) ∨ (own = 12 ∧ idx = 97 ∧ v = .inr (.inr (42, some 2))) ∨ (own = 40 ∧ idx = 38 ∧ v = .inl 1) := by
  unfold gstv at h
  split at h
  · rename_i w hw
    cases h
    have := lk2_mem hw
    simp only [List.mem_cons, Prod.mk.injEq, List.not_mem_nil, or_false] at this
    exact this
  · cases h
theorem rf_cat {o : Option Nat} : (va_rf o).category = 1 := by cases o <;> rfl
section SND
variable {p : Program} {l : Launch} {e : Env} {R : Room} {s : State} {m : MethodId} {args : Array Value} {below : List Frame} {meth : Method} {c : Code} {H : Heap} {locs : List Loc} {cells slots : Nat} {Qw : State → Prop}
variable {cc : ByteArray} {A : Nat → Prop} {φ : Nat → Nat → Nat} {nL : Nat} {L : Array Slot} {ls st : List AV} {own pc : Nat}
set_option maxHeartbeats 4000000 in
theorem snd1 (hx : p.tables.exec = Jvm.exec) (hb : c.code = cc) (hown : s.vm.findClass (cnm own) = some m.cls) (hts : ∀ w ∈ lw_good, w.before args s = true) (hS : va_S A s.heap H locs) (hrom : Rom φ A s s.heap) {i : Instr} (hdg : decode cc pc = .ok (i, ilen i)) {q : Nat × List AV × List AV} (h1 : step1 own i pc ls st = some q) (hl : lv_has L nL (prl φ 0 ls)) (hn : ls.length = nL)
    (kk : ∀ L', lv_has L' nL (prl φ 0 q.2.1) → q.2.1.length = nL → W p l e R s m args below meth c H locs cells slots Qw (F0 m q.1 L' (q.2.2.map (trv φ)))) : W p l e R s m args below meth c H locs cells slots Qw (F0 m pc L (st.map (trv φ))) := by
  cases i
  case aconst_null => cases h1; exact lv_null hx hb hdg (kk L hl hn)
  case iconst n => cases h1; exact lv_iconst hx hb hdg rfl (kk L hl hn)
  case bipush n => cases h1; exact lv_bipush hx hb hdg rfl (kk L hl hn)
  case sipush n => cases h1; exact lv_sipush hx hb hdg rfl (kk L hl hn)
  case lconst n => cases h1; exact lv_lconst hx hb hdg rfl (kk L hl hn)
  case ldc k =>
    obtain ⟨w, hw, rfl⟩ := push_ex h1
    obtain ⟨id, hi, rfl⟩ := ldcv_ex hw
    exact va_ldcS hx hb hown (hrom.2.1 own k id hi) hdg (kk L hl hn)
  case ldc2_w k =>
    obtain ⟨w, hw, rfl⟩ := push_ex h1
    obtain ⟨x, hm, rfl⟩ := ldjv_ex hw
    exact lv_ldc2 hx hb hown (hts _ hm) hdg (kk L hl hn)
  case getstatic k =>
    obtain ⟨w, hw, rfl⟩ := push_ex h1
    obtain ⟨-, -, -, z1, z2, z3, z4, -⟩ := hrom
    rcases gstv_ex hw with ⟨rfl, rfl, rfl⟩ | ⟨rfl, rfl, rfl⟩ | ⟨rfl, rfl, rfl⟩ | ⟨rfl, rfl, rfl⟩
    · exact va_gets hx hb z1 hS hown (hts _ gst_ok0) (fun _ h => h) hdg (kk L hl hn)
    · exact va_gets hx hb z2 hS hown (hts _ gst_ok1) (fun _ h => h) hdg (kk L hl hn)
    · exact va_gets hx hb z3 hS hown (hts _ gst_ok2) (fun _ h => h) hdg (kk L hl hn)
    · exact va_gets hx hb z4 hS hown (hts _ gst_ok3) (fun _ h => h) hdg (kk L hl hn)
  case iload k =>
    obtain ⟨w, hw, rfl⟩ := push_ex h1
    obtain ⟨x, rfl, hg⟩ := ldI_ex hw
    exact lv_iload hx hb hdg (lv_gt hl hg rfl) (kk L hl hn)
  case iload_n k =>
    obtain ⟨w, hw, rfl⟩ := push_ex h1
    obtain ⟨x, rfl, hg⟩ := ldI_ex hw
    exact lv_iload_n hx hb hdg rfl (lv_gt hl hg rfl) (kk L hl hn)
  case lload k =>
    obtain ⟨w, hw, rfl⟩ := push_ex h1
    obtain ⟨x, rfl, hg⟩ := ldJ_ex hw
    exact lv_lload hx hb hdg (lv_gt hl hg rfl) (kk L hl hn)
  case lload_n k =>
    obtain ⟨w, hw, rfl⟩ := push_ex h1
    obtain ⟨x, rfl, hg⟩ := ldJ_ex hw
    exact lv_lload_n hx hb hdg rfl (lv_gt hl hg rfl) (kk L hl hn)
  case aload k =>
    obtain ⟨w, hw, rfl⟩ := push_ex h1
    obtain ⟨t, o, rfl, hg, hu⟩ := ldA_ex hw
    cases o with
    | none => exact lv_aloadN hx hb hdg (lv_gt hl hg hu) (kk L hl hn)
    | some a => exact lv_aload hx hb hdg (lv_gt hl hg hu) (kk L hl hn)
  case aload_n k =>
    obtain ⟨w, hw, rfl⟩ := push_ex h1
    obtain ⟨t, o, rfl, hg, hu⟩ := ldA_ex hw
    cases o with
    | none => exact lv_aload_nN hx hb hdg rfl (lv_gt hl hg hu) (kk L hl hn)
    | some a => exact lv_aload_n hx hb hdg rfl (lv_gt hl hg hu) (kk L hl hn)
  case istore k =>
    obtain ⟨x, r, l', rfl, hs, rfl⟩ := toI_ex h1
    obtain ⟨hlt, e1⟩ := st1_lt hs
    exact lv_istore hx hb hdg hl (by omega) rfl (fun L' hl' => kk L' (lv_st1 (φ := φ) hs hl').1 (by rw [e1, stt_len]; exact hn))
  case istore_n k =>
    obtain ⟨x, r, l', rfl, hs, rfl⟩ := toI_ex h1
    obtain ⟨hlt, e1⟩ := st1_lt hs
    exact lv_istore_n hx hb hdg rfl hl (by omega) rfl (fun L' hl' => kk L' (lv_st1 (φ := φ) hs hl').1 (by rw [e1, stt_len]; exact hn))
  case lstore k =>
    obtain ⟨x, r, l', rfl, hs, rfl⟩ := toJ_ex h1
    obtain ⟨hlt, e1⟩ := st2_lt hs
    exact lv_lstore hx hb hdg hl (by omega) rfl (fun L' hl' => kk L' (lv_st2 (φ := φ) hs hl').1 (by rw [e1, stt_len, stt_len]; exact hn))
  case lstore_n k =>
    obtain ⟨x, r, l', rfl, hs, rfl⟩ := toJ_ex h1
    obtain ⟨hlt, e1⟩ := st2_lt hs
    exact lv_lstore_n hx hb hdg rfl hl (by omega) rfl (fun L' hl' => kk L' (lv_st2 (φ := φ) hs hl').1 (by rw [e1, stt_len, stt_len]; exact hn))
  case astore k =>
    obtain ⟨t, o, r, l', rfl, hs, rfl⟩ := toA_ex h1
    obtain ⟨hlt, e1⟩ := st1_lt hs
    cases o with
    | none => exact lv_astoreN hx hb hdg hl (by omega) rfl (fun L' hl' => kk L' (lv_st1 (φ := φ) hs hl').1 (by rw [e1, stt_len]; exact hn))
    | some a => exact lv_astore hx hb hdg hl (by omega) rfl (fun L' hl' => kk L' (lv_st1 (φ := φ) hs hl').1 (by rw [e1, stt_len]; exact hn))
  case astore_n k =>
    obtain ⟨t, o, r, l', rfl, hs, rfl⟩ := toA_ex h1
    obtain ⟨hlt, e1⟩ := st1_lt hs
    cases o with
    | none => exact lv_astore_nN hx hb hdg rfl hl (by omega) rfl (fun L' hl' => kk L' (lv_st1 (φ := φ) hs hl').1 (by rw [e1, stt_len]; exact hn))
    | some a => exact lv_astore_n hx hb hdg rfl hl (by omega) rfl (fun L' hl' => kk L' (lv_st1 (φ := φ) hs hl').1 (by rw [e1, stt_len]; exact hn))
  case iinc k n =>
    dsimp only [step1] at h1
    split at h1
    · rename_i x hg
      obtain ⟨l', hs, e2⟩ := Option.map_eq_some_iff.mp h1
      subst e2
      obtain ⟨hlt, e1⟩ := st1_lt hs
      obtain ⟨k0, hk0⟩ := List.mem_iff_getElem?.mp (mem_prl.mpr ⟨k, .inl x, hg, rfl, rfl⟩ : (0 + k, trv φ (.inl x)) ∈ prl φ 0 ls)
      rw [Nat.zero_add] at hk0
      exact lv_iinc (x := x) hx hb hdg hl hk0 rfl (by omega) rfl (fun L' hl' => kk L' (lv_st1 (φ := φ) hs hl').1 (by rw [e1, stt_len]; exact hn))
    · cases h1
  case iadd => obtain ⟨x, y, r, rfl, rfl⟩ := bI_ex h1; exact lv_iadd hx hb hdg (kk L hl hn)
  case isub => obtain ⟨x, y, r, rfl, rfl⟩ := bI_ex h1; exact lv_isub hx hb hdg (kk L hl hn)
  case imul => obtain ⟨x, y, r, rfl, rfl⟩ := bI_ex h1; exact lv_imul hx hb hdg (kk L hl hn)
  case iand => obtain ⟨x, y, r, rfl, rfl⟩ := bI_ex h1; exact lv_iand hx hb hdg (kk L hl hn)
  case ior => obtain ⟨x, y, r, rfl, rfl⟩ := bI_ex h1; exact lv_ior hx hb hdg (kk L hl hn)
  case ishr => obtain ⟨x, y, r, rfl, rfl⟩ := bI_ex h1; exact lv_ishr hx hb hdg (kk L hl hn)
  case iushr => obtain ⟨x, y, r, rfl, rfl⟩ := bI_ex h1; exact lv_iushr hx hb hdg rfl (kk L hl hn)
  case ineg => obtain ⟨x, r, rfl, rfl⟩ := uI_ex h1; exact lv_ineg hx hb hdg (kk L hl hn)
  case i2b => obtain ⟨x, r, rfl, rfl⟩ := uI_ex h1; exact lv_i2b hx hb hdg rfl (kk L hl hn)
  case i2c => obtain ⟨x, r, rfl, rfl⟩ := uI_ex h1; exact lv_i2c hx hb hdg rfl (kk L hl hn)
  case land => obtain ⟨x, y, r, rfl, rfl⟩ := bJ_ex h1; exact lv_land hx hb hdg (kk L hl hn)
  case lor => obtain ⟨x, y, r, rfl, rfl⟩ := bJ_ex h1; exact lv_lor hx hb hdg (kk L hl hn)
  case lshl => obtain ⟨x, y, r, rfl, rfl⟩ := shJ_ex h1; exact lv_lshl hx hb hdg rfl (kk L hl hn)
  case lshr => obtain ⟨x, y, r, rfl, rfl⟩ := shJ_ex h1; exact lv_lshr hx hb hdg rfl (kk L hl hn)
  case lcmp =>
    dsimp only [step1] at h1
    split at h1
    · cases h1; exact W.lcmp hx hb hdg (kk L hl hn)
    · cases h1
  case i2l =>
    dsimp only [step1] at h1
    split at h1
    · cases h1; exact lv_i2l hx hb hdg rfl (kk L hl hn)
    · cases h1
  case l2i =>
    dsimp only [step1] at h1
    split at h1
    · cases h1; exact lv_l2i hx hb hdg rfl (kk L hl hn)
    · cases h1
  case dup =>
    dsimp only [step1] at h1
    split at h1
    · cases h1; exact lv_dup hx hb hdg rfl (kk L hl hn)
    · cases h1; exact lv_dup hx hb hdg rf_cat (kk L hl hn)
    · cases h1
  case dup2 =>
    dsimp only [step1] at h1
    split at h1
    · cases h1; exact lv_dup2_11 hx hb hdg rfl rf_cat (kk L hl hn)
    · cases h1
  case pop =>
    dsimp only [step1] at h1
    split at h1
    · rename_i x r
      cases h1; exact lv_pop (va := .int x) hx hb hdg rfl (kk L hl hn)
    · rename_i x r
      cases h1; exact lv_pop (va := trv φ (.inr (.inr x))) hx hb hdg rf_cat (kk L hl hn)
    · cases h1
  case goto off =>
    obtain ⟨t, ht, rfl⟩ := Option.map_eq_some_iff.mp h1
    exact lv_goto hx hb hdg (jto_ex ht) (kk L hl hn)
  all_goals cases h1
end SND
end
section
/-! how the relation goes over a write -/
theorem kOk_all : (List.range 12).all (fun t => (List.range (nfl t)).all (kOk t)) = true := by decide +kernel
theorem kOk_at {t k : Nat} (ht : t < 12) (hk : k < nfl t) : kOk t k = true := List.all_eq_true.mp (List.all_eq_true.mp kOk_all t (List.mem_range.mpr ht)) k (List.mem_range.mpr hk)
theorem up3_eq {α : Type} (f : Nat → Nat → Nat → α) (t a k : Nat) (v : α) : up3 f t a k v t a k = v := if_pos ⟨rfl, rfl, rfl⟩
theorem up3_ne {α : Type} {f : Nat → Nat → Nat → α} {t a k t' a' j : Nat} {v : α} (h : ¬ (t' = t ∧ a' = a)) : up3 f t a k v t' a' j = f t' a' j := if_neg (fun e => h ⟨e.1, e.2.1⟩)
theorem up3_k {α : Type} {f : Nat → Nat → Nat → α} {t a k t' a' j : Nat} {v : α} (h : j ≠ k) : up3 f t a k v t' a' j = f t' a' j := if_neg (fun e => h e.2.2)
theorem flds_at {h : Hp} {φ : Nat → Nat → Nat} {t a k : Nat} (hk : k < nfl t) : (flds h φ t a)[k]? = some (trv φ (gf h t a k)) := by
  unfold flds
  rw [List.getElem?_map, List.getElem?_range hk]
  rfl
theorem flds_len (h : Hp) (φ : Nat → Nat → Nat) (t a : Nat) : (flds h φ t a).length = nfl t := by
  unfold flds
  rw [List.length_map, List.length_range]
theorem flds_set {h h' : Hp} {φ : Nat → Nat → Nat} {t a k : Nat} {v : AV} (ho : ∀ j, j ≠ k → gf h' t a j = gf h t a j) (hv : gf h' t a k = v) : (flds h φ t a).set k (trv φ v) = flds h' φ t a := by
  refine List.ext_getElem? fun j => ?_
  by_cases hj : j < nfl t
  · rw [flds_at hj]
    by_cases e : k = j
    · subst e
      rw [List.getElem?_set_self (by rw [flds_len]; exact hj), hv]
    · rw [List.getElem?_set_ne e, flds_at hj, ho j (fun q => e q.symm)]
  · rw [List.getElem?_eq_none (by rw [List.length_set, flds_len]; omega), List.getElem?_eq_none (by rw [flds_len]; omega)]
theorem cellOf_obj {h : Hp} {φ : Nat → Nat → Nat} {cA : ClassId} {t a : Nat} (ht : t < 12) : cellOf h φ cA t a = .inr (t, flds h φ t a) := if_pos ht
theorem cellOf_int {h : Hp} {φ : Nat → Nat → Nat} {cA : ClassId} {t a : Nat} (ht : ¬ t < 12) (h2 : t < 25) : cellOf h φ cA t a = .inl (cA, jLen h t a, .inl (jI h t a)) := by
  unfold cellOf
  rw [if_neg ht, if_pos h2]
theorem cellOf_ref {h : Hp} {φ : Nat → Nat → Nat} {cA : ClassId} {t a : Nat} (h2 : ¬ t < 25) : cellOf h φ cA t a = .inl (cA, jLen h t a, .inr (.inr (.inr (.inr (fun k => (jR h t a k).map (φ (t - 30))))))) := by
  unfold cellOf
  rw [if_neg (by omega), if_neg h2]
theorem gf_ne {h h' : Hp} {t a k : Nat} (e1 : jI h' t a k = jI h t a k) (e2 : jL h' t a k = jL h t a k) (e3 : jR h' t a k = jR h t a k) : gf h' t a k = gf h t a k := by
  unfold gf
  rw [e1, e2, e3]
theorem cellOf_ne {h h' : Hp} {φ : Nat → Nat → Nat} {c : ClassId} {t a : Nat} (e0 : jLen h' t a = jLen h t a) (e1 : ∀ k, jI h' t a k = jI h t a k) (e2 : ∀ k, jL h' t a k = jL h t a k) (e3 : ∀ k, jR h' t a k = jR h t a k) : cellOf h' φ c t a = cellOf h φ c t a := by
  have f1 : jI h' t a = jI h t a := funext e1
  have f3 : jR h' t a = jR h t a := funext e3
  unfold cellOf flds
  rw [e0, f1, f3]
  have : (fun k => trv φ (gf h' t a k)) = fun k => trv φ (gf h t a k) := funext fun k => by rw [gf_ne (e1 k) (e2 k) (e3 k)]
  rw [this]
theorem fk_of {t k : Nat} (ht : t < 12) (hk : k < nfl t) : fk t k = 0 ∨ fk t k = 1 ∨ fk t k = 2 ∨ ∃ n, fk t k = n + 5 := by
  have h := kOk_at ht hk
  unfold kOk at h
  split at h
  · rename_i e; exact Or.inl e
  · rename_i e; exact Or.inr (Or.inl e)
  · rename_i e; exact Or.inr (Or.inr (Or.inl e))
  · cases h
  · cases h
  · rename_i n e; exact Or.inr (Or.inr (Or.inr ⟨n, e⟩))
theorem gf_I {h : Hp} {t a k : Nat} (hf : fk t k = 0 ∨ fk t k = 2) : gf h t a k = .inl (jI h t a k) := by
  unfold gf
  rcases hf with e | e <;> rw [e]
theorem gf_L {h : Hp} {t a k : Nat} (hf : fk t k = 1) : gf h t a k = .inr (.inl (jL h t a k)) := by
  unfold gf
  rw [hf]
theorem gf_R {h : Hp} {t a k n : Nat} (hf : fk t k = n + 5) : gf h t a k = .inr (.inr (n, jR h t a k)) := by
  unfold gf
  rw [hf]
/-- an int is written into an object -/
theorem Rel.putI {h : Hp} {ws : va_W} {tys : List (ClassId × FieldType)} {φ : Nat → Nat → Nat} (hR : Rel h ws tys φ) {t a k i : Nat} {cA : ClassId} (x : Int32) (ht : t < 12) (hk : k < nfl t) (ha : a < jN h t) (hf : fk t k = 0 ∨ fk t k = 2) (hi : ws[i]? = some (φ t a, cellOf h φ cA t a)) : Rel (wI h t a k x) (ws.set i (φ t a, .inr (t, (flds h φ t a).set k (.int x)))) tys φ := by
  have hg : ∀ t' a' k', vok h (gf h t' a' k') → vok h (gf (wI h t a k x) t' a' k') := by
    intro t' a' k' hv
    by_cases e : t' = t ∧ a' = a ∧ k' = k
    · obtain ⟨rfl, rfl, rfl⟩ := e
      rw [gf_I hf]; trivial
    · have eg : gf (wI h t a k x) t' a' k' = gf h t' a' k' := gf_ne (if_neg e) rfl rfl
      rw [eg]; exact hv
  refine hR.set (h' := wI h t a k x) (t := t) (a := a) (cA := cA) (by unfold hrg; simp [Nat.blt_eq, ht]) ha hi (fun h12 => absurd ht (by omega)) rfl (fun t' a' c hn => cellOf_ne rfl (fun k => up3_ne hn) (fun _ => rfl) (fun _ => rfl)) (fun t' a' k' x1 x2 x3 => hg t' a' k' (hR.2.2.1 t' a' k' x1 x2 x3)) (fun t' a' k' x1 x2 x3 => hR.2.2.2.1 t' a' k' x1 x2 x3) ?_
  rw [cellOf_obj ht]
  exact congrArg (fun z => (Sum.inr (t, z) : va_E)) (flds_set (v := .inl x) (fun j hj => gf_ne (up3_k hj) rfl rfl) (by rw [gf_I hf]; exact congrArg Sum.inl (up3_eq _ _ _ _ _)))
theorem Rel.putL {h : Hp} {ws : va_W} {tys : List (ClassId × FieldType)} {φ : Nat → Nat → Nat} (hR : Rel h ws tys φ) {t a k i : Nat} {cA : ClassId} (x : Int64) (ht : t < 12) (hk : k < nfl t) (ha : a < jN h t) (hf : fk t k = 1) (hi : ws[i]? = some (φ t a, cellOf h φ cA t a)) : Rel (wL h t a k x) (ws.set i (φ t a, .inr (t, (flds h φ t a).set k (.long x)))) tys φ := by
  have hg : ∀ t' a' k', vok h (gf h t' a' k') → vok h (gf (wL h t a k x) t' a' k') := by
    intro t' a' k' hv
    by_cases e : t' = t ∧ a' = a ∧ k' = k
    · obtain ⟨rfl, rfl, rfl⟩ := e
      rw [gf_L hf]; trivial
    · have eg : gf (wL h t a k x) t' a' k' = gf h t' a' k' := gf_ne rfl (if_neg e) rfl
      rw [eg]; exact hv
  refine hR.set (h' := wL h t a k x) (t := t) (a := a) (cA := cA) (by unfold hrg; simp [Nat.blt_eq, ht]) ha hi (fun h12 => absurd ht (by omega)) rfl (fun t' a' c hn => cellOf_ne rfl (fun _ => rfl) (fun k => up3_ne hn) (fun _ => rfl)) (fun t' a' k' x1 x2 x3 => hg t' a' k' (hR.2.2.1 t' a' k' x1 x2 x3)) (fun t' a' k' x1 x2 x3 => hR.2.2.2.1 t' a' k' x1 x2 x3) ?_
  rw [cellOf_obj ht]
  exact congrArg (fun z => (Sum.inr (t, z) : va_E)) (flds_set (v := .inr (.inl x)) (fun j hj => gf_ne rfl (up3_k hj) rfl) (by rw [gf_L hf]; exact congrArg (fun z => Sum.inr (Sum.inl z)) (up3_eq _ _ _ _ _)))
theorem Rel.putR {h : Hp} {ws : va_W} {tys : List (ClassId × FieldType)} {φ : Nat → Nat → Nat} (hR : Rel h ws tys φ) {t a k i n : Nat} {cA : ClassId} (o : Option Nat) (ht : t < 12) (hk : k < nfl t) (ha : a < jN h t) (hf : fk t k = n + 5) (hv : vok h (vR n o)) (hi : ws[i]? = some (φ t a, cellOf h φ cA t a)) : Rel (wR h t a k o) (ws.set i (φ t a, .inr (t, (flds h φ t a).set k (va_rf (o.map (φ n)))))) tys φ := by
  have hg : ∀ t' a' k', vok h (gf h t' a' k') → vok h (gf (wR h t a k o) t' a' k') := by
    intro t' a' k' hv'
    by_cases e : t' = t ∧ a' = a ∧ k' = k
    · obtain ⟨rfl, rfl, rfl⟩ := e
      rw [gf_R hf, show jR (wR h t' a' k' o) t' a' k' = o from up3_eq _ _ _ _ _]
      exact hv
    · have eg : gf (wR h t a k o) t' a' k' = gf h t' a' k' := gf_ne rfl rfl (if_neg e)
      rw [eg]; exact hv'
  refine hR.set (h' := wR h t a k o) (t := t) (a := a) (cA := cA) (by unfold hrg; simp [Nat.blt_eq, ht]) ha hi (fun h12 => absurd ht (by omega)) rfl (fun t' a' c hn => cellOf_ne rfl (fun _ => rfl) (fun _ => rfl) (fun k => up3_ne hn)) (fun t' a' k' x1 x2 x3 => hg t' a' k' (hR.2.2.1 t' a' k' x1 x2 x3)) (fun t' a' k' x1 x2 x3 => ?_) ?_
  · rw [show jR (wR h t a k o) t' a' k' = jR h t' a' k' from up3_ne (fun e => absurd ht (by omega))]
    exact hR.2.2.2.1 t' a' k' x1 x2 x3
  · rw [cellOf_obj ht]
    exact congrArg (fun z => (Sum.inr (t, z) : va_E)) (flds_set (v := .inr (.inr (n, o))) (fun j hj => gf_ne rfl rfl (up3_k hj)) (by rw [gf_R hf]; exact congrArg (fun z => Sum.inr (Sum.inr (n, z))) (up3_eq _ _ _ _ _)))
theorem gf_arr {h h' : Hp} {t a k : Nat} (hI : ∀ t' a' k', t' < 12 → jI h' t' a' k' = jI h t' a' k') (hL : jL h' = jL h) (hRR : ∀ t' a' k', t' < 12 → jR h' t' a' k' = jR h t' a' k') (ht : t < 12) : gf h' t a k = gf h t a k := gf_ne (hI t a k ht) (by rw [hL]) (hRR t a k ht)
/-- an int is written into a row -/
theorem Rel.putA {h : Hp} {ws : va_W} {tys : List (ClassId × FieldType)} {φ : Nat → Nat → Nat} (hR : Rel h ws tys φ) {t a k i : Nat} {cA : ClassId} (x : Int32) (ht : 21 ≤ t) (ht2 : t < 25) (ha : a < jN h t) (hi : ws[i]? = some (φ t a, cellOf h φ cA t a)) (hj : ∃ j : Nat, tys[j]? = some (cA, atf t)) : Rel (wI h t a k x) (ws.set i (φ t a, .inl (cA, jLen h t a, .inl (upd (jI h t a) k x)))) tys φ := by
  refine hR.set (h' := wI h t a k x) (t := t) (a := a) (cA := cA) (by unfold hrg; simp [Nat.blt_eq, Nat.ble_eq]; omega) ha hi (fun _ => hj) rfl (fun t' a' c hn => cellOf_ne rfl (fun k => up3_ne hn) (fun _ => rfl) (fun _ => rfl)) (fun t' a' k' x1 x2 x3 => ?_) (fun t' a' k' x1 x2 x3 => hR.2.2.2.1 t' a' k' x1 x2 x3) ?_
  · have eg : gf (wI h t a k x) t' a' k' = gf h t' a' k' := gf_ne (up3_ne (fun e => absurd x1 (by omega))) rfl rfl
    rw [eg]
    exact hR.2.2.1 t' a' k' x1 x2 x3
  · rw [cellOf_int (by omega) ht2]
    have : upd (jI h t a) k x = jI (wI h t a k x) t a := by
      funext j
      show (if j = k then x else jI h t a j) = if t = t ∧ a = a ∧ j = k then x else jI h t a j
      by_cases e : j = k
      · rw [if_pos e, if_pos ⟨rfl, rfl, e⟩]
      · rw [if_neg e, if_neg (fun q => e q.2.2)]
    rw [this]
    rfl
theorem Rel.putB {h : Hp} {ws : va_W} {tys : List (ClassId × FieldType)} {φ : Nat → Nat → Nat} (hR : Rel h ws tys φ) {t a k i : Nat} {cA : ClassId} (o : Option Nat) (ht : 30 ≤ t) (ht2 : t < 40) (ha : a < jN h t) (hv : vok h (vR (t - 30) o)) (hi : ws[i]? = some (φ t a, cellOf h φ cA t a)) (hj : ∃ j : Nat, tys[j]? = some (cA, atf t)) : Rel (wR h t a k o) (ws.set i (φ t a, .inl (cA, jLen h t a, .inr (.inr (.inr (.inr (va_up (fun k => (jR h t a k).map (φ (t - 30))) k (o.map (φ (t - 30)))))))))) tys φ := by
  refine hR.set (h' := wR h t a k o) (t := t) (a := a) (cA := cA) (by unfold hrg; simp [Nat.blt_eq, Nat.ble_eq]; omega) ha hi (fun _ => hj) rfl (fun t' a' c hn => cellOf_ne rfl (fun _ => rfl) (fun _ => rfl) (fun k => up3_ne hn)) (fun t' a' k' x1 x2 x3 => ?_) (fun t' a' k' x1 x2 x3 => ?_) ?_
  · have eg : gf (wR h t a k o) t' a' k' = gf h t' a' k' := gf_ne rfl rfl (up3_ne (fun e => absurd x1 (by omega)))
    rw [eg]
    exact hR.2.2.1 t' a' k' x1 x2 x3
  · by_cases e : t' = t ∧ a' = a ∧ k' = k
    · obtain ⟨rfl, rfl, rfl⟩ := e
      rw [show jR (wR h t' a' k' o) t' a' k' = o from up3_eq _ _ _ _ _]
      exact hv
    · rw [show jR (wR h t a k o) t' a' k' = jR h t' a' k' from if_neg e]
      exact hR.2.2.2.1 t' a' k' x1 x2 x3
  · rw [cellOf_ref (by omega)]
    have : (va_up (fun k => (jR h t a k).map (φ (t - 30))) k (o.map (φ (t - 30)))) = fun j => (jR (wR h t a k o) t a j).map (φ (t - 30)) := by
      funext j
      show (if j = k then o.map (φ (t - 30)) else (jR h t a j).map (φ (t - 30))) = Option.map (φ (t - 30)) (if t = t ∧ a = a ∧ j = k then o else jR h t a j)
      by_cases e : j = k
      · rw [if_pos e, if_pos ⟨rfl, rfl, e⟩]
      · rw [if_neg e, if_neg (fun q => e q.2.2)]
    rw [this]
    rfl
end
section
/-! branches, and rows of single heap steps -/
theorem trv_inj {h : Hp} {ws : va_W} {tys : List (ClassId × FieldType)} {φ : Nat → Nat → Nat} (hR : Rel h ws tys φ) {t : Nat} (ht : t < 12) {o1 o2 : Option Nat} (h1 : vok h (vR t o1)) (h2 : vok h (vR t o2)) : o1.map (φ t) = o2.map (φ t) ↔ o1 = o2 := by
  constructor
  · intro e
    have hr : hrg t = true := by unfold hrg; simp [Nat.blt_eq, ht]
    cases o1 with
    | none =>
      cases o2 with
      | none => rfl
      | some b => cases e
    | some a =>
      cases o2 with
      | none => cases e
      | some b => rw [(hR.2.1 t a t b hr hr h1 h2 (Option.some.inj e)).2]
  · intro e; rw [e]
section SND2
variable {p : Program} {l : Launch} {e : Env} {R : Room} {s : State} {m : MethodId} {args : Array Value} {below : List Frame} {meth : Method} {c : Code} {H : Heap} {locs : List Loc} {cells slots : Nat} {Qw : State → Prop}
variable {cc : ByteArray} {A : Nat → Prop} {φ : Nat → Nat → Nat} {nL : Nat} {L : Array Slot} {ls st : List AV} {own pc : Nat} {h : Hp} {ws : va_W} {tys : List (ClassId × FieldType)} {D : va_G}
set_option maxHeartbeats 4000000 in
theorem snd2 (hx : p.tables.exec = Jvm.exec) (hb : c.code = cc) (hR : Rel h ws tys φ) (hv : ∀ v ∈ st, vok h v) {i : Instr} (hdg : decode cc pc = .ok (i, ilen i)) {q : Prop × Nat × List AV} (h1 : br1 i pc st = some q)
    (kt : q.1 → W p l e R s m args below meth c H locs cells slots Qw (F0 m q.2.1 L (q.2.2.map (trv φ)))) (kf : ¬ q.1 → W p l e R s m args below meth c H locs cells slots Qw (F0 m (pc + 3) L (q.2.2.map (trv φ)))) : W p l e R s m args below meth c H locs cells slots Qw (F0 m pc L (st.map (trv φ))) := by
  cases i
  case ifCond k off =>
    dsimp only [br1] at h1
    split at h1
    · obtain ⟨t, ht, rfl⟩ := Option.map_eq_some_iff.mp h1
      have ht := jto_ex ht
      cases k
      · exact lv_if_eq hx hb hdg ht kt kf
      · exact lv_if_ne hx hb hdg ht kt (fun z => kf (fun z' => z' z))
      · exact lv_if_lt hx hb hdg ht kt kf
      · exact lv_if_ge hx hb hdg ht kt kf
      · exact lv_if_gt hx hb hdg ht kt kf
      · exact lv_if_le hx hb hdg ht kt kf
    · cases h1
  case if_icmp k off =>
    dsimp only [br1] at h1
    split at h1
    · obtain ⟨t, ht, rfl⟩ := Option.map_eq_some_iff.mp h1
      have ht := jto_ex ht
      cases k
      · exact lv_icmp_eq hx hb hdg ht kt kf
      · exact lv_icmp_ne hx hb hdg ht kt (fun z => kf (fun z' => z' z))
      · exact lv_icmp_lt hx hb hdg ht kt kf
      · exact lv_icmp_ge hx hb hdg ht kt kf
      · exact lv_icmp_gt hx hb hdg ht kt kf
      · exact lv_icmp_le hx hb hdg ht kt kf
    · cases h1
  case if_acmp k off =>
    dsimp only [br1] at h1
    split at h1
    · rename_i t1 o1 t2 o2 r
      split at h1
      · rename_i hbt
        simp only [Bool.and_eq_true, Nat.blt_eq] at hbt
        have e12 : t1 = t2 := Nat.eq_of_beq_eq_true hbt.1
        subst e12
        obtain ⟨t, ht, rfl⟩ := Option.map_eq_some_iff.mp h1
        have ht := jto_ex ht
        have hi : o2.map (φ t1) = o1.map (φ t1) ↔ o2 = o1 := trv_inj hR hbt.2 (hv _ (List.mem_cons_of_mem _ List.mem_cons_self)) (hv _ List.mem_cons_self)
        cases k
        · exact lv_acmp_eq hx hb hdg ht (fun z => kt (hi.mp z)) (fun z => kf (fun z' => z (hi.mpr z')))
        · exact lv_acmp_ne hx hb hdg ht (fun z => kt (fun z' => z (hi.mpr z'))) (fun z => kf (fun z' => z' (hi.mp z)))
      · cases h1
    · cases h1
  case ifnull off =>
    dsimp only [br1] at h1
    split at h1
    · rename_i t0 o r
      obtain ⟨t, ht, rfl⟩ := Option.map_eq_some_iff.mp h1
      have ht := jto_ex ht
      cases o with
      | none => exact lv_ifnullN hx hb hdg ht (kt rfl)
      | some a => exact lv_ifnull hx hb hdg (kf (fun z => by cases z))
    · cases h1
  case ifnonnull off =>
    dsimp only [br1] at h1
    split at h1
    · rename_i t0 o r
      obtain ⟨t, ht, rfl⟩ := Option.map_eq_some_iff.mp h1
      have ht := jto_ex ht
      cases o with
      | none => exact lv_ifnonnullN hx hb hdg (kf (fun z => z rfl))
      | some a => exact lv_ifnonnull hx hb hdg ht (kt (fun z => by cases z))
    · cases h1
  all_goals cases h1
end SND2
/-- the world at a point of a walk -/
def Wld (D : va_G) (A : Nat → Prop) (s : State) (h : Hp) (φ : Nat → Nat → Nat) (ws : va_W) (tys : List (ClassId × FieldType)) (H : Heap) (locs : List Loc) : Prop :=
  Rel h ws tys φ ∧ va_K D clsL tys s ∧ va_P D clsL ws H ∧ va_D A ws ∧ va_S A s.heap H locs ∧ Rom φ A s s.heap
theorem fld_ex {own idx t k ns : Nat} (hf : fld own idx = some (t, k, ns)) : (t = 40 ∧ ((k = 0 ∧ Cond.fieldLink (cnm own) idx "java/lang/String" "value" "[B" ∈ lw_good) ∨ (k = 1 ∧ Cond.fieldLink (cnm own) idx "java/lang/String" "coder" "B" ∈ lw_good))) ∨ (t < 12 ∧ k < nfl t ∧ ((ns = 0 ∧ Cond.fieldLink (cnm own) idx (TRs t k).1 (TRs t k).2.1 (TRs t k).2.2.1 ∈ lw_good) ∨ (ns ≠ 0 ∧ Cond.fieldLinkNest (cnm own) idx (TRs t k).1 (TRs t k).2.1 (TRs t k).2.2.1 "HeraldDesk" ∈ nestL))) := by
  obtain ⟨j, hj⟩ := all_zip fld_ok fld_len _ (lk2_mem hf)
  unfold chkF at hj
  split at hj
  · rename_i e
    simp only [Prod.mk.injEq] at e
    obtain ⟨⟨rfl, rfl, rfl, rfl, -⟩, rfl⟩ := e
    left
    split at hj
    · exact ⟨rfl, Or.inl ⟨rfl, wOK_mem hj⟩⟩
    · exact ⟨rfl, Or.inr ⟨rfl, wOK_mem hj⟩⟩
    · cases hj
  · rename_i e
    simp only [Prod.mk.injEq] at e
    obtain ⟨⟨rfl, rfl, rfl, rfl, rfl⟩, rfl⟩ := e
    simp only [Bool.and_eq_true, Nat.blt_eq] at hj
    exact Or.inr ⟨hj.1.1.1, hj.1.1.2, Or.inl ⟨rfl, wOK_mem hj.2⟩⟩
  · rename_i hn e
    simp only [Prod.mk.injEq] at e
    obtain ⟨⟨rfl, rfl, rfl, rfl, rfl⟩, rfl⟩ := e
    simp only [Bool.and_eq_true, Nat.blt_eq, decide_eq_true_eq] at hj
    refine Or.inr ⟨hj.1.1.1, hj.1.1.2, Or.inr ⟨fun z => ?_, List.mem_of_getElem? hj.2⟩⟩
    subst z
    exact hn rfl
theorem lay_in {t : Nat} (ht : t < 12) : ∀ w ∈ u_ws (cnm t) (TRs t) (nfl t), w ∈ lw_good := by
  intro w hw
  unfold u_ws at hw
  obtain ⟨k, hk, rfl⟩ := List.mem_map.mp hw
  have h := List.all_eq_true.mp (List.all_eq_true.mp chkL_ok t (List.mem_range.mpr ht)) k hk
  simp only [Bool.and_eq_true] at h
  exact wOK_mem h.1
theorem ty_at {t : Nat} (ht : t < 12) : ∀ k, k < nfl t → parseFieldDescriptor (TRs t k).2.2.1 = some (tyRs t k) := by
  intro k hk
  have h := List.all_eq_true.mp (List.all_eq_true.mp chkL_ok t (List.mem_range.mpr ht)) k (List.mem_range.mpr hk)
  simp only [Bool.and_eq_true, decide_eq_true_eq] at h
  exact h.2
theorem nm_at {t : Nat} (ht : t < 12) : ∀ a, a < nfl t → ∀ b, b < nfl t → a ≠ b → (TRs t a).2.1 ≠ (TRs t b).2.1 := by
  intro a ha b hb hab he
  have h := List.all_eq_true.mp (List.all_eq_true.mp (List.all_eq_true.mp chkNm_ok t (List.mem_range.mpr ht)) a (List.mem_range.mpr ha)) b (List.mem_range.mpr hb)
  simp only [Bool.or_eq_true, Bool.not_eq_true', beq_eq_false_iff_ne, ne_eq] at h
  rcases h with h | h
  · exact hab (Nat.eq_of_beq_eq_true h)
  · exact h he
section SND3
variable {p : Program} {l : Launch} {e : Env} {R : Room} {s : State} {m : MethodId} {args : Array Value} {below : List Frame} {meth : Method} {c : Code} {H : Heap} {locs : List Loc} {cells slots : Nat} {Qw : State → Prop}
variable {cc : ByteArray} {A : Nat → Prop} {φ : Nat → Nat → Nat} {L : Array Slot} {rest : List Value} {own pc idx : Nat} {h : Hp} {ws : va_W} {tys : List (ClassId × FieldType)} {D : va_G}
theorem s_getf (hx : p.tables.exec = Jvm.exec) (hb : c.code = cc) (hown : s.vm.findClass (cnm own) = some m.cls) (hts : ∀ w ∈ lw_good, w.before args s = true) (hw : Wld D A s h φ ws tys H locs) {t k ns a : Nat} (hf : fld own idx = some (t, k, ns)) (ht : t ≠ 40) (ha : a < jN h t) (hdg : decode cc pc = .ok (.getfield idx, 3))
    (kk : W p l e R s m args below meth c H locs cells slots Qw (F0 m (pc + 3) L (trv φ (gf h t a k) :: rest))) : W p l e R s m args below meth c H locs cells slots Qw (F0 m pc L (.ref (φ t a) :: rest)) := by
  obtain ⟨hR, hK, hP, hD, hS, hrom⟩ := hw
  rcases fld_ex hf with ⟨h40, -⟩ | ⟨h12, hk, hl⟩
  · exact absurd h40 ht
  · obtain ⟨i, cA, hi, -⟩ := hR.1 t a (by unfold hrg; simp [Nat.blt_eq, h12]) ha
    rw [cellOf_obj h12] at hi
    rcases hl with ⟨-, hl⟩ | ⟨-, hl⟩
    · exact va_get (C := cnm t) (T := TRs t) (N := nfl t) hx hb hts (lay_in h12) hown hK hP i hi (cls_at t h12) k hk (hts _ hl) (fun _ z => z) (flds_at hk) hdg kk
    · exact va_getN (C := cnm t) (T := TRs t) (N := nfl t) hx hb hts (lay_in h12) hown hK hP i hi (cls_at t h12) k hk (va_Nw.use rfl (hrom.2.2.2.2.2.2.2.2.1 _ hl)) (fun _ z => z) (flds_at hk) hdg kk
theorem s_gets (hx : p.tables.exec = Jvm.exec) (hb : c.code = cc) (hown : s.vm.findClass (cnm own) = some m.cls) (hts : ∀ w ∈ lw_good, w.before args s = true) (hw : Wld D A s h φ ws tys H locs) {k ns a : Nat} (hf : fld own idx = some (40, k, ns)) (ha : a < jN h 40) (hdg : decode cc pc = .ok (.getfield idx, 3))
    (kk : W p l e R s m args below meth c H locs cells slots Qw (F0 m (pc + 3) L (trv φ (gfs a k) :: rest))) : W p l e R s m args below meth c H locs cells slots Qw (F0 m pc L (.ref (φ 40 a) :: rest)) := by
  obtain ⟨hR, hK, hP, hD, hS, hrom⟩ := hw
  rw [hR.2.2.2.2.1] at ha
  obtain ⟨-, g2, g3, -⟩ := hrom.1 a ha
  rcases fld_ex hf with ⟨-, ⟨rfl, hl⟩ | ⟨rfl, hl⟩⟩ | ⟨h12, -⟩
  · exact vk_getf hx hb g3 hS hown (hts _ hl) (fun _ z => z) hdg kk
  · exact vk_getf hx hb g2 hS hown (hts _ hl) (fun _ z => z) hdg kk
  · exact absurd h12 (by omega)
end SND3
end
section
/-! rows of single heap steps: puts, rows, new cells -/
theorem beqT {a b : Nat} : (Nat.beq a b = true) = (a = b) := propext ⟨Nat.eq_of_beq_eq_true, fun h => by rw [h]; exact Nat.beq_refl b⟩
theorem atf_ref {t : Nat} (h : 25 ≤ t) : atf t = .object (cnm (t - 30)) := by
  unfold atf
  split
  · omega
  · omega
  · omega
  · omega
  · rfl
theorem D_new {A : Nat → Prop} {ws : va_W} {q : Nat} {e : va_E} (h : va_D A (ws ++ [(q, e)])) : ∀ (i : Nat) (p : Nat × va_E), ws[i]? = some p → p.1 ≠ q := by
  intro i p hp he
  have hlt : i < ws.length := (List.getElem?_eq_some_iff.mp hp).1
  have := h.1 i ws.length p (q, e) (by rw [List.getElem?_append_left hlt]; exact hp) (by rw [List.getElem?_append_right (Nat.le_refl _), Nat.sub_self]; rfl) he
  omega
theorem mk_I (h : Hp) (t n sl k : Nat) : jI (mk h t n sl) t (jN h t) k = 0 := if_pos ⟨rfl, rfl⟩
theorem mk_L (h : Hp) (t n sl k : Nat) : jL (mk h t n sl) t (jN h t) k = 0 := if_pos ⟨rfl, rfl⟩
theorem mk_R (h : Hp) (t n sl k : Nat) : jR (mk h t n sl) t (jN h t) k = none := if_pos ⟨rfl, rfl⟩
theorem mk_len (h : Hp) (t n sl : Nat) : jLen (mk h t n sl) t (jN h t) = n := if_pos ⟨rfl, rfl⟩
theorem gf_mk {h : Hp} {t n sl k : Nat} {φ : Nat → Nat → Nat} (ht : t < 12) (hk : k < nfl t) : trv φ (gf (mk h t n sl) t (jN h t) k) = defaultValue (tyRs t k) := by
  have hg := kOk_at ht hk
  unfold kOk at hg
  unfold gf
  split at hg
  · rename_i e0
    simp only [decide_eq_true_eq] at hg
    rw [e0, hg, mk_I]
    rfl
  · rename_i e0
    simp only [decide_eq_true_eq] at hg
    rw [e0, hg, mk_L]
    rfl
  · rename_i e0
    simp only [decide_eq_true_eq] at hg
    rw [e0, hg, mk_I]
    rfl
  · cases hg
  · cases hg
  · rename_i n0 e0
    rw [e0, mk_R]
    split at hg
    · rename_i e1; rw [e1]; rfl
    · rename_i e1; rw [e1]; rfl
    · cases hg
theorem Rom.phi {φ φ' : Nat → Nat → Nat} {A : Nat → Prop} {s : State} {H : Heap} {h : Hp} {ws : va_W} {tys : List (ClassId × FieldType)} (he : ∀ t a, a < jN h t → φ' t a = φ t a) (hR : Rel h ws tys φ) (hr : Rom φ A s H) : Rom φ' A s H := by
  obtain ⟨-, -, -, -, n0, n1, n2⟩ := hR
  have e0 : ∀ i, i < 34 → φ' 40 i = φ 40 i := fun i hi => he 40 i (by rw [n0]; exact hi)
  have e1 : ∀ i, i < 34 → φ' 41 i = φ 41 i := fun i hi => he 41 i (by rw [n1]; exact hi)
  have e2 : ∀ i, i < 3 → φ' 42 i = φ 42 i := fun i hi => he 42 i (by rw [n2]; exact hi)
  obtain ⟨h1, h2, h3, h4, h5, h6, h7⟩ := hr
  refine ⟨fun i hi => ?_, fun own idx id hl => ?_, fun a ha => ?_, ?_, ?_, ?_, h7⟩
  · rw [e0 i hi, e1 i hi]; exact h1 i hi
  · have := List.all_eq_true.mp (show strL.all (fun q => Nat.blt q.2.2 34) = true by decide +kernel) _ (lk2_mem hl)
    rw [e0 id (Nat.blt_eq.mp this)]
    exact h2 own idx id hl
  · rw [e2 a ha]; exact h3 a ha
  · rw [e2 0 (by decide)]; exact h4
  · rw [e2 1 (by decide)]; exact h5
  · rw [e2 2 (by decide)]; exact h6
section SND4
variable {p : Program} {l : Launch} {e : Env} {R : Room} {s : State} {m : MethodId} {args : Array Value} {below : List Frame} {meth : Method} {c : Code} {H : Heap} {locs : List Loc} {cells slots : Nat} {Qw : State → Prop}
variable {cc : ByteArray} {A : Nat → Prop} {φ : Nat → Nat → Nat} {L : Array Slot} {rest : List Value} {own pc idx : Nat} {h : Hp} {ws : va_W} {tys : List (ClassId × FieldType)} {D : va_G}
theorem s_putf (hx : p.tables.exec = Jvm.exec) (hb : c.code = cc) (hown : s.vm.findClass (cnm own) = some m.cls) (hts : ∀ w ∈ lw_good, w.before args s = true) (hw : Wld D A s h φ ws tys H locs) {t k ns a : Nat} (hf : fld own idx = some (t, k, ns)) (ht : t ≠ 40) (ha : a < jN h t) {v : AV} {h' : Hp} (hn : narrow (tyRs t k) (trv φ v) = trv φ v) (hfit : fits (tyRs t k) (trv φ v) = true)
    (hfin : (TRs t k).2.2.2 = true → ns = 0 ∧ meth.name = "<init>" ∧ (TRs t k).1 = cnm own)
    (hrel : ∀ (i : Nat) (cA : ClassId), t < 12 → k < nfl t → ws[i]? = some (φ t a, cellOf h φ cA t a) → Rel h' (ws.set i (φ t a, .inr (t, (flds h φ t a).set k (trv φ v)))) tys φ) (hdg : decode cc pc = .ok (.putfield idx, 3))
    (kk : ∀ (ws' : va_W) (H1 : Heap) (locs1 : List Loc), Wld D A s h' φ ws' tys H1 locs1 → W p l e R s m args below meth c H1 locs1 cells slots Qw (F0 m (pc + 3) L rest)) : W p l e R s m args below meth c H locs cells slots Qw (F0 m pc L (trv φ v :: .ref (φ t a) :: rest)) := by
  obtain ⟨hR, hK, hP, hD, hS, hrom⟩ := hw
  rcases fld_ex hf with ⟨h40, -⟩ | ⟨h12, hk, hl⟩
  · exact absurd h40 ht
  · obtain ⟨i, cA, hi, -⟩ := hR.1 t a (by unfold hrg; simp [Nat.blt_eq, h12]) ha
    have hr2 := hrel i cA h12 hk hi
    rw [cellOf_obj h12] at hi
    have hlen : k < (flds h φ t a).length := by rw [flds_len]; exact hk
    cases hfb : (TRs t k).2.2.2 with
    | true =>
      obtain ⟨hns, hname, hdecl⟩ := hfin hfb
      rcases hl with ⟨-, hl⟩ | ⟨hne, -⟩
      · exact va_putF (C := cnm t) (T := TRs t) (N := nfl t) hx hb hts (lay_in h12) (tyRs t) (ty_at h12) (nm_at h12) hown hK hP hD hS i hi (cls_at t h12) k hk (hts _ hl) (fun _ z => z) hfb hname hdecl (ty_at h12 k hk) hn hfit hlen hdg (fun H1 locs1 q1 q2 q3 => kk _ H1 locs1 ⟨hr2, hK, q1, q2, q3, hrom⟩)
      · exact absurd hns hne
    | false =>
      rcases hl with ⟨-, hl⟩ | ⟨-, hl⟩
      · exact va_put (C := cnm t) (T := TRs t) (N := nfl t) hx hb hts (lay_in h12) (tyRs t) (ty_at h12) (nm_at h12) hown hK hP hD hS i hi (cls_at t h12) k hk (hts _ hl) (fun _ z => z) hfb (ty_at h12 k hk) hn hfit hlen hdg (fun H1 locs1 q1 q2 q3 => kk _ H1 locs1 ⟨hr2, hK, q1, q2, q3, hrom⟩)
      · exact va_putN (C := cnm t) (T := TRs t) (N := nfl t) hx hb hts (lay_in h12) (tyRs t) (ty_at h12) (nm_at h12) hown hK hP hD hS i hi (cls_at t h12) k hk (va_Nw.use rfl (hrom.2.2.2.2.2.2.2.2.1 _ hl)) (fun _ z => z) hfb (ty_at h12 k hk) hn hfit hlen hdg (fun H1 locs1 q1 q2 q3 => kk _ H1 locs1 ⟨hr2, hK, q1, q2, q3, hrom⟩)
theorem hrg_int {t : Nat} (h1 : 21 ≤ t) (h2 : t < 25) : hrg t = true := by
  unfold hrg
  simp only [Bool.or_eq_true, Bool.and_eq_true, Nat.blt_eq, Nat.ble_eq]
  omega
theorem hrg_ref {t : Nat} (h1 : 30 ≤ t) (h2 : t < 40) : hrg t = true := by
  unfold hrg
  simp only [Bool.or_eq_true, Bool.and_eq_true, Nat.blt_eq, Nat.ble_eq]
  omega
/-- the cell of a row of ints -/
theorem at_int (hw : Wld D A s h φ ws tys H locs) {t a : Nat} (h1 : 21 ≤ t) (h2 : t < 25) (ha : a < jN h t) : ∃ (i : Nat) (cA : ClassId) (j : Nat), ws[i]? = some (φ t a, cellOf h φ cA t a) ∧ ws[i]? = some (φ t a, .inl (cA, jLen h t a, .inl (jI h t a))) ∧ tys[j]? = some (cA, atf t) := by
  obtain ⟨i, cA, hi, hj⟩ := hw.1.1 t a (hrg_int h1 h2) ha
  obtain ⟨j, hj⟩ := hj (by omega)
  exact ⟨i, cA, j, hi, by rw [hi, cellOf_int (by omega) h2], hj⟩
theorem at_ref (hw : Wld D A s h φ ws tys H locs) {t a : Nat} (h1 : 30 ≤ t) (h2 : t < 40) (ha : a < jN h t) : ∃ (i : Nat) (cA : ClassId) (j : Nat), ws[i]? = some (φ t a, cellOf h φ cA t a) ∧ ws[i]? = some (φ t a, .inl (cA, jLen h t a, .inr (.inr (.inr (.inr (fun k => (jR h t a k).map (φ (t - 30)))))))) ∧ tys[j]? = some (cA, .object (cnm (t - 30))) := by
  obtain ⟨i, cA, hi, hj⟩ := hw.1.1 t a (hrg_ref h1 h2) ha
  obtain ⟨j, hj⟩ := hj (by omega)
  exact ⟨i, cA, j, hi, by rw [hi, cellOf_ref (by omega)], by rw [hj, atf_ref (by omega)]⟩
theorem s_ald (hx : p.tables.exec = Jvm.exec) (hb : c.code = cc) (hw : Wld D A s h φ ws tys H locs) {i : Instr} {t a : Nat} {j : Int32} (hok : okA i t = true) (ha : a < jN h t) (hi : i = .iaload ∨ i = .baload ∨ i = .caload) (hdg : decode cc pc = .ok (i, 1))
    (kk : lda h t a j (fun v => W p l e R s m args below meth c H locs cells slots Qw (F0 m (pc + 1) L (trv φ v :: rest)))) : W p l e R s m args below meth c H locs cells slots Qw (F0 m pc L (.int j :: .ref (φ t a) :: rest)) := by
  have hw0 := hw
  obtain ⟨hR, hK, hP, hD, hS, hrom⟩ := hw
  rcases hi with rfl | rfl | rfl
  · simp only [okA, Bool.or_eq_true, beqT] at hok
    rcases hok with rfl | rfl
    · obtain ⟨q, cA, jj, -, g2, g3⟩ := at_int hw0 (by decide) (by decide) ha
      exact va_iald hx hb hK hP q jj g2 g3 kk.1 hdg kk.2
    · rw [hR.2.2.2.2.2.2] at ha
      exact va_ti hx hb (hrom.2.2.1 a ha) hS kk.1 rfl hdg kk.2
  · simp only [okA, Bool.or_eq_true, beqT] at hok
    rcases hok with (rfl | rfl) | rfl
    · obtain ⟨q, cA, jj, -, g2, g3⟩ := at_int hw0 (by decide) (by decide) ha
      exact va_bald hx hb hK hP q jj g2 g3 kk.1 hdg kk.2
    · obtain ⟨q, cA, jj, -, g2, g3⟩ := at_int hw0 (by decide) (by decide) ha
      exact va_zald hx hb hK hP q jj g2 g3 kk.1 hdg kk.2
    · rw [hR.2.2.2.2.2.1] at ha
      exact va_tb hx hb (hrom.1 a ha).2.2.2 hS kk.1 rfl hdg kk.2
  · simp only [okA, beqT] at hok
    subst hok
    obtain ⟨q, cA, jj, -, g2, g3⟩ := at_int hw0 (by decide) (by decide) ha
    exact va_cald hx hb hK hP q jj g2 g3 kk.1 hdg kk.2
theorem s_ast (hx : p.tables.exec = Jvm.exec) (hb : c.code = cc) (hw : Wld D A s h φ ws tys H locs) {i : Instr} {t a : Nat} {j x : Int32} (hok : okA i t = true) (ha : a < jN h t) (hi : i = .iastore ∨ i = .bastore ∨ i = .castore) (hdg : decode cc pc = .ok (i, 1))
    (kk : sta h t a j x (fun h' => ∀ (ws' : va_W) (H1 : Heap) (locs1 : List Loc), Wld D A s h' φ ws' tys H1 locs1 → W p l e R s m args below meth c H1 locs1 cells slots Qw (F0 m (pc + 1) L rest))) : W p l e R s m args below meth c H locs cells slots Qw (F0 m pc L (.int x :: .int j :: .ref (φ t a) :: rest)) := by
  have hw0 := hw
  obtain ⟨hR, hK, hP, hD, hS, hrom⟩ := hw
  rcases hi with rfl | rfl | rfl
  · simp only [okA, beqT] at hok
    subst hok
    obtain ⟨q, cA, jj, g1, g2, g3⟩ := at_int hw0 (by decide) (by decide) ha
    exact va_iast hx hb hK hP hD hS q jj g2 g3 kk.1 hdg (fun H1 locs1 q1 q2 q3 => kk.2 _ H1 locs1 ⟨hR.putA _ (by decide) (by decide) ha g1 ⟨jj, g3⟩, hK, q1, q2, q3, hrom⟩)
  · simp only [okA, Bool.or_eq_true, beqT] at hok
    rcases hok with rfl | rfl
    · obtain ⟨q, cA, jj, g1, g2, g3⟩ := at_int hw0 (by decide) (by decide) ha
      exact va_bast hx hb hK hP hD hS q jj g2 g3 kk.1 hdg (fun H1 locs1 q1 q2 q3 => kk.2 _ H1 locs1 ⟨hR.putA _ (by decide) (by decide) ha g1 ⟨jj, g3⟩, hK, q1, q2, q3, hrom⟩)
    · obtain ⟨q, cA, jj, g1, g2, g3⟩ := at_int hw0 (by decide) (by decide) ha
      exact va_zast hx hb hK hP hD hS q jj g2 g3 kk.1 hdg (fun H1 locs1 q1 q2 q3 => kk.2 _ H1 locs1 ⟨hR.putA _ (by decide) (by decide) ha g1 ⟨jj, g3⟩, hK, q1, q2, q3, hrom⟩)
  · simp only [okA, beqT] at hok
    subst hok
    obtain ⟨q, cA, jj, g1, g2, g3⟩ := at_int hw0 (by decide) (by decide) ha
    exact va_cast hx hb hK hP hD hS q jj g2 g3 kk.1 hdg (fun H1 locs1 q1 q2 q3 => kk.2 _ H1 locs1 ⟨hR.putA _ (by decide) (by decide) ha g1 ⟨jj, g3⟩, hK, q1, q2, q3, hrom⟩)
theorem s_aald (hx : p.tables.exec = Jvm.exec) (hb : c.code = cc) (hw : Wld D A s h φ ws tys H locs) {t a : Nat} {j : Int32} (h1 : 30 ≤ t) (h2 : t < 40) (ha : a < jN h t) (hj : vp_in j (jLen h t a)) (hdg : decode cc pc = .ok (.aaload, 1))
    (kk : W p l e R s m args below meth c H locs cells slots Qw (F0 m (pc + 1) L (trv φ (.inr (.inr (t - 30, jR h t a (ix j)))) :: rest))) : W p l e R s m args below meth c H locs cells slots Qw (F0 m pc L (.int j :: .ref (φ t a) :: rest)) := by
  obtain ⟨q, cA, jj, g1, g2, g3⟩ := at_ref hw h1 h2 ha
  exact va_aldq hx hb hw.2.1 hw.2.2.1 q jj g2 g3 hj hdg kk
theorem s_aast (hx : p.tables.exec = Jvm.exec) (hb : c.code = cc) (hw : Wld D A s h φ ws tys H locs) {t a : Nat} {j : Int32} {o : Option Nat} (h1 : 30 ≤ t) (h2 : t < 40) (ha : a < jN h t) (hj : vp_in j (jLen h t a)) (hv : vok h (vR (t - 30) o)) (hdg : decode cc pc = .ok (.aastore, 1))
    (kk : ∀ (ws' : va_W) (H1 : Heap) (locs1 : List Loc), Wld D A s (wR h t a (ix j) o) φ ws' tys H1 locs1 → W p l e R s m args below meth c H1 locs1 cells slots Qw (F0 m (pc + 1) L rest)) : W p l e R s m args below meth c H locs cells slots Qw (F0 m pc L (va_rf (o.map (φ (t - 30))) :: .int j :: .ref (φ t a) :: rest)) := by
  obtain ⟨q, cA, jj, g1, g2, g3⟩ := at_ref hw h1 h2 ha
  obtain ⟨hR, hK, hP, hD, hS, hrom⟩ := hw
  have hp := hR.putB (k := ix j) o h1 h2 ha hv g1 ⟨jj, by rw [g3, atf_ref (by omega)]⟩
  cases o with
  | none => exact va_astqN hx hb hK hP hD hS q jj g2 g3 hj hdg (fun H1 locs1 q1 q2 q3 => kk _ H1 locs1 ⟨hp, hK, q1, q2, q3, hrom⟩)
  | some b =>
    have h12 : t - 30 < 12 := by omega
    obtain ⟨qk, cB, gk, -⟩ := hR.1 (t - 30) b (by unfold hrg; simp [Nat.blt_eq, h12]) hv
    rw [cellOf_obj h12] at gk
    exact va_astq (r := (cnm (t - 30), TRs (t - 30), nfl (t - 30))) hx hb hK hP hD hS q jj qk (t - 30) g2 g3 gk (cls_at _ h12) hj hdg (fun H1 locs1 q1 q2 q3 => kk _ H1 locs1 ⟨hp, hK, q1, q2, q3, hrom⟩)
theorem s_alen (hx : p.tables.exec = Jvm.exec) (hb : c.code = cc) (hw : Wld D A s h φ ws tys H locs) {t a n : Nat} (hn : alen h t a = some n) (ha : a < jN h t) (hdg : decode cc pc = .ok (.arraylength, 1))
    (kk : W p l e R s m args below meth c H locs cells slots Qw (F0 m (pc + 1) L (.int (Int32.ofNat n) :: rest))) : W p l e R s m args below meth c H locs cells slots Qw (F0 m pc L (.ref (φ t a) :: rest)) := by
  have hw0 := hw
  obtain ⟨hR, hK, hP, hD, hS, hrom⟩ := hw
  unfold alen at hn
  split at hn
  · cases hn
    rw [hR.2.2.2.2.2.1] at ha
    exact va_tlen hx hb (hrom.1 a ha).2.2.2 hS rfl hdg kk
  · cases hn
    rw [hR.2.2.2.2.2.2] at ha
    exact va_tlen hx hb (hrom.2.2.1 a ha) hS rfl hdg kk
  · split at hn
    · rename_i b1 b2
      cases hn
      obtain ⟨q, cA, jj, -, g2, g3⟩ := at_int hw0 (Nat.blt_eq.mp b1) (Nat.blt_eq.mp b2) ha
      exact va_alen hx hb hK hP q jj g2 g3 rfl hdg kk
    · cases hn
theorem s_new (hx : p.tables.exec = Jvm.exec) (hb : c.code = cc) (hown : s.vm.findClass (cnm own) = some m.cls) (hts : ∀ w ∈ lw_good, w.before args s = true) (hw : Wld D A s h φ ws tys H locs) (hA : ∀ q, s.heap.size ≤ q → A q) {t : Nat} (hf : clk own idx = some t) (h12 : t < 12) (hc : cells + 1 ≤ R.cells) (hs : slots + nfl t ≤ R.slots) (hdg : decode cc pc = .ok (.new idx, 3))
    (kk : ∀ (φ' : Nat → Nat → Nat) (ws' : va_W) (H1 : Heap), (∀ t a, a < jN h t → φ' t a = φ t a) → Wld D A s (mk h t 0 (nfl t)) φ' ws' tys H1 locs → W p l e R s m args below meth c H1 locs (cells + 1) (slots + nfl t) Qw (F0 m (pc + 3) L (.ref (φ' t (jN h t)) :: rest))) : W p l e R s m args below meth c H locs cells slots Qw (F0 m pc L rest) := by
  obtain ⟨hR, hK, hP, hD, hS, hrom⟩ := hw
  obtain ⟨j, hj⟩ := all_zip clk_ok clk_len _ (lk2_mem hf)
  have hcl := wOK_mem hj
  have hi := List.all_eq_true.mp chkI_ok t (List.mem_range.mpr h12)
  unfold chkI at hi
  simp only [Bool.and_eq_true] at hi
  refine va_new (C := cnm t) (T := TRs t) (N := nfl t) (ci := t) (fs := flds (mk h t 0 (nfl t)) φ t (jN h t)) hx hb hts (lay_in h12) (tyRs t) (ty_at h12) hown (hts _ hcl) (hts _ (wOK_mem hi.1)) (hts _ (wOK_mem hi.2)) hK hP hD hS hA (cls_at t h12) (fun j hj => ?_) hc hs hdg (fun q H1 q1 q2 q3 => ?_)
  · show _ = (flds (mk h t 0 (nfl t)) φ t (jN h t)).getD j .null
    rw [List.getD_eq_getElem?_getD, flds_at hj]
    exact (gf_mk h12 hj).symm
  · have hq := D_new q2
    obtain ⟨r1, r2⟩ := hR.new (t := t) (q := q) (n := 0) (sl := nfl t) (cA := 0) (ex := []) (e := .inr (t, flds (mk h t 0 (nfl t)) φ t (jN h t))) (by unfold hrg; simp [Nat.blt_eq, h12]) hq rfl (fun z => absurd h12 (by omega)) _ rfl (by
      rw [cellOf_obj h12]
      refine congrArg (fun z => (Sum.inr (t, z) : va_E)) ?_
      unfold flds
      refine List.map_congr_left fun k hk => ?_
      rw [gf_mk h12 (List.mem_range.mp hk), gf_mk h12 (List.mem_range.mp hk)])
    rw [List.append_nil] at r1
    have := kk _ _ H1 r2 ⟨r1, hK, q1, q2, q3, Rom.phi r2 hR hrom⟩
    rw [if_pos ⟨rfl, rfl⟩] at this
    exact this
theorem s_newa (hx : p.tables.exec = Jvm.exec) (hb : c.code = cc) (hts : ∀ w ∈ lw_good, w.before args s = true) (hw : Wld D A s h φ ws tys H locs) (hA : ∀ q, s.heap.size ≤ q → A q) {at' : ArrayType} {n : Int32} (ht : 0 < atyp at') (hn : ¬ n < 0) (hN : ix n ≤ 100000) (hc : cells + 1 ≤ R.cells) (hs : slots + ix n ≤ R.slots) (hdg : decode cc pc = .ok (.newarray at', 2))
    (kk : ∀ (φ' : Nat → Nat → Nat) (ws' : va_W) (tys' : List (ClassId × FieldType)) (H1 : Heap), (∀ t a, a < jN h t → φ' t a = φ t a) → Wld D A s (mk h (atyp at') (ix n) (ix n)) φ' ws' tys' H1 locs → W p l e R s m args below meth c H1 locs (cells + 1) (slots + ix n) Qw (F0 m (pc + 2) L (.ref (φ' (atyp at') (jN h (atyp at'))) :: rest))) : W p l e R s m args below meth c H locs cells slots Qw (F0 m pc L (.int n :: rest)) := by
  obtain ⟨hR, hK, hP, hD, hS, hrom⟩ := hw
  have key : ∀ (ty : FieldType), newarray.typeOf at' = ty → ty = atf (atyp at') → defaultValue ty = .int 0 → componentBytes ty ≤ 8 → Cond.arrayClass ty ∈ lw_good → 21 ≤ atyp at' → atyp at' < 25 → W p l e R s m args below meth c H locs cells slots Qw (F0 m pc L (.int n :: rest)) := by
    intro ty e1 e2 e3 e4 e5 e6 e7
    refine va_newa (ty := ty) (N' := ix n) (a0 := (ix n, .inl (fun _ => 0))) hx hb (by rw [e1]; exact hts _ e5) e1 hK hP hD hS hA (fun cA => by rw [e3]; rfl) hn rfl (by have := Nat.mul_le_mul hN e4; omega) hc hs hdg (fun q cA H1 q0 q1 q2 q3 => ?_)
    have hq := D_new q2
    obtain ⟨r1, r2⟩ := hR.new (t := atyp at') (q := q) (n := ix n) (sl := ix n) (cA := cA) (ex := [(cA, ty)]) (e := .inl (cA, ix n, .inl (fun _ => 0))) (hrg_int e6 e7) hq rfl (fun z => ⟨tys.length, by rw [List.getElem?_append_right (Nat.le_refl _), Nat.sub_self, e2]; rfl⟩) _ rfl (by
      rw [cellOf_int (by omega) e7, mk_len]
      have : jI (mk h (atyp at') (ix n) (ix n)) (atyp at') (jN h (atyp at')) = fun _ => 0 := funext fun k => mk_I h _ _ _ k
      rw [this])
    have := kk _ _ _ H1 r2 ⟨r1, q0, q1, q2, q3, Rom.phi r2 hR hrom⟩
    rw [if_pos ⟨rfl, rfl⟩] at this
    exact this
  cases at' <;> first | exact absurd ht (by decide) | exact key .int rfl rfl rfl (by decide) arc_int (by decide) (by decide) | exact key .byte rfl rfl rfl (by decide) arc_byte (by decide) (by decide) | exact key .char rfl rfl rfl (by decide) arc_char (by decide) (by decide) | exact key .boolean rfl rfl rfl (by decide) arc_boolean (by decide) (by decide)
theorem s_newq (hx : p.tables.exec = Jvm.exec) (hb : c.code = cc) (hown : s.vm.findClass (cnm own) = some m.cls) (hts : ∀ w ∈ lw_good, w.before args s = true) (hw : Wld D A s h φ ws tys H locs) (hA : ∀ q, s.heap.size ≤ q → A q) {t : Nat} {n : Int32} (hf : clk own idx = some t) (ht : t ∈ [1, 3, 5, 7]) (hn : ¬ n < 0) (hN : ix n ≤ 100000) (hc : cells + 1 ≤ R.cells) (hs : slots + ix n ≤ R.slots) (hdg : decode cc pc = .ok (.anewarray idx, 3))
    (kk : ∀ (φ' : Nat → Nat → Nat) (ws' : va_W) (tys' : List (ClassId × FieldType)) (H1 : Heap), (∀ t a, a < jN h t → φ' t a = φ t a) → Wld D A s (mk h (30 + t) (ix n) (ix n)) φ' ws' tys' H1 locs → W p l e R s m args below meth c H1 locs (cells + 1) (slots + ix n) Qw (F0 m (pc + 3) L (.ref (φ' (30 + t) (jN h (30 + t))) :: rest))) : W p l e R s m args below meth c H locs cells slots Qw (F0 m pc L (.int n :: rest)) := by
  obtain ⟨hR, hK, hP, hD, hS, hrom⟩ := hw
  have h10 : t < 10 := by
    simp only [List.mem_cons, List.not_mem_nil, or_false] at ht
    omega
  obtain ⟨j, hj⟩ := all_zip clk_ok clk_len _ (lk2_mem hf)
  have hcl := wOK_mem hj
  refine va_newq (C := cnm t) (N' := ix n) hx hb hown (hts _ hcl) (hrom.2.2.2.2.2.2.2.2.2 t ht) hK hP hD hS hA hn rfl (by omega) hc hs hdg (fun q cA H1 q0 q1 q2 q3 => ?_)
  have hq := D_new q2
  obtain ⟨r1, r2⟩ := hR.new (t := 30 + t) (q := q) (n := ix n) (sl := ix n) (cA := cA) (ex := [(cA, .object (cnm t))]) (e := .inl (cA, ix n, .inr (.inr (.inr (.inr (fun _ => none)))))) (hrg_ref (by omega) (by omega)) hq rfl (fun z => ⟨tys.length, by rw [List.getElem?_append_right (Nat.le_refl _), Nat.sub_self, atf_ref (by omega), Nat.add_sub_cancel_left]; rfl⟩) _ rfl (by
    rw [cellOf_ref (by omega), mk_len]
    have : (fun k => (jR (mk h (30 + t) (ix n) (ix n)) (30 + t) (jN h (30 + t)) k).map ((fun t' a' => if t' = 30 + t ∧ a' = jN h (30 + t) then q else φ t' a') (30 + t - 30))) = fun _ => none := funext fun k => by rw [mk_R]; rfl
    rw [this])
  have := kk _ _ _ H1 r2 ⟨r1, q0, q1, q2, q3, Rom.phi r2 hR hrom⟩
  rw [if_pos ⟨rfl, rfl⟩] at this
  exact this
end SND4
end
section
/-! what the walk of a method needs: values stay good, calls come back -/
theorem vok_gt {h : Hp} {ls : List AV} (hv : ∀ v ∈ ls, vok h v) {k : Nat} {v : AV} (hg : gt ls k = some v) : vok h v := by
  induction ls generalizing k with
  | nil => cases hg
  | cons a r ih =>
    cases k with
    | zero => cases hg; exact hv _ List.mem_cons_self
    | succ k => exact ih (fun v hv' => hv v (List.mem_cons_of_mem _ hv')) hg
theorem vok_stt {h : Hp} {ls : List AV} (hv : ∀ v ∈ ls, vok h v) (k : Nat) {w : AV} (hw : vok h w) : ∀ v ∈ stt ls k w, vok h v := by
  induction ls generalizing k with
  | nil => intro v hv'; cases hv'
  | cons a r ih =>
    cases k with
    | zero =>
      intro v hv'
      rcases List.mem_cons.mp hv' with rfl | hv'
      · exact hw
      · exact hv v (List.mem_cons_of_mem _ hv')
    | succ k =>
      intro v hv'
      rcases List.mem_cons.mp hv' with rfl | hv'
      · exact hv v List.mem_cons_self
      · exact ih (fun v z => hv v (List.mem_cons_of_mem _ z)) k v hv'
theorem vok_cons {h : Hp} {st : List AV} {w : AV} (hw : vok h w) (hv : ∀ v ∈ st, vok h v) : ∀ v ∈ w :: st, vok h v := by
  intro v hv'
  rcases List.mem_cons.mp hv' with rfl | hv'
  · exact hw
  · exact hv v hv'
theorem vok_tl {h : Hp} {st : List AV} {w : AV} (hv : ∀ v ∈ w :: st, vok h v) : ∀ v ∈ st, vok h v := fun v z => hv v (List.mem_cons_of_mem _ z)
theorem vok_st1 {h : Hp} {ls ls' : List AV} (hv : ∀ v ∈ ls, vok h v) {k : Nat} {w : AV} (hw : vok h w) (hs : st1 ls k w = some ls') : ∀ v ∈ ls', vok h v := by
  rw [(st1_lt hs).2]; exact vok_stt hv k hw
set_option maxHeartbeats 4000000 in
theorem step1_vok {h : Hp} (n0 : jN h 40 = 34) (n2 : jN h 42 = 3) {own pc : Nat} {i : Instr} {ls st : List AV} {q : Nat × List AV × List AV} (h1 : step1 own i pc ls st = some q) (hl : ∀ v ∈ ls, vok h v) (hs : ∀ v ∈ st, vok h v) : (∀ v ∈ q.2.1, vok h v) ∧ ∀ v ∈ q.2.2, vok h v := by
  cases i
  case aconst_null => cases h1; exact ⟨hl, vok_cons trivial hs⟩
  case iconst n => cases h1; exact ⟨hl, vok_cons trivial hs⟩
  case bipush n => cases h1; exact ⟨hl, vok_cons trivial hs⟩
  case sipush n => cases h1; exact ⟨hl, vok_cons trivial hs⟩
  case lconst n => cases h1; exact ⟨hl, vok_cons trivial hs⟩
  case ldc k =>
    obtain ⟨w, hw, rfl⟩ := push_ex h1
    obtain ⟨id, hi, rfl⟩ := ldcv_ex hw
    have := List.all_eq_true.mp (show strL.all (fun q => Nat.blt q.2.2 34) = true by decide +kernel) _ (lk2_mem hi)
    exact ⟨hl, vok_cons (show id < jN h 40 by rw [n0]; exact Nat.blt_eq.mp this) hs⟩
  case ldc2_w k =>
    obtain ⟨w, hw, rfl⟩ := push_ex h1
    obtain ⟨x, hm, rfl⟩ := ldjv_ex hw
    exact ⟨hl, vok_cons trivial hs⟩
  case getstatic k =>
    obtain ⟨w, hw, rfl⟩ := push_ex h1
    rcases gstv_ex hw with ⟨rfl, rfl, rfl⟩ | ⟨rfl, rfl, rfl⟩ | ⟨rfl, rfl, rfl⟩ | ⟨rfl, rfl, rfl⟩
    · exact ⟨hl, vok_cons (show 0 < jN h 42 by rw [n2]; decide) hs⟩
    · exact ⟨hl, vok_cons (show 1 < jN h 42 by rw [n2]; decide) hs⟩
    · exact ⟨hl, vok_cons (show 2 < jN h 42 by rw [n2]; decide) hs⟩
    · exact ⟨hl, vok_cons trivial hs⟩
  case iload k => obtain ⟨w, hw, rfl⟩ := push_ex h1; obtain ⟨x, rfl, hg⟩ := ldI_ex hw; exact ⟨hl, vok_cons trivial hs⟩
  case iload_n k => obtain ⟨w, hw, rfl⟩ := push_ex h1; obtain ⟨x, rfl, hg⟩ := ldI_ex hw; exact ⟨hl, vok_cons trivial hs⟩
  case lload k => obtain ⟨w, hw, rfl⟩ := push_ex h1; obtain ⟨x, rfl, hg⟩ := ldJ_ex hw; exact ⟨hl, vok_cons trivial hs⟩
  case lload_n k => obtain ⟨w, hw, rfl⟩ := push_ex h1; obtain ⟨x, rfl, hg⟩ := ldJ_ex hw; exact ⟨hl, vok_cons trivial hs⟩
  case aload k => obtain ⟨w, hw, rfl⟩ := push_ex h1; obtain ⟨t, o, rfl, hg, hu⟩ := ldA_ex hw; exact ⟨hl, vok_cons (vok_gt hl hg) hs⟩
  case aload_n k => obtain ⟨w, hw, rfl⟩ := push_ex h1; obtain ⟨t, o, rfl, hg, hu⟩ := ldA_ex hw; exact ⟨hl, vok_cons (vok_gt hl hg) hs⟩
  case istore k => obtain ⟨x, r, l', rfl, hz, rfl⟩ := toI_ex h1; exact ⟨vok_st1 (w := .inl x) hl trivial hz, vok_tl hs⟩
  case istore_n k => obtain ⟨x, r, l', rfl, hz, rfl⟩ := toI_ex h1; exact ⟨vok_st1 (w := .inl x) hl trivial hz, vok_tl hs⟩
  case lstore k => obtain ⟨x, r, l', rfl, hz, rfl⟩ := toJ_ex h1; exact ⟨by rw [(st2_lt hz).2]; exact vok_stt (vok_stt (w := .inr (.inl x)) hl k trivial) (k + 1) trivial, vok_tl hs⟩
  case lstore_n k => obtain ⟨x, r, l', rfl, hz, rfl⟩ := toJ_ex h1; exact ⟨by rw [(st2_lt hz).2]; exact vok_stt (vok_stt (w := .inr (.inl x)) hl k trivial) (k + 1) trivial, vok_tl hs⟩
  case astore k => obtain ⟨t, o, r, l', rfl, hz, rfl⟩ := toA_ex h1; exact ⟨vok_st1 hl (hs _ List.mem_cons_self) hz, vok_tl hs⟩
  case astore_n k => obtain ⟨t, o, r, l', rfl, hz, rfl⟩ := toA_ex h1; exact ⟨vok_st1 hl (hs _ List.mem_cons_self) hz, vok_tl hs⟩
  case iinc k n =>
    dsimp only [step1] at h1
    split at h1
    · rename_i x hg
      obtain ⟨l', hz, e2⟩ := Option.map_eq_some_iff.mp h1
      subst e2
      exact ⟨vok_st1 (w := .inl (x + Int32.ofInt n)) hl trivial hz, hs⟩
    · cases h1
  case iadd => obtain ⟨x, y, r, rfl, rfl⟩ := bI_ex h1; exact ⟨hl, vok_cons trivial (vok_tl (vok_tl hs))⟩
  case isub => obtain ⟨x, y, r, rfl, rfl⟩ := bI_ex h1; exact ⟨hl, vok_cons trivial (vok_tl (vok_tl hs))⟩
  case imul => obtain ⟨x, y, r, rfl, rfl⟩ := bI_ex h1; exact ⟨hl, vok_cons trivial (vok_tl (vok_tl hs))⟩
  case iand => obtain ⟨x, y, r, rfl, rfl⟩ := bI_ex h1; exact ⟨hl, vok_cons trivial (vok_tl (vok_tl hs))⟩
  case ior => obtain ⟨x, y, r, rfl, rfl⟩ := bI_ex h1; exact ⟨hl, vok_cons trivial (vok_tl (vok_tl hs))⟩
  case ishr => obtain ⟨x, y, r, rfl, rfl⟩ := bI_ex h1; exact ⟨hl, vok_cons trivial (vok_tl (vok_tl hs))⟩
  case iushr => obtain ⟨x, y, r, rfl, rfl⟩ := bI_ex h1; exact ⟨hl, vok_cons trivial (vok_tl (vok_tl hs))⟩
  case ineg => obtain ⟨x, r, rfl, rfl⟩ := uI_ex h1; exact ⟨hl, vok_cons trivial (vok_tl hs)⟩
  case i2b => obtain ⟨x, r, rfl, rfl⟩ := uI_ex h1; exact ⟨hl, vok_cons trivial (vok_tl hs)⟩
  case i2c => obtain ⟨x, r, rfl, rfl⟩ := uI_ex h1; exact ⟨hl, vok_cons trivial (vok_tl hs)⟩
  case land => obtain ⟨x, y, r, rfl, rfl⟩ := bJ_ex h1; exact ⟨hl, vok_cons trivial (vok_tl (vok_tl hs))⟩
  case lor => obtain ⟨x, y, r, rfl, rfl⟩ := bJ_ex h1; exact ⟨hl, vok_cons trivial (vok_tl (vok_tl hs))⟩
  case lshl => obtain ⟨x, y, r, rfl, rfl⟩ := shJ_ex h1; exact ⟨hl, vok_cons trivial (vok_tl (vok_tl hs))⟩
  case lshr => obtain ⟨x, y, r, rfl, rfl⟩ := shJ_ex h1; exact ⟨hl, vok_cons trivial (vok_tl (vok_tl hs))⟩
  case lcmp =>
    dsimp only [step1] at h1
    split at h1
    · cases h1; exact ⟨hl, vok_cons trivial (vok_tl (vok_tl hs))⟩
    · cases h1
  case i2l =>
    dsimp only [step1] at h1
    split at h1
    · cases h1; exact ⟨hl, vok_cons trivial (vok_tl hs)⟩
    · cases h1
  case l2i =>
    dsimp only [step1] at h1
    split at h1
    · cases h1; exact ⟨hl, vok_cons trivial (vok_tl hs)⟩
    · cases h1
  case dup =>
    dsimp only [step1] at h1
    split at h1
    · cases h1; exact ⟨hl, vok_cons trivial hs⟩
    · cases h1; exact ⟨hl, vok_cons (hs _ List.mem_cons_self) hs⟩
    · cases h1
  case dup2 =>
    dsimp only [step1] at h1
    split at h1
    · cases h1; exact ⟨hl, vok_cons trivial (vok_cons (hs _ (List.mem_cons_of_mem _ List.mem_cons_self)) hs)⟩
    · cases h1
  case pop =>
    dsimp only [step1] at h1
    split at h1
    · cases h1; exact ⟨hl, vok_tl hs⟩
    · cases h1; exact ⟨hl, vok_tl hs⟩
    · cases h1
  case goto off =>
    obtain ⟨t, ht, rfl⟩ := Option.map_eq_some_iff.mp h1
    exact ⟨hl, hs⟩
  all_goals cases h1
theorem br1_vok {h : Hp} {pc : Nat} {i : Instr} {st : List AV} {q : Prop × Nat × List AV} (h1 : br1 i pc st = some q) (hs : ∀ v ∈ st, vok h v) : ∀ v ∈ q.2.2, vok h v := by
  cases i
  case ifCond k off =>
    dsimp only [br1] at h1
    split at h1
    · obtain ⟨t, ht, rfl⟩ := Option.map_eq_some_iff.mp h1; exact vok_tl hs
    · cases h1
  case if_icmp k off =>
    dsimp only [br1] at h1
    split at h1
    · obtain ⟨t, ht, rfl⟩ := Option.map_eq_some_iff.mp h1; exact vok_tl (vok_tl hs)
    · cases h1
  case if_acmp k off =>
    dsimp only [br1] at h1
    split at h1
    · split at h1
      · obtain ⟨t, ht, rfl⟩ := Option.map_eq_some_iff.mp h1; exact vok_tl (vok_tl hs)
      · cases h1
    · cases h1
  case ifnull off =>
    dsimp only [br1] at h1
    split at h1
    · obtain ⟨t, ht, rfl⟩ := Option.map_eq_some_iff.mp h1; exact vok_tl hs
    · cases h1
  case ifnonnull off =>
    dsimp only [br1] at h1
    split at h1
    · obtain ⟨t, ht, rfl⟩ := Option.map_eq_some_iff.mp h1; exact vok_tl hs
    · cases h1
  all_goals cases h1
theorem map_ext {h : Hp} {φ φ' : Nat → Nat → Nat} (he : ∀ t a, a < jN h t → φ' t a = φ t a) {st : List AV} (hs : ∀ v ∈ st, vok h v) : st.map (trv φ') = st.map (trv φ) := List.map_congr_left fun v hv => trv_ext he (hs v hv)
theorem prl_ext {h : Hp} {φ φ' : Nat → Nat → Nat} (he : ∀ t a, a < jN h t → φ' t a = φ t a) {ls : List AV} (hs : ∀ v ∈ ls, vok h v) (i : Nat) : prl φ' i ls = prl φ i ls := by
  induction ls generalizing i with
  | nil => rfl
  | cons a r ih =>
    unfold prl
    rw [ih (vok_tl hs), trv_ext he (hs a List.mem_cons_self)]
theorem nest_tab {w : Cond} (hw : w ∈ nestL) : w.onTables = true := by
  obtain ⟨j, hj⟩ := all_zip nest_ok (show nestL.length ≤ nestW.length by decide +kernel) w hw
  unfold nestOk at hj
  simp only [Bool.and_eq_true] at hj
  exact hj.2
/-- the constant things are the same in two states of one vm and heap -/
theorem Rom.blind {φ : Nat → Nat → Nat} {A : Nat → Prop} {s U : State} {H : Heap} (hv : U.vm = s.vm) (h : Rom φ A s H) : Rom φ A U H := by
  have ha : s.vm.Alike U.vm := by rw [hv]; exact Vm.Alike.refl _
  obtain ⟨h1, h2, h3, h4, h5, h6, h7, h8, h9, h10⟩ := h
  refine ⟨fun i hi => ?_, fun own idx id hl => (h2 own idx id hl).same hv, fun a z => (h3 a z).moved ha, h4.moved ha, h5.moved ha, h6.moved ha, h7.moved ha, h8.moved ha, fun w hw => va_Nw.same (nest_tab hw) hv.symm (h9 w hw), fun e he => (h10 e he).moved ha⟩
  obtain ⟨g1, g2, g3, g4⟩ := h1 i hi
  exact ⟨g1.moved ha, g2.moved ha, g3.moved ha, g4.moved ha⟩
section SND5
variable {p : Program} {l : Launch} {e : Env} {R : Room} {s : State} {m : MethodId} {args : Array Value} {below : List Frame} {meth : Method} {c : Code} {H : Heap} {locs : List Loc} {cells slots : Nat} {Qw : State → Prop}
variable {A : Nat → Prop} {L : Array Slot} {rest st0 : List Value} {pc mc ms : Nat} {free : Addr → Prop}
theorem s_call {Qa : State → Outcome → State → Prop} (hr : va_Run p l e R s m args below meth c H locs cells slots mc ms (F0 m pc L st0) rest Qa free) (hS : va_S A s.heap H locs) (hf : ∀ q, free q → A q) (hF : ∀ v st t, st.heap = H → Qa st (.returned v) t → va_F free st t)
    (kk : ∀ (v : Option Value) (st t : State) (H1 : Heap) (locs1 : List Loc), t.heap = H1 → s.vm.Alike t.vm → st.heap = H → Qa st (.returned v) t → va_S A s.heap H1 locs1 → W p l e R s m args below meth c H1 locs1 (cells + mc) (slots + ms) Qw (F0 m (pc + 3) L (v.toList ++ rest))) : W p l e R s m args below meth c H locs cells slots Qw (F0 m pc L st0) := by
  intro T hT X
  obtain ⟨v, st₀, t, T', K, h0, X', hL, e1, e2, hq, st⟩ := hr T hT X
  obtain ⟨hz, hk⟩ := hF v st₀ t h0 hq
  rw [h0] at hz hk
  obtain ⟨t2, a1, b1⟩ := kk v st₀ t T'.heap (locs ++ K) e1.symm (by rw [← e2]; exact X'.warmed.alike) h0 hq
    ⟨Nat.le_trans hS.1 (by rw [e1]; exact hz), fun q h1 h2 => by rw [e1, hk q (Nat.lt_of_lt_of_le h1 hS.1) (fun z => h2 (hf q z))]; exact hS.2.1 q h1 h2, fun q hq => by
      rcases List.mem_append.mp hq with h | h
      · exact hS.2.2 q h
      · exact hf _ (hL q h)⟩ T' rfl X'
  exact ⟨t2, st t2 a1, b1⟩
end SND5
end
section
/-! String.checkIndex, by hand: it looks at its numbers and goes -/
def pckName : MethodName := ⟨"jdk/internal/util/Preconditions", "checkIndex", "(IILjava/util/function/BiFunction;)I"⟩
abbrev pckB : ByteArray := prog_20_method_11_code
abbrev ckB : ByteArray := prog_17_method_155_code
def wsPck : List Cond := [.code pckName pckB 3 (some .int)]
def wsCk : List Cond := .code ckName ckB 2 none :: lw_good
theorem pk_0 : decode pckB 0 = .ok (.iload_n 0, 1) := by decide +kernel
theorem pk_1 : decode pckB 1 = .ok (.ifCond .lt 8, 3) := by decide +kernel
theorem pk_4 : decode pckB 4 = .ok (.iload_n 0, 1) := by decide +kernel
theorem pk_5 : decode pckB 5 = .ok (.iload_n 1, 1) := by decide +kernel
theorem pk_6 : decode pckB 6 = .ok (.if_icmp .lt 10, 3) := by decide +kernel
theorem pk_16 : decode pckB 16 = .ok (.iload_n 0, 1) := by decide +kernel
theorem pk_17 : decode pckB 17 = .ok (.ireturn, 1) := by decide +kernel
theorem ck_0 : decode ckB 0 = .ok (.iload_n 0, 1) := by decide +kernel
theorem ck_1 : decode ckB 1 = .ok (.iload_n 1, 1) := by decide +kernel
theorem ck_2 : decode ckB 2 = .ok (.getstatic 1053, 3) := by decide +kernel
theorem ck_5 : decode ckB 5 = .ok (.invokestatic 1059, 3) := by decide +kernel
theorem ck_8 : decode ckB 8 = .ok (.pop, 1) := by decide +kernel
theorem ck_9 : decode ckB 9 = .ok (.return_, 1) := by decide +kernel
set_option maxRecDepth 100000 in
theorem ckw_1 : Cond.fieldLink "java/lang/String" 1053 "jdk/internal/util/Preconditions" "SIOOBE_FORMATTER" "Ljava/util/function/BiFunction;" ∈ lw_good := wOK_mem (j := 289) (by decide +kernel)
set_option maxRecDepth 100000 in
theorem ckw_2 : Cond.methodLink "java/lang/String" 1059 pckName ∈ lw_good := wOK_mem (j := 369) (by decide +kernel)
set_option maxRecDepth 100000 in
theorem ckw_3 : Cond.code pckName pckB 3 (some .int) ∈ lw_good := List.mem_filter.mpr ⟨List.mem_of_getElem? (show lw_tbl[371]? = some _ from rfl), rfl⟩
set_option maxRecDepth 100000 in
theorem ckw_4 : Cond.initialized "jdk/internal/util/Preconditions" ∈ lw_good := wOK_mem (j := 104) (by decide +kernel)
set_option maxRecDepth 100000 in
theorem ckw_5 : Cond.static pckName ∈ lw_good := wOK_mem (j := 370) (by decide +kernel)
set_option maxRecDepth 100000 in
theorem ckw_6 : Cond.code ckName ckB 2 none ∈ lw_good := List.mem_filter.mpr ⟨List.mem_of_getElem? (show lw_tbl[368]? = some _ from rfl), rfl⟩
set_option maxRecDepth 100000 in
theorem ckw_7 : Cond.static ckName ∈ lw_good := wOK_mem (j := 367) (by decide +kernel)
set_option maxRecDepth 100000 in
theorem ckw_8 : Cond.initialized "java/lang/String" ∈ lw_good := wOK_mem (j := 101) (by decide +kernel)
def ckQ : Option Value → Array Value → State → Outcome → State → Prop := fun v _ st oc t => oc = .returned v ∧ t.heap = st.heap
set_option maxHeartbeats 4000000 in
set_option maxRecDepth 100000 in
theorem c_pck (l : Launch) (i n : Int32) (v : Value) (hv : v = .null ∨ ∃ a, v = .ref a) (h1 : ¬ i < 0) (h2 : i < n) : Met l pckName wsPck ({ frames := 0, cells := 0, slots := 0, locals := 0 }) (va_Pc [.int i, .int n, v] (fun _ => True)) (ckQ (some (.int i))) 0 0 (fun _ => False) := by
  refine Met.ofW (cc := pckB) (maxL := 3) (ret := some .int) (by decide) rfl ?_
  intro p e s m args below meth c s₁ B hml hv0
  obtain ⟨rfl, -⟩ := hv0
  have hx := B.exec
  have hb := B.bytes
  have hr := B.returns
  have hlocks := B.notSynchronized
  have hcat : (lg_sl ([.int i, .int n, v])).length ≤ 3 := by rcases hv with rfl | ⟨a, rfl⟩ <;> exact Nat.le_refl 3
  have hl := lv_entry ([.int i, .int n, v]) (n := 3) hcat
  rw [lg_entry_eq]
  generalize (lg_sl ([.int i, .int n, v]) ++ List.replicate (3 - (lg_sl ([.int i, .int n, v])).length) Slot.unset).toArray = ls at hl ⊢
  refine lv_iload_n hx hb pk_0 rfl (lv_at hl 0 rfl) ?_
  refine lv_if_lt (tgt := 9) hx hb pk_1 (by decide) (fun c => absurd c h1) (fun _ => ?_)
  refine lv_iload_n hx hb pk_4 rfl (lv_at hl 0 rfl) ?_
  refine lv_iload_n hx hb pk_5 rfl (lv_at hl 1 rfl) ?_
  refine lv_icmp_lt (tgt := 16) hx hb pk_6 (by decide) (fun _ => ?_) (fun c => absurd h2 c)
  refine lv_iload_n hx hb pk_16 rfl (lv_at hl 0 rfl) ?_
  exact W.iret (v := i) hx hb hr (fun t ht hW => ⟨rfl, ht⟩) (fun q hq => by cases hq) pk_17
set_option maxHeartbeats 4000000 in
set_option maxRecDepth 100000 in
theorem c_ck (l : Launch) (A : Nat → Prop) (i n : Int32) (h1 : ¬ i < 0) (h2 : i < n) : Met l ckName wsCk ({ frames := 1, cells := 0, slots := 0, locals := 64 }) (va_Pc [.int i, .int n] (fun U => va_Zq "jdk/internal/util/Preconditions" "SIOOBE_FORMATTER" "Ljava/util/function/BiFunction;" A U U.heap)) (ckQ none) 0 0 A := by
  refine Met.ofW (cc := ckB) (maxL := 2) (ret := none) (by decide) rfl ?_
  intro p e s m args below meth c s₁ B hml hv0
  obtain ⟨rfl, hZ⟩ := hv0
  have hx := B.exec
  have hb := B.bytes
  have hr := B.returns
  have hlocks := B.notSynchronized
  have hts := atoms_spec (ws := wsCk) B.pre
  have hts2 : ∀ w ∈ lw_good, w.before #[Value.int i, Value.int n] s = true := fun w hw => hts w (List.mem_cons_of_mem _ hw)
  have hown : s.vm.findClass "java/lang/String" = some m.cls := findClass_of_methodNamed B.named
  have hl := lv_entry ([.int i, .int n]) (n := 2) (Nat.le_of_ble_eq_true rfl)
  rw [lg_entry_eq]
  generalize (lg_sl ([.int i, .int n]) ++ List.replicate (2 - (lg_sl ([.int i, .int n])).length) Slot.unset).toArray = ls at hl ⊢
  have hS : va_S A s.heap s.heap [] := va_S.rf
  have key : ∀ v : Value, (v = .null ∨ ∃ a, v = .ref a) → va_Z "jdk/internal/util/Preconditions" "SIOOBE_FORMATTER" "Ljava/util/function/BiFunction;" v A s s.heap → W p l e (headSpec wsCk { frames := 1, cells := 0, slots := 0, locals := 64 }).room s m #[Value.int i, Value.int n] below meth c s.heap [] 0 0 (MQ below (ckQ none) #[Value.int i, Value.int n] s 0 0 A) (F0 m 0 ls []) := by
    intro v hv hZ
    refine lv_iload_n hx hb ck_0 rfl (lv_at hl 0 rfl) ?_
    refine lv_iload_n hx hb ck_1 rfl (lv_at hl 1 rfl) ?_
    refine va_gets hx hb hZ hS hown (hts2 _ ckw_1) (fun _ z => z) ck_2 ?_
    have hG : GoodIn lw_good wsPck := fun w hw => by
      rcases List.mem_cons.mp hw with rfl | hw
      · exact ⟨ckw_3, good_of_word (lw_good_good ckw_3).2⟩
      · cases hw
    refine s_call (A := A) (free := fun _ => False) (rest := []) (mc := 0) (ms := 0) (Qa := ckQ (some (.int i)) #[.int i, .int n, v]) (va_runS (As := [.int i, .int n, v]) (rest := []) (Ts := lw_good) ⟨hx, hb, hml, hown, hts2⟩ (c_pck l i n v hv h1 h2) ⟨callB_of 3 hts2 hG rfl rfl rfl (hts2 _ ckw_4) (hts2 _ ckw_2) (by decide +kernel) ⟨Nat.le_of_ble_eq_true rfl, Nat.le_of_ble_eq_true rfl⟩, hts2 _ ckw_5⟩ ⟨fun _ _ _ _ q => q, fun U hU hW => ⟨rfl, trivial⟩⟩ rfl rfl hl.1 rfl (lv_room (Nat.le_of_ble_eq_true rfl)) ck_5 ⟨Nat.le_of_ble_eq_true rfl, Nat.le_of_ble_eq_true rfl⟩) hS (fun q z => z.elim) (fun v st t h0 hq => ⟨by rw [hq.2]; exact Nat.le_refl _, fun q _ _ => by rw [hq.2]⟩) ?_
    rintro v1 st t H1 locs1 ht hal h0 ⟨hv1, hh⟩ hS1
    cases hv1
    have eH : H1 = s.heap := by rw [← ht, hh, h0]
    subst eH
    refine lv_pop (va := .int i) hx hb ck_8 rfl ?_
    exact W.vret hx hb hr (fun t ht hW => ⟨rfl, ht⟩) hS1.2.2 ck_9
  rcases hZ with hZ | ⟨t, hZ⟩
  · exact key .null (Or.inl rfl) hZ
  · exact key (.ref t) (Or.inr ⟨t, rfl⟩) hZ
end
section
/-! THE SOUNDNESS OF THE ABSTRACT MACHINE -/
def rmd (d mc ms : Nat) : Room := { frames := d + 2, cells := mc, slots := ms, locals := 64 * d + 192 }
def TW (y : Nat) : List Cond := Cond.code (mNm y) (mBy y) (mLo y) (mRt y) :: lw_good
def PcA (D : va_G) (φ : Nat → Nat → Nat) (ws : va_W) (tys : List (ClassId × FieldType)) (sz : Nat) (as : List AV) : Array Value → State → Prop := va_Pc (as.map (trv φ)) (fun U => U.heap.size = sz ∧ va_K D clsL tys U ∧ va_P D clsL ws U.heap ∧ va_D (fun _ => True) ws ∧ Rom φ (va_A ws sz) U U.heap)
def QcA (D : va_G) (h : Hp) (φ : Nat → Nat → Nat) (ws : va_W) (sz : Nat) (rv : Option AV) (h1 : Hp) : Array Value → State → Outcome → State → Prop := fun _ st oc t => (∃ (ws' : va_W) (tys' : List (ClassId × FieldType)) (φ' : Nat → Nat → Nat), oc = .returned (rv.map (trv φ')) ∧ (∀ v, rv = some v → vok h1 v) ∧ Rel h1 ws' tys' φ' ∧ (∀ t a, a < jN h t → φ' t a = φ t a) ∧ va_K D clsL tys' t ∧ va_P D clsL ws' t.heap ∧ va_D (va_A ws sz) ws') ∧ va_F (va_A ws sz) st t
theorem PcA_blind {D : va_G} {φ : Nat → Nat → Nat} {ws : va_W} {tys : List (ClassId × FieldType)} {sz : Nat} {as : List AV} : FrameBlind (PcA D φ ws tys sz as) := fun a U g mk q => by
  obtain ⟨q0, q1, qK, qP, qD, qr⟩ := q
  exact ⟨q0, q1, va_K.moved (u := U) (U := U.calling g mk a) (Vm.Alike.refl U.vm) qK, qP, qD, Rom.blind (s := U) (U := U.calling g mk a) rfl qr⟩
def SoundAt (l : Launch) (d : Nat) : Prop := ∀ (y : Nat) (as : List AV) (h : Hp) (rv : Option AV) (h1 : Hp), y < 239 → wt as ≤ mLo y → Call d y as h (fun v h' => v = rv ∧ h' = h1) → ∀ (D : va_G) (ws : va_W) (tys : List (ClassId × FieldType)) (φ : Nat → Nat → Nat) (sz : Nat), Rel h ws tys φ → (∀ v ∈ as, vok h v) → Met l (mNm y) (TW y) (rmd d (jC h1 - jC h) (jZ h1 - jZ h)) (PcA D φ ws tys sz as) (QcA D h φ ws sz rv h1) (jC h1 - jC h) (jZ h1 - jZ h) (va_A ws sz)
theorem good_TW {y : Nat} (hy : y < 239) : GoodIn lw_good (TW y) := fun w hw => by
  have : w ∈ lw_good := by
    rcases List.mem_cons.mp hw with rfl | hw
    · exact cwd_ok y hy
    · exact hw
  exact ⟨this, good_of_word (lw_good_good this).2⟩
theorem mth_ex {own idx y ns : Nat} (hf : mth own idx = some (y, ns)) (hy : y < 239) : (ns = 0 ∧ Cond.methodLink (cnm own) idx (mNm y) ∈ lw_good) ∨ (ns ≠ 0 ∧ Cond.methodLinkNest (cnm own) idx (mNm y) "HeraldDesk" ∈ nestL) := by
  obtain ⟨j, hj⟩ := all_zip mth_ok mth_len _ (lk2_mem hf)
  unfold chkT at hj
  split at hj
  · rename_i e
    simp only [Prod.mk.injEq] at e
    omega
  · rename_i e
    simp only [Prod.mk.injEq] at e
    omega
  · rename_i e
    simp only [Prod.mk.injEq] at e
    omega
  · rename_i e
    simp only [Prod.mk.injEq] at e
    omega
  · rename_i e
    simp only [Prod.mk.injEq] at e
    omega
  · rename_i e
    simp only [Prod.mk.injEq] at e
    obtain ⟨⟨rfl, rfl, rfl, rfl⟩, rfl⟩ := e
    simp only [Bool.and_eq_true] at hj
    exact Or.inl ⟨rfl, wOK_mem hj.2⟩
  · rename_i hn e
    simp only [Prod.mk.injEq] at e
    obtain ⟨⟨rfl, rfl, rfl, rfl⟩, rfl⟩ := e
    simp only [Bool.and_eq_true, decide_eq_true_eq] at hj
    refine Or.inr ⟨fun z => ?_, List.mem_of_getElem? hj.2⟩
    subst z
    exact hn rfl
theorem mth_sp {own idx y ns : Nat} (hf : mth own idx = some (y, ns)) : (y = 9999 → Cond.methodLink (cnm own) idx objectInit ∈ lw_good) ∧ (y = 9998 → Cond.methodLink (cnm own) idx ckName ∈ lw_good) ∧ (y = 9997 → Cond.methodLink (cnm own) idx Lib.Math.min.name ∈ lw_good) ∧ (y = 9996 → Cond.methodLink (cnm own) idx Lib.Math.max.name ∈ lw_good) ∧ (y = 9995 → Cond.methodLink (cnm own) idx Lib.Math.abs.name ∈ lw_good) := by
  obtain ⟨j, hj⟩ := all_zip mth_ok mth_len _ (lk2_mem hf)
  unfold chkT at hj
  split at hj
  all_goals
    rename_i e
    simp only [Prod.mk.injEq] at e
    obtain ⟨⟨rfl, rfl, rfl, rfl⟩, rfl⟩ := e
  · exact ⟨fun _ => wOK_mem hj, fun z => absurd z (by decide), fun z => absurd z (by decide), fun z => absurd z (by decide), fun z => absurd z (by decide)⟩
  · exact ⟨fun z => absurd z (by decide), fun _ => wOK_mem hj, fun z => absurd z (by decide), fun z => absurd z (by decide), fun z => absurd z (by decide)⟩
  · exact ⟨fun z => absurd z (by decide), fun z => absurd z (by decide), fun _ => wOK_mem hj, fun z => absurd z (by decide), fun z => absurd z (by decide)⟩
  · exact ⟨fun z => absurd z (by decide), fun z => absurd z (by decide), fun z => absurd z (by decide), fun _ => wOK_mem hj, fun z => absurd z (by decide)⟩
  · exact ⟨fun z => absurd z (by decide), fun z => absurd z (by decide), fun z => absurd z (by decide), fun z => absurd z (by decide), fun _ => wOK_mem hj⟩
  · simp only [Bool.and_eq_true, Nat.blt_eq] at hj
    have := hj.1
    exact ⟨fun z => by omega, fun z => by omega, fun z => by omega, fun z => by omega, fun z => by omega⟩
  · simp only [Bool.and_eq_true, Nat.blt_eq] at hj
    have := hj.1
    exact ⟨fun z => by omega, fun z => by omega, fun z => by omega, fun z => by omega, fun z => by omega⟩
theorem dec_ex {y pc : Nat} {i : Instr} (hy : y < 239) (hi : lk (mCo y) pc = some i) : chkD y (pc, i) = true := List.all_eq_true.mp (dk_ok y hy) _ (lk_mem hi)
/-- where an instruction is no switch -/
theorem dec_at {y pc : Nat} {i : Instr} (h : chkD y (pc, i) = true) (h1 : ∀ d lo hi os, i ≠ .tableswitch d lo hi os) (h2 : ∀ d os, i ≠ .lookupswitch d os) : decode (mBy y) pc = .ok (i, ilen i) := by
  unfold chkD at h
  split at h
  · rename_i i' n hd
    simp only [Bool.and_eq_true, decide_eq_true_eq] at h
    obtain ⟨rfl, h3⟩ := h
    rw [hd]
    split at h3
    · exact absurd rfl (h1 _ _ _ _)
    · exact absurd rfl (h2 _ _)
    · simp only [Bool.and_eq_true] at h3
      rw [Nat.eq_of_beq_eq_true h3.1]
      rfl
    · rw [Nat.eq_of_beq_eq_true h3]
  · cases h
theorem wt_len (as : List AV) : (entL as).length = wt as := by
  induction as with
  | nil => rfl
  | cons v r ih =>
    rcases v with x | x | x
    · show (entL r).length + 1 = wt r + 1; rw [ih]
    · show (entL r).length + 1 + 1 = wt r + 2; rw [ih]
    · show (entL r).length + 1 = wt r + 1; rw [ih]
theorem sl_len (φ : Nat → Nat → Nat) (as : List AV) : (lg_sl (as.map (trv φ))).length = wt as := by
  induction as with
  | nil => rfl
  | cons v r ih =>
    rcases v with x | x | ⟨t, o⟩
    · show (lg_sl (Value.int x :: r.map (trv φ))).length = wt r + 1
      rw [← ih]; simp [lg_sl, Value.category] <;> try omega
    · show (lg_sl (Value.long x :: r.map (trv φ))).length = wt r + 2
      rw [← ih]; simp [lg_sl, Value.category] <;> try omega
    · show (lg_sl (va_rf (o.map (φ t)) :: r.map (trv φ))).length = wt r + 1
      rw [← ih]
      cases o <;> simp [lg_sl, Value.category, va_rf] <;> omega
theorem prl_un (φ : Nat → Nat → Nat) (n i : Nat) : prl φ i (List.replicate n un) = [] := by
  induction n generalizing i with
  | zero => rfl
  | succ n ih => exact ih (i + 1)
theorem prl_ent (φ : Nat → Nat → Nat) (as : List AV) (n i : Nat) : ∀ q ∈ prl φ i (entL as ++ List.replicate n un), q ∈ lv_args i (as.map (trv φ)) := by
  induction as generalizing i with
  | nil => intro q hq; rw [show entL [] ++ List.replicate n un = List.replicate n un from rfl, prl_un] at hq; cases hq
  | cons v r ih =>
    rcases v with x | x | ⟨t, o⟩
    · intro q hq
      rcases List.mem_cons.mp (show q ∈ (i, Value.int x) :: prl φ (i + 1) (entL r ++ List.replicate n un) from hq) with rfl | hq
      · exact List.mem_cons_self
      · exact List.mem_cons_of_mem _ (ih (i + 1) q hq)
    · intro q hq
      rcases List.mem_cons.mp (show q ∈ (i, Value.long x) :: prl φ (i + 2) (entL r ++ List.replicate n un) from hq) with rfl | hq
      · exact List.mem_cons_self
      · exact List.mem_cons_of_mem _ (ih (i + 2) q hq)
    · intro q hq
      have hc : ∀ z, lv_args i (va_rf (o.map (φ t)) :: z) = (i, va_rf (o.map (φ t))) :: lv_args (i + 1) z := by
        intro z
        cases o <;> rfl
      show q ∈ lv_args i (va_rf (o.map (φ t)) :: r.map (trv φ))
      rw [hc]
      have hq : q ∈ prl φ i (.inr (.inr (t, o)) :: (entL r ++ List.replicate n un)) := hq
      unfold prl at hq
      split at hq
      · exact List.mem_cons_of_mem _ (ih (i + 1) q hq)
      · rcases List.mem_cons.mp hq with rfl | hq
        · exact List.mem_cons_self
        · exact List.mem_cons_of_mem _ (ih (i + 1) q hq)
theorem ent_vok {h : Hp} {as : List AV} (hv : ∀ v ∈ as, vok h v) (n : Nat) : ∀ v ∈ entLs as n, vok h v := by
  intro v hm
  rcases List.mem_append.mp hm with hm | hm
  · induction as with
    | nil => cases hm
    | cons a r ih =>
      rcases a with x | x | x
      · rcases List.mem_cons.mp (show v ∈ Sum.inl x :: entL r from hm) with rfl | hm
        · trivial
        · exact ih (vok_tl hv) (List.mem_append_left _ hm) hm
      · rcases List.mem_cons.mp (show v ∈ Sum.inr (Sum.inl x) :: un :: entL r from hm) with rfl | hm
        · trivial
        · rcases List.mem_cons.mp hm with rfl | hm
          · trivial
          · exact ih (vok_tl hv) (List.mem_append_left _ hm) hm
      · rcases List.mem_cons.mp (show v ∈ Sum.inr (Sum.inr x) :: entL r from hm) with rfl | hm
        · exact hv _ List.mem_cons_self
        · exact ih (vok_tl hv) (List.mem_append_left _ hm) hm
  · rw [(List.mem_replicate.mp hm).2]; trivial
theorem wt_cat (φ : Nat → Nat → Nat) (st : List AV) : ((st.map (trv φ)).map fun v => v.category).sum = wt st := by
  induction st with
  | nil => rfl
  | cons v r ih =>
    rcases v with x | x | ⟨t, o⟩
    · show 1 + ((r.map (trv φ)).map fun v => v.category).sum = wt r + 1; omega
    · show 2 + ((r.map (trv φ)).map fun v => v.category).sum = wt r + 2; omega
    · show (va_rf (o.map (φ t))).category + ((r.map (trv φ)).map fun v => v.category).sum = wt r + 1
      rw [rf_cat]; omega
end
section
/-! switches, puts, loads: what a step says -/
theorem i32_of {k : Int} (h1 : -2147483648 ≤ k) (h2 : k < 2147483648) {x : Int32} : x = Int32.ofInt k ↔ x.toInt = k := by
  have e : (Int32.ofInt k).toInt = k := Int32.toInt_ofInt_of_le (by omega) (by omega)
  constructor
  · intro z; rw [z]; exact e
  · intro z; exact Int32.toInt_inj.mp (by rw [z, e])
theorem swl_tab {x : Int32} {pc : Nat} {d : Int} {P : Nat → Prop} : ∀ (os : List Int) (lo : Int), -2147483648 ≤ lo → lo + os.length ≤ 2147483648 → swl x pc P d (prs lo os) → (∀ (j : Nat) (off : Int), os[j]? = some off → x.toInt = lo + j → ∃ t, jto pc off = some t ∧ P t) ∧ ((x.toInt < lo ∨ lo + os.length ≤ x.toInt) → ∃ t, jto pc d = some t ∧ P t)
  | [], lo, h1, h2, hh => by
    refine ⟨fun j off hj => by simp at hj, fun _ => ?_⟩
    have hh : (match jto pc d with
      | some t => P t
      | none => False) := hh
    cases hj : jto pc d with
    | none => rw [hj] at hh; exact hh.elim
    | some t => rw [hj] at hh; exact ⟨t, rfl, hh⟩
  | o :: os, lo, h1, h2, hh => by
    have hlen : ((o :: os).length : Int) = os.length + 1 := by simp
    rw [hlen] at h2
    have hx := i32_of (x := x) h1 (by omega)
    by_cases e : x = Int32.ofInt lo
    · have hh1 := hh.1 e
      refine ⟨fun j off hj hx2 => ?_, fun hx2 => ?_⟩
      · have hxl := hx.mp e
        have : j = 0 := by omega
        subst this
        cases hj
        cases hj2 : jto pc o with
        | none => rw [hj2] at hh1; exact hh1.elim
        | some t => rw [hj2] at hh1; exact ⟨t, rfl, hh1⟩
      · have hxl := hx.mp e
        rw [hlen] at hx2
        omega
    · have ih := swl_tab os (lo + 1) (by omega) (by omega) (hh.2 e)
      have hne : x.toInt ≠ lo := fun z => e (hx.mpr z)
      refine ⟨fun j off hj hx2 => ?_, fun hx2 => ih.2 ?_⟩
      · cases j with
        | zero => exact absurd hx2 (by intro z; exact hne (by omega))
        | succ j => exact ih.1 j off hj (by rw [hx2]; push_cast; omega)
      · rw [hlen] at hx2
        omega
theorem swl_look {x : Int32} {pc : Nat} {d : Int} {P : Nat → Prop} : ∀ (os : List (Int × Int)), os.all (fun p => decide (-2147483648 ≤ p.1) && decide (p.1 < 2147483648)) = true → swl x pc P d os → ∃ t, jto pc (Op.lookupswitch.offset os d x.toInt) = some t ∧ P t
  | [], _, hh => by
    have hh : (match jto pc d with
      | some t => P t
      | none => False) := hh
    have e1 : Op.lookupswitch.offset [] d x.toInt = d := rfl
    rw [e1]
    cases hj : jto pc d with
    | none => rw [hj] at hh; exact hh.elim
    | some t => rw [hj] at hh; exact ⟨t, rfl, hh⟩
  | (k, o) :: os, ha, hh => by
    simp only [List.all_cons, Bool.and_eq_true, decide_eq_true_eq] at ha
    have hx := i32_of (x := x) ha.1.1 ha.1.2
    by_cases e : x = Int32.ofInt k
    · have hh1 := hh.1 e
      have e1 : Op.lookupswitch.offset ((k, o) :: os) d x.toInt = o := by
        rw [hx.mp e]
        simp [Op.lookupswitch.offset]
      rw [e1]
      cases hj2 : jto pc o with
      | none => rw [hj2] at hh1; exact hh1.elim
      | some t => rw [hj2] at hh1; exact ⟨t, rfl, hh1⟩
    · have ih := swl_look os (by simpa using ha.2) (hh.2 e)
      have e1 : Op.lookupswitch.offset ((k, o) :: os) d x.toInt = Op.lookupswitch.offset os d x.toInt := lv_osw (k := Int32.ofInt k) e (Int32.toInt_ofInt_of_le (by omega) (by omega))
      rw [e1]
      exact ih
theorem pf_cases {h : Hp} {t a k : Nat} {v : AV} {K : Hp → Prop} (hh : pf h t a k v K) : (∃ x, v = .inl x ∧ fk t k = 0 ∧ K (wI h t a k x)) ∨ (∃ x, v = .inl x ∧ fk t k = 2 ∧ (x = 0 ∨ x = 1) ∧ K (wI h t a k x)) ∨ (∃ x, v = .inr (.inl x) ∧ fk t k = 1 ∧ K (wL h t a k x)) ∨ (∃ n t' o, v = .inr (.inr (t', o)) ∧ fk t k = n + 5 ∧ (t' = n ∨ o = none) ∧ K (wR h t a k o)) := by
  unfold pf at hh
  split at hh
  · rename_i x e; exact Or.inl ⟨x, rfl, e, hh⟩
  · rename_i x e; exact Or.inr (Or.inr (Or.inl ⟨x, rfl, e, hh⟩))
  · rename_i x e; exact Or.inr (Or.inl ⟨x, rfl, e, hh.1, hh.2⟩)
  · rename_i n t' o e
    split at hh
    · rename_i hb
      exact Or.inr (Or.inr (Or.inr ⟨n, t', _, rfl, e, Or.inl (Nat.eq_of_beq_eq_true hb).symm, hh⟩))
    · exact Or.inr (Or.inr (Or.inr ⟨n, t', none, rfl, e, Or.inr rfl, hh⟩))
    · exact hh.elim
  · exact hh.elim
theorem lda_int {h : Hp} {t a : Nat} {i : Int32} {K : AV → Prop} (hh : lda h t a i K) : ∃ x, K (.inl x) ∧ ∀ K' : AV → Prop, K' (.inl x) → lda h t a i K' := by
  unfold lda at hh
  split at hh
  · exact ⟨_, hh.2, fun K' k => ⟨hh.1, k⟩⟩
  · exact ⟨_, hh.2, fun K' k => ⟨hh.1, k⟩⟩
  · exact ⟨_, hh.2, fun K' k => ⟨hh.1, k⟩⟩
  · exact ⟨_, hh.2, fun K' k => ⟨hh.1, k⟩⟩
  · exact ⟨_, hh.2, fun K' k => ⟨hh.1, k⟩⟩
  · exact ⟨_, hh.2, fun K' k => ⟨hh.1, k⟩⟩
  · exact hh.elim
theorem ald_cases {i : Instr} {h : Hp} {st : List AV} {K : List AV → Prop} (hh : ald i h st K) : ∃ j t a r, st = .inl j :: .inr (.inr (t, some a)) :: r ∧ okA i t = true ∧ lda h t a j (fun v => K (v :: r)) := by
  unfold ald at hh
  split at hh
  · obtain ⟨hb, hd⟩ := if_ex hh
    obtain ⟨a, rfl, hl⟩ := dr_ex hd
    exact ⟨_, _, a, _, rfl, hb, hl⟩
  · exact hh.elim
theorem ast_cases {i : Instr} {h : Hp} {st : List AV} {K : List AV → Hp → Prop} (hh : ast i h st K) : ∃ x j t a r, st = .inl x :: .inl j :: .inr (.inr (t, some a)) :: r ∧ okA i t = true ∧ sta h t a j x (fun h' => K r h') := by
  unfold ast at hh
  split at hh
  · obtain ⟨hb, hd⟩ := if_ex hh
    obtain ⟨a, rfl, hl⟩ := dr_ex hd
    exact ⟨_, _, _, a, _, rfl, hb, hl⟩
  · exact hh.elim
theorem gfa_ne {h : Hp} {t a k : Nat} (ht : t ≠ 40) : gfa h t a k = gf h t a k := by
  unfold gfa
  cases hb : Nat.beq t 40 with
  | true => exact absurd (Nat.eq_of_beq_eq_true hb) ht
  | false => rfl
theorem vok_wI {h : Hp} {t a k : Nat} {x : Int32} {st : List AV} (hv : ∀ v ∈ st, vok h v) : ∀ v ∈ st, vok (wI h t a k x) v := fun v z => vok_le (fun _ => Nat.le_refl _) (hv v z)
theorem vok_wL {h : Hp} {t a k : Nat} {x : Int64} {st : List AV} (hv : ∀ v ∈ st, vok h v) : ∀ v ∈ st, vok (wL h t a k x) v := fun v z => vok_le (fun _ => Nat.le_refl _) (hv v z)
theorem vok_wR {h : Hp} {t a k : Nat} {x : Option Nat} {st : List AV} (hv : ∀ v ∈ st, vok h v) : ∀ v ∈ st, vok (wR h t a k x) v := fun v z => vok_le (fun _ => Nat.le_refl _) (hv v z)
theorem vok_hle {h h' : Hp} (hl : hle h h') {st : List AV} (hv : ∀ v ∈ st, vok h v) : ∀ v ∈ st, vok h' v := fun v z => vok_le hl.1 (hv v z)
theorem mk_new (h : Hp) (t n sl : Nat) : jN h t < jN (mk h t n sl) t := by
  show jN h t < if t = t then jN h t + 1 else jN h t
  rw [if_pos rfl]
  exact Nat.lt_succ_self _
end
section
/-! THE WALK of any method: each step of the abstract machine is the machine's -/
def SP (p : Program) (l : Launch) (e : Env) (s : State) (m : MethodId) (args : Array Value) (below : List Frame) (meth : Method) (c : Code) (A : Nat → Prop) (D : va_G) (R : Room) (Qw : State → Prop) (y : Nat) (h0 : Hp) (φ0 : Nat → Nat → Nat) (h1 : Hp) (pc : Nat) (ls st : List AV) (hh : Hp) : Prop :=
  hle hh h1 ∧ ∀ (ws : va_W) (tys : List (ClassId × FieldType)) (φ : Nat → Nat → Nat) (H : Heap) (locs : List Loc) (L : Array Slot), Wld D A s hh φ ws tys H locs → hle h0 hh → (∀ t a, a < jN h0 t → φ t a = φ0 t a) → (∀ v ∈ ls, vok hh v) → (∀ v ∈ st, vok hh v) → ls.length = mLo y → lv_has L (mLo y) (prl φ 0 ls) → W p l e R s m args below meth c H locs (jC hh - jC h0) (jZ hh - jZ h0) Qw (F0 m pc L (st.map (trv φ)))
section WALK
variable {p : Program} {l : Launch} {e : Env} {s : State} {m : MethodId} {args : Array Value} {below : List Frame} {meth : Method} {c : Code} {A : Nat → Prop} {D : va_G} {R : Room} {Qw : State → Prop} {y : Nat} {h0 h1 : Hp} {φ0 : Nat → Nat → Nat}
/-- behind a step that makes a cell -/
theorem SP.made {pc : Nat} {ls st : List AV} {hh h' : Hp} {v : AV} {n sl : Nat} (hs : SP p l e s m args below meth c A D R Qw y h0 φ0 h1 pc ls (v :: st) h') (hle0 : hle h0 hh) (hj : jC h' = jC hh + 1) (hz : jZ h' = jZ hh + sl) (hl1 : hle hh h') (hv : vok h' v) {ws : va_W} {tys : List (ClassId × FieldType)} {φ φ' : Nat → Nat → Nat} {H : Heap} {locs : List Loc} {L : Array Slot} (hext : ∀ t a, a < jN h0 t → φ t a = φ0 t a) (he : ∀ t a, a < jN hh t → φ' t a = φ t a) (hw : Wld D A s h' φ' ws tys H locs) (hvl : ∀ v ∈ ls, vok hh v) (hvs : ∀ v ∈ st, vok hh v) (hlen : ls.length = mLo y) (hl : lv_has L (mLo y) (prl φ 0 ls)) : W p l e R s m args below meth c H locs (jC hh - jC h0 + 1) (jZ hh - jZ h0 + sl) Qw (F0 m pc L (trv φ' v :: st.map (trv φ))) := by
  have h2 := hle0.2.1
  have h3 := hle0.2.2
  refine W.cs (cells' := jC h' - jC h0) (slots' := jZ h' - jZ h0) (by omega) (by omega) ?_
  rw [← map_ext he hvs]
  exact hs.2 ws tys φ' H locs L hw (hle0.tr hl1) (fun t a z => (he t a (Nat.lt_of_lt_of_le z (hle0.1 t))).trans (hext t a z)) (vok_hle hl1 hvl) (vok_cons hv (vok_hle hl1 hvs)) hlen (by rw [prl_ext he hvl]; exact hl)
/-- behind a call -/
theorem SP.back {d y' pc : Nat} {ls r : List AV} {hh h2 : Hp} {v1 : Option AV} {as' : List AV} (hy' : y' < 239) (hs : SP p l e s m args below meth c A D R Qw y h0 φ0 h1 (pc + 3) ls (cons? v1 r) h2) (hle0 : hle h0 hh) (hl1 : hle hh h2) {ws : va_W} {tys : List (ClassId × FieldType)} {φ : Nat → Nat → Nat} {H : Heap} {locs : List Loc} {L : Array Slot} {st0 : List Value} (hext : ∀ t a, a < jN h0 t → φ t a = φ0 t a) (hw : Wld D A s hh φ ws tys H locs) (hA : ∀ q, s.heap.size ≤ q → A q) (hvl : ∀ v ∈ ls, vok hh v) (hvs : ∀ v ∈ r, vok hh v) (hlen : ls.length = mLo y) (hl : lv_has L (mLo y) (prl φ 0 ls)) {a : Array Value}
    (hr : va_Run p l e R s m args below meth c H locs (jC hh - jC h0) (jZ hh - jZ h0) (jC h2 - jC hh) (jZ h2 - jZ hh) (F0 m pc L st0) (r.map (trv φ)) (QcA D hh φ ws H.size v1 h2 a) (va_A ws H.size)) : W p l e R s m args below meth c H locs (jC hh - jC h0) (jZ hh - jZ h0) Qw (F0 m pc L st0) := by
  obtain ⟨hR, hK, hP, hD, hS, hrom⟩ := hw
  have hfr : ∀ q, va_A ws H.size q → A q := by
    intro q hq
    rcases hq with ⟨k, e, hk⟩ | hq
    · exact hD.2 k _ hk
    · exact hA q (Nat.le_trans hS.1 hq)
  refine s_call hr hS hfr (fun v st t h0 hq => hq.2) ?_
  rintro v st t H1 locs1 ht hal hst ⟨⟨ws', tys', φ', hv, hvr, hR', he, hK', hP', hD'⟩, -⟩ hS1
  cases hv
  have a1 := hle0.2.1
  have a2 := hle0.2.2
  have a3 := hl1.2.1
  have a4 := hl1.2.2
  refine W.cs (cells' := jC h2 - jC h0) (slots' := jZ h2 - jZ h0) (by omega) (by omega) ?_
  have hst1 : (v1.map (trv φ')).toList ++ r.map (trv φ) = (cons? v1 r).map (trv φ') := by
    rw [← map_ext he hvs]
    cases v1 <;> rfl
  rw [hst1]
  refine hs.2 ws' tys' φ' H1 locs1 L ⟨hR', va_K.moved hal.symm hK', by rw [← ht]; exact hP', hD'.weaken (fun k q _ z => hfr q.1 z), hS1, Rom.phi he hR hrom⟩ (hle0.tr hl1) (fun t a z => (he t a (Nat.lt_of_lt_of_le z (hle0.1 t))).trans (hext t a z)) (vok_hle hl1 hvl) ?_ hlen (by rw [prl_ext he hvl]; exact hl)
  cases v1 with
  | none => exact vok_hle hl1 hvs
  | some v => exact vok_cons (hvr v rfl) (vok_hle hl1 hvs)
/-- the callee's start -/
theorem pre_A {hh : Hp} {φ : Nat → Nat → Nat} {ws : va_W} {tys : List (ClassId × FieldType)} {H : Heap} {locs : List Loc} {as' : List AV} (hw : Wld D A s hh φ ws tys H locs) (hA : ∀ q, s.heap.size ≤ q → A q) : ∀ U : State, U.heap = H → s.WarmedH U.vm → PcA D φ ws tys H.size as' (as'.map (trv φ)).toArray U := by
  intro U hU hW
  obtain ⟨hR, hK, hP, hD, hS, hrom⟩ := hw
  refine ⟨rfl, by rw [hU], va_K.moved hW.alike hK, by rw [hU]; exact hP, hD.weaken (fun _ _ _ _ => trivial), hrom.to hS hW hU ?_⟩
  intro q hq
  rcases hq with ⟨k, e, hk⟩ | hq
  · exact hD.2 k _ hk
  · exact hA q (Nat.le_trans hS.1 hq)
end WALK
end
section
/-! what the steps that call and answer say -/
theorem FH_static {C : CT} {y pc idx : Nat} {Q : Option AV → Hp → Prop} {P : Nat → List AV → List AV → Hp → Prop} {ls st : List AV} {h : Hp} (hF : FH C y Q P pc ls st h (.invokestatic idx)) :
    (∃ ns n j r, mth (mOw y) idx = some (9998, ns) ∧ st = .inl n :: .inl j :: r ∧ wt r ≤ 8 ∧ (¬ j < 0 ∧ j < n) ∧ P (pc + 3) ls r h) ∨
    (∃ ns b a r, mth (mOw y) idx = some (9997, ns) ∧ st = .inl b :: .inl a :: r ∧ wt r ≤ 8 ∧ P (pc + 3) ls (.inl (mn2 a b) :: r) h) ∨
    (∃ ns b a r, mth (mOw y) idx = some (9996, ns) ∧ st = .inl b :: .inl a :: r ∧ wt r ≤ 8 ∧ P (pc + 3) ls (.inl (mx2 a b) :: r) h) ∨
    (∃ ns a r, mth (mOw y) idx = some (9995, ns) ∧ st = .inl a :: r ∧ wt r ≤ 8 ∧ P (pc + 3) ls (.inl (ab1 a) :: r) h) ∨
    (∃ y' ns, mth (mOw y) idx = some (y', ns) ∧ y' < 239 ∧ mKi y' = 0 ∧ mPa y' ≤ st.length ∧ wt (st.drop (mPa y')) ≤ 8 ∧ wt (st.take (mPa y')) ≤ mLo y' ∧ C y' (st.take (mPa y')).reverse h (fun v h' => P (pc + 3) ls (cons? v (st.drop (mPa y'))) h')) := by
  dsimp only [FH] at hF
  split at hF
  · split at hF
    · obtain ⟨hb, h1, h2⟩ := if_ex hF
      exact Or.inl ⟨_, _, _, _, by assumption, rfl, Nat.ble_eq.mp hb, h1, h2⟩
    · exact hF.elim
  · split at hF
    · obtain ⟨hb, h1⟩ := if_ex hF
      exact Or.inr (Or.inl ⟨_, _, _, _, by assumption, rfl, Nat.ble_eq.mp hb, h1⟩)
    · exact hF.elim
  · split at hF
    · obtain ⟨hb, h1⟩ := if_ex hF
      exact Or.inr (Or.inr (Or.inl ⟨_, _, _, _, by assumption, rfl, Nat.ble_eq.mp hb, h1⟩))
    · exact hF.elim
  · split at hF
    · obtain ⟨hb, h1⟩ := if_ex hF
      exact Or.inr (Or.inr (Or.inr (Or.inl ⟨_, _, _, by assumption, rfl, Nat.ble_eq.mp hb, h1⟩)))
    · exact hF.elim
  · obtain ⟨hb, h1⟩ := if_ex hF
    simp only [Bool.and_eq_true, Nat.blt_eq, Nat.ble_eq, beqT] at hb
    exact Or.inr (Or.inr (Or.inr (Or.inr ⟨_, _, by assumption, hb.1.1.1.1, hb.1.1.1.2, hb.1.1.2, hb.1.2, hb.2, h1⟩)))
  · exact hF.elim
theorem FH_virtual {C : CT} {y pc idx : Nat} {Q : Option AV → Hp → Prop} {P : Nat → List AV → List AV → Hp → Prop} {ls st : List AV} {h : Hp} (hF : FH C y Q P pc ls st h (.invokevirtual idx)) :
    ∃ y' a r, mth (mOw y) idx = some (y', 0) ∧ st.drop (mPa y') = .inr (.inr (mOw y', some a)) :: r ∧ y' < 239 ∧ mKi y' = 1 ∧ wt r ≤ 8 ∧ 1 + wt (st.take (mPa y')) ≤ mLo y' ∧ C y' (.inr (.inr (mOw y', some a)) :: (st.take (mPa y')).reverse) h (fun v h' => P (pc + 3) ls (cons? v r) h') := by
  dsimp only [FH] at hF
  split at hF
  · split at hF
    · obtain ⟨hb, h1⟩ := if_ex hF
      obtain ⟨rfl, h2⟩ := rg_ex h1
      obtain ⟨a, rfl, h3⟩ := dr_ex h2
      simp only [Bool.and_eq_true, Nat.blt_eq, Nat.ble_eq, beqT] at hb
      obtain ⟨⟨⟨⟨b1, b2⟩, rfl⟩, b4⟩, b5⟩ := hb
      exact ⟨_, a, _, by assumption, by assumption, b1, b2, b4, b5, h3⟩
    · exact hF.elim
  · exact hF.elim
theorem FH_special {C : CT} {y pc idx : Nat} {Q : Option AV → Hp → Prop} {P : Nat → List AV → List AV → Hp → Prop} {ls st : List AV} {h : Hp} (hF : FH C y Q P pc ls st h (.invokespecial idx)) :
    (∃ ns t a r, mth (mOw y) idx = some (9999, ns) ∧ st = .inr (.inr (t, some a)) :: r ∧ wt r ≤ 8 ∧ P (pc + 3) ls r h) ∨
    ∃ y' ns a r, mth (mOw y) idx = some (y', ns) ∧ st.drop (mPa y') = .inr (.inr (mOw y', some a)) :: r ∧ y' < 239 ∧ mKi y' = 2 ∧ wt r ≤ 8 ∧ 1 + wt (st.take (mPa y')) ≤ mLo y' ∧ C y' (.inr (.inr (mOw y', some a)) :: (st.take (mPa y')).reverse) h (fun v h' => P (pc + 3) ls (cons? v r) h') := by
  dsimp only [FH] at hF
  split at hF
  · split at hF
    · obtain ⟨hb, h1⟩ := if_ex hF
      obtain ⟨a, rfl, h3⟩ := dr_ex h1
      exact Or.inl ⟨_, _, a, _, by assumption, rfl, Nat.ble_eq.mp hb, h3⟩
    · exact hF.elim
  · split at hF
    · obtain ⟨hb, h1⟩ := if_ex hF
      obtain ⟨rfl, h2⟩ := rg_ex h1
      obtain ⟨a, rfl, h3⟩ := dr_ex h2
      simp only [Bool.and_eq_true, Nat.blt_eq, Nat.ble_eq, beqT] at hb
      obtain ⟨⟨⟨b1, b2⟩, b4⟩, b5⟩ := hb
      exact Or.inr ⟨_, _, a, _, by assumption, by assumption, b1, b2, b4, b5, h3⟩
    · exact hF.elim
  · exact hF.elim
theorem rOk_ex {y : Nat} (h : rOk y = true) : (mRc y = 0 → mRt y = none) ∧ (mRc y = 1 → mRt y = some .int) ∧ (mRc y = 3 → mRt y = some .long) ∧ ∀ n, mRc y = n + 5 → ∃ rt, mRt y = some rt ∧ ((∃ C, rt = .object C) ∨ ∃ C, rt = .array C) := by
  unfold rOk at h
  split at h
  all_goals first
    | exact absurd h Bool.false_ne_true
    | (rename_i e1 e2
       refine ⟨fun z => ?_, fun z => ?_, fun z => ?_, fun n z => ?_⟩
       all_goals first
         | exact e2
         | (rw [e1] at z; omega)
         | exact ⟨_, e2, Or.inl ⟨_, rfl⟩⟩
         | exact ⟨_, e2, Or.inr ⟨_, rfl⟩⟩)
theorem wt_app (a b : List AV) : wt (a ++ b) = wt a + wt b := by
  induction a with
  | nil => rw [List.nil_append]; exact (Nat.zero_add _).symm
  | cons v r ih =>
    rcases v with x | x | x
    · show wt (r ++ b) + 1 = wt r + 1 + wt b; omega
    · show wt (r ++ b) + 2 = wt r + 2 + wt b; omega
    · show wt (r ++ b) + 1 = wt r + 1 + wt b; omega
theorem wt_rev (a : List AV) : wt a.reverse = wt a := by
  induction a with
  | nil => rfl
  | cons v r ih =>
    rw [List.reverse_cons, wt_app, ih]
    rcases v with x | x | x
    · rfl
    · rfl
    · rfl
theorem noPut : (List.range 239).all (fun z => !(Nat.beq (mOw z) 40) || (mCo z).all (fun q => match q.2 with
  | .putfield _ => false
  | _ => true)) = true := by decide +kernel
theorem fld40 : (fldL.zip fldL).all (fun q => !(Nat.beq q.1.2.2.1 40) || Nat.beq q.1.1 40) = true := by decide +kernel
theorem put40 {y pc idx k ns : Nat} (hy : y < 239) (hi : lk (mCo y) pc = some (.putfield idx)) (hf : fld (mOw y) idx = some (40, k, ns)) : False := by
  obtain ⟨j, hj⟩ := all_zip fld40 (Nat.le_refl _) _ (lk2_mem hf)
  simp only [Bool.or_eq_true, Bool.not_eq_true', beqT] at hj
  rcases hj with hj | hj
  · exact absurd hj (by decide)
  · have hput := List.all_eq_true.mp noPut y (List.mem_range.mpr hy)
    simp only [Bool.or_eq_true, Bool.not_eq_true'] at hput
    rcases hput with hput | hput
    · rw [hj] at hput; exact absurd hput (by decide)
    · exact absurd (List.all_eq_true.mp hput _ (lk_mem hi)) Bool.false_ne_true
end
section
theorem rf_or (o : Option Nat) : va_rf o = .null ∨ ∃ a, va_rf o = .ref a := by
  cases o
  · exact Or.inl rfl
  · exact Or.inr ⟨_, rfl⟩
section WALK2
variable {p : Program} {l : Launch} {e : Env} {s : State} {m : MethodId} {args : Array Value} {below : List Frame} {meth : Method} {c : Code} {A : Nat → Prop} {D : va_G} {R : Room} {y : Nat} {h0 h1 : Hp} {φ0 : Nat → Nat → Nat}
theorem chkM_parts {y : Nat} (hy : y < 239) : Cond.initialized (mNm y).cls ∈ lw_good ∧ (mKi y = 0 → Cond.static (mNm y) ∈ lw_good) ∧ (mKi y = 1 → Cond.instanceMethod (mNm y) ∈ lw_good ∧ Cond.selects (mNm y).cls (mNm y) (mNm y) ∈ lw_good ∧ (mOw y < 12 ∨ mOw y = 40)) ∧ (mKi y = 2 → Cond.instanceMethod (mNm y) ∈ lw_good ∧ (mNm y).name = "<init>" ∧ mRt y = none ∧ mOw y < 12) ∧ rOk y = true ∧ mLo y ≤ 40 ∧ plainName (mNm y).cls = true ∧ ((mNm y).cls ≠ "java/lang/invoke/MethodHandle" ∧ (mNm y).cls ≠ "java/lang/invoke/VarHandle" ∧ (parseMethodDescriptor (mNm y).desc).map (fun d => d.parameters.length) = some (mPa y)) ∧ cnm (mOw y) = (mNm y).cls := by
  have h := chkM_ok y hy
  unfold chkM at h
  simp only [Bool.and_eq_true, decide_eq_true_eq, Nat.ble_eq] at h
  obtain ⟨⟨⟨⟨⟨⟨⟨⟨q1, q2⟩, q3⟩, q4⟩, q5⟩, q6⟩, q7⟩, q8⟩, q9⟩ := h
  refine ⟨wOK_mem q1, fun e => ?_, fun e => ?_, fun e => ?_, q3, q4, q5, ⟨q6, q7, q8⟩, q9⟩
  · rw [e] at q2; exact wOK_mem q2
  · rw [e] at q2
    simp only [Bool.and_eq_true, Bool.or_eq_true, Nat.blt_eq, beqT] at q2
    exact ⟨wOK_mem q2.1.1, wOK_mem q2.1.2, q2.2⟩
  · rw [e] at q2
    simp only [Bool.and_eq_true, decide_eq_true_eq, Nat.blt_eq] at q2
    exact ⟨wOK_mem q2.1.1.1, q2.1.1.2, q2.1.2, q2.2⟩
set_option maxHeartbeats 8000000 in
theorem walk {d : Nat} (hy : y < 239) (ih : SoundAt l d) (hx : p.tables.exec = Jvm.exec) (hb : c.code = mBy y) (hr : meth.sig.returnType = mRt y) (hml : c.maxLocals = mLo y) (hown : s.vm.findClass (cnm (mOw y)) = some m.cls) (hts : ∀ w ∈ lw_good, w.before args s = true) (hlocks : meth.locks = false) (hini : mKi y = 2 → meth.name = "<init>") (hA : ∀ q, s.heap.size ≤ q → A q) {rv : Option AV} (hRf : R.frames = d + 1 + 2) (hRl : R.locals = 64 * (d + 1) + 192) (hRc : R.cells = jC h1 - jC h0) (hRz : R.slots = jZ h1 - jZ h0) {Qc : Array Value → State → Outcome → State → Prop}
    (hQc : ∀ (t : State) (ws : va_W) (tys : List (ClassId × FieldType)) (φ : Nat → Nat → Nat) (H : Heap) (locs : List Loc), t.heap = H → s.WarmedH t.vm → Wld D A s h1 φ ws tys H locs → (∀ t a, a < jN h0 t → φ t a = φ0 t a) → (∀ v, rv = some v → vok h1 v) → Qc args s (.returned (rv.map (trv φ))) t) : Cl (Call d) y (fun v h' => v = rv ∧ h' = h1) (SP p l e s m args below meth c A D R (MQ below Qc args s (jC h1 - jC h0) (jZ h1 - jZ h0) A) y h0 φ0 h1) := by
  intro pc ls st hh hF
  have hle1 : hle hh h1 := by
    rcases FS_ex hF with ⟨_, _, _, _, l1, p1, _⟩ | ⟨v, p1, _⟩ | ⟨y', as', r', p1, _⟩
    · exact l1.tr p1.1
    · rw [p1.2]; exact hle.rf _
    · obtain ⟨v1, h2, l1, q1, -⟩ := Call_det d y' as' hh _ p1
      exact l1.tr q1.1
  refine ⟨hle1, ?_⟩
  intro ws tys φ H locs L hw hle0 hext hvl hvs hlen hl
  unfold FS at hF
  split at hF
  rotate_left
  · exact hF.elim
  rename_i i hi
  have hck := dec_ex hy hi
  unfold FI at hF
  split at hF
  · rename_i q hq
    have hdg := dec_at hck (by rintro d lo hi os rfl; cases hq) (by rintro d os rfl; cases hq)
    obtain ⟨v1, v2⟩ := step1_vok hw.1.2.2.2.2.1 hw.1.2.2.2.2.2.2 hq hvl hvs
    exact snd1 hx hb hown hts hw.2.2.2.2.1 hw.2.2.2.2.2 hdg hq hl hlen (fun L' hl' hn' => hF.2 ws tys φ H locs L' hw hle0 hext v1 v2 hn' hl')
  rename_i hq0
  split at hF
  · rename_i q hb1
    have hdg := dec_at hck (by rintro d lo hi os rfl; cases hb1) (by rintro d os rfl; cases hb1)
    have v2 := br1_vok hb1 hvs
    exact snd2 hx hb hw.1 hvs hdg hb1 (fun c => (hF.1 c).2 ws tys φ H locs L hw hle0 hext hvl v2 hlen hl) (fun c => (hF.2 c).2 ws tys φ H locs L hw hle0 hext hvl v2 hlen hl)
  rename_i hb0
  clear hq0 hb0
  have hbc := hle1.2.1
  have hbz := hle1.2.2
  have h0c := hle0.2.1
  have h0z := hle0.2.2
  have hsize : L.size = mLo y := hl.1
  cases i
  case idiv =>
    have hdg := dec_at hck (by rintro d lo hi os z; cases z) (by rintro d os z; cases z)
    dsimp only [FH] at hF
    split at hF
    · exact lv_idiv hx hb hdg hF.1 (hF.2.2 ws tys φ H locs L hw hle0 hext hvl (vok_cons trivial (vok_tl (vok_tl hvs))) hlen hl)
    · exact hF.elim
  case irem =>
    have hdg := dec_at hck (by rintro d lo hi os z; cases z) (by rintro d os z; cases z)
    dsimp only [FH] at hF
    split at hF
    · exact lv_irem hx hb hdg hF.1 (hF.2.2 ws tys φ H locs L hw hle0 hext hvl (vok_cons trivial (vok_tl (vok_tl hvs))) hlen hl)
    · exact hF.elim
  case tableswitch dd lo hi2 os =>
    dsimp only [FH] at hF
    split at hF
    · rename_i x r
      unfold chkD at hck
      split at hck
      · rename_i i' n hd
        simp only [Bool.and_eq_true, decide_eq_true_eq] at hck
        obtain ⟨rfl, ⟨c1, c2⟩, c3⟩ := hck
        have hsz : (os.toList.length : Int) = os.size := by simp
        obtain ⟨t1, t2⟩ := swl_tab os.toList lo c2 (by rw [hsz]; omega) hF
        by_cases hin : x.toInt < lo ∨ hi2 < x.toInt
        · obtain ⟨t, ht, hs⟩ := t2 (by rw [hsz]; omega)
          exact lv_tableOut hx hb hd hin (jto_ex ht) (hs.2 ws tys φ H locs L hw hle0 hext hvl (vok_tl hvs) hlen hl)
        · have hj : (x.toInt - lo).toNat < os.size := by omega
          have ho : os[(x.toInt - lo).toNat]? = some os[(x.toInt - lo).toNat] := Array.getElem?_eq_getElem hj
          obtain ⟨t, ht, hs⟩ := t1 (x.toInt - lo).toNat _ (by rw [Array.getElem?_toList]; exact ho) (by omega)
          exact lv_tableIn hx hb hd (by omega) (by omega) ho (jto_ex ht) (hs.2 ws tys φ H locs L hw hle0 hext hvl (vok_tl hvs) hlen hl)
      · cases hck
    · exact hF.elim
  case lookupswitch dd os =>
    dsimp only [FH] at hF
    split at hF
    · rename_i x r
      unfold chkD at hck
      split at hck
      · rename_i i' n hd
        simp only [Bool.and_eq_true, decide_eq_true_eq] at hck
        obtain ⟨rfl, c1, c2⟩ := hck
        obtain ⟨t, ht, hs⟩ := swl_look os.toList c1 hF
        exact lv_lookup hx hb hd c2 rfl (jto_ex ht) (hs.2 ws tys φ H locs L hw hle0 hext hvl (vok_tl hvs) hlen hl)
      · cases hck
    · exact hF.elim
  case getfield idx =>
    have hdg := dec_at hck (by rintro d lo hi os z; cases z) (by rintro d os z; cases z)
    dsimp only [FH] at hF
    split at hF
    · rename_i ci k ns t o r hf
      obtain ⟨rfl, h2⟩ := rg_ex hF
      obtain ⟨a, rfl, h3⟩ := dr_ex h2
      have ha : a < jN hh t := hvs _ List.mem_cons_self
      by_cases ht : t = 40
      · subst ht
        refine s_gets hx hb hown hts hw hf ha hdg (h3.2 ws tys φ H locs L hw hle0 hext hvl (vok_cons ?_ (vok_tl hvs)) hlen hl)
        show vok hh (gfs a k)
        unfold gfs
        split
        · show a < jN hh 41
          rw [hw.1.2.2.2.2.2.1, ← hw.1.2.2.2.2.1]; exact ha
        · trivial
      · rw [gfa_ne ht] at h3
        refine s_getf hx hb hown hts hw hf ht ha hdg (h3.2 ws tys φ H locs L hw hle0 hext hvl (vok_cons ?_ (vok_tl hvs)) hlen hl)
        rcases fld_ex hf with ⟨z, -⟩ | ⟨z1, z2, -⟩
        · exact absurd z ht
        · exact hw.1.2.2.1 t a k z1 z2 ha
    · exact hF.elim
  case putfield idx =>
    have hdg := dec_at hck (by rintro d lo hi os z; cases z) (by rintro d os z; cases z)
    dsimp only [FH] at hF
    split at hF
    · rename_i ci k ns v t o r hf
      obtain ⟨rfl, h2⟩ := rg_ex hF
      obtain ⟨a, rfl, h3⟩ := dr_ex h2
      have ha : a < jN hh t := hvs _ (List.mem_cons_of_mem _ List.mem_cons_self)
      have hfin : (TRs t k).2.2.2 = true → ns = 0 ∧ meth.name = "<init>" ∧ (TRs t k).1 = cnm (mOw y) := by
        intro hfb
        unfold chkD at hck
        split at hck
        · simp only [Bool.and_eq_true] at hck
          have h5 := hck.2.2
          rw [hf] at h5
          simp only [hfb, Bool.not_true, Bool.false_or, Bool.and_eq_true, decide_eq_true_eq, beqT] at h5
          exact ⟨h5.1.2, hini h5.1.1, h5.2⟩
        · cases hck
      rcases fld_ex hf with ⟨rfl, -⟩ | ⟨h12, hk, -⟩
      · exact (put40 hy hi hf).elim
      · have ht40 : t ≠ 40 := by omega
        have hkok := kOk_at h12 hk
        rcases pf_cases h3 with ⟨x, rfl, e0, hs⟩ | ⟨x, rfl, e0, e1, hs⟩ | ⟨x, rfl, e0, hs⟩ | ⟨n, t', o, rfl, e0, e1, hs⟩
        · have hty : tyRs t k = .int := by
            unfold kOk at hkok; rw [e0] at hkok; simpa using hkok
          refine s_putf (v := .inl x) (h' := wI hh t a k x) hx hb hown hts hw hf ht40 ha (by rw [hty]; rfl) (by rw [hty]; rfl) hfin (fun i cA z1 z2 hi2 => hw.1.putI x z1 z2 ha (Or.inl e0) hi2) hdg (fun ws' H1 locs1 hw' => ?_)
          exact hs.2 ws' tys φ H1 locs1 L hw' (hle0.tr (hle.wI hh t a k x)) hext (vok_wI hvl) (vok_wI (vok_tl (vok_tl hvs))) hlen hl
        · have hty : tyRs t k = .boolean := by
            unfold kOk at hkok; rw [e0] at hkok; simpa using hkok
          refine s_putf (v := .inl x) (h' := wI hh t a k x) hx hb hown hts hw hf ht40 ha (by rw [hty]; rcases e1 with rfl | rfl <;> rfl) (by rw [hty]; rcases e1 with rfl | rfl <;> rfl) hfin (fun i cA z1 z2 hi2 => hw.1.putI x z1 z2 ha (Or.inr e0) hi2) hdg (fun ws' H1 locs1 hw' => ?_)
          exact hs.2 ws' tys φ H1 locs1 L hw' (hle0.tr (hle.wI hh t a k x)) hext (vok_wI hvl) (vok_wI (vok_tl (vok_tl hvs))) hlen hl
        · have hty : tyRs t k = .long := by
            unfold kOk at hkok; rw [e0] at hkok; simpa using hkok
          refine s_putf (v := .inr (.inl x)) (h' := wL hh t a k x) hx hb hown hts hw hf ht40 ha (by rw [hty]; rfl) (by rw [hty]; rfl) hfin (fun i cA z1 z2 hi2 => hw.1.putL x z1 z2 ha e0 hi2) hdg (fun ws' H1 locs1 hw' => ?_)
          exact hs.2 ws' tys φ H1 locs1 L hw' (hle0.tr (hle.wL hh t a k x)) hext (vok_wL hvl) (vok_wL (vok_tl (vok_tl hvs))) hlen hl
        · have hty : (∃ C, tyRs t k = .object C) ∨ ∃ C, tyRs t k = .array C := by
            unfold kOk at hkok; rw [e0] at hkok
            simp only at hkok
            split at hkok
            · rename_i C e2; exact Or.inl ⟨C, e2⟩
            · rename_i C e2; exact Or.inr ⟨C, e2⟩
            · cases hkok
          have hval : vok hh (vR n o) := by
            rcases e1 with rfl | rfl
            · exact hvs _ List.mem_cons_self
            · trivial
          have etr : trv φ (.inr (.inr (t', o))) = va_rf (o.map (φ n)) := by
            rcases e1 with rfl | rfl <;> rfl
          refine s_putf (v := .inr (.inr (t', o))) (h' := wR hh t a k o) hx hb hown hts hw hf ht40 ha (by rcases hty with ⟨C, e2⟩ | ⟨C, e2⟩ <;> rw [e2] <;> cases o <;> rfl) (by rcases hty with ⟨C, e2⟩ | ⟨C, e2⟩ <;> rw [e2] <;> cases o <;> rfl) hfin (fun i cA z1 z2 hi2 => by rw [etr]; exact hw.1.putR o z1 z2 ha e0 hval hi2) hdg (fun ws' H1 locs1 hw' => ?_)
          exact hs.2 ws' tys φ H1 locs1 L hw' (hle0.tr (hle.wR hh t a k o)) hext (vok_wR hvl) (vok_wR (vok_tl (vok_tl hvs))) hlen hl
    · exact hF.elim
  case iaload =>
    have hdg := dec_at hck (by rintro d lo hi os z; cases z) (by rintro d os z; cases z)
    dsimp only [FH] at hF
    obtain ⟨j, t, a, r, rfl, hok, h2⟩ := ald_cases hF
    obtain ⟨x, h3, h4⟩ := lda_int h2
    exact s_ald hx hb hw hok (hvs _ (List.mem_cons_of_mem _ List.mem_cons_self)) (Or.inl rfl) hdg (h4 _ (h3.2 ws tys φ H locs L hw hle0 hext hvl (vok_cons trivial (vok_tl (vok_tl hvs))) hlen hl))
  case baload =>
    have hdg := dec_at hck (by rintro d lo hi os z; cases z) (by rintro d os z; cases z)
    dsimp only [FH] at hF
    obtain ⟨j, t, a, r, rfl, hok, h2⟩ := ald_cases hF
    obtain ⟨x, h3, h4⟩ := lda_int h2
    exact s_ald hx hb hw hok (hvs _ (List.mem_cons_of_mem _ List.mem_cons_self)) (Or.inr (Or.inl rfl)) hdg (h4 _ (h3.2 ws tys φ H locs L hw hle0 hext hvl (vok_cons trivial (vok_tl (vok_tl hvs))) hlen hl))
  case caload =>
    have hdg := dec_at hck (by rintro d lo hi os z; cases z) (by rintro d os z; cases z)
    dsimp only [FH] at hF
    obtain ⟨j, t, a, r, rfl, hok, h2⟩ := ald_cases hF
    obtain ⟨x, h3, h4⟩ := lda_int h2
    exact s_ald hx hb hw hok (hvs _ (List.mem_cons_of_mem _ List.mem_cons_self)) (Or.inr (Or.inr rfl)) hdg (h4 _ (h3.2 ws tys φ H locs L hw hle0 hext hvl (vok_cons trivial (vok_tl (vok_tl hvs))) hlen hl))
  case iastore =>
    have hdg := dec_at hck (by rintro d lo hi os z; cases z) (by rintro d os z; cases z)
    dsimp only [FH] at hF
    obtain ⟨x, j, t, a, r, rfl, hok, h2⟩ := ast_cases hF
    obtain ⟨v, h3, h4⟩ := sta_ex h2
    exact s_ast hx hb hw hok (hvs _ (List.mem_cons_of_mem _ (List.mem_cons_of_mem _ List.mem_cons_self))) (Or.inl rfl) hdg (h4 _ (fun ws' H1 locs1 hw' => h3.2 ws' tys φ H1 locs1 L hw' (hle0.tr (hle.wI hh _ _ _ _)) hext (vok_wI hvl) (vok_wI (vok_tl (vok_tl (vok_tl hvs)))) hlen hl))
  case bastore =>
    have hdg := dec_at hck (by rintro d lo hi os z; cases z) (by rintro d os z; cases z)
    dsimp only [FH] at hF
    obtain ⟨x, j, t, a, r, rfl, hok, h2⟩ := ast_cases hF
    obtain ⟨v, h3, h4⟩ := sta_ex h2
    exact s_ast hx hb hw hok (hvs _ (List.mem_cons_of_mem _ (List.mem_cons_of_mem _ List.mem_cons_self))) (Or.inr (Or.inl rfl)) hdg (h4 _ (fun ws' H1 locs1 hw' => h3.2 ws' tys φ H1 locs1 L hw' (hle0.tr (hle.wI hh _ _ _ _)) hext (vok_wI hvl) (vok_wI (vok_tl (vok_tl (vok_tl hvs)))) hlen hl))
  case castore =>
    have hdg := dec_at hck (by rintro d lo hi os z; cases z) (by rintro d os z; cases z)
    dsimp only [FH] at hF
    obtain ⟨x, j, t, a, r, rfl, hok, h2⟩ := ast_cases hF
    obtain ⟨v, h3, h4⟩ := sta_ex h2
    exact s_ast hx hb hw hok (hvs _ (List.mem_cons_of_mem _ (List.mem_cons_of_mem _ List.mem_cons_self))) (Or.inr (Or.inr rfl)) hdg (h4 _ (fun ws' H1 locs1 hw' => h3.2 ws' tys φ H1 locs1 L hw' (hle0.tr (hle.wI hh _ _ _ _)) hext (vok_wI hvl) (vok_wI (vok_tl (vok_tl (vok_tl hvs)))) hlen hl))
  case aaload =>
    have hdg := dec_at hck (by rintro d lo hi os z; cases z) (by rintro d os z; cases z)
    dsimp only [FH] at hF
    split at hF
    · rename_i j t o r
      obtain ⟨hbt, h2⟩ := if_ex hF
      simp only [Bool.and_eq_true, Nat.ble_eq, Nat.blt_eq] at hbt
      obtain ⟨a, rfl, h3, h4⟩ := dr_ex h2
      have ha : a < jN hh t := hvs _ (List.mem_cons_of_mem _ List.mem_cons_self)
      exact s_aald hx hb hw hbt.1 hbt.2 ha h3 hdg (h4.2 ws tys φ H locs L hw hle0 hext hvl (vok_cons (hw.1.2.2.2.1 t a (ix j) hbt.1 hbt.2 ha) (vok_tl (vok_tl hvs))) hlen hl)
    · exact hF.elim
  case aastore =>
    have hdg := dec_at hck (by rintro d lo hi os z; cases z) (by rintro d os z; cases z)
    dsimp only [FH] at hF
    split at hF
    · rename_i t' o' j t o r
      obtain ⟨hbt, h2⟩ := if_ex hF
      simp only [Bool.and_eq_true, Nat.ble_eq, Nat.blt_eq, beqT] at hbt
      obtain ⟨⟨b1, b2⟩, rfl⟩ := hbt
      obtain ⟨a, rfl, h3, h4⟩ := dr_ex h2
      have ha : a < jN hh t := hvs _ (List.mem_cons_of_mem _ (List.mem_cons_of_mem _ List.mem_cons_self))
      exact s_aast hx hb hw b1 b2 ha h3 (hvs _ List.mem_cons_self) hdg (fun ws' H1 locs1 hw' => h4.2 ws' tys φ H1 locs1 L hw' (hle0.tr (hle.wR hh _ _ _ _)) hext (vok_wR hvl) (vok_wR (vok_tl (vok_tl (vok_tl hvs)))) hlen hl)
    · exact hF.elim
  case arraylength =>
    have hdg := dec_at hck (by rintro d lo hi os z; cases z) (by rintro d os z; cases z)
    dsimp only [FH] at hF
    split at hF
    · rename_i t o r
      obtain ⟨a, rfl, h2⟩ := dr_ex hF
      split at h2
      · rename_i n hn
        exact s_alen hx hb hw hn (hvs _ List.mem_cons_self) hdg (h2.2 ws tys φ H locs L hw hle0 hext hvl (vok_cons trivial (vok_tl hvs)) hlen hl)
      · exact h2.elim
    · exact hF.elim
  case newarray at' =>
    have hdg := dec_at hck (by rintro d lo hi os z; cases z) (by rintro d os z; cases z)
    dsimp only [FH] at hF
    split at hF
    · rename_i n r
      obtain ⟨hbt, h2, h3, h4⟩ := if_ex hF
      have hb1 := h4.1.2.1
      have hb2 := h4.1.2.2
      have e1 : jC (mk hh (atyp at') (ix n) (ix n)) = jC hh + 1 := rfl
      have e2 : jZ (mk hh (atyp at') (ix n) (ix n)) = jZ hh + ix n := rfl
      refine s_newa hx hb hts hw hA (Nat.blt_eq.mp hbt) h2 h3 (by rw [hRc]; omega) (by rw [hRz]; omega) hdg (fun φ' ws' tys' H1 he hw' => ?_)
      exact SP.made (n := 0) h4 hle0 rfl rfl (hle.mk hh _ _ _) (mk_new hh _ _ _) hext he hw' hvl (vok_tl hvs) hlen hl
    · exact hF.elim
  case anewarray idx =>
    have hdg := dec_at hck (by rintro d lo hi os z; cases z) (by rintro d os z; cases z)
    dsimp only [FH] at hF
    split at hF
    · rename_i t n r hf
      obtain ⟨hbt, h2, h3, h4⟩ := if_ex hF
      simp only [Bool.or_eq_true, beqT] at hbt
      have hb1 := h4.1.2.1
      have hb2 := h4.1.2.2
      have e1 : jC (mk hh (30 + t) (ix n) (ix n)) = jC hh + 1 := rfl
      have e2 : jZ (mk hh (30 + t) (ix n) (ix n)) = jZ hh + ix n := rfl
      refine s_newq hx hb hown hts hw hA hf (by simp only [List.mem_cons, List.not_mem_nil, or_false]; omega) h2 h3 (by rw [hRc]; omega) (by rw [hRz]; omega) hdg (fun φ' ws' tys' H1 he hw' => ?_)
      exact SP.made (n := 0) h4 hle0 rfl rfl (hle.mk hh _ _ _) (mk_new hh _ _ _) hext he hw' hvl (vok_tl hvs) hlen hl
    · exact hF.elim
  case new idx =>
    have hdg := dec_at hck (by rintro d lo hi os z; cases z) (by rintro d os z; cases z)
    dsimp only [FH] at hF
    split at hF
    · rename_i t hf
      obtain ⟨hbt, h4⟩ := if_ex hF
      have hb1 := h4.1.2.1
      have hb2 := h4.1.2.2
      have e1 : jC (mk hh t 0 (nfl t)) = jC hh + 1 := rfl
      have e2 : jZ (mk hh t 0 (nfl t)) = jZ hh + nfl t := rfl
      refine s_new hx hb hown hts hw hA hf (Nat.blt_eq.mp hbt) (by rw [hRc]; omega) (by rw [hRz]; omega) hdg (fun φ' ws' H1 he hw' => ?_)
      exact SP.made (n := 0) h4 hle0 rfl rfl (hle.mk hh _ _ _) (mk_new hh _ _ _) hext he hw' hvl hvs hlen hl
    · exact hF.elim
  case invokestatic idx =>
    have hdg := dec_at hck (by rintro d lo hi os z; cases z) (by rintro d os z; cases z)
    rcases FH_static hF with ⟨ns, n, j, r, hf, rfl, hwt, ⟨hj0, hjn⟩, hs⟩ | ⟨ns, b, a, r, hf, rfl, hwt, hs⟩ | ⟨ns, b, a, r, hf, rfl, hwt, hs⟩ | ⟨ns, a, r, hf, rfl, hwt, hs⟩ | ⟨y', ns, hf, hy', hki, hpa, hwt, hwt2, hC⟩
    · have hG : GoodIn lw_good wsCk := fun w hw2 => by
        have : w ∈ lw_good := by
          rcases List.mem_cons.mp hw2 with rfl | hw2
          · exact ckw_6
          · exact hw2
        exact ⟨this, good_of_word (lw_good_good this).2⟩
      have hfr : ∀ q, va_A ws H.size q → A q := by
        intro q hq
        rcases hq with ⟨k, e, hk⟩ | hq
        · exact hw.2.2.2.1.2 k _ hk
        · exact hA q (Nat.le_trans hw.2.2.2.2.1.1 hq)
      refine s_call (A := A) (free := va_A ws H.size) (rest := r.map (trv φ)) (mc := 0) (ms := 0) (Qa := ckQ none #[.int j, .int n]) (va_runS (As := [.int j, .int n]) (rest := r.map (trv φ)) (Ts := lw_good) ⟨hx, hb, hml, hown, hts⟩ (c_ck l (va_A ws H.size) j n hj0 hjn) ⟨callB_of 2 hts hG rfl rfl rfl (hts _ ckw_8) (hts _ ((mth_sp hf).2.1 rfl)) (by decide +kernel) ⟨by rw [hRf]; show 1 + 1 ≤ _; omega, by rw [hRl]; show 8 + (2 + 11) + 64 ≤ _; omega⟩, hts _ ckw_7⟩ ⟨fun a U g mk q => ⟨q.1, va_Zq.moved (u := U) (U := U.calling g mk a) (Vm.Alike.refl U.vm) q.2⟩, fun U hU hW => ⟨rfl, (hw.2.2.2.2.2.to hw.2.2.2.2.1 hW hU hfr).2.2.2.2.2.2.2.1⟩⟩ rfl rfl hsize rfl (lv_room (by rw [wt_cat]; exact hwt)) hdg ⟨by rw [hRc]; omega, by rw [hRz]; omega⟩) hw.2.2.2.2.1 hfr (fun v st t h0 hq => ⟨by rw [hq.2]; exact Nat.le_refl _, fun q _ _ => by rw [hq.2]⟩) ?_
      rintro v1 st1 t H1 locs1 ht hal hh0 ⟨hv1, hheap⟩ hS1
      cases hv1
      have eH : H1 = H := by rw [← ht, hheap, hh0]
      subst eH
      exact hs.2 ws tys φ H1 locs1 L ⟨hw.1, hw.2.1, hw.2.2.1, hw.2.2.2.1, hS1, hw.2.2.2.2.2⟩ hle0 hext hvl (vok_tl (vok_tl hvs)) hlen hl
    · exact va_mmin hx hb (hml.trans hsize.symm) hown (hts _ ((mth_sp hf).2.2.1 rfl)) (hts _ math_min1) (hts _ math_ini) (hts _ math_min2) (by rw [hRf]; omega) (by rw [wt_cat, hRl]; omega) (by rw [hRc]; omega) (by rw [hRz]; omega) hdg (hs.2 ws tys φ H locs L hw hle0 hext hvl (vok_cons trivial (vok_tl (vok_tl hvs))) hlen hl)
    · exact va_mmax hx hb (hml.trans hsize.symm) hown (hts _ ((mth_sp hf).2.2.2.1 rfl)) (hts _ math_max1) (hts _ math_ini) (hts _ math_max2) (by rw [hRf]; omega) (by rw [wt_cat, hRl]; omega) (by rw [hRc]; omega) (by rw [hRz]; omega) hdg (hs.2 ws tys φ H locs L hw hle0 hext hvl (vok_cons trivial (vok_tl (vok_tl hvs))) hlen hl)
    · exact va_mabs hx hb (hml.trans hsize.symm) hown (hts _ ((mth_sp hf).2.2.2.2 rfl)) (hts _ math_abs1) (hts _ math_ini) (hts _ math_abs2) (by rw [hRf]; omega) (by rw [wt_cat, hRl]; omega) (by rw [hRc]; omega) (by rw [hRz]; omega) hdg (hs.2 ws tys φ H locs L hw hle0 hext hvl (vok_cons trivial (vok_tl hvs)) hlen hl)
    · obtain ⟨v1, h2, l1, hs, hc1⟩ := Call_det d y' _ hh _ hC
      obtain ⟨c1, c2, -, -, -, c6, -, c8, -⟩ := chkM_parts hy'
      have hva : ∀ v ∈ (st.take (mPa y')).reverse, vok hh v := fun v z => hvs v (List.mem_of_mem_take (List.mem_reverse.mp z))
      have M := ih y' _ hh v1 h2 hy' (by rw [wt_rev]; exact hwt2) hc1 D ws tys φ H.size hw.1 hva
      have hb1 := hs.1.2.1
      have hb2 := hs.1.2.2
      have hb3 := l1.2.1
      have hb4 := l1.2.2
      have hstk : st.map (trv φ) = (((st.take (mPa y')).reverse).map (trv φ)).reverse ++ (st.drop (mPa y')).map (trv φ) := by
        rw [← List.map_reverse, List.reverse_reverse, ← List.map_append, List.take_append_drop]
      have hnl : (((st.take (mPa y')).reverse).map (trv φ)).length = mPa y' := by
        rw [List.length_map, List.length_reverse, List.length_take]; omega
      refine SP.back (a := (((st.take (mPa y')).reverse).map (trv φ)).toArray) (as' := []) (d := d) hy' hs hle0 l1 hext hw hA hvl (fun v z => hvs v (List.mem_of_mem_drop z)) hlen hl ?_
      rcases mth_ex hf hy' with ⟨-, hlk⟩ | ⟨-, hlk⟩
      · exact va_runS (As := ((st.take (mPa y')).reverse).map (trv φ)) (Ts := lw_good) ⟨hx, hb, hml, hown, hts⟩ M ⟨callB_of (mPa y') hts (good_TW hy') rfl rfl rfl (hts _ c1) (hts _ hlk) c8 ⟨by rw [hRf]; show d + 2 + 1 ≤ _; omega, by rw [hRl]; show 8 + (mLo y' + 11) + (64 * d + 192) ≤ _; omega⟩, hts _ (c2 hki)⟩ ⟨PcA_blind, pre_A hw hA⟩ rfl hnl hsize hstk (lv_room (by rw [wt_cat]; exact hwt)) hdg ⟨by rw [hRc]; omega, by rw [hRz]; omega⟩
      · exact va_runSN (As := ((st.take (mPa y')).reverse).map (trv φ)) (Ts := lw_good) ⟨hx, hb, hml, hown, hts⟩ M ⟨va_cnB (mPa y') hts (good_TW hy') rfl rfl rfl (hw.2.2.2.2.2.2.2.2.2.2.2.2.2.1 _ hlk) (hts _ c1) c8 ⟨by rw [hRf]; show d + 2 + 1 ≤ _; omega, by rw [hRl]; show 8 + (mLo y' + 11) + (64 * d + 192) ≤ _; omega⟩, hts _ (c2 hki), trivial⟩ ⟨PcA_blind, pre_A hw hA⟩ rfl hnl hsize hstk (lv_room (by rw [wt_cat]; exact hwt)) hdg ⟨by rw [hRc]; omega, by rw [hRz]; omega⟩
  case invokevirtual idx =>
    have hdg := dec_at hck (by rintro d lo hi os z; cases z) (by rintro d os z; cases z)
    obtain ⟨y', a, r, hf, hdrop, hy', hki, hwt, hwt2, hC⟩ := FH_virtual hF
    obtain ⟨v1, h2, l1, hs, hc1⟩ := Call_det d y' _ hh _ hC
    obtain ⟨c1, -, c3, -, -, c6, -, c8, c9⟩ := chkM_parts hy'
    obtain ⟨c31, c32, c33⟩ := c3 hki
    have hmem : .inr (.inr (mOw y', some a)) ∈ st := List.mem_of_mem_drop (by rw [hdrop]; exact List.mem_cons_self)
    have ha : a < jN hh (mOw y') := hvs _ hmem
    have hva : ∀ v ∈ (.inr (.inr (mOw y', some a)) :: (st.take (mPa y')).reverse : List AV), vok hh v := vok_cons ha (fun v z => hvs v (List.mem_of_mem_take (List.mem_reverse.mp z)))
    have M := ih y' _ hh v1 h2 hy' (by show wt (st.take (mPa y')).reverse + 1 ≤ _; rw [wt_rev]; omega) hc1 D ws tys φ H.size hw.1 hva
    have hb1 := hs.1.2.1
    have hb2 := hs.1.2.2
    have hb3 := l1.2.1
    have hb4 := l1.2.2
    have hlt : mPa y' < st.length := by
      have := congrArg List.length hdrop
      rw [List.length_drop, List.length_cons] at this
      omega
    have hstk : st.map (trv φ) = (((st.take (mPa y')).reverse).map (trv φ)).reverse ++ Value.ref (φ (mOw y') a) :: r.map (trv φ) := by
      have e1 : Value.ref (φ (mOw y') a) :: r.map (trv φ) = (st.drop (mPa y')).map (trv φ) := by rw [hdrop]; rfl
      rw [e1, ← List.map_reverse, List.reverse_reverse, ← List.map_append, List.take_append_drop]
    have hnl : (((st.take (mPa y')).reverse).map (trv φ)).length = mPa y' := by
      rw [List.length_map, List.length_reverse, List.length_take]; omega
    have hrecv : ∃ cellB : Cell, H[φ (mOw y') a]? = some cellB ∧ cellB.vm.isStatics = false ∧ s.vm.findClass (mNm y').cls = some cellB.cls := by
      rw [← c9]
      rcases c33 with c33 | c33
      · obtain ⟨i, cA, hi2, -⟩ := hw.1.1 (mOw y') a (by unfold hrg; simp [Nat.blt_eq, c33]) ha
        rw [cellOf_obj c33] at hi2
        exact va_recv hw.2.1 hw.2.2.1 (cls_at _ c33) hi2
      · rw [c33] at ha ⊢
        rw [hw.1.2.2.2.2.1] at ha
        obtain ⟨cell, g1, g2, g3, -⟩ := (hw.2.2.2.2.2.1 a ha).1.kept hw.2.2.2.2.1.2.1
        exact ⟨cell, g1, g2, g3⟩
    refine SP.back (a := (Value.ref (φ (mOw y') a) :: ((st.take (mPa y')).reverse).map (trv φ)).toArray) (as' := []) (d := d) hy' hs hle0 l1 hext hw hA hvl (fun v z => hvs v (List.mem_of_mem_drop (by rw [hdrop]; exact List.mem_cons_of_mem _ z))) hlen hl ?_
    rcases mth_ex hf hy' with ⟨-, hlk⟩ | ⟨z, -⟩
    · exact va_runV (C := (mNm y').cls) (As := ((st.take (mPa y')).reverse).map (trv φ)) (Ts := lw_good) ⟨hx, hb, hml, hown, hts⟩ M ⟨callB_of (mPa y') hts (good_TW hy') rfl rfl rfl (hts _ c1) (hts _ hlk) c8 ⟨by rw [hRf]; show d + 2 + 1 ≤ _; omega, by rw [hRl]; show 8 + (mLo y' + 11) + (64 * d + 192) ≤ _; omega⟩, hts _ c31, hts _ c32⟩ ⟨PcA_blind, hrecv, pre_A hw hA⟩ rfl hnl hsize hstk (lv_room (by rw [wt_cat]; exact hwt)) hdg ⟨by rw [hRc]; omega, by rw [hRz]; omega⟩
    · exact absurd rfl z
  case invokespecial idx =>
    have hdg := dec_at hck (by rintro d lo hi os z; cases z) (by rintro d os z; cases z)
    rcases FH_special hF with ⟨ns, t, a, r, hf, rfl, hwt, hs⟩ | ⟨y', ns, a, r, hf, hdrop, hy', hki, hwt, hwt2, hC⟩
    · exact W.objInit hx hb hown (hts _ ((mth_sp hf).1 rfl)) (hts _ obj_w1) (hts _ obj_w2) rfl (hsize.trans hml.symm) rfl hdg (by rw [hRf]; omega) (by rw [hRl]; show 2 * 0 + ((r.map (trv φ)).map fun v => v.category).sum + 12 ≤ _; rw [wt_cat]; omega) (hs.2 ws tys φ H locs L hw hle0 hext hvl (vok_tl hvs) hlen hl)
    · obtain ⟨v1, h2, l1, hs, hc1⟩ := Call_det d y' _ hh _ hC
      obtain ⟨c1, -, -, c4, -, c6, -, c8, c9⟩ := chkM_parts hy'
      obtain ⟨c41, c42, c43, c44⟩ := c4 hki
      have hmem : .inr (.inr (mOw y', some a)) ∈ st := List.mem_of_mem_drop (by rw [hdrop]; exact List.mem_cons_self)
      have ha : a < jN hh (mOw y') := hvs _ hmem
      have hva : ∀ v ∈ (.inr (.inr (mOw y', some a)) :: (st.take (mPa y')).reverse : List AV), vok hh v := vok_cons ha (fun v z => hvs v (List.mem_of_mem_take (List.mem_reverse.mp z)))
      have M := ih y' _ hh v1 h2 hy' (by show wt (st.take (mPa y')).reverse + 1 ≤ _; rw [wt_rev]; omega) hc1 D ws tys φ H.size hw.1 hva
      have hb1 := hs.1.2.1
      have hb2 := hs.1.2.2
      have hb3 := l1.2.1
      have hb4 := l1.2.2
      have hlt : mPa y' < st.length := by
        have := congrArg List.length hdrop
        rw [List.length_drop, List.length_cons] at this
        omega
      have hstk : st.map (trv φ) = (((st.take (mPa y')).reverse).map (trv φ)).reverse ++ Value.ref (φ (mOw y') a) :: r.map (trv φ) := by
        have e1 : Value.ref (φ (mOw y') a) :: r.map (trv φ) = (st.drop (mPa y')).map (trv φ) := by rw [hdrop]; rfl
        rw [e1, ← List.map_reverse, List.reverse_reverse, ← List.map_append, List.take_append_drop]
      have hnl : (((st.take (mPa y')).reverse).map (trv φ)).length = mPa y' := by
        rw [List.length_map, List.length_reverse, List.length_take]; omega
      have hTW : TW y' = Cond.code (mNm y') (mBy y') (mLo y') none :: lw_good := by unfold TW; rw [c43]
      refine SP.back (a := (Value.ref (φ (mOw y') a) :: ((st.take (mPa y')).reverse).map (trv φ)).toArray) (as' := []) (d := d) hy' hs hle0 l1 hext hw hA hvl (fun v z => hvs v (List.mem_of_mem_drop (by rw [hdrop]; exact List.mem_cons_of_mem _ z))) hlen hl ?_
      rcases mth_ex hf hy' with ⟨-, hlk⟩ | ⟨-, hlk⟩
      · exact va_runI (As := ((st.take (mPa y')).reverse).map (trv φ)) (Ts := lw_good) ⟨hx, hb, hml, hown, hts⟩ M ⟨callB_of (mPa y') hts (good_TW hy') hTW rfl rfl (hts _ c1) (hts _ hlk) c8 ⟨by rw [hRf]; show d + 2 + 1 ≤ _; omega, by rw [hRl]; show 8 + (mLo y' + 11) + (64 * d + 192) ≤ _; omega⟩, c42, hts _ c41⟩ ⟨PcA_blind, pre_A hw hA⟩ rfl hnl hsize hstk (lv_room (by rw [wt_cat]; exact hwt)) hdg ⟨by rw [hRc]; omega, by rw [hRz]; omega⟩
      · exact va_runIN (As := ((st.take (mPa y')).reverse).map (trv φ)) (Ts := lw_good) ⟨hx, hb, hml, hown, hts⟩ M ⟨va_cnB (mPa y') hts (good_TW hy') hTW rfl rfl (hw.2.2.2.2.2.2.2.2.2.2.2.2.2.1 _ hlk) (hts _ c1) c8 ⟨by rw [hRf]; show d + 2 + 1 ≤ _; omega, by rw [hRl]; show 8 + (mLo y' + 11) + (64 * d + 192) ≤ _; omega⟩, c42, hts _ c41⟩ ⟨PcA_blind, pre_A hw hA⟩ rfl hnl hsize hstk (lv_room (by rw [wt_cat]; exact hwt)) hdg ⟨by rw [hRc]; omega, by rw [hRz]; omega⟩
  case ireturn =>
    have hdg := dec_at hck (by rintro d lo hi os z; cases z) (by rintro d os z; cases z)
    have hro := rOk_ex (chkM_parts hy).2.2.2.2.1
    dsimp only [FH] at hF
    split at hF
    · split at hF
      · obtain ⟨rfl, rfl⟩ := hF
        exact W.iret hx hb (hr.trans (hro.2.1 (by assumption))) (fun t ht hW => hQc t ws tys φ H locs ht hW hw hext (fun v z => by cases z; trivial)) hw.2.2.2.2.1.2.2 hdg hlocks
      · obtain ⟨hnar, rfl, rfl⟩ := hF
        unfold FH.dr2 at hnar
        split at hnar
        · exact W.zret hx hb (hr.trans (by assumption)) hnar (fun t ht hW => hQc t ws tys φ H locs ht hW hw hext (fun v z => by cases z; trivial)) hw.2.2.2.2.1.2.2 hdg hlocks
        · exact hnar.elim
      · exact hF.elim
    · exact hF.elim
  case lreturn =>
    have hdg := dec_at hck (by rintro d lo hi os z; cases z) (by rintro d os z; cases z)
    have hro := rOk_ex (chkM_parts hy).2.2.2.2.1
    dsimp only [FH] at hF
    split at hF
    · split at hF
      · obtain ⟨rfl, rfl⟩ := hF
        exact W.lret hx hb (hr.trans (hro.2.2.1 (by assumption))) (fun t ht hW => hQc t ws tys φ H locs ht hW hw hext (fun v z => by cases z; trivial)) hw.2.2.2.2.1.2.2 hdg hlocks
      · exact hF.elim
    · exact hF.elim
  case areturn =>
    have hdg := dec_at hck (by rintro d lo hi os z; cases z) (by rintro d os z; cases z)
    have hro := rOk_ex (chkM_parts hy).2.2.2.2.1
    dsimp only [FH] at hF
    split at hF
    · split at hF
      · obtain ⟨rt, e1, e2⟩ := hro.2.2.2 _ (by assumption)
        split at hF
        · have e3 := Nat.eq_of_beq_eq_true (by assumption)
          subst e3
          obtain ⟨rfl, rfl⟩ := hF
          exact W.aret hx hb (hr.trans e1) e2 (rf_or _) (fun t ht hW => hQc t ws tys φ H locs ht hW hw hext (fun v z => by cases z; exact hvs _ List.mem_cons_self)) hw.2.2.2.2.1.2.2 hdg hlocks
        · obtain ⟨rfl, rfl⟩ := hF
          exact W.aret hx hb (hr.trans e1) e2 (Or.inl rfl) (fun t ht hW => hQc t ws tys φ H locs ht hW hw hext (fun v z => by cases z; trivial)) hw.2.2.2.2.1.2.2 hdg hlocks
        · exact hF.elim
      · exact hF.elim
    · exact hF.elim
  case return_ =>
    have hdg := dec_at hck (by rintro d lo hi os z; cases z) (by rintro d os z; cases z)
    have hro := rOk_ex (chkM_parts hy).2.2.2.2.1
    dsimp only [FH] at hF
    split at hF
    · split at hF
      · obtain ⟨rfl, rfl⟩ := hF
        exact W.vret hx hb (hr.trans (hro.1 (by assumption))) (fun t ht hW => hQc t ws tys φ H locs ht hW hw hext (fun v z => by cases z)) hw.2.2.2.2.1.2.2 hdg hlocks
      · exact hF.elim
    · exact hF.elim
  all_goals exact (show False from hF).elim
end WALK2
/-- every method of the tables, at every depth -/
theorem sound (l : Launch) : ∀ d, SoundAt l d
  | 0 => fun _ _ _ _ _ _ _ hc => hc.elim
  | d + 1 => by
    intro y as h rv h1 hy hwt hcall D ws tys φ sz hR hv
    obtain ⟨c1, -, -, c4, -, -, c7, -, c9⟩ := chkM_parts hy
    refine Met.ofW (cc := mBy y) (maxL := mLo y) (ret := mRt y) c7 rfl ?_
    intro p e s m args below meth c s₁ B hml hv0
    obtain ⟨rfl, hsz, hK, hP, hD0, hrom⟩ := hv0
    subst hsz
    have hts := atoms_spec (ws := TW y) B.pre
    have hts2 : ∀ w ∈ lw_good, w.before (as.map (trv φ)).toArray s = true := fun w hw => hts w (List.mem_cons_of_mem _ hw)
    have hown : s.vm.findClass (cnm (mOw y)) = some m.cls := by rw [c9]; exact findClass_of_methodNamed B.named
    have hini : mKi y = 2 → meth.name = "<init>" := fun z => ((name_of_methodNamed B.named B.method).1).trans (c4 z).2.1
    have hA : ∀ q, s.heap.size ≤ q → va_A ws s.heap.size q := fun q hq => Or.inr hq
    have hl := lv_entry (as.map (trv φ)) (n := mLo y) (by rw [sl_len]; exact hwt)
    rw [lg_entry_eq]
    generalize (lg_sl (as.map (trv φ)) ++ List.replicate (mLo y - (lg_sl (as.map (trv φ))).length) Slot.unset).toArray = L at hl ⊢
    have hl2 : lv_has L (mLo y) (prl φ 0 (entLs as (mLo y))) := ⟨hl.1, hl.2.1, fun q hq => hl.2.2 q (prl_ent φ as _ 0 q hq)⟩
    have hlen : (entLs as (mLo y)).length = mLo y := by
      unfold entLs
      rw [List.length_append, List.length_replicate, wt_len]
      omega
    have hsp := hcall (SP p l e s m (as.map (trv φ)).toArray below meth c (va_A ws s.heap.size) D (rmd (d + 1) (jC h1 - jC h) (jZ h1 - jZ h)) (MQ below (QcA D h φ ws s.heap.size rv h1) (as.map (trv φ)).toArray s (jC h1 - jC h) (jZ h1 - jZ h) (va_A ws s.heap.size)) y h φ h1) (walk hy (sound l d) B.exec B.bytes B.returns hml hown hts2 B.notSynchronized hini hA rfl rfl rfl rfl (fun t ws' tys' φ' H locs ht hW hw hext hvr => ⟨⟨ws', tys', φ', rfl, hvr, hw.1, hext, va_K.moved hW.alike hw.2.1, by rw [ht]; exact hw.2.2.1, hw.2.2.2.1⟩, hw.2.2.2.2.1.F ht⟩))
    have := hsp.2 ws tys φ s.heap [] L ⟨hR, hK, hP, hD0.self, va_S.rf, hrom⟩ (hle.rf h) (fun _ _ _ => rfl) (ent_vok hv (mLo y)) (fun v z => by cases z) hlen hl2
    rw [Nat.sub_self, Nat.sub_self] at this
    exact this
end
section
/-! typed calls, and runs up to cut points over them -/
abbrev CI (d y : Nat) (as : List AV) (h : Hp) (K : Int32 → Hp → Prop) : Prop := Call d y as h (fun v h' => ∃ x, v = some (.inl x) ∧ K x h')
abbrev CJ (d y : Nat) (as : List AV) (h : Hp) (K : Int64 → Hp → Prop) : Prop := Call d y as h (fun v h' => ∃ x, v = some (.inr (.inl x)) ∧ K x h')
abbrev CV (d y : Nat) (as : List AV) (h : Hp) (K : Hp → Prop) : Prop := Call d y as h (fun v h' => v = none ∧ K h')
abbrev CR (d y t : Nat) (as : List AV) (h : Hp) (K : Option Nat → Hp → Prop) : Prop := Call d y as h (fun v h' => ∃ o, v = some (.inr (.inr (t, o))) ∧ K o h')
def tyK (rc : Nat) (K : Option AV → Hp → Prop) (v : Option AV) (h' : Hp) : Prop := match rc with
  | 0 => v = none ∧ K none h'
  | 1 => ∃ x, v = some (.inl x) ∧ K (some (.inl x)) h'
  | 2 => ∃ x, v = some (.inl x) ∧ K (some (.inl x)) h'
  | 3 => ∃ x, v = some (.inr (.inl x)) ∧ K (some (.inr (.inl x))) h'
  | 4 => False
  | n + 5 => ∃ o, v = some (.inr (.inr (n, o))) ∧ K (some (.inr (.inr (n, o)))) h'
theorem tyK_K {rc : Nat} {K : Option AV → Hp → Prop} {v : Option AV} {h' : Hp} (h : tyK rc K v h') : K v h' := by
  unfold tyK at h
  split at h
  · rw [h.1]; exact h.2
  · obtain ⟨x, e, k⟩ := h; rw [e]; exact k
  · obtain ⟨x, e, k⟩ := h; rw [e]; exact k
  · obtain ⟨x, e, k⟩ := h; rw [e]; exact k
  · exact h.elim
  · obtain ⟨x, e, k⟩ := h; rw [e]; exact k
def Ct (d : Nat) : CT := fun y as h K => Call d y as h (tyK (mRc y) K)
theorem tyK_mono {rc : Nat} {K K' : Option AV → Hp → Prop} {v : Option AV} {h' : Hp} (hk : ∀ v h, K v h → K' v h) (h : tyK rc K v h') : tyK rc K' v h' := by
  unfold tyK at h ⊢
  split at h
  · exact ⟨h.1, hk _ _ h.2⟩
  · obtain ⟨x, e, k⟩ := h; exact ⟨x, e, hk _ _ k⟩
  · obtain ⟨x, e, k⟩ := h; exact ⟨x, e, hk _ _ k⟩
  · obtain ⟨x, e, k⟩ := h; exact ⟨x, e, hk _ _ k⟩
  · exact h.elim
  · obtain ⟨x, e, k⟩ := h; exact ⟨x, e, hk _ _ k⟩
theorem FXt_run {d y : Nat} {Q : Option AV → Hp → Prop} {P : Nat → List AV → List AV → Hp → Prop} {cuts : List Nat} (hP : Cl (Call d) y Q P) : ∀ (n pc : Nat) (ls st : List AV) (h : Hp), FX (Ct d) y Q P cuts n pc ls st h → P pc ls st h
  | 0, _, _, _, _, hh => hh
  | n + 1, pc, ls, st, h, hh => by
    unfold FX at hh
    split at hh
    · exact hh
    · exact hP _ _ _ _ (FS_mono (C := Ct d) (fun _ _ _ _ _ hS q => Call_mono (fun v h z => hS v h (tyK_K z)) q) (fun _ _ z => z) (fun _ _ _ _ w => FXt_run hP n _ _ _ _ w) hh)
theorem Cl.runT {d y : Nat} {Q : Option AV → Hp → Prop} {P : Nat → List AV → List AV → Hp → Prop} (hP : Cl (Call d) y Q P) (cuts : List Nat) (n : Nat) {pc : Nat} {ls st : List AV} {h : Hp} (hh : FS (Ct d) y Q (FX (Ct d) y Q P cuts n) pc ls st h) : P pc ls st h :=
  hP _ _ _ _ (FS_mono (C := Ct d) (fun _ _ _ _ _ hS q => Call_mono (fun v h z => hS v h (tyK_K z)) q) (fun _ _ z => z) (fun _ _ _ _ w => FXt_run hP n _ _ _ _ w) hh)
/-- a method of no loop, at once -/
theorem Call.runT {d y : Nat} {as : List AV} {h : Hp} {Q : Option AV → Hp → Prop} (n : Nat) (hh : ∀ P, FS (Ct d) y Q (FX (Ct d) y Q P [] n) 0 (entLs as (mLo y)) [] h) : Call (d + 1) y as h Q :=
  fun P hP => Cl.runT hP [] n (hh P)
theorem CI.of {d y : Nat} {as : List AV} {h : Hp} {K K' : Int32 → Hp → Prop} (k : ∀ x h, K x h → K' x h) (c : CI d y as h K) : CI d y as h K' := Call_mono (fun _ _ z => by obtain ⟨x, e, w⟩ := z; exact ⟨x, e, k _ _ w⟩) c
theorem CJ.of {d y : Nat} {as : List AV} {h : Hp} {K K' : Int64 → Hp → Prop} (k : ∀ x h, K x h → K' x h) (c : CJ d y as h K) : CJ d y as h K' := Call_mono (fun _ _ z => by obtain ⟨x, e, w⟩ := z; exact ⟨x, e, k _ _ w⟩) c
theorem CV.of {d y : Nat} {as : List AV} {h : Hp} {K K' : Hp → Prop} (k : ∀ h, K h → K' h) (c : CV d y as h K) : CV d y as h K' := Call_mono (fun _ _ z => ⟨z.1, k _ z.2⟩) c
theorem CR.of {d y t : Nat} {as : List AV} {h : Hp} {K K' : Option Nat → Hp → Prop} (k : ∀ x h, K x h → K' x h) (c : CR d y t as h K) : CR d y t as h K' := Call_mono (fun _ _ z => by obtain ⟨x, e, w⟩ := z; exact ⟨x, e, k _ _ w⟩) c
end
section
/-! the same steps over a method's own small tables: what the VC theorems are read off -/
abbrev MF : Type := Nat × Nat × Nat × Nat × Nat × Nat
def gfk (kd : Nat) (h : Hp) (t a k : Nat) : AV := match kd with
  | 0 => .inl (jI h t a k)
  | 1 => .inr (.inl (jL h t a k))
  | 2 => .inl (jI h t a k)
  | 3 => .inr (.inr (41, some a))
  | 4 => .inl 0
  | n + 5 => .inr (.inr (n, jR h t a k))
def pfk (kd : Nat) (h : Hp) (t a k : Nat) (v : AV) (K : Hp → Prop) : Prop := match kd, v with
  | 0, .inl x => K (wI h t a k x)
  | 1, .inr (.inl x) => K (wL h t a k x)
  | 2, .inl x => (x = 0 ∨ x = 1) ∧ K (wI h t a k x)
  | n + 5, .inr (.inr (t', o)) => match Nat.beq n t', o with
    | true, o => K (wR h t a k o)
    | false, none => K (wR h t a k none)
    | false, some _ => False
  | _, _ => False
def lkc (code : List (List (Nat × Instr))) (pc : Nat) : Option Instr := lk (code.getD (pc / 32) []) pc
def FHx (d y : Nat) (F : List (Nat × Nat × Nat × Nat)) (M : List (Nat × MF)) (Q : Option AV → Hp → Prop) (P : Nat → List AV → List AV → Hp → Prop) (pc : Nat) (ls st : List AV) (h : Hp) (i : Instr) : Prop := match i with
  | .getfield idx => match lk F idx, st with
    | some (ci, k, kd), .inr (.inr (t, o)) :: r => rg t ci (dr o fun a => P (pc + 3) ls (gfk kd h ci a k :: r) h)
    | _, _ => False
  | .putfield idx => match lk F idx, st with
    | some (ci, k, kd), v :: .inr (.inr (t, o)) :: r => rg t ci (dr o fun a => pfk kd h ci a k v fun h' => P (pc + 3) ls r h')
    | _, _ => False
  | .invokestatic idx => match lk M idx with
    | some (y', ki, pa, lo, _, rc) => if' (Nat.beq ki 0 && Nat.ble pa st.length && Nat.ble (wt (st.drop pa)) 8 && Nat.ble (wt (st.take pa)) lo) (Call d y' (st.take pa).reverse h (tyK rc fun v h' => P (pc + 3) ls (cons? v (st.drop pa)) h'))
    | none => FH (Ct d) y Q P pc ls st h (.invokestatic idx)
  | .invokevirtual idx => match lk M idx with
    | some (y', ki, pa, lo, ow, rc) => match st.drop pa with
      | .inr (.inr (t, o)) :: r => if' (Nat.beq ki 1 && Nat.ble (wt r) 8 && Nat.ble (1 + wt (st.take pa)) lo) (rg t ow (dr o fun a => Call d y' (.inr (.inr (t, some a)) :: (st.take pa).reverse) h (tyK rc fun v h' => P (pc + 3) ls (cons? v r) h')))
      | _ => False
    | none => False
  | .invokespecial idx => match lk M idx with
    | some (y', ki, pa, lo, ow, rc) => match st.drop pa with
      | .inr (.inr (t, o)) :: r => if' (Nat.beq ki 2 && Nat.ble (wt r) 8 && Nat.ble (1 + wt (st.take pa)) lo) (rg t ow (dr o fun a => Call d y' (.inr (.inr (t, some a)) :: (st.take pa).reverse) h (tyK rc fun v h' => P (pc + 3) ls (cons? v r) h')))
      | _ => False
    | none => FH (Ct d) y Q P pc ls st h (.invokespecial idx)
  | i => FH (Ct d) y Q P pc ls st h i
def isK : Instr → Option (Nat × Nat)
  | .ldc k => some (k, 2)
  | .ldc2_w k => some (k, 3)
  | .getstatic k => some (k, 3)
  | _ => none
def FIx (d y : Nat) (F : List (Nat × Nat × Nat × Nat)) (M : List (Nat × MF)) (Kc : List (Nat × AV)) (Q : Option AV → Hp → Prop) (P : Nat → List AV → List AV → Hp → Prop) (pc : Nat) (ls st : List AV) (h : Hp) (i : Instr) : Prop := match isK i with
  | some (k, n) => match lk Kc k with
    | some v => P (pc + n) ls (v :: st) h
    | none => False
  | none => match step1 99 i pc ls st with
    | some (pc', ls', st') => P pc' ls' st' h
    | none => match br1 i pc st with
      | some (c, t, r) => (c → P t ls r h) ∧ (¬ c → P (pc + 3) ls r h)
      | none => FHx d y F M Q P pc ls st h i
def FSx (d y : Nat) (code : List (List (Nat × Instr))) (F : List (Nat × Nat × Nat × Nat)) (M : List (Nat × MF)) (Kc : List (Nat × AV)) (Q : Option AV → Hp → Prop) (P : Nat → List AV → List AV → Hp → Prop) (pc : Nat) (ls st : List AV) (h : Hp) : Prop := match lkc code pc with
  | some i => FIx d y F M Kc Q P pc ls st h i
  | none => False
def okKd (ci k kd : Nat) : Bool := match Nat.beq ci 40 with
  | true => match k with
    | 0 => Nat.beq kd 3
    | _ => Nat.beq kd 4
  | false => Nat.beq kd (fk ci k) && !(Nat.beq kd 3) && !(Nat.beq kd 4)
def okFx (y : Nat) (q : Nat × Nat × Nat × Nat) : Bool := match fld (mOw y) q.1 with
  | some (ci, k, _) => Nat.beq ci q.2.1 && Nat.beq k q.2.2.1 && okKd ci k q.2.2.2
  | none => false
def okMx (y : Nat) (q : Nat × MF) : Bool := match mth (mOw y) q.1 with
  | some (y', ns) => Nat.beq y' q.2.1 && Nat.blt y' 239 && Nat.beq (mKi y') q.2.2.1 && Nat.beq (mPa y') q.2.2.2.1 && Nat.beq (mLo y') q.2.2.2.2.1 && Nat.beq (mOw y') q.2.2.2.2.2.1 && Nat.beq (mRc y') q.2.2.2.2.2.2 && (!(Nat.beq (mKi y') 1) || Nat.beq ns 0)
  | none => false
def kv (own k : Nat) (i : Instr) : Option AV := match i with
  | .ldc _ => ldcv own k
  | .ldc2_w _ => ldjv own k
  | _ => gstv own k
def okCx (y : Nat) (Kc : List (Nat × AV)) (q : Nat × Instr) : Bool := (match lk (mCo y) q.1 with
  | some i => decide (i = q.2)
  | none => false) && (match isK q.2 with
  | some (k, _) => match lk Kc k, kv (mOw y) k q.2 with
    | some v, some w => decide (v = w)
    | _, _ => false
  | none => true)
def okX (y : Nat) (code : List (List (Nat × Instr))) (F : List (Nat × Nat × Nat × Nat)) (M : List (Nat × MF)) (Kc : List (Nat × AV)) : Bool := code.all (fun ch => ch.all (okCx y Kc)) && F.all (okFx y) && M.all (okMx y)
theorem gfk_eq {ci k kd : Nat} (hk : okKd ci k kd = true) (h : Hp) (a : Nat) : gfk kd h ci a k = gfa h ci a k := by
  unfold okKd at hk
  unfold gfa
  split at hk
  · rename_i e
    rw [e]
    split at hk
    · rw [Nat.eq_of_beq_eq_true hk]; rfl
    · rename_i hne
      rw [Nat.eq_of_beq_eq_true hk]
      show gfk 4 h ci a k = gfs a k
      unfold gfs
      split
      · exact absurd rfl hne
      · rfl
  · rename_i e
    rw [e]
    simp only [Bool.and_eq_true, Bool.not_eq_true', beqT] at hk
    obtain ⟨⟨rfl, h3⟩, h4⟩ := hk
    show gfk (fk ci k) h ci a k = gf h ci a k
    unfold gfk gf
    split
    · rename_i e3; rw [e3]
    · rename_i e3; rw [e3]
    · rename_i e3; rw [e3]
    · rename_i e3; rw [e3] at h3; cases h3
    · rename_i e3; rw [e3] at h4; cases h4
    · rename_i e3; rw [e3]
theorem pfk_eq {ci k kd : Nat} (hk : okKd ci k kd = true) {h : Hp} {a : Nat} {v : AV} {K : Hp → Prop} (hp : pfk kd h ci a k v K) : pf h ci a k v K := by
  unfold okKd at hk
  split at hk
  · split at hk
    · rw [Nat.eq_of_beq_eq_true hk] at hp; exact hp.elim
    · rw [Nat.eq_of_beq_eq_true hk] at hp; exact hp.elim
  · simp only [Bool.and_eq_true, beqT] at hk
    obtain ⟨⟨rfl, -⟩, -⟩ := hk
    exact hp
set_option maxHeartbeats 4000000 in
theorem FHx_FH {d y : Nat} {F : List (Nat × Nat × Nat × Nat)} {M : List (Nat × MF)} {Q : Option AV → Hp → Prop} {P : Nat → List AV → List AV → Hp → Prop} {pc : Nat} {ls st : List AV} {h : Hp} {i : Instr} (hF : F.all (okFx y) = true) (hM : M.all (okMx y) = true) (hh : FHx d y F M Q P pc ls st h i) : FH (Ct d) y Q P pc ls st h i := by
  have fF : ∀ {idx : Nat} {q : Nat × Nat × Nat}, lk F idx = some q → ∃ ns, fld (mOw y) idx = some (q.1, q.2.1, ns) ∧ okKd q.1 q.2.1 q.2.2 = true := by
    intro idx q hq
    have h1 := List.all_eq_true.mp hF _ (lk_mem hq)
    unfold okFx at h1
    split at h1
    · rename_i ci k ns hf
      simp only [Bool.and_eq_true, beqT] at h1
      obtain ⟨⟨rfl, rfl⟩, h3⟩ := h1
      exact ⟨ns, hf, h3⟩
    · cases h1
  have fM : ∀ {idx : Nat} {q : MF}, lk M idx = some q → ∃ ns, mth (mOw y) idx = some (q.1, ns) ∧ q.1 < 239 ∧ mKi q.1 = q.2.1 ∧ mPa q.1 = q.2.2.1 ∧ mLo q.1 = q.2.2.2.1 ∧ mOw q.1 = q.2.2.2.2.1 ∧ mRc q.1 = q.2.2.2.2.2 ∧ (mKi q.1 = 1 → ns = 0) := by
    intro idx q hq
    have h1 := List.all_eq_true.mp hM _ (lk_mem hq)
    unfold okMx at h1
    split at h1
    · rename_i y' ns hf
      simp only [Bool.and_eq_true, Bool.or_eq_true, Bool.not_eq_true', beqT, Nat.blt_eq] at h1
      obtain ⟨⟨⟨⟨⟨⟨⟨rfl, h2⟩, h3⟩, h4⟩, h5⟩, h6⟩, h7⟩, h8⟩ := h1
      refine ⟨ns, hf, h2, h3, h4, h5, h6, h7, fun z => ?_⟩
      rcases h8 with h8 | h8
      · rw [z] at h8; exact absurd h8 (by decide)
      · exact h8
    · cases h1
  unfold FHx at hh
  split at hh
  · split at hh
    · rename_i hq
      obtain ⟨ns, e1, e2⟩ := fF hq
      obtain ⟨rfl, h2⟩ := rg_ex hh
      obtain ⟨a, rfl, h3⟩ := dr_ex h2
      rw [gfk_eq e2] at h3
      dsimp only [FH]
      rw [e1]
      simp only [rg, Nat.beq_refl, dr]
      exact h3
    · exact hh.elim
  · split at hh
    · rename_i hq
      obtain ⟨ns, e1, e2⟩ := fF hq
      obtain ⟨rfl, h2⟩ := rg_ex hh
      obtain ⟨a, rfl, h3⟩ := dr_ex h2
      have h4 := pfk_eq e2 h3
      dsimp only [FH]
      rw [e1]
      simp only [rg, Nat.beq_refl, dr]
      exact h4
    · exact hh.elim
  · split at hh
    · rename_i y' ki pa lo ow rc hq
      obtain ⟨ns, e1, e2, e3, e4, e5, e6, e7, e8⟩ := fM hq
      dsimp only at e1 e2 e3 e4 e5 e6 e7 e8
      obtain ⟨hb, h1⟩ := if_ex hh
      subst e3 e4 e5 e6 e7
      dsimp only [FH]
      rw [e1]
      split
      · rename_i e; injection e with e; injection e with e; omega
      · rename_i e; injection e with e; injection e with e; omega
      · rename_i e; injection e with e; injection e with e; omega
      · rename_i e; injection e with e; injection e with e; omega
      · rename_i e
        injection e with e
        injection e with ea eb
        subst ea
        have hb2 : Nat.blt y' 239 = true := Nat.blt_eq.mpr e2
        simp only [Bool.and_eq_true] at hb
        simp only [hb2, hb.1.1.1, hb.1.1.2, hb.1.2, hb.2, Bool.and_self, if']
        exact h1
      · rename_i e; cases e
    · exact hh
  · split at hh
    · rename_i y' ki pa lo ow rc hq
      obtain ⟨ns, e1, e2, e3, e4, e5, e6, e7, e8⟩ := fM hq
      dsimp only at e1 e2 e3 e4 e5 e6 e7 e8
      split at hh
      · rename_i hdrop
        obtain ⟨hb, h1⟩ := if_ex hh
        subst e3 e4 e5 e6 e7
        obtain ⟨rfl, h2⟩ := rg_ex h1
        obtain ⟨a, rfl, h3⟩ := dr_ex h2
        simp only [Bool.and_eq_true] at hb
        have hk1 : mKi y' = 1 := Nat.eq_of_beq_eq_true hb.1.1
        have hns := e8 hk1
        subst hns
        have hb2 : Nat.blt y' 239 = true := Nat.blt_eq.mpr e2
        dsimp only [FH]
        rw [e1]
        dsimp only
        rw [hdrop]
        simp only [hb2, hb.1.1, hb.1.2, hb.2, Bool.and_self, if', rg, Nat.beq_refl, dr]
        exact h3
      · exact hh.elim
    · exact hh.elim
  · split at hh
    · rename_i y' ki pa lo ow rc hq
      obtain ⟨ns, e1, e2, e3, e4, e5, e6, e7, e8⟩ := fM hq
      dsimp only at e1 e2 e3 e4 e5 e6 e7 e8
      split at hh
      · rename_i hdrop
        obtain ⟨hb, h1⟩ := if_ex hh
        subst e3 e4 e5 e6 e7
        obtain ⟨rfl, h2⟩ := rg_ex h1
        obtain ⟨a, rfl, h3⟩ := dr_ex h2
        simp only [Bool.and_eq_true] at hb
        have hb2 : Nat.blt y' 239 = true := Nat.blt_eq.mpr e2
        dsimp only [FH]
        rw [e1]
        split
        · rename_i e; injection e with e; injection e with e; omega
        · rename_i e
          injection e with e
          injection e with ea eb
          subst ea
          rw [hdrop]
          simp only [hb2, hb.1.1, hb.1.2, hb.2, Bool.and_self, if', rg, Nat.beq_refl, dr]
          exact h3
        · rename_i e; cases e
      · exact hh.elim
    · exact hh
  · exact hh
theorem step1_own {own : Nat} {i : Instr} {pc : Nat} {ls st : List AV} {q : Nat × List AV × List AV} (hk : isK i = none) (h : step1 99 i pc ls st = some q) : step1 own i pc ls st = some q := by
  cases i <;> first | exact h | cases hk
theorem step1_none {own : Nat} {i : Instr} {pc : Nat} {ls st : List AV} (hk : isK i = none) (h : step1 99 i pc ls st = none) : step1 own i pc ls st = none := by
  cases i <;> first | exact h | cases hk
theorem FSx_FS {d y : Nat} {code : List (List (Nat × Instr))} {F : List (Nat × Nat × Nat × Nat)} {M : List (Nat × MF)} {Kc : List (Nat × AV)} {Q : Option AV → Hp → Prop} {P : Nat → List AV → List AV → Hp → Prop} {pc : Nat} {ls st : List AV} {h : Hp} (hok : okX y code F M Kc = true) (hh : FSx d y code F M Kc Q P pc ls st h) : FS (Ct d) y Q P pc ls st h := by
  unfold okX at hok
  simp only [Bool.and_eq_true] at hok
  obtain ⟨⟨hC, hF⟩, hM⟩ := hok
  unfold FSx at hh
  split at hh
  · rename_i i hi
    have hmem := lk_mem hi
    have hch : (code.getD (pc / 32) []) ∈ code ∨ code.getD (pc / 32) [] = [] := by
      rw [List.getD_eq_getElem?_getD]
      cases hg : code[pc / 32]? with
      | none => exact Or.inr rfl
      | some ch => exact Or.inl (List.mem_of_getElem? hg)
    rcases hch with hch | hch
    · have hq := List.all_eq_true.mp (List.all_eq_true.mp hC _ hch) _ hmem
      unfold okCx at hq
      simp only [Bool.and_eq_true] at hq
      obtain ⟨q1, q2⟩ := hq
      have hlk : lk (mCo y) pc = some i := by
        split at q1
        · rename_i i' hi'
          simp only [decide_eq_true_eq] at q1
          rw [← q1]; exact hi'
        · cases q1
      unfold FS
      rw [hlk]
      unfold FIx at hh
      split at hh
      · rename_i k n hk
        simp only [hk] at q2
        split at hh
        · rename_i v hv
          rw [hv] at q2
          have hkv : kv (mOw y) k i = some v := by
            split at q2
            · rename_i a b e1 e2
              cases e1
              simp only [decide_eq_true_eq] at q2
              rw [e2, q2]
            · cases q2
          have hs : step1 (mOw y) i pc ls st = some (pc + n, ls, v :: st) := by
            cases i <;> first | (cases hk; done) | (cases hk; dsimp only [step1, kv] at hkv ⊢; rw [hkv]; rfl)
          show FI (Ct d) y Q P pc ls st h i
          unfold FI
          rw [hs]
          exact hh
        · exact hh.elim
      · rename_i hk
        show FI (Ct d) y Q P pc ls st h i
        unfold FI
        split at hh
        · rename_i q1 q2 q3 hq
          rw [step1_own hk hq]
          exact hh
        · rename_i hq
          rw [step1_none hk hq]
          revert hh
          dsimp only
          cases br1 i pc st with
          | some q => exact fun hh => hh
          | none => exact fun hh => FHx_FH hF hM hh
    · rw [hch] at hmem; cases hmem
  · exact hh.elim
def FXx (d y : Nat) (code : List (List (Nat × Instr))) (F : List (Nat × Nat × Nat × Nat)) (M : List (Nat × MF)) (Kc : List (Nat × AV)) (Q : Option AV → Hp → Prop) (P : Nat → List AV → List AV → Hp → Prop) (cuts : List Nat) : Nat → Nat → List AV → List AV → Hp → Prop
  | 0, pc, ls, st, h => P pc ls st h
  | n + 1, pc, ls, st, h => match cuts.elem pc with
    | true => P pc ls st h
    | false => FSx d y code F M Kc Q (FXx d y code F M Kc Q P cuts n) pc ls st h
theorem FSx_P {d y : Nat} {code : List (List (Nat × Instr))} {F : List (Nat × Nat × Nat × Nat)} {M : List (Nat × MF)} {Kc : List (Nat × AV)} {Q : Option AV → Hp → Prop} {P P' : Nat → List AV → List AV → Hp → Prop} {pc : Nat} {ls st : List AV} {h : Hp} (hok : okX y code F M Kc = true) (hP : Cl (Call d) y Q P) (hp : ∀ pc ls st h, P' pc ls st h → P pc ls st h) (hh : FSx d y code F M Kc Q P' pc ls st h) : P pc ls st h :=
  hP _ _ _ _ (FS_mono (C := Ct d) (fun _ _ _ _ _ hS q => Call_mono (fun v h z => hS v h (tyK_K z)) q) (fun _ _ z => z) hp (FSx_FS hok hh))
theorem FXx_run {d y : Nat} {code : List (List (Nat × Instr))} {F : List (Nat × Nat × Nat × Nat)} {M : List (Nat × MF)} {Kc : List (Nat × AV)} {Q : Option AV → Hp → Prop} {P : Nat → List AV → List AV → Hp → Prop} {cuts : List Nat} (hok : okX y code F M Kc = true) (hP : Cl (Call d) y Q P) : ∀ (n pc : Nat) (ls st : List AV) (h : Hp), FXx d y code F M Kc Q P cuts n pc ls st h → P pc ls st h
  | 0, _, _, _, _, hh => hh
  | n + 1, pc, ls, st, h, hh => by
    unfold FXx at hh
    split at hh
    · exact hh
    · exact FSx_P hok hP (fun _ _ _ _ w => FXx_run hok hP n _ _ _ _ w) hh
theorem Cl.runX {d y : Nat} {code : List (List (Nat × Instr))} {F : List (Nat × Nat × Nat × Nat)} {M : List (Nat × MF)} {Kc : List (Nat × AV)} {Q : Option AV → Hp → Prop} {P : Nat → List AV → List AV → Hp → Prop} (hok : okX y code F M Kc = true) (hP : Cl (Call d) y Q P) (cuts : List Nat) (n : Nat) {pc : Nat} {ls st : List AV} {h : Hp} (hh : FSx d y code F M Kc Q (FXx d y code F M Kc Q P cuts n) pc ls st h) : P pc ls st h :=
  FSx_P hok hP (fun _ _ _ _ w => FXx_run hok hP n _ _ _ _ w) hh
end
section
def kc0 : List (List (Nat × Instr)) := [[(0, .aload_n 0), (1, .invokespecial 3), (4, .aload_n 0), (5, .new 9), (8, .dup), (9, .invokespecial 11), (12, .putfield 12), (15, .aload_n 0), (16, .iconst 4), (17, .anewarray 9), (20, .putfield 18), (23, .aload_n 0), (24, .new 9), (27, .dup), (28, .invokespecial 11), (31, .putfield 22)], [(34, .aload_n 0), (35, .bipush 32), (37, .newarray .int), (39, .putfield 25), (42, .iconst 0), (43, .istore_n 1), (44, .iload_n 1), (45, .iconst 4), (46, .if_icmp .ge (22)), (49, .aload_n 0), (50, .getfield 18), (53, .iload_n 1), (54, .new 9), (57, .dup), (58, .invokespecial 11), (61, .aastore), (62, .iinc 1 1)], [(65, .goto (-21)), (68, .return_)]]
def kF0 : List (Nat × Nat × Nat × Nat) := [(12, 0, 0, 6), (18, 0, 1, 36), (22, 0, 2, 6), (25, 0, 3, 26)]
def kM0 : List (Nat × MF) := [(11, 10, 2, 0, 1, 1, 0)]
def kK0 : List (Nat × AV) := []
set_option maxRecDepth 100000 in
theorem ok0 : okX 0 kc0 kF0 kM0 kK0 = true := by decide +kernel
def kc1 : List (List (Nat × Instr)) := [[(0, .iload_n 1), (1, .invokestatic 29), (4, .ifCond .eq (25)), (7, .aload_n 0), (8, .getfield 18), (11, .iload_n 1), (12, .aaload), (13, .astore_n 2), (14, .aload_n 0), (15, .getfield 18), (18, .iload_n 1), (19, .aload_n 0), (20, .getfield 22), (23, .aastore), (24, .aload_n 0), (25, .aload_n 2), (26, .putfield 22), (29, .return_)]]
def kF1 : List (Nat × Nat × Nat × Nat) := [(18, 0, 1, 36), (22, 0, 2, 6)]
def kM1 : List (Nat × MF) := [(29, 94, 0, 1, 1, 10, 2)]
def kK1 : List (Nat × AV) := []
set_option maxRecDepth 100000 in
theorem ok1 : okX 1 kc1 kF1 kM1 kK1 = true := by decide +kernel
def kc2 : List (List (Nat × Instr)) := [[(0, .iload_n 1), (1, .invokestatic 29), (4, .ifCond .eq (15)), (7, .aload_n 0), (8, .getfield 18), (11, .iload_n 1), (12, .aaload), (13, .getfield 33), (16, .goto 4), (19, .iconst (-1)), (20, .ireturn)]]
def kF2 : List (Nat × Nat × Nat × Nat) := [(18, 0, 1, 36), (33, 1, 0, 0)]
def kM2 : List (Nat × MF) := [(29, 94, 0, 1, 1, 10, 2)]
def kK2 : List (Nat × AV) := []
set_option maxRecDepth 100000 in
theorem ok2 : okX 2 kc2 kF2 kM2 kK2 = true := by decide +kernel
def kc3 : List (List (Nat × Instr)) := [[(0, .iconst 0), (1, .istore 5), (3, .iconst 0), (4, .istore 6), (6, .bipush 7), (8, .istore 7), (10, .iload 7), (12, .ifCond .lt (71)), (15, .aload_n 0), (16, .iload 7), (18, .iload 4), (20, .invokevirtual 41), (23, .astore 8), (25, .aload 8), (27, .iload_n 3), (28, .aload_n 2), (29, .getfield 48)], [(32, .iload 7), (34, .invokestatic 37), (37, .invokevirtual 45), (40, .istore 9), (42, .iload 9), (44, .iconst (-1)), (45, .if_icmp .eq (32)), (48, .aload_n 0), (49, .aload 8), (51, .iload 9), (53, .aload_n 1), (54, .aload_n 2), (55, .iload 5), (57, .invokevirtual 53), (60, .istore 5), (62, .iconst 1), (63, .aload 8)], [(65, .getfield 57), (68, .iload 9), (70, .iaload), (71, .iload 6), (73, .imul), (74, .iadd), (75, .istore 6), (77, .iinc 7 (-1)), (80, .goto (-70)), (83, .aload_n 0), (84, .dup), (85, .getfield 60), (88, .iload 6), (90, .iadd), (91, .putfield 60), (94, .iload 5)], [(96, .ireturn)]]
def kF3 : List (Nat × Nat × Nat × Nat) := [(48, 3, 1, 0), (57, 1, 5, 26), (60, 0, 4, 0)]
def kM3 : List (Nat × MF) := [(37, 5, 0, 2, 4, 0, 1), (41, 4, 1, 2, 3, 0, 6), (45, 13, 1, 2, 4, 1, 1), (53, 6, 1, 5, 9, 0, 1)]
def kK3 : List (Nat × AV) := []
set_option maxRecDepth 100000 in
theorem ok3 : okX 3 kc3 kF3 kM3 kK3 = true := by decide +kernel
def kc4 : List (List (Nat × Instr)) := [[(0, .iload_n 1), (1, .iconst 2), (2, .irem), (3, .ifCond .ne (19)), (6, .iload_n 2), (7, .invokestatic 29), (10, .ifCond .eq (12)), (13, .aload_n 0), (14, .getfield 18), (17, .iload_n 2), (18, .aaload), (19, .goto 7), (22, .aload_n 0), (23, .getfield 12), (26, .areturn)]]
def kF4 : List (Nat × Nat × Nat × Nat) := [(12, 0, 0, 6), (18, 0, 1, 36)]
def kM4 : List (Nat × MF) := [(29, 94, 0, 1, 1, 10, 2)]
def kK4 : List (Nat × AV) := []
set_option maxRecDepth 100000 in
theorem ok4 : okX 4 kc4 kF4 kM4 kK4 = true := by decide +kernel
def kc5 : List (List (Nat × Instr)) := [[(0, .iload_n 0), (1, .istore_n 2), (2, .iconst 0), (3, .istore_n 3), (4, .iload_n 3), (5, .iload_n 1), (6, .iconst 2), (7, .idiv), (8, .if_icmp .ge (14)), (11, .iload_n 2), (12, .invokestatic 63), (15, .istore_n 2), (16, .iinc 3 1), (19, .goto (-15)), (22, .iload_n 2), (23, .ireturn)]]
def kF5 : List (Nat × Nat × Nat × Nat) := []
def kM5 : List (Nat × MF) := [(63, 100, 0, 1, 1, 10, 1)]
def kK5 : List (Nat × AV) := []
set_option maxRecDepth 100000 in
theorem ok5 : okX 5 kc5 kF5 kM5 kK5 = true := by decide +kernel
def kc6 : List (List (Nat × Instr)) := [[(0, .iconst 0), (1, .istore 6), (3, .aload_n 1), (4, .getfield 67), (7, .iload_n 2), (8, .iaload), (9, .istore 7), (11, .iload 7), (13, .aload_n 1), (14, .getfield 67), (17, .iload_n 2), (18, .iconst 1), (19, .iadd), (20, .iaload), (21, .if_icmp .ge (119)), (24, .aload_n 1), (25, .getfield 70), (28, .iload 7), (30, .iaload), (31, .istore 8)], [(33, .iload 8), (35, .sipush 20000), (38, .if_icmp .lt (49)), (41, .iload 6), (43, .iconst 2), (44, .if_icmp .lt (90)), (47, .iinc 6 (-1)), (50, .aload_n 0), (51, .getfield 25), (54, .iload 6), (56, .iconst 1), (57, .isub), (58, .iload 8), (60, .sipush 20000), (63, .isub)], [(64, .aload_n 0), (65, .getfield 25), (68, .iload 6), (70, .iconst 1), (71, .isub), (72, .iaload), (73, .aload_n 0), (74, .getfield 25), (77, .iload 6), (79, .iaload), (80, .invokestatic 73), (83, .iastore), (84, .goto 50), (87, .iload 6), (89, .aload_n 0), (90, .getfield 25), (93, .arraylength), (94, .if_icmp .ge (40))], [(97, .aload_n 0), (98, .getfield 25), (101, .iload 6), (103, .iload 8), (105, .sipush 10000), (108, .if_icmp .ge (8)), (111, .iload 8), (113, .goto 17), (116, .iload 8), (118, .sipush 10000), (121, .isub), (122, .aload_n 3), (123, .aload 4), (125, .iload 5), (127, .invokestatic 77)], [(130, .iastore), (131, .iinc 6 1), (134, .iinc 7 1), (137, .goto (-126)), (140, .iload 6), (142, .ifCond .le (12)), (145, .aload_n 0), (146, .getfield 25), (149, .iconst 0), (150, .iaload), (151, .goto 4), (154, .iconst 0), (155, .ireturn)]]
def kF6 : List (Nat × Nat × Nat × Nat) := [(25, 0, 3, 26), (67, 1, 4, 26), (70, 1, 6, 26)]
def kM6 : List (Nat × MF) := [(73, 7, 0, 3, 3, 0, 1), (77, 8, 0, 4, 4, 0, 1)]
def kK6 : List (Nat × AV) := []
set_option maxRecDepth 100000 in
theorem ok6 : okX 6 kc6 kF6 kM6 kK6 = true := by decide +kernel
def kc7 : List (List (Nat × Instr)) := [[(0, .iload_n 0), (1, .tableswitch (69) (0) (4) #[35, 39, 43, 47, 58])], [(36, .iload_n 1), (37, .iload_n 2), (38, .iadd), (39, .ireturn), (40, .iload_n 1), (41, .iload_n 2), (42, .isub), (43, .ireturn), (44, .iload_n 1), (45, .iload_n 2), (46, .imul), (47, .ireturn), (48, .iload_n 1), (49, .iload_n 2), (50, .if_icmp .ne (7)), (53, .iconst 1), (54, .goto 4), (57, .iconst 0), (58, .ireturn), (59, .iload_n 1), (60, .iload_n 2), (61, .if_icmp .ge (7))], [(64, .iconst 1), (65, .goto 4), (68, .iconst 0), (69, .ireturn), (70, .iload_n 1), (71, .iload_n 2), (72, .if_icmp .le (7)), (75, .iconst 1), (76, .goto 4), (79, .iconst 0), (80, .ireturn)]]
def kF7 : List (Nat × Nat × Nat × Nat) := []
def kM7 : List (Nat × MF) := []
def kK7 : List (Nat × AV) := []
set_option maxRecDepth 100000 in
theorem ok7 : okX 7 kc7 kF7 kM7 kK7 = true := by decide +kernel
def kc8 : List (List (Nat × Instr)) := [[(0, .iload_n 0), (1, .tableswitch (91) (0) (7) #[47, 55, 61, 66, 71, 76, 81, 86])], [(48, .aload_n 2), (49, .getfield 81), (52, .invokestatic 84), (55, .ireturn), (56, .aload_n 1), (57, .aload_n 2), (58, .invokevirtual 87), (61, .ireturn), (62, .aload_n 2), (63, .getfield 81)], [(66, .ireturn), (67, .aload_n 2), (68, .getfield 93), (71, .ireturn), (72, .aload_n 2), (73, .getfield 96), (76, .ireturn), (77, .aload_n 2), (78, .invokevirtual 99), (81, .ireturn), (82, .aload_n 2), (83, .getfield 48), (86, .ireturn), (87, .aload_n 2), (88, .getfield 103), (91, .ireturn), (92, .iload_n 3), (93, .ireturn)]]
def kF8 : List (Nat × Nat × Nat × Nat) := [(48, 3, 1, 0), (81, 3, 4, 0), (93, 3, 2, 0), (96, 3, 3, 0), (103, 3, 0, 0)]
def kM8 : List (Nat × MF) := [(84, 102, 0, 1, 1, 10, 1), (87, 60, 1, 1, 3, 7, 1), (99, 26, 1, 0, 3, 3, 1)]
def kK8 : List (Nat × AV) := []
set_option maxRecDepth 100000 in
theorem ok8 : okX 8 kc8 kF8 kM8 kK8 = true := by decide +kernel
def kc9 : List (List (Nat × Instr)) := [[(0, .iconst 0), (1, .istore 4), (3, .iload 4), (5, .bipush 8), (7, .if_icmp .ge (52)), (10, .iload_n 1), (11, .iload 4), (13, .invokestatic 37), (16, .istore 5), (18, .aload_n 0), (19, .iload 4), (21, .iload_n 3), (22, .invokevirtual 41), (25, .iload_n 2), (26, .iload 5), (28, .invokevirtual 45), (31, .iconst (-1))], [(32, .if_icmp .eq (21)), (35, .iload 4), (37, .iconst 2), (38, .irem), (39, .ifCond .ne (11)), (42, .iload 5), (44, .bipush 32), (46, .iadd), (47, .goto 5), (50, .iload 5), (52, .ireturn), (53, .iinc 4 1), (56, .goto (-53)), (59, .iconst (-1)), (60, .ireturn)]]
def kF9 : List (Nat × Nat × Nat × Nat) := []
def kM9 : List (Nat × MF) := [(37, 5, 0, 2, 4, 0, 1), (41, 4, 1, 2, 3, 0, 6), (45, 13, 1, 2, 4, 1, 1)]
def kK9 : List (Nat × AV) := []
set_option maxRecDepth 100000 in
theorem ok9 : okX 9 kc9 kF9 kM9 kK9 = true := by decide +kernel
def kc10 : List (List (Nat × Instr)) := [[(0, .aload_n 0), (1, .invokespecial 3), (4, .aload_n 0), (5, .bipush 12), (7, .newarray .int), (9, .putfield 11), (12, .aload_n 0), (13, .bipush 12), (15, .newarray .int), (17, .putfield 15), (20, .aload_n 0), (21, .bipush 13), (23, .newarray .int), (25, .putfield 18), (28, .aload_n 0), (29, .bipush 12), (31, .newarray .int)], [(33, .putfield 21), (36, .aload_n 0), (37, .sipush 240), (40, .newarray .int), (42, .putfield 24), (45, .return_)]]
def kF10 : List (Nat × Nat × Nat × Nat) := [(11, 1, 2, 26), (15, 1, 3, 26), (18, 1, 4, 26), (21, 1, 5, 26), (24, 1, 6, 26)]
def kM10 : List (Nat × MF) := []
def kK10 : List (Nat × AV) := []
set_option maxRecDepth 100000 in
theorem ok10 : okX 10 kc10 kF10 kM10 kK10 = true := by decide +kernel
def kc11 : List (List (Nat × Instr)) := [[(0, .aload_n 0), (1, .iconst 0), (2, .putfield 27), (5, .aload_n 0), (6, .iconst 0), (7, .putfield 31), (10, .return_)]]
def kF11 : List (Nat × Nat × Nat × Nat) := [(27, 1, 0, 0), (31, 1, 1, 0)]
def kM11 : List (Nat × MF) := []
def kK11 : List (Nat × AV) := []
set_option maxRecDepth 100000 in
theorem ok11 : okX 11 kc11 kF11 kM11 kK11 = true := by decide +kernel
def kc12 : List (List (Nat × Instr)) := [[(0, .aload_n 0), (1, .getfield 27), (4, .bipush 12), (6, .if_icmp .lt (7)), (9, .iconst 1), (10, .goto 4), (13, .iconst 0), (14, .ireturn)]]
def kF12 : List (Nat × Nat × Nat × Nat) := [(27, 1, 0, 0)]
def kM12 : List (Nat × MF) := []
def kK12 : List (Nat × AV) := []
set_option maxRecDepth 100000 in
theorem ok12 : okX 12 kc12 kF12 kM12 kK12 = true := by decide +kernel
def kc13 : List (List (Nat × Instr)) := [[(0, .iconst 0), (1, .istore_n 3), (2, .iload_n 3), (3, .aload_n 0), (4, .getfield 27), (7, .if_icmp .ge (31)), (10, .aload_n 0), (11, .getfield 11), (14, .iload_n 3), (15, .iaload), (16, .iload_n 1), (17, .if_icmp .ne (15)), (20, .aload_n 0), (21, .getfield 15), (24, .iload_n 3), (25, .iaload), (26, .iload_n 2), (27, .if_icmp .ne (5)), (30, .iload_n 3), (31, .ireturn)], [(32, .iinc 3 1), (35, .goto (-33)), (38, .iconst (-1)), (39, .ireturn)]]
def kF13 : List (Nat × Nat × Nat × Nat) := [(11, 1, 2, 26), (15, 1, 3, 26), (27, 1, 0, 0)]
def kM13 : List (Nat × MF) := []
def kK13 : List (Nat × AV) := []
set_option maxRecDepth 100000 in
theorem ok13 : okX 13 kc13 kF13 kM13 kK13 = true := by decide +kernel
def kc14 : List (List (Nat × Instr)) := [[(0, .aload_n 0), (1, .getfield 27), (4, .bipush 12), (6, .if_icmp .ge (71)), (9, .aload_n 0), (10, .getfield 11), (13, .aload_n 0), (14, .getfield 27), (17, .iload_n 1), (18, .iastore), (19, .aload_n 0), (20, .getfield 15), (23, .aload_n 0), (24, .getfield 27), (27, .iload_n 2), (28, .iastore), (29, .aload_n 0), (30, .getfield 21)], [(33, .aload_n 0), (34, .getfield 27), (37, .iconst 0), (38, .iastore), (39, .aload_n 0), (40, .getfield 18), (43, .aload_n 0), (44, .getfield 27), (47, .aload_n 0), (48, .getfield 31), (51, .iastore), (52, .aload_n 0), (53, .getfield 18), (56, .aload_n 0), (57, .getfield 27), (60, .iconst 1), (61, .iadd), (62, .aload_n 0), (63, .getfield 31)], [(66, .iastore), (67, .aload_n 0), (68, .dup), (69, .getfield 27), (72, .iconst 1), (73, .iadd), (74, .putfield 27), (77, .return_)]]
def kF14 : List (Nat × Nat × Nat × Nat) := [(11, 1, 2, 26), (15, 1, 3, 26), (18, 1, 4, 26), (21, 1, 5, 26), (27, 1, 0, 0), (31, 1, 1, 0)]
def kM14 : List (Nat × MF) := []
def kK14 : List (Nat × AV) := []
set_option maxRecDepth 100000 in
theorem ok14 : okX 14 kc14 kF14 kM14 kK14 = true := by decide +kernel
def kc15 : List (List (Nat × Instr)) := [[(0, .aload_n 0), (1, .getfield 31), (4, .sipush 240), (7, .if_icmp .ge (65)), (10, .aload_n 0), (11, .getfield 27), (14, .ifCond .le (58)), (17, .aload_n 0), (18, .getfield 24), (21, .aload_n 0), (22, .getfield 31), (25, .iload_n 1), (26, .iastore), (27, .aload_n 0), (28, .dup), (29, .getfield 31)], [(32, .iconst 1), (33, .iadd), (34, .putfield 31), (37, .aload_n 0), (38, .getfield 18), (41, .aload_n 0), (42, .getfield 27), (45, .aload_n 0), (46, .getfield 31), (49, .iastore), (50, .iload_n 1), (51, .sipush 10008), (54, .if_icmp .ne (18)), (57, .aload_n 0), (58, .getfield 21), (61, .aload_n 0), (62, .getfield 27)], [(65, .iconst 1), (66, .isub), (67, .dup2), (68, .iaload), (69, .iconst 1), (70, .iadd), (71, .iastore), (72, .return_)]]
def kF15 : List (Nat × Nat × Nat × Nat) := [(18, 1, 4, 26), (21, 1, 5, 26), (24, 1, 6, 26), (27, 1, 0, 0), (31, 1, 1, 0)]
def kM15 : List (Nat × MF) := []
def kK15 : List (Nat × AV) := []
set_option maxRecDepth 100000 in
theorem ok15 : okX 15 kc15 kF15 kM15 kK15 = true := by decide +kernel
def kc16 : List (List (Nat × Instr)) := [[(0, .aload_n 0), (1, .invokespecial 3), (4, .aload_n 0), (5, .aload_n 1), (6, .putfield 9), (9, .return_)]]
def kF16 : List (Nat × Nat × Nat × Nat) := [(9, 2, 0, 14)]
def kM16 : List (Nat × MF) := []
def kK16 : List (Nat × AV) := []
set_option maxRecDepth 100000 in
theorem ok16 : okX 16 kc16 kF16 kM16 kK16 = true := by decide +kernel
def kc17 : List (List (Nat × Instr)) := [[(0, .aload_n 1), (1, .invokevirtual 15), (4, .iconst 0), (5, .istore_n 2), (6, .iload_n 2), (7, .sipush 240), (10, .if_icmp .ge (29)), (13, .aload_n 0), (14, .getfield 9), (17, .invokevirtual 20), (20, .ifCond .ne (19)), (23, .aload_n 0), (24, .aload_n 1), (25, .invokevirtual 26), (28, .ifCond .ne (5)), (31, .iconst 0)], [(32, .ireturn), (33, .iinc 2 1), (36, .goto (-30)), (39, .aload_n 0), (40, .getfield 9), (43, .invokevirtual 20), (46, .ireturn)]]
def kF17 : List (Nat × Nat × Nat × Nat) := [(9, 2, 0, 14)]
def kM17 : List (Nat × MF) := [(15, 11, 1, 0, 1, 1, 0), (20, 78, 1, 0, 1, 9, 2), (26, 18, 1, 1, 4, 2, 2)]
def kK17 : List (Nat × AV) := []
set_option maxRecDepth 100000 in
theorem ok17 : okX 17 kc17 kF17 kM17 kK17 = true := by decide +kernel
def kc18 : List (List (Nat × Instr)) := [[(0, .aload_n 1), (1, .invokevirtual 30), (4, .ifCond .ne (15)), (7, .aload_n 0), (8, .getfield 9), (11, .ldc 33), (13, .invokevirtual 35), (16, .ifCond .ne (5)), (19, .iconst 0), (20, .ireturn), (21, .aload_n 0), (22, .getfield 9), (25, .iconst 1), (26, .invokevirtual 39), (29, .istore_n 2), (30, .iload_n 2), (31, .invokestatic 43)], [(34, .ifCond .ne (5)), (37, .iconst 0), (38, .ireturn), (39, .aload_n 0), (40, .getfield 9), (43, .invokevirtual 47), (46, .aload_n 0), (47, .getfield 9), (50, .ldc 50), (52, .invokevirtual 35), (55, .ifCond .ne (5)), (58, .iconst 0), (59, .ireturn), (60, .aload_n 0), (61, .getfield 9)], [(64, .ldc 52), (66, .invokevirtual 54), (69, .istore_n 3), (70, .iload_n 3), (71, .iconst (-1)), (72, .if_icmp .eq (13)), (75, .aload_n 1), (76, .iload_n 2), (77, .iload_n 3), (78, .invokevirtual 58), (81, .iconst (-1)), (82, .if_icmp .eq (5)), (85, .iconst 0), (86, .ireturn), (87, .aload_n 0), (88, .getfield 9), (91, .invokevirtual 47), (94, .aload_n 1), (95, .iload_n 2)], [(96, .iload_n 3), (97, .invokevirtual 62), (100, .aload_n 0), (101, .getfield 9), (104, .bipush 58), (106, .invokevirtual 66), (109, .ifCond .eq (28)), (112, .aload_n 0), (113, .aload_n 1), (114, .iconst 0), (115, .invokevirtual 70), (118, .ifCond .eq (19)), (121, .aload_n 0), (122, .getfield 9), (125, .bipush 59), (127, .invokevirtual 66)], [(130, .ifCond .eq (7)), (133, .iconst 1), (134, .goto 4), (137, .iconst 0), (138, .ireturn)]]
def kF18 : List (Nat × Nat × Nat × Nat) := [(9, 2, 0, 14)]
def kM18 : List (Nat × MF) := [(30, 12, 1, 0, 1, 1, 2), (35, 79, 1, 1, 2, 9, 2), (39, 82, 1, 1, 4, 9, 1), (43, 86, 0, 1, 1, 10, 2), (47, 77, 1, 0, 1, 9, 0), (54, 81, 1, 1, 7, 9, 1), (58, 13, 1, 2, 4, 1, 1), (62, 14, 1, 2, 3, 1, 0), (66, 83, 1, 1, 2, 9, 2), (70, 19, 1, 2, 5, 2, 2)]
def kK18 : List (Nat × AV) := [(33, .inr (.inr (40, some 0))), (50, .inr (.inr (40, some 1))), (52, .inr (.inr (40, some 2)))]
set_option maxRecDepth 100000 in
theorem ok18 : okX 18 kc18 kF18 kM18 kK18 = true := by decide +kernel
def kc19 : List (List (Nat × Instr)) := [[(0, .aload_n 0), (1, .aload_n 1), (2, .iload_n 2), (3, .invokevirtual 74), (6, .ifCond .ne (5)), (9, .iconst 0), (10, .ireturn), (11, .iconst 0), (12, .istore_n 3), (13, .iload_n 3), (14, .sipush 240), (17, .if_icmp .ge (60)), (20, .aload_n 0), (21, .getfield 9), (24, .invokevirtual 77), (27, .istore 4), (29, .iload 4), (31, .iconst (-1))], [(32, .if_icmp .eq (9)), (35, .iload 4), (37, .iconst 2), (38, .if_icmp .lt (5)), (41, .iconst 1), (42, .ireturn), (43, .aload_n 0), (44, .getfield 9), (47, .invokevirtual 47), (50, .aload_n 0), (51, .aload_n 1), (52, .iload_n 2), (53, .invokevirtual 74), (56, .ifCond .ne (5)), (59, .iconst 0), (60, .ireturn), (61, .aload_n 1), (62, .sipush 20000)], [(65, .iload 4), (67, .iadd), (68, .invokevirtual 81), (71, .iinc 3 1), (74, .goto (-61)), (77, .iconst 1), (78, .ireturn)]]
def kF19 : List (Nat × Nat × Nat × Nat) := [(9, 2, 0, 14)]
def kM19 : List (Nat × MF) := [(47, 77, 1, 0, 1, 9, 0), (74, 20, 1, 2, 5, 2, 2), (77, 84, 1, 0, 1, 9, 1), (81, 15, 1, 1, 2, 1, 0)]
def kK19 : List (Nat × AV) := []
set_option maxRecDepth 100000 in
theorem ok19 : okX 19 kc19 kF19 kM19 kK19 = true := by decide +kernel
def kc20 : List (List (Nat × Instr)) := [[(0, .aload_n 0), (1, .aload_n 1), (2, .iload_n 2), (3, .invokevirtual 85), (6, .ifCond .ne (5)), (9, .iconst 0), (10, .ireturn), (11, .iconst 0), (12, .istore_n 3), (13, .iload_n 3), (14, .sipush 240), (17, .if_icmp .ge (54)), (20, .aload_n 0), (21, .getfield 9), (24, .invokevirtual 77), (27, .istore 4), (29, .iload 4), (31, .iconst 2)], [(32, .if_icmp .ge (5)), (35, .iconst 1), (36, .ireturn), (37, .aload_n 0), (38, .getfield 9), (41, .invokevirtual 47), (44, .aload_n 0), (45, .aload_n 1), (46, .iload_n 2), (47, .invokevirtual 85), (50, .ifCond .ne (5)), (53, .iconst 0), (54, .ireturn), (55, .aload_n 1), (56, .sipush 20000), (59, .iload 4), (61, .iadd), (62, .invokevirtual 81)], [(65, .iinc 3 1), (68, .goto (-55)), (71, .iconst 1), (72, .ireturn)]]
def kF20 : List (Nat × Nat × Nat × Nat) := [(9, 2, 0, 14)]
def kM20 : List (Nat × MF) := [(47, 77, 1, 0, 1, 9, 0), (77, 84, 1, 0, 1, 9, 1), (81, 15, 1, 1, 2, 1, 0), (85, 21, 1, 2, 5, 2, 2)]
def kK20 : List (Nat × AV) := []
set_option maxRecDepth 100000 in
theorem ok20 : okX 20 kc20 kF20 kM20 kK20 = true := by decide +kernel
def kc21 : List (List (Nat × Instr)) := [[(0, .aload_n 0), (1, .getfield 9), (4, .iconst 4), (5, .invokevirtual 39), (8, .istore_n 3), (9, .iload_n 3), (10, .iconst (-1)), (11, .if_icmp .eq (17)), (14, .aload_n 1), (15, .iload_n 3), (16, .invokevirtual 81), (19, .aload_n 0), (20, .getfield 9), (23, .invokevirtual 47), (26, .iconst 1), (27, .ireturn), (28, .aload_n 0), (29, .getfield 9)], [(32, .ldc 88), (34, .invokevirtual 90), (37, .istore 4), (39, .iload 4), (41, .iconst (-1)), (42, .if_icmp .eq (15)), (45, .aload_n 1), (46, .sipush 10000), (49, .iload 4), (51, .iadd), (52, .invokevirtual 81), (55, .iconst 1), (56, .ireturn), (57, .iload_n 2), (58, .bipush 9), (60, .if_icmp .ge (15)), (63, .aload_n 0)], [(64, .getfield 9), (67, .bipush 40), (69, .invokevirtual 66), (72, .ifCond .ne (5)), (75, .iconst 0), (76, .ireturn), (77, .aload_n 0), (78, .aload_n 1), (79, .iload_n 2), (80, .iconst 1), (81, .iadd), (82, .invokevirtual 70), (85, .ifCond .eq (19)), (88, .aload_n 0), (89, .getfield 9), (92, .bipush 41), (94, .invokevirtual 66)], [(97, .ifCond .eq (7)), (100, .iconst 1), (101, .goto 4), (104, .iconst 0), (105, .ireturn)]]
def kF21 : List (Nat × Nat × Nat × Nat) := [(9, 2, 0, 14)]
def kM21 : List (Nat × MF) := [(39, 82, 1, 1, 4, 9, 1), (47, 77, 1, 0, 1, 9, 0), (66, 83, 1, 1, 2, 9, 2), (70, 19, 1, 2, 5, 2, 2), (81, 15, 1, 1, 2, 1, 0), (90, 80, 1, 1, 3, 9, 1)]
def kK21 : List (Nat × AV) := [(88, .inr (.inr (40, some 3)))]
set_option maxRecDepth 100000 in
theorem ok21 : okX 21 kc21 kF21 kM21 kK21 = true := by decide +kernel
def kc22 : List (List (Nat × Instr)) := [[(0, .aload_n 0), (1, .invokespecial 3), (4, .aload_n 0), (5, .iconst 5), (6, .newarray .int), (8, .dup), (9, .iconst 0), (10, .iconst (-1)), (11, .iastore), (12, .dup), (13, .iconst 1), (14, .iconst (-1)), (15, .iastore), (16, .dup), (17, .iconst 2), (18, .iconst (-1)), (19, .iastore), (20, .dup), (21, .iconst 3), (22, .iconst (-1)), (23, .iastore), (24, .dup), (25, .iconst 4), (26, .iconst (-1)), (27, .iastore), (28, .putfield 9), (31, .aload_n 0)], [(32, .iload_n 1), (33, .putfield 15), (36, .aload_n 0), (37, .iload_n 2), (38, .putfield 19), (41, .aload_n 0), (42, .iload_n 3), (43, .putfield 22), (46, .return_)]]
def kF22 : List (Nat × Nat × Nat × Nat) := [(9, 3, 5, 26), (15, 3, 0, 0), (19, 3, 1, 0), (22, 3, 2, 0)]
def kM22 : List (Nat × MF) := []
def kK22 : List (Nat × AV) := []
set_option maxRecDepth 100000 in
theorem ok22 : okX 22 kc22 kF22 kM22 kK22 = true := by decide +kernel
def kc23 : List (List (Nat × Instr)) := [[(0, .iload_n 1), (1, .tableswitch (113) (0) (4) #[35, 59, 71, 89, 101])], [(36, .iload_n 0), (37, .bipush 16), (39, .if_icmp .eq (15)), (42, .iload_n 0), (43, .bipush 17), (45, .if_icmp .eq (9)), (48, .iload_n 0), (49, .bipush 19), (51, .if_icmp .ne (7)), (54, .iconst 1), (55, .goto 4), (58, .iconst 0), (59, .ireturn), (60, .iload_n 0), (61, .bipush 18), (63, .if_icmp .ne (7))], [(66, .iconst 1), (67, .goto 4), (70, .iconst 0), (71, .ireturn), (72, .iload_n 0), (73, .bipush 16), (75, .if_icmp .eq (9)), (78, .iload_n 0), (79, .bipush 19), (81, .if_icmp .ne (7)), (84, .iconst 1), (85, .goto 4), (88, .iconst 0), (89, .ireturn), (90, .iload_n 0), (91, .bipush 21), (93, .if_icmp .ne (7))], [(96, .iconst 1), (97, .goto 4), (100, .iconst 0), (101, .ireturn), (102, .iload_n 0), (103, .bipush 29), (105, .if_icmp .ne (7)), (108, .iconst 1), (109, .goto 4), (112, .iconst 0), (113, .ireturn), (114, .iconst 0), (115, .ireturn)]]
def kF23 : List (Nat × Nat × Nat × Nat) := []
def kM23 : List (Nat × MF) := []
def kK23 : List (Nat × AV) := []
set_option maxRecDepth 100000 in
theorem ok23 : okX 23 kc23 kF23 kM23 kK23 = true := by decide +kernel
def kc24 : List (List (Nat × Instr)) := [[(0, .aload_n 0), (1, .getfield 19), (4, .aload_n 1), (5, .getfield 19), (8, .if_icmp .ne (36)), (11, .aload_n 0), (12, .getfield 25), (15, .aload_n 1), (16, .getfield 25), (19, .if_icmp .ne (25)), (22, .aload_n 0), (23, .getfield 22), (26, .aload_n 1), (27, .getfield 22), (30, .if_icmp .ne (14))], [(33, .aload_n 0), (34, .getfield 28), (37, .aload_n 1), (38, .getfield 28), (41, .if_icmp .eq (5)), (44, .iconst 0), (45, .ireturn), (46, .iconst 0), (47, .istore_n 2), (48, .iload_n 2), (49, .iconst 5), (50, .if_icmp .ge (26)), (53, .aload_n 0), (54, .getfield 9), (57, .iload_n 2), (58, .iaload), (59, .aload_n 1), (60, .getfield 9), (63, .iload_n 2)], [(64, .iaload), (65, .if_icmp .eq (5)), (68, .iconst 0), (69, .ireturn), (70, .iinc 2 1), (73, .goto (-25)), (76, .iconst 1), (77, .ireturn)]]
def kF24 : List (Nat × Nat × Nat × Nat) := [(9, 3, 5, 26), (19, 3, 1, 0), (22, 3, 2, 0), (25, 3, 4, 0), (28, 3, 3, 0)]
def kM24 : List (Nat × MF) := []
def kK24 : List (Nat × AV) := []
set_option maxRecDepth 100000 in
theorem ok24 : okX 24 kc24 kF24 kM24 kK24 = true := by decide +kernel
def kc25 : List (List (Nat × Instr)) := [[(0, .iload_n 1), (1, .tableswitch (87) (0) (7) #[47, 52, 57, 62, 67, 72, 77, 82])], [(48, .aload_n 0), (49, .getfield 19), (52, .ireturn), (53, .aload_n 0), (54, .getfield 25), (57, .ireturn), (58, .aload_n 0), (59, .getfield 22), (62, .ireturn), (63, .aload_n 0)], [(64, .getfield 28), (67, .ireturn), (68, .aload_n 0), (69, .getfield 15), (72, .ireturn), (73, .aload_n 0), (74, .invokevirtual 31), (77, .ireturn), (78, .aload_n 0), (79, .invokevirtual 35), (82, .ireturn), (83, .aload_n 0), (84, .invokevirtual 38), (87, .ireturn), (88, .iconst (-1)), (89, .ireturn)]]
def kF25 : List (Nat × Nat × Nat × Nat) := [(15, 3, 0, 0), (19, 3, 1, 0), (22, 3, 2, 0), (25, 3, 4, 0), (28, 3, 3, 0)]
def kM25 : List (Nat × MF) := [(31, 26, 1, 0, 3, 3, 1), (35, 27, 1, 0, 2, 3, 1), (38, 28, 1, 0, 2, 3, 1)]
def kK25 : List (Nat × AV) := []
set_option maxRecDepth 100000 in
theorem ok25 : okX 25 kc25 kF25 kM25 kK25 = true := by decide +kernel
def kc26 : List (List (Nat × Instr)) := [[(0, .iconst 0), (1, .istore_n 1), (2, .iconst 0), (3, .istore_n 2), (4, .iload_n 2), (5, .iconst 5), (6, .if_icmp .ge (22)), (9, .aload_n 0), (10, .getfield 9), (13, .iload_n 2), (14, .iaload), (15, .iconst (-1)), (16, .if_icmp .eq (6)), (19, .iinc 1 1), (22, .iinc 2 1), (25, .goto (-21)), (28, .iload_n 1), (29, .ireturn)]]
def kF26 : List (Nat × Nat × Nat × Nat) := [(9, 3, 5, 26)]
def kM26 : List (Nat × MF) := []
def kK26 : List (Nat × AV) := []
set_option maxRecDepth 100000 in
theorem ok26 : okX 26 kc26 kF26 kM26 kK26 = true := by decide +kernel
def kc27 : List (List (Nat × Instr)) := [[(0, .iconst 0), (1, .istore_n 1), (2, .iload_n 1), (3, .iconst 5), (4, .if_icmp .ge (26)), (7, .aload_n 0), (8, .getfield 9), (11, .iload_n 1), (12, .iaload), (13, .iconst (-1)), (14, .if_icmp .eq (10)), (17, .aload_n 0), (18, .getfield 9), (21, .iload_n 1), (22, .iaload), (23, .ireturn), (24, .iinc 1 1), (27, .goto (-25)), (30, .iconst (-1)), (31, .ireturn)]]
def kF27 : List (Nat × Nat × Nat × Nat) := [(9, 3, 5, 26)]
def kM27 : List (Nat × MF) := []
def kK27 : List (Nat × AV) := []
set_option maxRecDepth 100000 in
theorem ok27 : okX 27 kc27 kF27 kM27 kK27 = true := by decide +kernel
def kc28 : List (List (Nat × Instr)) := [[(0, .iconst 4), (1, .istore_n 1), (2, .iload_n 1), (3, .ifCond .lt (26)), (6, .aload_n 0), (7, .getfield 9), (10, .iload_n 1), (11, .iaload), (12, .iconst (-1)), (13, .if_icmp .eq (10)), (16, .aload_n 0), (17, .getfield 9), (20, .iload_n 1), (21, .iaload), (22, .ireturn), (23, .iinc 1 (-1)), (26, .goto (-24)), (29, .iconst (-1)), (30, .ireturn)]]
def kF28 : List (Nat × Nat × Nat × Nat) := [(9, 3, 5, 26)]
def kM28 : List (Nat × MF) := []
def kK28 : List (Nat × AV) := []
set_option maxRecDepth 100000 in
theorem ok28 : okX 28 kc28 kF28 kM28 kK28 = true := by decide +kernel
def kc29 : List (List (Nat × Instr)) := [[(0, .aload_n 0), (1, .invokespecial 3), (4, .aload_n 0), (5, .sipush 256), (8, .newarray .char), (10, .putfield 9), (13, .return_)]]
def kF29 : List (Nat × Nat × Nat × Nat) := [(9, 4, 0, 28)]
def kM29 : List (Nat × MF) := []
def kK29 : List (Nat × AV) := []
set_option maxRecDepth 100000 in
theorem ok29 : okX 29 kc29 kF29 kM29 kK29 = true := by decide +kernel
def kc30 : List (List (Nat × Instr)) := [[(0, .aload_n 0), (1, .iconst 0), (2, .putfield 15), (5, .aload_n 0), (6, .aload_n 1), (7, .invokevirtual 19), (10, .iconst 0), (11, .istore_n 2), (12, .iload_n 2), (13, .bipush 7), (15, .if_icmp .ge (24)), (18, .aload_n 1), (19, .iload_n 2), (20, .invokevirtual 23), (23, .astore_n 3), (24, .aload_n 3), (25, .ifnull 8), (28, .aload_n 0), (29, .aload_n 3), (30, .invokevirtual 29)], [(33, .iinc 2 1), (36, .goto (-24)), (39, .aload_n 0), (40, .getfield 15), (43, .ireturn)]]
def kF30 : List (Nat × Nat × Nat × Nat) := [(15, 4, 1, 0)]
def kM30 : List (Nat × MF) := [(19, 31, 1, 1, 2, 4, 0), (23, 56, 1, 1, 2, 7, 8), (29, 34, 1, 1, 2, 4, 0)]
def kK30 : List (Nat × AV) := []
set_option maxRecDepth 100000 in
theorem ok30 : okX 30 kc30 kF30 kM30 kK30 = true := by decide +kernel
def kc31 : List (List (Nat × Instr)) := [[(0, .aload_n 1), (1, .getfield 33), (4, .ifCond .le (33)), (7, .aload_n 1), (8, .getfield 33), (11, .iconst 5), (12, .if_icmp .gt (25)), (15, .aload_n 0), (16, .ldc 36), (18, .iconst 0), (19, .invokevirtual 38), (22, .aload_n 0), (23, .ldc 42), (25, .aload_n 1), (26, .getfield 33), (29, .iconst 1), (30, .isub), (31, .invokevirtual 38)], [(34, .goto 23), (37, .aload_n 1), (38, .getfield 33), (41, .iconst 5), (42, .if_icmp .le (15)), (45, .aload_n 0), (46, .ldc 36), (48, .aload_n 1), (49, .getfield 33), (52, .iconst 5), (53, .isub), (54, .invokevirtual 38), (57, .aload_n 0), (58, .ldc 44), (60, .aload_n 1), (61, .getfield 46)], [(64, .invokevirtual 38), (67, .aload_n 1), (68, .getfield 33), (71, .ifCond .le (20)), (74, .aload_n 0), (75, .ldc 49), (77, .iconst 0), (78, .invokevirtual 38), (81, .aload_n 0), (82, .ldc 44), (84, .aload_n 1), (85, .getfield 51), (88, .invokevirtual 38), (91, .return_)]]
def kF31 : List (Nat × Nat × Nat × Nat) := [(33, 7, 0, 0), (46, 7, 1, 0), (51, 7, 2, 0)]
def kM31 : List (Nat × MF) := [(38, 32, 1, 2, 5, 4, 0)]
def kK31 : List (Nat × AV) := [(36, .inr (.inr (40, some 4))), (42, .inr (.inr (40, some 5))), (44, .inr (.inr (40, some 6))), (49, .inr (.inr (40, some 7)))]
set_option maxRecDepth 100000 in
theorem ok31 : okX 31 kc31 kF31 kM31 kK31 = true := by decide +kernel
def kc32 : List (List (Nat × Instr)) := [[(0, .aload_n 0), (1, .getfield 15), (4, .ifCond .le (9)), (7, .aload_n 0), (8, .bipush 32), (10, .invokevirtual 61), (13, .iconst 0), (14, .istore_n 3), (15, .iconst 0), (16, .istore 4), (18, .iload 4), (20, .aload_n 1), (21, .invokevirtual 101), (24, .if_icmp .ge (46)), (27, .iload_n 3), (28, .iload_n 2), (29, .if_icmp .gt (41))], [(32, .aload_n 1), (33, .iload 4), (35, .invokevirtual 106), (38, .bipush 32), (40, .if_icmp .ne (9)), (43, .iinc 3 1), (46, .goto 18), (49, .iload_n 3), (50, .iload_n 2), (51, .if_icmp .ne (13)), (54, .aload_n 0), (55, .aload_n 1), (56, .iload 4), (58, .invokevirtual 106), (61, .invokevirtual 61)], [(64, .iinc 4 1), (67, .goto (-49)), (70, .return_)]]
def kF32 : List (Nat × Nat × Nat × Nat) := [(15, 4, 1, 0)]
def kM32 : List (Nat × MF) := [(61, 33, 1, 1, 2, 4, 0), (101, 228, 1, 0, 1, 40, 1), (106, 230, 1, 1, 2, 40, 2)]
def kK32 : List (Nat × AV) := []
set_option maxRecDepth 100000 in
theorem ok32 : okX 32 kc32 kF32 kM32 kK32 = true := by decide +kernel
def kc33 : List (List (Nat × Instr)) := [[(0, .aload_n 0), (1, .getfield 15), (4, .aload_n 0), (5, .getfield 9), (8, .arraylength), (9, .if_icmp .ge (23)), (12, .aload_n 0), (13, .getfield 9), (16, .aload_n 0), (17, .getfield 15), (20, .iload_n 1), (21, .castore), (22, .aload_n 0), (23, .dup), (24, .getfield 15), (27, .iconst 1), (28, .iadd), (29, .putfield 15)], [(32, .return_)]]
def kF33 : List (Nat × Nat × Nat × Nat) := [(9, 4, 0, 28), (15, 4, 1, 0)]
def kM33 : List (Nat × MF) := []
def kK33 : List (Nat × AV) := []
set_option maxRecDepth 100000 in
theorem ok33 : okX 33 kc33 kF33 kM33 kK33 = true := by decide +kernel
def kc34 : List (List (Nat × Instr)) := [[(0, .aload_n 1), (1, .getfield 54), (4, .iconst 1), (5, .if_icmp .eq (11)), (8, .aload_n 1), (9, .getfield 54), (12, .iconst 4), (13, .if_icmp .ne (20)), (16, .aload_n 0), (17, .ldc 59), (19, .iconst 0), (20, .invokevirtual 38), (23, .aload_n 0), (24, .ldc 59), (26, .iconst 1), (27, .invokevirtual 38), (30, .goto 9)], [(33, .aload_n 0), (34, .bipush 44), (36, .invokevirtual 61), (39, .aload_n 1), (40, .getfield 54), (43, .iconst 5), (44, .if_icmp .ne (13)), (47, .aload_n 0), (48, .ldc 65), (50, .iconst 0), (51, .invokevirtual 38), (54, .goto 26), (57, .aload_n 1), (58, .getfield 54), (61, .bipush 6), (63, .if_icmp .ne (17))], [(66, .aload_n 0), (67, .ldc 67), (69, .iconst 0), (70, .invokevirtual 38), (73, .aload_n 0), (74, .ldc 67), (76, .iconst 1), (77, .invokevirtual 38), (80, .aload_n 0), (81, .ldc 69), (83, .aload_n 1), (84, .getfield 71), (87, .iconst 1), (88, .isub), (89, .invokevirtual 38), (92, .aload_n 0), (93, .aload_n 1), (94, .invokevirtual 74)], [(97, .aload_n 1), (98, .getfield 77), (101, .ifCond .le (15)), (104, .aload_n 0), (105, .ldc 80), (107, .aload_n 1), (108, .getfield 77), (111, .iconst 1), (112, .isub), (113, .invokevirtual 38), (116, .aload_n 0), (117, .ldc 44), (119, .aload_n 1), (120, .getfield 82), (123, .invokevirtual 38), (126, .aload_n 0), (127, .aload_n 1)], [(128, .invokevirtual 85), (131, .return_)]]
def kF34 : List (Nat × Nat × Nat × Nat) := [(54, 3, 0, 0), (71, 3, 2, 0), (77, 3, 3, 0), (82, 3, 4, 0)]
def kM34 : List (Nat × MF) := [(38, 32, 1, 2, 5, 4, 0), (61, 33, 1, 1, 2, 4, 0), (74, 35, 1, 1, 2, 4, 0), (85, 36, 1, 1, 3, 4, 0)]
def kK34 : List (Nat × AV) := [(44, .inr (.inr (40, some 6))), (59, .inr (.inr (40, some 8))), (65, .inr (.inr (40, some 9))), (67, .inr (.inr (40, some 10))), (69, .inr (.inr (40, some 11))), (80, .inr (.inr (40, some 12)))]
set_option maxRecDepth 100000 in
theorem ok34 : okX 34 kc34 kF34 kM34 kK34 = true := by decide +kernel
def kc35 : List (List (Nat × Instr)) := [[(0, .aload_n 1), (1, .getfield 71), (4, .iconst 1), (5, .if_icmp .ne (16)), (8, .aload_n 0), (9, .ldc 88), (11, .aload_n 1), (12, .getfield 90), (15, .invokevirtual 38), (18, .goto 16), (21, .aload_n 0), (22, .ldc 93), (24, .aload_n 1), (25, .getfield 90), (28, .bipush 16), (30, .isub), (31, .invokevirtual 38)], [(34, .return_)]]
def kF35 : List (Nat × Nat × Nat × Nat) := [(71, 3, 2, 0), (90, 3, 1, 0)]
def kM35 : List (Nat × MF) := [(38, 32, 1, 2, 5, 4, 0)]
def kK35 : List (Nat × AV) := [(88, .inr (.inr (40, some 13))), (93, .inr (.inr (40, some 14)))]
set_option maxRecDepth 100000 in
theorem ok35 : okX 35 kc35 kF35 kM35 kK35 = true := by decide +kernel
def kc36 : List (List (Nat × Instr)) := [[(0, .iconst 0), (1, .istore_n 2), (2, .iload_n 2), (3, .iconst 5), (4, .if_icmp .ge (38)), (7, .aload_n 1), (8, .getfield 95), (11, .iload_n 2), (12, .iaload), (13, .iconst (-1)), (14, .if_icmp .eq (22)), (17, .aload_n 0), (18, .ldc 99), (20, .iload_n 2), (21, .invokevirtual 38), (24, .aload_n 0), (25, .ldc 44), (27, .aload_n 1), (28, .getfield 95), (31, .iload_n 2)], [(32, .iaload), (33, .invokevirtual 38), (36, .iinc 2 1), (39, .goto (-37)), (42, .return_)]]
def kF36 : List (Nat × Nat × Nat × Nat) := [(95, 3, 5, 26)]
def kM36 : List (Nat × MF) := [(38, 32, 1, 2, 5, 4, 0)]
def kK36 : List (Nat × AV) := [(44, .inr (.inr (40, some 6))), (99, .inr (.inr (40, some 15)))]
set_option maxRecDepth 100000 in
theorem ok36 : okX 36 kc36 kF36 kM36 kK36 = true := by decide +kernel
def kc37 : List (List (Nat × Instr)) := [[(0, .iload_n 1), (1, .ifCond .lt (20)), (4, .iload_n 1), (5, .aload_n 0), (6, .getfield 15), (9, .if_icmp .ge (12)), (12, .aload_n 0), (13, .getfield 9), (16, .iload_n 1), (17, .caload), (18, .goto 4), (21, .iconst (-1)), (22, .ireturn)]]
def kF37 : List (Nat × Nat × Nat × Nat) := [(9, 4, 0, 28), (15, 4, 1, 0)]
def kM37 : List (Nat × MF) := []
def kK37 : List (Nat × AV) := []
set_option maxRecDepth 100000 in
theorem ok37 : okX 37 kc37 kF37 kM37 kK37 = true := by decide +kernel
def kc38 : List (List (Nat × Instr)) := [[(0, .aload_n 0), (1, .invokespecial 3), (4, .aload_n 0), (5, .bipush 32), (7, .newarray .int), (9, .putfield 11), (12, .aload_n 0), (13, .iload_n 1), (14, .putfield 15), (17, .aload_n 0), (18, .iload_n 2), (19, .putfield 19), (22, .aload_n 0), (23, .aload_n 3), (24, .putfield 23), (27, .aload_n 0), (28, .aload 4), (30, .putfield 27)], [(33, .aload_n 0), (34, .iconst (-1)), (35, .putfield 30), (38, .aload_n 0), (39, .iload_n 2), (40, .ifCond .eq (10)), (43, .aload_n 3), (44, .getfield 39), (47, .goto 4), (50, .iconst 0), (51, .putfield 33), (54, .aload_n 0), (55, .aload_n 3), (56, .getfield 36), (59, .iconst 1), (60, .iadd), (61, .putfield 36)], [(64, .return_)]]
def kF38 : List (Nat × Nat × Nat × Nat) := [(11, 5, 10, 26), (15, 5, 0, 0), (19, 5, 1, 2), (23, 5, 2, 10), (27, 5, 3, 10), (30, 5, 4, 0), (33, 5, 5, 0), (36, 5, 6, 0), (39, 5, 8, 0)]
def kM38 : List (Nat × MF) := []
def kK38 : List (Nat × AV) := []
set_option maxRecDepth 100000 in
theorem ok38 : okX 38 kc38 kF38 kM38 kK38 = true := by decide +kernel
def kc39 : List (List (Nat × Instr)) := [[(0, .aload_n 0), (1, .invokespecial 3), (4, .aload_n 0), (5, .bipush 32), (7, .newarray .int), (9, .putfield 11), (12, .aload_n 0), (13, .iload_n 1), (14, .putfield 15), (17, .aload_n 0), (18, .iload_n 2), (19, .putfield 19), (22, .aload_n 0), (23, .aconst_null), (24, .putfield 23), (27, .aload_n 0), (28, .aconst_null), (29, .putfield 27)], [(32, .aload_n 0), (33, .iload_n 3), (34, .putfield 30), (37, .aload_n 0), (38, .iconst 0), (39, .putfield 33), (42, .aload_n 0), (43, .iconst 0), (44, .putfield 36), (47, .return_)]]
def kF39 : List (Nat × Nat × Nat × Nat) := [(11, 5, 10, 26), (15, 5, 0, 0), (19, 5, 1, 2), (23, 5, 2, 10), (27, 5, 3, 10), (30, 5, 4, 0), (33, 5, 5, 0), (36, 5, 6, 0)]
def kM39 : List (Nat × MF) := []
def kK39 : List (Nat × AV) := []
set_option maxRecDepth 100000 in
theorem ok39 : okX 39 kc39 kF39 kM39 kK39 = true := by decide +kernel
def kc40 : List (List (Nat × Instr)) := [[(0, .aload_n 0), (1, .iconst 0), (2, .putfield 42), (5, .aload_n 0), (6, .lconst 0), (7, .putfield 45), (10, .aload_n 0), (11, .getfield 23), (14, .ifnonnull 14), (17, .aload_n 0), (18, .aload_n 0), (19, .getfield 30), (22, .invokevirtual 49), (25, .goto 11), (28, .aload_n 0), (29, .aload_n 0), (30, .getfield 23)], [(33, .invokevirtual 53), (36, .aload_n 0), (37, .getfield 27), (40, .ifnull 21), (43, .aload_n 0), (44, .getfield 27), (47, .invokevirtual 57), (50, .ifCond .eq (11)), (53, .aload_n 0), (54, .aload_n 0), (55, .getfield 27), (58, .invokevirtual 53), (61, .return_)]]
def kF40 : List (Nat × Nat × Nat × Nat) := [(23, 5, 2, 10), (27, 5, 3, 10), (30, 5, 4, 0), (42, 5, 11, 0), (45, 5, 12, 1)]
def kM40 : List (Nat × MF) := [(49, 41, 1, 1, 4, 5, 0), (53, 42, 1, 1, 3, 5, 0), (57, 43, 1, 0, 1, 5, 2)]
def kK40 : List (Nat × AV) := []
set_option maxRecDepth 100000 in
theorem ok40 : okX 40 kc40 kF40 kM40 kK40 = true := by decide +kernel
def kc41 : List (List (Nat × Instr)) := [[(0, .lconst 1), (1, .iload_n 1), (2, .lshl), (3, .lstore_n 2), (4, .aload_n 0), (5, .getfield 45), (8, .lload_n 2), (9, .land), (10, .lconst 0), (11, .lcmp), (12, .ifCond .ne (42)), (15, .aload_n 0), (16, .getfield 42), (19, .bipush 32), (21, .if_icmp .ge (33)), (24, .aload_n 0), (25, .getfield 11), (28, .aload_n 0), (29, .getfield 42)], [(32, .iload_n 1), (33, .iastore), (34, .aload_n 0), (35, .dup), (36, .getfield 42), (39, .iconst 1), (40, .iadd), (41, .putfield 42), (44, .aload_n 0), (45, .dup), (46, .getfield 45), (49, .lload_n 2), (50, .lor), (51, .putfield 45), (54, .return_)]]
def kF41 : List (Nat × Nat × Nat × Nat) := [(11, 5, 10, 26), (42, 5, 11, 0), (45, 5, 12, 1)]
def kM41 : List (Nat × MF) := []
def kK41 : List (Nat × AV) := []
set_option maxRecDepth 100000 in
theorem ok41 : okX 41 kc41 kF41 kM41 kK41 = true := by decide +kernel
def kc42 : List (List (Nat × Instr)) := [[(0, .iconst 0), (1, .istore_n 2), (2, .iload_n 2), (3, .aload_n 1), (4, .getfield 42), (7, .if_icmp .ge (19)), (10, .aload_n 0), (11, .aload_n 1), (12, .getfield 11), (15, .iload_n 2), (16, .iaload), (17, .invokevirtual 49), (20, .iinc 2 1), (23, .goto (-21)), (26, .return_)]]
def kF42 : List (Nat × Nat × Nat × Nat) := [(11, 5, 10, 26), (42, 5, 11, 0)]
def kM42 : List (Nat × MF) := [(49, 41, 1, 1, 4, 5, 0)]
def kK42 : List (Nat × AV) := []
set_option maxRecDepth 100000 in
theorem ok42 : okX 42 kc42 kF42 kM42 kK42 = true := by decide +kernel
def kc43 : List (List (Nat × Instr)) := [[(0, .aload_n 0), (1, .getfield 19), (4, .ifCond .ne (24)), (7, .aload_n 0), (8, .getfield 23), (11, .ifnull 17), (14, .aload_n 0), (15, .getfield 23), (18, .getfield 39), (21, .ifCond .ne (7)), (24, .iconst 1), (25, .goto 4), (28, .iconst 0), (29, .ireturn)]]
def kF43 : List (Nat × Nat × Nat × Nat) := [(19, 5, 1, 2), (23, 5, 2, 10), (39, 5, 8, 0)]
def kM43 : List (Nat × MF) := []
def kK43 : List (Nat × AV) := []
set_option maxRecDepth 100000 in
theorem ok43 : okX 43 kc43 kF43 kM43 kK43 = true := by decide +kernel
def kc44 : List (List (Nat × Instr)) := [[(0, .iload_n 1), (1, .ifCond .lt (20)), (4, .iload_n 1), (5, .aload_n 0), (6, .getfield 42), (9, .if_icmp .ge (12)), (12, .aload_n 0), (13, .getfield 11), (16, .iload_n 1), (17, .iaload), (18, .goto 4), (21, .iconst (-1)), (22, .ireturn)]]
def kF44 : List (Nat × Nat × Nat × Nat) := [(11, 5, 10, 26), (42, 5, 11, 0)]
def kM44 : List (Nat × MF) := []
def kK44 : List (Nat × AV) := []
set_option maxRecDepth 100000 in
theorem ok44 : okX 44 kc44 kF44 kM44 kK44 = true := by decide +kernel
def kc45 : List (List (Nat × Instr)) := [[(0, .aload_n 0), (1, .invokespecial 3), (4, .aload_n 0), (5, .bipush 100), (7, .anewarray 11), (10, .putfield 13), (13, .return_)]]
def kF45 : List (Nat × Nat × Nat × Nat) := [(13, 6, 0, 40)]
def kM45 : List (Nat × MF) := []
def kK45 : List (Nat × AV) := []
set_option maxRecDepth 100000 in
theorem ok45 : okX 45 kc45 kF45 kM45 kK45 = true := by decide +kernel
def kc46 : List (List (Nat × Instr)) := [[(0, .aload_n 0), (1, .iload_n 2), (2, .invokevirtual 24), (5, .astore 4), (7, .aload_n 0), (8, .iload_n 3), (9, .invokevirtual 24), (12, .astore 5), (14, .aload_n 0), (15, .getfield 17), (18, .bipush 100), (20, .if_icmp .ge (13)), (23, .aload 4), (25, .ifnull 8), (28, .aload 5), (30, .ifnonnull 5)], [(33, .iconst (-1)), (34, .ireturn), (35, .aload 4), (37, .getfield 28), (40, .ifCond .eq (13)), (43, .aload 4), (45, .getfield 32), (48, .aload 5), (50, .if_acmp .eq (5)), (53, .iconst (-1)), (54, .ireturn), (55, .aload_n 0), (56, .getfield 13), (59, .aload_n 0), (60, .getfield 17), (63, .new 11)], [(66, .dup), (67, .aload_n 0), (68, .getfield 17), (71, .iload_n 1), (72, .aload 4), (74, .aload 5), (76, .invokespecial 36), (79, .aastore), (80, .aload_n 0), (81, .dup), (82, .getfield 17), (85, .iconst 1), (86, .iadd), (87, .putfield 17), (90, .aload 4), (92, .dup), (93, .getfield 39)], [(96, .iconst 1), (97, .iadd), (98, .putfield 39), (101, .aload 5), (103, .dup), (104, .getfield 39), (107, .iconst 1), (108, .iadd), (109, .putfield 39), (112, .iload_n 1), (113, .ifCond .eq (14)), (116, .aload 4), (118, .dup), (119, .getfield 42), (122, .iconst 1), (123, .iadd), (124, .putfield 42), (127, .aload_n 0)], [(128, .getfield 17), (131, .iconst 1), (132, .isub), (133, .ireturn)]]
def kF46 : List (Nat × Nat × Nat × Nat) := [(13, 6, 0, 40), (17, 6, 1, 0), (28, 5, 1, 2), (32, 5, 7, 10), (39, 5, 9, 0), (42, 5, 8, 0)]
def kM46 : List (Nat × MF) := [(24, 47, 1, 1, 2, 6, 10), (36, 38, 2, 4, 5, 5, 0)]
def kK46 : List (Nat × AV) := []
set_option maxRecDepth 100000 in
theorem ok46 : okX 46 kc46 kF46 kM46 kK46 = true := by decide +kernel
def kc47 : List (List (Nat × Instr)) := [[(0, .iload_n 1), (1, .ifCond .lt (20)), (4, .iload_n 1), (5, .aload_n 0), (6, .getfield 17), (9, .if_icmp .ge (12)), (12, .aload_n 0), (13, .getfield 13), (16, .iload_n 1), (17, .aaload), (18, .goto 4), (21, .aconst_null), (22, .areturn)]]
def kF47 : List (Nat × Nat × Nat × Nat) := [(13, 6, 0, 40), (17, 6, 1, 0)]
def kM47 : List (Nat × MF) := []
def kK47 : List (Nat × AV) := []
set_option maxRecDepth 100000 in
theorem ok47 : okX 47 kc47 kF47 kM47 kK47 = true := by decide +kernel
def kc48 : List (List (Nat × Instr)) := [[(0, .aload_n 0), (1, .getfield 17), (4, .bipush 100), (6, .if_icmp .lt (5)), (9, .iconst (-1)), (10, .ireturn), (11, .aload_n 0), (12, .getfield 13), (15, .aload_n 0), (16, .getfield 17), (19, .new 11), (22, .dup), (23, .aload_n 0), (24, .getfield 17), (27, .iload_n 1), (28, .iload_n 2), (29, .invokespecial 21)], [(32, .aastore), (33, .aload_n 0), (34, .dup), (35, .getfield 17), (38, .iconst 1), (39, .iadd), (40, .putfield 17), (43, .aload_n 0), (44, .getfield 17), (47, .iconst 1), (48, .isub), (49, .ireturn)]]
def kF48 : List (Nat × Nat × Nat × Nat) := [(13, 6, 0, 40), (17, 6, 1, 0)]
def kM48 : List (Nat × MF) := [(21, 39, 2, 3, 4, 5, 0)]
def kK48 : List (Nat × AV) := []
set_option maxRecDepth 100000 in
theorem ok48 : okX 48 kc48 kF48 kM48 kK48 = true := by decide +kernel
def kc49 : List (List (Nat × Instr)) := [[(0, .aload_n 0), (1, .iload_n 1), (2, .invokevirtual 24), (5, .astore_n 3), (6, .aload_n 0), (7, .iload_n 2), (8, .invokevirtual 24), (11, .astore 4), (13, .aload_n 3), (14, .ifnull 23), (17, .aload 4), (19, .ifnull 18), (22, .aload_n 3), (23, .getfield 28), (26, .ifCond .eq (11)), (29, .aload 4), (31, .getfield 28)], [(34, .ifCond .eq (5)), (37, .iconst 0), (38, .ireturn), (39, .aload_n 3), (40, .getfield 32), (43, .ifnonnull 11), (46, .aload 4), (48, .getfield 32), (51, .ifnull 5), (54, .iconst 0), (55, .ireturn), (56, .aload_n 3), (57, .aload 4), (59, .putfield 32), (62, .aload 4)], [(64, .aload_n 3), (65, .putfield 32), (68, .iconst 1), (69, .ireturn)]]
def kF49 : List (Nat × Nat × Nat × Nat) := [(28, 5, 1, 2), (32, 5, 7, 10)]
def kM49 : List (Nat × MF) := [(24, 47, 1, 1, 2, 6, 10)]
def kK49 : List (Nat × AV) := []
set_option maxRecDepth 100000 in
theorem ok49 : okX 49 kc49 kF49 kM49 kK49 = true := by decide +kernel
def kc50 : List (List (Nat × Instr)) := [[(0, .aload_n 0), (1, .iload_n 1), (2, .invokevirtual 24), (5, .astore_n 3), (6, .aload_n 3), (7, .ifnonnull 5), (10, .iconst (-1)), (11, .ireturn), (12, .iload_n 2), (13, .ifCond .eq (9)), (16, .iload_n 2), (17, .bipush 100), (19, .if_icmp .lt (7)), (22, .aload_n 0), (23, .invokevirtual 45), (26, .iload_n 2), (27, .tableswitch (89) (0) (5) #[37, 42, 55, 60, 65, 84])], [], [(64, .aload_n 3), (65, .getfield 48), (68, .ireturn), (69, .aload_n 3), (70, .invokevirtual 51), (73, .ifCond .eq (7)), (76, .iconst 1), (77, .goto 4), (80, .iconst 0), (81, .ireturn), (82, .aload_n 3), (83, .getfield 55), (86, .ireturn), (87, .aload_n 3), (88, .getfield 58), (91, .ireturn), (92, .aload_n 3), (93, .getfield 32)], [(96, .ifnonnull 7), (99, .iconst (-1)), (100, .goto 10), (103, .aload_n 3), (104, .getfield 32), (107, .getfield 61), (110, .ireturn), (111, .aload_n 3), (112, .getfield 39), (115, .ireturn), (116, .iload_n 2), (117, .bipush 100), (119, .if_icmp .lt (14)), (122, .aload_n 3), (123, .iload_n 2), (124, .bipush 100), (126, .isub), (127, .invokevirtual 64)], [(130, .goto 4), (133, .iconst (-1)), (134, .ireturn)]]
def kF50 : List (Nat × Nat × Nat × Nat) := [(32, 5, 7, 10), (39, 5, 9, 0), (48, 5, 11, 0), (55, 5, 5, 0), (58, 5, 6, 0), (61, 5, 0, 0)]
def kM50 : List (Nat × MF) := [(24, 47, 1, 1, 2, 6, 10), (45, 51, 1, 0, 2, 6, 0), (51, 43, 1, 0, 1, 5, 2), (64, 44, 1, 1, 2, 5, 1)]
def kK50 : List (Nat × AV) := []
set_option maxRecDepth 100000 in
theorem ok50 : okX 50 kc50 kF50 kM50 kK50 = true := by decide +kernel
def kc51 : List (List (Nat × Instr)) := [[(0, .aload_n 0), (1, .getfield 68), (4, .aload_n 0), (5, .getfield 17), (8, .if_icmp .ne (4)), (11, .return_), (12, .iconst 0), (13, .istore_n 1), (14, .iload_n 1), (15, .aload_n 0), (16, .getfield 17), (19, .if_icmp .ge (18)), (22, .aload_n 0), (23, .getfield 13), (26, .iload_n 1), (27, .aaload), (28, .invokevirtual 71), (31, .iinc 1 1)], [(34, .goto (-20)), (37, .aload_n 0), (38, .aload_n 0), (39, .getfield 17), (42, .putfield 68), (45, .return_)]]
def kF51 : List (Nat × Nat × Nat × Nat) := [(13, 6, 0, 40), (17, 6, 1, 0), (68, 6, 2, 0)]
def kM51 : List (Nat × MF) := [(71, 40, 1, 0, 1, 5, 0)]
def kK51 : List (Nat × AV) := []
set_option maxRecDepth 100000 in
theorem ok51 : okX 51 kc51 kF51 kM51 kK51 = true := by decide +kernel
def kc52 : List (List (Nat × Instr)) := [[(0, .aload_n 0), (1, .invokespecial 3), (4, .aload_n 0), (5, .iconst (-1)), (6, .putfield 9), (9, .aload_n 0), (10, .iconst (-1)), (11, .putfield 15), (14, .aload_n 0), (15, .bipush 7), (17, .anewarray 18), (20, .putfield 20), (23, .return_)]]
def kF52 : List (Nat × Nat × Nat × Nat) := [(9, 7, 1, 0), (15, 7, 2, 0), (20, 7, 3, 38)]
def kM52 : List (Nat × MF) := []
def kK52 : List (Nat × AV) := []
set_option maxRecDepth 100000 in
theorem ok52 : okX 52 kc52 kF52 kM52 kK52 = true := by decide +kernel
def kc53 : List (List (Nat × Instr)) := [[(0, .aload_n 1), (1, .getfield 24), (4, .ifCond .lt (22)), (7, .aload_n 1), (8, .getfield 24), (11, .bipush 7), (13, .if_icmp .ge (13)), (16, .aload_n 0), (17, .getfield 20), (20, .aload_n 1), (21, .getfield 24), (24, .aload_n 1), (25, .aastore), (26, .return_)]]
def kF53 : List (Nat × Nat × Nat × Nat) := [(20, 7, 3, 38), (24, 3, 0, 0)]
def kM53 : List (Nat × MF) := []
def kK53 : List (Nat × AV) := []
set_option maxRecDepth 100000 in
theorem ok53 : okX 53 kc53 kF53 kM53 kK53 = true := by decide +kernel
def kc54 : List (List (Nat × Instr)) := [[(0, .aload_n 0), (1, .getfield 27), (4, .aload_n 1), (5, .getfield 27), (8, .if_icmp .ne (29)), (11, .aload_n 0), (12, .getfield 9), (15, .aload_n 1), (16, .getfield 9), (19, .if_icmp .ne (18)), (22, .aload_n 0), (23, .getfield 15), (26, .aload_n 1), (27, .getfield 15), (30, .if_icmp .ne (7))], [(33, .iconst 1), (34, .goto 4), (37, .iconst 0), (38, .istore_n 2), (39, .iload_n 2), (40, .ifCond .eq (7)), (43, .iconst 0), (44, .goto 4), (47, .iconst 1), (48, .istore_n 3), (49, .iconst 0), (50, .istore 4), (52, .iload 4), (54, .bipush 7), (56, .if_icmp .ge (32)), (59, .aload_n 0), (60, .getfield 20), (63, .iload 4)], [(65, .aaload), (66, .aload_n 1), (67, .getfield 20), (70, .iload 4), (72, .aaload), (73, .invokestatic 34), (76, .ifCond .ne (6)), (79, .iinc 3 1), (82, .iinc 4 1), (85, .goto (-33)), (88, .iload_n 3), (89, .ireturn)]]
def kF54 : List (Nat × Nat × Nat × Nat) := [(9, 7, 1, 0), (15, 7, 2, 0), (20, 7, 3, 38), (27, 7, 0, 0)]
def kM54 : List (Nat × MF) := [(34, 55, 0, 2, 2, 7, 2)]
def kK54 : List (Nat × AV) := []
set_option maxRecDepth 100000 in
theorem ok54 : okX 54 kc54 kF54 kM54 kK54 = true := by decide +kernel
def kc55 : List (List (Nat × Instr)) := [[(0, .aload_n 0), (1, .ifnull 7), (4, .aload_n 1), (5, .ifnonnull 14), (8, .aload_n 0), (9, .aload_n 1), (10, .if_acmp .ne (7)), (13, .iconst 1), (14, .goto 4), (17, .iconst 0), (18, .ireturn), (19, .aload_n 0), (20, .aload_n 1), (21, .invokevirtual 48), (24, .ireturn)]]
def kF55 : List (Nat × Nat × Nat × Nat) := []
def kM55 : List (Nat × MF) := [(48, 24, 1, 1, 3, 3, 2)]
def kK55 : List (Nat × AV) := []
set_option maxRecDepth 100000 in
theorem ok55 : okX 55 kc55 kF55 kM55 kK55 = true := by decide +kernel
def kc56 : List (List (Nat × Instr)) := [[(0, .iload_n 1), (1, .ifCond .lt (18)), (4, .iload_n 1), (5, .bipush 7), (7, .if_icmp .ge (12)), (10, .aload_n 0), (11, .getfield 20), (14, .iload_n 1), (15, .aaload), (16, .goto 4), (19, .aconst_null), (20, .areturn)]]
def kF56 : List (Nat × Nat × Nat × Nat) := [(20, 7, 3, 38)]
def kM56 : List (Nat × MF) := []
def kK56 : List (Nat × AV) := []
set_option maxRecDepth 100000 in
theorem ok56 : okX 56 kc56 kF56 kM56 kK56 = true := by decide +kernel
def kc57 : List (List (Nat × Instr)) := [[(0, .iload_n 1), (1, .tableswitch (51) (0) (3) #[31, 36, 41, 46])], [(32, .aload_n 0), (33, .getfield 27), (36, .ireturn), (37, .aload_n 0), (38, .getfield 9), (41, .ireturn), (42, .aload_n 0), (43, .getfield 15), (46, .ireturn), (47, .aload_n 0), (48, .invokevirtual 30), (51, .ireturn), (52, .iconst (-1)), (53, .ireturn)]]
def kF57 : List (Nat × Nat × Nat × Nat) := [(9, 7, 1, 0), (15, 7, 2, 0), (27, 7, 0, 0)]
def kM57 : List (Nat × MF) := [(30, 58, 1, 0, 3, 7, 1)]
def kK57 : List (Nat × AV) := []
set_option maxRecDepth 100000 in
theorem ok57 : okX 57 kc57 kF57 kM57 kK57 = true := by decide +kernel
def kc58 : List (List (Nat × Instr)) := [[(0, .iconst 0), (1, .istore_n 1), (2, .iconst 0), (3, .istore_n 2), (4, .iload_n 2), (5, .bipush 7), (7, .if_icmp .ge (21)), (10, .aload_n 0), (11, .getfield 20), (14, .iload_n 2), (15, .aaload), (16, .ifnull 6), (19, .iinc 1 1), (22, .iinc 2 1), (25, .goto (-21)), (28, .iload_n 1), (29, .ireturn)]]
def kF58 : List (Nat × Nat × Nat × Nat) := [(20, 7, 3, 38)]
def kM58 : List (Nat × MF) := []
def kK58 : List (Nat × AV) := []
set_option maxRecDepth 100000 in
theorem ok58 : okX 58 kc58 kF58 kM58 kK58 = true := by decide +kernel
def kc59 : List (List (Nat × Instr)) := [[(0, .iconst 0), (1, .istore_n 2), (2, .iconst 0), (3, .istore_n 3), (4, .iload_n 3), (5, .bipush 7), (7, .if_icmp .ge (33)), (10, .aload_n 0), (11, .getfield 20), (14, .iload_n 3), (15, .aaload), (16, .ifnull 18), (19, .iload_n 2), (20, .iload_n 1), (21, .if_icmp .ne (10)), (24, .aload_n 0), (25, .getfield 20), (28, .iload_n 3), (29, .aaload), (30, .areturn), (31, .iinc 2 1)], [(34, .iinc 3 1), (37, .goto (-33)), (40, .aconst_null), (41, .areturn)]]
def kF59 : List (Nat × Nat × Nat × Nat) := [(20, 7, 3, 38)]
def kM59 : List (Nat × MF) := []
def kK59 : List (Nat × AV) := []
set_option maxRecDepth 100000 in
theorem ok59 : okX 59 kc59 kF59 kM59 kK59 = true := by decide +kernel
def kc60 : List (List (Nat × Instr)) := [[(0, .aconst_null), (1, .astore_n 2), (2, .aload_n 1), (3, .getfield 24), (6, .iconst 1), (7, .if_icmp .ne (13)), (10, .aload_n 0), (11, .getfield 20), (14, .iconst 0), (15, .aaload), (16, .astore_n 2), (17, .goto 18), (20, .aload_n 1), (21, .getfield 24), (24, .iconst 4), (25, .if_icmp .ne (10)), (28, .aload_n 0), (29, .getfield 20)], [(32, .iconst 3), (33, .aaload), (34, .astore_n 2), (35, .aload_n 2), (36, .ifnonnull 10), (39, .aload_n 0), (40, .invokevirtual 38), (43, .goto 10), (46, .aload_n 2), (47, .getfield 41), (50, .invokestatic 44), (53, .ireturn)]]
def kF60 : List (Nat × Nat × Nat × Nat) := [(20, 7, 3, 38), (24, 3, 0, 0), (41, 3, 4, 0)]
def kM60 : List (Nat × MF) := [(38, 61, 1, 0, 2, 7, 1), (44, 102, 0, 1, 1, 10, 1)]
def kK60 : List (Nat × AV) := []
set_option maxRecDepth 100000 in
theorem ok60 : okX 60 kc60 kF60 kM60 kK60 = true := by decide +kernel
def kc61 : List (List (Nat × Instr)) := [[(0, .aload_n 0), (1, .getfield 9), (4, .invokestatic 44), (7, .istore_n 1), (8, .aload_n 0), (9, .getfield 27), (12, .ifCond .eq (14)), (15, .iload_n 1), (16, .aload_n 0), (17, .getfield 15), (20, .invokestatic 44), (23, .if_icmp .ne (7)), (26, .iload_n 1), (27, .goto 4), (30, .iconst 0), (31, .ireturn)]]
def kF61 : List (Nat × Nat × Nat × Nat) := [(9, 7, 1, 0), (15, 7, 2, 0), (27, 7, 0, 0)]
def kM61 : List (Nat × MF) := [(44, 102, 0, 1, 1, 10, 1)]
def kK61 : List (Nat × AV) := []
set_option maxRecDepth 100000 in
theorem ok61 : okX 61 kc61 kF61 kM61 kK61 = true := by decide +kernel
def kc62 : List (List (Nat × Instr)) := [[(0, .aload_n 0), (1, .invokespecial 3), (4, .aload_n 0), (5, .aload_n 1), (6, .putfield 9), (9, .return_)]]
def kF62 : List (Nat × Nat × Nat × Nat) := [(9, 8, 0, 14)]
def kM62 : List (Nat × MF) := []
def kK62 : List (Nat × AV) := []
set_option maxRecDepth 100000 in
theorem ok62 : okX 62 kc62 kF62 kM62 kK62 = true := by decide +kernel
def kc63 : List (List (Nat × Instr)) := [[(0, .new 15), (3, .dup), (4, .invokespecial 17), (7, .astore_n 1), (8, .aload_n 0), (9, .aload_n 1), (10, .invokevirtual 18), (13, .ifCond .ne (5)), (16, .aconst_null), (17, .areturn), (18, .iconst (-1)), (19, .istore_n 2), (20, .iconst 0), (21, .istore_n 3), (22, .iload_n 3), (23, .bipush 7), (25, .if_icmp .ge (33)), (28, .aload_n 0), (29, .getfield 9)], [(32, .invokevirtual 22), (35, .ifCond .ne (23)), (38, .aload_n 0), (39, .aload_n 1), (40, .iload_n 2), (41, .invokevirtual 28), (44, .istore_n 2), (45, .iload_n 2), (46, .iconst (-1)), (47, .if_icmp .ne (5)), (50, .aconst_null), (51, .areturn), (52, .iinc 3 1), (55, .goto (-33)), (58, .aload_n 0), (59, .getfield 9), (62, .invokevirtual 22)], [(65, .ifCond .eq (7)), (68, .aload_n 1), (69, .goto 4), (72, .aconst_null), (73, .areturn)]]
def kF63 : List (Nat × Nat × Nat × Nat) := [(9, 8, 0, 14)]
def kM63 : List (Nat × MF) := [(17, 52, 2, 0, 1, 7, 0), (18, 64, 1, 1, 3, 8, 2), (22, 78, 1, 0, 1, 9, 2), (28, 65, 1, 2, 5, 8, 1)]
def kK63 : List (Nat × AV) := []
set_option maxRecDepth 100000 in
theorem ok63 : okX 63 kc63 kF63 kM63 kK63 = true := by decide +kernel
def kc64 : List (List (Nat × Instr)) := [[(0, .aload_n 0), (1, .getfield 9), (4, .ldc 32), (6, .invokevirtual 34), (9, .istore_n 2), (10, .iload_n 2), (11, .iconst (-1)), (12, .if_icmp .ne (30)), (15, .aload_n 1), (16, .aload_n 0), (17, .getfield 9), (20, .ldc 38), (22, .invokevirtual 34), (25, .putfield 40), (28, .aload_n 1), (29, .getfield 40)], [(32, .iconst (-1)), (33, .if_icmp .eq (7)), (36, .iconst 1), (37, .goto 4), (40, .iconst 0), (41, .ireturn), (42, .aload_n 1), (43, .iload_n 2), (44, .ifCond .ne (17)), (47, .aload_n 0), (48, .getfield 9), (51, .ldc 44), (53, .invokevirtual 34), (56, .iconst 1), (57, .iadd), (58, .goto 6), (61, .iload_n 2), (62, .iconst 5), (63, .iadd)], [(64, .putfield 46), (67, .aload_n 1), (68, .getfield 46), (71, .ifCond .ne (5)), (74, .iconst 0), (75, .ireturn), (76, .aload_n 1), (77, .aload_n 0), (78, .getfield 9), (81, .ldc 38), (83, .invokevirtual 34), (86, .putfield 40), (89, .aload_n 1), (90, .getfield 40), (93, .iconst (-1)), (94, .if_icmp .eq (15))], [(97, .aload_n 0), (98, .getfield 9), (101, .ldc 49), (103, .invokevirtual 51), (106, .ifCond .ne (5)), (109, .iconst 0), (110, .ireturn), (111, .aload_n 0), (112, .getfield 9), (115, .ldc 38), (117, .invokevirtual 55), (120, .aload_n 1), (121, .getfield 40), (124, .if_icmp .ne (5)), (127, .iconst 0)], [(128, .ireturn), (129, .aload_n 1), (130, .aload_n 0), (131, .getfield 9), (134, .ldc 38), (136, .invokevirtual 34), (139, .putfield 58), (142, .aload_n 1), (143, .getfield 58), (146, .iconst (-1)), (147, .if_icmp .eq (7)), (150, .iconst 1), (151, .goto 4), (154, .iconst 0), (155, .ireturn)]]
def kF64 : List (Nat × Nat × Nat × Nat) := [(9, 8, 0, 14), (40, 7, 1, 0), (46, 7, 0, 0), (58, 7, 2, 0)]
def kM64 : List (Nat × MF) := [(34, 80, 1, 1, 3, 9, 1), (51, 79, 1, 1, 2, 9, 2), (55, 81, 1, 1, 7, 9, 1)]
def kK64 : List (Nat × AV) := [(32, .inr (.inr (40, some 16))), (38, .inr (.inr (40, some 17))), (44, .inr (.inr (40, some 18))), (49, .inr (.inr (40, some 19)))]
set_option maxRecDepth 100000 in
theorem ok64 : okX 64 kc64 kF64 kM64 kK64 = true := by decide +kernel
def kc65 : List (List (Nat × Instr)) := [[(0, .iload_n 2), (1, .ifCond .eq (8)), (4, .iload_n 2), (5, .iconst 3), (6, .if_icmp .ne (24)), (9, .aload_n 0), (10, .getfield 9), (13, .ldc 61), (15, .invokevirtual 51), (18, .ifCond .eq (12)), (21, .aload_n 0), (22, .aload_n 1), (23, .iload_n 2), (24, .iconst 1), (25, .iadd), (26, .invokevirtual 63), (29, .ireturn), (30, .iload_n 2), (31, .bipush 6)], [(33, .if_icmp .eq (15)), (36, .aload_n 0), (37, .getfield 9), (40, .bipush 44), (42, .invokevirtual 66), (45, .ifCond .ne (5)), (48, .iconst (-1)), (49, .ireturn), (50, .aload_n 0), (51, .getfield 9), (54, .ldc 70), (56, .invokevirtual 55), (59, .istore_n 3), (60, .iload_n 3), (61, .iconst (-1)), (62, .if_icmp .eq (11))], [(65, .iload_n 2), (66, .iload_n 3), (67, .invokestatic 72), (70, .if_icmp .lt (5)), (73, .iconst (-1)), (74, .ireturn), (75, .aload_n 0), (76, .getfield 9), (79, .invokevirtual 76), (82, .iload_n 3), (83, .bipush 6), (85, .if_icmp .ne (9)), (88, .aload_n 0), (89, .aload_n 1), (90, .invokevirtual 79), (93, .ireturn), (94, .iload_n 3), (95, .bipush 7)], [(97, .if_icmp .ne (9)), (100, .aload_n 0), (101, .aload_n 1), (102, .invokevirtual 83), (105, .ireturn), (106, .iload_n 3), (107, .ifCond .ne (15)), (110, .aload_n 0), (111, .getfield 9), (114, .ldc 86), (116, .invokevirtual 55), (119, .goto 4), (122, .iconst (-1)), (123, .istore 4), (125, .iload 4), (127, .bipush 8)], [(129, .if_icmp .lt (30)), (132, .iload 4), (134, .bipush 14), (136, .if_icmp .gt (23)), (139, .iload_n 2), (140, .ifCond .ge (19)), (143, .aload_n 0), (144, .getfield 9), (147, .invokevirtual 76), (150, .aload_n 0), (151, .aload_n 1), (152, .iconst 0), (153, .iload 4), (155, .invokevirtual 88), (158, .ireturn), (159, .iload 4)], [(161, .bipush 7), (163, .if_icmp .ne (19)), (166, .aload_n 0), (167, .getfield 9), (170, .invokevirtual 76), (173, .aload_n 0), (174, .aload_n 1), (175, .iconst 3), (176, .iload 4), (178, .invokevirtual 88), (181, .ireturn), (182, .iload_n 2), (183, .iconst 2), (184, .if_icmp .ge (15)), (187, .aload_n 0), (188, .aload_n 1), (189, .iconst 2), (190, .iload_n 3), (191, .iconst 1)], [(192, .iadd), (193, .invokevirtual 92), (196, .goto 4), (199, .iconst (-1)), (200, .ireturn)]]
def kF65 : List (Nat × Nat × Nat × Nat) := [(9, 8, 0, 14)]
def kM65 : List (Nat × MF) := [(51, 79, 1, 1, 2, 9, 2), (55, 81, 1, 1, 7, 9, 1), (63, 66, 1, 2, 4, 8, 1), (66, 83, 1, 1, 2, 9, 2), (72, 71, 0, 1, 1, 8, 1), (76, 77, 1, 0, 1, 9, 0), (79, 72, 1, 1, 3, 8, 1), (83, 74, 1, 1, 3, 8, 1), (88, 73, 1, 3, 5, 8, 1), (92, 67, 1, 3, 6, 8, 1)]
def kK65 : List (Nat × AV) := [(61, .inr (.inr (40, some 20))), (70, .inr (.inr (40, some 21))), (86, .inr (.inr (40, some 22)))]
set_option maxRecDepth 100000 in
theorem ok65 : okX 65 kc65 kF65 kM65 kK65 = true := by decide +kernel
def kc66 : List (List (Nat × Instr)) := [[(0, .aload_n 0), (1, .getfield 9), (4, .ldc 95), (6, .invokevirtual 51), (9, .ifCond .ne (5)), (12, .iconst (-1)), (13, .ireturn), (14, .aload_n 0), (15, .getfield 9), (18, .ldc 97), (20, .invokevirtual 34), (23, .iconst 1), (24, .iadd), (25, .istore_n 3), (26, .iload_n 3), (27, .ifCond .le (13)), (30, .aload_n 0), (31, .aload_n 1)], [(32, .iload_n 2), (33, .iload_n 3), (34, .invokevirtual 92), (37, .goto 4), (40, .iconst (-1)), (41, .ireturn)]]
def kF66 : List (Nat × Nat × Nat × Nat) := [(9, 8, 0, 14)]
def kM66 : List (Nat × MF) := [(34, 80, 1, 1, 3, 9, 1), (51, 79, 1, 1, 2, 9, 2), (92, 67, 1, 3, 6, 8, 1)]
def kK66 : List (Nat × AV) := [(95, .inr (.inr (40, some 23))), (97, .inr (.inr (40, some 24)))]
set_option maxRecDepth 100000 in
theorem ok66 : okX 66 kc66 kF66 kM66 kK66 = true := by decide +kernel
def kc67 : List (List (Nat × Instr)) := [[(0, .iload_n 3), (1, .iconst 1), (2, .if_icmp .ne (15)), (5, .aload_n 0), (6, .getfield 9), (9, .ldc 86), (11, .invokevirtual 55), (14, .goto 15), (17, .bipush 16), (19, .aload_n 0), (20, .getfield 9), (23, .ldc 120), (25, .invokevirtual 55), (28, .iadd), (29, .istore 4), (31, .iload 4)], [(33, .invokestatic 122), (36, .ifCond .ne (5)), (39, .iconst (-1)), (40, .ireturn), (41, .aload_n 0), (42, .getfield 9), (45, .invokevirtual 76), (48, .new 107), (51, .dup), (52, .iload_n 2), (53, .iload 4), (55, .iload_n 3), (56, .invokespecial 109), (59, .astore 5), (61, .aload_n 1), (62, .aload 5)], [(64, .invokevirtual 112), (67, .aload_n 0), (68, .aload 5), (70, .invokevirtual 126), (73, .ifCond .eq (25)), (76, .aload_n 0), (77, .aload 5), (79, .invokevirtual 116), (82, .ifCond .eq (16)), (85, .aload_n 0), (86, .aload 5), (88, .invokevirtual 129), (91, .ifCond .eq (7)), (94, .iload_n 2), (95, .goto 4)], [(98, .iconst (-1)), (99, .ireturn)]]
def kF67 : List (Nat × Nat × Nat × Nat) := [(9, 8, 0, 14)]
def kM67 : List (Nat × MF) := [(55, 81, 1, 1, 7, 9, 1), (76, 77, 1, 0, 1, 9, 0), (109, 22, 2, 3, 4, 3, 0), (112, 53, 1, 1, 2, 7, 0), (116, 69, 1, 1, 2, 8, 2), (122, 90, 0, 1, 1, 10, 2), (126, 68, 1, 1, 4, 8, 2), (129, 70, 1, 1, 3, 8, 2)]
def kK67 : List (Nat × AV) := [(86, .inr (.inr (40, some 22))), (120, .inr (.inr (40, some 29)))]
set_option maxRecDepth 100000 in
theorem ok67 : okX 67 kc67 kF67 kM67 kK67 = true := by decide +kernel
def kc68 : List (List (Nat × Instr)) := [[(0, .aload_n 1), (1, .getfield 132), (4, .bipush 19), (6, .if_icmp .le (5)), (9, .iconst 1), (10, .ireturn), (11, .aload_n 0), (12, .getfield 9), (15, .ldc 135), (17, .invokevirtual 55), (20, .iconst 1), (21, .iadd), (22, .istore_n 2), (23, .aload_n 1), (24, .getfield 132), (27, .bipush 19), (29, .if_icmp .ne (16))], [(32, .iload_n 2), (33, .iconst 3), (34, .if_icmp .le (7)), (37, .iconst 1), (38, .goto 21), (41, .iconst 0), (42, .goto 17), (45, .iload_n 2), (46, .ifCond .le (12)), (49, .iload_n 2), (50, .iconst 3), (51, .if_icmp .gt (7)), (54, .iconst 1), (55, .goto 4), (58, .iconst 0), (59, .istore_n 3), (60, .iload_n 3), (61, .ifCond .eq (15))], [(64, .aload_n 1), (65, .iload_n 2), (66, .putfield 137), (69, .aload_n 0), (70, .getfield 9), (73, .invokevirtual 76), (76, .iload_n 3), (77, .ireturn)]]
def kF68 : List (Nat × Nat × Nat × Nat) := [(9, 8, 0, 14), (132, 3, 1, 0), (137, 3, 3, 0)]
def kM68 : List (Nat × MF) := [(55, 81, 1, 1, 7, 9, 1), (76, 77, 1, 0, 1, 9, 0)]
def kK68 : List (Nat × AV) := [(135, .inr (.inr (40, some 30)))]
set_option maxRecDepth 100000 in
theorem ok68 : okX 68 kc68 kF68 kM68 kK68 = true := by decide +kernel
def kc69 : List (List (Nat × Instr)) := [[(0, .aload_n 1), (1, .aload_n 0), (2, .getfield 9), (5, .ldc 38), (7, .invokevirtual 34), (10, .putfield 140), (13, .aload_n 1), (14, .getfield 140), (17, .iconst (-1)), (18, .if_icmp .eq (7)), (21, .iconst 1), (22, .goto 4), (25, .iconst 0), (26, .ireturn)]]
def kF69 : List (Nat × Nat × Nat × Nat) := [(9, 8, 0, 14), (140, 3, 4, 0)]
def kM69 : List (Nat × MF) := [(34, 80, 1, 1, 3, 9, 1)]
def kK69 : List (Nat × AV) := [(38, .inr (.inr (40, some 17)))]
set_option maxRecDepth 100000 in
theorem ok69 : okX 69 kc69 kF69 kM69 kK69 = true := by decide +kernel
def kc70 : List (List (Nat × Instr)) := [[(0, .iconst 0), (1, .istore_n 2), (2, .iload_n 2), (3, .iconst 5), (4, .if_icmp .ge (67)), (7, .aload_n 0), (8, .getfield 9), (11, .ldc 143), (13, .invokevirtual 55), (16, .iload_n 2), (17, .if_icmp .ne (48)), (20, .aload_n 1), (21, .getfield 132), (24, .iload_n 2), (25, .invokestatic 145), (28, .ifCond .eq (37)), (31, .aload_n 0)], [(32, .getfield 9), (35, .invokevirtual 76), (38, .aload_n 1), (39, .getfield 149), (42, .iload_n 2), (43, .aload_n 0), (44, .getfield 9), (47, .ldc 38), (49, .invokevirtual 34), (52, .iastore), (53, .aload_n 1), (54, .getfield 149), (57, .iload_n 2), (58, .iaload), (59, .iconst (-1)), (60, .if_icmp .ne (5)), (63, .iconst 0)], [(64, .ireturn), (65, .iinc 2 1), (68, .goto (-66)), (71, .iconst 1), (72, .ireturn)]]
def kF70 : List (Nat × Nat × Nat × Nat) := [(9, 8, 0, 14), (132, 3, 1, 0), (149, 3, 5, 26)]
def kM70 : List (Nat × MF) := [(34, 80, 1, 1, 3, 9, 1), (55, 81, 1, 1, 7, 9, 1), (76, 77, 1, 0, 1, 9, 0), (145, 23, 0, 2, 2, 3, 2)]
def kK70 : List (Nat × AV) := [(38, .inr (.inr (40, some 17))), (143, .inr (.inr (40, some 31)))]
set_option maxRecDepth 100000 in
theorem ok70 : okX 70 kc70 kF70 kM70 kK70 = true := by decide +kernel
def kc71 : List (List (Nat × Instr)) := [[(0, .iload_n 0), (1, .lookupswitch (42) #[(0, 35), (6, 37), (7, 39)])], [(36, .iconst 3), (37, .ireturn), (38, .iconst 5), (39, .ireturn), (40, .bipush 6), (42, .ireturn), (43, .iconst 2), (44, .ireturn)]]
def kF71 : List (Nat × Nat × Nat × Nat) := []
def kM71 : List (Nat × MF) := []
def kK71 : List (Nat × AV) := []
set_option maxRecDepth 100000 in
theorem ok71 : okX 71 kc71 kF71 kM71 kK71 = true := by decide +kernel
def kc72 : List (List (Nat × Instr)) := [[(0, .aload_n 0), (1, .getfield 9), (4, .ldc 99), (6, .invokevirtual 51), (9, .ifCond .eq (19)), (12, .aload_n 0), (13, .getfield 9), (16, .ldc 101), (18, .invokevirtual 51), (21, .ifCond .eq (7)), (24, .iconst 1), (25, .goto 4), (28, .iconst 0), (29, .istore_n 2), (30, .iload_n 2), (31, .ifCond .eq (14))], [(34, .aload_n 0), (35, .aload_n 1), (36, .iconst 5), (37, .bipush 15), (39, .invokevirtual 88), (42, .goto 4), (45, .iconst (-1)), (46, .ireturn)]]
def kF72 : List (Nat × Nat × Nat × Nat) := [(9, 8, 0, 14)]
def kM72 : List (Nat × MF) := [(51, 79, 1, 1, 2, 9, 2), (88, 73, 1, 3, 5, 8, 1)]
def kK72 : List (Nat × AV) := [(99, .inr (.inr (40, some 25))), (101, .inr (.inr (40, some 26)))]
set_option maxRecDepth 100000 in
theorem ok72 : okX 72 kc72 kF72 kM72 kK72 = true := by decide +kernel
def kc73 : List (List (Nat × Instr)) := [[(0, .new 107), (3, .dup), (4, .iload_n 2), (5, .iload_n 3), (6, .iconst 1), (7, .invokespecial 109), (10, .astore 4), (12, .aload_n 1), (13, .aload 4), (15, .invokevirtual 112), (18, .aload_n 0), (19, .aload 4), (21, .invokevirtual 116), (24, .ifCond .eq (7)), (27, .iload_n 2), (28, .goto 4), (31, .iconst (-1))], [(32, .ireturn)]]
def kF73 : List (Nat × Nat × Nat × Nat) := []
def kM73 : List (Nat × MF) := [(109, 22, 2, 3, 4, 3, 0), (112, 53, 1, 1, 2, 7, 0), (116, 69, 1, 1, 2, 8, 2)]
def kK73 : List (Nat × AV) := []
set_option maxRecDepth 100000 in
theorem ok73 : okX 73 kc73 kF73 kM73 kK73 = true := by decide +kernel
def kc74 : List (List (Nat × Instr)) := [[(0, .aload_n 0), (1, .getfield 9), (4, .ldc 103), (6, .invokevirtual 51), (9, .ifCond .eq (15)), (12, .aload_n 0), (13, .getfield 9), (16, .ldc 99), (18, .invokevirtual 51), (21, .ifCond .ne (5)), (24, .iconst (-1)), (25, .ireturn), (26, .aload_n 0), (27, .getfield 9), (30, .ldc 86)], [(32, .invokevirtual 55), (35, .istore_n 2), (36, .aload_n 0), (37, .getfield 9), (40, .ldc 105), (42, .invokevirtual 51), (45, .ifCond .eq (14)), (48, .aload_n 0), (49, .aload_n 1), (50, .bipush 6), (52, .iload_n 2), (53, .invokevirtual 88), (56, .goto 4), (59, .iconst (-1)), (60, .ireturn)]]
def kF74 : List (Nat × Nat × Nat × Nat) := [(9, 8, 0, 14)]
def kM74 : List (Nat × MF) := [(51, 79, 1, 1, 2, 9, 2), (55, 81, 1, 1, 7, 9, 1), (88, 73, 1, 3, 5, 8, 1)]
def kK74 : List (Nat × AV) := [(86, .inr (.inr (40, some 22))), (99, .inr (.inr (40, some 25))), (103, .inr (.inr (40, some 27))), (105, .inr (.inr (40, some 28)))]
set_option maxRecDepth 100000 in
theorem ok74 : okX 74 kc74 kF74 kM74 kK74 = true := by decide +kernel
def kc75 : List (List (Nat × Instr)) := [[(0, .aload_n 0), (1, .invokespecial 3), (4, .aload_n 0), (5, .iconst 0), (6, .newarray .char), (8, .putfield 9), (11, .return_)]]
def kF75 : List (Nat × Nat × Nat × Nat) := [(9, 9, 0, 28)]
def kM75 : List (Nat × MF) := []
def kK75 : List (Nat × AV) := []
set_option maxRecDepth 100000 in
theorem ok75 : okX 75 kc75 kF75 kM75 kK75 = true := by decide +kernel
def kc76 : List (List (Nat × Instr)) := [[(0, .aload_n 0), (1, .aload_n 1), (2, .putfield 9), (5, .aload_n 0), (6, .iconst 0), (7, .iload_n 2), (8, .aload_n 1), (9, .arraylength), (10, .invokestatic 15), (13, .invokestatic 21), (16, .putfield 24), (19, .aload_n 0), (20, .iconst 0), (21, .putfield 28), (24, .aload_n 0), (25, .invokevirtual 31), (28, .return_)]]
def kF76 : List (Nat × Nat × Nat × Nat) := [(9, 9, 0, 28), (24, 9, 1, 0), (28, 9, 4, 0)]
def kM76 : List (Nat × MF) := [(31, 77, 1, 0, 1, 9, 0)]
def kK76 : List (Nat × AV) := []
set_option maxRecDepth 100000 in
theorem ok76 : okX 76 kc76 kF76 kM76 kK76 = true := by decide +kernel
def kc77 : List (List (Nat × Instr)) := [[(0, .aload_n 0), (1, .aload_n 0), (2, .getfield 28), (5, .putfield 34), (8, .aload_n 0), (9, .getfield 34), (12, .aload_n 0), (13, .getfield 24), (16, .if_icmp .ge (30)), (19, .aload_n 0), (20, .getfield 9), (23, .aload_n 0), (24, .getfield 34), (27, .caload), (28, .bipush 32), (30, .if_icmp .ne (16))], [(33, .aload_n 0), (34, .dup), (35, .getfield 34), (38, .iconst 1), (39, .iadd), (40, .putfield 34), (43, .goto (-35)), (46, .aload_n 0), (47, .aload_n 0), (48, .getfield 34), (51, .putfield 28), (54, .aload_n 0), (55, .getfield 28), (58, .aload_n 0), (59, .getfield 24), (62, .if_icmp .ge (44))], [(65, .aload_n 0), (66, .getfield 9), (69, .aload_n 0), (70, .getfield 28), (73, .caload), (74, .bipush 97), (76, .if_icmp .lt (30)), (79, .aload_n 0), (80, .getfield 9), (83, .aload_n 0), (84, .getfield 28), (87, .caload), (88, .bipush 122), (90, .if_icmp .gt (16)), (93, .aload_n 0), (94, .dup), (95, .getfield 28)], [(98, .iconst 1), (99, .iadd), (100, .putfield 28), (103, .goto (-49)), (106, .aload_n 0), (107, .getfield 28), (110, .aload_n 0), (111, .getfield 34), (114, .if_icmp .le (9)), (117, .aload_n 0), (118, .iconst 1), (119, .putfield 37), (122, .return_), (123, .aload_n 0), (124, .getfield 28), (127, .aload_n 0)], [(128, .getfield 24), (131, .if_icmp .ge (44)), (134, .aload_n 0), (135, .getfield 9), (138, .aload_n 0), (139, .getfield 28), (142, .caload), (143, .bipush 48), (145, .if_icmp .lt (30)), (148, .aload_n 0), (149, .getfield 9), (152, .aload_n 0), (153, .getfield 28), (156, .caload), (157, .bipush 57), (159, .if_icmp .gt (16))], [(162, .aload_n 0), (163, .dup), (164, .getfield 28), (167, .iconst 1), (168, .iadd), (169, .putfield 28), (172, .goto (-49)), (175, .aload_n 0), (176, .getfield 28), (179, .aload_n 0), (180, .getfield 34), (183, .if_icmp .le (9)), (186, .aload_n 0), (187, .iconst 2), (188, .putfield 37), (191, .return_)], [(192, .aload_n 0), (193, .aload_n 0), (194, .getfield 34), (197, .aload_n 0), (198, .getfield 24), (201, .if_icmp .ge (7)), (204, .iconst 3), (205, .goto 4), (208, .iconst 0), (209, .putfield 37), (212, .aload_n 0), (213, .aload_n 0), (214, .getfield 34), (217, .iconst 1), (218, .iadd), (219, .aload_n 0), (220, .getfield 24), (223, .invokestatic 15)], [(226, .putfield 28), (229, .return_)]]
def kF77 : List (Nat × Nat × Nat × Nat) := [(9, 9, 0, 28), (24, 9, 1, 0), (28, 9, 4, 0), (34, 9, 3, 0), (37, 9, 2, 0)]
def kM77 : List (Nat × MF) := []
def kK77 : List (Nat × AV) := []
set_option maxRecDepth 100000 in
theorem ok77 : okX 77 kc77 kF77 kM77 kK77 = true := by decide +kernel
def kc78 : List (List (Nat × Instr)) := [[(0, .aload_n 0), (1, .getfield 37), (4, .ifCond .ne (7)), (7, .iconst 1), (8, .goto 4), (11, .iconst 0), (12, .ireturn)]]
def kF78 : List (Nat × Nat × Nat × Nat) := [(37, 9, 2, 0)]
def kM78 : List (Nat × MF) := []
def kK78 : List (Nat × AV) := []
set_option maxRecDepth 100000 in
theorem ok78 : okX 78 kc78 kF78 kM78 kK78 = true := by decide +kernel
def kc79 : List (List (Nat × Instr)) := [[(0, .aload_n 0), (1, .aload_n 1), (2, .invokevirtual 53), (5, .iconst (-1)), (6, .if_icmp .eq (7)), (9, .iconst 1), (10, .goto 4), (13, .iconst 0), (14, .ireturn)]]
def kF79 : List (Nat × Nat × Nat × Nat) := []
def kM79 : List (Nat × MF) := [(53, 80, 1, 1, 3, 9, 1)]
def kK79 : List (Nat × AV) := []
set_option maxRecDepth 100000 in
theorem ok79 : okX 79 kc79 kF79 kM79 kK79 = true := by decide +kernel
def kc80 : List (List (Nat × Instr)) := [[(0, .aload_n 0), (1, .aload_n 1), (2, .invokevirtual 49), (5, .istore_n 2), (6, .iload_n 2), (7, .iconst (-1)), (8, .if_icmp .eq (7)), (11, .aload_n 0), (12, .invokevirtual 31), (15, .iload_n 2), (16, .ireturn)]]
def kF80 : List (Nat × Nat × Nat × Nat) := []
def kM80 : List (Nat × MF) := [(31, 77, 1, 0, 1, 9, 0), (49, 81, 1, 1, 7, 9, 1)]
def kK80 : List (Nat × AV) := []
set_option maxRecDepth 100000 in
theorem ok80 : okX 80 kc80 kF80 kM80 kK80 = true := by decide +kernel
def kc81 : List (List (Nat × Instr)) := [[(0, .aload_n 0), (1, .getfield 37), (4, .iconst 1), (5, .if_icmp .eq (5)), (8, .iconst (-1)), (9, .ireturn), (10, .iconst 0), (11, .istore_n 2), (12, .iconst 0), (13, .istore_n 3), (14, .iconst 0), (15, .istore 4), (17, .iload 4), (19, .aload_n 1), (20, .invokevirtual 40), (23, .if_icmp .ge (101)), (26, .aload_n 1), (27, .iload 4), (29, .invokevirtual 45)], [(32, .istore 5), (34, .iload 5), (36, .bipush 32), (38, .if_icmp .ne (26)), (41, .iload_n 3), (42, .aload_n 0), (43, .getfield 28), (46, .aload_n 0), (47, .getfield 34), (50, .isub), (51, .if_icmp .ne (5)), (54, .iload_n 2), (55, .ireturn), (56, .iinc 2 1), (59, .iconst 0), (60, .istore_n 3), (61, .goto 57)], [(64, .iload_n 3), (65, .iconst (-1)), (66, .if_icmp .eq (36)), (69, .aload_n 0), (70, .getfield 34), (73, .iload_n 3), (74, .iadd), (75, .aload_n 0), (76, .getfield 28), (79, .if_icmp .ge (23)), (82, .aload_n 0), (83, .getfield 9), (86, .aload_n 0), (87, .getfield 34), (90, .iload_n 3), (91, .iadd), (92, .caload), (93, .iload 5), (95, .if_icmp .ne (7))], [(98, .iconst 1), (99, .goto 4), (102, .iconst 0), (103, .istore 6), (105, .iload 6), (107, .ifCond .eq (9)), (110, .iload_n 3), (111, .iconst 1), (112, .iadd), (113, .goto 4), (116, .iconst (-1)), (117, .istore_n 3), (118, .iinc 4 1), (121, .goto (-104)), (124, .iconst (-1)), (125, .ireturn)]]
def kF81 : List (Nat × Nat × Nat × Nat) := [(9, 9, 0, 28), (28, 9, 4, 0), (34, 9, 3, 0), (37, 9, 2, 0)]
def kM81 : List (Nat × MF) := [(40, 228, 1, 0, 1, 40, 1), (45, 230, 1, 1, 2, 40, 2)]
def kK81 : List (Nat × AV) := []
set_option maxRecDepth 100000 in
theorem ok81 : okX 81 kc81 kF81 kM81 kK81 = true := by decide +kernel
def kc82 : List (List (Nat × Instr)) := [[(0, .aload_n 0), (1, .getfield 37), (4, .iconst 2), (5, .if_icmp .ne (16)), (8, .aload_n 0), (9, .getfield 28), (12, .aload_n 0), (13, .getfield 34), (16, .isub), (17, .iload_n 1), (18, .if_icmp .le (5)), (21, .iconst (-1)), (22, .ireturn), (23, .iconst 0), (24, .istore_n 2), (25, .aload_n 0), (26, .getfield 34), (29, .istore_n 3), (30, .iload_n 3), (31, .aload_n 0)], [(32, .getfield 28), (35, .if_icmp .ge (24)), (38, .iload_n 2), (39, .bipush 10), (41, .imul), (42, .aload_n 0), (43, .getfield 9), (46, .iload_n 3), (47, .caload), (48, .bipush 48), (50, .isub), (51, .iadd), (52, .istore_n 2), (53, .iinc 3 1), (56, .goto (-26)), (59, .iload_n 2), (60, .ireturn)]]
def kF82 : List (Nat × Nat × Nat × Nat) := [(9, 9, 0, 28), (28, 9, 4, 0), (34, 9, 3, 0), (37, 9, 2, 0)]
def kM82 : List (Nat × MF) := []
def kK82 : List (Nat × AV) := []
set_option maxRecDepth 100000 in
theorem ok82 : okX 82 kc82 kF82 kM82 kK82 = true := by decide +kernel
def kc83 : List (List (Nat × Instr)) := [[(0, .aload_n 0), (1, .getfield 37), (4, .iconst 3), (5, .if_icmp .ne (27)), (8, .aload_n 0), (9, .getfield 34), (12, .aload_n 0), (13, .getfield 24), (16, .if_icmp .ge (16)), (19, .aload_n 0), (20, .getfield 9), (23, .aload_n 0), (24, .getfield 34), (27, .caload), (28, .iload_n 1), (29, .if_icmp .eq (5))], [(32, .iconst 0), (33, .ireturn), (34, .aload_n 0), (35, .invokevirtual 31), (38, .iconst 1), (39, .ireturn)]]
def kF83 : List (Nat × Nat × Nat × Nat) := [(9, 9, 0, 28), (24, 9, 1, 0), (34, 9, 3, 0), (37, 9, 2, 0)]
def kM83 : List (Nat × MF) := [(31, 77, 1, 0, 1, 9, 0)]
def kK83 : List (Nat × AV) := []
set_option maxRecDepth 100000 in
theorem ok83 : okX 83 kc83 kF83 kM83 kK83 = true := by decide +kernel
def kc84 : List (List (Nat × Instr)) := [[(0, .aload_n 0), (1, .getfield 37), (4, .iconst 3), (5, .if_icmp .ne (31)), (8, .aload_n 0), (9, .getfield 34), (12, .aload_n 0), (13, .getfield 24), (16, .if_icmp .ge (20)), (19, .ldc 56), (21, .aload_n 0), (22, .getfield 9), (25, .aload_n 0), (26, .getfield 34), (29, .caload), (30, .invokevirtual 58)], [(33, .goto 4), (36, .iconst (-1)), (37, .ireturn)]]
def kF84 : List (Nat × Nat × Nat × Nat) := [(9, 9, 0, 28), (24, 9, 1, 0), (34, 9, 3, 0), (37, 9, 2, 0)]
def kM84 : List (Nat × MF) := [(58, 231, 1, 1, 2, 40, 1)]
def kK84 : List (Nat × AV) := [(56, .inr (.inr (40, some 32)))]
set_option maxRecDepth 100000 in
theorem ok84 : okX 84 kc84 kF84 kM84 kK84 = true := by decide +kernel
def kc85 : List (List (Nat × Instr)) := [[(0, .aload_n 0), (1, .invokespecial 1), (4, .aload_n 0), (5, .sipush 240), (8, .newarray .char), (10, .putfield 9), (13, .aload_n 0), (14, .bipush 60), (16, .anewarray 13), (19, .putfield 15), (22, .aload_n 0), (23, .new 19), (26, .dup), (27, .invokespecial 21), (30, .putfield 22)], [(33, .aload_n 0), (34, .new 26), (37, .dup), (38, .aload_n 0), (39, .getfield 22), (42, .invokespecial 28), (45, .putfield 31), (48, .aload_n 0), (49, .new 35), (52, .dup), (53, .aload_n 0), (54, .getfield 22), (57, .invokespecial 37), (60, .putfield 38), (63, .aload_n 0)], [(64, .new 42), (67, .dup), (68, .invokespecial 44), (71, .putfield 45), (74, .aload_n 0), (75, .new 49), (78, .dup), (79, .invokespecial 51), (82, .putfield 52), (85, .aload_n 0), (86, .new 56), (89, .dup), (90, .invokespecial 58), (93, .putfield 59)], [(96, .aload_n 0), (97, .getfield 22), (100, .ldc 63), (102, .invokevirtual 65), (105, .ldc 63), (107, .invokevirtual 71), (110, .invokevirtual 75), (113, .aload_n 0), (114, .getfield 38), (117, .aload_n 0), (118, .getfield 52), (121, .getfield 79), (124, .invokevirtual 83), (127, .pop)], [(128, .return_)]]
def kF85 : List (Nat × Nat × Nat × Nat) := [(9, 10, 0, 28), (15, 10, 2, 42), (22, 10, 4, 14), (31, 10, 5, 13), (38, 10, 6, 7), (45, 10, 7, 9), (52, 10, 8, 5), (59, 10, 9, 11), (79, 0, 0, 6)]
def kM85 : List (Nat × MF) := [(21, 75, 2, 0, 1, 9, 0), (28, 62, 2, 1, 2, 8, 0), (37, 16, 2, 1, 2, 2, 0), (44, 29, 2, 0, 1, 4, 0), (51, 0, 2, 0, 2, 0, 0), (58, 45, 2, 0, 1, 6, 0), (65, 226, 1, 0, 1, 40, 28), (71, 228, 1, 0, 1, 40, 1), (75, 76, 1, 2, 3, 9, 0), (83, 17, 1, 1, 3, 2, 2)]
def kK85 : List (Nat × AV) := [(63, .inr (.inr (40, some 33)))]
set_option maxRecDepth 100000 in
theorem ok85 : okX 85 kc85 kF85 kM85 kK85 = true := by decide +kernel
def kc86 : List (List (Nat × Instr)) := [[(0, .iload_n 0), (1, .ifCond .lt (12)), (4, .iload_n 0), (5, .iconst 4), (6, .if_icmp .ge (7)), (9, .iconst 1), (10, .goto 4), (13, .iconst 0), (14, .ireturn)]]
def kF86 : List (Nat × Nat × Nat × Nat) := []
def kM86 : List (Nat × MF) := []
def kK86 : List (Nat × AV) := []
set_option maxRecDepth 100000 in
theorem ok86 : okX 86 kc86 kF86 kM86 kK86 = true := by decide +kernel
def kc87 : List (List (Nat × Instr)) := [[(0, .aload_n 0), (1, .getfield 87), (4, .bipush 20), (6, .iadd), (7, .sipush 240), (10, .if_icmp .le (5)), (13, .iconst (-1)), (14, .ireturn), (15, .aload_n 0), (16, .iload_n 1), (17, .invokevirtual 91), (20, .aload_n 0), (21, .iload_n 2), (22, .invokevirtual 91), (25, .aload_n 0), (26, .iload_n 3), (27, .invokevirtual 91), (30, .aload_n 0), (31, .iload 4)], [(33, .invokevirtual 91), (36, .aload_n 0), (37, .iload 5), (39, .invokevirtual 91), (42, .aload_n 0), (43, .getfield 87), (46, .ireturn)]]
def kF87 : List (Nat × Nat × Nat × Nat) := [(87, 10, 1, 0)]
def kM87 : List (Nat × MF) := [(91, 88, 1, 1, 3, 10, 0)]
def kK87 : List (Nat × AV) := []
set_option maxRecDepth 100000 in
theorem ok87 : okX 87 kc87 kF87 kM87 kK87 = true := by decide +kernel
def kc88 : List (List (Nat × Instr)) := [[(0, .bipush 24), (2, .istore_n 2), (3, .iload_n 2), (4, .ifCond .lt (46)), (7, .aload_n 0), (8, .getfield 87), (11, .sipush 240), (14, .if_icmp .ge (36)), (17, .aload_n 0), (18, .getfield 9), (21, .aload_n 0), (22, .getfield 87), (25, .iload_n 1), (26, .iload_n 2), (27, .iushr), (28, .sipush 255), (31, .iand)], [(32, .i2c), (33, .castore), (34, .aload_n 0), (35, .dup), (36, .getfield 87), (39, .iconst 1), (40, .iadd), (41, .putfield 87), (44, .iinc 2 (-8)), (47, .goto (-44)), (50, .return_)]]
def kF88 : List (Nat × Nat × Nat × Nat) := [(9, 10, 0, 28), (87, 10, 1, 0)]
def kM88 : List (Nat × MF) := []
def kK88 : List (Nat × AV) := []
set_option maxRecDepth 100000 in
theorem ok88 : okX 88 kc88 kF88 kM88 kK88 = true := by decide +kernel
def kc89 : List (List (Nat × Instr)) := [[(0, .iload_n 1), (1, .ifCond .lt (11)), (4, .iload_n 1), (5, .aload_n 0), (6, .getfield 87), (9, .if_icmp .le (5)), (12, .iconst (-1)), (13, .ireturn), (14, .aload_n 0), (15, .iconst 0), (16, .putfield 87), (19, .aload_n 0), (20, .getfield 22), (23, .aload_n 0), (24, .getfield 9), (27, .iload_n 1), (28, .invokevirtual 75), (31, .aload_n 0)], [(32, .getfield 31), (35, .invokevirtual 95), (38, .astore_n 2), (39, .aload_n 2), (40, .ifnonnull 10), (43, .aload_n 0), (44, .invokevirtual 99), (47, .goto 8), (50, .aload_n 0), (51, .aload_n 2), (52, .invokevirtual 102), (55, .ireturn)]]
def kF89 : List (Nat × Nat × Nat × Nat) := [(9, 10, 0, 28), (22, 10, 4, 14), (31, 10, 5, 13), (87, 10, 1, 0)]
def kM89 : List (Nat × MF) := [(75, 76, 1, 2, 3, 9, 0), (95, 63, 1, 0, 4, 8, 12), (99, 91, 1, 0, 1, 10, 1), (102, 92, 1, 1, 3, 10, 1)]
def kK89 : List (Nat × AV) := []
set_option maxRecDepth 100000 in
theorem ok89 : okX 89 kc89 kF89 kM89 kK89 = true := by decide +kernel
def kc90 : List (List (Nat × Instr)) := [[(0, .iload_n 0), (1, .bipush 16), (3, .if_icmp .lt (13)), (6, .iload_n 0), (7, .bipush 29), (9, .if_icmp .gt (7)), (12, .iconst 1), (13, .goto 4), (16, .iconst 0), (17, .ireturn)]]
def kF90 : List (Nat × Nat × Nat × Nat) := []
def kM90 : List (Nat × MF) := []
def kK90 : List (Nat × AV) := []
set_option maxRecDepth 100000 in
theorem ok90 : okX 90 kc90 kF90 kM90 kK90 = true := by decide +kernel
def kc91 : List (List (Nat × Instr)) := [[(0, .bipush (-2)), (2, .aload_n 0), (3, .getfield 22), (6, .getfield 198), (9, .isub), (10, .ireturn)]]
def kF91 : List (Nat × Nat × Nat × Nat) := [(22, 10, 4, 14), (198, 9, 3, 0)]
def kM91 : List (Nat × MF) := []
def kK91 : List (Nat × AV) := []
set_option maxRecDepth 100000 in
theorem ok91 : okX 91 kc91 kF91 kM91 kK91 = true := by decide +kernel
def kc92 : List (List (Nat × Instr)) := [[(0, .iconst 0), (1, .istore_n 2), (2, .iload_n 2), (3, .aload_n 0), (4, .getfield 192), (7, .if_icmp .ge (24)), (10, .aload_n 0), (11, .getfield 15), (14, .iload_n 2), (15, .aaload), (16, .aload_n 1), (17, .invokevirtual 174), (20, .ifCond .ne (5)), (23, .iload_n 2), (24, .ireturn), (25, .iinc 2 1), (28, .goto (-26)), (31, .aload_n 0)], [(32, .getfield 192), (35, .bipush 60), (37, .if_icmp .lt (5)), (40, .iconst (-1)), (41, .ireturn), (42, .aload_n 0), (43, .getfield 15), (46, .aload_n 0), (47, .getfield 192), (50, .aload_n 1), (51, .aastore), (52, .aload_n 0), (53, .dup), (54, .getfield 192), (57, .iconst 1), (58, .iadd), (59, .putfield 192), (62, .aload_n 0), (63, .getfield 192)], [(66, .iconst 1), (67, .isub), (68, .ireturn)]]
def kF92 : List (Nat × Nat × Nat × Nat) := [(15, 10, 2, 42), (192, 10, 3, 0)]
def kM92 : List (Nat × MF) := [(174, 54, 1, 1, 5, 7, 1)]
def kK92 : List (Nat × AV) := []
set_option maxRecDepth 100000 in
theorem ok92 : okX 92 kc92 kF92 kM92 kK92 = true := by decide +kernel
def kc93 : List (List (Nat × Instr)) := [[(0, .iload_n 1), (1, .invokestatic 106), (4, .ifCond .eq (15)), (7, .iload_n 2), (8, .ifCond .lt (11)), (11, .iload_n 2), (12, .aload_n 0), (13, .getfield 87), (16, .if_icmp .le (5)), (19, .iconst (-1)), (20, .ireturn), (21, .aload_n 0), (22, .iconst 0), (23, .putfield 87), (26, .aload_n 0), (27, .getfield 22), (30, .aload_n 0), (31, .getfield 9)], [(34, .iload_n 2), (35, .invokevirtual 75), (38, .aload_n 0), (39, .getfield 38), (42, .aload_n 0), (43, .getfield 52), (46, .getfield 110), (49, .invokevirtual 83), (52, .ifCond .ne (8)), (55, .aload_n 0), (56, .invokevirtual 99), (59, .ireturn), (60, .aload_n 0), (61, .getfield 52)], [(64, .iload_n 1), (65, .invokevirtual 113), (68, .aload_n 0), (69, .getfield 52), (72, .iload_n 1), (73, .invokevirtual 116), (76, .ireturn)]]
def kF93 : List (Nat × Nat × Nat × Nat) := [(9, 10, 0, 28), (22, 10, 4, 14), (38, 10, 6, 7), (52, 10, 8, 5), (87, 10, 1, 0), (110, 0, 2, 6)]
def kM93 : List (Nat × MF) := [(75, 76, 1, 2, 3, 9, 0), (83, 17, 1, 1, 3, 2, 2), (99, 91, 1, 0, 1, 10, 1), (106, 94, 0, 1, 1, 10, 2), (113, 1, 1, 1, 3, 0, 0), (116, 2, 1, 1, 2, 0, 1)]
def kK93 : List (Nat × AV) := []
set_option maxRecDepth 100000 in
theorem ok93 : okX 93 kc93 kF93 kM93 kK93 = true := by decide +kernel
def kc94 : List (List (Nat × Instr)) := [[(0, .iload_n 0), (1, .ifCond .lt (12)), (4, .iload_n 0), (5, .iconst 4), (6, .if_icmp .ge (7)), (9, .iconst 1), (10, .goto 4), (13, .iconst 0), (14, .ireturn)]]
def kF94 : List (Nat × Nat × Nat × Nat) := []
def kM94 : List (Nat × MF) := []
def kK94 : List (Nat × AV) := []
set_option maxRecDepth 100000 in
theorem ok94 : okX 94 kc94 kF94 kM94 kK94 = true := by decide +kernel
def kc95 : List (List (Nat × Instr)) := [[(0, .aload_n 0), (1, .iload_n 1), (2, .invokevirtual 120), (5, .astore_n 2), (6, .aload_n 2), (7, .ifnonnull 7), (10, .iconst (-1)), (11, .goto 11), (14, .aload_n 0), (15, .getfield 45), (18, .aload_n 2), (19, .invokevirtual 124), (22, .ireturn)]]
def kF95 : List (Nat × Nat × Nat × Nat) := [(45, 10, 7, 9)]
def kM95 : List (Nat × MF) := [(120, 96, 1, 1, 2, 10, 12), (124, 30, 1, 1, 4, 4, 1)]
def kK95 : List (Nat × AV) := []
set_option maxRecDepth 100000 in
theorem ok95 : okX 95 kc95 kF95 kM95 kK95 = true := by decide +kernel
def kc96 : List (List (Nat × Instr)) := [[(0, .iload_n 1), (1, .ifCond .lt (20)), (4, .iload_n 1), (5, .aload_n 0), (6, .getfield 192), (9, .if_icmp .ge (12)), (12, .aload_n 0), (13, .getfield 15), (16, .iload_n 1), (17, .aaload), (18, .goto 4), (21, .aconst_null), (22, .areturn)]]
def kF96 : List (Nat × Nat × Nat × Nat) := [(15, 10, 2, 42), (192, 10, 3, 0)]
def kM96 : List (Nat × MF) := []
def kK96 : List (Nat × AV) := []
set_option maxRecDepth 100000 in
theorem ok96 : okX 96 kc96 kF96 kM96 kK96 = true := by decide +kernel
def kc97 : List (List (Nat × Instr)) := [[(0, .aload_n 0), (1, .getfield 45), (4, .iload_n 1), (5, .invokevirtual 127), (8, .ireturn)]]
def kF97 : List (Nat × Nat × Nat × Nat) := [(45, 10, 7, 9)]
def kM97 : List (Nat × MF) := [(127, 37, 1, 1, 2, 4, 1)]
def kK97 : List (Nat × AV) := []
set_option maxRecDepth 100000 in
theorem ok97 : okX 97 kc97 kF97 kM97 kK97 = true := by decide +kernel
def kc98 : List (List (Nat × Instr)) := [[(0, .aload_n 0), (1, .iload_n 1), (2, .invokevirtual 120), (5, .astore_n 3), (6, .aload_n 3), (7, .ifnonnull 5), (10, .iconst (-1)), (11, .ireturn), (12, .iload_n 2), (13, .bipush 10), (15, .if_icmp .ge (9)), (18, .aload_n 3), (19, .iload_n 2), (20, .invokevirtual 130), (23, .ireturn), (24, .aload_n 3), (25, .iload_n 2), (26, .bipush 10), (28, .isub), (29, .bipush 8), (31, .idiv)], [(32, .invokevirtual 133), (35, .astore 4), (37, .aload 4), (39, .ifnonnull 7), (42, .iconst (-1)), (43, .goto 15), (46, .aload 4), (48, .iload_n 2), (49, .bipush 10), (51, .isub), (52, .bipush 8), (54, .irem), (55, .invokevirtual 137), (58, .ireturn)]]
def kF98 : List (Nat × Nat × Nat × Nat) := []
def kM98 : List (Nat × MF) := [(120, 96, 1, 1, 2, 10, 12), (130, 57, 1, 1, 2, 7, 1), (133, 59, 1, 1, 4, 7, 8), (137, 25, 1, 1, 2, 3, 1)]
def kK98 : List (Nat × AV) := []
set_option maxRecDepth 100000 in
theorem ok98 : okX 98 kc98 kF98 kM98 kK98 = true := by decide +kernel
def kc99 : List (List (Nat × Instr)) := [[(0, .aload_n 0), (1, .getfield 52), (4, .iconst 0), (5, .putfield 140), (8, .aload_n 0), (9, .iload_n 1), (10, .invokevirtual 120), (13, .astore 4), (15, .aload 4), (17, .ifnull 17), (20, .iload_n 2), (21, .invokestatic 143), (24, .ifCond .eq (10)), (27, .iload_n 3), (28, .invokestatic 106), (31, .ifCond .ne (5))], [(34, .iconst 0), (35, .ireturn), (36, .iconst 0), (37, .istore 5), (39, .iconst 0), (40, .istore 6), (42, .iload 6), (44, .bipush 7), (46, .if_icmp .ge (41)), (49, .aload 4), (51, .iload 6), (53, .invokevirtual 146), (56, .astore 7), (58, .aload 7), (60, .ifnull 21), (63, .iload 5)], [(65, .aload_n 0), (66, .getfield 52), (69, .aload 4), (71, .aload 7), (73, .iload_n 2), (74, .iload_n 3), (75, .invokevirtual 149), (78, .iadd), (79, .istore 5), (81, .iinc 6 1), (84, .goto (-42)), (87, .iload 5), (89, .ireturn)]]
def kF99 : List (Nat × Nat × Nat × Nat) := [(52, 10, 8, 5), (140, 0, 4, 0)]
def kM99 : List (Nat × MF) := [(106, 94, 0, 1, 1, 10, 2), (120, 96, 1, 1, 2, 10, 12), (143, 86, 0, 1, 1, 10, 2), (146, 56, 1, 1, 2, 7, 8), (149, 3, 1, 4, 10, 0, 1)]
def kK99 : List (Nat × AV) := []
set_option maxRecDepth 100000 in
theorem ok99 : okX 99 kc99 kF99 kM99 kK99 = true := by decide +kernel
def kc100 : List (List (Nat × Instr)) := [[(0, .getstatic 201), (3, .iload_n 0), (4, .invokestatic 170), (7, .ireturn)]]
def kF100 : List (Nat × Nat × Nat × Nat) := []
def kM100 : List (Nat × MF) := [(170, 101, 0, 2, 2, 10, 1)]
def kK100 : List (Nat × AV) := [(201, .inr (.inr (42, some 0)))]
set_option maxRecDepth 100000 in
theorem ok100 : okX 100 kc100 kF100 kM100 kK100 = true := by decide +kernel
def kc101 : List (List (Nat × Instr)) := [[(0, .iload_n 1), (1, .ifCond .lt (15)), (4, .iload_n 1), (5, .aload_n 0), (6, .arraylength), (7, .if_icmp .ge (9)), (10, .aload_n 0), (11, .iload_n 1), (12, .iaload), (13, .goto 4), (16, .iconst (-1)), (17, .ireturn)]]
def kF101 : List (Nat × Nat × Nat × Nat) := []
def kM101 : List (Nat × MF) := []
def kK101 : List (Nat × AV) := []
set_option maxRecDepth 100000 in
theorem ok101 : okX 101 kc101 kF101 kM101 kK101 = true := by decide +kernel
def kc102 : List (List (Nat × Instr)) := [[(0, .iload_n 0), (1, .iconst 2), (2, .if_icmp .ge (5)), (5, .iconst 1), (6, .ireturn), (7, .iload_n 0), (8, .bipush 7), (10, .if_icmp .ge (7)), (13, .iconst 2), (14, .goto 4), (17, .iconst 0), (18, .ireturn)]]
def kF102 : List (Nat × Nat × Nat × Nat) := []
def kM102 : List (Nat × MF) := []
def kK102 : List (Nat × AV) := []
set_option maxRecDepth 100000 in
theorem ok102 : okX 102 kc102 kF102 kM102 kK102 = true := by decide +kernel
def kc103 : List (List (Nat × Instr)) := [[(0, .aload_n 0), (1, .getfield 52), (4, .iconst 0), (5, .putfield 140), (8, .aload_n 0), (9, .iload_n 1), (10, .invokevirtual 120), (13, .astore 5), (15, .aload 5), (17, .ifnull 18), (20, .iload_n 3), (21, .invokestatic 143), (24, .ifCond .eq (11)), (27, .iload 4), (29, .invokestatic 106)], [(32, .ifCond .ne (5)), (35, .iconst 0), (36, .ireturn), (37, .aload 5), (39, .iload_n 2), (40, .invokevirtual 133), (43, .astore 6), (45, .aload 6), (47, .ifnonnull 7), (50, .iconst 0), (51, .goto 17), (54, .aload_n 0), (55, .getfield 52), (58, .aload 5), (60, .aload 6), (62, .iload_n 3), (63, .iload 4)], [(65, .invokevirtual 149), (68, .ireturn)]]
def kF103 : List (Nat × Nat × Nat × Nat) := [(52, 10, 8, 5), (140, 0, 4, 0)]
def kM103 : List (Nat × MF) := [(106, 94, 0, 1, 1, 10, 2), (120, 96, 1, 1, 2, 10, 12), (133, 59, 1, 1, 4, 7, 8), (143, 86, 0, 1, 1, 10, 2), (149, 3, 1, 4, 10, 0, 1)]
def kK103 : List (Nat × AV) := []
set_option maxRecDepth 100000 in
theorem ok103 : okX 103 kc103 kF103 kM103 kK103 = true := by decide +kernel
def kc104 : List (List (Nat × Instr)) := [[(0, .iload_n 1), (1, .ifCond .lt (27)), (4, .iload_n 1), (5, .bipush 31), (7, .if_icmp .ge (21)), (10, .iload_n 2), (11, .invokestatic 143), (14, .ifCond .eq (14)), (17, .iload_n 3), (18, .invokestatic 106), (21, .ifCond .eq (7)), (24, .iconst 1), (25, .goto 4), (28, .iconst 0), (29, .istore 4), (31, .iload 4)], [(33, .ifCond .eq (16)), (36, .aload_n 0), (37, .getfield 52), (40, .iload_n 1), (41, .iload_n 2), (42, .iload_n 3), (43, .invokevirtual 153), (46, .goto 4), (49, .iconst (-1)), (50, .ireturn)]]
def kF104 : List (Nat × Nat × Nat × Nat) := [(52, 10, 8, 5)]
def kM104 : List (Nat × MF) := [(106, 94, 0, 1, 1, 10, 2), (143, 86, 0, 1, 1, 10, 2), (153, 9, 1, 3, 6, 0, 1)]
def kK104 : List (Nat × AV) := []
set_option maxRecDepth 100000 in
theorem ok104 : okX 104 kc104 kF104 kM104 kK104 = true := by decide +kernel
def kc105 : List (List (Nat × Instr)) := [[(0, .aload_n 0), (1, .getfield 52), (4, .getfield 140), (7, .ireturn)]]
def kF105 : List (Nat × Nat × Nat × Nat) := [(52, 10, 8, 5), (140, 0, 4, 0)]
def kM105 : List (Nat × MF) := []
def kK105 : List (Nat × AV) := []
set_option maxRecDepth 100000 in
theorem ok105 : okX 105 kc105 kF105 kM105 kK105 = true := by decide +kernel
def kc106 : List (List (Nat × Instr)) := [[(0, .aload_n 0), (1, .iload_n 1), (2, .invokevirtual 120), (5, .astore 4), (7, .aload 4), (9, .ifnonnull 7), (12, .iconst (-1)), (13, .goto 10), (16, .aload 4), (18, .iload_n 2), (19, .iload_n 3), (20, .invokestatic 157), (23, .ireturn)]]
def kF106 : List (Nat × Nat × Nat × Nat) := []
def kM106 : List (Nat × MF) := [(120, 96, 1, 1, 2, 10, 12), (157, 213, 0, 3, 5, 12, 1)]
def kK106 : List (Nat × AV) := []
set_option maxRecDepth 100000 in
theorem ok106 : okX 106 kc106 kF106 kM106 kK106 = true := by decide +kernel
def kc107 : List (List (Nat × Instr)) := [[(0, .aload_n 0), (1, .iload_n 1), (2, .invokevirtual 120), (5, .astore_n 3), (6, .aload_n 3), (7, .ifnull 13), (10, .iload_n 2), (11, .ifCond .lt (9)), (14, .iload_n 2), (15, .bipush 9), (17, .if_icmp .lt (5)), (20, .iconst (-1)), (21, .ireturn), (22, .aload_n 3), (23, .getfield 163), (26, .ifnonnull 11), (29, .aload_n 3), (30, .aload_n 3), (31, .invokestatic 167)], [(34, .putfield 163), (37, .aload_n 3), (38, .getfield 163), (41, .iload_n 2), (42, .invokestatic 170), (45, .ireturn)]]
def kF107 : List (Nat × Nat × Nat × Nat) := [(163, 7, 4, 26)]
def kM107 : List (Nat × MF) := [(120, 96, 1, 1, 2, 10, 12), (167, 225, 0, 1, 5, 12, 26), (170, 101, 0, 2, 2, 10, 1)]
def kK107 : List (Nat × AV) := []
set_option maxRecDepth 100000 in
theorem ok107 : okX 107 kc107 kF107 kM107 kK107 = true := by decide +kernel
def kc108 : List (List (Nat × Instr)) := [[(0, .aload_n 0), (1, .iload_n 1), (2, .invokevirtual 120), (5, .astore_n 3), (6, .aload_n 0), (7, .iload_n 2), (8, .invokevirtual 120), (11, .astore 4), (13, .aload_n 3), (14, .ifnull 8), (17, .aload 4), (19, .ifnonnull 7), (22, .iconst (-1)), (23, .goto 9), (26, .aload_n 3), (27, .aload 4), (29, .invokevirtual 174)], [(32, .ireturn)]]
def kF108 : List (Nat × Nat × Nat × Nat) := []
def kM108 : List (Nat × MF) := [(120, 96, 1, 1, 2, 10, 12), (174, 54, 1, 1, 5, 7, 1)]
def kK108 : List (Nat × AV) := []
set_option maxRecDepth 100000 in
theorem ok108 : okX 108 kc108 kF108 kM108 kK108 = true := by decide +kernel
def kc109 : List (List (Nat × Instr)) := [[(0, .iload_n 2), (1, .iconst (-1)), (2, .if_icmp .ne (8)), (5, .iload_n 3), (6, .iconst (-1)), (7, .if_icmp .eq (14)), (10, .aload_n 0), (11, .getfield 59), (14, .iload_n 1), (15, .iload_n 2), (16, .iload_n 3), (17, .invokevirtual 177), (20, .ireturn), (21, .aload_n 0), (22, .iload 4), (24, .invokevirtual 120), (27, .ifnonnull 7), (30, .iconst (-1)), (31, .goto 13)], [(34, .aload_n 0), (35, .getfield 59), (38, .iload_n 1), (39, .iload 4), (41, .invokevirtual 181), (44, .ireturn)]]
def kF109 : List (Nat × Nat × Nat × Nat) := [(59, 10, 9, 11)]
def kM109 : List (Nat × MF) := [(120, 96, 1, 1, 2, 10, 12), (177, 46, 1, 3, 6, 6, 1), (181, 48, 1, 2, 3, 6, 1)]
def kK109 : List (Nat × AV) := []
set_option maxRecDepth 100000 in
theorem ok109 : okX 109 kc109 kF109 kM109 kK109 = true := by decide +kernel
def kc110 : List (List (Nat × Instr)) := [[(0, .aload_n 0), (1, .getfield 59), (4, .iload_n 1), (5, .iload_n 2), (6, .invokevirtual 185), (9, .ireturn)]]
def kF110 : List (Nat × Nat × Nat × Nat) := [(59, 10, 9, 11)]
def kM110 : List (Nat × MF) := [(185, 49, 1, 2, 5, 6, 2)]
def kK110 : List (Nat × AV) := []
set_option maxRecDepth 100000 in
theorem ok110 : okX 110 kc110 kF110 kM110 kK110 = true := by decide +kernel
def kc111 : List (List (Nat × Instr)) := [[(0, .aload_n 0), (1, .getfield 59), (4, .iload_n 1), (5, .iload_n 2), (6, .invokevirtual 189), (9, .ireturn)]]
def kF111 : List (Nat × Nat × Nat × Nat) := [(59, 10, 9, 11)]
def kM111 : List (Nat × MF) := [(189, 50, 1, 2, 4, 6, 1)]
def kK111 : List (Nat × AV) := []
set_option maxRecDepth 100000 in
theorem ok111 : okX 111 kc111 kF111 kM111 kK111 = true := by decide +kernel
def kc112 : List (List (Nat × Instr)) := [[(0, .iload_n 1), (1, .tableswitch (45) (0) (2) #[27, 32, 40]), (28, .aload_n 0), (29, .getfield 192)], [(32, .ireturn), (33, .aload_n 0), (34, .getfield 59), (37, .getfield 195), (40, .ireturn), (41, .aload_n 0), (42, .getfield 87), (45, .ireturn), (46, .iload_n 1), (47, .iconst 3), (48, .if_icmp .lt (22)), (51, .iload_n 1), (52, .bipush 7), (54, .if_icmp .ge (16)), (57, .aload_n 0), (58, .getfield 52), (61, .iload_n 1), (62, .iconst 3), (63, .isub)], [(64, .invokevirtual 116), (67, .goto 4), (70, .iconst (-1)), (71, .ireturn)]]
def kF112 : List (Nat × Nat × Nat × Nat) := [(52, 10, 8, 5), (59, 10, 9, 11), (87, 10, 1, 0), (192, 10, 3, 0), (195, 6, 1, 0)]
def kM112 : List (Nat × MF) := [(116, 2, 1, 1, 2, 0, 1)]
def kK112 : List (Nat × AV) := []
set_option maxRecDepth 100000 in
theorem ok112 : okX 112 kc112 kF112 kM112 kK112 = true := by decide +kernel
def kc113 : List (List (Nat × Instr)) := [[(0, .aload_n 0), (1, .invokespecial 1), (4, .aload_n 0), (5, .sipush 240), (8, .newarray .byte), (10, .putfield 7), (13, .aload_n 0), (14, .sipush 241), (17, .newarray .byte), (19, .putfield 13), (22, .aload_n 0), (23, .bipush 61), (25, .newarray .int), (27, .putfield 16), (30, .aload_n 0), (31, .bipush 61)], [(33, .newarray .int), (35, .putfield 20), (38, .aload_n 0), (39, .bipush 61), (41, .newarray .int), (43, .putfield 23), (46, .aload_n 0), (47, .sipush 3843), (50, .newarray .int), (52, .putfield 26), (55, .aload_n 0), (56, .sipush 700), (59, .newarray .byte), (61, .putfield 29)], [(64, .aload_n 0), (65, .bipush 6), (67, .newarray .int), (69, .putfield 32), (72, .aload_n 0), (73, .bipush 6), (75, .newarray .int), (77, .putfield 35), (80, .aload_n 0), (81, .bipush 72), (83, .newarray .int), (85, .putfield 38), (88, .aload_n 0), (89, .bipush 72), (91, .newarray .int), (93, .putfield 41)], [(96, .aload_n 0), (97, .bipush 72), (99, .newarray .int), (101, .putfield 44), (104, .aload_n 0), (105, .bipush 72), (107, .newarray .int), (109, .putfield 47), (112, .aload_n 0), (113, .sipush 1440), (116, .newarray .int), (118, .putfield 50), (121, .aload_n 0), (122, .sipush 1440), (125, .newarray .int), (127, .putfield 53)], [(130, .aload_n 0), (131, .sipush 250), (134, .newarray .int), (136, .putfield 56), (139, .aload_n 0), (140, .sipush 2200), (143, .newarray .int), (145, .putfield 59), (148, .aload_n 0), (149, .bipush 12), (151, .newarray .int), (153, .putfield 62), (156, .aload_n 0), (157, .bipush 12), (159, .newarray .int)], [(161, .putfield 65), (164, .aload_n 0), (165, .bipush 12), (167, .newarray .int), (169, .putfield 68), (172, .aload_n 0), (173, .bipush 12), (175, .newarray .int), (177, .putfield 71), (180, .aload_n 0), (181, .bipush 100), (183, .newarray .boolean), (185, .putfield 74), (188, .aload_n 0), (189, .bipush 100), (191, .newarray .int)], [(193, .putfield 78), (196, .aload_n 0), (197, .bipush 100), (199, .newarray .int), (201, .putfield 81), (204, .aload_n 0), (205, .bipush 100), (207, .newarray .int), (209, .putfield 84), (212, .aload_n 0), (213, .bipush 100), (215, .newarray .int), (217, .putfield 87), (220, .aload_n 0), (221, .sipush 3200)], [(224, .newarray .int), (226, .putfield 90), (229, .aload_n 0), (230, .bipush 100), (232, .newarray .int), (234, .putfield 93), (237, .aload_n 0), (238, .invokevirtual 96), (241, .return_)]]
def kF113 : List (Nat × Nat × Nat × Nat) := [(7, 11, 0, 27), (13, 11, 2, 27), (16, 11, 12, 26), (20, 11, 13, 26), (23, 11, 14, 26), (26, 11, 15, 26), (29, 11, 16, 27), (32, 11, 18, 26), (35, 11, 19, 26), (38, 11, 20, 26), (41, 11, 21, 26), (44, 11, 22, 26), (47, 11, 23, 26), (50, 11, 24, 26), (53, 11, 25, 26), (56, 11, 26, 26), (59, 11, 33, 26), (62, 11, 35, 26), (65, 11, 36, 26), (68, 11, 37, 26), (71, 11, 38, 26), (74, 11, 41, 29), (78, 11, 42, 26), (81, 11, 43, 26), (84, 11, 44, 26), (87, 11, 45, 26), (90, 11, 46, 26), (93, 11, 47, 26)]
def kM113 : List (Nat × MF) := [(96, 114, 1, 0, 1, 11, 0)]
def kK113 : List (Nat × AV) := []
set_option maxRecDepth 100000 in
theorem ok113 : okX 113 kc113 kF113 kM113 kK113 = true := by decide +kernel
def kc114 : List (List (Nat × Instr)) := [[(0, .aload_n 0), (1, .iconst 4), (2, .iconst 0), (3, .iconst 0), (4, .invokevirtual 445), (7, .aload_n 0), (8, .iconst 4), (9, .iconst 2), (10, .iconst 0), (11, .invokevirtual 448), (14, .aload_n 0), (15, .iconst 4), (16, .iconst 2), (17, .iconst 0), (18, .invokevirtual 448), (21, .aload_n 0), (22, .iconst 4), (23, .iconst 3), (24, .iconst 0), (25, .invokevirtual 448), (28, .aload_n 0), (29, .iconst 4), (30, .bipush 61)], [(32, .iconst 0), (33, .invokevirtual 448), (36, .aload_n 0), (37, .iconst 4), (38, .bipush 42), (40, .iconst 0), (41, .invokevirtual 448), (44, .aload_n 0), (45, .iconst 4), (46, .invokevirtual 451), (49, .aload_n 0), (50, .iconst 4), (51, .iconst 1), (52, .iconst 2), (53, .invokevirtual 445), (56, .aload_n 0), (57, .iconst 4), (58, .iconst 5), (59, .iconst 0), (60, .invokevirtual 448), (63, .aload_n 0)], [(64, .iconst 4), (65, .iconst 1), (66, .iconst 3), (67, .invokevirtual 448), (70, .aload_n 0), (71, .iconst 4), (72, .bipush 62), (74, .iconst 0), (75, .invokevirtual 448), (78, .aload_n 0), (79, .iconst 4), (80, .invokevirtual 451), (83, .aload_n 0), (84, .iconst 4), (85, .iconst 2), (86, .iconst 0), (87, .invokevirtual 445), (90, .aload_n 0), (91, .iconst 4), (92, .iconst 1), (93, .iconst 0), (94, .invokevirtual 448)], [(97, .aload_n 0), (98, .iconst 4), (99, .invokevirtual 451), (102, .aload_n 0), (103, .iconst 4), (104, .iconst 2), (105, .bipush 15), (107, .invokevirtual 445), (110, .aload_n 0), (111, .iconst 4), (112, .iconst 3), (113, .iconst 0), (114, .invokevirtual 448), (117, .aload_n 0), (118, .iconst 4), (119, .iconst 1), (120, .iconst 1), (121, .invokevirtual 448), (124, .aload_n 0), (125, .iconst 4), (126, .bipush 60)], [(128, .iconst 0), (129, .invokevirtual 448), (132, .aload_n 0), (133, .iconst 4), (134, .invokevirtual 451), (137, .aload_n 0), (138, .iconst 4), (139, .iconst 3), (140, .iconst 0), (141, .invokevirtual 445), (144, .aload_n 0), (145, .iconst 4), (146, .iconst 1), (147, .iconst 1), (148, .invokevirtual 448), (151, .aload_n 0), (152, .iconst 4), (153, .invokevirtual 451), (156, .aload_n 0), (157, .iconst 4), (158, .iconst 3), (159, .iconst 1)], [(160, .invokevirtual 445), (163, .aload_n 0), (164, .iconst 4), (165, .bipush 10), (167, .iconst 0), (168, .invokevirtual 448), (171, .aload_n 0), (172, .iconst 4), (173, .iconst 1), (174, .iconst 1), (175, .invokevirtual 448), (178, .aload_n 0), (179, .iconst 4), (180, .bipush 43), (182, .iconst 0), (183, .invokevirtual 448), (186, .aload_n 0), (187, .iconst 4), (188, .invokevirtual 451), (191, .return_)]]
def kF114 : List (Nat × Nat × Nat × Nat) := []
def kM114 : List (Nat × MF) := [(445, 115, 1, 3, 5, 11, 0), (448, 116, 1, 3, 4, 11, 0), (451, 117, 1, 1, 2, 11, 0)]
def kK114 : List (Nat × AV) := []
set_option maxRecDepth 100000 in
theorem ok114 : okX 114 kc114 kF114 kM114 kK114 = true := by decide +kernel
def kc115 : List (List (Nat × Instr)) := [[(0, .bipush 12), (2, .iload_n 1), (3, .imul), (4, .aload_n 0), (5, .getfield 32), (8, .iload_n 1), (9, .iaload), (10, .iadd), (11, .istore 4), (13, .aload_n 0), (14, .getfield 38), (17, .iload 4), (19, .iload_n 2), (20, .iastore), (21, .aload_n 0), (22, .getfield 41), (25, .iload 4), (27, .iload_n 3), (28, .iastore), (29, .aload_n 0), (30, .getfield 44)], [(33, .iload 4), (35, .aload_n 0), (36, .getfield 35), (39, .iload_n 1), (40, .iaload), (41, .iastore), (42, .aload_n 0), (43, .getfield 47), (46, .iload 4), (48, .aload_n 0), (49, .getfield 35), (52, .iload_n 1), (53, .iaload), (54, .iastore), (55, .aload_n 0), (56, .getfield 32), (59, .iload_n 1), (60, .aload_n 0), (61, .getfield 32)], [(64, .iload_n 1), (65, .iaload), (66, .iconst 1), (67, .iadd), (68, .iastore), (69, .return_)]]
def kF115 : List (Nat × Nat × Nat × Nat) := [(32, 11, 18, 26), (35, 11, 19, 26), (38, 11, 20, 26), (41, 11, 21, 26), (44, 11, 22, 26), (47, 11, 23, 26)]
def kM115 : List (Nat × MF) := []
def kK115 : List (Nat × AV) := []
set_option maxRecDepth 100000 in
theorem ok115 : okX 115 kc115 kF115 kM115 kK115 = true := by decide +kernel
def kc116 : List (List (Nat × Instr)) := [[(0, .aload_n 0), (1, .getfield 50), (4, .sipush 240), (7, .iload_n 1), (8, .imul), (9, .aload_n 0), (10, .getfield 35), (13, .iload_n 1), (14, .iaload), (15, .iadd), (16, .iload_n 2), (17, .iastore), (18, .aload_n 0), (19, .getfield 53), (22, .sipush 240), (25, .iload_n 1), (26, .imul), (27, .aload_n 0), (28, .getfield 35), (31, .iload_n 1)], [(32, .iaload), (33, .iadd), (34, .iload_n 3), (35, .iastore), (36, .aload_n 0), (37, .getfield 35), (40, .iload_n 1), (41, .aload_n 0), (42, .getfield 35), (45, .iload_n 1), (46, .iaload), (47, .iconst 1), (48, .iadd), (49, .iastore), (50, .return_)]]
def kF116 : List (Nat × Nat × Nat × Nat) := [(35, 11, 19, 26), (50, 11, 24, 26), (53, 11, 25, 26)]
def kM116 : List (Nat × MF) := []
def kK116 : List (Nat × AV) := []
set_option maxRecDepth 100000 in
theorem ok116 : okX 116 kc116 kF116 kM116 kK116 = true := by decide +kernel
def kc117 : List (List (Nat × Instr)) := [[(0, .aload_n 0), (1, .getfield 47), (4, .bipush 12), (6, .iload_n 1), (7, .imul), (8, .aload_n 0), (9, .getfield 32), (12, .iload_n 1), (13, .iaload), (14, .iadd), (15, .iconst 1), (16, .isub), (17, .aload_n 0), (18, .getfield 35), (21, .iload_n 1), (22, .iaload), (23, .iastore), (24, .return_)]]
def kF117 : List (Nat × Nat × Nat × Nat) := [(32, 11, 18, 26), (35, 11, 19, 26), (47, 11, 23, 26)]
def kM117 : List (Nat × MF) := []
def kK117 : List (Nat × AV) := []
set_option maxRecDepth 100000 in
theorem ok117 : okX 117 kc117 kF117 kM117 kK117 = true := by decide +kernel
def kc118 : List (List (Nat × Instr)) := [[(0, .aload_n 0), (1, .getfield 99), (4, .bipush 20), (6, .iadd), (7, .sipush 240), (10, .if_icmp .le (5)), (13, .iconst (-1)), (14, .ireturn), (15, .aload_n 0), (16, .iload_n 1), (17, .invokevirtual 103), (20, .aload_n 0), (21, .iload_n 2), (22, .invokevirtual 103), (25, .aload_n 0), (26, .iload_n 3), (27, .invokevirtual 103), (30, .aload_n 0), (31, .iload 4)], [(33, .invokevirtual 103), (36, .aload_n 0), (37, .iload 5), (39, .invokevirtual 103), (42, .aload_n 0), (43, .getfield 99), (46, .ireturn)]]
def kF118 : List (Nat × Nat × Nat × Nat) := [(99, 11, 1, 0)]
def kM118 : List (Nat × MF) := [(103, 119, 1, 1, 3, 11, 0)]
def kK118 : List (Nat × AV) := []
set_option maxRecDepth 100000 in
theorem ok118 : okX 118 kc118 kF118 kM118 kK118 = true := by decide +kernel
def kc119 : List (List (Nat × Instr)) := [[(0, .iconst 3), (1, .istore_n 2), (2, .iload_n 2), (3, .ifCond .lt (35)), (6, .aload_n 0), (7, .getfield 7), (10, .aload_n 0), (11, .getfield 99), (14, .iload_n 1), (15, .bipush 8), (17, .iload_n 2), (18, .imul), (19, .ishr), (20, .i2b), (21, .bastore), (22, .aload_n 0), (23, .aload_n 0), (24, .getfield 99), (27, .iconst 1), (28, .iadd), (29, .putfield 99)], [(32, .iinc 2 (-1)), (35, .goto (-33)), (38, .return_)]]
def kF119 : List (Nat × Nat × Nat × Nat) := [(7, 11, 0, 27), (99, 11, 1, 0)]
def kM119 : List (Nat × MF) := []
def kK119 : List (Nat × AV) := []
set_option maxRecDepth 100000 in
theorem ok119 : okX 119 kc119 kF119 kM119 kK119 = true := by decide +kernel
def kc120 : List (List (Nat × Instr)) := [[(0, .aload_n 0), (1, .iload_n 1), (2, .invokevirtual 393), (5, .ifCond .ne (5)), (8, .iconst (-1)), (9, .ireturn), (10, .aload_n 0), (11, .invokevirtual 396), (14, .ifCond .ne (11)), (17, .bipush (-2)), (19, .aload_n 0), (20, .getfield 117), (23, .isub), (24, .ireturn), (25, .iconst 0), (26, .istore_n 2), (27, .iload_n 2), (28, .aload_n 0), (29, .getfield 297)], [(32, .if_icmp .ge (23)), (35, .aload_n 0), (36, .iload_n 2), (37, .aload_n 0), (38, .getfield 297), (41, .invokevirtual 399), (44, .ifCond .eq (5)), (47, .iload_n 2), (48, .ireturn), (49, .iinc 2 1), (52, .goto (-25)), (55, .aload_n 0), (56, .getfield 297), (59, .bipush 60), (61, .if_icmp .ne (5))], [(64, .iconst (-1)), (65, .ireturn), (66, .aload_n 0), (67, .aload_n 0), (68, .getfield 297), (71, .iconst 1), (72, .iadd), (73, .putfield 297), (76, .aload_n 0), (77, .getfield 297), (80, .iconst 1), (81, .isub), (82, .ireturn)]]
def kF120 : List (Nat × Nat × Nat × Nat) := [(117, 11, 5, 0), (297, 11, 11, 0)]
def kM120 : List (Nat × MF) := [(393, 121, 1, 1, 3, 11, 2), (396, 122, 1, 0, 2, 11, 2), (399, 155, 1, 2, 3, 11, 2)]
def kK120 : List (Nat × AV) := []
set_option maxRecDepth 100000 in
theorem ok120 : okX 120 kc120 kF120 kM120 kK120 = true := by decide +kernel
def kc121 : List (List (Nat × Instr)) := [[(0, .iload_n 1), (1, .ifCond .lt (11)), (4, .iload_n 1), (5, .aload_n 0), (6, .getfield 99), (9, .if_icmp .le (5)), (12, .iconst 0), (13, .ireturn), (14, .iconst 0), (15, .istore_n 2), (16, .iload_n 2), (17, .iload_n 1), (18, .if_icmp .ge (21)), (21, .aload_n 0), (22, .getfield 13), (25, .iload_n 2), (26, .aload_n 0), (27, .getfield 7), (30, .iload_n 2), (31, .baload)], [(32, .bastore), (33, .iinc 2 1), (36, .goto (-20)), (39, .aload_n 0), (40, .iload_n 1), (41, .putfield 107), (44, .aload_n 0), (45, .iconst 0), (46, .putfield 99), (49, .aload_n 0), (50, .iconst 0), (51, .putfield 110), (54, .iconst 1), (55, .ireturn)]]
def kF121 : List (Nat × Nat × Nat × Nat) := [(7, 11, 0, 27), (13, 11, 2, 27), (99, 11, 1, 0), (107, 11, 3, 0), (110, 11, 6, 0)]
def kM121 : List (Nat × MF) := []
def kK121 : List (Nat × AV) := []
set_option maxRecDepth 100000 in
theorem ok121 : okX 121 kc121 kF121 kM121 kK121 = true := by decide +kernel
def kc122 : List (List (Nat × Instr)) := [[(0, .aload_n 0), (1, .aload_n 0), (2, .getfield 297), (5, .invokevirtual 377), (8, .aload_n 0), (9, .invokevirtual 304), (12, .aload_n 0), (13, .invokevirtual 380), (16, .ifCond .ne (5)), (19, .iconst 0), (20, .ireturn), (21, .iconst 0), (22, .istore_n 1), (23, .aload_n 0), (24, .getfield 130), (27, .bipush 44), (29, .if_icmp .ne (28))], [(32, .iload_n 1), (33, .bipush 6), (35, .if_icmp .ne (5)), (38, .iconst 0), (39, .ireturn), (40, .aload_n 0), (41, .invokevirtual 304), (44, .aload_n 0), (45, .iload_n 1), (46, .invokevirtual 384), (49, .istore_n 1), (50, .iload_n 1), (51, .iconst (-1)), (52, .if_icmp .ne (-29)), (55, .iconst 0), (56, .ireturn), (57, .aload_n 0), (58, .getfield 130), (61, .ifCond .ne (7))], [(64, .iconst 1), (65, .goto 4), (68, .iconst 0), (69, .ireturn)]]
def kF122 : List (Nat × Nat × Nat × Nat) := [(130, 11, 4, 0), (297, 11, 11, 0)]
def kM122 : List (Nat × MF) := [(304, 125, 1, 0, 5, 11, 0), (377, 123, 1, 1, 5, 11, 0), (380, 129, 1, 0, 4, 11, 2), (384, 137, 1, 1, 5, 11, 1)]
def kK122 : List (Nat × AV) := []
set_option maxRecDepth 100000 in
theorem ok122 : okX 122 kc122 kF122 kM122 kK122 = true := by decide +kernel
def kc123 : List (List (Nat × Instr)) := [[(0, .iconst 0), (1, .istore_n 2), (2, .iload_n 2), (3, .bipush 7), (5, .if_icmp .ge (51)), (8, .iload_n 1), (9, .iload_n 2), (10, .invokestatic 293), (13, .istore_n 3), (14, .iconst 0), (15, .istore 4), (17, .iload 4), (19, .bipush 9), (21, .if_icmp .ge (29)), (24, .aload_n 0), (25, .getfield 26), (28, .iload_n 3), (29, .iload 4), (31, .iadd)], [(32, .iload 4), (34, .iconst 4), (35, .if_icmp .ge (7)), (38, .iconst 0), (39, .goto 4), (42, .iconst (-1)), (43, .iastore), (44, .iinc 4 1), (47, .goto (-30)), (50, .iinc 2 1), (53, .goto (-51)), (56, .return_)]]
def kF123 : List (Nat × Nat × Nat × Nat) := [(26, 11, 15, 26)]
def kM123 : List (Nat × MF) := [(293, 124, 0, 2, 2, 11, 1)]
def kK123 : List (Nat × AV) := []
set_option maxRecDepth 100000 in
theorem ok123 : okX 123 kc123 kF123 kM123 kK123 = true := by decide +kernel
def kc124 : List (List (Nat × Instr)) := [[(0, .iload_n 0), (1, .bipush 7), (3, .imul), (4, .iload_n 1), (5, .iadd), (6, .bipush 9), (8, .imul), (9, .ireturn)]]
def kF124 : List (Nat × Nat × Nat × Nat) := []
def kM124 : List (Nat × MF) := []
def kK124 : List (Nat × AV) := []
set_option maxRecDepth 100000 in
theorem ok124 : okX 124 kc124 kF124 kM124 kK124 = true := by decide +kernel
def kc125 : List (List (Nat × Instr)) := [[(0, .aload_n 0), (1, .getfield 110), (4, .istore_n 1), (5, .aload_n 0), (6, .iload_n 1), (7, .invokevirtual 113), (10, .bipush 32), (12, .if_icmp .ne (18)), (15, .iload_n 1), (16, .aload_n 0), (17, .getfield 107), (20, .if_icmp .ge (10)), (23, .iload_n 1), (24, .iconst 1), (25, .iadd), (26, .istore_n 1), (27, .goto (-22)), (30, .aload_n 0), (31, .iload_n 1)], [(32, .putfield 117), (35, .aload_n 0), (36, .lconst 0), (37, .putfield 120), (40, .aload_n 0), (41, .lconst 0), (42, .putfield 124), (45, .aload_n 0), (46, .iconst 0), (47, .putfield 127), (50, .aload_n 0), (51, .iload_n 1), (52, .invokevirtual 113), (55, .istore_n 2), (56, .iload_n 1), (57, .aload_n 0), (58, .getfield 107), (61, .if_icmp .lt (14))], [(64, .aload_n 0), (65, .iconst 0), (66, .putfield 130), (69, .aload_n 0), (70, .iload_n 1), (71, .putfield 110), (74, .return_), (75, .iconst 0), (76, .istore_n 3), (77, .iload_n 2), (78, .invokestatic 133), (81, .ifCond .eq (92)), (84, .aload_n 0), (85, .iload_n 1), (86, .iload_n 3), (87, .iadd), (88, .invokevirtual 113), (91, .invokestatic 133), (94, .ifCond .eq (59))], [(97, .iload_n 3), (98, .bipush 8), (100, .if_icmp .ge (26)), (103, .aload_n 0), (104, .aload_n 0), (105, .getfield 120), (108, .bipush 8), (110, .lshl), (111, .aload_n 0), (112, .iload_n 1), (113, .iload_n 3), (114, .iadd), (115, .invokevirtual 113), (118, .i2l), (119, .lor), (120, .putfield 120), (123, .goto 23), (126, .aload_n 0), (127, .aload_n 0)], [(128, .getfield 124), (131, .bipush 8), (133, .lshl), (134, .aload_n 0), (135, .iload_n 1), (136, .iload_n 3), (137, .iadd), (138, .invokevirtual 113), (141, .i2l), (142, .lor), (143, .putfield 124), (146, .iload_n 3), (147, .iconst 1), (148, .iadd), (149, .istore_n 3), (150, .goto (-66)), (153, .aload_n 0), (154, .iload_n 3), (155, .bipush 12), (157, .if_icmp .le (8))], [(160, .bipush 63), (162, .goto 5), (165, .bipush 119), (167, .putfield 130), (170, .goto 178), (173, .iload_n 2), (174, .invokestatic 137), (177, .ifCond .eq (81)), (180, .aload_n 0), (181, .iload_n 1), (182, .iload_n 3), (183, .iadd), (184, .invokevirtual 113), (187, .invokestatic 137), (190, .ifCond .eq (44))], [(193, .aload_n 0), (194, .iload_n 3), (195, .iconst 4), (196, .if_icmp .ge (24)), (199, .bipush 10), (201, .aload_n 0), (202, .getfield 127), (205, .imul), (206, .aload_n 0), (207, .iload_n 1), (208, .iload_n 3), (209, .iadd), (210, .invokevirtual 113), (213, .iadd), (214, .bipush 48), (216, .isub), (217, .goto 7), (220, .aload_n 0), (221, .getfield 127)], [(224, .putfield 127), (227, .iload_n 3), (228, .iconst 1), (229, .iadd), (230, .istore_n 3), (231, .goto (-51)), (234, .aload_n 0), (235, .iload_n 3), (236, .iconst 4), (237, .if_icmp .le (8)), (240, .bipush 63), (242, .goto 5), (245, .bipush 100), (247, .putfield 130), (250, .aload_n 0), (251, .iload_n 3), (252, .putfield 140), (255, .goto 93)], [(258, .iconst 1), (259, .istore_n 3), (260, .iload_n 2), (261, .bipush 44), (263, .if_icmp .eq (63)), (266, .iload_n 2), (267, .bipush 43), (269, .if_icmp .eq (57)), (272, .iload_n 2), (273, .bipush 45), (275, .if_icmp .eq (51)), (278, .iload_n 2), (279, .bipush 42), (281, .if_icmp .eq (45)), (284, .iload_n 2), (285, .bipush 61), (287, .if_icmp .eq (39))], [(290, .iload_n 2), (291, .bipush 60), (293, .if_icmp .eq (33)), (296, .iload_n 2), (297, .bipush 62), (299, .if_icmp .eq (27)), (302, .iload_n 2), (303, .bipush 40), (305, .if_icmp .eq (21)), (308, .iload_n 2), (309, .bipush 41), (311, .if_icmp .eq (15)), (314, .iload_n 2), (315, .bipush 58), (317, .if_icmp .eq (9))], [(320, .iload_n 2), (321, .bipush 59), (323, .if_icmp .ne (7)), (326, .iconst 1), (327, .goto 4), (330, .iconst 0), (331, .istore 4), (333, .aload_n 0), (334, .iload 4), (336, .ifCond .eq (7)), (339, .iload_n 2), (340, .goto 5), (343, .bipush 63), (345, .putfield 130), (348, .aload_n 0), (349, .iload_n 1), (350, .iload_n 3), (351, .iadd)], [(352, .putfield 110), (355, .return_)]]
def kF125 : List (Nat × Nat × Nat × Nat) := [(107, 11, 3, 0), (110, 11, 6, 0), (117, 11, 5, 0), (120, 11, 8, 1), (124, 11, 9, 1), (127, 11, 7, 0), (130, 11, 4, 0), (140, 11, 10, 0)]
def kM125 : List (Nat × MF) := [(113, 126, 1, 1, 2, 11, 1), (133, 127, 0, 1, 1, 11, 2), (137, 128, 0, 1, 1, 11, 2)]
def kK125 : List (Nat × AV) := []
set_option maxRecDepth 100000 in
theorem ok125 : okX 125 kc125 kF125 kM125 kK125 = true := by decide +kernel
def kc126 : List (List (Nat × Instr)) := [[(0, .iload_n 1), (1, .aload_n 0), (2, .getfield 107), (5, .if_icmp .ge (16)), (8, .aload_n 0), (9, .getfield 13), (12, .iload_n 1), (13, .baload), (14, .sipush 255), (17, .iand), (18, .goto 4), (21, .iconst 0), (22, .ireturn)]]
def kF126 : List (Nat × Nat × Nat × Nat) := [(13, 11, 2, 27), (107, 11, 3, 0)]
def kM126 : List (Nat × MF) := []
def kK126 : List (Nat × AV) := []
set_option maxRecDepth 100000 in
theorem ok126 : okX 126 kc126 kF126 kM126 kK126 = true := by decide +kernel
def kc127 : List (List (Nat × Instr)) := [[(0, .iload_n 0), (1, .bipush 97), (3, .if_icmp .lt (13)), (6, .iload_n 0), (7, .bipush 122), (9, .if_icmp .gt (7)), (12, .iconst 1), (13, .goto 4), (16, .iconst 0), (17, .ireturn)]]
def kF127 : List (Nat × Nat × Nat × Nat) := []
def kM127 : List (Nat × MF) := []
def kK127 : List (Nat × AV) := []
set_option maxRecDepth 100000 in
theorem ok127 : okX 127 kc127 kF127 kM127 kK127 = true := by decide +kernel
def kc128 : List (List (Nat × Instr)) := [[(0, .iload_n 0), (1, .bipush 48), (3, .if_icmp .lt (13)), (6, .iload_n 0), (7, .bipush 57), (9, .if_icmp .gt (7)), (12, .iconst 1), (13, .goto 4), (16, .iconst 0), (17, .ireturn)]]
def kF128 : List (Nat × Nat × Nat × Nat) := []
def kM128 : List (Nat × MF) := []
def kK128 : List (Nat × AV) := []
set_option maxRecDepth 100000 in
theorem ok128 : okX 128 kc128 kF128 kM128 kK128 = true := by decide +kernel
def kc129 : List (List (Nat × Instr)) := [[(0, .aload_n 0), (1, .getfield 297), (4, .istore_n 1), (5, .aload_n 0), (6, .getfield 16), (9, .iload_n 1), (10, .iconst 0), (11, .iastore), (12, .aload_n 0), (13, .getfield 23), (16, .iload_n 1), (17, .iconst (-1)), (18, .iastore), (19, .aload_n 0), (20, .getfield 20), (23, .iload_n 1), (24, .aload_n 0), (25, .invokevirtual 307), (28, .iastore), (29, .aload_n 0), (30, .getfield 20)], [(33, .iload_n 1), (34, .iaload), (35, .iconst (-1)), (36, .if_icmp .eq (5)), (39, .iconst 1), (40, .ireturn), (41, .aload_n 0), (42, .ldc2_w 310), (45, .invokevirtual 312), (48, .istore_n 2), (49, .iload_n 2), (50, .ifCond .eq (7)), (53, .iconst 1), (54, .goto 5), (57, .bipush 6), (59, .istore_n 3), (60, .iload_n 3), (61, .iload_n 2), (62, .ifCond .eq (7))], [(65, .iconst 5), (66, .goto 5), (69, .bipush 10), (71, .if_icmp .gt (37)), (74, .aload_n 0), (75, .getfield 16), (78, .iload_n 1), (79, .iaload), (80, .ifCond .ne (28)), (83, .aload_n 0), (84, .getfield 16), (87, .iload_n 1), (88, .aload_n 0), (89, .iload_n 3), (90, .invokevirtual 315), (93, .ifCond .eq (7))], [(96, .iload_n 3), (97, .goto 4), (100, .iconst 0), (101, .iastore), (102, .iinc 3 1), (105, .goto (-45)), (108, .aload_n 0), (109, .getfield 16), (112, .iload_n 1), (113, .iaload), (114, .ifCond .ne (5)), (117, .iconst 0), (118, .ireturn), (119, .aload_n 0), (120, .invokevirtual 304), (123, .aload_n 0), (124, .getfield 20), (127, .iload_n 1)], [(128, .aload_n 0), (129, .invokevirtual 307), (132, .iastore), (133, .aload_n 0), (134, .getfield 20), (137, .iload_n 1), (138, .iaload), (139, .iconst (-1)), (140, .if_icmp .eq (13)), (143, .aload_n 0), (144, .ldc2_w 318), (147, .invokevirtual 312), (150, .ifCond .ne (5)), (153, .iconst 0), (154, .ireturn), (155, .aload_n 0), (156, .invokevirtual 300), (159, .istore_n 3)], [(160, .iload_n 3), (161, .iconst (-1)), (162, .if_icmp .eq (13)), (165, .iload_n 3), (166, .aload_n 0), (167, .getfield 20), (170, .iload_n 1), (171, .iaload), (172, .if_icmp .ne (5)), (175, .iconst 0), (176, .ireturn), (177, .aload_n 0), (178, .getfield 23), (181, .iload_n 1), (182, .iload_n 3), (183, .iastore), (184, .aload_n 0), (185, .invokevirtual 304), (188, .iconst 1), (189, .ireturn)]]
def kF129 : List (Nat × Nat × Nat × Nat) := [(16, 11, 12, 26), (20, 11, 13, 26), (23, 11, 14, 26), (297, 11, 11, 0)]
def kM129 : List (Nat × MF) := [(300, 131, 1, 0, 2, 11, 1), (304, 125, 1, 0, 5, 11, 0), (307, 130, 1, 0, 2, 11, 1), (312, 134, 1, 1, 3, 11, 2), (315, 135, 1, 1, 2, 11, 2)]
def kK129 : List (Nat × AV) := [(310, .inr (.inl 7366002)), (318, .inr (.inl 6385252))]
set_option maxRecDepth 100000 in
theorem ok129 : okX 129 kc129 kF129 kM129 kK129 = true := by decide +kernel
def kc130 : List (List (Nat × Instr)) := [[(0, .aload_n 0), (1, .invokevirtual 300), (4, .istore_n 1), (5, .iload_n 1), (6, .iconst (-1)), (7, .if_icmp .eq (7)), (10, .aload_n 0), (11, .invokevirtual 304), (14, .iload_n 1), (15, .ireturn)]]
def kF130 : List (Nat × Nat × Nat × Nat) := []
def kM130 : List (Nat × MF) := [(300, 131, 1, 0, 2, 11, 1), (304, 125, 1, 0, 5, 11, 0)]
def kK130 : List (Nat × AV) := []
set_option maxRecDepth 100000 in
theorem ok130 : okX 130 kc130 kF130 kM130 kK130 = true := by decide +kernel
def kc131 : List (List (Nat × Instr)) := [[(0, .iconst 0), (1, .istore_n 1), (2, .iload_n 1), (3, .bipush 9), (5, .if_icmp .ge (22)), (8, .aload_n 0), (9, .iload_n 1), (10, .invokestatic 226), (13, .invokevirtual 230), (16, .ifCond .eq (5)), (19, .iload_n 1), (20, .ireturn), (21, .iinc 1 1), (24, .goto (-22)), (27, .iconst (-1)), (28, .ireturn)]]
def kF131 : List (Nat × Nat × Nat × Nat) := []
def kM131 : List (Nat × MF) := [(226, 132, 0, 1, 1, 11, 3), (230, 133, 1, 1, 3, 11, 2)]
def kK131 : List (Nat × AV) := []
set_option maxRecDepth 100000 in
theorem ok131 : okX 131 kc131 kF131 kM131 kK131 = true := by decide +kernel
def kc132 : List (List (Nat × Instr)) := [[(0, .iload_n 0), (1, .tableswitch (79) (0) (7) #[47, 51, 55, 59, 63, 67, 71, 75])], [(48, .ldc2_w 143), (51, .lreturn), (52, .ldc2_w 145), (55, .lreturn), (56, .ldc2_w 147), (59, .lreturn), (60, .ldc2_w 149), (63, .lreturn)], [(64, .ldc2_w 151), (67, .lreturn), (68, .ldc2_w 153), (71, .lreturn), (72, .ldc2_w 155), (75, .lreturn), (76, .ldc2_w 157), (79, .lreturn), (80, .ldc2_w 159), (83, .lreturn)]]
def kF132 : List (Nat × Nat × Nat × Nat) := []
def kM132 : List (Nat × MF) := []
def kK132 : List (Nat × AV) := [(143, .inr (.inl 28530)), (145, .inr (.inl 107143988866676)), (147, .inr (.inl 444351669619)), (149, .inr (.inl 418666345061)), (151, .inr (.inl 495555079269)), (153, .inr (.inl 1986359924)), (155, .inr (.inl 31654331765060197)), (157, .inr (.inl 111542136303205)), (159, .inr (.inl 1986095474))]
set_option maxRecDepth 100000 in
theorem ok132 : okX 132 kc132 kF132 kM132 kK132 = true := by decide +kernel
def kc133 : List (List (Nat × Instr)) := [[(0, .aload_n 0), (1, .getfield 130), (4, .bipush 119), (6, .if_icmp .ne (25)), (9, .aload_n 0), (10, .getfield 124), (13, .lconst 0), (14, .lcmp), (15, .ifCond .ne (16)), (18, .aload_n 0), (19, .getfield 120), (22, .lload_n 1), (23, .lcmp), (24, .ifCond .ne (7)), (27, .iconst 1), (28, .goto 4), (31, .iconst 0)], [(32, .ireturn)]]
def kF133 : List (Nat × Nat × Nat × Nat) := [(120, 11, 8, 1), (124, 11, 9, 1), (130, 11, 4, 0)]
def kM133 : List (Nat × MF) := []
def kK133 : List (Nat × AV) := []
set_option maxRecDepth 100000 in
theorem ok133 : okX 133 kc133 kF133 kM133 kK133 = true := by decide +kernel
def kc134 : List (List (Nat × Instr)) := [[(0, .aload_n 0), (1, .lload_n 1), (2, .invokevirtual 230), (5, .ifCond .ne (5)), (8, .iconst 0), (9, .ireturn), (10, .aload_n 0), (11, .invokevirtual 304), (14, .iconst 1), (15, .ireturn)]]
def kF134 : List (Nat × Nat × Nat × Nat) := []
def kM134 : List (Nat × MF) := [(230, 133, 1, 1, 3, 11, 2), (304, 125, 1, 0, 5, 11, 0)]
def kK134 : List (Nat × AV) := []
set_option maxRecDepth 100000 in
theorem ok134 : okX 134 kc134 kF134 kM134 kK134 = true := by decide +kernel
def kc135 : List (List (Nat × Instr)) := [[(0, .iload_n 1), (1, .bipush 6), (3, .if_icmp .ne (44)), (6, .aload_n 0), (7, .getfield 130), (10, .bipush 119), (12, .if_icmp .ne (31)), (15, .aload_n 0), (16, .getfield 120), (19, .bipush 6), (21, .invokestatic 288), (24, .lcmp), (25, .ifCond .ne (18)), (28, .aload_n 0), (29, .getfield 124)], [(32, .ldc2_w 291), (35, .lcmp), (36, .ifCond .ne (7)), (39, .iconst 1), (40, .goto 15), (43, .iconst 0), (44, .goto 11), (47, .aload_n 0), (48, .iload_n 1), (49, .invokestatic 288), (52, .invokevirtual 230), (55, .ireturn)]]
def kF135 : List (Nat × Nat × Nat × Nat) := [(120, 11, 8, 1), (124, 11, 9, 1), (130, 11, 4, 0)]
def kM135 : List (Nat × MF) := [(230, 133, 1, 1, 3, 11, 2), (288, 136, 0, 1, 1, 11, 3)]
def kK135 : List (Nat × AV) := [(291, .inr (.inl 121))]
set_option maxRecDepth 100000 in
theorem ok135 : okX 135 kc135 kF135 kM135 kK135 = true := by decide +kernel
def kc136 : List (List (Nat × Instr)) := [[(0, .iload_n 0), (1, .tableswitch (87) (1) (9) #[51, 55, 59, 63, 67, 71, 75, 79, 83])], [(52, .ldc2_w 177), (55, .lreturn), (56, .ldc2_w 179), (59, .lreturn), (60, .ldc2_w 181), (63, .lreturn)], [(64, .ldc2_w 183), (67, .lreturn), (68, .ldc2_w 187), (71, .lreturn), (72, .ldc2_w 278), (75, .lreturn), (76, .ldc2_w 280), (79, .lreturn), (80, .ldc2_w 282), (83, .lreturn), (84, .ldc2_w 284), (87, .lreturn), (88, .ldc2_w 286), (91, .lreturn)]]
def kF136 : List (Nat × Nat × Nat × Nat) := []
def kM136 : List (Nat × MF) := []
def kK136 : List (Nat × AV) := [(177, .inr (.inl 1885432933)), (179, .inr (.inl 1717924723)), (181, .inr (.inl 1650814564)), (183, .inr (.inl 27980807682551662)), (187, .inr (.inl 32476740759155301)), (278, .inr (.inl 8175547842767975020)), (280, .inr (.inl 1885432953)), (282, .inr (.inl 422541685369)), (284, .inr (.inl 422608528505)), (286, .inr (.inl 109300029683065))]
set_option maxRecDepth 100000 in
theorem ok136 : okX 136 kc136 kF136 kM136 kK136 = true := by decide +kernel
def kc137 : List (List (Nat × Instr)) := [[(0, .aload_n 0), (1, .ldc2_w 353), (4, .invokevirtual 230), (7, .ifCond .eq (58)), (10, .iload_n 1), (11, .iconst 5), (12, .if_icmp .ge (53)), (15, .aload_n 0), (16, .invokevirtual 304), (19, .aload_n 0), (20, .ldc2_w 241), (23, .invokevirtual 312), (26, .ifCond .eq (13)), (29, .aload_n 0), (30, .ldc2_w 191)], [(33, .invokevirtual 312), (36, .ifCond .ne (5)), (39, .iconst (-1)), (40, .ireturn), (41, .aload_n 0), (42, .invokevirtual 307), (45, .istore_n 2), (46, .aload_n 0), (47, .iconst 5), (48, .bipush 15), (50, .iload_n 2), (51, .invokevirtual 355), (54, .iload_n 2), (55, .iconst (-1)), (56, .if_icmp .ne (7)), (59, .iconst (-1)), (60, .goto 4), (63, .iconst 5)], [(64, .ireturn), (65, .aload_n 0), (66, .ldc2_w 359), (69, .invokevirtual 230), (72, .ifCond .eq (14)), (75, .iload_n 1), (76, .bipush 6), (78, .if_icmp .ge (8)), (81, .aload_n 0), (82, .invokevirtual 361), (85, .ireturn), (86, .aload_n 0), (87, .invokevirtual 343), (90, .istore_n 2), (91, .iload_n 2), (92, .ifCond .eq (18)), (95, .iload_n 1)], [(96, .iconst 4), (97, .if_icmp .ge (13)), (100, .iload_n 1), (101, .iconst 3), (102, .if_icmp .lt (10)), (105, .iload_n 2), (106, .iconst 1), (107, .if_icmp .le (5)), (110, .iconst (-1)), (111, .ireturn), (112, .aload_n 0), (113, .invokevirtual 304), (116, .iload_n 2), (117, .iconst 1), (118, .if_icmp .ne (10)), (121, .aload_n 0), (122, .invokevirtual 364), (125, .goto 4)], [(128, .iconst (-1)), (129, .istore_n 3), (130, .iload_n 2), (131, .iconst 1), (132, .if_icmp .ne (58)), (135, .iload_n 3), (136, .bipush 8), (138, .if_icmp .lt (52)), (141, .iload_n 3), (142, .bipush 14), (144, .if_icmp .gt (46)), (147, .iload_n 1), (148, .iconst 1), (149, .if_icmp .ge (41)), (152, .aload_n 0), (153, .invokevirtual 304), (156, .aload_n 0), (157, .invokevirtual 307)], [(160, .istore 4), (162, .aload_n 0), (163, .iconst 0), (164, .iload_n 3), (165, .iload 4), (167, .invokevirtual 355), (170, .iload 4), (172, .iconst (-1)), (173, .if_icmp .eq (15)), (176, .aload_n 0), (177, .iconst 1), (178, .invokevirtual 367), (181, .ifCond .eq (7)), (184, .iconst 1), (185, .goto 4), (188, .iconst (-1)), (189, .ireturn), (190, .iload_n 2), (191, .iconst 1)], [(192, .if_icmp .ne (48)), (195, .iload_n 3), (196, .bipush 7), (198, .if_icmp .ne (42)), (201, .aload_n 0), (202, .invokevirtual 304), (205, .aload_n 0), (206, .invokevirtual 307), (209, .istore 4), (211, .aload_n 0), (212, .iconst 3), (213, .bipush 7), (215, .iload 4), (217, .invokevirtual 355), (220, .iload 4), (222, .iconst (-1)), (223, .if_icmp .eq (15))], [(226, .aload_n 0), (227, .iconst 4), (228, .invokevirtual 367), (231, .ifCond .eq (7)), (234, .iconst 4), (235, .goto 4), (238, .iconst (-1)), (239, .ireturn), (240, .aload_n 0), (241, .iload_n 2), (242, .invokevirtual 346), (245, .istore 4), (247, .iload 4), (249, .iconst (-1)), (250, .if_icmp .eq (23)), (253, .iload_n 1), (254, .iconst 3), (255, .if_icmp .ge (18))], [(258, .aload_n 0), (259, .iconst 2), (260, .iload_n 2), (261, .iload 4), (263, .invokevirtual 349), (266, .ifCond .eq (7)), (269, .iconst 3), (270, .goto 4), (273, .iconst (-1)), (274, .ireturn)]]
def kF137 : List (Nat × Nat × Nat × Nat) := []
def kM137 : List (Nat × MF) := [(230, 133, 1, 1, 3, 11, 2), (304, 125, 1, 0, 5, 11, 0), (307, 130, 1, 0, 2, 11, 1), (312, 134, 1, 1, 3, 11, 2), (343, 142, 1, 0, 2, 11, 1), (346, 146, 1, 1, 3, 11, 1), (349, 148, 1, 3, 8, 11, 2), (355, 138, 1, 3, 5, 11, 0), (361, 139, 1, 0, 3, 11, 1), (364, 144, 1, 0, 2, 11, 1), (367, 145, 1, 1, 4, 11, 2)]
def kK137 : List (Nat × AV) := [(191, .inr (.inl 27707084820017765)), (241, .inr (.inl 97)), (353, .inr (.inl 131294808271214)), (359, .inr (.inl 6713202))]
set_option maxRecDepth 100000 in
theorem ok137 : okX 137 kc137 kF137 kM137 kK137 = true := by decide +kernel
def kc138 : List (List (Nat × Instr)) := [[(0, .aload_n 0), (1, .getfield 297), (4, .iload_n 1), (5, .invokestatic 293), (8, .istore 4), (10, .aload_n 0), (11, .getfield 26), (14, .iload 4), (16, .iload_n 2), (17, .iastore), (18, .aload_n 0), (19, .getfield 26), (22, .iload 4), (24, .iconst 1), (25, .iadd), (26, .iload_n 3), (27, .iastore), (28, .aload_n 0), (29, .getfield 26)], [(32, .iload 4), (34, .iconst 2), (35, .iadd), (36, .iconst 1), (37, .iastore), (38, .return_)]]
def kF138 : List (Nat × Nat × Nat × Nat) := [(26, 11, 15, 26), (297, 11, 11, 0)]
def kM138 : List (Nat × MF) := [(293, 124, 0, 2, 2, 11, 1)]
def kK138 : List (Nat × AV) := []
set_option maxRecDepth 100000 in
theorem ok138 : okX 138 kc138 kF138 kM138 kK138 = true := by decide +kernel
def kc139 : List (List (Nat × Instr)) := [[(0, .aload_n 0), (1, .invokevirtual 304), (4, .aload_n 0), (5, .getfield 130), (8, .bipush 119), (10, .if_icmp .ne (25)), (13, .aload_n 0), (14, .getfield 120), (17, .ldc2_w 370), (20, .lcmp), (21, .ifCond .ne (14)), (24, .aload_n 0), (25, .getfield 124), (28, .ldc2_w 372), (31, .lcmp)], [(32, .ifCond .eq (5)), (35, .iconst (-1)), (36, .ireturn), (37, .aload_n 0), (38, .invokevirtual 304), (41, .aload_n 0), (42, .ldc2_w 241), (45, .invokevirtual 312), (48, .ifCond .ne (5)), (51, .iconst (-1)), (52, .ireturn), (53, .iconst (-1)), (54, .istore_n 1), (55, .iconst 0), (56, .istore_n 2), (57, .iload_n 2), (58, .bipush 7), (60, .if_icmp .ge (28)), (63, .aload_n 0)], [(64, .iload_n 2), (65, .invokestatic 374), (68, .invokestatic 234), (71, .invokevirtual 230), (74, .ifCond .eq (8)), (77, .iload_n 2), (78, .invokestatic 374), (81, .istore_n 1), (82, .iinc 2 1), (85, .goto (-28)), (88, .iload_n 1), (89, .iconst (-1)), (90, .if_icmp .ne (5)), (93, .iconst (-1)), (94, .ireturn), (95, .aload_n 0)], [(96, .invokevirtual 304), (99, .aload_n 0), (100, .invokevirtual 307), (103, .istore_n 2), (104, .aload_n 0), (105, .bipush 6), (107, .iload_n 1), (108, .iload_n 2), (109, .invokevirtual 355), (112, .iload_n 2), (113, .iconst (-1)), (114, .if_icmp .ne (7)), (117, .iconst (-1)), (118, .goto 5), (121, .bipush 6), (123, .ireturn)]]
def kF139 : List (Nat × Nat × Nat × Nat) := [(120, 11, 8, 1), (124, 11, 9, 1), (130, 11, 4, 0)]
def kM139 : List (Nat × MF) := [(230, 133, 1, 1, 3, 11, 2), (234, 141, 0, 1, 1, 11, 3), (304, 125, 1, 0, 5, 11, 0), (307, 130, 1, 0, 2, 11, 1), (312, 134, 1, 1, 3, 11, 2), (355, 138, 1, 3, 5, 11, 0), (374, 140, 0, 1, 1, 11, 1)]
def kK139 : List (Nat × AV) := [(241, .inr (.inl 97)), (370, .inr (.inl 7235426866322105710)), (372, .inr (.inl 25445))]
set_option maxRecDepth 100000 in
theorem ok139 : okX 139 kc139 kF139 kM139 kK139 = true := by decide +kernel
def kc140 : List (List (Nat × Instr)) := [[(0, .iload_n 0), (1, .tableswitch (57) (0) (5) #[39, 42, 45, 48, 51, 54])], [(40, .bipush 30), (42, .ireturn), (43, .bipush 25), (45, .ireturn), (46, .bipush 24), (48, .ireturn), (49, .bipush 20), (51, .ireturn), (52, .bipush 26), (54, .ireturn), (55, .bipush 22), (57, .ireturn), (58, .bipush 21), (60, .ireturn)]]
def kF140 : List (Nat × Nat × Nat × Nat) := []
def kM140 : List (Nat × MF) := []
def kK140 : List (Nat × AV) := []
set_option maxRecDepth 100000 in
theorem ok140 : okX 140 kc140 kF140 kM140 kK140 = true := by decide +kernel
def kc141 : List (List (Nat × Instr)) := [[(0, .iload_n 0), (1, .tableswitch (255) (0) (29) #[135, 139, 143, 147, 151, 155, 159, 163, 167, 171, 175, 179, 183, 187, 191, 195, 199, 203, 207, 211, 215, 219, 223, 227, 231, 235, 239, 243, 247, 251])], [], [], [], [(136, .ldc2_w 161), (139, .lreturn), (140, .ldc2_w 163), (143, .lreturn), (144, .ldc2_w 165), (147, .lreturn), (148, .ldc2_w 167), (151, .lreturn), (152, .ldc2_w 169), (155, .lreturn), (156, .ldc2_w 171), (159, .lreturn)], [(160, .ldc2_w 173), (163, .lreturn), (164, .ldc2_w 175), (167, .lreturn), (168, .ldc2_w 177), (171, .lreturn), (172, .ldc2_w 179), (175, .lreturn), (176, .ldc2_w 181), (179, .lreturn), (180, .ldc2_w 183), (183, .lreturn), (184, .ldc2_w 185), (187, .lreturn), (188, .ldc2_w 187), (191, .lreturn)], [(192, .ldc2_w 189), (195, .lreturn), (196, .ldc2_w 191), (199, .lreturn), (200, .ldc2_w 193), (203, .lreturn), (204, .ldc2_w 195), (207, .lreturn), (208, .ldc2_w 197), (211, .lreturn), (212, .ldc2_w 199), (215, .lreturn), (216, .ldc2_w 201), (219, .lreturn), (220, .ldc2_w 203), (223, .lreturn)], [(224, .ldc2_w 205), (227, .lreturn), (228, .ldc2_w 207), (231, .lreturn), (232, .ldc2_w 209), (235, .lreturn), (236, .ldc2_w 211), (239, .lreturn), (240, .ldc2_w 213), (243, .lreturn), (244, .ldc2_w 215), (247, .lreturn), (248, .ldc2_w 217), (251, .lreturn), (252, .ldc2_w 219), (255, .lreturn)], [(256, .ldc2_w 221), (259, .lreturn)]]
def kF141 : List (Nat × Nat × Nat × Nat) := []
def kM141 : List (Nat × MF) := []
def kK141 : List (Nat × AV) := [(161, .inr (.inl 1885434484)), (163, .inr (.inl 8030591489541239417)), (165, .inr (.inl 109299962636133)), (167, .inr (.inl 422607680372)), (169, .inr (.inl 1651077732)), (171, .inr (.inl 482854661748)), (173, .inr (.inl 499967946343)), (175, .inr (.inl 426953500006)), (177, .inr (.inl 1885432933)), (179, .inr (.inl 1717924723)), (181, .inr (.inl 1650814564)), (183, .inr (.inl 27980807682551662)), (185, .inr (.inl 427121668979)), (187, .inr (.inl 32476740759155301)), (189, .inr (.inl 1885957221)), (191, .inr (.inl 27707084820017765)), (193, .inr (.inl 1818849134)), (195, .inr (.inl 1651466610)), (197, .inr (.inl 1937006951)), (199, .inr (.inl 435425864805)), (201, .inr (.inl 30787916668888436)), (203, .inr (.inl 1919906661)), (205, .inr (.inl 1818848377)), (207, .inr (.inl 32776877134276972)), (209, .inr (.inl 120351097644404)), (211, .inr (.inl 7165901503363116660)), (213, .inr (.inl 27424493436429684)), (215, .inr (.inl 32210697498944876)), (217, .inr (.inl 108204930131316)), (219, .inr (.inl 500086302066)), (221, .inr (.inl 465490306412))]
set_option maxRecDepth 100000 in
theorem ok141 : okX 141 kc141 kF141 kM141 kK141 = true := by decide +kernel
def kc142 : List (List (Nat × Instr)) := [[(0, .iconst 1), (1, .istore_n 1), (2, .iload_n 1), (3, .bipush 6), (5, .if_icmp .gt (22)), (8, .aload_n 0), (9, .iload_n 1), (10, .invokestatic 333), (13, .invokevirtual 230), (16, .ifCond .eq (5)), (19, .iload_n 1), (20, .ireturn), (21, .iinc 1 1), (24, .goto (-22)), (27, .iconst 0), (28, .ireturn)]]
def kF142 : List (Nat × Nat × Nat × Nat) := []
def kM142 : List (Nat × MF) := [(230, 133, 1, 1, 3, 11, 2), (333, 143, 0, 1, 1, 11, 3)]
def kK142 : List (Nat × AV) := []
set_option maxRecDepth 100000 in
theorem ok142 : okX 142 kc142 kF142 kM142 kK142 = true := by decide +kernel
def kc143 : List (List (Nat × Instr)) := [[(0, .iload_n 0), (1, .tableswitch (55) (1) (5) #[35, 39, 43, 47, 51])], [(36, .ldc2_w 241), (39, .lreturn), (40, .ldc2_w 243), (43, .lreturn), (44, .ldc2_w 245), (47, .lreturn), (48, .ldc2_w 247), (51, .lreturn), (52, .ldc2_w 249), (55, .lreturn), (56, .ldc2_w 251), (59, .lreturn)]]
def kF143 : List (Nat × Nat × Nat × Nat) := []
def kM143 : List (Nat × MF) := []
def kK143 : List (Nat × AV) := [(241, .inr (.inl 97)), (243, .inr (.inl 7632751)), (245, .inr (.inl 499968533861)), (247, .inr (.inl 1718580594)), (249, .inr (.inl 1718187621)), (251, .inr (.inl 7563640))]
set_option maxRecDepth 100000 in
theorem ok143 : okX 143 kc143 kF143 kM143 kK143 = true := by decide +kernel
def kc144 : List (List (Nat × Instr)) := [[(0, .iconst 0), (1, .istore_n 1), (2, .iload_n 1), (3, .bipush 30), (5, .if_icmp .gt (22)), (8, .aload_n 0), (9, .iload_n 1), (10, .invokestatic 234), (13, .invokevirtual 230), (16, .ifCond .eq (5)), (19, .iload_n 1), (20, .ireturn), (21, .iinc 1 1), (24, .goto (-22)), (27, .iconst (-1)), (28, .ireturn)]]
def kF144 : List (Nat × Nat × Nat × Nat) := []
def kM144 : List (Nat × MF) := [(230, 133, 1, 1, 3, 11, 2), (234, 141, 0, 1, 1, 11, 3)]
def kK144 : List (Nat × AV) := []
set_option maxRecDepth 100000 in
theorem ok144 : okX 144 kc144 kF144 kM144 kK144 = true := by decide +kernel
def kc145 : List (List (Nat × Instr)) := [[(0, .aload_n 0), (1, .ldc2_w 339), (4, .invokevirtual 312), (7, .ifCond .ne (5)), (10, .iconst 1), (11, .ireturn), (12, .aload_n 0), (13, .ldc2_w 341), (16, .invokevirtual 312), (19, .ifCond .ne (5)), (22, .iconst 0), (23, .ireturn), (24, .aload_n 0), (25, .invokevirtual 343), (28, .istore_n 2), (29, .iload_n 2), (30, .ifCond .ne (5))], [(33, .iconst 0), (34, .ireturn), (35, .aload_n 0), (36, .invokevirtual 304), (39, .aload_n 0), (40, .iload_n 2), (41, .invokevirtual 346), (44, .istore_n 3), (45, .iload_n 3), (46, .iconst (-1)), (47, .if_icmp .eq (17)), (50, .aload_n 0), (51, .iload_n 1), (52, .iload_n 2), (53, .iload_n 3), (54, .invokevirtual 349), (57, .ifCond .eq (7)), (60, .iconst 1), (61, .goto 4)], [(64, .iconst 0), (65, .ireturn)]]
def kF145 : List (Nat × Nat × Nat × Nat) := []
def kM145 : List (Nat × MF) := [(304, 125, 1, 0, 5, 11, 0), (312, 134, 1, 1, 3, 11, 2), (343, 142, 1, 0, 2, 11, 1), (346, 146, 1, 1, 3, 11, 1), (349, 148, 1, 3, 8, 11, 2)]
def kK145 : List (Nat × AV) := [(339, .inr (.inl 27980790434850148)), (341, .inr (.inl 2003399784))]
set_option maxRecDepth 100000 in
theorem ok145 : okX 145 kc145 kF145 kM145 kK145 = true := by decide +kernel
def kc146 : List (List (Nat × Instr)) := [[(0, .bipush 16), (2, .istore_n 2), (3, .iload_n 2), (4, .bipush 30), (6, .if_icmp .ge (38)), (9, .iload_n 1), (10, .iconst 1), (11, .if_icmp .ne (17)), (14, .aload_n 0), (15, .iload_n 2), (16, .invokestatic 234), (19, .invokevirtual 230), (22, .ifCond .eq (16)), (25, .goto 11), (28, .aload_n 0), (29, .iload_n 2), (30, .invokevirtual 336)], [(33, .ifCond .eq (5)), (36, .iload_n 2), (37, .ireturn), (38, .iinc 2 1), (41, .goto (-38)), (44, .iconst (-1)), (45, .ireturn)]]
def kF146 : List (Nat × Nat × Nat × Nat) := []
def kM146 : List (Nat × MF) := [(230, 133, 1, 1, 3, 11, 2), (234, 141, 0, 1, 1, 11, 3), (336, 147, 1, 1, 4, 11, 2)]
def kK146 : List (Nat × AV) := []
set_option maxRecDepth 100000 in
theorem ok146 : okX 146 kc146 kF146 kM146 kK146 = true := by decide +kernel
def kc147 : List (List (Nat × Instr)) := [[(0, .aload_n 0), (1, .getfield 130), (4, .bipush 119), (6, .if_icmp .eq (5)), (9, .iconst 0), (10, .ireturn), (11, .iload_n 1), (12, .bipush 22), (14, .if_icmp .ne (11)), (17, .aload_n 0), (18, .ldc2_w 237), (21, .invokevirtual 230), (24, .ireturn), (25, .iload_n 1), (26, .invokestatic 234), (29, .lstore_n 2), (30, .lload_n 2), (31, .bipush 56)], [(33, .lshr), (34, .lconst 0), (35, .lcmp), (36, .ifCond .ne (16)), (39, .aload_n 0), (40, .lload_n 2), (41, .bipush 8), (43, .lshl), (44, .ldc2_w 239), (47, .lor), (48, .invokevirtual 230), (51, .ireturn), (52, .aload_n 0), (53, .getfield 120), (56, .lload_n 2), (57, .lcmp), (58, .ifCond .ne (18)), (61, .aload_n 0), (62, .getfield 124)], [(65, .ldc2_w 239), (68, .lcmp), (69, .ifCond .ne (7)), (72, .iconst 1), (73, .goto 4), (76, .iconst 0), (77, .ireturn)]]
def kF147 : List (Nat × Nat × Nat × Nat) := [(120, 11, 8, 1), (124, 11, 9, 1), (130, 11, 4, 0)]
def kM147 : List (Nat × MF) := [(230, 133, 1, 1, 3, 11, 2), (234, 141, 0, 1, 1, 11, 3)]
def kK147 : List (Nat × AV) := [(237, .inr (.inl 119200046212467)), (239, .inr (.inl 115))]
set_option maxRecDepth 100000 in
theorem ok147 : okX 147 kc147 kF147 kM147 kK147 = true := by decide +kernel
def kc148 : List (List (Nat × Instr)) := [[(0, .aload_n 0), (1, .invokevirtual 304), (4, .aload_n 0), (5, .getfield 297), (8, .iload_n 1), (9, .invokestatic 293), (12, .istore 4), (14, .aload_n 0), (15, .getfield 26), (18, .iload 4), (20, .iload_n 3), (21, .iastore), (22, .aload_n 0), (23, .getfield 26), (26, .iload 4), (28, .iconst 2), (29, .iadd), (30, .iload_n 2), (31, .iastore)], [(32, .iload_n 3), (33, .iconst 3), (34, .invokestatic 320), (37, .ifCond .eq (7)), (40, .iconst 1), (41, .goto 14), (44, .iload_n 3), (45, .bipush 19), (47, .if_icmp .ne (7)), (50, .iconst 4), (51, .goto 4), (54, .iconst 0), (55, .istore 5), (57, .iload_n 3), (58, .iconst 3), (59, .invokestatic 320), (62, .ifCond .eq (7))], [(65, .iconst 3), (66, .goto 14), (69, .iload_n 3), (70, .bipush 19), (72, .if_icmp .ne (7)), (75, .iconst 5), (76, .goto 4), (79, .iconst (-1)), (80, .istore 6), (82, .iload 5), (84, .ifCond .le (58)), (87, .iload 5), (89, .istore 7), (91, .iload 7), (93, .iload 6), (95, .if_icmp .gt (29))], [(98, .aload_n 0), (99, .iload 7), (101, .invokevirtual 324), (104, .ifCond .eq (14)), (107, .aload_n 0), (108, .getfield 26), (111, .iload 4), (113, .iconst 3), (114, .iadd), (115, .iload 7), (117, .iastore), (118, .iinc 7 1), (121, .goto (-30)), (124, .aload_n 0), (125, .getfield 26)], [(128, .iload 4), (130, .iconst 3), (131, .iadd), (132, .iaload), (133, .ifCond .ne (5)), (136, .iconst 0), (137, .ireturn), (138, .aload_n 0), (139, .invokevirtual 304), (142, .aload_n 0), (143, .getfield 26), (146, .iload 4), (148, .iconst 1), (149, .iadd), (150, .aload_n 0), (151, .invokevirtual 307), (154, .iastore), (155, .aload_n 0), (156, .getfield 26), (159, .iload 4)], [(161, .iconst 1), (162, .iadd), (163, .iaload), (164, .iconst (-1)), (165, .if_icmp .ne (5)), (168, .iconst 0), (169, .ireturn), (170, .iconst 0), (171, .istore 7), (173, .iload 7), (175, .iconst 5), (176, .if_icmp .ge (67)), (179, .iload_n 3), (180, .iload 7), (182, .invokestatic 327), (185, .ifCond .eq (52)), (188, .aload_n 0), (189, .iload 7), (191, .invokestatic 330)], [(194, .invokevirtual 312), (197, .ifCond .ne (6)), (200, .goto 37), (203, .aload_n 0), (204, .getfield 26), (207, .iload 4), (209, .iconst 4), (210, .iadd), (211, .iload 7), (213, .iadd), (214, .aload_n 0), (215, .invokevirtual 307), (218, .iastore), (219, .aload_n 0), (220, .getfield 26), (223, .iload 4)], [(225, .iconst 4), (226, .iadd), (227, .iload 7), (229, .iadd), (230, .iaload), (231, .iconst (-1)), (232, .if_icmp .ne (5)), (235, .iconst 0), (236, .ireturn), (237, .iinc 7 1), (240, .goto (-67)), (243, .iconst 1), (244, .ireturn)]]
def kF148 : List (Nat × Nat × Nat × Nat) := [(26, 11, 15, 26), (297, 11, 11, 0)]
def kM148 : List (Nat × MF) := [(293, 124, 0, 2, 2, 11, 1), (304, 125, 1, 0, 5, 11, 0), (307, 130, 1, 0, 2, 11, 1), (312, 134, 1, 1, 3, 11, 2), (320, 149, 0, 2, 3, 11, 2), (324, 151, 1, 1, 2, 11, 2), (327, 153, 0, 2, 2, 11, 2), (330, 154, 0, 1, 1, 11, 3)]
def kK148 : List (Nat × AV) := []
set_option maxRecDepth 100000 in
theorem ok148 : okX 148 kc148 kF148 kM148 kK148 = true := by decide +kernel
def kc149 : List (List (Nat × Instr)) := [[(0, .iload_n 0), (1, .istore_n 2), (2, .iload_n 2), (3, .iconst (-1)), (4, .if_icmp .eq (16)), (7, .iload_n 2), (8, .iload_n 1), (9, .if_icmp .eq (11)), (12, .iload_n 2), (13, .invokestatic 223), (16, .istore_n 2), (17, .goto (-15)), (20, .iload_n 2), (21, .iload_n 1), (22, .if_icmp .ne (7)), (25, .iconst 1), (26, .goto 4), (29, .iconst 0), (30, .ireturn)]]
def kF149 : List (Nat × Nat × Nat × Nat) := []
def kM149 : List (Nat × MF) := [(223, 150, 0, 1, 1, 11, 1)]
def kK149 : List (Nat × AV) := []
set_option maxRecDepth 100000 in
theorem ok149 : okX 149 kc149 kF149 kM149 kK149 = true := by decide +kernel
def kc150 : List (List (Nat × Instr)) := [[(0, .iload_n 0), (1, .ifCond .ne (5)), (4, .iconst (-1)), (5, .ireturn), (6, .iload_n 0), (7, .iconst 3), (8, .if_icmp .ge (5)), (11, .iconst 0), (12, .ireturn), (13, .iload_n 0), (14, .bipush 7), (16, .if_icmp .ge (5)), (19, .iconst 2), (20, .ireturn), (21, .iload_n 0), (22, .bipush 16), (24, .if_icmp .ge (5)), (27, .iconst 1), (28, .ireturn), (29, .iload_n 0), (30, .bipush 19)], [(32, .if_icmp .ge (5)), (35, .iconst 3), (36, .ireturn), (37, .iload_n 0), (38, .bipush 21), (40, .if_icmp .ge (5)), (43, .iconst 4), (44, .ireturn), (45, .iload_n 0), (46, .bipush 24), (48, .if_icmp .ge (7)), (51, .iconst 5), (52, .goto 5), (55, .bipush 6), (57, .ireturn)]]
def kF150 : List (Nat × Nat × Nat × Nat) := []
def kM150 : List (Nat × MF) := []
def kK150 : List (Nat × AV) := []
set_option maxRecDepth 100000 in
theorem ok150 : okX 150 kc150 kF150 kM150 kK150 = true := by decide +kernel
def kc151 : List (List (Nat × Instr)) := [[(0, .iload_n 1), (1, .iconst 4), (2, .if_icmp .ne (43)), (5, .aload_n 0), (6, .getfield 130), (9, .bipush 119), (11, .if_icmp .ne (30)), (14, .aload_n 0), (15, .getfield 120), (18, .iconst 4), (19, .invokestatic 263), (22, .lcmp), (23, .ifCond .ne (18)), (26, .aload_n 0), (27, .getfield 124), (30, .ldc2_w 266)], [(33, .lcmp), (34, .ifCond .ne (7)), (37, .iconst 1), (38, .goto 15), (41, .iconst 0), (42, .goto 11), (45, .aload_n 0), (46, .iload_n 1), (47, .invokestatic 263), (50, .invokevirtual 230), (53, .ireturn)]]
def kF151 : List (Nat × Nat × Nat × Nat) := [(120, 11, 8, 1), (124, 11, 9, 1), (130, 11, 4, 0)]
def kM151 : List (Nat × MF) := [(230, 133, 1, 1, 3, 11, 2), (263, 152, 0, 1, 1, 11, 3)]
def kK151 : List (Nat × AV) := [(266, .inr (.inl 100))]
set_option maxRecDepth 100000 in
theorem ok151 : okX 151 kc151 kF151 kM151 kK151 = true := by decide +kernel
def kc152 : List (List (Nat × Instr)) := [[(0, .iload_n 0), (1, .tableswitch (47) (1) (4) #[31, 35, 39, 43])], [(32, .ldc2_w 253), (35, .lreturn), (36, .ldc2_w 255), (39, .lreturn), (40, .ldc2_w 257), (43, .lreturn), (44, .ldc2_w 259), (47, .lreturn), (48, .ldc2_w 261), (51, .lreturn)]]
def kF152 : List (Nat × Nat × Nat × Nat) := []
def kM152 : List (Nat × MF) := []
def kK152 : List (Nat × AV) := [(253, .inr (.inl 32195270009777780)), (255, .inr (.inl 31632345876491892)), (257, .inr (.inl 126879413661300)), (259, .inr (.inl 7235441203039271269)), (261, .inr (.inl 427021005669))]
set_option maxRecDepth 100000 in
theorem ok152 : okX 152 kc152 kF152 kM152 kK152 = true := by decide +kernel
def kc153 : List (List (Nat × Instr)) := [[(0, .iload_n 1), (1, .tableswitch (97) (0) (3) #[31, 55, 67, 85])], [(32, .iload_n 0), (33, .bipush 16), (35, .if_icmp .eq (15)), (38, .iload_n 0), (39, .bipush 17), (41, .if_icmp .eq (9)), (44, .iload_n 0), (45, .bipush 19), (47, .if_icmp .ne (7)), (50, .iconst 1), (51, .goto 4), (54, .iconst 0), (55, .ireturn), (56, .iload_n 0), (57, .bipush 18), (59, .if_icmp .ne (7)), (62, .iconst 1), (63, .goto 4)], [(66, .iconst 0), (67, .ireturn), (68, .iload_n 0), (69, .bipush 16), (71, .if_icmp .eq (9)), (74, .iload_n 0), (75, .bipush 19), (77, .if_icmp .ne (7)), (80, .iconst 1), (81, .goto 4), (84, .iconst 0), (85, .ireturn), (86, .iload_n 0), (87, .bipush 21), (89, .if_icmp .ne (7)), (92, .iconst 1), (93, .goto 4)], [(96, .iconst 0), (97, .ireturn), (98, .iload_n 0), (99, .bipush 29), (101, .if_icmp .ne (7)), (104, .iconst 1), (105, .goto 4), (108, .iconst 0), (109, .ireturn)]]
def kF153 : List (Nat × Nat × Nat × Nat) := []
def kM153 : List (Nat × MF) := []
def kK153 : List (Nat × AV) := []
set_option maxRecDepth 100000 in
theorem ok153 : okX 153 kc153 kF153 kM153 kK153 = true := by decide +kernel
def kc154 : List (List (Nat × Instr)) := [[(0, .iload_n 0), (1, .tableswitch (47) (0) (3) #[31, 35, 39, 43])], [(32, .ldc2_w 268), (35, .lreturn), (36, .ldc2_w 270), (39, .lreturn), (40, .ldc2_w 272), (43, .lreturn), (44, .ldc2_w 274), (47, .lreturn), (48, .ldc2_w 276), (51, .lreturn)]]
def kF154 : List (Nat × Nat × Nat × Nat) := []
def kM154 : List (Nat × MF) := []
def kK154 : List (Nat × AV) := [(268, .inr (.inl 418531599716)), (270, .inr (.inl 27431116075066724)), (272, .inr (.inl 27991845765014884)), (274, .inr (.inl 126879329969508)), (276, .inr (.inl 30787920880100708))]
set_option maxRecDepth 100000 in
theorem ok154 : okX 154 kc154 kF154 kM154 kK154 = true := by decide +kernel
def kc155 : List (List (Nat × Instr)) := [[(0, .aload_n 0), (1, .iload_n 1), (2, .iload_n 2), (3, .invokevirtual 387), (6, .ifCond .eq (16)), (9, .aload_n 0), (10, .iload_n 1), (11, .iload_n 2), (12, .invokevirtual 390), (15, .ifCond .ne (7)), (18, .iconst 1), (19, .goto 4), (22, .iconst 0), (23, .ireturn)]]
def kF155 : List (Nat × Nat × Nat × Nat) := []
def kM155 : List (Nat × MF) := [(387, 156, 1, 2, 3, 11, 2), (390, 157, 1, 2, 7, 11, 1)]
def kK155 : List (Nat × AV) := []
set_option maxRecDepth 100000 in
theorem ok155 : okX 155 kc155 kF155 kM155 kK155 = true := by decide +kernel
def kc156 : List (List (Nat × Instr)) := [[(0, .aload_n 0), (1, .getfield 16), (4, .iload_n 1), (5, .iaload), (6, .aload_n 0), (7, .getfield 16), (10, .iload_n 2), (11, .iaload), (12, .if_icmp .ne (37)), (15, .aload_n 0), (16, .getfield 20), (19, .iload_n 1), (20, .iaload), (21, .aload_n 0), (22, .getfield 20), (25, .iload_n 2), (26, .iaload), (27, .if_icmp .ne (22)), (30, .aload_n 0), (31, .getfield 23)], [(34, .iload_n 1), (35, .iaload), (36, .aload_n 0), (37, .getfield 23), (40, .iload_n 2), (41, .iaload), (42, .if_icmp .ne (7)), (45, .iconst 1), (46, .goto 4), (49, .iconst 0), (50, .ireturn)]]
def kF156 : List (Nat × Nat × Nat × Nat) := [(16, 11, 12, 26), (20, 11, 13, 26), (23, 11, 14, 26)]
def kM156 : List (Nat × MF) := []
def kK156 : List (Nat × AV) := []
set_option maxRecDepth 100000 in
theorem ok156 : okX 156 kc156 kF156 kM156 kK156 = true := by decide +kernel
def kc157 : List (List (Nat × Instr)) := [[(0, .iconst 0), (1, .istore_n 3), (2, .iconst 0), (3, .istore 4), (5, .iload 4), (7, .bipush 7), (9, .if_icmp .ge (84)), (12, .iconst 1), (13, .istore 5), (15, .iconst 0), (16, .istore 6), (18, .iload 6), (20, .bipush 9), (22, .if_icmp .ge (52)), (25, .iload 5), (27, .ifCond .eq (38)), (30, .aload_n 0), (31, .getfield 26)], [(34, .iload_n 1), (35, .iload 4), (37, .invokestatic 293), (40, .iload 6), (42, .iadd), (43, .iaload), (44, .aload_n 0), (45, .getfield 26), (48, .iload_n 2), (49, .iload 4), (51, .invokestatic 293), (54, .iload 6), (56, .iadd), (57, .iaload), (58, .if_icmp .ne (7)), (61, .iconst 1), (62, .goto 4)], [(65, .iconst 0), (66, .istore 5), (68, .iinc 6 1), (71, .goto (-53)), (74, .iload_n 3), (75, .iload 5), (77, .ifCond .eq (7)), (80, .iconst 0), (81, .goto 4), (84, .iconst 1), (85, .iadd), (86, .istore_n 3), (87, .iinc 4 1), (90, .goto (-85)), (93, .iload_n 3), (94, .ireturn)]]
def kF157 : List (Nat × Nat × Nat × Nat) := [(26, 11, 15, 26)]
def kM157 : List (Nat × MF) := [(293, 124, 0, 2, 2, 11, 1)]
def kK157 : List (Nat × AV) := []
set_option maxRecDepth 100000 in
theorem ok157 : okX 157 kc157 kF157 kM157 kK157 = true := by decide +kernel
def kc158 : List (List (Nat × Instr)) := [[(0, .aload_n 0), (1, .iload_n 1), (2, .invokevirtual 420), (5, .ifCond .ne (5)), (8, .iconst (-1)), (9, .ireturn), (10, .aload_n 0), (11, .iconst 0), (12, .putfield 404), (15, .aload_n 0), (16, .getfield 16), (19, .iload_n 1), (20, .iaload), (21, .istore_n 2), (22, .iload_n 2), (23, .ifCond .le (20)), (26, .iload_n 2), (27, .bipush 6), (29, .if_icmp .ge (14))], [(32, .aload_n 0), (33, .ldc2_w 310), (36, .invokevirtual 410), (39, .aload_n 0), (40, .invokevirtual 407), (43, .iload_n 2), (44, .ifCond .le (60)), (47, .aload_n 0), (48, .iload_n 2), (49, .invokestatic 288), (52, .invokevirtual 410), (55, .iload_n 2), (56, .bipush 6), (58, .if_icmp .ne (10)), (61, .aload_n 0), (62, .ldc2_w 291)], [(65, .invokevirtual 410), (68, .aload_n 0), (69, .aload_n 0), (70, .getfield 20), (73, .iload_n 1), (74, .iaload), (75, .invokestatic 226), (78, .invokevirtual 414), (81, .aload_n 0), (82, .ldc2_w 318), (85, .invokevirtual 414), (88, .aload_n 0), (89, .aload_n 0), (90, .getfield 23), (93, .iload_n 1), (94, .iaload), (95, .invokestatic 226)], [(98, .invokevirtual 414), (101, .goto 16), (104, .aload_n 0), (105, .aload_n 0), (106, .getfield 20), (109, .iload_n 1), (110, .iaload), (111, .invokestatic 226), (114, .invokevirtual 410), (117, .iconst 0), (118, .istore_n 3), (119, .iload_n 3), (120, .bipush 7), (122, .if_icmp .ge (44)), (125, .iload_n 1), (126, .iload_n 3), (127, .invokestatic 293)], [(130, .istore 4), (132, .aload_n 0), (133, .getfield 26), (136, .iload 4), (138, .iaload), (139, .ifCond .eq (21)), (142, .iload_n 3), (143, .iconst 1), (144, .if_icmp .eq (16)), (147, .iload_n 3), (148, .iconst 4), (149, .if_icmp .eq (11)), (152, .aload_n 0), (153, .iload_n 1), (154, .iload_n 3), (155, .iload 4), (157, .invokevirtual 423)], [(160, .iinc 3 1), (163, .goto (-44)), (166, .aload_n 0), (167, .getfield 404), (170, .ireturn)]]
def kF158 : List (Nat × Nat × Nat × Nat) := [(16, 11, 12, 26), (20, 11, 13, 26), (23, 11, 14, 26), (26, 11, 15, 26), (404, 11, 17, 0)]
def kM158 : List (Nat × MF) := [(226, 132, 0, 1, 1, 11, 3), (288, 136, 0, 1, 1, 11, 3), (293, 124, 0, 2, 2, 11, 1), (407, 161, 1, 0, 1, 11, 0), (410, 160, 1, 1, 5, 11, 0), (414, 162, 1, 1, 3, 11, 0), (420, 159, 1, 1, 2, 11, 2), (423, 163, 1, 3, 4, 11, 0)]
def kK158 : List (Nat × AV) := [(291, .inr (.inl 121)), (310, .inr (.inl 7366002)), (318, .inr (.inl 6385252))]
set_option maxRecDepth 100000 in
theorem ok158 : okX 158 kc158 kF158 kM158 kK158 = true := by decide +kernel
def kc159 : List (List (Nat × Instr)) := [[(0, .iload_n 1), (1, .ifCond .lt (15)), (4, .iload_n 1), (5, .aload_n 0), (6, .getfield 297), (9, .if_icmp .ge (7)), (12, .iconst 1), (13, .goto 4), (16, .iconst 0), (17, .ireturn)]]
def kF159 : List (Nat × Nat × Nat × Nat) := [(297, 11, 11, 0)]
def kM159 : List (Nat × MF) := []
def kK159 : List (Nat × AV) := []
set_option maxRecDepth 100000 in
theorem ok159 : okX 159 kc159 kF159 kM159 kK159 = true := by decide +kernel
def kc160 : List (List (Nat × Instr)) := [[(0, .bipush 56), (2, .istore_n 3), (3, .iload_n 3), (4, .ifCond .lt (46)), (7, .lload_n 1), (8, .iload_n 3), (9, .lshr), (10, .ldc2_w 402), (13, .land), (14, .l2i), (15, .istore 4), (17, .iload 4), (19, .ifCond .eq (25)), (22, .aload_n 0), (23, .getfield 29), (26, .aload_n 0), (27, .getfield 404), (30, .iload 4)], [(32, .i2b), (33, .bastore), (34, .aload_n 0), (35, .aload_n 0), (36, .getfield 404), (39, .iconst 1), (40, .iadd), (41, .putfield 404), (44, .iinc 3 (-8)), (47, .goto (-44)), (50, .return_)]]
def kF160 : List (Nat × Nat × Nat × Nat) := [(29, 11, 16, 27), (404, 11, 17, 0)]
def kM160 : List (Nat × MF) := []
def kK160 : List (Nat × AV) := [(402, .inr (.inl 255))]
set_option maxRecDepth 100000 in
theorem ok160 : okX 160 kc160 kF160 kM160 kK160 = true := by decide +kernel
def kc161 : List (List (Nat × Instr)) := [[(0, .aload_n 0), (1, .getfield 29), (4, .aload_n 0), (5, .getfield 404), (8, .bipush 32), (10, .bastore), (11, .aload_n 0), (12, .aload_n 0), (13, .getfield 404), (16, .iconst 1), (17, .iadd), (18, .putfield 404), (21, .return_)]]
def kF161 : List (Nat × Nat × Nat × Nat) := [(29, 11, 16, 27), (404, 11, 17, 0)]
def kM161 : List (Nat × MF) := []
def kK161 : List (Nat × AV) := []
set_option maxRecDepth 100000 in
theorem ok161 : okX 161 kc161 kF161 kM161 kK161 = true := by decide +kernel
def kc162 : List (List (Nat × Instr)) := [[(0, .aload_n 0), (1, .invokevirtual 407), (4, .aload_n 0), (5, .lload_n 1), (6, .invokevirtual 410), (9, .return_)]]
def kF162 : List (Nat × Nat × Nat × Nat) := []
def kM162 : List (Nat × MF) := [(407, 161, 1, 0, 1, 11, 0), (410, 160, 1, 1, 5, 11, 0)]
def kK162 : List (Nat × AV) := []
set_option maxRecDepth 100000 in
theorem ok162 : okX 162 kc162 kF162 kM162 kK162 = true := by decide +kernel
def kc163 : List (List (Nat × Instr)) := [[(0, .aload_n 0), (1, .invokevirtual 426), (4, .iload_n 2), (5, .iconst 2), (6, .if_icmp .ne (9)), (9, .aload_n 0), (10, .iload_n 3), (11, .invokevirtual 417), (14, .return_), (15, .iload_n 2), (16, .iconst 5), (17, .if_icmp .ne (10)), (20, .aload_n 0), (21, .ldc2_w 353), (24, .invokevirtual 414), (27, .iload_n 2), (28, .bipush 6), (30, .if_icmp .ne (24))], [(33, .aload_n 0), (34, .ldc2_w 359), (37, .invokevirtual 414), (40, .aload_n 0), (41, .ldc2_w 370), (44, .invokevirtual 414), (47, .aload_n 0), (48, .ldc2_w 372), (51, .invokevirtual 410), (54, .aload_n 0), (55, .ldc2_w 241), (58, .invokevirtual 414), (61, .aload_n 0), (62, .aload_n 0), (63, .getfield 26)], [(66, .iload_n 3), (67, .iaload), (68, .invokestatic 234), (71, .invokevirtual 414), (74, .aload_n 0), (75, .aload_n 0), (76, .getfield 26), (79, .iload_n 3), (80, .iconst 1), (81, .iadd), (82, .iaload), (83, .invokestatic 226), (86, .invokevirtual 414), (89, .iload_n 2), (90, .ifCond .eq (8)), (93, .iload_n 2), (94, .iconst 3), (95, .if_icmp .ne (14))], [(98, .aload_n 0), (99, .iload_n 1), (100, .iload_n 2), (101, .iconst 1), (102, .iadd), (103, .invokestatic 293), (106, .invokevirtual 429), (109, .return_)]]
def kF163 : List (Nat × Nat × Nat × Nat) := [(26, 11, 15, 26)]
def kM163 : List (Nat × MF) := [(226, 132, 0, 1, 1, 11, 3), (234, 141, 0, 1, 1, 11, 3), (293, 124, 0, 2, 2, 11, 1), (410, 160, 1, 1, 5, 11, 0), (414, 162, 1, 1, 3, 11, 0), (417, 165, 1, 1, 6, 11, 0), (426, 164, 1, 0, 1, 11, 0), (429, 166, 1, 1, 2, 11, 0)]
def kK163 : List (Nat × AV) := [(241, .inr (.inl 97)), (353, .inr (.inl 131294808271214)), (359, .inr (.inl 6713202)), (370, .inr (.inl 7235426866322105710)), (372, .inr (.inl 25445))]
set_option maxRecDepth 100000 in
theorem ok163 : okX 163 kc163 kF163 kM163 kK163 = true := by decide +kernel
def kc164 : List (List (Nat × Instr)) := [[(0, .aload_n 0), (1, .getfield 29), (4, .aload_n 0), (5, .getfield 404), (8, .bipush 44), (10, .bastore), (11, .aload_n 0), (12, .aload_n 0), (13, .getfield 404), (16, .iconst 1), (17, .iadd), (18, .putfield 404), (21, .return_)]]
def kF164 : List (Nat × Nat × Nat × Nat) := [(29, 11, 16, 27), (404, 11, 17, 0)]
def kM164 : List (Nat × MF) := []
def kK164 : List (Nat × AV) := []
set_option maxRecDepth 100000 in
theorem ok164 : okX 164 kc164 kF164 kM164 kK164 = true := by decide +kernel
def kc165 : List (List (Nat × Instr)) := [[(0, .aload_n 0), (1, .getfield 26), (4, .iload_n 1), (5, .iconst 2), (6, .iadd), (7, .iaload), (8, .istore_n 2), (9, .aload_n 0), (10, .getfield 26), (13, .iload_n 1), (14, .iaload), (15, .istore_n 3), (16, .aload_n 0), (17, .iload_n 2), (18, .invokestatic 333), (21, .invokevirtual 414), (24, .aload_n 0), (25, .iload_n 2), (26, .iconst 1), (27, .if_icmp .le (15)), (30, .iload_n 3), (31, .bipush 22)], [(33, .if_icmp .ne (9)), (36, .ldc2_w 237), (39, .goto 7), (42, .iload_n 3), (43, .invokestatic 234), (46, .invokevirtual 414), (49, .iload_n 2), (50, .iconst 1), (51, .if_icmp .le (16)), (54, .iload_n 3), (55, .bipush 22), (57, .if_icmp .eq (10)), (60, .aload_n 0), (61, .ldc2_w 239)], [(64, .invokevirtual 410), (67, .aload_n 0), (68, .getfield 26), (71, .iload_n 1), (72, .iconst 3), (73, .iadd), (74, .iaload), (75, .istore 4), (77, .iload 4), (79, .ifCond .le (12)), (82, .aload_n 0), (83, .iload 4), (85, .invokestatic 263), (88, .invokevirtual 414), (91, .iload 4), (93, .iconst 4), (94, .if_icmp .ne (10))], [(97, .aload_n 0), (98, .ldc2_w 266), (101, .invokevirtual 410), (104, .aload_n 0), (105, .aload_n 0), (106, .getfield 26), (109, .iload_n 1), (110, .iconst 1), (111, .iadd), (112, .iaload), (113, .invokestatic 226), (116, .invokevirtual 414), (119, .iconst 0), (120, .istore 5), (122, .iload 5), (124, .iconst 5), (125, .if_icmp .ge (54))], [(128, .aload_n 0), (129, .getfield 26), (132, .iload_n 1), (133, .iconst 4), (134, .iadd), (135, .iload 5), (137, .iadd), (138, .iaload), (139, .iconst (-1)), (140, .if_icmp .ne (6)), (143, .goto 30), (146, .aload_n 0), (147, .iload 5), (149, .invokestatic 330), (152, .invokevirtual 414), (155, .aload_n 0), (156, .aload_n 0), (157, .getfield 26)], [(160, .iload_n 1), (161, .iconst 4), (162, .iadd), (163, .iload 5), (165, .iadd), (166, .iaload), (167, .invokestatic 226), (170, .invokevirtual 414), (173, .iinc 5 1), (176, .goto (-54)), (179, .return_)]]
def kF165 : List (Nat × Nat × Nat × Nat) := [(26, 11, 15, 26)]
def kM165 : List (Nat × MF) := [(226, 132, 0, 1, 1, 11, 3), (234, 141, 0, 1, 1, 11, 3), (263, 152, 0, 1, 1, 11, 3), (330, 154, 0, 1, 1, 11, 3), (333, 143, 0, 1, 1, 11, 3), (410, 160, 1, 1, 5, 11, 0), (414, 162, 1, 1, 3, 11, 0)]
def kK165 : List (Nat × AV) := [(237, .inr (.inl 119200046212467)), (239, .inr (.inl 115)), (266, .inr (.inl 100))]
set_option maxRecDepth 100000 in
theorem ok165 : okX 165 kc165 kF165 kM165 kK165 = true := by decide +kernel
def kc166 : List (List (Nat × Instr)) := [[(0, .aload_n 0), (1, .getfield 26), (4, .iload_n 1), (5, .iaload), (6, .ifCond .ne (4)), (9, .return_), (10, .aload_n 0), (11, .ldc2_w 339), (14, .invokevirtual 414), (17, .aload_n 0), (18, .ldc2_w 341), (21, .invokevirtual 414), (24, .aload_n 0), (25, .iload_n 1), (26, .invokevirtual 417), (29, .return_)]]
def kF166 : List (Nat × Nat × Nat × Nat) := [(26, 11, 15, 26)]
def kM166 : List (Nat × MF) := [(414, 162, 1, 1, 3, 11, 0), (417, 165, 1, 1, 6, 11, 0)]
def kK166 : List (Nat × AV) := [(339, .inr (.inl 27980790434850148)), (341, .inr (.inl 2003399784))]
set_option maxRecDepth 100000 in
theorem ok166 : okX 166 kc166 kF166 kM166 kK166 = true := by decide +kernel
def kc167 : List (List (Nat × Instr)) := [[(0, .iload_n 1), (1, .ifCond .lt (24)), (4, .iload_n 1), (5, .aload_n 0), (6, .getfield 404), (9, .if_icmp .ge (16)), (12, .aload_n 0), (13, .getfield 29), (16, .iload_n 1), (17, .baload), (18, .sipush 255), (21, .iand), (22, .goto 4), (25, .iconst (-1)), (26, .ireturn)]]
def kF167 : List (Nat × Nat × Nat × Nat) := [(29, 11, 16, 27), (404, 11, 17, 0)]
def kM167 : List (Nat × MF) := []
def kK167 : List (Nat × AV) := []
set_option maxRecDepth 100000 in
theorem ok167 : okX 167 kc167 kF167 kM167 kK167 = true := by decide +kernel
def kc168 : List (List (Nat × Instr)) := [[(0, .aload_n 0), (1, .iload_n 1), (2, .invokevirtual 420), (5, .ifCond .ne (5)), (8, .iconst (-1)), (9, .ireturn), (10, .iload_n 2), (11, .ifCond .ne (10)), (14, .aload_n 0), (15, .getfield 16), (18, .iload_n 1), (19, .iaload), (20, .ireturn), (21, .iload_n 2), (22, .iconst 1), (23, .if_icmp .ne (10)), (26, .aload_n 0), (27, .getfield 20), (30, .iload_n 1), (31, .iaload)], [(32, .ireturn), (33, .iload_n 2), (34, .iconst 2), (35, .if_icmp .ne (10)), (38, .aload_n 0), (39, .getfield 23), (42, .iload_n 1), (43, .iaload), (44, .ireturn), (45, .iload_n 2), (46, .iconst 3), (47, .if_icmp .ne (9)), (50, .aload_n 0), (51, .iload_n 1), (52, .invokevirtual 432), (55, .ireturn), (56, .iload_n 2), (57, .bipush 10), (59, .if_icmp .ge (5)), (62, .iconst (-1)), (63, .ireturn)], [(64, .aload_n 0), (65, .iload_n 1), (66, .iload_n 2), (67, .bipush 10), (69, .isub), (70, .bipush 8), (72, .idiv), (73, .invokevirtual 435), (76, .istore_n 3), (77, .iload_n 3), (78, .iconst (-1)), (79, .if_icmp .ne (5)), (82, .iconst (-1)), (83, .ireturn), (84, .iload_n 1), (85, .iload_n 3), (86, .invokestatic 293), (89, .istore 4), (91, .iload_n 2), (92, .bipush 10), (94, .isub), (95, .bipush 8)], [(97, .irem), (98, .tableswitch (97) (0) (6) #[42, 50, 60, 70, 80, 82, 89])], [(140, .aload_n 0), (141, .getfield 26), (144, .iload 4), (146, .iaload), (147, .ireturn), (148, .aload_n 0), (149, .getfield 26), (152, .iload 4), (154, .iconst 1), (155, .iadd), (156, .iaload), (157, .ireturn), (158, .aload_n 0), (159, .getfield 26)], [(162, .iload 4), (164, .iconst 2), (165, .iadd), (166, .iaload), (167, .ireturn), (168, .aload_n 0), (169, .getfield 26), (172, .iload 4), (174, .iconst 3), (175, .iadd), (176, .iaload), (177, .ireturn), (178, .iload_n 3), (179, .ireturn), (180, .aload_n 0), (181, .iload 4), (183, .invokevirtual 438), (186, .ireturn), (187, .aload_n 0), (188, .iload 4), (190, .iconst 0), (191, .invokevirtual 441)], [(194, .ireturn), (195, .aload_n 0), (196, .iload 4), (198, .iconst 1), (199, .invokevirtual 441), (202, .ireturn)]]
def kF168 : List (Nat × Nat × Nat × Nat) := [(16, 11, 12, 26), (20, 11, 13, 26), (23, 11, 14, 26), (26, 11, 15, 26)]
def kM168 : List (Nat × MF) := [(293, 124, 0, 2, 2, 11, 1), (420, 159, 1, 1, 2, 11, 2), (432, 169, 1, 1, 4, 11, 1), (435, 170, 1, 2, 5, 11, 1), (438, 171, 1, 1, 4, 11, 1), (441, 172, 1, 2, 6, 11, 1)]
def kK168 : List (Nat × AV) := []
set_option maxRecDepth 100000 in
theorem ok168 : okX 168 kc168 kF168 kM168 kK168 = true := by decide +kernel
def kc169 : List (List (Nat × Instr)) := [[(0, .iconst 0), (1, .istore_n 2), (2, .iconst 0), (3, .istore_n 3), (4, .iload_n 3), (5, .bipush 7), (7, .if_icmp .ge (30)), (10, .iload_n 2), (11, .aload_n 0), (12, .getfield 26), (15, .iload_n 1), (16, .iload_n 3), (17, .invokestatic 293), (20, .iaload), (21, .ifCond .eq (7)), (24, .iconst 1), (25, .goto 4), (28, .iconst 0), (29, .iadd), (30, .istore_n 2), (31, .iinc 3 1)], [(34, .goto (-30)), (37, .iload_n 2), (38, .ireturn)]]
def kF169 : List (Nat × Nat × Nat × Nat) := [(26, 11, 15, 26)]
def kM169 : List (Nat × MF) := [(293, 124, 0, 2, 2, 11, 1)]
def kK169 : List (Nat × AV) := []
set_option maxRecDepth 100000 in
theorem ok169 : okX 169 kc169 kF169 kM169 kK169 = true := by decide +kernel
def kc170 : List (List (Nat × Instr)) := [[(0, .iconst 0), (1, .istore_n 3), (2, .iconst 0), (3, .istore 4), (5, .iload 4), (7, .bipush 7), (9, .if_icmp .ge (38)), (12, .aload_n 0), (13, .getfield 26), (16, .iload_n 1), (17, .iload 4), (19, .invokestatic 293), (22, .iaload), (23, .ifCond .ne (6)), (26, .goto 15), (29, .iload_n 3), (30, .iload_n 2), (31, .if_icmp .ne (6))], [(34, .iload 4), (36, .ireturn), (37, .iload_n 3), (38, .iconst 1), (39, .iadd), (40, .istore_n 3), (41, .iinc 4 1), (44, .goto (-39)), (47, .iconst (-1)), (48, .ireturn)]]
def kF170 : List (Nat × Nat × Nat × Nat) := [(26, 11, 15, 26)]
def kM170 : List (Nat × MF) := [(293, 124, 0, 2, 2, 11, 1)]
def kK170 : List (Nat × AV) := []
set_option maxRecDepth 100000 in
theorem ok170 : okX 170 kc170 kF170 kM170 kK170 = true := by decide +kernel
def kc171 : List (List (Nat × Instr)) := [[(0, .iconst 0), (1, .istore_n 2), (2, .iconst 0), (3, .istore_n 3), (4, .iload_n 3), (5, .iconst 5), (6, .if_icmp .ge (31)), (9, .iload_n 2), (10, .aload_n 0), (11, .getfield 26), (14, .iload_n 1), (15, .iconst 4), (16, .iadd), (17, .iload_n 3), (18, .iadd), (19, .iaload), (20, .iconst (-1)), (21, .if_icmp .eq (7)), (24, .iconst 1), (25, .goto 4), (28, .iconst 0), (29, .iadd), (30, .istore_n 2), (31, .iinc 3 1)], [(34, .goto (-30)), (37, .iload_n 2), (38, .ireturn)]]
def kF171 : List (Nat × Nat × Nat × Nat) := [(26, 11, 15, 26)]
def kM171 : List (Nat × MF) := []
def kK171 : List (Nat × AV) := []
set_option maxRecDepth 100000 in
theorem ok171 : okX 171 kc171 kF171 kM171 kK171 = true := by decide +kernel
def kc172 : List (List (Nat × Instr)) := [[(0, .iconst (-1)), (1, .istore_n 3), (2, .iconst 0), (3, .istore 4), (5, .iload 4), (7, .iconst 5), (8, .if_icmp .ge (40)), (11, .aload_n 0), (12, .getfield 26), (15, .iload_n 1), (16, .iconst 4), (17, .iadd), (18, .iload 4), (20, .iadd), (21, .iaload), (22, .istore 5), (24, .iload 5), (26, .iconst (-1)), (27, .if_icmp .eq (15)), (30, .iload_n 2), (31, .ifCond .ne (8))], [(34, .iload_n 3), (35, .iconst (-1)), (36, .if_icmp .ne (6)), (39, .iload 5), (41, .istore_n 3), (42, .iinc 4 1), (45, .goto (-40)), (48, .iload_n 3), (49, .ireturn)]]
def kF172 : List (Nat × Nat × Nat × Nat) := [(26, 11, 15, 26)]
def kM172 : List (Nat × MF) := []
def kK172 : List (Nat × AV) := []
set_option maxRecDepth 100000 in
theorem ok172 : okX 172 kc172 kF172 kM172 kK172 = true := by decide +kernel
def kc173 : List (List (Nat × Instr)) := [[(0, .aload_n 0), (1, .iload_n 1), (2, .invokevirtual 420), (5, .ifCond .eq (11)), (8, .aload_n 0), (9, .iload_n 2), (10, .invokevirtual 420), (13, .ifCond .ne (5)), (16, .iconst (-1)), (17, .ireturn), (18, .aload_n 0), (19, .iload_n 1), (20, .iload_n 2), (21, .invokevirtual 390), (24, .aload_n 0), (25, .iload_n 1), (26, .iload_n 2), (27, .invokevirtual 387), (30, .ifCond .eq (7))], [(33, .iconst 0), (34, .goto 4), (37, .iconst 1), (38, .iadd), (39, .ireturn)]]
def kF173 : List (Nat × Nat × Nat × Nat) := []
def kM173 : List (Nat × MF) := [(387, 156, 1, 2, 3, 11, 2), (390, 157, 1, 2, 7, 11, 1), (420, 159, 1, 1, 2, 11, 2)]
def kK173 : List (Nat × AV) := []
set_option maxRecDepth 100000 in
theorem ok173 : okX 173 kc173 kF173 kM173 kK173 = true := by decide +kernel
def kc174 : List (List (Nat × Instr)) := [[(0, .iload_n 1), (1, .invokestatic 499), (4, .ifCond .eq (11)), (7, .aload_n 0), (8, .iload_n 2), (9, .invokevirtual 393), (12, .ifCond .ne (5)), (15, .iconst (-1)), (16, .ireturn), (17, .aload_n 0), (18, .invokevirtual 502), (21, .ifCond .ne (11)), (24, .bipush (-2)), (26, .aload_n 0), (27, .getfield 117), (30, .isub), (31, .ireturn)], [(32, .aload_n 0), (33, .getfield 32), (36, .iload_n 1), (37, .aload_n 0), (38, .getfield 32), (41, .iconst 5), (42, .iaload), (43, .iastore), (44, .aload_n 0), (45, .getfield 35), (48, .iload_n 1), (49, .aload_n 0), (50, .getfield 35), (53, .iconst 5), (54, .iaload), (55, .iastore), (56, .iconst 0), (57, .istore_n 3), (58, .iload_n 3), (59, .aload_n 0), (60, .getfield 32), (63, .iconst 5)], [(64, .iaload), (65, .if_icmp .ge (89)), (68, .aload_n 0), (69, .getfield 38), (72, .bipush 12), (74, .iload_n 1), (75, .imul), (76, .iload_n 3), (77, .iadd), (78, .aload_n 0), (79, .getfield 38), (82, .bipush 60), (84, .iload_n 3), (85, .iadd), (86, .iaload), (87, .iastore), (88, .aload_n 0), (89, .getfield 41), (92, .bipush 12), (94, .iload_n 1), (95, .imul)], [(96, .iload_n 3), (97, .iadd), (98, .aload_n 0), (99, .getfield 41), (102, .bipush 60), (104, .iload_n 3), (105, .iadd), (106, .iaload), (107, .iastore), (108, .aload_n 0), (109, .getfield 44), (112, .bipush 12), (114, .iload_n 1), (115, .imul), (116, .iload_n 3), (117, .iadd), (118, .aload_n 0), (119, .getfield 44), (122, .bipush 60), (124, .iload_n 3), (125, .iadd), (126, .iaload), (127, .iastore)], [(128, .aload_n 0), (129, .getfield 47), (132, .bipush 12), (134, .iload_n 1), (135, .imul), (136, .iload_n 3), (137, .iadd), (138, .aload_n 0), (139, .getfield 47), (142, .bipush 60), (144, .iload_n 3), (145, .iadd), (146, .iaload), (147, .iastore), (148, .iinc 3 1), (151, .goto (-93)), (154, .iconst 0), (155, .istore_n 3), (156, .iload_n 3), (157, .aload_n 0), (158, .getfield 35)], [(161, .iconst 5), (162, .iaload), (163, .if_icmp .ge (53)), (166, .aload_n 0), (167, .getfield 50), (170, .sipush 240), (173, .iload_n 1), (174, .imul), (175, .iload_n 3), (176, .iadd), (177, .aload_n 0), (178, .getfield 50), (181, .sipush 1200), (184, .iload_n 3), (185, .iadd), (186, .iaload), (187, .iastore), (188, .aload_n 0), (189, .getfield 53)], [(192, .sipush 240), (195, .iload_n 1), (196, .imul), (197, .iload_n 3), (198, .iadd), (199, .aload_n 0), (200, .getfield 53), (203, .sipush 1200), (206, .iload_n 3), (207, .iadd), (208, .iaload), (209, .iastore), (210, .iinc 3 1), (213, .goto (-57)), (216, .aload_n 0), (217, .getfield 32), (220, .iload_n 1), (221, .iaload), (222, .ireturn)]]
def kF174 : List (Nat × Nat × Nat × Nat) := [(32, 11, 18, 26), (35, 11, 19, 26), (38, 11, 20, 26), (41, 11, 21, 26), (44, 11, 22, 26), (47, 11, 23, 26), (50, 11, 24, 26), (53, 11, 25, 26), (117, 11, 5, 0)]
def kM174 : List (Nat × MF) := [(393, 121, 1, 1, 3, 11, 2), (499, 175, 0, 1, 1, 11, 2), (502, 176, 1, 0, 3, 11, 2)]
def kK174 : List (Nat × AV) := []
set_option maxRecDepth 100000 in
theorem ok174 : okX 174 kc174 kF174 kM174 kK174 = true := by decide +kernel
def kc175 : List (List (Nat × Instr)) := [[(0, .iload_n 0), (1, .ifCond .lt (12)), (4, .iload_n 0), (5, .iconst 4), (6, .if_icmp .ge (7)), (9, .iconst 1), (10, .goto 4), (13, .iconst 0), (14, .ireturn)]]
def kF175 : List (Nat × Nat × Nat × Nat) := []
def kM175 : List (Nat × MF) := []
def kK175 : List (Nat × AV) := []
set_option maxRecDepth 100000 in
theorem ok175 : okX 175 kc175 kF175 kM175 kK175 = true := by decide +kernel
def kc176 : List (List (Nat × Instr)) := [[(0, .aload_n 0), (1, .getfield 32), (4, .iconst 5), (5, .iconst 0), (6, .iastore), (7, .aload_n 0), (8, .getfield 35), (11, .iconst 5), (12, .iconst 0), (13, .iastore), (14, .aload_n 0), (15, .invokevirtual 304), (18, .aload_n 0), (19, .getfield 130), (22, .ifCond .eq (148)), (25, .aload_n 0), (26, .ldc2_w 490), (29, .invokevirtual 230)], [(32, .ifCond .eq (14)), (35, .aload_n 0), (36, .getfield 32), (39, .iconst 5), (40, .iaload), (41, .bipush 12), (43, .if_icmp .ne (5)), (46, .iconst 0), (47, .ireturn), (48, .aload_n 0), (49, .invokevirtual 304), (52, .aload_n 0), (53, .getfield 130), (56, .bipush 100), (58, .if_icmp .ne (19)), (61, .aload_n 0), (62, .getfield 140)], [(65, .iconst 1), (66, .if_icmp .ne (11)), (69, .aload_n 0), (70, .getfield 127), (73, .iconst 3), (74, .if_icmp .le (5)), (77, .iconst 0), (78, .ireturn), (79, .aload_n 0), (80, .getfield 127), (83, .istore_n 1), (84, .aload_n 0), (85, .invokevirtual 304), (88, .aload_n 0), (89, .ldc2_w 359), (92, .invokevirtual 312), (95, .ifCond .ne (5))], [(98, .iconst 0), (99, .ireturn), (100, .aload_n 0), (101, .invokevirtual 364), (104, .istore_n 2), (105, .iload_n 2), (106, .iconst (-1)), (107, .if_icmp .eq (14)), (110, .aload_n 0), (111, .iconst 5), (112, .iload_n 1), (113, .iload_n 2), (114, .invokevirtual 492), (117, .iconst (-1)), (118, .if_icmp .eq (5)), (121, .iconst 0), (122, .ireturn), (123, .aload_n 0), (124, .invokevirtual 304), (127, .aload_n 0)], [(128, .getfield 130), (131, .bipush 58), (133, .if_icmp .eq (5)), (136, .iconst 0), (137, .ireturn), (138, .aload_n 0), (139, .invokevirtual 304), (142, .aload_n 0), (143, .iconst 5), (144, .iload_n 1), (145, .iload_n 2), (146, .invokevirtual 445), (149, .aload_n 0), (150, .invokevirtual 496), (153, .ifCond .ne (5)), (156, .iconst 0), (157, .ireturn), (158, .aload_n 0), (159, .iconst 5)], [(160, .invokevirtual 451), (163, .aload_n 0), (164, .invokevirtual 304), (167, .goto (-149)), (170, .iconst 1), (171, .ireturn)]]
def kF176 : List (Nat × Nat × Nat × Nat) := [(32, 11, 18, 26), (35, 11, 19, 26), (127, 11, 7, 0), (130, 11, 4, 0), (140, 11, 10, 0)]
def kM176 : List (Nat × MF) := [(230, 133, 1, 1, 3, 11, 2), (304, 125, 1, 0, 5, 11, 0), (312, 134, 1, 1, 3, 11, 2), (364, 144, 1, 0, 2, 11, 1), (445, 115, 1, 3, 5, 11, 0), (451, 117, 1, 1, 2, 11, 0), (492, 177, 1, 3, 5, 11, 1), (496, 178, 1, 0, 4, 11, 2)]
def kK176 : List (Nat × AV) := [(359, .inr (.inl 6713202)), (490, .inr (.inl 1920298085))]
set_option maxRecDepth 100000 in
theorem ok176 : okX 176 kc176 kF176 kM176 kK176 = true := by decide +kernel
def kc177 : List (List (Nat × Instr)) := [[(0, .iconst 0), (1, .istore 4), (3, .iload 4), (5, .aload_n 0), (6, .getfield 32), (9, .iload_n 1), (10, .iaload), (11, .if_icmp .ge (44)), (14, .aload_n 0), (15, .getfield 38), (18, .bipush 12), (20, .iload_n 1), (21, .imul), (22, .iload 4), (24, .iadd), (25, .iaload), (26, .iload_n 2), (27, .if_icmp .ne (22)), (30, .aload_n 0), (31, .getfield 41)], [(34, .bipush 12), (36, .iload_n 1), (37, .imul), (38, .iload 4), (40, .iadd), (41, .iaload), (42, .iload_n 3), (43, .if_icmp .ne (6)), (46, .iload 4), (48, .ireturn), (49, .iinc 4 1), (52, .goto (-49)), (55, .iconst (-1)), (56, .ireturn)]]
def kF177 : List (Nat × Nat × Nat × Nat) := [(32, 11, 18, 26), (38, 11, 20, 26), (41, 11, 21, 26)]
def kM177 : List (Nat × MF) := []
def kK177 : List (Nat × AV) := []
set_option maxRecDepth 100000 in
theorem ok177 : okX 177 kc177 kF177 kM177 kK177 = true := by decide +kernel
def kc178 : List (List (Nat × Instr)) := [[(0, .aload_n 0), (1, .iconst 0), (2, .putfield 472), (5, .aload_n 0), (6, .iconst 0), (7, .putfield 478), (10, .iconst 1), (11, .istore_n 1), (12, .iload_n 1), (13, .ifCond .eq (112)), (16, .iconst 0), (17, .istore_n 2), (18, .iconst 2), (19, .istore_n 3), (20, .iload_n 3), (21, .bipush 10), (23, .if_icmp .gt (22)), (26, .aload_n 0), (27, .iload_n 3), (28, .invokestatic 481), (31, .invokevirtual 230)], [(34, .ifCond .eq (5)), (37, .iload_n 3), (38, .istore_n 2), (39, .iinc 3 1), (42, .goto (-22)), (45, .aload_n 0), (46, .getfield 130), (49, .bipush 40), (51, .if_icmp .ne (33)), (54, .aload_n 0), (55, .getfield 478), (58, .bipush 9), (60, .if_icmp .ne (5)), (63, .iconst 0)], [(64, .ireturn), (65, .aload_n 0), (66, .aload_n 0), (67, .getfield 478), (70, .iconst 1), (71, .iadd), (72, .putfield 478), (75, .aload_n 0), (76, .bipush 40), (78, .invokevirtual 484), (81, .goto 41), (84, .aload_n 0), (85, .getfield 130), (88, .bipush 100), (90, .if_icmp .eq (7)), (93, .iload_n 2), (94, .ifCond .eq (26))], [(97, .aload_n 0), (98, .iconst 5), (99, .iload_n 2), (100, .ifCond .ne (7)), (103, .iconst 1), (104, .goto 4), (107, .iload_n 2), (108, .aload_n 0), (109, .getfield 127), (112, .invokevirtual 448), (115, .iconst 0), (116, .istore_n 1), (117, .goto 5), (120, .iconst 0), (121, .ireturn), (122, .goto 150), (125, .aload_n 0), (126, .getfield 130)], [(129, .bipush 43), (131, .if_icmp .eq (48)), (134, .aload_n 0), (135, .getfield 130), (138, .bipush 45), (140, .if_icmp .eq (39)), (143, .aload_n 0), (144, .getfield 130), (147, .bipush 42), (149, .if_icmp .eq (30)), (152, .aload_n 0), (153, .getfield 130), (156, .bipush 61), (158, .if_icmp .eq (21))], [(161, .aload_n 0), (162, .getfield 130), (165, .bipush 60), (167, .if_icmp .eq (12)), (170, .aload_n 0), (171, .getfield 130), (174, .bipush 62), (176, .if_icmp .ne (27)), (179, .aload_n 0), (180, .aload_n 0), (181, .getfield 130), (184, .invokestatic 475), (187, .invokevirtual 487), (190, .aload_n 0), (191, .aload_n 0)], [(192, .getfield 130), (195, .invokevirtual 484), (198, .iconst 1), (199, .istore_n 1), (200, .goto 72), (203, .aload_n 0), (204, .getfield 130), (207, .bipush 41), (209, .if_icmp .ne (38)), (212, .aload_n 0), (213, .getfield 478), (216, .ifCond .le (31)), (219, .aload_n 0), (220, .iconst 1), (221, .invokevirtual 487)], [(224, .aload_n 0), (225, .aload_n 0), (226, .getfield 472), (229, .iconst 1), (230, .isub), (231, .putfield 472), (234, .aload_n 0), (235, .aload_n 0), (236, .getfield 478), (239, .iconst 1), (240, .isub), (241, .putfield 478), (244, .goto 28), (247, .aload_n 0), (248, .getfield 130), (251, .bipush 59), (253, .if_icmp .ne (17))], [(256, .aload_n 0), (257, .getfield 478), (260, .ifCond .ne (10)), (263, .aload_n 0), (264, .iconst 1), (265, .invokevirtual 487), (268, .iconst 1), (269, .ireturn), (270, .iconst 0), (271, .ireturn), (272, .aload_n 0), (273, .invokevirtual 304), (276, .goto (-264))]]
def kF178 : List (Nat × Nat × Nat × Nat) := [(127, 11, 7, 0), (130, 11, 4, 0), (472, 11, 27, 0), (478, 11, 28, 0)]
def kM178 : List (Nat × MF) := [(230, 133, 1, 1, 3, 11, 2), (304, 125, 1, 0, 5, 11, 0), (448, 116, 1, 3, 4, 11, 0), (475, 181, 0, 1, 1, 11, 1), (481, 179, 0, 1, 1, 11, 3), (484, 180, 1, 1, 2, 11, 0), (487, 182, 1, 1, 2, 11, 0)]
def kK178 : List (Nat × AV) := []
set_option maxRecDepth 100000 in
theorem ok178 : okX 178 kc178 kF178 kM178 kK178 = true := by decide +kernel
def kc179 : List (List (Nat × Instr)) := [[(0, .iload_n 0), (1, .tableswitch (79) (2) (9) #[47, 51, 55, 59, 63, 67, 71, 75])], [(48, .ldc2_w 454), (51, .lreturn), (52, .ldc2_w 456), (55, .lreturn), (56, .ldc2_w 458), (59, .lreturn), (60, .ldc2_w 460), (63, .lreturn)], [(64, .ldc2_w 462), (67, .lreturn), (68, .ldc2_w 464), (71, .lreturn), (72, .ldc2_w 466), (75, .lreturn), (76, .ldc2_w 468), (79, .lreturn), (80, .ldc2_w 470), (83, .lreturn)]]
def kF179 : List (Nat × Nat × Nat × Nat) := []
def kM179 : List (Nat × MF) := []
def kK179 : List (Nat × AV) := [(454, .inr (.inl 1936683636)), (456, .inr (.inl 422608400247)), (458, .inr (.inl 8388357154388931173)), (460, .inr (.inl 121450625394034)), (462, .inr (.inl 7022365715251684453)), (464, .inr (.inl 110455627015539)), (466, .inr (.inl 1802071652)), (468, .inr (.inl 482854658917)), (470, .inr (.inl 1852143732))]
set_option maxRecDepth 100000 in
theorem ok179 : okX 179 kc179 kF179 kM179 kK179 = true := by decide +kernel
def kc180 : List (List (Nat × Instr)) := [[(0, .aload_n 0), (1, .getfield 56), (4, .aload_n 0), (5, .getfield 472), (8, .iload_n 1), (9, .iastore), (10, .aload_n 0), (11, .aload_n 0), (12, .getfield 472), (15, .iconst 1), (16, .iadd), (17, .putfield 472), (20, .return_)]]
def kF180 : List (Nat × Nat × Nat × Nat) := [(56, 11, 26, 26), (472, 11, 27, 0)]
def kM180 : List (Nat × MF) := []
def kK180 : List (Nat × AV) := []
set_option maxRecDepth 100000 in
theorem ok180 : okX 180 kc180 kF180 kM180 kK180 = true := by decide +kernel
def kc181 : List (List (Nat × Instr)) := [[(0, .iload_n 0), (1, .bipush 40), (3, .if_icmp .ne (7)), (6, .iconst 0), (7, .goto 20), (10, .iload_n 0), (11, .bipush 43), (13, .if_icmp .eq (9)), (16, .iload_n 0), (17, .bipush 45), (19, .if_icmp .ne (7)), (22, .iconst 1), (23, .goto 4), (26, .iconst 2), (27, .ireturn)]]
def kF181 : List (Nat × Nat × Nat × Nat) := []
def kM181 : List (Nat × MF) := []
def kK181 : List (Nat × AV) := []
set_option maxRecDepth 100000 in
theorem ok181 : okX 181 kc181 kF181 kM181 kK181 = true := by decide +kernel
def kc182 : List (List (Nat × Instr)) := [[(0, .aload_n 0), (1, .getfield 472), (4, .ifCond .le (49)), (7, .aload_n 0), (8, .getfield 56), (11, .aload_n 0), (12, .getfield 472), (15, .iconst 1), (16, .isub), (17, .iaload), (18, .invokestatic 475), (21, .iload_n 1), (22, .if_icmp .lt (31)), (25, .aload_n 0), (26, .aload_n 0), (27, .getfield 472), (30, .iconst 1), (31, .isub)], [(32, .putfield 472), (35, .aload_n 0), (36, .iconst 5), (37, .aload_n 0), (38, .getfield 56), (41, .aload_n 0), (42, .getfield 472), (45, .iaload), (46, .iconst 0), (47, .invokevirtual 448), (50, .goto (-50)), (53, .return_)]]
def kF182 : List (Nat × Nat × Nat × Nat) := [(56, 11, 26, 26), (472, 11, 27, 0)]
def kM182 : List (Nat × MF) := [(448, 116, 1, 3, 4, 11, 0), (475, 181, 0, 1, 1, 11, 1)]
def kK182 : List (Nat × AV) := []
set_option maxRecDepth 100000 in
theorem ok182 : okX 182 kc182 kF182 kM182 kK182 = true := by decide +kernel
def kc183 : List (List (Nat × Instr)) := [[(0, .iload_n 1), (1, .ifCond .lt (25)), (4, .iload_n 1), (5, .bipush 30), (7, .if_icmp .gt (19)), (10, .iload_n 2), (11, .ifCond .lt (15)), (14, .iload_n 2), (15, .iconst 3), (16, .if_icmp .gt (10)), (19, .iload_n 3), (20, .invokestatic 499), (23, .ifCond .ne (5)), (26, .iconst (-1)), (27, .ireturn), (28, .aload_n 0), (29, .iconst 0), (30, .iload_n 1), (31, .iload_n 2)], [(32, .iload_n 3), (33, .invokevirtual 515), (36, .iconst (-1)), (37, .if_icmp .ne (7)), (40, .iconst (-1)), (41, .goto 21), (44, .aload_n 0), (45, .getfield 505), (48, .aload_n 0), (49, .getfield 508), (52, .ifCond .eq (8)), (55, .bipush 32), (57, .goto 4), (60, .iconst 0), (61, .iadd), (62, .ireturn)]]
def kF183 : List (Nat × Nat × Nat × Nat) := [(505, 11, 29, 0), (508, 11, 31, 2)]
def kM183 : List (Nat × MF) := [(499, 175, 0, 1, 1, 11, 2), (515, 184, 1, 4, 9, 11, 1)]
def kK183 : List (Nat × AV) := []
set_option maxRecDepth 100000 in
theorem ok183 : okX 183 kc183 kF183 kM183 kK183 = true := by decide +kernel
def kc184 : List (List (Nat × Instr)) := [[(0, .iload_n 2), (1, .istore 5), (3, .iconst 0), (4, .istore 6), (6, .iload 5), (8, .iconst (-1)), (9, .if_icmp .eq (104)), (12, .iconst 0), (13, .istore 7), (15, .iload 7), (17, .iconst 2), (18, .if_icmp .ge (82)), (21, .iload 6), (23, .iload 7), (25, .iadd), (26, .iload_n 1), (27, .if_icmp .ge (6)), (30, .goto 64)], [(33, .aload_n 0), (34, .iload 7), (36, .ifCond .ne (8)), (39, .iload 4), (41, .goto 4), (44, .iconst 4), (45, .iload_n 3), (46, .iload 5), (48, .invokevirtual 492), (51, .istore 8), (53, .iload 8), (55, .iconst (-1)), (56, .if_icmp .ne (6)), (59, .goto 35), (62, .aload_n 0), (63, .iload 5)], [(65, .putfield 505), (68, .aload_n 0), (69, .iload 7), (71, .ifCond .ne (7)), (74, .iconst 1), (75, .goto 4), (78, .iconst 0), (79, .putfield 508), (82, .aload_n 0), (83, .iload 8), (85, .putfield 512), (88, .iload 6), (90, .iload 7), (92, .iadd), (93, .ireturn), (94, .iinc 7 1)], [(97, .goto (-82)), (100, .iload 5), (102, .invokestatic 223), (105, .istore 5), (107, .iinc 6 2), (110, .goto (-104)), (113, .iconst (-1)), (114, .ireturn)]]
def kF184 : List (Nat × Nat × Nat × Nat) := [(505, 11, 29, 0), (508, 11, 31, 2), (512, 11, 30, 0)]
def kM184 : List (Nat × MF) := [(223, 150, 0, 1, 1, 11, 1), (492, 177, 1, 3, 5, 11, 1)]
def kK184 : List (Nat × AV) := []
set_option maxRecDepth 100000 in
theorem ok184 : okX 184 kc184 kF184 kM184 kK184 = true := by decide +kernel
def kc185 : List (List (Nat × Instr)) := [[(0, .aload_n 0), (1, .iconst 0), (2, .putfield 528), (5, .aload_n 0), (6, .iload_n 1), (7, .invokevirtual 420), (10, .ifCond .eq (19)), (13, .iload_n 2), (14, .ifCond .lt (15)), (17, .iload_n 2), (18, .iconst 3), (19, .if_icmp .gt (10)), (22, .iload_n 3), (23, .invokestatic 499), (26, .ifCond .ne (5)), (29, .iconst 0), (30, .ireturn), (31, .iconst 0)], [(32, .istore 4), (34, .iconst 0), (35, .istore 5), (37, .iload 5), (39, .bipush 7), (41, .if_icmp .ge (37)), (44, .aload_n 0), (45, .getfield 26), (48, .iload_n 1), (49, .iload 5), (51, .invokestatic 293), (54, .iaload), (55, .ifCond .eq (17)), (58, .iload 4), (60, .aload_n 0), (61, .iload_n 1), (62, .iload 5)], [(64, .iload_n 2), (65, .iload_n 3), (66, .invokevirtual 547), (69, .iadd), (70, .istore 4), (72, .iinc 5 1), (75, .goto (-38)), (78, .iload 4), (80, .ireturn)]]
def kF185 : List (Nat × Nat × Nat × Nat) := [(26, 11, 15, 26), (528, 11, 32, 0)]
def kM185 : List (Nat × MF) := [(293, 124, 0, 2, 2, 11, 1), (420, 159, 1, 1, 2, 11, 2), (499, 175, 0, 1, 1, 11, 2), (547, 186, 1, 4, 11, 11, 1)]
def kK185 : List (Nat × AV) := []
set_option maxRecDepth 100000 in
theorem ok185 : okX 185 kc185 kF185 kM185 kK185 = true := by decide +kernel
def kc186 : List (List (Nat × Instr)) := [[(0, .aload_n 0), (1, .getfield 26), (4, .iload_n 1), (5, .iload_n 2), (6, .invokestatic 293), (9, .iaload), (10, .istore 5), (12, .aload_n 0), (13, .iconst 0), (14, .putfield 525), (17, .aload_n 0), (18, .iconst 0), (19, .putfield 522), (22, .aload_n 0), (23, .iconst 0), (24, .iload 5), (26, .iload_n 3), (27, .iload 4), (29, .invokevirtual 515)], [(32, .istore 6), (34, .iload 6), (36, .iconst (-1)), (37, .if_icmp .ne (5)), (40, .iconst 0), (41, .ireturn), (42, .aload_n 0), (43, .iload 6), (45, .iload 4), (47, .invokevirtual 534), (50, .aload_n 0), (51, .getfield 525), (54, .ifCond .le (226)), (57, .aload_n 0), (58, .getfield 525), (61, .iconst 1), (62, .isub), (63, .istore 7)], [(65, .aload_n 0), (66, .getfield 62), (69, .iload 7), (71, .iaload), (72, .aload_n 0), (73, .getfield 65), (76, .iload 7), (78, .iaload), (79, .if_icmp .ne (12)), (82, .aload_n 0), (83, .iload 7), (85, .putfield 525), (88, .goto (-38)), (91, .sipush 240), (94, .aload_n 0), (95, .getfield 68)], [(98, .iload 7), (100, .iaload), (101, .imul), (102, .aload_n 0), (103, .getfield 62), (106, .iload 7), (108, .iaload), (109, .iadd), (110, .istore 8), (112, .aload_n 0), (113, .getfield 62), (116, .iload 7), (118, .aload_n 0), (119, .getfield 62), (122, .iload 7), (124, .iaload), (125, .iconst 1), (126, .iadd), (127, .iastore)], [(128, .aload_n 0), (129, .getfield 50), (132, .iload 8), (134, .iaload), (135, .istore 9), (137, .iload 9), (139, .bipush 10), (141, .if_icmp .ne (48)), (144, .aload_n 0), (145, .aload_n 0), (146, .getfield 71), (149, .iload 7), (151, .iaload), (152, .iconst 1), (153, .iadd), (154, .iload 5), (156, .iload_n 3), (157, .iload 4), (159, .invokevirtual 515)], [(162, .istore 10), (164, .iload 10), (166, .iconst (-1)), (167, .if_icmp .ne (11)), (170, .aload_n 0), (171, .iconst 0), (172, .invokevirtual 538), (175, .goto 11), (178, .aload_n 0), (179, .iload 10), (181, .iload 4), (183, .invokevirtual 534), (186, .goto 91), (189, .iload 9), (191, .iconst 1)], [(192, .if_icmp .ne (17)), (195, .aload_n 0), (196, .aload_n 0), (197, .getfield 53), (200, .iload 8), (202, .iaload), (203, .invokevirtual 538), (206, .goto 71), (209, .iload 9), (211, .bipush 9), (213, .if_icmp .gt (18)), (216, .aload_n 0), (217, .aload_n 0), (218, .iload 9), (220, .iload_n 1), (221, .iload_n 2), (222, .invokevirtual 541)], [(225, .invokevirtual 538), (228, .goto 49), (231, .aload_n 0), (232, .aload_n 0), (233, .getfield 522), (236, .iconst 1), (237, .isub), (238, .putfield 522), (241, .aload_n 0), (242, .getfield 59), (245, .aload_n 0), (246, .getfield 522), (249, .iconst 1), (250, .isub), (251, .iload 9), (253, .aload_n 0), (254, .getfield 59)], [(257, .aload_n 0), (258, .getfield 522), (261, .iconst 1), (262, .isub), (263, .iaload), (264, .aload_n 0), (265, .getfield 59), (268, .aload_n 0), (269, .getfield 522), (272, .iaload), (273, .invokestatic 544), (276, .iastore), (277, .goto (-227)), (280, .aload_n 0), (281, .getfield 59), (284, .iconst 0), (285, .iaload), (286, .ireturn)]]
def kF186 : List (Nat × Nat × Nat × Nat) := [(26, 11, 15, 26), (50, 11, 24, 26), (53, 11, 25, 26), (59, 11, 33, 26), (62, 11, 35, 26), (65, 11, 36, 26), (68, 11, 37, 26), (71, 11, 38, 26), (522, 11, 34, 0), (525, 11, 39, 0)]
def kM186 : List (Nat × MF) := [(293, 124, 0, 2, 2, 11, 1), (515, 184, 1, 4, 9, 11, 1), (534, 187, 1, 2, 4, 11, 0), (538, 188, 1, 1, 2, 11, 0), (541, 189, 1, 3, 5, 11, 1), (544, 192, 0, 3, 3, 11, 1)]
def kK186 : List (Nat × AV) := []
set_option maxRecDepth 100000 in
theorem ok186 : okX 186 kc186 kF186 kM186 kK186 = true := by decide +kernel
def kc187 : List (List (Nat × Instr)) := [[(0, .aload_n 0), (1, .getfield 508), (4, .ifCond .eq (7)), (7, .iload_n 2), (8, .goto 4), (11, .iconst 4), (12, .istore_n 3), (13, .aload_n 0), (14, .getfield 62), (17, .aload_n 0), (18, .getfield 525), (21, .aload_n 0), (22, .getfield 44), (25, .bipush 12), (27, .iload_n 3), (28, .imul), (29, .aload_n 0), (30, .getfield 512)], [(33, .iadd), (34, .iaload), (35, .iastore), (36, .aload_n 0), (37, .getfield 65), (40, .aload_n 0), (41, .getfield 525), (44, .aload_n 0), (45, .getfield 47), (48, .bipush 12), (50, .iload_n 3), (51, .imul), (52, .aload_n 0), (53, .getfield 512), (56, .iadd), (57, .iaload), (58, .iastore), (59, .aload_n 0), (60, .getfield 68), (63, .aload_n 0)], [(64, .getfield 525), (67, .iload_n 3), (68, .iastore), (69, .aload_n 0), (70, .getfield 71), (73, .aload_n 0), (74, .getfield 525), (77, .iload_n 1), (78, .iastore), (79, .aload_n 0), (80, .aload_n 0), (81, .getfield 525), (84, .iconst 1), (85, .iadd), (86, .putfield 525), (89, .aload_n 0), (90, .aload_n 0), (91, .getfield 528), (94, .iconst 1), (95, .iadd)], [(96, .putfield 528), (99, .return_)]]
def kF187 : List (Nat × Nat × Nat × Nat) := [(44, 11, 22, 26), (47, 11, 23, 26), (62, 11, 35, 26), (65, 11, 36, 26), (68, 11, 37, 26), (71, 11, 38, 26), (508, 11, 31, 2), (512, 11, 30, 0), (525, 11, 39, 0), (528, 11, 32, 0)]
def kM187 : List (Nat × MF) := []
def kK187 : List (Nat × AV) := []
set_option maxRecDepth 100000 in
theorem ok187 : okX 187 kc187 kF187 kM187 kK187 = true := by decide +kernel
def kc188 : List (List (Nat × Instr)) := [[(0, .aload_n 0), (1, .getfield 59), (4, .aload_n 0), (5, .getfield 522), (8, .iload_n 1), (9, .iastore), (10, .aload_n 0), (11, .aload_n 0), (12, .getfield 522), (15, .iconst 1), (16, .iadd), (17, .putfield 522), (20, .return_)]]
def kF188 : List (Nat × Nat × Nat × Nat) := [(59, 11, 33, 26), (522, 11, 34, 0)]
def kM188 : List (Nat × MF) := []
def kK188 : List (Nat × AV) := []
set_option maxRecDepth 100000 in
theorem ok188 : okX 188 kc188 kF188 kM188 kK188 = true := by decide +kernel
def kc189 : List (List (Nat × Instr)) := [[(0, .iload_n 2), (1, .iload_n 3), (2, .invokestatic 293), (5, .istore 4), (7, .iload_n 1), (8, .tableswitch (109) (2) (8) #[44, 57, 64, 74, 84, 94, 101])], [(52, .aload_n 0), (53, .getfield 26), (56, .iload 4), (58, .iconst 1), (59, .iadd), (60, .iaload), (61, .invokestatic 519)], [(64, .ireturn), (65, .aload_n 0), (66, .iload_n 2), (67, .iload_n 3), (68, .invokevirtual 531), (71, .ireturn), (72, .aload_n 0), (73, .getfield 26), (76, .iload 4), (78, .iconst 1), (79, .iadd), (80, .iaload), (81, .ireturn), (82, .aload_n 0), (83, .getfield 26), (86, .iload 4), (88, .iconst 2), (89, .iadd), (90, .iaload), (91, .ireturn), (92, .aload_n 0), (93, .getfield 26)], [(96, .iload 4), (98, .iconst 3), (99, .iadd), (100, .iaload), (101, .ireturn), (102, .aload_n 0), (103, .iload 4), (105, .invokevirtual 438), (108, .ireturn), (109, .aload_n 0), (110, .getfield 26), (113, .iload 4), (115, .iaload), (116, .ireturn), (117, .iload_n 3), (118, .ireturn)]]
def kF189 : List (Nat × Nat × Nat × Nat) := [(26, 11, 15, 26)]
def kM189 : List (Nat × MF) := [(293, 124, 0, 2, 2, 11, 1), (438, 171, 1, 1, 4, 11, 1), (519, 190, 0, 1, 1, 11, 1), (531, 191, 1, 2, 4, 11, 1)]
def kK189 : List (Nat × AV) := []
set_option maxRecDepth 100000 in
theorem ok189 : okX 189 kc189 kF189 kM189 kK189 = true := by decide +kernel
def kc190 : List (List (Nat × Instr)) := [[(0, .iload_n 0), (1, .bipush 6), (3, .if_icmp .le (7)), (6, .iconst 0), (7, .goto 13), (10, .iload_n 0), (11, .iconst 2), (12, .if_icmp .ge (7)), (15, .iconst 1), (16, .goto 4), (19, .iconst 2), (20, .ireturn)]]
def kF190 : List (Nat × Nat × Nat × Nat) := []
def kM190 : List (Nat × MF) := []
def kK190 : List (Nat × AV) := []
set_option maxRecDepth 100000 in
theorem ok190 : okX 190 kc190 kF190 kM190 kK190 = true := by decide +kernel
def kc191 : List (List (Nat × Instr)) := [[(0, .iload_n 2), (1, .iconst 1), (2, .if_icmp .eq (8)), (5, .iload_n 2), (6, .iconst 4), (7, .if_icmp .ne (21)), (10, .aload_n 0), (11, .getfield 26), (14, .iload_n 1), (15, .iload_n 2), (16, .iconst 1), (17, .isub), (18, .invokestatic 293), (21, .iconst 1), (22, .iadd), (23, .iaload), (24, .invokestatic 519), (27, .ireturn), (28, .aload_n 0), (29, .getfield 20)], [(32, .iload_n 1), (33, .iaload), (34, .invokestatic 519), (37, .istore_n 3), (38, .aload_n 0), (39, .getfield 23), (42, .iload_n 1), (43, .iaload), (44, .iconst (-1)), (45, .if_icmp .eq (16)), (48, .aload_n 0), (49, .getfield 23), (52, .iload_n 1), (53, .iaload), (54, .invokestatic 519), (57, .iload_n 3), (58, .if_icmp .ne (7)), (61, .iload_n 3), (62, .goto 4)], [(65, .iconst 0), (66, .ireturn)]]
def kF191 : List (Nat × Nat × Nat × Nat) := [(20, 11, 13, 26), (23, 11, 14, 26), (26, 11, 15, 26)]
def kM191 : List (Nat × MF) := [(293, 124, 0, 2, 2, 11, 1), (519, 190, 0, 1, 1, 11, 1)]
def kK191 : List (Nat × AV) := []
set_option maxRecDepth 100000 in
theorem ok191 : okX 191 kc191 kF191 kM191 kK191 = true := by decide +kernel
def kc192 : List (List (Nat × Instr)) := [[(0, .iload_n 0), (1, .lookupswitch (85) #[(42, 59), (43, 51), (45, 55), (60, 74), (61, 63)])], [(52, .iload_n 1), (53, .iload_n 2), (54, .iadd), (55, .ireturn), (56, .iload_n 1), (57, .iload_n 2), (58, .isub), (59, .ireturn), (60, .iload_n 1), (61, .iload_n 2), (62, .imul), (63, .ireturn)], [(64, .iload_n 1), (65, .iload_n 2), (66, .if_icmp .ne (7)), (69, .iconst 1), (70, .goto 4), (73, .iconst 0), (74, .ireturn), (75, .iload_n 1), (76, .iload_n 2), (77, .if_icmp .ge (7)), (80, .iconst 1), (81, .goto 4), (84, .iconst 0), (85, .ireturn), (86, .iload_n 1), (87, .iload_n 2), (88, .if_icmp .le (7)), (91, .iconst 1), (92, .goto 4), (95, .iconst 0)], [(96, .ireturn)]]
def kF192 : List (Nat × Nat × Nat × Nat) := []
def kM192 : List (Nat × MF) := []
def kK192 : List (Nat × AV) := []
set_option maxRecDepth 100000 in
theorem ok192 : okX 192 kc192 kF192 kM192 kK192 = true := by decide +kernel
def kc193 : List (List (Nat × Instr)) := [[(0, .aload_n 0), (1, .iconst 0), (2, .putfield 528), (5, .aload_n 0), (6, .iload_n 1), (7, .invokevirtual 420), (10, .ifCond .eq (20)), (13, .iload_n 3), (14, .ifCond .lt (16)), (17, .iload_n 3), (18, .iconst 3), (19, .if_icmp .gt (11)), (22, .iload 4), (24, .invokestatic 499), (27, .ifCond .ne (5)), (30, .iconst 0), (31, .ireturn)], [(32, .iload_n 2), (33, .ifCond .ge (7)), (36, .iconst (-1)), (37, .goto 9), (40, .aload_n 0), (41, .iload_n 1), (42, .iload_n 2), (43, .invokevirtual 435), (46, .istore 5), (48, .iload 5), (50, .iconst (-1)), (51, .if_icmp .ne (7)), (54, .iconst 0), (55, .goto 13), (58, .aload_n 0), (59, .iload_n 1), (60, .iload 5), (62, .iload_n 3), (63, .iload 4)], [(65, .invokevirtual 547), (68, .ireturn)]]
def kF193 : List (Nat × Nat × Nat × Nat) := [(528, 11, 32, 0)]
def kM193 : List (Nat × MF) := [(420, 159, 1, 1, 2, 11, 2), (435, 170, 1, 2, 5, 11, 1), (499, 175, 0, 1, 1, 11, 2), (547, 186, 1, 4, 11, 11, 1)]
def kK193 : List (Nat × AV) := []
set_option maxRecDepth 100000 in
theorem ok193 : okX 193 kc193 kF193 kM193 kK193 = true := by decide +kernel
def kc194 : List (List (Nat × Instr)) := [[(0, .aload_n 0), (1, .getfield 528), (4, .ireturn)]]
def kF194 : List (Nat × Nat × Nat × Nat) := [(528, 11, 32, 0)]
def kM194 : List (Nat × MF) := []
def kK194 : List (Nat × AV) := []
set_option maxRecDepth 100000 in
theorem ok194 : okX 194 kc194 kF194 kM194 kK194 = true := by decide +kernel
def kc195 : List (List (Nat × Instr)) := [[(0, .aload_n 0), (1, .iload_n 1), (2, .invokevirtual 420), (5, .ifCond .eq (11)), (8, .iload_n 2), (9, .iload_n 3), (10, .invokestatic 553), (13, .ifCond .ne (5)), (16, .iconst (-1)), (17, .ireturn), (18, .bipush 6), (20, .istore 4), (22, .iload 4), (24, .ifCond .lt (108)), (27, .iload_n 1), (28, .iload 4), (30, .invokestatic 293)], [(33, .istore 5), (35, .aload_n 0), (36, .getfield 26), (39, .iload 5), (41, .iaload), (42, .ifCond .ne (6)), (45, .goto 81), (48, .iload 4), (50, .iconst 1), (51, .if_icmp .eq (22)), (54, .iload 4), (56, .iconst 2), (57, .if_icmp .eq (16)), (60, .iload 4), (62, .iconst 4), (63, .if_icmp .eq (10))], [(66, .iload 4), (68, .bipush 6), (70, .if_icmp .ne (7)), (73, .iconst 1), (74, .goto 4), (77, .iconst 0), (78, .istore 6), (80, .iload 6), (82, .ifCond .eq (19)), (85, .aload_n 0), (86, .iload 5), (88, .iload 4), (90, .iload_n 2), (91, .iload_n 3), (92, .invokevirtual 566), (95, .ifCond .eq (31))], [(98, .goto 18), (101, .aload_n 0), (102, .getfield 26), (105, .iload 5), (107, .iaload), (108, .iload_n 2), (109, .iload_n 3), (110, .invokestatic 569), (113, .ifCond .eq (13)), (116, .aload_n 0), (117, .getfield 26), (120, .iload 5), (122, .iconst 1), (123, .iadd), (124, .iaload), (125, .ireturn), (126, .iinc 4 (-1))], [(129, .goto (-107)), (132, .aload_n 0), (133, .iload_n 1), (134, .iload_n 2), (135, .iload_n 3), (136, .invokevirtual 572), (139, .ireturn)]]
def kF195 : List (Nat × Nat × Nat × Nat) := [(26, 11, 15, 26)]
def kM195 : List (Nat × MF) := [(293, 124, 0, 2, 2, 11, 1), (420, 159, 1, 1, 2, 11, 2), (553, 196, 0, 2, 2, 11, 2), (566, 198, 1, 4, 12, 11, 2), (569, 202, 0, 3, 5, 11, 2), (572, 203, 1, 3, 7, 11, 1)]
def kK195 : List (Nat × AV) := []
set_option maxRecDepth 100000 in
theorem ok195 : okX 195 kc195 kF195 kM195 kK195 = true := by decide +kernel
def kc196 : List (List (Nat × Instr)) := [[(0, .iload_n 0), (1, .ifCond .lt (19)), (4, .iload_n 0), (5, .bipush 59), (7, .if_icmp .gt (13)), (10, .iload_n 1), (11, .ifCond .lt (9)), (14, .iload_n 1), (15, .bipush 71), (17, .if_icmp .le (5)), (20, .iconst 0), (21, .ireturn), (22, .iload_n 1), (23, .bipush 36), (25, .if_icmp .lt (30)), (28, .iconst 2), (29, .iload_n 0), (30, .imul), (31, .bipush 59)], [(33, .isub), (34, .invokestatic 550), (37, .bipush 59), (39, .iload_n 1), (40, .bipush 36), (42, .isub), (43, .iload_n 1), (44, .bipush 36), (46, .isub), (47, .imul), (48, .bipush 22), (50, .idiv), (51, .isub), (52, .if_icmp .gt (7)), (55, .iconst 1), (56, .goto 4), (59, .iconst 0), (60, .ireturn)]]
def kF196 : List (Nat × Nat × Nat × Nat) := []
def kM196 : List (Nat × MF) := [(550, 197, 0, 1, 1, 11, 1)]
def kK196 : List (Nat × AV) := []
set_option maxRecDepth 100000 in
theorem ok196 : okX 196 kc196 kF196 kM196 kK196 = true := by decide +kernel
def kc197 : List (List (Nat × Instr)) := [[(0, .iload_n 0), (1, .ifCond .ge (8)), (4, .iload_n 0), (5, .ineg), (6, .goto 4), (9, .iload_n 0), (10, .ireturn)]]
def kF197 : List (Nat × Nat × Nat × Nat) := []
def kM197 : List (Nat × MF) := []
def kK197 : List (Nat × AV) := []
set_option maxRecDepth 100000 in
theorem ok197 : okX 197 kc197 kF197 kM197 kK197 = true := by decide +kernel
def kc198 : List (List (Nat × Instr)) := [[(0, .aload_n 0), (1, .getfield 26), (4, .iload_n 1), (5, .iconst 2), (6, .iadd), (7, .iaload), (8, .istore 5), (10, .iload_n 2), (11, .bipush 6), (13, .if_icmp .ne (8)), (16, .bipush 8), (18, .goto 27), (21, .iload 5), (23, .iconst 1), (24, .if_icmp .ne (8)), (27, .bipush 16), (29, .goto 16)], [(32, .iload 5), (34, .iconst 4), (35, .if_icmp .ge (8)), (38, .bipush 12), (40, .goto 5), (43, .bipush 10), (45, .istore 6), (47, .iconst 2), (48, .iload_n 3), (49, .imul), (50, .bipush 59), (52, .isub), (53, .istore 7), (55, .iconst 2), (56, .iload 4), (58, .imul), (59, .bipush 71), (61, .isub), (62, .istore 8)], [(64, .iconst 0), (65, .istore 9), (67, .iload 9), (69, .iload 5), (71, .if_icmp .ge (108)), (74, .iload 5), (76, .iload 9), (78, .invokestatic 556), (81, .istore 10), (83, .iload 5), (85, .iload 9), (87, .invokestatic 559), (90, .istore 11), (92, .iload_n 2), (93, .iconst 1), (94, .if_icmp .eq (8))], [(97, .iload_n 2), (98, .iconst 4), (99, .if_icmp .ne (35)), (102, .iconst 2), (103, .iload 9), (105, .imul), (106, .iload 5), (108, .isub), (109, .iconst 1), (110, .iadd), (111, .iload 6), (113, .iconst 2), (114, .iadd), (115, .imul), (116, .istore 10), (118, .iload_n 2), (119, .iconst 4), (120, .if_icmp .ne (8)), (123, .bipush (-49)), (125, .goto 4)], [(128, .iconst 0), (129, .istore 11), (131, .goto 16), (134, .iload_n 2), (135, .bipush 6), (137, .if_icmp .ne (10)), (140, .iconst 0), (141, .istore 10), (143, .bipush (-30)), (145, .istore 11), (147, .aload_n 0), (148, .getfield 26), (151, .iload_n 1), (152, .iaload), (153, .iload 7), (155, .iload 10), (157, .isub), (158, .iload 8)], [(160, .iload 11), (162, .isub), (163, .iload 6), (165, .invokestatic 562), (168, .ifCond .eq (5)), (171, .iconst 1), (172, .ireturn), (173, .iinc 9 1), (176, .goto (-109)), (179, .iconst 0), (180, .ireturn)]]
def kF198 : List (Nat × Nat × Nat × Nat) := [(26, 11, 15, 26)]
def kM198 : List (Nat × MF) := [(556, 199, 0, 2, 2, 11, 1), (559, 200, 0, 2, 2, 11, 1), (562, 201, 0, 4, 7, 11, 2)]
def kK198 : List (Nat × AV) := []
set_option maxRecDepth 100000 in
theorem ok198 : okX 198 kc198 kF198 kM198 kK198 = true := by decide +kernel
def kc199 : List (List (Nat × Instr)) := [[(0, .iload_n 0), (1, .iconst 1), (2, .if_icmp .ne (5)), (5, .iconst 0), (6, .ireturn), (7, .iload_n 0), (8, .iconst 2), (9, .if_icmp .ne (15)), (12, .iload_n 1), (13, .ifCond .ne (8)), (16, .bipush (-20)), (18, .goto 5), (21, .bipush 20), (23, .ireturn), (24, .iload_n 0), (25, .iconst 3), (26, .if_icmp .ne (24)), (29, .iload_n 1), (30, .iconst 2), (31, .if_icmp .ne (7))], [(34, .iconst 0), (35, .goto 14), (38, .iload_n 1), (39, .ifCond .ne (8)), (42, .bipush (-20)), (44, .goto 5), (47, .bipush 20), (49, .ireturn), (50, .iload_n 0), (51, .bipush 6), (53, .if_icmp .ge (26)), (56, .iload_n 1), (57, .iconst 4), (58, .if_icmp .ne (7)), (61, .iconst 0), (62, .goto 16)], [(65, .iload_n 1), (66, .iconst 2), (67, .irem), (68, .ifCond .ne (8)), (71, .bipush (-20)), (73, .goto 5), (76, .bipush 20), (78, .ireturn), (79, .iload_n 1), (80, .iconst 3), (81, .if_icmp .ge (12)), (84, .bipush 24), (86, .iload_n 1), (87, .iconst 1), (88, .isub), (89, .imul), (90, .goto 21), (93, .iload_n 1), (94, .iconst 5), (95, .if_icmp .ne (7))], [(98, .iconst 0), (99, .goto 12), (102, .bipush 28), (104, .iload_n 1), (105, .iconst 3), (106, .isub), (107, .imul), (108, .bipush 14), (110, .isub), (111, .ireturn)]]
def kF199 : List (Nat × Nat × Nat × Nat) := []
def kM199 : List (Nat × MF) := []
def kK199 : List (Nat × AV) := []
set_option maxRecDepth 100000 in
theorem ok199 : okX 199 kc199 kF199 kM199 kK199 = true := by decide +kernel
def kc200 : List (List (Nat × Instr)) := [[(0, .iload_n 0), (1, .iconst 3), (2, .if_icmp .ge (5)), (5, .iconst 0), (6, .ireturn), (7, .iload_n 0), (8, .iconst 3), (9, .if_icmp .ne (16)), (12, .iload_n 1), (13, .iconst 2), (14, .if_icmp .ne (8)), (17, .bipush 20), (19, .goto 5), (22, .bipush (-30)), (24, .ireturn), (25, .iload_n 0), (26, .bipush 6), (28, .if_icmp .ge (26)), (31, .iload_n 1)], [(32, .iconst 4), (33, .if_icmp .ne (8)), (36, .bipush (-5)), (38, .goto 15), (41, .iload_n 1), (42, .iconst 2), (43, .if_icmp .ge (8)), (46, .bipush (-30)), (48, .goto 5), (51, .bipush 20), (53, .ireturn), (54, .iload_n 1), (55, .iconst 3), (56, .if_icmp .ge (8)), (59, .bipush (-30)), (61, .goto 14)], [(64, .iload_n 1), (65, .iconst 5), (66, .if_icmp .ne (8)), (69, .bipush 30), (71, .goto 4), (74, .iconst 0), (75, .ireturn)]]
def kF200 : List (Nat × Nat × Nat × Nat) := []
def kM200 : List (Nat × MF) := []
def kK200 : List (Nat × AV) := []
set_option maxRecDepth 100000 in
theorem ok200 : okX 200 kc200 kF200 kM200 kK200 = true := by decide +kernel
def kc201 : List (List (Nat × Instr)) := [[(0, .iload_n 3), (1, .iconst 2), (2, .idiv), (3, .istore 4), (5, .iload_n 1), (6, .invokestatic 550), (9, .iload_n 3), (10, .if_icmp .ge (15)), (13, .iload_n 2), (14, .invokestatic 550), (17, .iload_n 3), (18, .if_icmp .ge (7)), (21, .iconst 1), (22, .goto 4), (25, .iconst 0), (26, .istore 5), (28, .iload_n 1), (29, .iload_n 1), (30, .imul), (31, .iload_n 2)], [(32, .iload_n 2), (33, .imul), (34, .iadd), (35, .iload_n 3), (36, .iload_n 3), (37, .imul), (38, .if_icmp .ge (7)), (41, .iconst 1), (42, .goto 4), (45, .iconst 0), (46, .istore 6), (48, .iload_n 0), (49, .iconst 3), (50, .invokestatic 320), (53, .ifCond .eq (6)), (56, .iload 5), (58, .ireturn), (59, .iload_n 0), (60, .iconst 4), (61, .invokestatic 320)], [(64, .ifCond .eq (22)), (67, .iload_n 1), (68, .invokestatic 550), (71, .iload_n 2), (72, .invokestatic 550), (75, .iadd), (76, .iload_n 3), (77, .if_icmp .ge (7)), (80, .iconst 1), (81, .goto 4), (84, .iconst 0), (85, .ireturn), (86, .iload_n 0), (87, .iconst 5), (88, .invokestatic 320), (91, .ifCond .eq (6)), (94, .iload 6)], [(96, .ireturn), (97, .iload_n 0), (98, .tableswitch (187) (24) (29) #[38, 75, 107, 133, 136, 160])], [(136, .iload_n 1), (137, .invokestatic 550), (140, .iload_n 2), (141, .invokestatic 550), (144, .iadd), (145, .iload_n 3), (146, .if_icmp .lt (21)), (149, .iload_n 1), (150, .invokestatic 550), (153, .iload 4), (155, .if_icmp .ge (16)), (158, .iload_n 2), (159, .invokestatic 550)], [(162, .iload 4), (164, .if_icmp .ge (7)), (167, .iconst 1), (168, .goto 4), (171, .iconst 0), (172, .ireturn), (173, .iload 6), (175, .ifCond .eq (28)), (178, .iload_n 1), (179, .iload_n 1), (180, .imul), (181, .iload_n 2), (182, .iload 4), (184, .iadd), (185, .iload_n 2), (186, .iload 4), (188, .iadd), (189, .imul), (190, .iadd), (191, .iload_n 3)], [(192, .iload_n 3), (193, .imul), (194, .iconst 2), (195, .idiv), (196, .if_icmp .lt (7)), (199, .iconst 1), (200, .goto 4), (203, .iconst 0), (204, .ireturn), (205, .iload 6), (207, .ifCond .eq (22)), (210, .iload_n 1), (211, .iload_n 1), (212, .imul), (213, .iload_n 2), (214, .iload_n 2), (215, .imul), (216, .iadd), (217, .iload_n 3), (218, .iload_n 3), (219, .imul), (220, .iconst 4), (221, .idiv), (222, .if_icmp .lt (7))], [(225, .iconst 1), (226, .goto 4), (229, .iconst 0), (230, .ireturn), (231, .iload 6), (233, .ireturn), (234, .iconst 2), (235, .iload_n 1), (236, .invokestatic 550), (239, .imul), (240, .iload_n 3), (241, .if_icmp .ge (15)), (244, .iload_n 2), (245, .invokestatic 550), (248, .iload_n 3), (249, .if_icmp .ge (7)), (252, .iconst 1), (253, .goto 4)], [(256, .iconst 0), (257, .ireturn), (258, .iload 5), (260, .ifCond .eq (23)), (263, .iload_n 2), (264, .ifCond .gt (15)), (267, .iload_n 1), (268, .bipush 64), (270, .iadd), (271, .iconst 4), (272, .idiv), (273, .iconst 1), (274, .iand), (275, .iconst 1), (276, .if_icmp .ne (7)), (279, .iconst 1), (280, .goto 4), (283, .iconst 0), (284, .ireturn), (285, .iload_n 1), (286, .invokestatic 550)], [(289, .iload_n 3), (290, .if_icmp .ge (31)), (293, .iload_n 2), (294, .invokestatic 550), (297, .iconst 2), (298, .if_icmp .lt (19)), (301, .iload_n 2), (302, .ifCond .le (19)), (305, .iload_n 1), (306, .bipush 64), (308, .iadd), (309, .iconst 4), (310, .idiv), (311, .iconst 1), (312, .iand), (313, .iconst 1), (314, .if_icmp .ne (7)), (317, .iconst 1), (318, .goto 4)], [(321, .iconst 0), (322, .ireturn)]]
def kF201 : List (Nat × Nat × Nat × Nat) := []
def kM201 : List (Nat × MF) := [(320, 149, 0, 2, 3, 11, 2), (550, 197, 0, 1, 1, 11, 1)]
def kK201 : List (Nat × AV) := []
set_option maxRecDepth 100000 in
theorem ok201 : okX 201 kc201 kF201 kM201 kK201 = true := by decide +kernel
def kc202 : List (List (Nat × Instr)) := [[(0, .iconst 2), (1, .iload_n 1), (2, .imul), (3, .bipush 59), (5, .isub), (6, .istore_n 3), (7, .iconst 2), (8, .iload_n 2), (9, .imul), (10, .bipush 71), (12, .isub), (13, .istore 4), (15, .iload_n 0), (16, .tableswitch (219) (7) (14) #[48, 60, 75, 91, 109, 137, 162, 192])], [], [(64, .iload_n 2), (65, .bipush 22), (67, .if_icmp .ge (7)), (70, .iconst 1), (71, .goto 4), (74, .iconst 0), (75, .ireturn), (76, .iload_n 3), (77, .invokestatic 550), (80, .bipush 20), (82, .if_icmp .ge (7)), (85, .iconst 1), (86, .goto 4), (89, .iconst 0), (90, .ireturn), (91, .iload 4), (93, .invokestatic 550)], [(96, .bipush 24), (98, .if_icmp .ge (7)), (101, .iconst 1), (102, .goto 4), (105, .iconst 0), (106, .ireturn), (107, .iload_n 3), (108, .iload 4), (110, .isub), (111, .invokestatic 550), (114, .bipush 24), (116, .if_icmp .ge (7)), (119, .iconst 1), (120, .goto 4), (123, .iconst 0), (124, .ireturn), (125, .iload 4), (127, .iload_n 3)], [(128, .invokestatic 550), (131, .isub), (132, .invokestatic 550), (135, .bipush 20), (137, .if_icmp .ge (14)), (140, .iload 4), (142, .bipush (-30)), (144, .if_icmp .le (7)), (147, .iconst 1), (148, .goto 4), (151, .iconst 0), (152, .ireturn), (153, .iload_n 3), (154, .invokestatic 550), (157, .bipush 14), (159, .if_icmp .lt (13))], [(162, .iload 4), (164, .invokestatic 550), (167, .bipush 14), (169, .if_icmp .ge (7)), (172, .iconst 1), (173, .goto 4), (176, .iconst 0), (177, .ireturn), (178, .iload_n 3), (179, .iload 4), (181, .isub), (182, .invokestatic 550), (185, .bipush 18), (187, .if_icmp .lt (15)), (190, .iload_n 3), (191, .iload 4)], [(193, .iadd), (194, .invokestatic 550), (197, .bipush 18), (199, .if_icmp .ge (7)), (202, .iconst 1), (203, .goto 4), (206, .iconst 0), (207, .ireturn), (208, .iconst 3), (209, .iload_n 3), (210, .invokestatic 550), (213, .imul), (214, .bipush 71), (216, .iload 4), (218, .isub), (219, .if_icmp .ge (14)), (222, .iload 4)], [(224, .bipush 50), (226, .if_icmp .ge (7)), (229, .iconst 1), (230, .goto 4), (233, .iconst 0), (234, .ireturn), (235, .iload_n 1), (236, .iconst 5), (237, .isub), (238, .iload_n 2), (239, .invokestatic 553), (242, .ifCond .eq (33)), (245, .iload_n 1), (246, .iconst 5), (247, .iadd), (248, .iload_n 2), (249, .invokestatic 553), (252, .ifCond .eq (23)), (255, .iload_n 1)], [(256, .iload_n 2), (257, .iconst 5), (258, .isub), (259, .invokestatic 553), (262, .ifCond .eq (13)), (265, .iload_n 1), (266, .iload_n 2), (267, .iconst 5), (268, .iadd), (269, .invokestatic 553), (272, .ifCond .ne (7)), (275, .iconst 1), (276, .goto 4), (279, .iconst 0), (280, .ireturn)]]
def kF202 : List (Nat × Nat × Nat × Nat) := []
def kM202 : List (Nat × MF) := [(550, 197, 0, 1, 1, 11, 1), (553, 196, 0, 2, 2, 11, 2)]
def kK202 : List (Nat × AV) := []
set_option maxRecDepth 100000 in
theorem ok202 : okX 202 kc202 kF202 kM202 kK202 = true := by decide +kernel
def kc203 : List (List (Nat × Instr)) := [[(0, .iconst 2), (1, .iload_n 2), (2, .imul), (3, .bipush 59), (5, .isub), (6, .istore 4), (8, .iconst 2), (9, .iload_n 3), (10, .imul), (11, .bipush 71), (13, .isub), (14, .istore 5), (16, .aload_n 0), (17, .getfield 16), (20, .iload_n 1), (21, .iaload), (22, .tableswitch (245) (0) (9) #[54, 60, 75, 90, 107, 127, 150, 183, 203, 223])], [], [(76, .iconst 0), (77, .istore 6), (79, .goto 210), (82, .iload 4), (84, .ifCond .le (7)), (87, .iconst 1), (88, .goto 4), (91, .iconst 0), (92, .istore 6), (94, .goto 195)], [(97, .iload 5), (99, .ifCond .le (7)), (102, .iconst 1), (103, .goto 4), (106, .iconst 0), (107, .istore 6), (109, .goto 180), (112, .iload 4), (114, .iload 5), (116, .if_icmp .le (7)), (119, .iconst 1), (120, .goto 4), (123, .iconst 0), (124, .istore 6), (126, .goto 163)], [(129, .iload 5), (131, .iload 4), (133, .invokestatic 550), (136, .if_icmp .le (7)), (139, .iconst 1), (140, .goto 4), (143, .iconst 0), (144, .istore 6), (146, .goto 143), (149, .iload 4), (151, .invokestatic 550), (154, .iload 5), (156, .invokestatic 550), (159, .if_icmp .le (7))], [(162, .iconst 1), (163, .goto 4), (166, .iconst 0), (167, .istore 6), (169, .goto 120), (172, .iload 4), (174, .ifCond .le (7)), (177, .iconst 1), (178, .goto 4), (181, .iconst 0), (182, .iload 5), (184, .ifCond .le (7)), (187, .iconst 1), (188, .goto 4), (191, .iconst 0)], [(192, .if_icmp .eq (7)), (195, .iconst 1), (196, .goto 4), (199, .iconst 0), (200, .istore 6), (202, .goto 87), (205, .iload_n 2), (206, .bipush 10), (208, .idiv), (209, .iconst 1), (210, .iand), (211, .iconst 1), (212, .if_icmp .ne (7)), (215, .iconst 1), (216, .goto 4), (219, .iconst 0), (220, .istore 6), (222, .goto 67)], [(225, .iload_n 3), (226, .bipush 12), (228, .idiv), (229, .iconst 1), (230, .iand), (231, .iconst 1), (232, .if_icmp .ne (7)), (235, .iconst 1), (236, .goto 4), (239, .iconst 0), (240, .istore 6), (242, .goto 47), (245, .iload_n 2), (246, .iload_n 3), (247, .iadd), (248, .bipush 12), (250, .idiv), (251, .iconst 1), (252, .iand), (253, .iconst 1), (254, .if_icmp .ne (7))], [(257, .iconst 1), (258, .goto 4), (261, .iconst 0), (262, .istore 6), (264, .goto 25), (267, .iload_n 2), (268, .bipush 10), (270, .idiv), (271, .iload_n 3), (272, .bipush 12), (274, .idiv), (275, .iadd), (276, .iconst 1), (277, .iand), (278, .iconst 1), (279, .if_icmp .ne (7)), (282, .iconst 1), (283, .goto 4), (286, .iconst 0), (287, .istore 6)], [(289, .iload 6), (291, .ifCond .eq (12)), (294, .aload_n 0), (295, .getfield 23), (298, .iload_n 1), (299, .iaload), (300, .goto 9), (303, .aload_n 0), (304, .getfield 20), (307, .iload_n 1), (308, .iaload), (309, .ireturn)]]
def kF203 : List (Nat × Nat × Nat × Nat) := [(16, 11, 12, 26), (20, 11, 13, 26), (23, 11, 14, 26)]
def kM203 : List (Nat × MF) := [(550, 197, 0, 1, 1, 11, 1)]
def kK203 : List (Nat × AV) := []
set_option maxRecDepth 100000 in
theorem ok203 : okX 203 kc203 kF203 kM203 kK203 = true := by decide +kernel
def kc204 : List (List (Nat × Instr)) := [[(0, .aload_n 0), (1, .iload_n 1), (2, .invokevirtual 420), (5, .ifCond .eq (13)), (8, .iload_n 2), (9, .ifCond .lt (9)), (12, .iload_n 2), (13, .bipush 8), (15, .if_icmp .le (5)), (18, .iconst (-1)), (19, .ireturn), (20, .iconst 0), (21, .istore_n 3), (22, .iconst 0), (23, .istore 4), (25, .iload 4), (27, .bipush 72), (29, .if_icmp .ge (46))], [(32, .iconst 0), (33, .istore 5), (35, .iload 5), (37, .bipush 60), (39, .if_icmp .ge (30)), (42, .iload_n 3), (43, .aload_n 0), (44, .iload_n 1), (45, .iload 5), (47, .iload 4), (49, .invokevirtual 575), (52, .iload_n 2), (53, .if_icmp .ne (7)), (56, .iconst 1), (57, .goto 4), (60, .iconst 0), (61, .iadd), (62, .istore_n 3), (63, .iinc 5 1)], [(66, .goto (-31)), (69, .iinc 4 1), (72, .goto (-47)), (75, .iload_n 3), (76, .ireturn)]]
def kF204 : List (Nat × Nat × Nat × Nat) := []
def kM204 : List (Nat × MF) := [(420, 159, 1, 1, 2, 11, 2), (575, 195, 1, 3, 7, 11, 1)]
def kK204 : List (Nat × AV) := []
set_option maxRecDepth 100000 in
theorem ok204 : okX 204 kc204 kF204 kM204 kK204 = true := by decide +kernel
def kc205 : List (List (Nat × Instr)) := [[(0, .aload_n 0), (1, .getfield 578), (4, .bipush 100), (6, .if_icmp .ne (5)), (9, .iconst (-1)), (10, .ireturn), (11, .iload_n 2), (12, .iconst (-1)), (13, .if_icmp .ne (12)), (16, .iload_n 3), (17, .iconst (-1)), (18, .if_icmp .ne (7)), (21, .iconst 1), (22, .goto 4), (25, .iconst 0), (26, .istore 5), (28, .iload 5), (30, .ifCond .eq (15))], [(33, .aload_n 0), (34, .iload 4), (36, .invokevirtual 420), (39, .ifCond .ne (52)), (42, .goto 47), (45, .aload_n 0), (46, .iload_n 2), (47, .invokevirtual 581), (50, .ifCond .eq (39)), (53, .aload_n 0), (54, .iload_n 3), (55, .invokevirtual 581), (58, .ifCond .eq (31)), (61, .aload_n 0), (62, .getfield 74)], [(65, .iload_n 2), (66, .baload), (67, .ifCond .eq (22)), (70, .aload_n 0), (71, .getfield 74), (74, .iload_n 3), (75, .baload), (76, .ifCond .ne (13)), (79, .aload_n 0), (80, .getfield 87), (83, .iload_n 2), (84, .iaload), (85, .iload_n 3), (86, .if_icmp .eq (5)), (89, .iconst (-1)), (90, .ireturn), (91, .aload_n 0), (92, .getfield 74), (95, .aload_n 0)], [(96, .getfield 578), (99, .iload_n 1), (100, .bastore), (101, .aload_n 0), (102, .getfield 78), (105, .aload_n 0), (106, .getfield 578), (109, .iload_n 2), (110, .iastore), (111, .aload_n 0), (112, .getfield 81), (115, .aload_n 0), (116, .getfield 578), (119, .iload_n 3), (120, .iastore), (121, .aload_n 0), (122, .getfield 84), (125, .aload_n 0), (126, .getfield 578)], [(129, .iload 5), (131, .ifCond .eq (8)), (134, .iload 4), (136, .goto 4), (139, .iconst (-1)), (140, .iastore), (141, .aload_n 0), (142, .getfield 87), (145, .aload_n 0), (146, .getfield 578), (149, .iconst (-1)), (150, .iastore), (151, .aload_n 0), (152, .aload_n 0), (153, .getfield 578), (156, .iconst 1), (157, .iadd), (158, .putfield 578)], [(161, .aload_n 0), (162, .getfield 578), (165, .iconst 1), (166, .isub), (167, .ireturn)]]
def kF205 : List (Nat × Nat × Nat × Nat) := [(74, 11, 41, 29), (78, 11, 42, 26), (81, 11, 43, 26), (84, 11, 44, 26), (87, 11, 45, 26), (578, 11, 40, 0)]
def kM205 : List (Nat × MF) := [(420, 159, 1, 1, 2, 11, 2), (581, 206, 1, 1, 2, 11, 2)]
def kK205 : List (Nat × AV) := []
set_option maxRecDepth 100000 in
theorem ok205 : okX 205 kc205 kF205 kM205 kK205 = true := by decide +kernel
def kc206 : List (List (Nat × Instr)) := [[(0, .iload_n 1), (1, .ifCond .lt (15)), (4, .iload_n 1), (5, .aload_n 0), (6, .getfield 578), (9, .if_icmp .ge (7)), (12, .iconst 1), (13, .goto 4), (16, .iconst 0), (17, .ireturn)]]
def kF206 : List (Nat × Nat × Nat × Nat) := [(578, 11, 40, 0)]
def kM206 : List (Nat × MF) := []
def kK206 : List (Nat × AV) := []
set_option maxRecDepth 100000 in
theorem ok206 : okX 206 kc206 kF206 kM206 kK206 = true := by decide +kernel
def kc207 : List (List (Nat × Instr)) := [[(0, .aload_n 0), (1, .iload_n 1), (2, .invokevirtual 581), (5, .ifCond .eq (49)), (8, .aload_n 0), (9, .iload_n 2), (10, .invokevirtual 581), (13, .ifCond .eq (41)), (16, .aload_n 0), (17, .getfield 74), (20, .iload_n 1), (21, .baload), (22, .ifCond .eq (32)), (25, .aload_n 0), (26, .getfield 74), (29, .iload_n 2), (30, .baload), (31, .ifCond .ne (23))], [(34, .aload_n 0), (35, .getfield 87), (38, .iload_n 1), (39, .iaload), (40, .iconst (-1)), (41, .if_icmp .ne (13)), (44, .aload_n 0), (45, .getfield 87), (48, .iload_n 2), (49, .iaload), (50, .iconst (-1)), (51, .if_icmp .eq (5)), (54, .iconst 0), (55, .ireturn), (56, .aload_n 0), (57, .getfield 87), (60, .iload_n 1), (61, .iload_n 2), (62, .iastore), (63, .aload_n 0)], [(64, .getfield 87), (67, .iload_n 2), (68, .iload_n 1), (69, .iastore), (70, .iconst 1), (71, .ireturn)]]
def kF207 : List (Nat × Nat × Nat × Nat) := [(74, 11, 41, 29), (87, 11, 45, 26)]
def kM207 : List (Nat × MF) := [(581, 206, 1, 1, 2, 11, 2)]
def kK207 : List (Nat × AV) := []
set_option maxRecDepth 100000 in
theorem ok207 : okX 207 kc207 kF207 kM207 kK207 = true := by decide +kernel
def kc208 : List (List (Nat × Instr)) := [[(0, .aload_n 0), (1, .iload_n 1), (2, .invokevirtual 581), (5, .ifCond .ne (5)), (8, .iconst (-1)), (9, .ireturn), (10, .iconst 0), (11, .istore_n 3), (12, .iload_n 2), (13, .tableswitch (224) (0) (5) #[39, 51, 65, 135, 167, 174])], [(52, .aload_n 0), (53, .iload_n 1), (54, .invokevirtual 590), (57, .aload_n 0), (58, .getfield 93), (61, .iload_n 1), (62, .iaload), (63, .ireturn)], [(64, .aload_n 0), (65, .iload_n 1), (66, .invokevirtual 587), (69, .ifCond .eq (7)), (72, .iconst 1), (73, .goto 4), (76, .iconst 0), (77, .ireturn), (78, .iconst 0), (79, .istore 4), (81, .iload 4), (83, .iload_n 1), (84, .if_icmp .ge (62)), (87, .aload_n 0), (88, .getfield 74), (91, .iload_n 1), (92, .baload), (93, .ifCond .eq (53))], [(96, .aload_n 0), (97, .getfield 78), (100, .iload_n 1), (101, .iaload), (102, .iconst (-1)), (103, .if_icmp .eq (43)), (106, .iload_n 3), (107, .aload_n 0), (108, .getfield 74), (111, .iload 4), (113, .baload), (114, .ifCond .eq (23)), (117, .aload_n 0), (118, .getfield 78), (121, .iload 4), (123, .iaload), (124, .aload_n 0), (125, .getfield 78)], [(128, .iload_n 1), (129, .iaload), (130, .if_icmp .ne (7)), (133, .iconst 1), (134, .goto 4), (137, .iconst 0), (138, .iadd), (139, .istore_n 3), (140, .iinc 4 1), (143, .goto (-62)), (146, .iload_n 3), (147, .ireturn), (148, .iload_n 1), (149, .istore 4), (151, .aload_n 0), (152, .getfield 78), (155, .iload 4), (157, .iaload), (158, .iconst (-1)), (159, .if_icmp .eq (19))], [(162, .iload_n 3), (163, .iconst 1), (164, .iadd), (165, .istore_n 3), (166, .aload_n 0), (167, .getfield 78), (170, .iload 4), (172, .iaload), (173, .istore 4), (175, .goto (-24)), (178, .iload_n 3), (179, .ireturn), (180, .aload_n 0), (181, .getfield 87), (184, .iload_n 1), (185, .iaload), (186, .ireturn), (187, .iconst 0), (188, .istore 4), (190, .iload 4)], [(192, .aload_n 0), (193, .getfield 578), (196, .if_icmp .ge (39)), (199, .iload_n 3), (200, .aload_n 0), (201, .getfield 78), (204, .iload 4), (206, .iaload), (207, .iload_n 1), (208, .if_icmp .eq (14)), (211, .aload_n 0), (212, .getfield 81), (215, .iload 4), (217, .iaload), (218, .iload_n 1), (219, .if_icmp .ne (7)), (222, .iconst 1), (223, .goto 4)], [(226, .iconst 0), (227, .iadd), (228, .istore_n 3), (229, .iinc 4 1), (232, .goto (-42)), (235, .iload_n 3), (236, .ireturn), (237, .iload_n 2), (238, .bipush 100), (240, .if_icmp .ge (5)), (243, .iconst (-1)), (244, .ireturn), (245, .aload_n 0), (246, .iload_n 1), (247, .invokevirtual 590), (250, .iload_n 2), (251, .bipush 100), (253, .isub), (254, .aload_n 0), (255, .getfield 93)], [(258, .iload_n 1), (259, .iaload), (260, .if_icmp .ge (20)), (263, .aload_n 0), (264, .getfield 90), (267, .bipush 32), (269, .iload_n 1), (270, .imul), (271, .iload_n 2), (272, .iadd), (273, .bipush 100), (275, .isub), (276, .iaload), (277, .goto 4), (280, .iconst (-1)), (281, .ireturn)]]
def kF208 : List (Nat × Nat × Nat × Nat) := [(74, 11, 41, 29), (78, 11, 42, 26), (81, 11, 43, 26), (87, 11, 45, 26), (90, 11, 46, 26), (93, 11, 47, 26), (578, 11, 40, 0)]
def kM208 : List (Nat × MF) := [(581, 206, 1, 1, 2, 11, 2), (587, 211, 1, 1, 3, 11, 2), (590, 209, 1, 1, 3, 11, 0)]
def kK208 : List (Nat × AV) := []
set_option maxRecDepth 100000 in
theorem ok208 : okX 208 kc208 kF208 kM208 kK208 = true := by decide +kernel
def kc209 : List (List (Nat × Instr)) := [[(0, .iconst 0), (1, .istore_n 2), (2, .iload_n 2), (3, .iload_n 1), (4, .if_icmp .gt (86)), (7, .aload_n 0), (8, .getfield 93), (11, .iload_n 2), (12, .iconst 0), (13, .iastore), (14, .aload_n 0), (15, .getfield 78), (18, .iload_n 2), (19, .iaload), (20, .iconst (-1)), (21, .if_icmp .ne (28)), (24, .aload_n 0), (25, .getfield 90), (28, .bipush 32), (30, .iload_n 2), (31, .imul)], [(32, .aload_n 0), (33, .getfield 84), (36, .iload_n 2), (37, .iaload), (38, .iastore), (39, .aload_n 0), (40, .getfield 93), (43, .iload_n 2), (44, .iconst 1), (45, .iastore), (46, .goto 38), (49, .aload_n 0), (50, .iload_n 2), (51, .aload_n 0), (52, .getfield 78), (55, .iload_n 2), (56, .iaload), (57, .invokevirtual 584), (60, .aload_n 0), (61, .aload_n 0), (62, .getfield 81)], [(65, .iload_n 2), (66, .iaload), (67, .invokevirtual 587), (70, .ifCond .eq (14)), (73, .aload_n 0), (74, .iload_n 2), (75, .aload_n 0), (76, .getfield 81), (79, .iload_n 2), (80, .iaload), (81, .invokevirtual 584), (84, .iinc 2 1), (87, .goto (-85)), (90, .return_)]]
def kF209 : List (Nat × Nat × Nat × Nat) := [(78, 11, 42, 26), (81, 11, 43, 26), (84, 11, 44, 26), (90, 11, 46, 26), (93, 11, 47, 26)]
def kM209 : List (Nat × MF) := [(584, 210, 1, 2, 7, 11, 0), (587, 211, 1, 1, 3, 11, 2)]
def kK209 : List (Nat × AV) := []
set_option maxRecDepth 100000 in
theorem ok209 : okX 209 kc209 kF209 kM209 kK209 = true := by decide +kernel
def kc210 : List (List (Nat × Instr)) := [[(0, .iconst 0), (1, .istore_n 3), (2, .iload_n 3), (3, .aload_n 0), (4, .getfield 93), (7, .iload_n 2), (8, .iaload), (9, .if_icmp .ge (125)), (12, .aload_n 0), (13, .getfield 90), (16, .bipush 32), (18, .iload_n 2), (19, .imul), (20, .iload_n 3), (21, .iadd), (22, .iaload), (23, .istore 4), (25, .iconst 0), (26, .istore 5), (28, .iconst 0), (29, .istore 6), (31, .iload 6)], [(33, .aload_n 0), (34, .getfield 93), (37, .iload_n 1), (38, .iaload), (39, .if_icmp .ge (38)), (42, .iload 5), (44, .ifCond .ne (20)), (47, .aload_n 0), (48, .getfield 90), (51, .bipush 32), (53, .iload_n 1), (54, .imul), (55, .iload 6), (57, .iadd), (58, .iaload), (59, .iload 4), (61, .if_icmp .ne (7))], [(64, .iconst 1), (65, .goto 4), (68, .iconst 0), (69, .istore 5), (71, .iinc 6 1), (74, .goto (-43)), (77, .iload 5), (79, .ifCond .ne (49)), (82, .aload_n 0), (83, .getfield 93), (86, .iload_n 1), (87, .iaload), (88, .bipush 32), (90, .if_icmp .ne (6)), (93, .goto 35)], [(96, .aload_n 0), (97, .getfield 90), (100, .bipush 32), (102, .iload_n 1), (103, .imul), (104, .aload_n 0), (105, .getfield 93), (108, .iload_n 1), (109, .iaload), (110, .iadd), (111, .iload 4), (113, .iastore), (114, .aload_n 0), (115, .getfield 93), (118, .iload_n 1), (119, .aload_n 0), (120, .getfield 93), (123, .iload_n 1), (124, .iaload), (125, .iconst 1), (126, .iadd), (127, .iastore)], [(128, .iinc 3 1), (131, .goto (-129)), (134, .return_)]]
def kF210 : List (Nat × Nat × Nat × Nat) := [(90, 11, 46, 26), (93, 11, 47, 26)]
def kM210 : List (Nat × MF) := []
def kK210 : List (Nat × AV) := []
set_option maxRecDepth 100000 in
theorem ok210 : okX 210 kc210 kF210 kM210 kK210 = true := by decide +kernel
def kc211 : List (List (Nat × Instr)) := [[(0, .aload_n 0), (1, .getfield 74), (4, .iload_n 1), (5, .baload), (6, .ifCond .ne (13)), (9, .aload_n 0), (10, .getfield 78), (13, .iload_n 1), (14, .iaload), (15, .iconst (-1)), (16, .if_icmp .ne (5)), (19, .iconst 0), (20, .ireturn), (21, .iconst 0), (22, .istore_n 2), (23, .iload_n 2), (24, .aload_n 0), (25, .getfield 578), (28, .if_icmp .ge (35)), (31, .aload_n 0)], [(32, .getfield 74), (35, .iload_n 2), (36, .baload), (37, .ifCond .eq (20)), (40, .aload_n 0), (41, .getfield 78), (44, .iload_n 2), (45, .iaload), (46, .aload_n 0), (47, .getfield 78), (50, .iload_n 1), (51, .iaload), (52, .if_icmp .ne (5)), (55, .iconst 0), (56, .ireturn), (57, .iinc 2 1), (60, .goto (-37)), (63, .iconst 1)], [(64, .ireturn)]]
def kF211 : List (Nat × Nat × Nat × Nat) := [(74, 11, 41, 29), (78, 11, 42, 26), (578, 11, 40, 0)]
def kM211 : List (Nat × MF) := []
def kK211 : List (Nat × AV) := []
set_option maxRecDepth 100000 in
theorem ok211 : okX 211 kc211 kF211 kM211 kK211 = true := by decide +kernel
def kc212 : List (List (Nat × Instr)) := [[(0, .iload_n 1), (1, .ifCond .ne (8)), (4, .aload_n 0), (5, .getfield 297), (8, .ireturn), (9, .iload_n 1), (10, .iconst 1), (11, .if_icmp .ne (8)), (14, .aload_n 0), (15, .getfield 578), (18, .ireturn), (19, .iload_n 1), (20, .iconst 2), (21, .if_icmp .ne (8)), (24, .aload_n 0), (25, .getfield 99), (28, .ireturn), (29, .iload_n 1), (30, .iconst 3), (31, .if_icmp .lt (20))], [(34, .iload_n 1), (35, .bipush 7), (37, .if_icmp .ge (14)), (40, .aload_n 0), (41, .getfield 32), (44, .iload_n 1), (45, .iconst 3), (46, .isub), (47, .iaload), (48, .goto 4), (51, .iconst (-1)), (52, .ireturn)]]
def kF212 : List (Nat × Nat × Nat × Nat) := [(32, 11, 18, 26), (99, 11, 1, 0), (297, 11, 11, 0), (578, 11, 40, 0)]
def kM212 : List (Nat × MF) := []
def kK212 : List (Nat × AV) := []
set_option maxRecDepth 100000 in
theorem ok212 : okX 212 kc212 kF212 kM212 kK212 = true := by decide +kernel
def kc213 : List (List (Nat × Instr)) := [[(0, .iload_n 1), (1, .iload_n 2), (2, .invokestatic 15), (5, .ifCond .ne (5)), (8, .iconst (-1)), (9, .ireturn), (10, .bipush 6), (12, .istore_n 3), (13, .iload_n 3), (14, .ifCond .lt (37)), (17, .aload_n 0), (18, .iload_n 3), (19, .invokevirtual 19), (22, .astore 4), (24, .aload 4), (26, .ifnull 19), (29, .aload 4), (31, .iload_n 1)], [(32, .iload_n 2), (33, .invokestatic 25), (36, .ifCond .eq (9)), (39, .aload 4), (41, .getfield 29), (44, .ireturn), (45, .iinc 3 (-1)), (48, .goto (-35)), (51, .aload_n 0), (52, .getfield 35), (55, .iload_n 1), (56, .iload_n 2), (57, .invokestatic 38), (60, .ifCond .eq (10)), (63, .aload_n 0)], [(64, .getfield 42), (67, .goto 7), (70, .aload_n 0), (71, .getfield 45), (74, .ireturn)]]
def kF213 : List (Nat × Nat × Nat × Nat) := [(29, 3, 4, 0), (35, 7, 0, 0), (42, 7, 2, 0), (45, 7, 1, 0)]
def kM213 : List (Nat × MF) := [(15, 214, 0, 2, 2, 12, 2), (19, 56, 1, 1, 2, 7, 8), (25, 215, 0, 3, 3, 12, 2), (38, 224, 0, 3, 5, 12, 2)]
def kK213 : List (Nat × AV) := []
set_option maxRecDepth 100000 in
theorem ok213 : okX 213 kc213 kF213 kM213 kK213 = true := by decide +kernel
def kc214 : List (List (Nat × Instr)) := [[(0, .iload_n 0), (1, .ifCond .lt (19)), (4, .iload_n 0), (5, .bipush 60), (7, .if_icmp .ge (13)), (10, .iload_n 1), (11, .ifCond .lt (9)), (14, .iload_n 1), (15, .bipush 72), (17, .if_icmp .lt (5)), (20, .iconst 0), (21, .ireturn), (22, .iload_n 1), (23, .bipush 36), (25, .if_icmp .lt (30)), (28, .iconst 2), (29, .iload_n 0), (30, .imul), (31, .bipush 59)], [(33, .isub), (34, .invokestatic 48), (37, .bipush 59), (39, .iload_n 1), (40, .bipush 36), (42, .isub), (43, .iload_n 1), (44, .bipush 36), (46, .isub), (47, .imul), (48, .bipush 22), (50, .idiv), (51, .isub), (52, .if_icmp .gt (7)), (55, .iconst 1), (56, .goto 4), (59, .iconst 0), (60, .ireturn)]]
def kF214 : List (Nat × Nat × Nat × Nat) := []
def kM214 : List (Nat × MF) := []
def kK214 : List (Nat × AV) := []
set_option maxRecDepth 100000 in
theorem ok214 : okX 214 kc214 kF214 kM214 kK214 = true := by decide +kernel
def kc215 : List (List (Nat × Instr)) := [[(0, .aload_n 0), (1, .getfield 58), (4, .lookupswitch (114) #[(0, 36), (3, 56), (5, 68)])], [(40, .aload_n 0), (41, .getfield 61), (44, .iconst 2), (45, .iload_n 1), (46, .imul), (47, .bipush 59), (49, .isub), (50, .iconst 2), (51, .iload_n 2), (52, .imul), (53, .bipush 71), (55, .isub), (56, .invokestatic 64), (59, .ireturn), (60, .iload_n 2), (61, .bipush 22), (63, .if_icmp .ge (7))], [(66, .iconst 1), (67, .goto 4), (70, .iconst 0), (71, .ireturn), (72, .iload_n 1), (73, .iconst 5), (74, .isub), (75, .iload_n 2), (76, .invokestatic 15), (79, .ifCond .eq (33)), (82, .iload_n 1), (83, .iconst 5), (84, .iadd), (85, .iload_n 2), (86, .invokestatic 15), (89, .ifCond .eq (23)), (92, .iload_n 1), (93, .iload_n 2), (94, .iconst 5), (95, .isub)], [(96, .invokestatic 15), (99, .ifCond .eq (13)), (102, .iload_n 1), (103, .iload_n 2), (104, .iconst 5), (105, .iadd), (106, .invokestatic 15), (109, .ifCond .ne (7)), (112, .iconst 1), (113, .goto 4), (116, .iconst 0), (117, .ireturn), (118, .aload_n 0), (119, .iconst 2), (120, .iload_n 1), (121, .imul), (122, .bipush 59), (124, .isub), (125, .iconst 2), (126, .iload_n 2), (127, .imul)], [(128, .bipush 71), (130, .isub), (131, .invokestatic 67), (134, .ireturn)]]
def kF215 : List (Nat × Nat × Nat × Nat) := [(58, 3, 0, 0), (61, 3, 1, 0)]
def kM215 : List (Nat × MF) := [(15, 214, 0, 2, 2, 12, 2), (64, 216, 0, 3, 3, 12, 2), (67, 217, 0, 3, 5, 12, 2)]
def kK215 : List (Nat × AV) := []
set_option maxRecDepth 100000 in
theorem ok215 : okX 215 kc215 kF215 kM215 kK215 = true := by decide +kernel
def kc216 : List (List (Nat × Instr)) := [[(0, .iload_n 0), (1, .tableswitch (193) (8) (14) #[43, 58, 73, 90, 116, 140, 168])], [(44, .iload_n 1), (45, .invokestatic 48), (48, .bipush 20), (50, .if_icmp .ge (7)), (53, .iconst 1), (54, .goto 4), (57, .iconst 0), (58, .ireturn), (59, .iload_n 2), (60, .invokestatic 48), (63, .bipush 24)], [(65, .if_icmp .ge (7)), (68, .iconst 1), (69, .goto 4), (72, .iconst 0), (73, .ireturn), (74, .iload_n 1), (75, .iload_n 2), (76, .isub), (77, .invokestatic 48), (80, .bipush 24), (82, .if_icmp .ge (7)), (85, .iconst 1), (86, .goto 4), (89, .iconst 0), (90, .ireturn), (91, .iload_n 2), (92, .iload_n 1), (93, .invokestatic 48)], [(96, .isub), (97, .invokestatic 48), (100, .bipush 20), (102, .if_icmp .ge (13)), (105, .iload_n 2), (106, .bipush (-30)), (108, .if_icmp .le (7)), (111, .iconst 1), (112, .goto 4), (115, .iconst 0), (116, .ireturn), (117, .iload_n 1), (118, .invokestatic 48), (121, .bipush 14), (123, .if_icmp .lt (12)), (126, .iload_n 2), (127, .invokestatic 48)], [(130, .bipush 14), (132, .if_icmp .ge (7)), (135, .iconst 1), (136, .goto 4), (139, .iconst 0), (140, .ireturn), (141, .iload_n 1), (142, .iload_n 2), (143, .isub), (144, .invokestatic 48), (147, .bipush 18), (149, .if_icmp .lt (14)), (152, .iload_n 1), (153, .iload_n 2), (154, .iadd), (155, .invokestatic 48), (158, .bipush 18)], [(160, .if_icmp .ge (7)), (163, .iconst 1), (164, .goto 4), (167, .iconst 0), (168, .ireturn), (169, .iconst 3), (170, .iload_n 1), (171, .invokestatic 48), (174, .imul), (175, .bipush 71), (177, .iload_n 2), (178, .isub), (179, .if_icmp .ge (13)), (182, .iload_n 2), (183, .bipush 50), (185, .if_icmp .ge (7)), (188, .iconst 1), (189, .goto 4)], [(192, .iconst 0), (193, .ireturn), (194, .iconst 0), (195, .ireturn)]]
def kF216 : List (Nat × Nat × Nat × Nat) := []
def kM216 : List (Nat × MF) := []
def kK216 : List (Nat × AV) := []
set_option maxRecDepth 100000 in
theorem ok216 : okX 216 kc216 kF216 kM216 kK216 = true := by decide +kernel
def kc217 : List (List (Nat × Instr)) := [[(0, .aload_n 0), (1, .invokestatic 70), (4, .istore_n 3), (5, .iconst 0), (6, .istore 4), (8, .iload 4), (10, .aload_n 0), (11, .getfield 74), (14, .if_icmp .ge (39)), (17, .aload_n 0), (18, .getfield 61), (21, .iload_n 3), (22, .iload_n 1), (23, .aload_n 0), (24, .iload_n 3), (25, .iload 4), (27, .invokestatic 77), (30, .isub), (31, .iload_n 2)], [(32, .aload_n 0), (33, .iload 4), (35, .invokestatic 81), (38, .isub), (39, .invokestatic 85), (42, .ifCond .eq (5)), (45, .iconst 1), (46, .ireturn), (47, .iinc 4 1), (50, .goto (-42)), (53, .iconst 0), (54, .ireturn)]]
def kF217 : List (Nat × Nat × Nat × Nat) := [(61, 3, 1, 0), (74, 3, 2, 0)]
def kM217 : List (Nat × MF) := [(70, 218, 0, 1, 1, 12, 1), (77, 219, 0, 3, 3, 12, 1), (81, 220, 0, 2, 2, 12, 1), (85, 221, 0, 4, 4, 12, 2)]
def kK217 : List (Nat × AV) := []
set_option maxRecDepth 100000 in
theorem ok217 : okX 217 kc217 kF217 kM217 kK217 = true := by decide +kernel
def kc218 : List (List (Nat × Instr)) := [[(0, .aload_n 0), (1, .getfield 58), (4, .bipush 6), (6, .if_icmp .ne (6)), (9, .bipush 8), (11, .ireturn), (12, .aload_n 0), (13, .getfield 74), (16, .iconst 1), (17, .if_icmp .ne (6)), (20, .bipush 16), (22, .ireturn), (23, .aload_n 0), (24, .getfield 74), (27, .iconst 3), (28, .if_icmp .gt (8)), (31, .bipush 12)], [(33, .goto 5), (36, .bipush 10), (38, .ireturn)]]
def kF218 : List (Nat × Nat × Nat × Nat) := [(58, 3, 0, 0), (74, 3, 2, 0)]
def kM218 : List (Nat × MF) := []
def kK218 : List (Nat × AV) := []
set_option maxRecDepth 100000 in
theorem ok218 : okX 218 kc218 kF218 kM218 kK218 = true := by decide +kernel
def kc219 : List (List (Nat × Instr)) := [[(0, .aload_n 0), (1, .getfield 58), (4, .iconst 2), (5, .if_icmp .ne (25)), (8, .getstatic 89), (11, .aload_n 0), (12, .getfield 74), (15, .aload_n 0), (16, .getfield 74), (19, .iconst 1), (20, .isub), (21, .imul), (22, .iconst 2), (23, .idiv), (24, .iload_n 2), (25, .iadd), (26, .invokestatic 93), (29, .ireturn), (30, .iconst 2), (31, .iload_n 2)], [(32, .imul), (33, .aload_n 0), (34, .getfield 74), (37, .iconst 1), (38, .isub), (39, .isub), (40, .iload_n 1), (41, .iconst 2), (42, .iadd), (43, .imul), (44, .ireturn)]]
def kF219 : List (Nat × Nat × Nat × Nat) := [(58, 3, 0, 0), (74, 3, 2, 0)]
def kM219 : List (Nat × MF) := [(93, 101, 0, 2, 2, 10, 1)]
def kK219 : List (Nat × AV) := [(89, .inr (.inr (42, some 1)))]
set_option maxRecDepth 100000 in
theorem ok219 : okX 219 kc219 kF219 kM219 kK219 = true := by decide +kernel
def kc220 : List (List (Nat × Instr)) := [[(0, .aload_n 0), (1, .getfield 58), (4, .tableswitch (64) (2) (6) #[36, 64, 58, 64, 61])], [(40, .getstatic 97), (43, .aload_n 0), (44, .getfield 74), (47, .aload_n 0), (48, .getfield 74), (51, .iconst 1), (52, .isub), (53, .imul), (54, .iconst 2), (55, .idiv), (56, .iload_n 1), (57, .iadd), (58, .invokestatic 93), (61, .ireturn), (62, .bipush (-49))], [(64, .ireturn), (65, .bipush (-30)), (67, .ireturn), (68, .iconst 0), (69, .ireturn)]]
def kF220 : List (Nat × Nat × Nat × Nat) := [(58, 3, 0, 0), (74, 3, 2, 0)]
def kM220 : List (Nat × MF) := [(93, 101, 0, 2, 2, 10, 1)]
def kK220 : List (Nat × AV) := [(97, .inr (.inr (42, some 2)))]
set_option maxRecDepth 100000 in
theorem ok220 : okX 220 kc220 kF220 kM220 kK220 = true := by decide +kernel
def kc221 : List (List (Nat × Instr)) := [[(0, .iload_n 0), (1, .invokestatic 100), (4, .tableswitch (88) (3) (5) #[28, 50, 69])], [(32, .iload_n 2), (33, .invokestatic 48), (36, .iload_n 1), (37, .if_icmp .ge (15)), (40, .iload_n 3), (41, .invokestatic 48), (44, .iload_n 1), (45, .if_icmp .ge (7)), (48, .iconst 1), (49, .goto 4), (52, .iconst 0), (53, .ireturn), (54, .iload_n 2), (55, .invokestatic 48), (58, .iload_n 3), (59, .invokestatic 48), (62, .iadd), (63, .iload_n 1)], [(64, .if_icmp .ge (7)), (67, .iconst 1), (68, .goto 4), (71, .iconst 0), (72, .ireturn), (73, .iload_n 2), (74, .iload_n 2), (75, .imul), (76, .iload_n 3), (77, .iload_n 3), (78, .imul), (79, .iadd), (80, .iload_n 1), (81, .iload_n 1), (82, .imul), (83, .if_icmp .ge (7)), (86, .iconst 1), (87, .goto 4), (90, .iconst 0), (91, .ireturn), (92, .iload_n 0), (93, .iload_n 1), (94, .iload_n 2), (95, .iload_n 3)], [(96, .invokestatic 103), (99, .ireturn)]]
def kF221 : List (Nat × Nat × Nat × Nat) := []
def kM221 : List (Nat × MF) := [(100, 100, 0, 1, 1, 10, 1), (103, 222, 0, 4, 8, 12, 2)]
def kK221 : List (Nat × AV) := []
set_option maxRecDepth 100000 in
theorem ok221 : okX 221 kc221 kF221 kM221 kK221 = true := by decide +kernel
def kc222 : List (List (Nat × Instr)) := [[(0, .iload_n 2), (1, .invokestatic 48), (4, .istore 4), (6, .iload_n 3), (7, .invokestatic 48), (10, .istore 5), (12, .iload_n 2), (13, .iload_n 2), (14, .imul), (15, .iload_n 3), (16, .iload_n 3), (17, .imul), (18, .iadd), (19, .istore 6), (21, .iload_n 3), (22, .iload_n 1), (23, .iconst 2), (24, .idiv), (25, .iadd), (26, .istore 7), (28, .iload_n 0), (29, .tableswitch (231) (24) (30) #[43, 74, 105, 129, 143, 163, 197])], [], [(72, .iload 4), (74, .iload 5), (76, .iadd), (77, .iload_n 1), (78, .if_icmp .lt (19)), (81, .iload 4), (83, .iload_n 1), (84, .iconst 2), (85, .idiv), (86, .if_icmp .ge (15)), (89, .iload 5), (91, .iload_n 1), (92, .iconst 2), (93, .idiv), (94, .if_icmp .ge (7))], [(97, .iconst 1), (98, .goto 4), (101, .iconst 0), (102, .ireturn), (103, .iload 6), (105, .iload_n 1), (106, .iload_n 1), (107, .imul), (108, .if_icmp .ge (24)), (111, .iload_n 2), (112, .iload_n 2), (113, .imul), (114, .iload 7), (116, .iload 7), (118, .imul), (119, .iadd), (120, .iload_n 1), (121, .iload_n 1), (122, .imul), (123, .iconst 2), (124, .idiv), (125, .if_icmp .lt (7))], [(128, .iconst 1), (129, .goto 4), (132, .iconst 0), (133, .ireturn), (134, .iload 6), (136, .iload_n 1), (137, .iload_n 1), (138, .imul), (139, .if_icmp .ge (17)), (142, .iload 6), (144, .iload_n 1), (145, .iload_n 1), (146, .imul), (147, .iconst 4), (148, .idiv), (149, .if_icmp .lt (7)), (152, .iconst 1), (153, .goto 4), (156, .iconst 0), (157, .ireturn), (158, .iload 6)], [(160, .iload_n 1), (161, .iload_n 1), (162, .imul), (163, .if_icmp .ge (7)), (166, .iconst 1), (167, .goto 4), (170, .iconst 0), (171, .ireturn), (172, .iconst 2), (173, .iload 4), (175, .imul), (176, .iload_n 1), (177, .if_icmp .ge (13)), (180, .iload 5), (182, .iload_n 1), (183, .if_icmp .ge (7)), (186, .iconst 1), (187, .goto 4), (190, .iconst 0), (191, .ireturn)], [(192, .iload 4), (194, .iload_n 1), (195, .if_icmp .ge (29)), (198, .iload 5), (200, .iload_n 1), (201, .if_icmp .ge (23)), (204, .iload_n 3), (205, .ifCond .gt (15)), (208, .iload_n 2), (209, .bipush 64), (211, .iadd), (212, .iconst 4), (213, .idiv), (214, .invokestatic 54), (217, .ifCond .eq (7)), (220, .iconst 1), (221, .goto 4)], [(224, .iconst 0), (225, .ireturn), (226, .iload 4), (228, .iload_n 1), (229, .if_icmp .ge (29)), (232, .iload 5), (234, .iconst 2), (235, .if_icmp .lt (19)), (238, .iload_n 3), (239, .ifCond .le (19)), (242, .iload_n 2), (243, .bipush 64), (245, .iadd), (246, .iconst 4), (247, .idiv), (248, .invokestatic 54), (251, .ifCond .eq (7)), (254, .iconst 1), (255, .goto 4)], [(258, .iconst 0), (259, .ireturn), (260, .iconst 0), (261, .ireturn)]]
def kF222 : List (Nat × Nat × Nat × Nat) := []
def kM222 : List (Nat × MF) := [(54, 223, 0, 1, 1, 12, 2)]
def kK222 : List (Nat × AV) := []
set_option maxRecDepth 100000 in
theorem ok222 : okX 222 kc222 kF222 kM222 kK222 = true := by decide +kernel
def kc223 : List (List (Nat × Instr)) := [[(0, .iload_n 0), (1, .iconst 1), (2, .iand), (3, .iconst 1), (4, .if_icmp .ne (7)), (7, .iconst 1), (8, .goto 4), (11, .iconst 0), (12, .ireturn)]]
def kF223 : List (Nat × Nat × Nat × Nat) := []
def kM223 : List (Nat × MF) := []
def kK223 : List (Nat × AV) := []
set_option maxRecDepth 100000 in
theorem ok223 : okX 223 kc223 kF223 kM223 kK223 = true := by decide +kernel
def kc224 : List (List (Nat × Instr)) := [[(0, .iconst 2), (1, .iload_n 1), (2, .imul), (3, .bipush 59), (5, .isub), (6, .istore_n 3), (7, .iconst 2), (8, .iload_n 2), (9, .imul), (10, .bipush 71), (12, .isub), (13, .istore 4), (15, .iload_n 0), (16, .tableswitch (189) (1) (10) #[56, 66, 77, 89, 104, 122, 150, 158, 166, 176])], [], [(72, .iload_n 3), (73, .ifCond .le (7)), (76, .iconst 1), (77, .goto 4), (80, .iconst 0), (81, .ireturn), (82, .iload 4), (84, .ifCond .le (7)), (87, .iconst 1), (88, .goto 4), (91, .iconst 0), (92, .ireturn), (93, .iload_n 3), (94, .iload 4)], [(96, .if_icmp .le (7)), (99, .iconst 1), (100, .goto 4), (103, .iconst 0), (104, .ireturn), (105, .iload 4), (107, .iload_n 3), (108, .invokestatic 48), (111, .if_icmp .le (7)), (114, .iconst 1), (115, .goto 4), (118, .iconst 0), (119, .ireturn), (120, .iload_n 3), (121, .invokestatic 48), (124, .iload 4), (126, .invokestatic 48)], [(129, .if_icmp .le (7)), (132, .iconst 1), (133, .goto 4), (136, .iconst 0), (137, .ireturn), (138, .iload_n 3), (139, .ifCond .le (7)), (142, .iconst 1), (143, .goto 4), (146, .iconst 0), (147, .iload 4), (149, .ifCond .le (7)), (152, .iconst 1), (153, .goto 4), (156, .iconst 0), (157, .if_icmp .eq (7))], [(160, .iconst 1), (161, .goto 4), (164, .iconst 0), (165, .ireturn), (166, .iload_n 1), (167, .bipush 10), (169, .idiv), (170, .invokestatic 54), (173, .ireturn), (174, .iload_n 2), (175, .bipush 12), (177, .idiv), (178, .invokestatic 54), (181, .ireturn), (182, .iload_n 1), (183, .iload_n 2), (184, .iadd), (185, .bipush 12), (187, .idiv), (188, .invokestatic 54), (191, .ireturn)], [(192, .iload_n 1), (193, .bipush 10), (195, .idiv), (196, .iload_n 2), (197, .bipush 12), (199, .idiv), (200, .iadd), (201, .invokestatic 54), (204, .ireturn), (205, .iconst 0), (206, .ireturn)]]
def kF224 : List (Nat × Nat × Nat × Nat) := []
def kM224 : List (Nat × MF) := [(54, 223, 0, 1, 1, 12, 2)]
def kK224 : List (Nat × AV) := []
set_option maxRecDepth 100000 in
theorem ok224 : okX 224 kc224 kF224 kM224 kK224 = true := by decide +kernel
def kc225 : List (List (Nat × Instr)) := [[(0, .bipush 9), (2, .newarray .int), (4, .astore_n 1), (5, .iconst 0), (6, .istore_n 2), (7, .iload_n 2), (8, .bipush 72), (10, .if_icmp .ge (51)), (13, .iconst 0), (14, .istore_n 3), (15, .iload_n 3), (16, .bipush 60), (18, .if_icmp .ge (37)), (21, .aload_n 0), (22, .iload_n 3), (23, .iload_n 2), (24, .invokestatic 11), (27, .istore 4), (29, .iload 4), (31, .ifCond .lt (18))], [(34, .iload 4), (36, .bipush 9), (38, .if_icmp .ge (11)), (41, .aload_n 1), (42, .iload 4), (44, .dup2), (45, .iaload), (46, .iconst 1), (47, .iadd), (48, .iastore), (49, .iinc 3 1), (52, .goto (-37)), (55, .iinc 2 1), (58, .goto (-51)), (61, .aload_n 1), (62, .areturn)]]
def kF225 : List (Nat × Nat × Nat × Nat) := []
def kM225 : List (Nat × MF) := [(11, 213, 0, 3, 5, 12, 1)]
def kK225 : List (Nat × AV) := []
set_option maxRecDepth 100000 in
theorem ok225 : okX 225 kc225 kF225 kM225 kK225 = true := by decide +kernel
def kc226 : List (List (Nat × Instr)) := [[(0, .aload_n 0), (1, .invokevirtual 492), (4, .ifCond .eq (13)), (7, .aload_n 0), (8, .getfield 9), (11, .invokestatic 299), (14, .goto 10), (17, .aload_n 0), (18, .getfield 9), (21, .invokestatic 303), (24, .areturn)]]
def kF226 : List (Nat × Nat × Nat × Nat) := [(9, 40, 0, 3)]
def kM226 : List (Nat × MF) := [(299, 233, 0, 1, 2, 44, 28), (492, 227, 1, 0, 1, 40, 2)]
def kK226 : List (Nat × AV) := []
set_option maxRecDepth 100000 in
theorem ok226 : okX 226 kc226 kF226 kM226 kK226 = true := by decide +kernel
def kc227 : List (List (Nat × Instr)) := [[(0, .getstatic 38), (3, .ifCond .eq (14)), (6, .aload_n 0), (7, .getfield 15), (10, .ifCond .ne (7)), (13, .iconst 1), (14, .goto 4), (17, .iconst 0), (18, .ireturn)]]
def kF227 : List (Nat × Nat × Nat × Nat) := [(15, 40, 1, 4)]
def kM227 : List (Nat × MF) := []
def kK227 : List (Nat × AV) := [(38, .inl 1)]
set_option maxRecDepth 100000 in
theorem ok227 : okX 227 kc227 kF227 kM227 kK227 = true := by decide +kernel
def kc228 : List (List (Nat × Instr)) := [[(0, .aload_n 0), (1, .getfield 9), (4, .arraylength), (5, .aload_n 0), (6, .invokevirtual 335), (9, .ishr), (10, .ireturn)]]
def kF228 : List (Nat × Nat × Nat × Nat) := [(9, 40, 0, 3)]
def kM228 : List (Nat × MF) := [(335, 229, 1, 0, 1, 40, 2)]
def kK228 : List (Nat × AV) := []
set_option maxRecDepth 100000 in
theorem ok228 : okX 228 kc228 kF228 kM228 kK228 = true := by decide +kernel
def kc229 : List (List (Nat × Instr)) := [[(0, .getstatic 38), (3, .ifCond .eq (10)), (6, .aload_n 0), (7, .getfield 15), (10, .goto 4), (13, .iconst 1), (14, .ireturn)]]
def kF229 : List (Nat × Nat × Nat × Nat) := [(15, 40, 1, 4)]
def kM229 : List (Nat × MF) := []
def kK229 : List (Nat × AV) := [(38, .inl 1)]
set_option maxRecDepth 100000 in
theorem ok229 : okX 229 kc229 kF229 kM229 kK229 = true := by decide +kernel
def kc230 : List (List (Nat × Instr)) := [[(0, .aload_n 0), (1, .invokevirtual 492), (4, .ifCond .eq (12)), (7, .aload_n 0), (8, .getfield 9), (11, .iload_n 1), (12, .invokestatic 495), (15, .ireturn), (16, .aload_n 0), (17, .getfield 9), (20, .iload_n 1), (21, .invokestatic 498), (24, .ireturn)]]
def kF230 : List (Nat × Nat × Nat × Nat) := [(9, 40, 0, 3)]
def kM230 : List (Nat × MF) := [(492, 227, 1, 0, 1, 40, 2), (495, 235, 0, 2, 2, 44, 2)]
def kK230 : List (Nat × AV) := []
set_option maxRecDepth 100000 in
theorem ok230 : okX 230 kc230 kF230 kM230 kK230 = true := by decide +kernel
def kc231 : List (List (Nat × Instr)) := [[(0, .aload_n 0), (1, .iload_n 1), (2, .iconst 0), (3, .invokevirtual 633), (6, .ireturn)]]
def kF231 : List (Nat × Nat × Nat × Nat) := []
def kM231 : List (Nat × MF) := [(633, 232, 1, 2, 3, 40, 1)]
def kK231 : List (Nat × AV) := []
set_option maxRecDepth 100000 in
theorem ok231 : okX 231 kc231 kF231 kM231 kK231 = true := by decide +kernel
def kc232 : List (List (Nat × Instr)) := [[(0, .aload_n 0), (1, .invokevirtual 492), (4, .ifCond .eq (19)), (7, .aload_n 0), (8, .getfield 9), (11, .iload_n 1), (12, .iload_n 2), (13, .aload_n 0), (14, .invokevirtual 505), (17, .invokestatic 637), (20, .goto 16), (23, .aload_n 0), (24, .getfield 9), (27, .iload_n 1), (28, .iload_n 2), (29, .aload_n 0), (30, .invokevirtual 505)], [(33, .invokestatic 640), (36, .ireturn)]]
def kF232 : List (Nat × Nat × Nat × Nat) := [(9, 40, 0, 3)]
def kM232 : List (Nat × MF) := [(492, 227, 1, 0, 1, 40, 2), (505, 228, 1, 0, 1, 40, 1), (637, 236, 0, 4, 4, 44, 1)]
def kK232 : List (Nat × AV) := []
set_option maxRecDepth 100000 in
theorem ok232 : okX 232 kc232 kF232 kM232 kK232 = true := by decide +kernel
def kc233 : List (List (Nat × Instr)) := [[(0, .aload_n 0), (1, .arraylength), (2, .newarray .char), (4, .astore_n 1), (5, .aload_n 0), (6, .iconst 0), (7, .aload_n 1), (8, .iconst 0), (9, .aload_n 0), (10, .arraylength), (11, .invokestatic 13), (14, .aload_n 1), (15, .areturn)]]
def kF233 : List (Nat × Nat × Nat × Nat) := []
def kM233 : List (Nat × MF) := [(13, 234, 0, 5, 6, 44, 0)]
def kK233 : List (Nat × AV) := []
set_option maxRecDepth 100000 in
theorem ok233 : okX 233 kc233 kF233 kM233 kK233 = true := by decide +kernel
def kc234 : List (List (Nat × Instr)) := [[(0, .iconst 0), (1, .istore 5), (3, .iload 5), (5, .iload 4), (7, .if_icmp .ge (26)), (10, .aload_n 2), (11, .iload_n 3), (12, .iinc 3 1), (15, .aload_n 0), (16, .iload_n 1), (17, .iinc 1 1), (20, .baload), (21, .sipush 255), (24, .iand), (25, .i2c), (26, .castore), (27, .iinc 5 1), (30, .goto (-27))], [(33, .return_)]]
def kF234 : List (Nat × Nat × Nat × Nat) := []
def kM234 : List (Nat × MF) := []
def kK234 : List (Nat × AV) := []
set_option maxRecDepth 100000 in
theorem ok234 : okX 234 kc234 kF234 kM234 kK234 = true := by decide +kernel
def kc235 : List (List (Nat × Instr)) := [[(0, .iload_n 1), (1, .aload_n 0), (2, .arraylength), (3, .invokestatic 9), (6, .aload_n 0), (7, .iload_n 1), (8, .baload), (9, .sipush 255), (12, .iand), (13, .i2c), (14, .ireturn)]]
def kF235 : List (Nat × Nat × Nat × Nat) := []
def kM235 : List (Nat × MF) := []
def kK235 : List (Nat × AV) := []
set_option maxRecDepth 100000 in
theorem ok235 : okX 235 kc235 kF235 kM235 kK235 = true := by decide +kernel
def kc236 : List (List (Nat × Instr)) := [[(0, .iload_n 1), (1, .invokestatic 88), (4, .ifCond .ne (5)), (7, .iconst (-1)), (8, .ireturn), (9, .iload_n 2), (10, .iconst 0), (11, .invokestatic 92), (14, .istore_n 2), (15, .iload_n 3), (16, .aload_n 0), (17, .arraylength), (18, .invokestatic 38), (21, .istore_n 3), (22, .iload_n 2), (23, .iload_n 3), (24, .if_icmp .lt (5)), (27, .iconst (-1)), (28, .ireturn), (29, .aload_n 0), (30, .iload_n 1), (31, .iload_n 2)], [(32, .iload_n 3), (33, .invokestatic 95), (36, .ireturn)]]
def kF236 : List (Nat × Nat × Nat × Nat) := []
def kM236 : List (Nat × MF) := [(88, 237, 0, 1, 1, 44, 2), (95, 238, 0, 4, 6, 44, 1)]
def kK236 : List (Nat × AV) := []
set_option maxRecDepth 100000 in
theorem ok236 : okX 236 kc236 kF236 kM236 kK236 = true := by decide +kernel
def kc237 : List (List (Nat × Instr)) := [[(0, .iload_n 0), (1, .ifCond .lt (14)), (4, .iload_n 0), (5, .sipush 255), (8, .if_icmp .gt (7)), (11, .iconst 1), (12, .goto 4), (15, .iconst 0), (16, .ireturn)]]
def kF237 : List (Nat × Nat × Nat × Nat) := []
def kM237 : List (Nat × MF) := []
def kK237 : List (Nat × AV) := []
set_option maxRecDepth 100000 in
theorem ok237 : okX 237 kc237 kF237 kM237 kK237 = true := by decide +kernel
def kc238 : List (List (Nat × Instr)) := [[(0, .iload_n 1), (1, .i2b), (2, .istore 4), (4, .iload_n 2), (5, .istore 5), (7, .iload 5), (9, .iload_n 3), (10, .if_icmp .ge (21)), (13, .aload_n 0), (14, .iload 5), (16, .baload), (17, .iload 4), (19, .if_icmp .ne (6)), (22, .iload 5), (24, .ireturn), (25, .iinc 5 1), (28, .goto (-21)), (31, .iconst (-1))], [(32, .ireturn)]]
def kF238 : List (Nat × Nat × Nat × Nat) := []
def kM238 : List (Nat × MF) := []
def kK238 : List (Nat × AV) := []
set_option maxRecDepth 100000 in
theorem ok238 : okX 238 kc238 kF238 kM238 kK238 = true := by decide +kernel
end
section
set_option maxHeartbeats 60000 in
theorem v1 {d : Nat} {Q : Option AV → Hp → Prop} {P : Nat → List AV → List AV → Hp → Prop} (hP : Cl (Call d) 1 Q P) (o : Nat) (l1 : Int32) (h : Hp) (v : CI d 94 [vI l1] h (fun x2 h1 => (x2 = 0 → Q none h1) ∧ (¬ x2 = 0 → dr (jR h1 0 o 1) (fun a3 => vp_in l1 (jLen h1 31 a3) ∧ (dr (jR h1 0 o 1) (fun a4 => vp_in l1 (jLen h1 31 a4) ∧ (Q none (wR (wR h1 31 a4 (ix l1) (jR h1 0 o 2)) 0 o 2 (jR h1 31 a3 (ix l1)))))))))) : P 0 [vR 0 (some o), vI l1, un] [] h :=
  Cl.runX ok1 hP [] 18 (CI.of (fun x2 h1 w => ⟨fun c5 => (w.1 c5), fun c5 => (dr_mono (fun a3 w => ⟨w.1, (dr_mono (fun a4 w => ⟨w.1, w.2⟩) w.2)⟩) (w.2 c5))⟩) v)
set_option maxHeartbeats 60000 in
theorem v2 {d : Nat} {Q : Option AV → Hp → Prop} {P : Nat → List AV → List AV → Hp → Prop} (hP : Cl (Call d) 2 Q P) (o : Nat) (l1 : Int32) (h : Hp) (v : CI d 94 [vI l1] h (fun x2 h1 => (x2 = 0 → Q (some (vI (-1))) h1) ∧ (¬ x2 = 0 → dr (jR h1 0 o 1) (fun a3 => vp_in l1 (jLen h1 31 a3) ∧ (dr (jR h1 31 a3 (ix l1)) (fun a4 => Q (some (vI (jI h1 1 a4 0))) h1)))))) : P 0 [vR 0 (some o), vI l1] [] h :=
  Cl.runX ok2 hP [] 10 (CI.of (fun x2 h1 w => ⟨fun c5 => (w.1 c5), fun c5 => (dr_mono (fun a3 w => ⟨w.1, (dr_mono (fun a4 w => w) w.2)⟩) (w.2 c5))⟩) v)
set_option maxHeartbeats 60000 in
theorem v4 {d : Nat} {Q : Option AV → Hp → Prop} {P : Nat → List AV → List AV → Hp → Prop} (hP : Cl (Call d) 4 Q P) (o : Nat) (l1 : Int32) (l2 : Int32) (h : Hp) (v : (¬ l1 - l1 / 2 * 2 = 0 → Q (some (vR 1 (jR h 0 o 0))) h) ∧ (¬ (¬ l1 - l1 / 2 * 2 = 0) → CI d 94 [vI l2] h (fun x2 h1 => (x2 = 0 → Q (some (vR 1 (jR h1 0 o 0))) h1) ∧ (¬ x2 = 0 → dr (jR h1 0 o 1) (fun a3 => vp_in l2 (jLen h1 31 a3) ∧ (Q (some (vR 1 (jR h1 31 a3 (ix l2)))) h1)))))) : P 0 [vR 0 (some o), vI l1, vI l2] [] h :=
  Cl.runX ok4 hP [] 13 ⟨by decide, ⟨fun c4 => (v.1 c4), fun c4 => (CI.of (fun x2 h1 w => ⟨fun c5 => (w.1 c5), fun c5 => (dr_mono (fun a3 w => ⟨w.1, w.2⟩) (w.2 c5))⟩) (v.2 c4))⟩⟩
set_option maxHeartbeats 60000 in
theorem v11 {d : Nat} {Q : Option AV → Hp → Prop} {P : Nat → List AV → List AV → Hp → Prop} (hP : Cl (Call d) 11 Q P) (o : Nat) (h : Hp) (v : Q none (wI (wI h 1 o 0 0) 1 o 1 0)) : P 0 [vR 1 (some o)] [] h :=
  Cl.runX ok11 hP [] 7 v
set_option maxHeartbeats 60000 in
theorem v12 {d : Nat} {Q : Option AV → Hp → Prop} {P : Nat → List AV → List AV → Hp → Prop} (hP : Cl (Call d) 12 Q P) (o : Nat) (h : Hp) (v : (jI h 1 o 0 < 12 → Q (some (vI 0)) h) ∧ (¬ jI h 1 o 0 < 12 → Q (some (vI 1)) h)) : P 0 [vR 1 (some o)] [] h :=
  Cl.runX ok12 hP [] 7 ⟨fun c1 => ⟨rfl, (v.1 c1)⟩, fun c1 => ⟨rfl, (v.2 c1)⟩⟩
set_option maxHeartbeats 60000 in
theorem v16 {d : Nat} {Q : Option AV → Hp → Prop} {P : Nat → List AV → List AV → Hp → Prop} (hP : Cl (Call d) 16 Q P) (o : Nat) (l1 : Option Nat) (h : Hp) (v : Q none (wR h 2 o 0 l1)) : P 0 [vR 2 (some o), vR 9 l1] [] h :=
  Cl.runX ok16 hP [] 6 v
set_option maxHeartbeats 60000 in
theorem v29 {d : Nat} {Q : Option AV → Hp → Prop} {P : Nat → List AV → List AV → Hp → Prop} (hP : Cl (Call d) 29 Q P) (o : Nat) (h : Hp) (v : ∀ a1 h2, a1 = jN h 23 → h2 = mk h 23 256 256 → Q none (wR h2 4 o 0 (some a1))) : P 0 [vR 4 (some o)] [] h :=
  Cl.runX ok29 hP [] 7 ⟨by decide, by decide, (v _ _ rfl rfl)⟩
set_option maxHeartbeats 60000 in
theorem v33 {d : Nat} {Q : Option AV → Hp → Prop} {P : Nat → List AV → List AV → Hp → Prop} (hP : Cl (Call d) 33 Q P) (o : Nat) (l1 : Int32) (h : Hp) (v : dr (jR h 4 o 0) (fun a1 => (Int32.ofNat (jLen h 23 a1) ≤ jI h 4 o 1 → Q none h) ∧ (¬ Int32.ofNat (jLen h 23 a1) ≤ jI h 4 o 1 → dr (jR h 4 o 0) (fun a2 => vp_in (jI h 4 o 1) (jLen h 23 a2) ∧ (Q none (wI (wI h 23 a2 (ix (jI h 4 o 1)) (vp_nar .char l1)) 4 o 1 ((jI (wI h 23 a2 (ix (jI h 4 o 1)) (vp_nar .char l1)) 4 o 1) + 1))))))) : P 0 [vR 4 (some o), vI l1] [] h :=
  Cl.runX ok33 hP [] 19 (dr_mono (fun a1 w => ⟨fun c3 => (w.1 c3), fun c3 => (dr_mono (fun a2 w => ⟨w.1, w.2⟩) (w.2 c3))⟩) v)
set_option maxHeartbeats 60000 in
theorem v35 {d : Nat} {Q : Option AV → Hp → Prop} {P : Nat → List AV → List AV → Hp → Prop} (hP : Cl (Call d) 35 Q P) (o : Nat) (l1 : Option Nat) (h : Hp) (v : dr l1 (fun a1 => (¬ jI h 3 a1 2 = 1 → dr l1 (fun a2 => CV d 32 [vR 4 (some o), vR 40 (some 14), vI ((jI h 3 a2 1) - 16)] h (fun h3 => Q none h3))) ∧ (¬ (¬ jI h 3 a1 2 = 1) → dr l1 (fun a4 => CV d 32 [vR 4 (some o), vR 40 (some 13), vI (jI h 3 a4 1)] h (fun h5 => Q none h5))))) : P 0 [vR 4 (some o), vR 3 l1] [] h :=
  Cl.runX ok35 hP [] 12 (dr_mono (fun a1 w => ⟨fun c6 => (dr_mono (fun a2 w => (CV.of (fun h3 w => w) w)) (w.1 c6)), fun c6 => (dr_mono (fun a4 w => (CV.of (fun h5 w => w) w)) (w.2 c6))⟩) v)
set_option maxHeartbeats 60000 in
theorem v37 {d : Nat} {Q : Option AV → Hp → Prop} {P : Nat → List AV → List AV → Hp → Prop} (hP : Cl (Call d) 37 Q P) (o : Nat) (l1 : Int32) (h : Hp) (v : (l1 < 0 → Q (some (vI (-1))) h) ∧ (¬ l1 < 0 → (jI h 4 o 1 ≤ l1 → Q (some (vI (-1))) h) ∧ (¬ jI h 4 o 1 ≤ l1 → dr (jR h 4 o 0) (fun a1 => vp_in l1 (jLen h 23 a1) ∧ (Q (some (vI (jI h 23 a1 (ix l1)))) h))))) : P 0 [vR 4 (some o), vI l1] [] h :=
  Cl.runX ok37 hP [] 12 ⟨fun c2 => (v.1 c2), fun c2 => ⟨fun c3 => ((v.2 c2).1 c3), fun c3 => (dr_mono (fun a1 w => ⟨w.1, w.2⟩) ((v.2 c2).2 c3))⟩⟩
set_option maxHeartbeats 60000 in
theorem v39 {d : Nat} {Q : Option AV → Hp → Prop} {P : Nat → List AV → List AV → Hp → Prop} (hP : Cl (Call d) 39 Q P) (o : Nat) (l1 : Int32) (l2 : Int32) (l3 : Int32) (h : Hp) (v : ∀ a1 h2, a1 = jN h 21 → h2 = mk h 21 32 32 → (l2 = 0 ∨ l2 = 1) ∧ (Q none (wI (wI (wI (wR (wR (wI (wI (wR h2 5 o 10 (some a1)) 5 o 0 l1) 5 o 1 l2) 5 o 2 none) 5 o 3 none) 5 o 4 l3) 5 o 5 0) 5 o 6 0))) : P 0 [vR 5 (some o), vI l1, vI l2, vI l3] [] h :=
  Cl.runX ok39 hP [] 28 ⟨by decide, by decide, ⟨(v _ _ rfl rfl).1, (v _ _ rfl rfl).2⟩⟩
set_option maxHeartbeats 60000 in
theorem v43 {d : Nat} {Q : Option AV → Hp → Prop} {P : Nat → List AV → List AV → Hp → Prop} (hP : Cl (Call d) 43 Q P) (o : Nat) (h : Hp) (v : (¬ jI h 5 o 1 = 0 → Q (some (vI 0)) h) ∧ (¬ (¬ jI h 5 o 1 = 0) → ((jR h 5 o 2) = none → Q (some (vI 0)) h) ∧ (¬ (jR h 5 o 2) = none → dr (jR h 5 o 2) (fun a1 => (¬ jI h 5 a1 8 = 0 → Q (some (vI 0)) h) ∧ (¬ (¬ jI h 5 a1 8 = 0) → Q (some (vI 1)) h))))) : P 0 [vR 5 (some o)] [] h :=
  Cl.runX ok43 hP [] 13 ⟨fun c2 => ⟨rfl, (v.1 c2)⟩, fun c2 => ⟨fun c3 => ⟨rfl, ((v.2 c2).1 c3)⟩, fun c3 => (dr_mono (fun a1 w => ⟨fun c4 => ⟨rfl, (w.1 c4)⟩, fun c4 => ⟨rfl, (w.2 c4)⟩⟩) ((v.2 c2).2 c3))⟩⟩
end
