section
-- ===== PART A: goes FIRST, ahead of the names: the tables' words, and 'selects' of the private methods out of them =====
/-- a private method of a class that the tables say can be made, by its rows of tables_1 -/
def lw_okq (q : MethodName × Nat) : Prop := (q.1.cls ≠ "java/lang/invoke/MethodHandle" ∧ q.1.cls ≠ "java/lang/invoke/VarHandle") ∧ Cond.instantiable q.1.cls q.2 ∈ tables_1 ∧ Cond.privateMethod q.1 ∈ tables_1 ∧ Cond.instanceMethod q.1 ∈ tables_1
theorem lw_p0 : lw_okq (⟨"LaughTax", "found", "(I)I"⟩, 8) := ⟨⟨by decide +kernel, by decide +kernel⟩, List.mem_of_getElem? (i := 16) (by decide +kernel), List.mem_of_getElem? (i := 220) (by decide +kernel), List.mem_of_getElem? (i := 221) (by decide +kernel)⟩
theorem lw_p1 : lw_okq (⟨"LaughTax$Room", "renewNear", "()V"⟩, 16) := ⟨⟨by decide +kernel, by decide +kernel⟩, List.mem_of_getElem? (i := 24) (by decide +kernel), List.mem_of_getElem? (i := 229) (by decide +kernel), List.mem_of_getElem? (i := 230) (by decide +kernel)⟩
theorem lw_p2 : lw_okq (⟨"LaughTax", "hasPerson", "(I)Z"⟩, 8) := ⟨⟨by decide +kernel, by decide +kernel⟩, List.mem_of_getElem? (i := 16) (by decide +kernel), List.mem_of_getElem? (i := 240) (by decide +kernel), List.mem_of_getElem? (i := 241) (by decide +kernel)⟩
theorem lw_p3 : lw_okq (⟨"LaughTax", "moveTo", "(II)I"⟩, 8) := ⟨⟨by decide +kernel, by decide +kernel⟩, List.mem_of_getElem? (i := 16) (by decide +kernel), List.mem_of_getElem? (i := 269) (by decide +kernel), List.mem_of_getElem? (i := 270) (by decide +kernel)⟩
theorem lw_p4 : lw_okq (⟨"LaughTax", "hasJoke", "(I)Z"⟩, 8) := ⟨⟨by decide +kernel, by decide +kernel⟩, List.mem_of_getElem? (i := 16) (by decide +kernel), List.mem_of_getElem? (i := 295) (by decide +kernel), List.mem_of_getElem? (i := 296) (by decide +kernel)⟩
theorem lw_p5 : lw_okq (⟨"LaughTax$Telling", "noteRound", "(II)V"⟩, 3) := ⟨⟨by decide +kernel, by decide +kernel⟩, List.mem_of_getElem? (i := 112) (by decide +kernel), List.mem_of_getElem? (i := 355) (by decide +kernel), List.mem_of_getElem? (i := 356) (by decide +kernel)⟩
theorem lw_p6 : lw_okq (⟨"LaughTax$Telling", "catchersFrom", "(LLaughTax$Room;II)I"⟩, 3) := ⟨⟨by decide +kernel, by decide +kernel⟩, List.mem_of_getElem? (i := 112) (by decide +kernel), List.mem_of_getElem? (i := 362) (by decide +kernel), List.mem_of_getElem? (i := 363) (by decide +kernel)⟩
theorem lw_p7 : lw_okq (⟨"LaughTax$Telling", "collect", "(LLaughTax$Room;II)I"⟩, 3) := ⟨⟨by decide +kernel, by decide +kernel⟩, List.mem_of_getElem? (i := 112) (by decide +kernel), List.mem_of_getElem? (i := 369) (by decide +kernel), List.mem_of_getElem? (i := 370) (by decide +kernel)⟩
theorem lw_p8 : lw_okq (⟨"LaughTax", "laughingAt", "(II)I"⟩, 8) := ⟨⟨by decide +kernel, by decide +kernel⟩, List.mem_of_getElem? (i := 16) (by decide +kernel), List.mem_of_getElem? (i := 478) (by decide +kernel), List.mem_of_getElem? (i := 479) (by decide +kernel)⟩
theorem lw_p9 : lw_okq (⟨"LaughTax", "paymentsFinding", "(III)I"⟩, 8) := ⟨⟨by decide +kernel, by decide +kernel⟩, List.mem_of_getElem? (i := 16) (by decide +kernel), List.mem_of_getElem? (i := 494) (by decide +kernel), List.mem_of_getElem? (i := 495) (by decide +kernel)⟩
theorem lw_p10 : lw_okq (⟨"LaughTax", "sheetFinding", "(I)I"⟩, 8) := ⟨⟨by decide +kernel, by decide +kernel⟩, List.mem_of_getElem? (i := 16) (by decide +kernel), List.mem_of_getElem? (i := 498) (by decide +kernel), List.mem_of_getElem? (i := 499) (by decide +kernel)⟩
theorem lw_p11 : lw_okq (⟨"LaughTax", "fits", "(LLaughTax$Sheet;III)Z"⟩, 8) := ⟨⟨by decide +kernel, by decide +kernel⟩, List.mem_of_getElem? (i := 16) (by decide +kernel), List.mem_of_getElem? (i := 507) (by decide +kernel), List.mem_of_getElem? (i := 508) (by decide +kernel)⟩
theorem lw_p12 : lw_okq (⟨"LaughTax$Tape", "step", "()V"⟩, 7) := ⟨⟨by decide +kernel, by decide +kernel⟩, List.mem_of_getElem? (i := 131) (by decide +kernel), List.mem_of_getElem? (i := 572) (by decide +kernel), List.mem_of_getElem? (i := 573) (by decide +kernel)⟩
theorem lw_p13 : lw_okq (⟨"LaughTax$Tape", "readItem", "(LLaughTax$Room;)Z"⟩, 7) := ⟨⟨by decide +kernel, by decide +kernel⟩, List.mem_of_getElem? (i := 131) (by decide +kernel), List.mem_of_getElem? (i := 580) (by decide +kernel), List.mem_of_getElem? (i := 581) (by decide +kernel)⟩
theorem lw_p14 : lw_okq (⟨"LaughTax$Tape", "isWord", "(Ljava/lang/String;)Z"⟩, 7) := ⟨⟨by decide +kernel, by decide +kernel⟩, List.mem_of_getElem? (i := 131) (by decide +kernel), List.mem_of_getElem? (i := 594) (by decide +kernel), List.mem_of_getElem? (i := 595) (by decide +kernel)⟩
theorem lw_p15 : lw_okq (⟨"LaughTax$Tape", "readPerson", "(LLaughTax$Room;I)Z"⟩, 7) := ⟨⟨by decide +kernel, by decide +kernel⟩, List.mem_of_getElem? (i := 131) (by decide +kernel), List.mem_of_getElem? (i := 646) (by decide +kernel), List.mem_of_getElem? (i := 647) (by decide +kernel)⟩
def lw_privs_1 : List (MethodName × Nat) := [(⟨"LaughTax", "found", "(I)I"⟩, 8), (⟨"LaughTax$Room", "renewNear", "()V"⟩, 16), (⟨"LaughTax", "hasPerson", "(I)Z"⟩, 8), (⟨"LaughTax", "moveTo", "(II)I"⟩, 8), (⟨"LaughTax", "hasJoke", "(I)Z"⟩, 8), (⟨"LaughTax$Telling", "noteRound", "(II)V"⟩, 3), (⟨"LaughTax$Telling", "catchersFrom", "(LLaughTax$Room;II)I"⟩, 3), (⟨"LaughTax$Telling", "collect", "(LLaughTax$Room;II)I"⟩, 3), (⟨"LaughTax", "laughingAt", "(II)I"⟩, 8), (⟨"LaughTax", "paymentsFinding", "(III)I"⟩, 8), (⟨"LaughTax", "sheetFinding", "(I)I"⟩, 8), (⟨"LaughTax", "fits", "(LLaughTax$Sheet;III)Z"⟩, 8), (⟨"LaughTax$Tape", "step", "()V"⟩, 7), (⟨"LaughTax$Tape", "readItem", "(LLaughTax$Room;)Z"⟩, 7), (⟨"LaughTax$Tape", "isWord", "(Ljava/lang/String;)Z"⟩, 7), (⟨"LaughTax$Tape", "readPerson", "(LLaughTax$Room;I)Z"⟩, 7)]
theorem lw_r1 : ∀ q ∈ lw_privs_1, lw_okq q := List.forall_mem_cons.mpr ⟨lw_p0, List.forall_mem_cons.mpr ⟨lw_p1, List.forall_mem_cons.mpr ⟨lw_p2, List.forall_mem_cons.mpr ⟨lw_p3, List.forall_mem_cons.mpr ⟨lw_p4, List.forall_mem_cons.mpr ⟨lw_p5, List.forall_mem_cons.mpr ⟨lw_p6, List.forall_mem_cons.mpr ⟨lw_p7, List.forall_mem_cons.mpr ⟨lw_p8, List.forall_mem_cons.mpr ⟨lw_p9, List.forall_mem_cons.mpr ⟨lw_p10, List.forall_mem_cons.mpr ⟨lw_p11, List.forall_mem_cons.mpr ⟨lw_p12, List.forall_mem_cons.mpr ⟨lw_p13, List.forall_mem_cons.mpr ⟨lw_p14, List.forall_mem_cons.mpr ⟨lw_p15, fun _ h => absurd h List.not_mem_nil⟩⟩⟩⟩⟩⟩⟩⟩⟩⟩⟩⟩⟩⟩⟩⟩
theorem lw_p16 : lw_okq (⟨"LaughTax$Tape", "readPart", "(Ljava/lang/String;II)Z"⟩, 7) := ⟨⟨by decide +kernel, by decide +kernel⟩, List.mem_of_getElem? (i := 131) (by decide +kernel), List.mem_of_getElem? (i := 652) (by decide +kernel), List.mem_of_getElem? (i := 653) (by decide +kernel)⟩
theorem lw_p17 : lw_okq (⟨"LaughTax$Tape", "readNumber", "(II)Z"⟩, 7) := ⟨⟨by decide +kernel, by decide +kernel⟩, List.mem_of_getElem? (i := 131) (by decide +kernel), List.mem_of_getElem? (i := 656) (by decide +kernel), List.mem_of_getElem? (i := 657) (by decide +kernel)⟩
theorem lw_p18 : lw_okq (⟨"LaughTax$Tape", "readJoke", "(LLaughTax$Room;)Z"⟩, 7) := ⟨⟨by decide +kernel, by decide +kernel⟩, List.mem_of_getElem? (i := 131) (by decide +kernel), List.mem_of_getElem? (i := 666) (by decide +kernel), List.mem_of_getElem? (i := 667) (by decide +kernel)⟩
theorem lw_p19 : lw_okq (⟨"LaughTax$Tape", "readRate", "(LLaughTax$Room;)Z"⟩, 7) := ⟨⟨by decide +kernel, by decide +kernel⟩, List.mem_of_getElem? (i := 131) (by decide +kernel), List.mem_of_getElem? (i := 672) (by decide +kernel), List.mem_of_getElem? (i := 673) (by decide +kernel)⟩
theorem lw_p20 : lw_okq (⟨"LaughTax$Tape", "readReach", "(LLaughTax$Room;)Z"⟩, 7) := ⟨⟨by decide +kernel, by decide +kernel⟩, List.mem_of_getElem? (i := 131) (by decide +kernel), List.mem_of_getElem? (i := 677) (by decide +kernel), List.mem_of_getElem? (i := 678) (by decide +kernel)⟩
theorem lw_p21 : lw_okq (⟨"LaughTaxModel", "finds", "(I)I"⟩, 18) := ⟨⟨by decide +kernel, by decide +kernel⟩, List.mem_of_getElem? (i := 755) (by decide +kernel), List.mem_of_getElem? (i := 831) (by decide +kernel), List.mem_of_getElem? (i := 832) (by decide +kernel)⟩
theorem lw_p22 : lw_okq (⟨"LaughTaxModel", "adds", "(II)I"⟩, 18) := ⟨⟨by decide +kernel, by decide +kernel⟩, List.mem_of_getElem? (i := 755) (by decide +kernel), List.mem_of_getElem? (i := 836) (by decide +kernel), List.mem_of_getElem? (i := 837) (by decide +kernel)⟩
theorem lw_p23 : lw_okq (⟨"LaughTaxModel", "sets", "(III)V"⟩, 18) := ⟨⟨by decide +kernel, by decide +kernel⟩, List.mem_of_getElem? (i := 755) (by decide +kernel), List.mem_of_getElem? (i := 840) (by decide +kernel), List.mem_of_getElem? (i := 841) (by decide +kernel)⟩
theorem lw_p24 : lw_okq (⟨"LaughTaxModel", "isPerson", "(I)Z"⟩, 18) := ⟨⟨by decide +kernel, by decide +kernel⟩, List.mem_of_getElem? (i := 755) (by decide +kernel), List.mem_of_getElem? (i := 848) (by decide +kernel), List.mem_of_getElem? (i := 849) (by decide +kernel)⟩
theorem lw_p25 : lw_okq (⟨"LaughTaxModel", "bound", "(I)I"⟩, 18) := ⟨⟨by decide +kernel, by decide +kernel⟩, List.mem_of_getElem? (i := 755) (by decide +kernel), List.mem_of_getElem? (i := 853) (by decide +kernel), List.mem_of_getElem? (i := 854) (by decide +kernel)⟩
theorem lw_p26 : lw_okq (⟨"LaughTaxModel", "its", "(II)I"⟩, 18) := ⟨⟨by decide +kernel, by decide +kernel⟩, List.mem_of_getElem? (i := 755) (by decide +kernel), List.mem_of_getElem? (i := 857) (by decide +kernel), List.mem_of_getElem? (i := 858) (by decide +kernel)⟩
theorem lw_p27 : lw_okq (⟨"LaughTaxModel", "numberOf", "(I)I"⟩, 18) := ⟨⟨by decide +kernel, by decide +kernel⟩, List.mem_of_getElem? (i := 755) (by decide +kernel), List.mem_of_getElem? (i := 862) (by decide +kernel), List.mem_of_getElem? (i := 863) (by decide +kernel)⟩
theorem lw_p28 : lw_okq (⟨"LaughTaxModel", "near", "(I)I"⟩, 18) := ⟨⟨by decide +kernel, by decide +kernel⟩, List.mem_of_getElem? (i := 755) (by decide +kernel), List.mem_of_getElem? (i := 866) (by decide +kernel), List.mem_of_getElem? (i := 867) (by decide +kernel)⟩
theorem lw_p29 : lw_okq (⟨"LaughTaxModel", "becomes", "(II)I"⟩, 18) := ⟨⟨by decide +kernel, by decide +kernel⟩, List.mem_of_getElem? (i := 755) (by decide +kernel), List.mem_of_getElem? (i := 884) (by decide +kernel), List.mem_of_getElem? (i := 885) (by decide +kernel)⟩
theorem lw_p30 : lw_okq (⟨"LaughTaxModel", "addsJoke", "(II)I"⟩, 18) := ⟨⟨by decide +kernel, by decide +kernel⟩, List.mem_of_getElem? (i := 755) (by decide +kernel), List.mem_of_getElem? (i := 898) (by decide +kernel), List.mem_of_getElem? (i := 899) (by decide +kernel)⟩
theorem lw_p31 : lw_okq (⟨"LaughTaxModel", "isJoke", "(I)Z"⟩, 18) := ⟨⟨by decide +kernel, by decide +kernel⟩, List.mem_of_getElem? (i := 755) (by decide +kernel), List.mem_of_getElem? (i := 906) (by decide +kernel), List.mem_of_getElem? (i := 907) (by decide +kernel)⟩
def lw_privs_2 : List (MethodName × Nat) := [(⟨"LaughTax$Tape", "readPart", "(Ljava/lang/String;II)Z"⟩, 7), (⟨"LaughTax$Tape", "readNumber", "(II)Z"⟩, 7), (⟨"LaughTax$Tape", "readJoke", "(LLaughTax$Room;)Z"⟩, 7), (⟨"LaughTax$Tape", "readRate", "(LLaughTax$Room;)Z"⟩, 7), (⟨"LaughTax$Tape", "readReach", "(LLaughTax$Room;)Z"⟩, 7), (⟨"LaughTaxModel", "finds", "(I)I"⟩, 18), (⟨"LaughTaxModel", "adds", "(II)I"⟩, 18), (⟨"LaughTaxModel", "sets", "(III)V"⟩, 18), (⟨"LaughTaxModel", "isPerson", "(I)Z"⟩, 18), (⟨"LaughTaxModel", "bound", "(I)I"⟩, 18), (⟨"LaughTaxModel", "its", "(II)I"⟩, 18), (⟨"LaughTaxModel", "numberOf", "(I)I"⟩, 18), (⟨"LaughTaxModel", "near", "(I)I"⟩, 18), (⟨"LaughTaxModel", "becomes", "(II)I"⟩, 18), (⟨"LaughTaxModel", "addsJoke", "(II)I"⟩, 18), (⟨"LaughTaxModel", "isJoke", "(I)Z"⟩, 18)]
theorem lw_r2 : ∀ q ∈ lw_privs_2, lw_okq q := List.forall_mem_cons.mpr ⟨lw_p16, List.forall_mem_cons.mpr ⟨lw_p17, List.forall_mem_cons.mpr ⟨lw_p18, List.forall_mem_cons.mpr ⟨lw_p19, List.forall_mem_cons.mpr ⟨lw_p20, List.forall_mem_cons.mpr ⟨lw_p21, List.forall_mem_cons.mpr ⟨lw_p22, List.forall_mem_cons.mpr ⟨lw_p23, List.forall_mem_cons.mpr ⟨lw_p24, List.forall_mem_cons.mpr ⟨lw_p25, List.forall_mem_cons.mpr ⟨lw_p26, List.forall_mem_cons.mpr ⟨lw_p27, List.forall_mem_cons.mpr ⟨lw_p28, List.forall_mem_cons.mpr ⟨lw_p29, List.forall_mem_cons.mpr ⟨lw_p30, List.forall_mem_cons.mpr ⟨lw_p31, fun _ h => absurd h List.not_mem_nil⟩⟩⟩⟩⟩⟩⟩⟩⟩⟩⟩⟩⟩⟩⟩⟩
theorem lw_p32 : lw_okq (⟨"LaughTaxModel", "strong", "(III)I"⟩, 18) := ⟨⟨by decide +kernel, by decide +kernel⟩, List.mem_of_getElem? (i := 755) (by decide +kernel), List.mem_of_getElem? (i := 920) (by decide +kernel), List.mem_of_getElem? (i := 921) (by decide +kernel)⟩
theorem lw_p33 : lw_okq (⟨"LaughTaxModel", "seconds", "(III)I"⟩, 18) := ⟨⟨by decide +kernel, by decide +kernel⟩, List.mem_of_getElem? (i := 755) (by decide +kernel), List.mem_of_getElem? (i := 924) (by decide +kernel), List.mem_of_getElem? (i := 925) (by decide +kernel)⟩
theorem lw_p34 : lw_okq (⟨"LaughTaxModel", "due", "(III)I"⟩, 18) := ⟨⟨by decide +kernel, by decide +kernel⟩, List.mem_of_getElem? (i := 755) (by decide +kernel), List.mem_of_getElem? (i := 929) (by decide +kernel), List.mem_of_getElem? (i := 930) (by decide +kernel)⟩
theorem lw_p35 : lw_okq (⟨"LaughTaxModel", "tells", "(I)I"⟩, 18) := ⟨⟨by decide +kernel, by decide +kernel⟩, List.mem_of_getElem? (i := 755) (by decide +kernel), List.mem_of_getElem? (i := 938) (by decide +kernel), List.mem_of_getElem? (i := 939) (by decide +kernel)⟩
theorem lw_p36 : lw_okq (⟨"LaughTaxModel", "laughAt", "(II)I"⟩, 18) := ⟨⟨by decide +kernel, by decide +kernel⟩, List.mem_of_getElem? (i := 755) (by decide +kernel), List.mem_of_getElem? (i := 942) (by decide +kernel), List.mem_of_getElem? (i := 943) (by decide +kernel)⟩
theorem lw_p37 : lw_okq (⟨"LaughTaxModel", "byThemselves", "(II)I"⟩, 18) := ⟨⟨by decide +kernel, by decide +kernel⟩, List.mem_of_getElem? (i := 755) (by decide +kernel), List.mem_of_getElem? (i := 946) (by decide +kernel), List.mem_of_getElem? (i := 947) (by decide +kernel)⟩
theorem lw_p38 : lw_okq (⟨"LaughTaxModel", "everybody", "()I"⟩, 18) := ⟨⟨by decide +kernel, by decide +kernel⟩, List.mem_of_getElem? (i := 755) (by decide +kernel), List.mem_of_getElem? (i := 950) (by decide +kernel), List.mem_of_getElem? (i := 951) (by decide +kernel)⟩
theorem lw_p39 : lw_okq (⟨"LaughTaxModel", "caughtFrom", "(II)I"⟩, 18) := ⟨⟨by decide +kernel, by decide +kernel⟩, List.mem_of_getElem? (i := 755) (by decide +kernel), List.mem_of_getElem? (i := 954) (by decide +kernel), List.mem_of_getElem? (i := 955) (by decide +kernel)⟩
theorem lw_p40 : lw_okq (⟨"LaughTaxModel", "sumOf", "(I)I"⟩, 18) := ⟨⟨by decide +kernel, by decide +kernel⟩, List.mem_of_getElem? (i := 755) (by decide +kernel), List.mem_of_getElem? (i := 968) (by decide +kernel), List.mem_of_getElem? (i := 969) (by decide +kernel)⟩
theorem lw_p41 : lw_okq (⟨"LaughTaxModel", "poorest", "()I"⟩, 18) := ⟨⟨by decide +kernel, by decide +kernel⟩, List.mem_of_getElem? (i := 755) (by decide +kernel), List.mem_of_getElem? (i := 976) (by decide +kernel), List.mem_of_getElem? (i := 977) (by decide +kernel)⟩
theorem lw_p42 : lw_okq (⟨"LaughTaxModel", "laughAt", "(I)I"⟩, 18) := ⟨⟨by decide +kernel, by decide +kernel⟩, List.mem_of_getElem? (i := 755) (by decide +kernel), List.mem_of_getElem? (i := 984) (by decide +kernel), List.mem_of_getElem? (i := 985) (by decide +kernel)⟩
theorem lw_p43 : lw_okq (⟨"LaughTaxModel", "lends", "()V"⟩, 18) := ⟨⟨by decide +kernel, by decide +kernel⟩, List.mem_of_getElem? (i := 755) (by decide +kernel), List.mem_of_getElem? (i := 996) (by decide +kernel), List.mem_of_getElem? (i := 997) (by decide +kernel)⟩
theorem lw_p44 : lw_okq (⟨"LaughTaxModel", "laysBack", "()V"⟩, 18) := ⟨⟨by decide +kernel, by decide +kernel⟩, List.mem_of_getElem? (i := 755) (by decide +kernel), List.mem_of_getElem? (i := 1003) (by decide +kernel), List.mem_of_getElem? (i := 1004) (by decide +kernel)⟩
theorem lw_p45 : lw_okq (⟨"LaughTaxModel", "allPaid", "()I"⟩, 18) := ⟨⟨by decide +kernel, by decide +kernel⟩, List.mem_of_getElem? (i := 755) (by decide +kernel), List.mem_of_getElem? (i := 1007) (by decide +kernel), List.mem_of_getElem? (i := 1008) (by decide +kernel)⟩
theorem lw_p46 : lw_okq (⟨"LaughTaxModel", "orNone", "(I)I"⟩, 18) := ⟨⟨by decide +kernel, by decide +kernel⟩, List.mem_of_getElem? (i := 755) (by decide +kernel), List.mem_of_getElem? (i := 1019) (by decide +kernel), List.mem_of_getElem? (i := 1020) (by decide +kernel)⟩
theorem lw_p47 : lw_okq (⟨"LaughTaxModel", "leftWithout", "(II)I"⟩, 18) := ⟨⟨by decide +kernel, by decide +kernel⟩, List.mem_of_getElem? (i := 755) (by decide +kernel), List.mem_of_getElem? (i := 1044) (by decide +kernel), List.mem_of_getElem? (i := 1045) (by decide +kernel)⟩
def lw_privs_3 : List (MethodName × Nat) := [(⟨"LaughTaxModel", "strong", "(III)I"⟩, 18), (⟨"LaughTaxModel", "seconds", "(III)I"⟩, 18), (⟨"LaughTaxModel", "due", "(III)I"⟩, 18), (⟨"LaughTaxModel", "tells", "(I)I"⟩, 18), (⟨"LaughTaxModel", "laughAt", "(II)I"⟩, 18), (⟨"LaughTaxModel", "byThemselves", "(II)I"⟩, 18), (⟨"LaughTaxModel", "everybody", "()I"⟩, 18), (⟨"LaughTaxModel", "caughtFrom", "(II)I"⟩, 18), (⟨"LaughTaxModel", "sumOf", "(I)I"⟩, 18), (⟨"LaughTaxModel", "poorest", "()I"⟩, 18), (⟨"LaughTaxModel", "laughAt", "(I)I"⟩, 18), (⟨"LaughTaxModel", "lends", "()V"⟩, 18), (⟨"LaughTaxModel", "laysBack", "()V"⟩, 18), (⟨"LaughTaxModel", "allPaid", "()I"⟩, 18), (⟨"LaughTaxModel", "orNone", "(I)I"⟩, 18), (⟨"LaughTaxModel", "leftWithout", "(II)I"⟩, 18)]
theorem lw_r3 : ∀ q ∈ lw_privs_3, lw_okq q := List.forall_mem_cons.mpr ⟨lw_p32, List.forall_mem_cons.mpr ⟨lw_p33, List.forall_mem_cons.mpr ⟨lw_p34, List.forall_mem_cons.mpr ⟨lw_p35, List.forall_mem_cons.mpr ⟨lw_p36, List.forall_mem_cons.mpr ⟨lw_p37, List.forall_mem_cons.mpr ⟨lw_p38, List.forall_mem_cons.mpr ⟨lw_p39, List.forall_mem_cons.mpr ⟨lw_p40, List.forall_mem_cons.mpr ⟨lw_p41, List.forall_mem_cons.mpr ⟨lw_p42, List.forall_mem_cons.mpr ⟨lw_p43, List.forall_mem_cons.mpr ⟨lw_p44, List.forall_mem_cons.mpr ⟨lw_p45, List.forall_mem_cons.mpr ⟨lw_p46, List.forall_mem_cons.mpr ⟨lw_p47, fun _ h => absurd h List.not_mem_nil⟩⟩⟩⟩⟩⟩⟩⟩⟩⟩⟩⟩⟩⟩⟩⟩
theorem lw_p48 : lw_okq (⟨"LaughTaxModel", "lacksTastes", "(III)I"⟩, 18) := ⟨⟨by decide +kernel, by decide +kernel⟩, List.mem_of_getElem? (i := 755) (by decide +kernel), List.mem_of_getElem? (i := 1080) (by decide +kernel), List.mem_of_getElem? (i := 1081) (by decide +kernel)⟩
theorem lw_p49 : lw_okq (⟨"LaughTaxModel", "lacks", "(I)I"⟩, 18) := ⟨⟨by decide +kernel, by decide +kernel⟩, List.mem_of_getElem? (i := 755) (by decide +kernel), List.mem_of_getElem? (i := 1084) (by decide +kernel), List.mem_of_getElem? (i := 1085) (by decide +kernel)⟩
theorem lw_p50 : lw_okq (⟨"LaughTaxModel", "findTastes", "(III)I"⟩, 18) := ⟨⟨by decide +kernel, by decide +kernel⟩, List.mem_of_getElem? (i := 755) (by decide +kernel), List.mem_of_getElem? (i := 1092) (by decide +kernel), List.mem_of_getElem? (i := 1093) (by decide +kernel)⟩
theorem lw_p51 : lw_okq (⟨"LaughTaxModel", "paysSo", "(III)Z"⟩, 18) := ⟨⟨by decide +kernel, by decide +kernel⟩, List.mem_of_getElem? (i := 755) (by decide +kernel), List.mem_of_getElem? (i := 1096) (by decide +kernel), List.mem_of_getElem? (i := 1097) (by decide +kernel)⟩
theorem lw_p52 : lw_okq (⟨"LaughTaxModel", "draw", "()I"⟩, 18) := ⟨⟨by decide +kernel, by decide +kernel⟩, List.mem_of_getElem? (i := 755) (by decide +kernel), List.mem_of_getElem? (i := 1112) (by decide +kernel), List.mem_of_getElem? (i := 1113) (by decide +kernel)⟩
theorem lw_p53 : lw_okq (⟨"LaughTaxModel", "next", "()V"⟩, 18) := ⟨⟨by decide +kernel, by decide +kernel⟩, List.mem_of_getElem? (i := 755) (by decide +kernel), List.mem_of_getElem? (i := 1139) (by decide +kernel), List.mem_of_getElem? (i := 1140) (by decide +kernel)⟩
theorem lw_p54 : lw_okq (⟨"LaughTaxModel", "isByte", "(III)Z"⟩, 18) := ⟨⟨by decide +kernel, by decide +kernel⟩, List.mem_of_getElem? (i := 755) (by decide +kernel), List.mem_of_getElem? (i := 1143) (by decide +kernel), List.mem_of_getElem? (i := 1144) (by decide +kernel)⟩
theorem lw_p55 : lw_okq (⟨"LaughTaxModel", "item", "()V"⟩, 18) := ⟨⟨by decide +kernel, by decide +kernel⟩, List.mem_of_getElem? (i := 755) (by decide +kernel), List.mem_of_getElem? (i := 1147) (by decide +kernel), List.mem_of_getElem? (i := 1148) (by decide +kernel)⟩
theorem lw_p56 : lw_okq (⟨"LaughTaxModel", "kindHere", "()I"⟩, 18) := ⟨⟨by decide +kernel, by decide +kernel⟩, List.mem_of_getElem? (i := 755) (by decide +kernel), List.mem_of_getElem? (i := 1151) (by decide +kernel), List.mem_of_getElem? (i := 1152) (by decide +kernel)⟩
theorem lw_p57 : lw_okq (⟨"LaughTaxModel", "isWord", "(Ljava/lang/String;)Z"⟩, 18) := ⟨⟨by decide +kernel, by decide +kernel⟩, List.mem_of_getElem? (i := 755) (by decide +kernel), List.mem_of_getElem? (i := 1156) (by decide +kernel), List.mem_of_getElem? (i := 1157) (by decide +kernel)⟩
theorem lw_p58 : lw_okq (⟨"LaughTaxModel", "personTold", "(I)V"⟩, 18) := ⟨⟨by decide +kernel, by decide +kernel⟩, List.mem_of_getElem? (i := 755) (by decide +kernel), List.mem_of_getElem? (i := 1168) (by decide +kernel), List.mem_of_getElem? (i := 1169) (by decide +kernel)⟩
theorem lw_p59 : lw_okq (⟨"LaughTaxModel", "must", "(Z)V"⟩, 18) := ⟨⟨by decide +kernel, by decide +kernel⟩, List.mem_of_getElem? (i := 755) (by decide +kernel), List.mem_of_getElem? (i := 1172) (by decide +kernel), List.mem_of_getElem? (i := 1173) (by decide +kernel)⟩
theorem lw_p60 : lw_okq (⟨"LaughTaxModel", "partTold", "(ILjava/lang/String;II)V"⟩, 18) := ⟨⟨by decide +kernel, by decide +kernel⟩, List.mem_of_getElem? (i := 755) (by decide +kernel), List.mem_of_getElem? (i := 1177) (by decide +kernel), List.mem_of_getElem? (i := 1178) (by decide +kernel)⟩
theorem lw_p61 : lw_okq (⟨"LaughTaxModel", "takes", "(Ljava/lang/String;)Z"⟩, 18) := ⟨⟨by decide +kernel, by decide +kernel⟩, List.mem_of_getElem? (i := 755) (by decide +kernel), List.mem_of_getElem? (i := 1181) (by decide +kernel), List.mem_of_getElem? (i := 1182) (by decide +kernel)⟩
theorem lw_p62 : lw_okq (⟨"LaughTaxModel", "numberRead", "(II)I"⟩, 18) := ⟨⟨by decide +kernel, by decide +kernel⟩, List.mem_of_getElem? (i := 755) (by decide +kernel), List.mem_of_getElem? (i := 1185) (by decide +kernel), List.mem_of_getElem? (i := 1186) (by decide +kernel)⟩
theorem lw_p63 : lw_okq (⟨"LaughTaxModel", "jokeTold", "()V"⟩, 18) := ⟨⟨by decide +kernel, by decide +kernel⟩, List.mem_of_getElem? (i := 755) (by decide +kernel), List.mem_of_getElem? (i := 1193) (by decide +kernel), List.mem_of_getElem? (i := 1194) (by decide +kernel)⟩
def lw_privs_4 : List (MethodName × Nat) := [(⟨"LaughTaxModel", "lacksTastes", "(III)I"⟩, 18), (⟨"LaughTaxModel", "lacks", "(I)I"⟩, 18), (⟨"LaughTaxModel", "findTastes", "(III)I"⟩, 18), (⟨"LaughTaxModel", "paysSo", "(III)Z"⟩, 18), (⟨"LaughTaxModel", "draw", "()I"⟩, 18), (⟨"LaughTaxModel", "next", "()V"⟩, 18), (⟨"LaughTaxModel", "isByte", "(III)Z"⟩, 18), (⟨"LaughTaxModel", "item", "()V"⟩, 18), (⟨"LaughTaxModel", "kindHere", "()I"⟩, 18), (⟨"LaughTaxModel", "isWord", "(Ljava/lang/String;)Z"⟩, 18), (⟨"LaughTaxModel", "personTold", "(I)V"⟩, 18), (⟨"LaughTaxModel", "must", "(Z)V"⟩, 18), (⟨"LaughTaxModel", "partTold", "(ILjava/lang/String;II)V"⟩, 18), (⟨"LaughTaxModel", "takes", "(Ljava/lang/String;)Z"⟩, 18), (⟨"LaughTaxModel", "numberRead", "(II)I"⟩, 18), (⟨"LaughTaxModel", "jokeTold", "()V"⟩, 18)]
theorem lw_r4 : ∀ q ∈ lw_privs_4, lw_okq q := List.forall_mem_cons.mpr ⟨lw_p48, List.forall_mem_cons.mpr ⟨lw_p49, List.forall_mem_cons.mpr ⟨lw_p50, List.forall_mem_cons.mpr ⟨lw_p51, List.forall_mem_cons.mpr ⟨lw_p52, List.forall_mem_cons.mpr ⟨lw_p53, List.forall_mem_cons.mpr ⟨lw_p54, List.forall_mem_cons.mpr ⟨lw_p55, List.forall_mem_cons.mpr ⟨lw_p56, List.forall_mem_cons.mpr ⟨lw_p57, List.forall_mem_cons.mpr ⟨lw_p58, List.forall_mem_cons.mpr ⟨lw_p59, List.forall_mem_cons.mpr ⟨lw_p60, List.forall_mem_cons.mpr ⟨lw_p61, List.forall_mem_cons.mpr ⟨lw_p62, List.forall_mem_cons.mpr ⟨lw_p63, fun _ h => absurd h List.not_mem_nil⟩⟩⟩⟩⟩⟩⟩⟩⟩⟩⟩⟩⟩⟩⟩⟩
theorem lw_p64 : lw_okq (⟨"LaughTaxModel", "goesOn", "(II)Z"⟩, 18) := ⟨⟨by decide +kernel, by decide +kernel⟩, List.mem_of_getElem? (i := 755) (by decide +kernel), List.mem_of_getElem? (i := 1237) (by decide +kernel), List.mem_of_getElem? (i := 1238) (by decide +kernel)⟩
theorem lw_p65 : lw_okq (⟨"LaughTaxModel", "held", "()I"⟩, 18) := ⟨⟨by decide +kernel, by decide +kernel⟩, List.mem_of_getElem? (i := 755) (by decide +kernel), List.mem_of_getElem? (i := 1257) (by decide +kernel), List.mem_of_getElem? (i := 1258) (by decide +kernel)⟩
def lw_privs_5 : List (MethodName × Nat) := [(⟨"LaughTaxModel", "goesOn", "(II)Z"⟩, 18), (⟨"LaughTaxModel", "held", "()I"⟩, 18)]
theorem lw_r5 : ∀ q ∈ lw_privs_5, lw_okq q := List.forall_mem_cons.mpr ⟨lw_p64, List.forall_mem_cons.mpr ⟨lw_p65, fun _ h => absurd h List.not_mem_nil⟩⟩
def lw_privs : List (MethodName × Nat) := lw_privs_1 ++ (lw_privs_2 ++ (lw_privs_3 ++ (lw_privs_4 ++ (lw_privs_5))))
def lw_tbl : List Cond := k2_sels lw_privs ++ tables_1
theorem lw_privs_ok : ∀ q ∈ lw_privs, lw_okq q := by
  show ∀ q ∈ lw_privs_1 ++ (lw_privs_2 ++ (lw_privs_3 ++ (lw_privs_4 ++ (lw_privs_5)))), lw_okq q
  exact List.forall_mem_append.mpr ⟨lw_r1, List.forall_mem_append.mpr ⟨lw_r2, List.forall_mem_append.mpr ⟨lw_r3, List.forall_mem_append.mpr ⟨lw_r4, lw_r5⟩⟩⟩⟩

/-! ===== BEGIN words of one list among another's, by their places ===== -/
theorem goodIn_r {big : List Cond} (ws : List Cond) (ps : List Nat) (hp : ws = ps.filterMap (fun i => big[i]?)) (h : ws.all goodWord = true) : GoodIn big ws := by
  intro w hw
  have h1 := List.all_eq_true.mp h w hw
  rw [hp] at hw
  obtain ⟨i, -, hi⟩ := List.mem_filterMap.mp hw
  have hm : w ∈ big := by first | exact List.mem_of_getElem? hi | exact List.getElem?_mem hi
  exact ⟨hm, good_of_word h1⟩
theorem goodIn_app {big a b : List Cond} (ha : GoodIn big a) (hb : GoodIn big b) : GoodIn big (a ++ b) := fun w h => (List.mem_append.mp h).elim (ha w) (hb w)
theorem goodIn_ca {big a b : List Cond} {c : Cond} (ha : GoodIn big (c :: a)) (hb : GoodIn big b) : GoodIn big (c :: (a ++ b)) := fun w h => (List.mem_cons.mp h).elim (fun e => ha w (List.mem_cons.mpr (Or.inl e))) (fun h => (List.mem_append.mp h).elim (fun h => ha w (List.mem_cons.mpr (Or.inr h))) (hb w))
theorem goodIn_sub {big ws : List Cond} (hm : ∀ w ∈ ws, w ∈ big) (h : ws.all goodWord = true) : GoodIn big ws := fun w hw => ⟨hm w hw, good_of_word (List.all_eq_true.mp h w hw)⟩
/-! ===== END ===== -/

/-! ===== BEGIN printed: names, fields, word lists, decode rows ===== -/
def RX0 : String := "LaughTax$Kinds"
def TX0 : u_T := fun k => match k with
  | _ => ("", "", "", false)
def tyX0 : Nat → FieldType := fun k => match k with
  | _ => .int
abbrev wsX00 : List Cond := u_ws RX0 TX0 0
theorem nmX0 : ∀ a, a < 0 → ∀ b, b < 0 → a ≠ b → (TX0 a).2.1 ≠ (TX0 b).2.1 := by decide +kernel
theorem tyX0_ok : ∀ k, k < 0 → parseFieldDescriptor (TX0 k).2.2.1 = some (tyX0 k) := by decide +kernel
abbrev cX0_isA : ByteArray := prog_2_method_2_code
def yX0_isA : MethodName := ⟨RX0, "isA", "(II)Z"⟩
abbrev cX0_bound : ByteArray := prog_2_method_3_code
def yX0_bound : MethodName := ⟨RX0, "bound", "(II)I"⟩
abbrev cX0_number : ByteArray := prog_2_method_4_code
def yX0_number : MethodName := ⟨RX0, "number", "(II)I"⟩
abbrev cX0_seconds : ByteArray := prog_2_method_5_code
def yX0_seconds : MethodName := ⟨RX0, "seconds", "(II)I"⟩
def RX1 : String := "LaughTax$Room"
def TX1 : u_T := fun k => match k with
  | 0 => ("LaughTax$Room", "people", "I", false)
  | 1 => ("LaughTax$Room", "kind", "[I", true)
  | 2 => ("LaughTax$Room", "seat", "[I", true)
  | 3 => ("LaughTax$Room", "taste", "[I", true)
  | 4 => ("LaughTax$Room", "mood", "[I", true)
  | 5 => ("LaughTax$Room", "purse", "[I", true)
  | 6 => ("LaughTax$Room", "near", "[I", true)
  | 7 => ("LaughTax$Room", "jokes", "I", false)
  | 8 => ("LaughTax$Room", "topics", "[I", true)
  | 9 => ("LaughTax$Room", "fun", "[I", true)
  | 10 => ("LaughTax$Room", "rate", "I", false)
  | 11 => ("LaughTax$Room", "reach", "I", false)
  | 12 => ("LaughTax$Room", "treasury", "I", false)
  | 13 => ("LaughTax$Room", "told", "I", false)
  | 14 => ("LaughTax$Room", "z", "I", false)
  | _ => ("LaughTax$Room", "spots", "[I", true)
def tyX1 : Nat → FieldType := fun k => match k with
  | 0 => .int
  | 1 => .array .int
  | 2 => .array .int
  | 3 => .array .int
  | 4 => .array .int
  | 5 => .array .int
  | 6 => .array .int
  | 7 => .int
  | 8 => .array .int
  | 9 => .array .int
  | 10 => .int
  | 11 => .int
  | 12 => .int
  | 13 => .int
  | 14 => .int
  | _ => .array .int
abbrev wsX10 : List Cond := u_ws RX1 TX1 16
theorem nmX1 : ∀ a, a < 16 → ∀ b, b < 16 → a ≠ b → (TX1 a).2.1 ≠ (TX1 b).2.1 := by decide +kernel
theorem tyX1_ok : ∀ k, k < 16 → parseFieldDescriptor (TX1 k).2.2.1 = some (tyX1 k) := by decide +kernel
abbrev cX1_init : ByteArray := prog_3_method_1_code
def yX1_init : MethodName := ⟨RX1, "<init>", "()V"⟩
abbrev cX1_takeOver : ByteArray := prog_3_method_2_code
def yX1_takeOver : MethodName := ⟨RX1, "takeOver", "(LLaughTax$Room;)V"⟩
abbrev cX1_addPerson : ByteArray := prog_3_method_3_code
def yX1_addPerson : MethodName := ⟨RX1, "addPerson", "(II)I"⟩
abbrev cX1_addJoke : ByteArray := prog_3_method_4_code
def yX1_addJoke : MethodName := ⟨RX1, "addJoke", "(II)I"⟩
abbrev cX1_setSeat : ByteArray := prog_3_method_5_code
def yX1_setSeat : MethodName := ⟨RX1, "setSeat", "(II)V"⟩
abbrev cX1_setReach : ByteArray := prog_3_method_6_code
def yX1_setReach : MethodName := ⟨RX1, "setReach", "(I)V"⟩
abbrev cX1_renewNear : ByteArray := prog_3_method_7_code
def yX1_renewNear : MethodName := ⟨RX1, "renewNear", "()V"⟩
abbrev cX1_everybody : ByteArray := prog_3_method_8_code
def yX1_everybody : MethodName := ⟨RX1, "everybody", "()I"⟩
abbrev cX1_strengthFor : ByteArray := prog_3_method_9_code
def yX1_strengthFor : MethodName := ⟨RX1, "strengthFor", "(III)I"⟩
abbrev cX1_dueFrom : ByteArray := prog_3_method_10_code
def yX1_dueFrom : MethodName := ⟨RX1, "dueFrom", "(II)I"⟩
abbrev cX1_together : ByteArray := prog_3_method_11_code
def yX1_together : MethodName := ⟨RX1, "together", "([I)I"⟩
abbrev cX1_poorest : ByteArray := prog_3_method_12_code
def yX1_poorest : MethodName := ⟨RX1, "poorest", "()I"⟩
abbrev cX1_drawBelow : ByteArray := prog_3_method_13_code
def yX1_drawBelow : MethodName := ⟨RX1, "drawBelow", "(I)I"⟩
abbrev cX1_spotsHolding : ByteArray := prog_3_method_14_code
def yX1_spotsHolding : MethodName := ⟨RX1, "spotsHolding", "()I"⟩
def RX2 : String := "LaughTax$Sheet"
def TX2 : u_T := fun k => match k with
  | 0 => ("LaughTax$Sheet", "numbers", "[I", true)
  | 1 => ("LaughTax$Sheet", "bits", "I", false)
  | _ => ("LaughTax$Sheet", "length", "I", false)
def tyX2 : Nat → FieldType := fun k => match k with
  | 0 => .array .int
  | 1 => .int
  | _ => .int
abbrev wsX20 : List Cond := u_ws RX2 TX2 3
theorem nmX2 : ∀ a, a < 3 → ∀ b, b < 3 → a ≠ b → (TX2 a).2.1 ≠ (TX2 b).2.1 := by decide +kernel
theorem tyX2_ok : ∀ k, k < 3 → parseFieldDescriptor (TX2 k).2.2.1 = some (tyX2 k) := by decide +kernel
abbrev cX2_init : ByteArray := prog_4_method_1_code
def yX2_init : MethodName := ⟨RX2, "<init>", "()V"⟩
abbrev cX2_begin : ByteArray := prog_4_method_2_code
def yX2_begin : MethodName := ⟨RX2, "begin", "(II)V"⟩
abbrev cX2_isMissing : ByteArray := prog_4_method_3_code
def yX2_isMissing : MethodName := ⟨RX2, "isMissing", "()Z"⟩
abbrev cX2_put : ByteArray := prog_4_method_4_code
def yX2_put : MethodName := ⟨RX2, "put", "(II)V"⟩
abbrev cX2_has : ByteArray := prog_4_method_5_code
def yX2_has : MethodName := ⟨RX2, "has", "(II)Z"⟩
abbrev cX2_tells : ByteArray := prog_4_method_6_code
def yX2_tells : MethodName := ⟨RX2, "tells", "(II)Z"⟩
abbrev cX2_tellsFirst : ByteArray := prog_4_method_7_code
def yX2_tellsFirst : MethodName := ⟨RX2, "tellsFirst", "([II)Z"⟩
def RX3 : String := "LaughTax$Tape"
def TX3 : u_T := fun k => match k with
  | 0 => ("LaughTax$Tape", "bytes", "[B", true)
  | 1 => ("LaughTax$Tape", "length", "I", false)
  | 2 => ("LaughTax$Tape", "token", "I", false)
  | 3 => ("LaughTax$Tape", "start", "I", false)
  | 4 => ("LaughTax$Tape", "behind", "I", false)
  | 5 => ("LaughTax$Tape", "value", "I", false)
  | _ => ("LaughTax$Tape", "taken", "I", false)
def tyX3 : Nat → FieldType := fun k => match k with
  | 0 => .array .byte
  | 1 => .int
  | 2 => .int
  | 3 => .int
  | 4 => .int
  | 5 => .int
  | _ => .int
abbrev wsX30 : List Cond := u_ws RX3 TX3 7
theorem nmX3 : ∀ a, a < 7 → ∀ b, b < 7 → a ≠ b → (TX3 a).2.1 ≠ (TX3 b).2.1 := by decide +kernel
theorem tyX3_ok : ∀ k, k < 7 → parseFieldDescriptor (TX3 k).2.2.1 = some (tyX3 k) := by decide +kernel
abbrev cX3_init : ByteArray := prog_5_method_1_code
def yX3_init : MethodName := ⟨RX3, "<init>", "()V"⟩
abbrev cX3_put : ByteArray := prog_5_method_2_code
def yX3_put : MethodName := ⟨RX3, "put", "(B)V"⟩
abbrev cX3_readInto : ByteArray := prog_5_method_3_code
def yX3_readInto : MethodName := ⟨RX3, "readInto", "(LLaughTax$Room;)I"⟩
abbrev cX3_readItem : ByteArray := prog_5_method_4_code
def yX3_readItem : MethodName := ⟨RX3, "readItem", "(LLaughTax$Room;)Z"⟩
abbrev cX3_readPerson : ByteArray := prog_5_method_5_code
def yX3_readPerson : MethodName := ⟨RX3, "readPerson", "(LLaughTax$Room;I)Z"⟩
abbrev cX3_readJoke : ByteArray := prog_5_method_6_code
def yX3_readJoke : MethodName := ⟨RX3, "readJoke", "(LLaughTax$Room;)Z"⟩
abbrev cX3_readRate : ByteArray := prog_5_method_7_code
def yX3_readRate : MethodName := ⟨RX3, "readRate", "(LLaughTax$Room;)Z"⟩
abbrev cX3_readReach : ByteArray := prog_5_method_8_code
def yX3_readReach : MethodName := ⟨RX3, "readReach", "(LLaughTax$Room;)Z"⟩
abbrev cX3_readPart : ByteArray := prog_5_method_9_code
def yX3_readPart : MethodName := ⟨RX3, "readPart", "(Ljava/lang/String;II)Z"⟩
abbrev cX3_readNumber : ByteArray := prog_5_method_10_code
def yX3_readNumber : MethodName := ⟨RX3, "readNumber", "(II)Z"⟩
abbrev cX3_isWord : ByteArray := prog_5_method_11_code
def yX3_isWord : MethodName := ⟨RX3, "isWord", "(Ljava/lang/String;)Z"⟩
abbrev cX3_wordOf : ByteArray := prog_5_method_12_code
def yX3_wordOf : MethodName := ⟨RX3, "wordOf", "(I)Ljava/lang/String;"⟩
abbrev cX3_step : ByteArray := prog_5_method_13_code
def yX3_step : MethodName := ⟨RX3, "step", "()V"⟩
abbrev cX3_tokenOf : ByteArray := prog_5_method_14_code
def yX3_tokenOf : MethodName := ⟨RX3, "tokenOf", "(B)I"⟩
def RX4 : String := "LaughTax$Telling"
def TX4 : u_T := fun k => match k with
  | 0 => ("LaughTax$Telling", "roundOf", "[I", true)
  | 1 => ("LaughTax$Telling", "paid", "[I", true)
  | _ => ("LaughTax$Telling", "lastRound", "I", false)
def tyX4 : Nat → FieldType := fun k => match k with
  | 0 => .array .int
  | 1 => .array .int
  | _ => .int
abbrev wsX40 : List Cond := u_ws RX4 TX4 3
theorem nmX4 : ∀ a, a < 3 → ∀ b, b < 3 → a ≠ b → (TX4 a).2.1 ≠ (TX4 b).2.1 := by decide +kernel
theorem tyX4_ok : ∀ k, k < 3 → parseFieldDescriptor (TX4 k).2.2.1 = some (tyX4 k) := by decide +kernel
abbrev cX4_init : ByteArray := prog_6_method_1_code
def yX4_init : MethodName := ⟨RX4, "<init>", "()V"⟩
abbrev cX4_startersOf : ByteArray := prog_6_method_2_code
def yX4_startersOf : MethodName := ⟨RX4, "startersOf", "(LLaughTax$Room;II)I"⟩
abbrev cX4_laughersOf : ByteArray := prog_6_method_3_code
def yX4_laughersOf : MethodName := ⟨RX4, "laughersOf", "(LLaughTax$Room;I)I"⟩
abbrev cX4_spread : ByteArray := prog_6_method_4_code
def yX4_spread : MethodName := ⟨RX4, "spread", "(LLaughTax$Room;II)I"⟩
abbrev cX4_catchersFrom : ByteArray := prog_6_method_5_code
def yX4_catchersFrom : MethodName := ⟨RX4, "catchersFrom", "(LLaughTax$Room;II)I"⟩
abbrev cX4_noteRound : ByteArray := prog_6_method_6_code
def yX4_noteRound : MethodName := ⟨RX4, "noteRound", "(II)V"⟩
abbrev cX4_perform : ByteArray := prog_6_method_7_code
def yX4_perform : MethodName := ⟨RX4, "perform", "(LLaughTax$Room;I)I"⟩
abbrev cX4_collect : ByteArray := prog_6_method_8_code
def yX4_collect : MethodName := ⟨RX4, "collect", "(LLaughTax$Room;II)I"⟩
abbrev cX4_performOften : ByteArray := prog_6_method_9_code
def yX4_performOften : MethodName := ⟨RX4, "performOften", "(LLaughTax$Room;II)I"⟩
def RX5 : String := "LaughTax"
def TX5 : u_T := fun k => match k with
  | 0 => ("LaughTax", "live", "LLaughTax$Room;", true)
  | 1 => ("LaughTax", "trial", "LLaughTax$Room;", true)
  | 2 => ("LaughTax", "kept", "LLaughTax$Room;", true)
  | 3 => ("LaughTax", "keeps", "Z", false)
  | 4 => ("LaughTax", "telling", "LLaughTax$Telling;", true)
  | 5 => ("LaughTax", "tape", "LLaughTax$Tape;", true)
  | 6 => ("LaughTax", "sheets", "[LLaughTax$Sheet;", true)
  | _ => ("LaughTax", "findings", "[I", true)
def tyX5 : Nat → FieldType := fun k => match k with
  | 0 => .object "LaughTax$Room"
  | 1 => .object "LaughTax$Room"
  | 2 => .object "LaughTax$Room"
  | 3 => .boolean
  | 4 => .object "LaughTax$Telling"
  | 5 => .object "LaughTax$Tape"
  | 6 => .array (.object "LaughTax$Sheet")
  | _ => .array .int
abbrev wsX50 : List Cond := u_ws RX5 TX5 8
theorem nmX5 : ∀ a, a < 8 → ∀ b, b < 8 → a ≠ b → (TX5 a).2.1 ≠ (TX5 b).2.1 := by decide +kernel
theorem tyX5_ok : ∀ k, k < 8 → parseFieldDescriptor (TX5 k).2.2.1 = some (tyX5 k) := by decide +kernel
abbrev cX5_init : ByteArray := prog_1_method_1_code
def yX5_init : MethodName := ⟨RX5, "<init>", "()V"⟩
abbrev cX5_person : ByteArray := prog_1_method_2_code
def yX5_person : MethodName := ⟨RX5, "person", "(II)I"⟩
abbrev cX5_of : ByteArray := prog_1_method_3_code
def yX5_of : MethodName := ⟨RX5, "of", "(II)I"⟩
abbrev cX5_change : ByteArray := prog_1_method_4_code
def yX5_change : MethodName := ⟨RX5, "change", "(III)I"⟩
abbrev cX5_joke : ByteArray := prog_1_method_5_code
def yX5_joke : MethodName := ⟨RX5, "joke", "(II)I"⟩
abbrev cX5_jokeOf : ByteArray := prog_1_method_6_code
def yX5_jokeOf : MethodName := ⟨RX5, "jokeOf", "(II)I"⟩
abbrev cX5_law : ByteArray := prog_1_method_7_code
def yX5_law : MethodName := ⟨RX5, "law", "(II)I"⟩
abbrev cX5_strength : ByteArray := prog_1_method_8_code
def yX5_strength : MethodName := ⟨RX5, "strength", "(III)I"⟩
abbrev cX5_tell : ByteArray := prog_1_method_9_code
def yX5_tell : MethodName := ⟨RX5, "tell", "(I)I"⟩
abbrev cX5_evening : ByteArray := prog_1_method_10_code
def yX5_evening : MethodName := ⟨RX5, "evening", "(II)I"⟩
abbrev cX5_now : ByteArray := prog_1_method_11_code
def yX5_now : MethodName := ⟨RX5, "now", "(I)I"⟩
abbrev cX5_relief : ByteArray := prog_1_method_12_code
def yX5_relief : MethodName := ⟨RX5, "relief", "(I)I"⟩
abbrev cX5_laugh : ByteArray := prog_1_method_13_code
def yX5_laugh : MethodName := ⟨RX5, "laugh", "(II)I"⟩
abbrev cX5_rounds : ByteArray := prog_1_method_14_code
def yX5_rounds : MethodName := ⟨RX5, "rounds", "(I)I"⟩
abbrev cX5_raised : ByteArray := prog_1_method_15_code
def yX5_raised : MethodName := ⟨RX5, "raised", "(I)I"⟩
abbrev cX5_ahead : ByteArray := prog_1_method_16_code
def yX5_ahead : MethodName := ⟨RX5, "ahead", "(II)I"⟩
abbrev cX5_stale : ByteArray := prog_1_method_17_code
def yX5_stale : MethodName := ⟨RX5, "stale", "(I)I"⟩
abbrev cX5_broke : ByteArray := prog_1_method_18_code
def yX5_broke : MethodName := ⟨RX5, "broke", "(II)I"⟩
abbrev cX5_caught : ByteArray := prog_1_method_19_code
def yX5_caught : MethodName := ⟨RX5, "caught", "(I)I"⟩
abbrev cX5_starter : ByteArray := prog_1_method_20_code
def yX5_starter : MethodName := ⟨RX5, "starter", "()I"⟩
abbrev cX5_fewest : ByteArray := prog_1_method_21_code
def yX5_fewest : MethodName := ⟨RX5, "fewest", "()I"⟩
abbrev cX5_away : ByteArray := prog_1_method_22_code
def yX5_away : MethodName := ⟨RX5, "away", "(II)I"⟩
abbrev cX5_seatFor : ByteArray := prog_1_method_23_code
def yX5_seatFor : MethodName := ⟨RX5, "seatFor", "(II)I"⟩
abbrev cX5_kindFor : ByteArray := prog_1_method_24_code
def yX5_kindFor : MethodName := ⟨RX5, "kindFor", "(II)I"⟩
abbrev cX5_reachFor : ByteArray := prog_1_method_25_code
def yX5_reachFor : MethodName := ⟨RX5, "reachFor", "(I)I"⟩
abbrev cX5_rateFor : ByteArray := prog_1_method_26_code
def yX5_rateFor : MethodName := ⟨RX5, "rateFor", "(II)I"⟩
abbrev cX5_best : ByteArray := prog_1_method_27_code
def yX5_best : MethodName := ⟨RX5, "best", "(I)I"⟩
abbrev cX5_quiet : ByteArray := prog_1_method_28_code
def yX5_quiet : MethodName := ⟨RX5, "quiet", "(I)I"⟩
abbrev cX5_safe : ByteArray := prog_1_method_29_code
def yX5_safe : MethodName := ⟨RX5, "safe", "(I)I"⟩
abbrev cX5_tastes : ByteArray := prog_1_method_30_code
def yX5_tastes : MethodName := ⟨RX5, "tastes", "(III)I"⟩
abbrev cX5_taste : ByteArray := prog_1_method_31_code
def yX5_taste : MethodName := ⟨RX5, "taste", "(III)I"⟩
abbrev cX5_which : ByteArray := prog_1_method_32_code
def yX5_which : MethodName := ⟨RX5, "which", "(I)I"⟩
abbrev cX5_shows : ByteArray := prog_1_method_33_code
def yX5_shows : MethodName := ⟨RX5, "shows", "(I)I"⟩
abbrev cX5_odds : ByteArray := prog_1_method_34_code
def yX5_odds : MethodName := ⟨RX5, "odds", "(II)J"⟩
abbrev cX5_seed : ByteArray := prog_1_method_35_code
def yX5_seed : MethodName := ⟨RX5, "seed", "(I)I"⟩
abbrev cX5_feed : ByteArray := prog_1_method_36_code
def yX5_feed : MethodName := ⟨RX5, "feed", "(II)I"⟩
abbrev cX5_wipe : ByteArray := prog_1_method_37_code
def yX5_wipe : MethodName := ⟨RX5, "wipe", "()I"⟩
abbrev cX5_text : ByteArray := prog_1_method_38_code
def yX5_text : MethodName := ⟨RX5, "text", "()I"⟩
abbrev cX5_hold : ByteArray := prog_1_method_39_code
def yX5_hold : MethodName := ⟨RX5, "hold", "(II)I"⟩
abbrev cX5_as : ByteArray := prog_1_method_40_code
def yX5_as : MethodName := ⟨RX5, "as", "(II)I"⟩
abbrev cX5_sheet : ByteArray := prog_1_method_41_code
def yX5_sheet : MethodName := ⟨RX5, "sheet", "(III)I"⟩
abbrev cX5_write : ByteArray := prog_1_method_42_code
def yX5_write : MethodName := ⟨RX5, "write", "(III)I"⟩
abbrev cX5_copy : ByteArray := prog_1_method_43_code
def yX5_copy : MethodName := ⟨RX5, "copy", "(IIIII)I"⟩
abbrev cX5_load : ByteArray := prog_1_method_44_code
def yX5_load : MethodName := ⟨RX5, "load", "(I)I"⟩
abbrev cX5_judge : ByteArray := prog_1_method_45_code
def yX5_judge : MethodName := ⟨RX5, "judge", "(I)I"⟩
abbrev cX5_image : ByteArray := prog_1_method_46_code
def yX5_image : MethodName := ⟨RX5, "image", "()I"⟩
abbrev cX5_undo : ByteArray := prog_1_method_47_code
def yX5_undo : MethodName := ⟨RX5, "undo", "()I"⟩
abbrev cX5_tear : ByteArray := prog_1_method_48_code
def yX5_tear : MethodName := ⟨RX5, "tear", "()I"⟩
abbrev cX5_count : ByteArray := prog_1_method_49_code
def yX5_count : MethodName := ⟨RX5, "count", "(I)I"⟩
abbrev cX5_status : ByteArray := prog_1_method_50_code
def yX5_status : MethodName := ⟨RX5, "status", "(I)I"⟩
abbrev cX5_found : ByteArray := prog_1_method_51_code
def yX5_found : MethodName := ⟨RX5, "found", "(I)I"⟩
abbrev cX5_within : ByteArray := prog_1_method_52_code
def yX5_within : MethodName := ⟨RX5, "within", "(III)Z"⟩
abbrev cX5_isIn : ByteArray := prog_1_method_53_code
def yX5_isIn : MethodName := ⟨RX5, "isIn", "(II)Z"⟩
abbrev cX5_isSmaller : ByteArray := prog_1_method_54_code
def yX5_isSmaller : MethodName := ⟨RX5, "isSmaller", "(II)Z"⟩
abbrev cX5_isKind : ByteArray := prog_1_method_55_code
def yX5_isKind : MethodName := ⟨RX5, "isKind", "(I)Z"⟩
abbrev cX5_isSeat : ByteArray := prog_1_method_56_code
def yX5_isSeat : MethodName := ⟨RX5, "isSeat", "(I)Z"⟩
abbrev cX5_isTopics : ByteArray := prog_1_method_57_code
def yX5_isTopics : MethodName := ⟨RX5, "isTopics", "(I)Z"⟩
abbrev cX5_isFun : ByteArray := prog_1_method_58_code
def yX5_isFun : MethodName := ⟨RX5, "isFun", "(I)Z"⟩
abbrev cX5_hasPerson : ByteArray := prog_1_method_59_code
def yX5_hasPerson : MethodName := ⟨RX5, "hasPerson", "(I)Z"⟩
abbrev cX5_hasJoke : ByteArray := prog_1_method_60_code
def yX5_hasJoke : MethodName := ⟨RX5, "hasJoke", "(I)Z"⟩
abbrev cX5_canBecome : ByteArray := prog_1_method_61_code
def yX5_canBecome : MethodName := ⟨RX5, "canBecome", "(II)Z"⟩
abbrev cX5_replace : ByteArray := prog_1_method_62_code
def yX5_replace : MethodName := ⟨RX5, "replace", "([III)I"⟩
abbrev cX5_moveTo : ByteArray := prog_1_method_63_code
def yX5_moveTo : MethodName := ⟨RX5, "moveTo", "(II)I"⟩
abbrev cX5_laughingAt : ByteArray := prog_1_method_64_code
def yX5_laughingAt : MethodName := ⟨RX5, "laughingAt", "(II)I"⟩
abbrev cX5_sheetFinding : ByteArray := prog_1_method_65_code
def yX5_sheetFinding : MethodName := ⟨RX5, "sheetFinding", "(I)I"⟩
abbrev cX5_paymentsFinding : ByteArray := prog_1_method_66_code
def yX5_paymentsFinding : MethodName := ⟨RX5, "paymentsFinding", "(III)I"⟩
abbrev cX5_fits : ByteArray := prog_1_method_67_code
def yX5_fits : MethodName := ⟨RX5, "fits", "(LLaughTax$Sheet;III)Z"⟩
abbrev cX5_commonDivisor : ByteArray := prog_1_method_68_code
def yX5_commonDivisor : MethodName := ⟨RX5, "commonDivisor", "(II)I"⟩
abbrev cX5_power : ByteArray := prog_1_method_69_code
def yX5_power : MethodName := ⟨RX5, "power", "(II)J"⟩
def RX6 : String := "LaughTaxModel"
def TX6 : u_T := fun k => match k with
  | 0 => ("LaughTaxModel", "s", "[I", true)
  | 1 => ("LaughTaxModel", "kept", "[I", true)
  | 2 => ("LaughTaxModel", "aside", "[I", true)
  | 3 => ("LaughTaxModel", "isKept", "Z", false)
  | 4 => ("LaughTaxModel", "found", "[I", true)
  | 5 => ("LaughTaxModel", "round", "[I", true)
  | 6 => ("LaughTaxModel", "rounds", "I", false)
  | 7 => ("LaughTaxModel", "paid", "[I", true)
  | 8 => ("LaughTaxModel", "leastTaste", "I", false)
  | 9 => ("LaughTaxModel", "tape", "[I", true)
  | 10 => ("LaughTaxModel", "taped", "I", false)
  | 11 => ("LaughTaxModel", "from", "I", false)
  | 12 => ("LaughTaxModel", "to", "I", false)
  | 13 => ("LaughTaxModel", "isWrong", "Z", false)
  | 14 => ("LaughTaxModel", "bitsOf", "[I", true)
  | 15 => ("LaughTaxModel", "sizeOf", "[I", true)
  | 16 => ("LaughTaxModel", "number", "[I", true)
  | _ => ("LaughTaxModel", "moved", "[I", true)
def tyX6 : Nat → FieldType := fun k => match k with
  | 0 => .array .int
  | 1 => .array .int
  | 2 => .array .int
  | 3 => .boolean
  | 4 => .array .int
  | 5 => .array .int
  | 6 => .int
  | 7 => .array .int
  | 8 => .int
  | 9 => .array .int
  | 10 => .int
  | 11 => .int
  | 12 => .int
  | 13 => .boolean
  | 14 => .array .int
  | 15 => .array .int
  | 16 => .array .int
  | _ => .array .int
abbrev wsX60 : List Cond := u_ws RX6 TX6 18
theorem nmX6 : ∀ a, a < 18 → ∀ b, b < 18 → a ≠ b → (TX6 a).2.1 ≠ (TX6 b).2.1 := by decide +kernel
theorem tyX6_ok : ∀ k, k < 18 → parseFieldDescriptor (TX6 k).2.2.1 = some (tyX6 k) := by decide +kernel
abbrev cX6_init : ByteArray := prog_8_method_1_code
def yX6_init : MethodName := ⟨RX6, "<init>", "()V"⟩
abbrev cX6_finds : ByteArray := prog_8_method_2_code
def yX6_finds : MethodName := ⟨RX6, "finds", "(I)I"⟩
abbrev cX6_in : ByteArray := prog_8_method_3_code
def yX6_in : MethodName := ⟨RX6, "in", "(JJJ)Z"⟩
abbrev cX6_become : ByteArray := prog_8_method_4_code
def yX6_become : MethodName := ⟨RX6, "become", "([I[I)V"⟩
abbrev cX6_lends : ByteArray := prog_8_method_5_code
def yX6_lends : MethodName := ⟨RX6, "lends", "()V"⟩
abbrev cX6_laysBack : ByteArray := prog_8_method_6_code
def yX6_laysBack : MethodName := ⟨RX6, "laysBack", "()V"⟩
abbrev cX6_isPerson : ByteArray := prog_8_method_7_code
def yX6_isPerson : MethodName := ⟨RX6, "isPerson", "(I)Z"⟩
abbrev cX6_isJoke : ByteArray := prog_8_method_8_code
def yX6_isJoke : MethodName := ⟨RX6, "isJoke", "(I)Z"⟩
abbrev cX6_isSeat : ByteArray := prog_8_method_9_code
def yX6_isSeat : MethodName := ⟨RX6, "isSeat", "(I)Z"⟩
abbrev cX6_isTopics : ByteArray := prog_8_method_10_code
def yX6_isTopics : MethodName := ⟨RX6, "isTopics", "(I)Z"⟩
abbrev cX6_isFun : ByteArray := prog_8_method_11_code
def yX6_isFun : MethodName := ⟨RX6, "isFun", "(I)Z"⟩
abbrev cX6_its : ByteArray := prog_8_method_12_code
def yX6_its : MethodName := ⟨RX6, "its", "(II)I"⟩
abbrev cX6_sets : ByteArray := prog_8_method_13_code
def yX6_sets : MethodName := ⟨RX6, "sets", "(III)V"⟩
abbrev cX6_becomes : ByteArray := prog_8_method_14_code
def yX6_becomes : MethodName := ⟨RX6, "becomes", "(II)I"⟩
abbrev cX6_ones : ByteArray := prog_8_method_15_code
def yX6_ones : MethodName := ⟨RX6, "ones", "(I)I"⟩
abbrev cX6_everybody : ByteArray := prog_8_method_16_code
def yX6_everybody : MethodName := ⟨RX6, "everybody", "()I"⟩
abbrev cX6_aboveOf : ByteArray := prog_8_method_17_code
def yX6_aboveOf : MethodName := ⟨RX6, "aboveOf", "(I)I"⟩
abbrev cX6_isUnder : ByteArray := prog_8_method_18_code
def yX6_isUnder : MethodName := ⟨RX6, "isUnder", "(II)Z"⟩
abbrev cX6_isKind : ByteArray := prog_8_method_19_code
def yX6_isKind : MethodName := ⟨RX6, "isKind", "(I)Z"⟩
abbrev cX6_bound : ByteArray := prog_8_method_20_code
def yX6_bound : MethodName := ⟨RX6, "bound", "(I)I"⟩
abbrev cX6_numberOf : ByteArray := prog_8_method_21_code
def yX6_numberOf : MethodName := ⟨RX6, "numberOf", "(I)I"⟩
abbrev cX6_near : ByteArray := prog_8_method_22_code
def yX6_near : MethodName := ⟨RX6, "near", "(I)I"⟩
abbrev cX6_strong : ByteArray := prog_8_method_23_code
def yX6_strong : MethodName := ⟨RX6, "strong", "(III)I"⟩
abbrev cX6_seconds : ByteArray := prog_8_method_24_code
def yX6_seconds : MethodName := ⟨RX6, "seconds", "(III)I"⟩
abbrev cX6_due : ByteArray := prog_8_method_25_code
def yX6_due : MethodName := ⟨RX6, "due", "(III)I"⟩
abbrev cX6_adds : ByteArray := prog_8_method_26_code
def yX6_adds : MethodName := ⟨RX6, "adds", "(II)I"⟩
abbrev cX6_person : ByteArray := prog_8_method_27_code
def yX6_person : MethodName := ⟨RX6, "person", "(II)I"⟩
abbrev cX6_of : ByteArray := prog_8_method_28_code
def yX6_of : MethodName := ⟨RX6, "of", "(II)I"⟩
abbrev cX6_mayBe : ByteArray := prog_8_method_29_code
def yX6_mayBe : MethodName := ⟨RX6, "mayBe", "(II)Z"⟩
abbrev cX6_change : ByteArray := prog_8_method_30_code
def yX6_change : MethodName := ⟨RX6, "change", "(III)I"⟩
abbrev cX6_addsJoke : ByteArray := prog_8_method_31_code
def yX6_addsJoke : MethodName := ⟨RX6, "addsJoke", "(II)I"⟩
abbrev cX6_joke : ByteArray := prog_8_method_32_code
def yX6_joke : MethodName := ⟨RX6, "joke", "(II)I"⟩
abbrev cX6_jokeOf : ByteArray := prog_8_method_33_code
def yX6_jokeOf : MethodName := ⟨RX6, "jokeOf", "(II)I"⟩
abbrev cX6_law : ByteArray := prog_8_method_34_code
def yX6_law : MethodName := ⟨RX6, "law", "(II)I"⟩
abbrev cX6_strength : ByteArray := prog_8_method_35_code
def yX6_strength : MethodName := ⟨RX6, "strength", "(III)I"⟩
abbrev cX6_caughtFrom : ByteArray := prog_8_method_36_code
def yX6_caughtFrom : MethodName := ⟨RX6, "caughtFrom", "(II)I"⟩
abbrev cX6_byThemselves : ByteArray := prog_8_method_37_code
def yX6_byThemselves : MethodName := ⟨RX6, "byThemselves", "(II)I"⟩
abbrev cX6_laughAt : ByteArray := prog_8_method_38_code
def yX6_laughAt : MethodName := ⟨RX6, "laughAt", "(II)I"⟩
abbrev cX6_laughAt_ : ByteArray := prog_8_method_39_code
def yX6_laughAt_ : MethodName := ⟨RX6, "laughAt", "(I)I"⟩
abbrev cX6_tells : ByteArray := prog_8_method_40_code
def yX6_tells : MethodName := ⟨RX6, "tells", "(I)I"⟩
abbrev cX6_allPaid : ByteArray := prog_8_method_41_code
def yX6_allPaid : MethodName := ⟨RX6, "allPaid", "()I"⟩
abbrev cX6_tell : ByteArray := prog_8_method_42_code
def yX6_tell : MethodName := ⟨RX6, "tell", "(I)I"⟩
abbrev cX6_evening : ByteArray := prog_8_method_43_code
def yX6_evening : MethodName := ⟨RX6, "evening", "(II)I"⟩
abbrev cX6_sumOf : ByteArray := prog_8_method_44_code
def yX6_sumOf : MethodName := ⟨RX6, "sumOf", "(I)I"⟩
abbrev cX6_now : ByteArray := prog_8_method_45_code
def yX6_now : MethodName := ⟨RX6, "now", "(I)I"⟩
abbrev cX6_poorest : ByteArray := prog_8_method_46_code
def yX6_poorest : MethodName := ⟨RX6, "poorest", "()I"⟩
abbrev cX6_relief : ByteArray := prog_8_method_47_code
def yX6_relief : MethodName := ⟨RX6, "relief", "(I)I"⟩
abbrev cX6_laugh : ByteArray := prog_8_method_48_code
def yX6_laugh : MethodName := ⟨RX6, "laugh", "(II)I"⟩
abbrev cX6_rounds : ByteArray := prog_8_method_49_code
def yX6_rounds : MethodName := ⟨RX6, "rounds", "(I)I"⟩
abbrev cX6_raised : ByteArray := prog_8_method_50_code
def yX6_raised : MethodName := ⟨RX6, "raised", "(I)I"⟩
abbrev cX6_ahead : ByteArray := prog_8_method_51_code
def yX6_ahead : MethodName := ⟨RX6, "ahead", "(II)I"⟩
abbrev cX6_orNone : ByteArray := prog_8_method_52_code
def yX6_orNone : MethodName := ⟨RX6, "orNone", "(I)I"⟩
abbrev cX6_stale : ByteArray := prog_8_method_53_code
def yX6_stale : MethodName := ⟨RX6, "stale", "(I)I"⟩
abbrev cX6_broke : ByteArray := prog_8_method_54_code
def yX6_broke : MethodName := ⟨RX6, "broke", "(II)I"⟩
abbrev cX6_caught : ByteArray := prog_8_method_55_code
def yX6_caught : MethodName := ⟨RX6, "caught", "(I)I"⟩
abbrev cX6_starter : ByteArray := prog_8_method_56_code
def yX6_starter : MethodName := ⟨RX6, "starter", "()I"⟩
abbrev cX6_fewest : ByteArray := prog_8_method_57_code
def yX6_fewest : MethodName := ⟨RX6, "fewest", "()I"⟩
abbrev cX6_leftWithout : ByteArray := prog_8_method_58_code
def yX6_leftWithout : MethodName := ⟨RX6, "leftWithout", "(II)I"⟩
abbrev cX6_away : ByteArray := prog_8_method_59_code
def yX6_away : MethodName := ⟨RX6, "away", "(II)I"⟩
abbrev cX6_seatFor : ByteArray := prog_8_method_60_code
def yX6_seatFor : MethodName := ⟨RX6, "seatFor", "(II)I"⟩
abbrev cX6_kindFor : ByteArray := prog_8_method_61_code
def yX6_kindFor : MethodName := ⟨RX6, "kindFor", "(II)I"⟩
abbrev cX6_reachFor : ByteArray := prog_8_method_62_code
def yX6_reachFor : MethodName := ⟨RX6, "reachFor", "(I)I"⟩
abbrev cX6_rateFor : ByteArray := prog_8_method_63_code
def yX6_rateFor : MethodName := ⟨RX6, "rateFor", "(II)I"⟩
abbrev cX6_best : ByteArray := prog_8_method_64_code
def yX6_best : MethodName := ⟨RX6, "best", "(I)I"⟩
abbrev cX6_quiet : ByteArray := prog_8_method_65_code
def yX6_quiet : MethodName := ⟨RX6, "quiet", "(I)I"⟩
abbrev cX6_safe : ByteArray := prog_8_method_66_code
def yX6_safe : MethodName := ⟨RX6, "safe", "(I)I"⟩
abbrev cX6_paysSo : ByteArray := prog_8_method_67_code
def yX6_paysSo : MethodName := ⟨RX6, "paysSo", "(III)Z"⟩
abbrev cX6_findTastes : ByteArray := prog_8_method_68_code
def yX6_findTastes : MethodName := ⟨RX6, "findTastes", "(III)I"⟩
abbrev cX6_lacksTastes : ByteArray := prog_8_method_69_code
def yX6_lacksTastes : MethodName := ⟨RX6, "lacksTastes", "(III)I"⟩
abbrev cX6_tastes : ByteArray := prog_8_method_70_code
def yX6_tastes : MethodName := ⟨RX6, "tastes", "(III)I"⟩
abbrev cX6_taste : ByteArray := prog_8_method_71_code
def yX6_taste : MethodName := ⟨RX6, "taste", "(III)I"⟩
abbrev cX6_which : ByteArray := prog_8_method_72_code
def yX6_which : MethodName := ⟨RX6, "which", "(I)I"⟩
abbrev cX6_draw : ByteArray := prog_8_method_73_code
def yX6_draw : MethodName := ⟨RX6, "draw", "()I"⟩
abbrev cX6_shows : ByteArray := prog_8_method_74_code
def yX6_shows : MethodName := ⟨RX6, "shows", "(I)I"⟩
abbrev cX6_odds : ByteArray := prog_8_method_75_code
def yX6_odds : MethodName := ⟨RX6, "odds", "(II)J"⟩
abbrev cX6_seed : ByteArray := prog_8_method_76_code
def yX6_seed : MethodName := ⟨RX6, "seed", "(I)I"⟩
abbrev cX6_feed : ByteArray := prog_8_method_77_code
def yX6_feed : MethodName := ⟨RX6, "feed", "(II)I"⟩
abbrev cX6_wipe : ByteArray := prog_8_method_78_code
def yX6_wipe : MethodName := ⟨RX6, "wipe", "()I"⟩
abbrev cX6_isByte : ByteArray := prog_8_method_79_code
def yX6_isByte : MethodName := ⟨RX6, "isByte", "(III)Z"⟩
abbrev cX6_next : ByteArray := prog_8_method_80_code
def yX6_next : MethodName := ⟨RX6, "next", "()V"⟩
abbrev cX6_isWord : ByteArray := prog_8_method_81_code
def yX6_isWord : MethodName := ⟨RX6, "isWord", "(Ljava/lang/String;)Z"⟩
abbrev cX6_must : ByteArray := prog_8_method_82_code
def yX6_must : MethodName := ⟨RX6, "must", "(Z)V"⟩
abbrev cX6_takes : ByteArray := prog_8_method_83_code
def yX6_takes : MethodName := ⟨RX6, "takes", "(Ljava/lang/String;)Z"⟩
abbrev cX6_numberRead : ByteArray := prog_8_method_84_code
def yX6_numberRead : MethodName := ⟨RX6, "numberRead", "(II)I"⟩
abbrev cX6_kindHere : ByteArray := prog_8_method_85_code
def yX6_kindHere : MethodName := ⟨RX6, "kindHere", "()I"⟩
abbrev cX6_partTold : ByteArray := prog_8_method_86_code
def yX6_partTold : MethodName := ⟨RX6, "partTold", "(ILjava/lang/String;II)V"⟩
abbrev cX6_personTold : ByteArray := prog_8_method_87_code
def yX6_personTold : MethodName := ⟨RX6, "personTold", "(I)V"⟩
abbrev cX6_jokeTold : ByteArray := prog_8_method_88_code
def yX6_jokeTold : MethodName := ⟨RX6, "jokeTold", "()V"⟩
abbrev cX6_item : ByteArray := prog_8_method_89_code
def yX6_item : MethodName := ⟨RX6, "item", "()V"⟩
abbrev cX6_text : ByteArray := prog_8_method_90_code
def yX6_text : MethodName := ⟨RX6, "text", "()I"⟩
abbrev cX6_isSpot : ByteArray := prog_8_method_91_code
def yX6_isSpot : MethodName := ⟨RX6, "isSpot", "(I)Z"⟩
abbrev cX6_hold : ByteArray := prog_8_method_92_code
def yX6_hold : MethodName := ⟨RX6, "hold", "(II)I"⟩
abbrev cX6_as : ByteArray := prog_8_method_93_code
def yX6_as : MethodName := ⟨RX6, "as", "(II)I"⟩
abbrev cX6_isSheet : ByteArray := prog_8_method_94_code
def yX6_isSheet : MethodName := ⟨RX6, "isSheet", "(I)Z"⟩
abbrev cX6_sheet : ByteArray := prog_8_method_95_code
def yX6_sheet : MethodName := ⟨RX6, "sheet", "(III)I"⟩
abbrev cX6_lacks : ByteArray := prog_8_method_96_code
def yX6_lacks : MethodName := ⟨RX6, "lacks", "(I)I"⟩
abbrev cX6_write : ByteArray := prog_8_method_97_code
def yX6_write : MethodName := ⟨RX6, "write", "(III)I"⟩
abbrev cX6_copy : ByteArray := prog_8_method_98_code
def yX6_copy : MethodName := ⟨RX6, "copy", "(IIIII)I"⟩
abbrev cX6_load : ByteArray := prog_8_method_99_code
def yX6_load : MethodName := ⟨RX6, "load", "(I)I"⟩
abbrev cX6_goesOn : ByteArray := prog_8_method_100_code
def yX6_goesOn : MethodName := ⟨RX6, "goesOn", "(II)Z"⟩
abbrev cX6_judge : ByteArray := prog_8_method_101_code
def yX6_judge : MethodName := ⟨RX6, "judge", "(I)I"⟩
abbrev cX6_image : ByteArray := prog_8_method_102_code
def yX6_image : MethodName := ⟨RX6, "image", "()I"⟩
abbrev cX6_undo : ByteArray := prog_8_method_103_code
def yX6_undo : MethodName := ⟨RX6, "undo", "()I"⟩
abbrev cX6_tear : ByteArray := prog_8_method_104_code
def yX6_tear : MethodName := ⟨RX6, "tear", "()I"⟩
abbrev cX6_held : ByteArray := prog_8_method_105_code
def yX6_held : MethodName := ⟨RX6, "held", "()I"⟩
abbrev cX6_count : ByteArray := prog_8_method_106_code
def yX6_count : MethodName := ⟨RX6, "count", "(I)I"⟩
abbrev cX6_status : ByteArray := prog_8_method_107_code
def yX6_status : MethodName := ⟨RX6, "status", "(I)I"⟩
def RJ6 : String := "java/lang/Integer"
def TJ6 : u_T := fun k => match k with
  | _ => ("", "", "", false)
def tyJ6 : Nat → FieldType := fun k => match k with
  | _ => .int
abbrev wsJ60 : List Cond := u_ws RJ6 TJ6 0
theorem nmJ6 : ∀ a, a < 0 → ∀ b, b < 0 → a ≠ b → (TJ6 a).2.1 ≠ (TJ6 b).2.1 := by decide +kernel
theorem tyJ6_ok : ∀ k, k < 0 → parseFieldDescriptor (TJ6 k).2.2.1 = some (tyJ6 k) := by decide +kernel
abbrev cJ6_bitCount_0f7a4 : ByteArray := prog_9_method_49_code
def yJ6_bitCount_0f7a4 : MethodName := ⟨RJ6, "bitCount", "(I)I"⟩
def RJ9 : String := "java/lang/Math"
def TJ9 : u_T := fun k => match k with
  | _ => ("", "", "", false)
def tyJ9 : Nat → FieldType := fun k => match k with
  | _ => .int
abbrev wsJ90 : List Cond := u_ws RJ9 TJ9 0
theorem nmJ9 : ∀ a, a < 0 → ∀ b, b < 0 → a ≠ b → (TJ9 a).2.1 ≠ (TJ9 b).2.1 := by decide +kernel
theorem tyJ9_ok : ∀ k, k < 0 → parseFieldDescriptor (TJ9 k).2.2.1 = some (tyJ9 k) := by decide +kernel
abbrev cJ9_abs_0f7a4 : ByteArray := prog_10_method_59_code
def yJ9_abs_0f7a4 : MethodName := ⟨RJ9, "abs", "(I)I"⟩
abbrev cJ9_max_7cf53 : ByteArray := prog_10_method_65_code
def yJ9_max_7cf53 : MethodName := ⟨RJ9, "max", "(II)I"⟩
abbrev cJ9_min_7cf53 : ByteArray := prog_10_method_69_code
def yJ9_min_7cf53 : MethodName := ⟨RJ9, "min", "(II)I"⟩
def RJ0 : String := "java/lang/String"
def TJ0 : u_T := fun k => match k with
  | _ => ("", "", "", false)
def tyJ0 : Nat → FieldType := fun k => match k with
  | _ => .int
abbrev wsJ00 : List Cond := u_ws RJ0 TJ0 0
theorem nmJ0 : ∀ a, a < 0 → ∀ b, b < 0 → a ≠ b → (TJ0 a).2.1 ≠ (TJ0 b).2.1 := by decide +kernel
theorem tyJ0_ok : ∀ k, k < 0 → parseFieldDescriptor (TJ0 k).2.2.1 = some (tyJ0 k) := by decide +kernel
abbrev cJ0_length_8abf5 : ByteArray := prog_11_method_54_code
def yJ0_length_8abf5 : MethodName := ⟨RJ0, "length", "()I"⟩
abbrev cJ0_charAt_5068e : ByteArray := prog_11_method_56_code
def yJ0_charAt_5068e : MethodName := ⟨RJ0, "charAt", "(I)C"⟩
abbrev cJ0_coder_7d493 : ByteArray := prog_11_method_152_code
def yJ0_coder_7d493 : MethodName := ⟨RJ0, "coder", "()B"⟩
abbrev cJ0_isLatin1_aae02 : ByteArray := prog_11_method_154_code
def yJ0_isLatin1_aae02 : MethodName := ⟨RJ0, "isLatin1", "()Z"⟩
abbrev cJ0_checkIndex_df160 : ByteArray := prog_11_method_155_code
def yJ0_checkIndex_df160 : MethodName := ⟨RJ0, "checkIndex", "(II)V"⟩
def RJ1 : String := "java/lang/StringLatin1"
def TJ1 : u_T := fun k => match k with
  | _ => ("", "", "", false)
def tyJ1 : Nat → FieldType := fun k => match k with
  | _ => .int
abbrev wsJ10 : List Cond := u_ws RJ1 TJ1 0
theorem nmJ1 : ∀ a, a < 0 → ∀ b, b < 0 → a ≠ b → (TJ1 a).2.1 ≠ (TJ1 b).2.1 := by decide +kernel
theorem tyJ1_ok : ∀ k, k < 0 → parseFieldDescriptor (TJ1 k).2.2.1 = some (tyJ1 k) := by decide +kernel
abbrev cJ1_charAt_3b067 : ByteArray := prog_12_method_2_code
def yJ1_charAt_3b067 : MethodName := ⟨RJ1, "charAt", "([BI)C"⟩
def RJ2 : String := "java/lang/StringUTF16"
def TJ2 : u_T := fun k => match k with
  | _ => ("", "", "", false)
def tyJ2 : Nat → FieldType := fun k => match k with
  | _ => .int
abbrev wsJ20 : List Cond := u_ws RJ2 TJ2 0
theorem nmJ2 : ∀ a, a < 0 → ∀ b, b < 0 → a ≠ b → (TJ2 a).2.1 ≠ (TJ2 b).2.1 := by decide +kernel
theorem tyJ2_ok : ∀ k, k < 0 → parseFieldDescriptor (TJ2 k).2.2.1 = some (tyJ2 k) := by decide +kernel
abbrev cJ2_getChar_3b067 : ByteArray := prog_13_method_5_code
def yJ2_getChar_3b067 : MethodName := ⟨RJ2, "getChar", "([BI)C"⟩
abbrev cJ2_length_9d52b : ByteArray := prog_13_method_6_code
def yJ2_length_9d52b : MethodName := ⟨RJ2, "length", "([B)I"⟩
abbrev cJ2_charAt_3b067 : ByteArray := prog_13_method_83_code
def yJ2_charAt_3b067 : MethodName := ⟨RJ2, "charAt", "([BI)C"⟩
abbrev cJ2_checkIndex_2214a : ByteArray := prog_13_method_91_code
def yJ2_checkIndex_2214a : MethodName := ⟨RJ2, "checkIndex", "(I[B)V"⟩
def RJ10 : String := "java/lang/System"
def TJ10 : u_T := fun k => match k with
  | _ => ("", "", "", false)
def tyJ10 : Nat → FieldType := fun k => match k with
  | _ => .int
abbrev wsJ100 : List Cond := u_ws RJ10 TJ10 0
theorem nmJ10 : ∀ a, a < 0 → ∀ b, b < 0 → a ≠ b → (TJ10 a).2.1 ≠ (TJ10 b).2.1 := by decide +kernel
theorem tyJ10_ok : ∀ k, k < 0 → parseFieldDescriptor (TJ10 k).2.2.1 = some (tyJ10 k) := by decide +kernel
def RJ3 : String := "jdk/internal/util/Preconditions"
def TJ3 : u_T := fun k => match k with
  | _ => ("", "", "", false)
def tyJ3 : Nat → FieldType := fun k => match k with
  | _ => .int
abbrev wsJ30 : List Cond := u_ws RJ3 TJ3 0
theorem nmJ3 : ∀ a, a < 0 → ∀ b, b < 0 → a ≠ b → (TJ3 a).2.1 ≠ (TJ3 b).2.1 := by decide +kernel
theorem tyJ3_ok : ∀ k, k < 0 → parseFieldDescriptor (TJ3 k).2.2.1 = some (tyJ3 k) := by decide +kernel
abbrev cJ3_checkIndex_8e157 : ByteArray := prog_15_method_11_code
def yJ3_checkIndex_8e157 : MethodName := ⟨RJ3, "checkIndex", "(IILjava/util/function/BiFunction;)I"⟩
def RL : String := "LaughTaxLaw"
abbrev cL_law : ByteArray := code
def yL_law : MethodName := ⟨RL, "law", "([I)Z"⟩
set_option maxRecDepth 20000 in
theorem inJ6 : ∀ w ∈ wsJ60, w ∈ lw_tbl := by decide +kernel
theorem inJ9 : ∀ w ∈ wsJ90, w ∈ lw_tbl := by decide +kernel
theorem inJ0 : ∀ w ∈ wsJ00, w ∈ lw_tbl := by decide +kernel
theorem inJ1 : ∀ w ∈ wsJ10, w ∈ lw_tbl := by decide +kernel
theorem inJ2 : ∀ w ∈ wsJ20, w ∈ lw_tbl := by decide +kernel
theorem inJ10 : ∀ w ∈ wsJ100, w ∈ lw_tbl := by decide +kernel
theorem inJ3 : ∀ w ∈ wsJ30, w ∈ lw_tbl := by decide +kernel
abbrev vwCl : List vw_C := [(RX1, TX1, 16), (RX2, TX2, 3), (RX3, TX3, 7), (RX4, TX4, 3), (RX5, TX5, 8), (RX6, TX6, 18)]
end
section
theorem dX0_isA_0 : decode cX0_isA 0 = .ok (.iload_n 0, 1) := by decide +kernel
theorem dX0_isA_1 : decode cX0_isA 1 = .ok (.istore_n 2, 1) := by decide +kernel
theorem dX0_isA_2 : decode cX0_isA 2 = .ok (.iconst 0, 1) := by decide +kernel
theorem dX0_isA_3 : decode cX0_isA 3 = .ok (.istore_n 3, 1) := by decide +kernel
theorem dX0_isA_4 : decode cX0_isA 4 = .ok (.iload_n 3, 1) := by decide +kernel
theorem dX0_isA_5 : decode cX0_isA 5 = .ok (.bipush 7, 2) := by decide +kernel
theorem dX0_isA_7 : decode cX0_isA 7 = .ok (.if_icmp .ge 27, 3) := by decide +kernel
theorem dX0_isA_10 : decode cX0_isA 10 = .ok (.iload_n 2, 1) := by decide +kernel
theorem dX0_isA_11 : decode cX0_isA 11 = .ok (.iconst (-1), 1) := by decide +kernel
theorem dX0_isA_12 : decode cX0_isA 12 = .ok (.if_icmp .eq 22, 3) := by decide +kernel
theorem dX0_isA_15 : decode cX0_isA 15 = .ok (.iload_n 2, 1) := by decide +kernel
theorem dX0_isA_16 : decode cX0_isA 16 = .ok (.iload_n 1, 1) := by decide +kernel
theorem dX0_isA_17 : decode cX0_isA 17 = .ok (.if_icmp .ne 5, 3) := by decide +kernel
theorem dX0_isA_20 : decode cX0_isA 20 = .ok (.iconst 1, 1) := by decide +kernel
theorem dX0_isA_21 : decode cX0_isA 21 = .ok (.ireturn, 1) := by decide +kernel
theorem dX0_isA_22 : decode cX0_isA 22 = .ok (.getstatic 11, 3) := by decide +kernel
theorem dX0_isA_25 : decode cX0_isA 25 = .ok (.iload_n 2, 1) := by decide +kernel
theorem dX0_isA_26 : decode cX0_isA 26 = .ok (.iaload, 1) := by decide +kernel
theorem dX0_isA_27 : decode cX0_isA 27 = .ok (.istore_n 2, 1) := by decide +kernel
theorem dX0_isA_28 : decode cX0_isA 28 = .ok (.iinc 3 1, 3) := by decide +kernel
theorem dX0_isA_31 : decode cX0_isA 31 = .ok (.goto (-27), 3) := by decide +kernel
theorem dX0_isA_34 : decode cX0_isA 34 = .ok (.iconst 0, 1) := by decide +kernel
theorem dX0_isA_35 : decode cX0_isA 35 = .ok (.ireturn, 1) := by decide +kernel
theorem dX0_bound_0 : decode cX0_bound 0 = .ok (.bipush 8, 2) := by decide +kernel
theorem dX0_bound_2 : decode cX0_bound 2 = .ok (.bipush 20, 2) := by decide +kernel
theorem dX0_bound_4 : decode cX0_bound 4 = .ok (.iload_n 1, 1) := by decide +kernel
theorem dX0_bound_5 : decode cX0_bound 5 = .ok (.bipush 10, 2) := by decide +kernel
theorem dX0_bound_7 : decode cX0_bound 7 = .ok (.idiv, 1) := by decide +kernel
theorem dX0_bound_8 : decode cX0_bound 8 = .ok (.invokestatic 15, 3) := by decide +kernel
theorem dX0_bound_11 : decode cX0_bound 11 = .ok (.iadd, 1) := by decide +kernel
theorem dX0_bound_12 : decode cX0_bound 12 = .ok (.istore_n 2, 1) := by decide +kernel
theorem dX0_bound_13 : decode cX0_bound 13 = .ok (.iload_n 0, 1) := by decide +kernel
theorem dX0_bound_14 : decode cX0_bound 14 = .ok (.tableswitch 53 1 6 #[38, 44, 46, 48, 51, 40], 38) := by decide +kernel
theorem dX0_bound_52 : decode cX0_bound 52 = .ok (.iload_n 2, 1) := by decide +kernel
theorem dX0_bound_53 : decode cX0_bound 53 = .ok (.ireturn, 1) := by decide +kernel
theorem dX0_bound_54 : decode cX0_bound 54 = .ok (.iload_n 2, 1) := by decide +kernel
theorem dX0_bound_55 : decode cX0_bound 55 = .ok (.iconst 4, 1) := by decide +kernel
theorem dX0_bound_56 : decode cX0_bound 56 = .ok (.iadd, 1) := by decide +kernel
theorem dX0_bound_57 : decode cX0_bound 57 = .ok (.ireturn, 1) := by decide +kernel
theorem dX0_bound_58 : decode cX0_bound 58 = .ok (.iconst 4, 1) := by decide +kernel
theorem dX0_bound_59 : decode cX0_bound 59 = .ok (.ireturn, 1) := by decide +kernel
theorem dX0_bound_60 : decode cX0_bound 60 = .ok (.iconst 3, 1) := by decide +kernel
theorem dX0_bound_61 : decode cX0_bound 61 = .ok (.ireturn, 1) := by decide +kernel
theorem dX0_bound_62 : decode cX0_bound 62 = .ok (.bipush 93, 2) := by decide +kernel
theorem dX0_bound_64 : decode cX0_bound 64 = .ok (.ireturn, 1) := by decide +kernel
theorem dX0_bound_65 : decode cX0_bound 65 = .ok (.iconst 5, 1) := by decide +kernel
theorem dX0_bound_66 : decode cX0_bound 66 = .ok (.ireturn, 1) := by decide +kernel
theorem dX0_bound_67 : decode cX0_bound 67 = .ok (.bipush 8, 2) := by decide +kernel
theorem dX0_bound_69 : decode cX0_bound 69 = .ok (.ireturn, 1) := by decide +kernel
theorem dX0_number_0 : decode cX0_number 0 = .ok (.iload_n 0, 1) := by decide +kernel
theorem dX0_number_1 : decode cX0_number 1 = .ok (.tableswitch 62 1 6 #[39, 44, 46, 48, 51, 41], 39) := by decide +kernel
theorem dX0_number_40 : decode cX0_number 40 = .ok (.iconst 3, 1) := by decide +kernel
theorem dX0_number_41 : decode cX0_number 41 = .ok (.ireturn, 1) := by decide +kernel
theorem dX0_number_42 : decode cX0_number 42 = .ok (.bipush 6, 2) := by decide +kernel
theorem dX0_number_44 : decode cX0_number 44 = .ok (.ireturn, 1) := by decide +kernel
theorem dX0_number_45 : decode cX0_number 45 = .ok (.iconst 1, 1) := by decide +kernel
theorem dX0_number_46 : decode cX0_number 46 = .ok (.ireturn, 1) := by decide +kernel
theorem dX0_number_47 : decode cX0_number 47 = .ok (.iconst 1, 1) := by decide +kernel
theorem dX0_number_48 : decode cX0_number 48 = .ok (.ireturn, 1) := by decide +kernel
theorem dX0_number_49 : decode cX0_number 49 = .ok (.bipush 9, 2) := by decide +kernel
theorem dX0_number_51 : decode cX0_number 51 = .ok (.ireturn, 1) := by decide +kernel
theorem dX0_number_52 : decode cX0_number 52 = .ok (.iload_n 1, 1) := by decide +kernel
theorem dX0_number_53 : decode cX0_number 53 = .ok (.iconst 5, 1) := by decide +kernel
theorem dX0_number_54 : decode cX0_number 54 = .ok (.if_icmp .lt 7, 3) := by decide +kernel
theorem dX0_number_57 : decode cX0_number 57 = .ok (.iconst 1, 1) := by decide +kernel
theorem dX0_number_58 : decode cX0_number 58 = .ok (.goto 4, 3) := by decide +kernel
theorem dX0_number_61 : decode cX0_number 61 = .ok (.iconst 2, 1) := by decide +kernel
theorem dX0_number_62 : decode cX0_number 62 = .ok (.ireturn, 1) := by decide +kernel
theorem dX0_number_63 : decode cX0_number 63 = .ok (.iconst 2, 1) := by decide +kernel
theorem dX0_number_64 : decode cX0_number 64 = .ok (.ireturn, 1) := by decide +kernel
theorem dX0_seconds_0 : decode cX0_seconds 0 = .ok (.bipush 30, 2) := by decide +kernel
theorem dX0_seconds_2 : decode cX0_seconds 2 = .ok (.iconst 1, 1) := by decide +kernel
theorem dX0_seconds_3 : decode cX0_seconds 3 = .ok (.iload_n 1, 1) := by decide +kernel
theorem dX0_seconds_4 : decode cX0_seconds 4 = .ok (.invokestatic 21, 3) := by decide +kernel
theorem dX0_seconds_7 : decode cX0_seconds 7 = .ok (.invokestatic 15, 3) := by decide +kernel
theorem dX0_seconds_10 : decode cX0_seconds 10 = .ok (.istore_n 2, 1) := by decide +kernel
theorem dX0_seconds_11 : decode cX0_seconds 11 = .ok (.iload_n 0, 1) := by decide +kernel
theorem dX0_seconds_12 : decode cX0_seconds 12 = .ok (.tableswitch 60 1 6 #[40, 48, 52, 58, 60, 46], 40) := by decide +kernel
theorem dX0_seconds_52 : decode cX0_seconds 52 = .ok (.iload_n 2, 1) := by decide +kernel
theorem dX0_seconds_53 : decode cX0_seconds 53 = .ok (.iconst 2, 1) := by decide +kernel
theorem dX0_seconds_54 : decode cX0_seconds 54 = .ok (.idiv, 1) := by decide +kernel
theorem dX0_seconds_55 : decode cX0_seconds 55 = .ok (.iconst 1, 1) := by decide +kernel
theorem dX0_seconds_56 : decode cX0_seconds 56 = .ok (.iadd, 1) := by decide +kernel
theorem dX0_seconds_57 : decode cX0_seconds 57 = .ok (.ireturn, 1) := by decide +kernel
theorem dX0_seconds_58 : decode cX0_seconds 58 = .ok (.iconst 1, 1) := by decide +kernel
theorem dX0_seconds_59 : decode cX0_seconds 59 = .ok (.ireturn, 1) := by decide +kernel
theorem dX0_seconds_60 : decode cX0_seconds 60 = .ok (.iload_n 2, 1) := by decide +kernel
theorem dX0_seconds_61 : decode cX0_seconds 61 = .ok (.iconst 2, 1) := by decide +kernel
theorem dX0_seconds_62 : decode cX0_seconds 62 = .ok (.imul, 1) := by decide +kernel
theorem dX0_seconds_63 : decode cX0_seconds 63 = .ok (.ireturn, 1) := by decide +kernel
theorem dX0_seconds_64 : decode cX0_seconds 64 = .ok (.iload_n 2, 1) := by decide +kernel
theorem dX0_seconds_65 : decode cX0_seconds 65 = .ok (.iconst 2, 1) := by decide +kernel
theorem dX0_seconds_66 : decode cX0_seconds 66 = .ok (.imul, 1) := by decide +kernel
theorem dX0_seconds_67 : decode cX0_seconds 67 = .ok (.iconst 5, 1) := by decide +kernel
theorem dX0_seconds_68 : decode cX0_seconds 68 = .ok (.iadd, 1) := by decide +kernel
theorem dX0_seconds_69 : decode cX0_seconds 69 = .ok (.ireturn, 1) := by decide +kernel
theorem dX0_seconds_70 : decode cX0_seconds 70 = .ok (.iconst 0, 1) := by decide +kernel
theorem dX0_seconds_71 : decode cX0_seconds 71 = .ok (.ireturn, 1) := by decide +kernel
theorem dX0_seconds_72 : decode cX0_seconds 72 = .ok (.iload_n 2, 1) := by decide +kernel
theorem dX0_seconds_73 : decode cX0_seconds 73 = .ok (.ireturn, 1) := by decide +kernel
theorem dX1_init_0 : decode cX1_init 0 = .ok (.aload_n 0, 1) := by decide +kernel
theorem dX1_init_1 : decode cX1_init 1 = .ok (.invokespecial 3, 3) := by decide +kernel
theorem dX1_init_4 : decode cX1_init 4 = .ok (.aload_n 0, 1) := by decide +kernel
theorem dX1_init_5 : decode cX1_init 5 = .ok (.bipush 8, 2) := by decide +kernel
theorem dX1_init_7 : decode cX1_init 7 = .ok (.newarray .int, 2) := by decide +kernel
theorem dX1_init_9 : decode cX1_init 9 = .ok (.putfield 9, 3) := by decide +kernel
theorem dX1_init_12 : decode cX1_init 12 = .ok (.aload_n 0, 1) := by decide +kernel
theorem dX1_init_13 : decode cX1_init 13 = .ok (.bipush 8, 2) := by decide +kernel
theorem dX1_init_15 : decode cX1_init 15 = .ok (.newarray .int, 2) := by decide +kernel
theorem dX1_init_17 : decode cX1_init 17 = .ok (.putfield 15, 3) := by decide +kernel
theorem dX1_init_20 : decode cX1_init 20 = .ok (.aload_n 0, 1) := by decide +kernel
theorem dX1_init_21 : decode cX1_init 21 = .ok (.bipush 8, 2) := by decide +kernel
theorem dX1_init_23 : decode cX1_init 23 = .ok (.newarray .int, 2) := by decide +kernel
theorem dX1_init_25 : decode cX1_init 25 = .ok (.putfield 18, 3) := by decide +kernel
theorem dX1_init_28 : decode cX1_init 28 = .ok (.aload_n 0, 1) := by decide +kernel
theorem dX1_init_29 : decode cX1_init 29 = .ok (.bipush 8, 2) := by decide +kernel
theorem dX1_init_31 : decode cX1_init 31 = .ok (.newarray .int, 2) := by decide +kernel
theorem dX1_init_33 : decode cX1_init 33 = .ok (.putfield 21, 3) := by decide +kernel
theorem dX1_init_36 : decode cX1_init 36 = .ok (.aload_n 0, 1) := by decide +kernel
theorem dX1_init_37 : decode cX1_init 37 = .ok (.bipush 8, 2) := by decide +kernel
theorem dX1_init_39 : decode cX1_init 39 = .ok (.newarray .int, 2) := by decide +kernel
theorem dX1_init_41 : decode cX1_init 41 = .ok (.putfield 24, 3) := by decide +kernel
theorem dX1_init_44 : decode cX1_init 44 = .ok (.aload_n 0, 1) := by decide +kernel
theorem dX1_init_45 : decode cX1_init 45 = .ok (.bipush 8, 2) := by decide +kernel
theorem dX1_init_47 : decode cX1_init 47 = .ok (.newarray .int, 2) := by decide +kernel
theorem dX1_init_49 : decode cX1_init 49 = .ok (.putfield 27, 3) := by decide +kernel
theorem dX1_init_52 : decode cX1_init 52 = .ok (.aload_n 0, 1) := by decide +kernel
theorem dX1_init_53 : decode cX1_init 53 = .ok (.bipush 8, 2) := by decide +kernel
theorem dX1_init_55 : decode cX1_init 55 = .ok (.newarray .int, 2) := by decide +kernel
theorem dX1_init_57 : decode cX1_init 57 = .ok (.putfield 30, 3) := by decide +kernel
theorem dX1_init_60 : decode cX1_init 60 = .ok (.aload_n 0, 1) := by decide +kernel
theorem dX1_init_61 : decode cX1_init 61 = .ok (.bipush 8, 2) := by decide +kernel
theorem dX1_init_63 : decode cX1_init 63 = .ok (.newarray .int, 2) := by decide +kernel
theorem dX1_init_65 : decode cX1_init 65 = .ok (.putfield 33, 3) := by decide +kernel
theorem dX1_init_68 : decode cX1_init 68 = .ok (.aload_n 0, 1) := by decide +kernel
theorem dX1_init_69 : decode cX1_init 69 = .ok (.iconst 1, 1) := by decide +kernel
theorem dX1_init_70 : decode cX1_init 70 = .ok (.putfield 36, 3) := by decide +kernel
theorem dX1_init_73 : decode cX1_init 73 = .ok (.aload_n 0, 1) := by decide +kernel
theorem dX1_init_74 : decode cX1_init 74 = .ok (.iconst 2, 1) := by decide +kernel
theorem dX1_init_75 : decode cX1_init 75 = .ok (.putfield 40, 3) := by decide +kernel
theorem dX1_init_78 : decode cX1_init 78 = .ok (.aload_n 0, 1) := by decide +kernel
theorem dX1_init_79 : decode cX1_init 79 = .ok (.iconst 1, 1) := by decide +kernel
theorem dX1_init_80 : decode cX1_init 80 = .ok (.putfield 43, 3) := by decide +kernel
theorem dX1_init_83 : decode cX1_init 83 = .ok (.aload_n 0, 1) := by decide +kernel
theorem dX1_init_84 : decode cX1_init 84 = .ok (.bipush 10, 2) := by decide +kernel
theorem dX1_init_86 : decode cX1_init 86 = .ok (.newarray .int, 2) := by decide +kernel
theorem dX1_init_88 : decode cX1_init 88 = .ok (.putfield 46, 3) := by decide +kernel
theorem dX1_init_91 : decode cX1_init 91 = .ok (.iconst 0, 1) := by decide +kernel
theorem dX1_init_92 : decode cX1_init 92 = .ok (.istore_n 1, 1) := by decide +kernel
theorem dX1_init_93 : decode cX1_init 93 = .ok (.iload_n 1, 1) := by decide +kernel
theorem dX1_init_94 : decode cX1_init 94 = .ok (.bipush 10, 2) := by decide +kernel
theorem dX1_init_96 : decode cX1_init 96 = .ok (.if_icmp .ge 16, 3) := by decide +kernel
theorem dX1_init_99 : decode cX1_init 99 = .ok (.aload_n 0, 1) := by decide +kernel
theorem dX1_init_100 : decode cX1_init 100 = .ok (.getfield 46, 3) := by decide +kernel
theorem dX1_init_103 : decode cX1_init 103 = .ok (.iload_n 1, 1) := by decide +kernel
theorem dX1_init_104 : decode cX1_init 104 = .ok (.iconst (-1), 1) := by decide +kernel
theorem dX1_init_105 : decode cX1_init 105 = .ok (.iastore, 1) := by decide +kernel
theorem dX1_init_106 : decode cX1_init 106 = .ok (.iinc 1 1, 3) := by decide +kernel
theorem dX1_init_109 : decode cX1_init 109 = .ok (.goto (-16), 3) := by decide +kernel
theorem dX1_init_112 : decode cX1_init 112 = .ok (.return_, 1) := by decide +kernel
theorem dX1_takeOver_0 : decode cX1_takeOver 0 = .ok (.aload_n 0, 1) := by decide +kernel
theorem dX1_takeOver_1 : decode cX1_takeOver 1 = .ok (.aload_n 1, 1) := by decide +kernel
theorem dX1_takeOver_2 : decode cX1_takeOver 2 = .ok (.getfield 49, 3) := by decide +kernel
theorem dX1_takeOver_5 : decode cX1_takeOver 5 = .ok (.putfield 49, 3) := by decide +kernel
theorem dX1_takeOver_8 : decode cX1_takeOver 8 = .ok (.aload_n 1, 1) := by decide +kernel
theorem dX1_takeOver_9 : decode cX1_takeOver 9 = .ok (.getfield 9, 3) := by decide +kernel
theorem dX1_takeOver_12 : decode cX1_takeOver 12 = .ok (.iconst 0, 1) := by decide +kernel
theorem dX1_takeOver_13 : decode cX1_takeOver 13 = .ok (.aload_n 0, 1) := by decide +kernel
theorem dX1_takeOver_14 : decode cX1_takeOver 14 = .ok (.getfield 9, 3) := by decide +kernel
theorem dX1_takeOver_17 : decode cX1_takeOver 17 = .ok (.iconst 0, 1) := by decide +kernel
theorem dX1_takeOver_18 : decode cX1_takeOver 18 = .ok (.bipush 8, 2) := by decide +kernel
theorem dX1_takeOver_20 : decode cX1_takeOver 20 = .ok (.invokestatic 52, 3) := by decide +kernel
theorem dX1_takeOver_23 : decode cX1_takeOver 23 = .ok (.aload_n 1, 1) := by decide +kernel
theorem dX1_takeOver_24 : decode cX1_takeOver 24 = .ok (.getfield 15, 3) := by decide +kernel
theorem dX1_takeOver_27 : decode cX1_takeOver 27 = .ok (.iconst 0, 1) := by decide +kernel
theorem dX1_takeOver_28 : decode cX1_takeOver 28 = .ok (.aload_n 0, 1) := by decide +kernel
theorem dX1_takeOver_29 : decode cX1_takeOver 29 = .ok (.getfield 15, 3) := by decide +kernel
theorem dX1_takeOver_32 : decode cX1_takeOver 32 = .ok (.iconst 0, 1) := by decide +kernel
theorem dX1_takeOver_33 : decode cX1_takeOver 33 = .ok (.bipush 8, 2) := by decide +kernel
theorem dX1_takeOver_35 : decode cX1_takeOver 35 = .ok (.invokestatic 52, 3) := by decide +kernel
theorem dX1_takeOver_38 : decode cX1_takeOver 38 = .ok (.aload_n 1, 1) := by decide +kernel
theorem dX1_takeOver_39 : decode cX1_takeOver 39 = .ok (.getfield 18, 3) := by decide +kernel
theorem dX1_takeOver_42 : decode cX1_takeOver 42 = .ok (.iconst 0, 1) := by decide +kernel
theorem dX1_takeOver_43 : decode cX1_takeOver 43 = .ok (.aload_n 0, 1) := by decide +kernel
theorem dX1_takeOver_44 : decode cX1_takeOver 44 = .ok (.getfield 18, 3) := by decide +kernel
theorem dX1_takeOver_47 : decode cX1_takeOver 47 = .ok (.iconst 0, 1) := by decide +kernel
theorem dX1_takeOver_48 : decode cX1_takeOver 48 = .ok (.bipush 8, 2) := by decide +kernel
theorem dX1_takeOver_50 : decode cX1_takeOver 50 = .ok (.invokestatic 52, 3) := by decide +kernel
theorem dX1_takeOver_53 : decode cX1_takeOver 53 = .ok (.aload_n 1, 1) := by decide +kernel
theorem dX1_takeOver_54 : decode cX1_takeOver 54 = .ok (.getfield 21, 3) := by decide +kernel
theorem dX1_takeOver_57 : decode cX1_takeOver 57 = .ok (.iconst 0, 1) := by decide +kernel
theorem dX1_takeOver_58 : decode cX1_takeOver 58 = .ok (.aload_n 0, 1) := by decide +kernel
theorem dX1_takeOver_59 : decode cX1_takeOver 59 = .ok (.getfield 21, 3) := by decide +kernel
theorem dX1_takeOver_62 : decode cX1_takeOver 62 = .ok (.iconst 0, 1) := by decide +kernel
theorem dX1_takeOver_63 : decode cX1_takeOver 63 = .ok (.bipush 8, 2) := by decide +kernel
theorem dX1_takeOver_65 : decode cX1_takeOver 65 = .ok (.invokestatic 52, 3) := by decide +kernel
theorem dX1_takeOver_68 : decode cX1_takeOver 68 = .ok (.aload_n 1, 1) := by decide +kernel
theorem dX1_takeOver_69 : decode cX1_takeOver 69 = .ok (.getfield 24, 3) := by decide +kernel
theorem dX1_takeOver_72 : decode cX1_takeOver 72 = .ok (.iconst 0, 1) := by decide +kernel
theorem dX1_takeOver_73 : decode cX1_takeOver 73 = .ok (.aload_n 0, 1) := by decide +kernel
theorem dX1_takeOver_74 : decode cX1_takeOver 74 = .ok (.getfield 24, 3) := by decide +kernel
theorem dX1_takeOver_77 : decode cX1_takeOver 77 = .ok (.iconst 0, 1) := by decide +kernel
theorem dX1_takeOver_78 : decode cX1_takeOver 78 = .ok (.bipush 8, 2) := by decide +kernel
theorem dX1_takeOver_80 : decode cX1_takeOver 80 = .ok (.invokestatic 52, 3) := by decide +kernel
theorem dX1_takeOver_83 : decode cX1_takeOver 83 = .ok (.aload_n 1, 1) := by decide +kernel
theorem dX1_takeOver_84 : decode cX1_takeOver 84 = .ok (.getfield 27, 3) := by decide +kernel
theorem dX1_takeOver_87 : decode cX1_takeOver 87 = .ok (.iconst 0, 1) := by decide +kernel
theorem dX1_takeOver_88 : decode cX1_takeOver 88 = .ok (.aload_n 0, 1) := by decide +kernel
theorem dX1_takeOver_89 : decode cX1_takeOver 89 = .ok (.getfield 27, 3) := by decide +kernel
theorem dX1_takeOver_92 : decode cX1_takeOver 92 = .ok (.iconst 0, 1) := by decide +kernel
theorem dX1_takeOver_93 : decode cX1_takeOver 93 = .ok (.bipush 8, 2) := by decide +kernel
theorem dX1_takeOver_95 : decode cX1_takeOver 95 = .ok (.invokestatic 52, 3) := by decide +kernel
theorem dX1_takeOver_98 : decode cX1_takeOver 98 = .ok (.aload_n 0, 1) := by decide +kernel
theorem dX1_takeOver_99 : decode cX1_takeOver 99 = .ok (.aload_n 1, 1) := by decide +kernel
theorem dX1_takeOver_100 : decode cX1_takeOver 100 = .ok (.getfield 58, 3) := by decide +kernel
theorem dX1_takeOver_103 : decode cX1_takeOver 103 = .ok (.putfield 58, 3) := by decide +kernel
theorem dX1_takeOver_106 : decode cX1_takeOver 106 = .ok (.aload_n 1, 1) := by decide +kernel
theorem dX1_takeOver_107 : decode cX1_takeOver 107 = .ok (.getfield 30, 3) := by decide +kernel
theorem dX1_takeOver_110 : decode cX1_takeOver 110 = .ok (.iconst 0, 1) := by decide +kernel
theorem dX1_takeOver_111 : decode cX1_takeOver 111 = .ok (.aload_n 0, 1) := by decide +kernel
theorem dX1_takeOver_112 : decode cX1_takeOver 112 = .ok (.getfield 30, 3) := by decide +kernel
theorem dX1_takeOver_115 : decode cX1_takeOver 115 = .ok (.iconst 0, 1) := by decide +kernel
theorem dX1_takeOver_116 : decode cX1_takeOver 116 = .ok (.bipush 8, 2) := by decide +kernel
theorem dX1_takeOver_118 : decode cX1_takeOver 118 = .ok (.invokestatic 52, 3) := by decide +kernel
theorem dX1_takeOver_121 : decode cX1_takeOver 121 = .ok (.aload_n 1, 1) := by decide +kernel
theorem dX1_takeOver_122 : decode cX1_takeOver 122 = .ok (.getfield 33, 3) := by decide +kernel
theorem dX1_takeOver_125 : decode cX1_takeOver 125 = .ok (.iconst 0, 1) := by decide +kernel
theorem dX1_takeOver_126 : decode cX1_takeOver 126 = .ok (.aload_n 0, 1) := by decide +kernel
theorem dX1_takeOver_127 : decode cX1_takeOver 127 = .ok (.getfield 33, 3) := by decide +kernel
theorem dX1_takeOver_130 : decode cX1_takeOver 130 = .ok (.iconst 0, 1) := by decide +kernel
theorem dX1_takeOver_131 : decode cX1_takeOver 131 = .ok (.bipush 8, 2) := by decide +kernel
theorem dX1_takeOver_133 : decode cX1_takeOver 133 = .ok (.invokestatic 52, 3) := by decide +kernel
theorem dX1_takeOver_136 : decode cX1_takeOver 136 = .ok (.aload_n 0, 1) := by decide +kernel
theorem dX1_takeOver_137 : decode cX1_takeOver 137 = .ok (.aload_n 1, 1) := by decide +kernel
theorem dX1_takeOver_138 : decode cX1_takeOver 138 = .ok (.getfield 36, 3) := by decide +kernel
theorem dX1_takeOver_141 : decode cX1_takeOver 141 = .ok (.putfield 36, 3) := by decide +kernel
theorem dX1_takeOver_144 : decode cX1_takeOver 144 = .ok (.aload_n 0, 1) := by decide +kernel
theorem dX1_takeOver_145 : decode cX1_takeOver 145 = .ok (.aload_n 1, 1) := by decide +kernel
theorem dX1_takeOver_146 : decode cX1_takeOver 146 = .ok (.getfield 40, 3) := by decide +kernel
theorem dX1_takeOver_149 : decode cX1_takeOver 149 = .ok (.putfield 40, 3) := by decide +kernel
theorem dX1_takeOver_152 : decode cX1_takeOver 152 = .ok (.aload_n 0, 1) := by decide +kernel
theorem dX1_takeOver_153 : decode cX1_takeOver 153 = .ok (.aload_n 1, 1) := by decide +kernel
theorem dX1_takeOver_154 : decode cX1_takeOver 154 = .ok (.getfield 61, 3) := by decide +kernel
theorem dX1_takeOver_157 : decode cX1_takeOver 157 = .ok (.putfield 61, 3) := by decide +kernel
theorem dX1_takeOver_160 : decode cX1_takeOver 160 = .ok (.aload_n 0, 1) := by decide +kernel
theorem dX1_takeOver_161 : decode cX1_takeOver 161 = .ok (.aload_n 1, 1) := by decide +kernel
theorem dX1_takeOver_162 : decode cX1_takeOver 162 = .ok (.getfield 64, 3) := by decide +kernel
theorem dX1_takeOver_165 : decode cX1_takeOver 165 = .ok (.putfield 64, 3) := by decide +kernel
theorem dX1_takeOver_168 : decode cX1_takeOver 168 = .ok (.aload_n 0, 1) := by decide +kernel
theorem dX1_takeOver_169 : decode cX1_takeOver 169 = .ok (.aload_n 1, 1) := by decide +kernel
theorem dX1_takeOver_170 : decode cX1_takeOver 170 = .ok (.getfield 43, 3) := by decide +kernel
theorem dX1_takeOver_173 : decode cX1_takeOver 173 = .ok (.putfield 43, 3) := by decide +kernel
theorem dX1_takeOver_176 : decode cX1_takeOver 176 = .ok (.aload_n 1, 1) := by decide +kernel
theorem dX1_takeOver_177 : decode cX1_takeOver 177 = .ok (.getfield 46, 3) := by decide +kernel
theorem dX1_takeOver_180 : decode cX1_takeOver 180 = .ok (.iconst 0, 1) := by decide +kernel
theorem dX1_takeOver_181 : decode cX1_takeOver 181 = .ok (.aload_n 0, 1) := by decide +kernel
theorem dX1_takeOver_182 : decode cX1_takeOver 182 = .ok (.getfield 46, 3) := by decide +kernel
theorem dX1_takeOver_185 : decode cX1_takeOver 185 = .ok (.iconst 0, 1) := by decide +kernel
theorem dX1_takeOver_186 : decode cX1_takeOver 186 = .ok (.bipush 10, 2) := by decide +kernel
theorem dX1_takeOver_188 : decode cX1_takeOver 188 = .ok (.invokestatic 52, 3) := by decide +kernel
theorem dX1_takeOver_191 : decode cX1_takeOver 191 = .ok (.return_, 1) := by decide +kernel
theorem dX1_addPerson_0 : decode cX1_addPerson 0 = .ok (.aload_n 0, 1) := by decide +kernel
theorem dX1_addPerson_1 : decode cX1_addPerson 1 = .ok (.getfield 49, 3) := by decide +kernel
theorem dX1_addPerson_4 : decode cX1_addPerson 4 = .ok (.istore_n 3, 1) := by decide +kernel
theorem dX1_addPerson_5 : decode cX1_addPerson 5 = .ok (.aload_n 0, 1) := by decide +kernel
theorem dX1_addPerson_6 : decode cX1_addPerson 6 = .ok (.dup, 1) := by decide +kernel
theorem dX1_addPerson_7 : decode cX1_addPerson 7 = .ok (.getfield 49, 3) := by decide +kernel
theorem dX1_addPerson_10 : decode cX1_addPerson 10 = .ok (.iconst 1, 1) := by decide +kernel
theorem dX1_addPerson_11 : decode cX1_addPerson 11 = .ok (.iadd, 1) := by decide +kernel
theorem dX1_addPerson_12 : decode cX1_addPerson 12 = .ok (.putfield 49, 3) := by decide +kernel
theorem dX1_addPerson_15 : decode cX1_addPerson 15 = .ok (.aload_n 0, 1) := by decide +kernel
theorem dX1_addPerson_16 : decode cX1_addPerson 16 = .ok (.getfield 9, 3) := by decide +kernel
theorem dX1_addPerson_19 : decode cX1_addPerson 19 = .ok (.iload_n 3, 1) := by decide +kernel
theorem dX1_addPerson_20 : decode cX1_addPerson 20 = .ok (.iload_n 1, 1) := by decide +kernel
theorem dX1_addPerson_21 : decode cX1_addPerson 21 = .ok (.iastore, 1) := by decide +kernel
theorem dX1_addPerson_22 : decode cX1_addPerson 22 = .ok (.aload_n 0, 1) := by decide +kernel
theorem dX1_addPerson_23 : decode cX1_addPerson 23 = .ok (.getfield 15, 3) := by decide +kernel
theorem dX1_addPerson_26 : decode cX1_addPerson 26 = .ok (.iload_n 3, 1) := by decide +kernel
theorem dX1_addPerson_27 : decode cX1_addPerson 27 = .ok (.iload_n 2, 1) := by decide +kernel
theorem dX1_addPerson_28 : decode cX1_addPerson 28 = .ok (.iastore, 1) := by decide +kernel
theorem dX1_addPerson_29 : decode cX1_addPerson 29 = .ok (.aload_n 0, 1) := by decide +kernel
theorem dX1_addPerson_30 : decode cX1_addPerson 30 = .ok (.getfield 18, 3) := by decide +kernel
theorem dX1_addPerson_33 : decode cX1_addPerson 33 = .ok (.iload_n 3, 1) := by decide +kernel
theorem dX1_addPerson_34 : decode cX1_addPerson 34 = .ok (.iconst 1, 1) := by decide +kernel
theorem dX1_addPerson_35 : decode cX1_addPerson 35 = .ok (.iastore, 1) := by decide +kernel
theorem dX1_addPerson_36 : decode cX1_addPerson 36 = .ok (.aload_n 0, 1) := by decide +kernel
theorem dX1_addPerson_37 : decode cX1_addPerson 37 = .ok (.getfield 21, 3) := by decide +kernel
theorem dX1_addPerson_40 : decode cX1_addPerson 40 = .ok (.iload_n 3, 1) := by decide +kernel
theorem dX1_addPerson_41 : decode cX1_addPerson 41 = .ok (.iconst 3, 1) := by decide +kernel
theorem dX1_addPerson_42 : decode cX1_addPerson 42 = .ok (.iastore, 1) := by decide +kernel
theorem dX1_addPerson_43 : decode cX1_addPerson 43 = .ok (.aload_n 0, 1) := by decide +kernel
theorem dX1_addPerson_44 : decode cX1_addPerson 44 = .ok (.getfield 24, 3) := by decide +kernel
theorem dX1_addPerson_47 : decode cX1_addPerson 47 = .ok (.iload_n 3, 1) := by decide +kernel
theorem dX1_addPerson_48 : decode cX1_addPerson 48 = .ok (.bipush 100, 2) := by decide +kernel
theorem dX1_addPerson_50 : decode cX1_addPerson 50 = .ok (.iastore, 1) := by decide +kernel
theorem dX1_addPerson_51 : decode cX1_addPerson 51 = .ok (.aload_n 0, 1) := by decide +kernel
theorem dX1_addPerson_52 : decode cX1_addPerson 52 = .ok (.invokevirtual 67, 3) := by decide +kernel
theorem dX1_addPerson_55 : decode cX1_addPerson 55 = .ok (.iload_n 3, 1) := by decide +kernel
theorem dX1_addPerson_56 : decode cX1_addPerson 56 = .ok (.ireturn, 1) := by decide +kernel
theorem dX1_addJoke_0 : decode cX1_addJoke 0 = .ok (.aload_n 0, 1) := by decide +kernel
theorem dX1_addJoke_1 : decode cX1_addJoke 1 = .ok (.getfield 58, 3) := by decide +kernel
theorem dX1_addJoke_4 : decode cX1_addJoke 4 = .ok (.istore_n 3, 1) := by decide +kernel
theorem dX1_addJoke_5 : decode cX1_addJoke 5 = .ok (.aload_n 0, 1) := by decide +kernel
theorem dX1_addJoke_6 : decode cX1_addJoke 6 = .ok (.dup, 1) := by decide +kernel
theorem dX1_addJoke_7 : decode cX1_addJoke 7 = .ok (.getfield 58, 3) := by decide +kernel
theorem dX1_addJoke_10 : decode cX1_addJoke 10 = .ok (.iconst 1, 1) := by decide +kernel
theorem dX1_addJoke_11 : decode cX1_addJoke 11 = .ok (.iadd, 1) := by decide +kernel
theorem dX1_addJoke_12 : decode cX1_addJoke 12 = .ok (.putfield 58, 3) := by decide +kernel
theorem dX1_addJoke_15 : decode cX1_addJoke 15 = .ok (.aload_n 0, 1) := by decide +kernel
theorem dX1_addJoke_16 : decode cX1_addJoke 16 = .ok (.getfield 30, 3) := by decide +kernel
theorem dX1_addJoke_19 : decode cX1_addJoke 19 = .ok (.iload_n 3, 1) := by decide +kernel
theorem dX1_addJoke_20 : decode cX1_addJoke 20 = .ok (.iload_n 1, 1) := by decide +kernel
theorem dX1_addJoke_21 : decode cX1_addJoke 21 = .ok (.iastore, 1) := by decide +kernel
theorem dX1_addJoke_22 : decode cX1_addJoke 22 = .ok (.aload_n 0, 1) := by decide +kernel
theorem dX1_addJoke_23 : decode cX1_addJoke 23 = .ok (.getfield 33, 3) := by decide +kernel
theorem dX1_addJoke_26 : decode cX1_addJoke 26 = .ok (.iload_n 3, 1) := by decide +kernel
theorem dX1_addJoke_27 : decode cX1_addJoke 27 = .ok (.iload_n 2, 1) := by decide +kernel
theorem dX1_addJoke_28 : decode cX1_addJoke 28 = .ok (.iastore, 1) := by decide +kernel
theorem dX1_addJoke_29 : decode cX1_addJoke 29 = .ok (.iload_n 3, 1) := by decide +kernel
theorem dX1_addJoke_30 : decode cX1_addJoke 30 = .ok (.ireturn, 1) := by decide +kernel
theorem dX1_setSeat_0 : decode cX1_setSeat 0 = .ok (.aload_n 0, 1) := by decide +kernel
theorem dX1_setSeat_1 : decode cX1_setSeat 1 = .ok (.getfield 15, 3) := by decide +kernel
theorem dX1_setSeat_4 : decode cX1_setSeat 4 = .ok (.iload_n 1, 1) := by decide +kernel
theorem dX1_setSeat_5 : decode cX1_setSeat 5 = .ok (.iload_n 2, 1) := by decide +kernel
theorem dX1_setSeat_6 : decode cX1_setSeat 6 = .ok (.iastore, 1) := by decide +kernel
theorem dX1_setSeat_7 : decode cX1_setSeat 7 = .ok (.aload_n 0, 1) := by decide +kernel
theorem dX1_setSeat_8 : decode cX1_setSeat 8 = .ok (.invokevirtual 67, 3) := by decide +kernel
theorem dX1_setSeat_11 : decode cX1_setSeat 11 = .ok (.return_, 1) := by decide +kernel
theorem dX1_setReach_0 : decode cX1_setReach 0 = .ok (.aload_n 0, 1) := by decide +kernel
theorem dX1_setReach_1 : decode cX1_setReach 1 = .ok (.iload_n 1, 1) := by decide +kernel
theorem dX1_setReach_2 : decode cX1_setReach 2 = .ok (.putfield 40, 3) := by decide +kernel
theorem dX1_setReach_5 : decode cX1_setReach 5 = .ok (.aload_n 0, 1) := by decide +kernel
theorem dX1_setReach_6 : decode cX1_setReach 6 = .ok (.invokevirtual 67, 3) := by decide +kernel
theorem dX1_setReach_9 : decode cX1_setReach 9 = .ok (.return_, 1) := by decide +kernel
theorem dX1_renewNear_0 : decode cX1_renewNear 0 = .ok (.iconst 0, 1) := by decide +kernel
theorem dX1_renewNear_1 : decode cX1_renewNear 1 = .ok (.istore_n 1, 1) := by decide +kernel
theorem dX1_renewNear_2 : decode cX1_renewNear 2 = .ok (.iload_n 1, 1) := by decide +kernel
theorem dX1_renewNear_3 : decode cX1_renewNear 3 = .ok (.aload_n 0, 1) := by decide +kernel
theorem dX1_renewNear_4 : decode cX1_renewNear 4 = .ok (.getfield 49, 3) := by decide +kernel
theorem dX1_renewNear_7 : decode cX1_renewNear 7 = .ok (.if_icmp .ge 68, 3) := by decide +kernel
theorem dX1_renewNear_10 : decode cX1_renewNear 10 = .ok (.iconst 0, 1) := by decide +kernel
theorem dX1_renewNear_11 : decode cX1_renewNear 11 = .ok (.istore_n 2, 1) := by decide +kernel
theorem dX1_renewNear_12 : decode cX1_renewNear 12 = .ok (.iconst 0, 1) := by decide +kernel
theorem dX1_renewNear_13 : decode cX1_renewNear 13 = .ok (.istore_n 3, 1) := by decide +kernel
theorem dX1_renewNear_14 : decode cX1_renewNear 14 = .ok (.iload_n 3, 1) := by decide +kernel
theorem dX1_renewNear_15 : decode cX1_renewNear 15 = .ok (.aload_n 0, 1) := by decide +kernel
theorem dX1_renewNear_16 : decode cX1_renewNear 16 = .ok (.getfield 49, 3) := by decide +kernel
theorem dX1_renewNear_19 : decode cX1_renewNear 19 = .ok (.if_icmp .ge 43, 3) := by decide +kernel
theorem dX1_renewNear_22 : decode cX1_renewNear 22 = .ok (.iload_n 3, 1) := by decide +kernel
theorem dX1_renewNear_23 : decode cX1_renewNear 23 = .ok (.iload_n 1, 1) := by decide +kernel
theorem dX1_renewNear_24 : decode cX1_renewNear 24 = .ok (.if_icmp .eq 32, 3) := by decide +kernel
theorem dX1_renewNear_27 : decode cX1_renewNear 27 = .ok (.aload_n 0, 1) := by decide +kernel
theorem dX1_renewNear_28 : decode cX1_renewNear 28 = .ok (.getfield 15, 3) := by decide +kernel
theorem dX1_renewNear_31 : decode cX1_renewNear 31 = .ok (.iload_n 1, 1) := by decide +kernel
theorem dX1_renewNear_32 : decode cX1_renewNear 32 = .ok (.iaload, 1) := by decide +kernel
theorem dX1_renewNear_33 : decode cX1_renewNear 33 = .ok (.aload_n 0, 1) := by decide +kernel
theorem dX1_renewNear_34 : decode cX1_renewNear 34 = .ok (.getfield 15, 3) := by decide +kernel
theorem dX1_renewNear_37 : decode cX1_renewNear 37 = .ok (.iload_n 3, 1) := by decide +kernel
theorem dX1_renewNear_38 : decode cX1_renewNear 38 = .ok (.iaload, 1) := by decide +kernel
theorem dX1_renewNear_39 : decode cX1_renewNear 39 = .ok (.isub, 1) := by decide +kernel
theorem dX1_renewNear_40 : decode cX1_renewNear 40 = .ok (.invokestatic 70, 3) := by decide +kernel
theorem dX1_renewNear_43 : decode cX1_renewNear 43 = .ok (.aload_n 0, 1) := by decide +kernel
theorem dX1_renewNear_44 : decode cX1_renewNear 44 = .ok (.getfield 40, 3) := by decide +kernel
theorem dX1_renewNear_47 : decode cX1_renewNear 47 = .ok (.if_icmp .gt 9, 3) := by decide +kernel
theorem dX1_renewNear_50 : decode cX1_renewNear 50 = .ok (.iload_n 2, 1) := by decide +kernel
theorem dX1_renewNear_51 : decode cX1_renewNear 51 = .ok (.iconst 1, 1) := by decide +kernel
theorem dX1_renewNear_52 : decode cX1_renewNear 52 = .ok (.iload_n 3, 1) := by decide +kernel
theorem dX1_renewNear_53 : decode cX1_renewNear 53 = .ok (.ishl, 1) := by decide +kernel
theorem dX1_renewNear_54 : decode cX1_renewNear 54 = .ok (.ior, 1) := by decide +kernel
theorem dX1_renewNear_55 : decode cX1_renewNear 55 = .ok (.istore_n 2, 1) := by decide +kernel
theorem dX1_renewNear_56 : decode cX1_renewNear 56 = .ok (.iinc 3 1, 3) := by decide +kernel
theorem dX1_renewNear_59 : decode cX1_renewNear 59 = .ok (.goto (-45), 3) := by decide +kernel
theorem dX1_renewNear_62 : decode cX1_renewNear 62 = .ok (.aload_n 0, 1) := by decide +kernel
theorem dX1_renewNear_63 : decode cX1_renewNear 63 = .ok (.getfield 27, 3) := by decide +kernel
theorem dX1_renewNear_66 : decode cX1_renewNear 66 = .ok (.iload_n 1, 1) := by decide +kernel
theorem dX1_renewNear_67 : decode cX1_renewNear 67 = .ok (.iload_n 2, 1) := by decide +kernel
theorem dX1_renewNear_68 : decode cX1_renewNear 68 = .ok (.iastore, 1) := by decide +kernel
theorem dX1_renewNear_69 : decode cX1_renewNear 69 = .ok (.iinc 1 1, 3) := by decide +kernel
theorem dX1_renewNear_72 : decode cX1_renewNear 72 = .ok (.goto (-70), 3) := by decide +kernel
theorem dX1_renewNear_75 : decode cX1_renewNear 75 = .ok (.return_, 1) := by decide +kernel
theorem dX1_everybody_0 : decode cX1_everybody 0 = .ok (.iconst 1, 1) := by decide +kernel
theorem dX1_everybody_1 : decode cX1_everybody 1 = .ok (.aload_n 0, 1) := by decide +kernel
theorem dX1_everybody_2 : decode cX1_everybody 2 = .ok (.getfield 49, 3) := by decide +kernel
theorem dX1_everybody_5 : decode cX1_everybody 5 = .ok (.ishl, 1) := by decide +kernel
theorem dX1_everybody_6 : decode cX1_everybody 6 = .ok (.iconst 1, 1) := by decide +kernel
theorem dX1_everybody_7 : decode cX1_everybody 7 = .ok (.isub, 1) := by decide +kernel
theorem dX1_everybody_8 : decode cX1_everybody 8 = .ok (.ireturn, 1) := by decide +kernel
theorem dX1_strengthFor_0 : decode cX1_strengthFor 0 = .ok (.iload_n 3, 1) := by decide +kernel
theorem dX1_strengthFor_1 : decode cX1_strengthFor 1 = .ok (.iload_n 2, 1) := by decide +kernel
theorem dX1_strengthFor_2 : decode cX1_strengthFor 2 = .ok (.aload_n 0, 1) := by decide +kernel
theorem dX1_strengthFor_3 : decode cX1_strengthFor 3 = .ok (.getfield 18, 3) := by decide +kernel
theorem dX1_strengthFor_6 : decode cX1_strengthFor 6 = .ok (.iload_n 1, 1) := by decide +kernel
theorem dX1_strengthFor_7 : decode cX1_strengthFor 7 = .ok (.iaload, 1) := by decide +kernel
theorem dX1_strengthFor_8 : decode cX1_strengthFor 8 = .ok (.iand, 1) := by decide +kernel
theorem dX1_strengthFor_9 : decode cX1_strengthFor 9 = .ok (.invokestatic 76, 3) := by decide +kernel
theorem dX1_strengthFor_12 : decode cX1_strengthFor 12 = .ok (.imul, 1) := by decide +kernel
theorem dX1_strengthFor_13 : decode cX1_strengthFor 13 = .ok (.aload_n 0, 1) := by decide +kernel
theorem dX1_strengthFor_14 : decode cX1_strengthFor 14 = .ok (.getfield 21, 3) := by decide +kernel
theorem dX1_strengthFor_17 : decode cX1_strengthFor 17 = .ok (.iload_n 1, 1) := by decide +kernel
theorem dX1_strengthFor_18 : decode cX1_strengthFor 18 = .ok (.iaload, 1) := by decide +kernel
theorem dX1_strengthFor_19 : decode cX1_strengthFor 19 = .ok (.iadd, 1) := by decide +kernel
theorem dX1_strengthFor_20 : decode cX1_strengthFor 20 = .ok (.ireturn, 1) := by decide +kernel
theorem dX1_dueFrom_0 : decode cX1_dueFrom 0 = .ok (.aload_n 0, 1) := by decide +kernel
theorem dX1_dueFrom_1 : decode cX1_dueFrom 1 = .ok (.getfield 9, 3) := by decide +kernel
theorem dX1_dueFrom_4 : decode cX1_dueFrom 4 = .ok (.iload_n 1, 1) := by decide +kernel
theorem dX1_dueFrom_5 : decode cX1_dueFrom 5 = .ok (.iaload, 1) := by decide +kernel
theorem dX1_dueFrom_6 : decode cX1_dueFrom 6 = .ok (.iload_n 2, 1) := by decide +kernel
theorem dX1_dueFrom_7 : decode cX1_dueFrom 7 = .ok (.invokestatic 81, 3) := by decide +kernel
theorem dX1_dueFrom_10 : decode cX1_dueFrom 10 = .ok (.aload_n 0, 1) := by decide +kernel
theorem dX1_dueFrom_11 : decode cX1_dueFrom 11 = .ok (.getfield 36, 3) := by decide +kernel
theorem dX1_dueFrom_14 : decode cX1_dueFrom 14 = .ok (.imul, 1) := by decide +kernel
theorem dX1_dueFrom_15 : decode cX1_dueFrom 15 = .ok (.aload_n 0, 1) := by decide +kernel
theorem dX1_dueFrom_16 : decode cX1_dueFrom 16 = .ok (.getfield 27, 3) := by decide +kernel
theorem dX1_dueFrom_19 : decode cX1_dueFrom 19 = .ok (.iload_n 1, 1) := by decide +kernel
theorem dX1_dueFrom_20 : decode cX1_dueFrom 20 = .ok (.iaload, 1) := by decide +kernel
theorem dX1_dueFrom_21 : decode cX1_dueFrom 21 = .ok (.invokestatic 76, 3) := by decide +kernel
theorem dX1_dueFrom_24 : decode cX1_dueFrom 24 = .ok (.imul, 1) := by decide +kernel
theorem dX1_dueFrom_25 : decode cX1_dueFrom 25 = .ok (.bipush 10, 2) := by decide +kernel
theorem dX1_dueFrom_27 : decode cX1_dueFrom 27 = .ok (.idiv, 1) := by decide +kernel
theorem dX1_dueFrom_28 : decode cX1_dueFrom 28 = .ok (.ireturn, 1) := by decide +kernel
theorem dX1_together_0 : decode cX1_together 0 = .ok (.iconst 0, 1) := by decide +kernel
theorem dX1_together_1 : decode cX1_together 1 = .ok (.istore_n 2, 1) := by decide +kernel
theorem dX1_together_2 : decode cX1_together 2 = .ok (.iconst 0, 1) := by decide +kernel
theorem dX1_together_3 : decode cX1_together 3 = .ok (.istore_n 3, 1) := by decide +kernel
theorem dX1_together_4 : decode cX1_together 4 = .ok (.iload_n 3, 1) := by decide +kernel
theorem dX1_together_5 : decode cX1_together 5 = .ok (.aload_n 0, 1) := by decide +kernel
theorem dX1_together_6 : decode cX1_together 6 = .ok (.getfield 49, 3) := by decide +kernel
theorem dX1_together_9 : decode cX1_together 9 = .ok (.if_icmp .ge 15, 3) := by decide +kernel
theorem dX1_together_12 : decode cX1_together 12 = .ok (.iload_n 2, 1) := by decide +kernel
theorem dX1_together_13 : decode cX1_together 13 = .ok (.aload_n 1, 1) := by decide +kernel
theorem dX1_together_14 : decode cX1_together 14 = .ok (.iload_n 3, 1) := by decide +kernel
theorem dX1_together_15 : decode cX1_together 15 = .ok (.iaload, 1) := by decide +kernel
theorem dX1_together_16 : decode cX1_together 16 = .ok (.iadd, 1) := by decide +kernel
theorem dX1_together_17 : decode cX1_together 17 = .ok (.istore_n 2, 1) := by decide +kernel
theorem dX1_together_18 : decode cX1_together 18 = .ok (.iinc 3 1, 3) := by decide +kernel
theorem dX1_together_21 : decode cX1_together 21 = .ok (.goto (-17), 3) := by decide +kernel
theorem dX1_together_24 : decode cX1_together 24 = .ok (.iload_n 2, 1) := by decide +kernel
theorem dX1_together_25 : decode cX1_together 25 = .ok (.ireturn, 1) := by decide +kernel
theorem dX1_poorest_0 : decode cX1_poorest 0 = .ok (.iconst 0, 1) := by decide +kernel
theorem dX1_poorest_1 : decode cX1_poorest 1 = .ok (.istore_n 1, 1) := by decide +kernel
theorem dX1_poorest_2 : decode cX1_poorest 2 = .ok (.iconst 1, 1) := by decide +kernel
theorem dX1_poorest_3 : decode cX1_poorest 3 = .ok (.istore_n 2, 1) := by decide +kernel
theorem dX1_poorest_4 : decode cX1_poorest 4 = .ok (.iload_n 2, 1) := by decide +kernel
theorem dX1_poorest_5 : decode cX1_poorest 5 = .ok (.aload_n 0, 1) := by decide +kernel
theorem dX1_poorest_6 : decode cX1_poorest 6 = .ok (.getfield 49, 3) := by decide +kernel
theorem dX1_poorest_9 : decode cX1_poorest 9 = .ok (.if_icmp .ge 26, 3) := by decide +kernel
theorem dX1_poorest_12 : decode cX1_poorest 12 = .ok (.aload_n 0, 1) := by decide +kernel
theorem dX1_poorest_13 : decode cX1_poorest 13 = .ok (.getfield 24, 3) := by decide +kernel
theorem dX1_poorest_16 : decode cX1_poorest 16 = .ok (.iload_n 2, 1) := by decide +kernel
theorem dX1_poorest_17 : decode cX1_poorest 17 = .ok (.iaload, 1) := by decide +kernel
theorem dX1_poorest_18 : decode cX1_poorest 18 = .ok (.aload_n 0, 1) := by decide +kernel
theorem dX1_poorest_19 : decode cX1_poorest 19 = .ok (.getfield 24, 3) := by decide +kernel
theorem dX1_poorest_22 : decode cX1_poorest 22 = .ok (.iload_n 1, 1) := by decide +kernel
theorem dX1_poorest_23 : decode cX1_poorest 23 = .ok (.iaload, 1) := by decide +kernel
theorem dX1_poorest_24 : decode cX1_poorest 24 = .ok (.if_icmp .ge 5, 3) := by decide +kernel
theorem dX1_poorest_27 : decode cX1_poorest 27 = .ok (.iload_n 2, 1) := by decide +kernel
theorem dX1_poorest_28 : decode cX1_poorest 28 = .ok (.istore_n 1, 1) := by decide +kernel
theorem dX1_poorest_29 : decode cX1_poorest 29 = .ok (.iinc 2 1, 3) := by decide +kernel
theorem dX1_poorest_32 : decode cX1_poorest 32 = .ok (.goto (-28), 3) := by decide +kernel
theorem dX1_poorest_35 : decode cX1_poorest 35 = .ok (.iload_n 1, 1) := by decide +kernel
theorem dX1_poorest_36 : decode cX1_poorest 36 = .ok (.ireturn, 1) := by decide +kernel
theorem dX1_drawBelow_0 : decode cX1_drawBelow 0 = .ok (.aload_n 0, 1) := by decide +kernel
theorem dX1_drawBelow_1 : decode cX1_drawBelow 1 = .ok (.aload_n 0, 1) := by decide +kernel
theorem dX1_drawBelow_2 : decode cX1_drawBelow 2 = .ok (.getfield 43, 3) := by decide +kernel
theorem dX1_drawBelow_5 : decode cX1_drawBelow 5 = .ok (.ldc 87, 2) := by decide +kernel
theorem dX1_drawBelow_7 : decode cX1_drawBelow 7 = .ok (.imul, 1) := by decide +kernel
theorem dX1_drawBelow_8 : decode cX1_drawBelow 8 = .ok (.sipush 12345, 3) := by decide +kernel
theorem dX1_drawBelow_11 : decode cX1_drawBelow 11 = .ok (.iadd, 1) := by decide +kernel
theorem dX1_drawBelow_12 : decode cX1_drawBelow 12 = .ok (.putfield 43, 3) := by decide +kernel
theorem dX1_drawBelow_15 : decode cX1_drawBelow 15 = .ok (.iload_n 1, 1) := by decide +kernel
theorem dX1_drawBelow_16 : decode cX1_drawBelow 16 = .ok (.ifCond .le 15, 3) := by decide +kernel
theorem dX1_drawBelow_19 : decode cX1_drawBelow 19 = .ok (.aload_n 0, 1) := by decide +kernel
theorem dX1_drawBelow_20 : decode cX1_drawBelow 20 = .ok (.getfield 43, 3) := by decide +kernel
theorem dX1_drawBelow_23 : decode cX1_drawBelow 23 = .ok (.bipush 8, 2) := by decide +kernel
theorem dX1_drawBelow_25 : decode cX1_drawBelow 25 = .ok (.iushr, 1) := by decide +kernel
theorem dX1_drawBelow_26 : decode cX1_drawBelow 26 = .ok (.iload_n 1, 1) := by decide +kernel
theorem dX1_drawBelow_27 : decode cX1_drawBelow 27 = .ok (.irem, 1) := by decide +kernel
theorem dX1_drawBelow_28 : decode cX1_drawBelow 28 = .ok (.goto 4, 3) := by decide +kernel
theorem dX1_drawBelow_31 : decode cX1_drawBelow 31 = .ok (.iconst 0, 1) := by decide +kernel
theorem dX1_drawBelow_32 : decode cX1_drawBelow 32 = .ok (.ireturn, 1) := by decide +kernel
theorem dX1_spotsHolding_0 : decode cX1_spotsHolding 0 = .ok (.iconst 0, 1) := by decide +kernel
theorem dX1_spotsHolding_1 : decode cX1_spotsHolding 1 = .ok (.istore_n 1, 1) := by decide +kernel
theorem dX1_spotsHolding_2 : decode cX1_spotsHolding 2 = .ok (.iconst 0, 1) := by decide +kernel
theorem dX1_spotsHolding_3 : decode cX1_spotsHolding 3 = .ok (.istore_n 2, 1) := by decide +kernel
theorem dX1_spotsHolding_4 : decode cX1_spotsHolding 4 = .ok (.iload_n 2, 1) := by decide +kernel
theorem dX1_spotsHolding_5 : decode cX1_spotsHolding 5 = .ok (.bipush 10, 2) := by decide +kernel
theorem dX1_spotsHolding_7 : decode cX1_spotsHolding 7 = .ok (.if_icmp .ge 22, 3) := by decide +kernel
theorem dX1_spotsHolding_10 : decode cX1_spotsHolding 10 = .ok (.aload_n 0, 1) := by decide +kernel
theorem dX1_spotsHolding_11 : decode cX1_spotsHolding 11 = .ok (.getfield 46, 3) := by decide +kernel
theorem dX1_spotsHolding_14 : decode cX1_spotsHolding 14 = .ok (.iload_n 2, 1) := by decide +kernel
theorem dX1_spotsHolding_15 : decode cX1_spotsHolding 15 = .ok (.iaload, 1) := by decide +kernel
theorem dX1_spotsHolding_16 : decode cX1_spotsHolding 16 = .ok (.iconst (-1), 1) := by decide +kernel
theorem dX1_spotsHolding_17 : decode cX1_spotsHolding 17 = .ok (.if_icmp .eq 6, 3) := by decide +kernel
theorem dX1_spotsHolding_20 : decode cX1_spotsHolding 20 = .ok (.iinc 1 1, 3) := by decide +kernel
theorem dX1_spotsHolding_23 : decode cX1_spotsHolding 23 = .ok (.iinc 2 1, 3) := by decide +kernel
theorem dX1_spotsHolding_26 : decode cX1_spotsHolding 26 = .ok (.goto (-22), 3) := by decide +kernel
theorem dX1_spotsHolding_29 : decode cX1_spotsHolding 29 = .ok (.iload_n 1, 1) := by decide +kernel
theorem dX1_spotsHolding_30 : decode cX1_spotsHolding 30 = .ok (.ireturn, 1) := by decide +kernel
theorem dX2_init_0 : decode cX2_init 0 = .ok (.aload_n 0, 1) := by decide +kernel
theorem dX2_init_1 : decode cX2_init 1 = .ok (.invokespecial 3, 3) := by decide +kernel
theorem dX2_init_4 : decode cX2_init 4 = .ok (.aload_n 0, 1) := by decide +kernel
theorem dX2_init_5 : decode cX2_init 5 = .ok (.bipush 40, 2) := by decide +kernel
theorem dX2_init_7 : decode cX2_init 7 = .ok (.newarray .int, 2) := by decide +kernel
theorem dX2_init_9 : decode cX2_init 9 = .ok (.putfield 9, 3) := by decide +kernel
theorem dX2_init_12 : decode cX2_init 12 = .ok (.return_, 1) := by decide +kernel
theorem dX2_begin_0 : decode cX2_begin 0 = .ok (.aload_n 0, 1) := by decide +kernel
theorem dX2_begin_1 : decode cX2_begin 1 = .ok (.iload_n 1, 1) := by decide +kernel
theorem dX2_begin_2 : decode cX2_begin 2 = .ok (.putfield 15, 3) := by decide +kernel
theorem dX2_begin_5 : decode cX2_begin 5 = .ok (.aload_n 0, 1) := by decide +kernel
theorem dX2_begin_6 : decode cX2_begin 6 = .ok (.iload_n 2, 1) := by decide +kernel
theorem dX2_begin_7 : decode cX2_begin 7 = .ok (.putfield 19, 3) := by decide +kernel
theorem dX2_begin_10 : decode cX2_begin 10 = .ok (.iconst 0, 1) := by decide +kernel
theorem dX2_begin_11 : decode cX2_begin 11 = .ok (.istore_n 3, 1) := by decide +kernel
theorem dX2_begin_12 : decode cX2_begin 12 = .ok (.iload_n 3, 1) := by decide +kernel
theorem dX2_begin_13 : decode cX2_begin 13 = .ok (.bipush 40, 2) := by decide +kernel
theorem dX2_begin_15 : decode cX2_begin 15 = .ok (.if_icmp .ge 16, 3) := by decide +kernel
theorem dX2_begin_18 : decode cX2_begin 18 = .ok (.aload_n 0, 1) := by decide +kernel
theorem dX2_begin_19 : decode cX2_begin 19 = .ok (.getfield 9, 3) := by decide +kernel
theorem dX2_begin_22 : decode cX2_begin 22 = .ok (.iload_n 3, 1) := by decide +kernel
theorem dX2_begin_23 : decode cX2_begin 23 = .ok (.iconst 0, 1) := by decide +kernel
theorem dX2_begin_24 : decode cX2_begin 24 = .ok (.iastore, 1) := by decide +kernel
theorem dX2_begin_25 : decode cX2_begin 25 = .ok (.iinc 3 1, 3) := by decide +kernel
theorem dX2_begin_28 : decode cX2_begin 28 = .ok (.goto (-16), 3) := by decide +kernel
theorem dX2_begin_31 : decode cX2_begin 31 = .ok (.return_, 1) := by decide +kernel
theorem dX2_isMissing_0 : decode cX2_isMissing 0 = .ok (.aload_n 0, 1) := by decide +kernel
theorem dX2_isMissing_1 : decode cX2_isMissing 1 = .ok (.getfield 15, 3) := by decide +kernel
theorem dX2_isMissing_4 : decode cX2_isMissing 4 = .ok (.ifCond .ne 7, 3) := by decide +kernel
theorem dX2_isMissing_7 : decode cX2_isMissing 7 = .ok (.iconst 1, 1) := by decide +kernel
theorem dX2_isMissing_8 : decode cX2_isMissing 8 = .ok (.goto 4, 3) := by decide +kernel
theorem dX2_isMissing_11 : decode cX2_isMissing 11 = .ok (.iconst 0, 1) := by decide +kernel
theorem dX2_isMissing_12 : decode cX2_isMissing 12 = .ok (.ireturn, 1) := by decide +kernel
theorem dX2_put_0 : decode cX2_put 0 = .ok (.aload_n 0, 1) := by decide +kernel
theorem dX2_put_1 : decode cX2_put 1 = .ok (.getfield 15, 3) := by decide +kernel
theorem dX2_put_4 : decode cX2_put 4 = .ok (.bipush 8, 2) := by decide +kernel
theorem dX2_put_6 : decode cX2_put 6 = .ok (.if_icmp .ne 14, 3) := by decide +kernel
theorem dX2_put_9 : decode cX2_put 9 = .ok (.aload_n 0, 1) := by decide +kernel
theorem dX2_put_10 : decode cX2_put 10 = .ok (.getfield 9, 3) := by decide +kernel
theorem dX2_put_13 : decode cX2_put 13 = .ok (.iload_n 1, 1) := by decide +kernel
theorem dX2_put_14 : decode cX2_put 14 = .ok (.iload_n 2, 1) := by decide +kernel
theorem dX2_put_15 : decode cX2_put 15 = .ok (.i2b, 1) := by decide +kernel
theorem dX2_put_16 : decode cX2_put 16 = .ok (.iastore, 1) := by decide +kernel
theorem dX2_put_17 : decode cX2_put 17 = .ok (.goto 30, 3) := by decide +kernel
theorem dX2_put_20 : decode cX2_put 20 = .ok (.aload_n 0, 1) := by decide +kernel
theorem dX2_put_21 : decode cX2_put 21 = .ok (.getfield 15, 3) := by decide +kernel
theorem dX2_put_24 : decode cX2_put 24 = .ok (.bipush 16, 2) := by decide +kernel
theorem dX2_put_26 : decode cX2_put 26 = .ok (.if_icmp .ne 14, 3) := by decide +kernel
theorem dX2_put_29 : decode cX2_put 29 = .ok (.aload_n 0, 1) := by decide +kernel
theorem dX2_put_30 : decode cX2_put 30 = .ok (.getfield 9, 3) := by decide +kernel
theorem dX2_put_33 : decode cX2_put 33 = .ok (.iload_n 1, 1) := by decide +kernel
theorem dX2_put_34 : decode cX2_put 34 = .ok (.iload_n 2, 1) := by decide +kernel
theorem dX2_put_35 : decode cX2_put 35 = .ok (.i2s, 1) := by decide +kernel
theorem dX2_put_36 : decode cX2_put 36 = .ok (.iastore, 1) := by decide +kernel
theorem dX2_put_37 : decode cX2_put 37 = .ok (.goto 10, 3) := by decide +kernel
theorem dX2_put_40 : decode cX2_put 40 = .ok (.aload_n 0, 1) := by decide +kernel
theorem dX2_put_41 : decode cX2_put 41 = .ok (.getfield 9, 3) := by decide +kernel
theorem dX2_put_44 : decode cX2_put 44 = .ok (.iload_n 1, 1) := by decide +kernel
theorem dX2_put_45 : decode cX2_put 45 = .ok (.iload_n 2, 1) := by decide +kernel
theorem dX2_put_46 : decode cX2_put 46 = .ok (.iastore, 1) := by decide +kernel
theorem dX2_put_47 : decode cX2_put 47 = .ok (.return_, 1) := by decide +kernel
theorem dX2_has_0 : decode cX2_has 0 = .ok (.iload_n 1, 1) := by decide +kernel
theorem dX2_has_1 : decode cX2_has 1 = .ok (.ifCond .lt 29, 3) := by decide +kernel
theorem dX2_has_4 : decode cX2_has 4 = .ok (.iload_n 2, 1) := by decide +kernel
theorem dX2_has_5 : decode cX2_has 5 = .ok (.ifCond .lt 25, 3) := by decide +kernel
theorem dX2_has_8 : decode cX2_has 8 = .ok (.iload_n 2, 1) := by decide +kernel
theorem dX2_has_9 : decode cX2_has 9 = .ok (.aload_n 0, 1) := by decide +kernel
theorem dX2_has_10 : decode cX2_has 10 = .ok (.getfield 19, 3) := by decide +kernel
theorem dX2_has_13 : decode cX2_has 13 = .ok (.if_icmp .gt 17, 3) := by decide +kernel
theorem dX2_has_16 : decode cX2_has 16 = .ok (.iload_n 1, 1) := by decide +kernel
theorem dX2_has_17 : decode cX2_has 17 = .ok (.aload_n 0, 1) := by decide +kernel
theorem dX2_has_18 : decode cX2_has 18 = .ok (.getfield 19, 3) := by decide +kernel
theorem dX2_has_21 : decode cX2_has 21 = .ok (.iload_n 2, 1) := by decide +kernel
theorem dX2_has_22 : decode cX2_has 22 = .ok (.isub, 1) := by decide +kernel
theorem dX2_has_23 : decode cX2_has 23 = .ok (.if_icmp .gt 7, 3) := by decide +kernel
theorem dX2_has_26 : decode cX2_has 26 = .ok (.iconst 1, 1) := by decide +kernel
theorem dX2_has_27 : decode cX2_has 27 = .ok (.goto 4, 3) := by decide +kernel
theorem dX2_has_30 : decode cX2_has 30 = .ok (.iconst 0, 1) := by decide +kernel
theorem dX2_has_31 : decode cX2_has 31 = .ok (.ireturn, 1) := by decide +kernel
theorem dX2_tells_0 : decode cX2_tells 0 = .ok (.aload_n 0, 1) := by decide +kernel
theorem dX2_tells_1 : decode cX2_tells 1 = .ok (.getfield 9, 3) := by decide +kernel
theorem dX2_tells_4 : decode cX2_tells 4 = .ok (.iload_n 1, 1) := by decide +kernel
theorem dX2_tells_5 : decode cX2_tells 5 = .ok (.iaload, 1) := by decide +kernel
theorem dX2_tells_6 : decode cX2_tells 6 = .ok (.iconst (-1), 1) := by decide +kernel
theorem dX2_tells_7 : decode cX2_tells 7 = .ok (.if_icmp .eq 13, 3) := by decide +kernel
theorem dX2_tells_10 : decode cX2_tells 10 = .ok (.aload_n 0, 1) := by decide +kernel
theorem dX2_tells_11 : decode cX2_tells 11 = .ok (.getfield 9, 3) := by decide +kernel
theorem dX2_tells_14 : decode cX2_tells 14 = .ok (.iload_n 1, 1) := by decide +kernel
theorem dX2_tells_15 : decode cX2_tells 15 = .ok (.iaload, 1) := by decide +kernel
theorem dX2_tells_16 : decode cX2_tells 16 = .ok (.iload_n 2, 1) := by decide +kernel
theorem dX2_tells_17 : decode cX2_tells 17 = .ok (.if_icmp .ne 7, 3) := by decide +kernel
theorem dX2_tells_20 : decode cX2_tells 20 = .ok (.iconst 1, 1) := by decide +kernel
theorem dX2_tells_21 : decode cX2_tells 21 = .ok (.goto 4, 3) := by decide +kernel
theorem dX2_tells_24 : decode cX2_tells 24 = .ok (.iconst 0, 1) := by decide +kernel
theorem dX2_tells_25 : decode cX2_tells 25 = .ok (.ireturn, 1) := by decide +kernel
theorem dX2_tellsFirst_0 : decode cX2_tellsFirst 0 = .ok (.iload_n 2, 1) := by decide +kernel
theorem dX2_tellsFirst_1 : decode cX2_tellsFirst 1 = .ok (.aload_n 0, 1) := by decide +kernel
theorem dX2_tellsFirst_2 : decode cX2_tellsFirst 2 = .ok (.getfield 19, 3) := by decide +kernel
theorem dX2_tellsFirst_5 : decode cX2_tellsFirst 5 = .ok (.invokestatic 22, 3) := by decide +kernel
theorem dX2_tellsFirst_8 : decode cX2_tellsFirst 8 = .ok (.istore_n 3, 1) := by decide +kernel
theorem dX2_tellsFirst_9 : decode cX2_tellsFirst 9 = .ok (.iconst 0, 1) := by decide +kernel
theorem dX2_tellsFirst_10 : decode cX2_tellsFirst 10 = .ok (.istore 4, 2) := by decide +kernel
theorem dX2_tellsFirst_12 : decode cX2_tellsFirst 12 = .ok (.iload 4, 2) := by decide +kernel
theorem dX2_tellsFirst_14 : decode cX2_tellsFirst 14 = .ok (.iload_n 3, 1) := by decide +kernel
theorem dX2_tellsFirst_15 : decode cX2_tellsFirst 15 = .ok (.if_icmp .ge 24, 3) := by decide +kernel
theorem dX2_tellsFirst_18 : decode cX2_tellsFirst 18 = .ok (.aload_n 0, 1) := by decide +kernel
theorem dX2_tellsFirst_19 : decode cX2_tellsFirst 19 = .ok (.iload 4, 2) := by decide +kernel
theorem dX2_tellsFirst_21 : decode cX2_tellsFirst 21 = .ok (.aload_n 1, 1) := by decide +kernel
theorem dX2_tellsFirst_22 : decode cX2_tellsFirst 22 = .ok (.iload 4, 2) := by decide +kernel
theorem dX2_tellsFirst_24 : decode cX2_tellsFirst 24 = .ok (.iaload, 1) := by decide +kernel
theorem dX2_tellsFirst_25 : decode cX2_tellsFirst 25 = .ok (.invokevirtual 28, 3) := by decide +kernel
theorem dX2_tellsFirst_28 : decode cX2_tellsFirst 28 = .ok (.ifCond .ne 5, 3) := by decide +kernel
theorem dX2_tellsFirst_31 : decode cX2_tellsFirst 31 = .ok (.iconst 0, 1) := by decide +kernel
theorem dX2_tellsFirst_32 : decode cX2_tellsFirst 32 = .ok (.ireturn, 1) := by decide +kernel
theorem dX2_tellsFirst_33 : decode cX2_tellsFirst 33 = .ok (.iinc 4 1, 3) := by decide +kernel
theorem dX2_tellsFirst_36 : decode cX2_tellsFirst 36 = .ok (.goto (-24), 3) := by decide +kernel
theorem dX2_tellsFirst_39 : decode cX2_tellsFirst 39 = .ok (.iconst 1, 1) := by decide +kernel
theorem dX2_tellsFirst_40 : decode cX2_tellsFirst 40 = .ok (.ireturn, 1) := by decide +kernel
theorem dX3_init_0 : decode cX3_init 0 = .ok (.aload_n 0, 1) := by decide +kernel
theorem dX3_init_1 : decode cX3_init 1 = .ok (.invokespecial 3, 3) := by decide +kernel
theorem dX3_init_4 : decode cX3_init 4 = .ok (.aload_n 0, 1) := by decide +kernel
theorem dX3_init_5 : decode cX3_init 5 = .ok (.bipush 120, 2) := by decide +kernel
theorem dX3_init_7 : decode cX3_init 7 = .ok (.newarray .byte, 2) := by decide +kernel
theorem dX3_init_9 : decode cX3_init 9 = .ok (.putfield 9, 3) := by decide +kernel
theorem dX3_init_12 : decode cX3_init 12 = .ok (.return_, 1) := by decide +kernel
theorem dX3_put_0 : decode cX3_put 0 = .ok (.aload_n 0, 1) := by decide +kernel
theorem dX3_put_1 : decode cX3_put 1 = .ok (.getfield 9, 3) := by decide +kernel
theorem dX3_put_4 : decode cX3_put 4 = .ok (.aload_n 0, 1) := by decide +kernel
theorem dX3_put_5 : decode cX3_put 5 = .ok (.getfield 15, 3) := by decide +kernel
theorem dX3_put_8 : decode cX3_put 8 = .ok (.iload_n 1, 1) := by decide +kernel
theorem dX3_put_9 : decode cX3_put 9 = .ok (.bastore, 1) := by decide +kernel
theorem dX3_put_10 : decode cX3_put 10 = .ok (.aload_n 0, 1) := by decide +kernel
theorem dX3_put_11 : decode cX3_put 11 = .ok (.dup, 1) := by decide +kernel
theorem dX3_put_12 : decode cX3_put 12 = .ok (.getfield 15, 3) := by decide +kernel
theorem dX3_put_15 : decode cX3_put 15 = .ok (.iconst 1, 1) := by decide +kernel
theorem dX3_put_16 : decode cX3_put 16 = .ok (.iadd, 1) := by decide +kernel
theorem dX3_put_17 : decode cX3_put 17 = .ok (.putfield 15, 3) := by decide +kernel
theorem dX3_put_20 : decode cX3_put 20 = .ok (.return_, 1) := by decide +kernel
theorem dX3_readInto_0 : decode cX3_readInto 0 = .ok (.aload_n 0, 1) := by decide +kernel
theorem dX3_readInto_1 : decode cX3_readInto 1 = .ok (.iconst 0, 1) := by decide +kernel
theorem dX3_readInto_2 : decode cX3_readInto 2 = .ok (.putfield 19, 3) := by decide +kernel
theorem dX3_readInto_5 : decode cX3_readInto 5 = .ok (.aload_n 0, 1) := by decide +kernel
theorem dX3_readInto_6 : decode cX3_readInto 6 = .ok (.invokevirtual 22, 3) := by decide +kernel
theorem dX3_readInto_9 : decode cX3_readInto 9 = .ok (.iconst 1, 1) := by decide +kernel
theorem dX3_readInto_10 : decode cX3_readInto 10 = .ok (.istore_n 2, 1) := by decide +kernel
theorem dX3_readInto_11 : decode cX3_readInto 11 = .ok (.iload_n 2, 1) := by decide +kernel
theorem dX3_readInto_12 : decode cX3_readInto 12 = .ok (.bipush 120, 2) := by decide +kernel
theorem dX3_readInto_14 : decode cX3_readInto 14 = .ok (.if_icmp .gt 44, 3) := by decide +kernel
theorem dX3_readInto_17 : decode cX3_readInto 17 = .ok (.aload_n 0, 1) := by decide +kernel
theorem dX3_readInto_18 : decode cX3_readInto 18 = .ok (.aload_n 1, 1) := by decide +kernel
theorem dX3_readInto_19 : decode cX3_readInto 19 = .ok (.invokevirtual 25, 3) := by decide +kernel
theorem dX3_readInto_22 : decode cX3_readInto 22 = .ok (.ifCond .ne 6, 3) := by decide +kernel
theorem dX3_readInto_25 : decode cX3_readInto 25 = .ok (.goto 33, 3) := by decide +kernel
theorem dX3_readInto_28 : decode cX3_readInto 28 = .ok (.aload_n 0, 1) := by decide +kernel
theorem dX3_readInto_29 : decode cX3_readInto 29 = .ok (.getfield 29, 3) := by decide +kernel
theorem dX3_readInto_32 : decode cX3_readInto 32 = .ok (.ifCond .ne 5, 3) := by decide +kernel
theorem dX3_readInto_35 : decode cX3_readInto 35 = .ok (.iload_n 2, 1) := by decide +kernel
theorem dX3_readInto_36 : decode cX3_readInto 36 = .ok (.ireturn, 1) := by decide +kernel
theorem dX3_readInto_37 : decode cX3_readInto 37 = .ok (.aload_n 0, 1) := by decide +kernel
theorem dX3_readInto_38 : decode cX3_readInto 38 = .ok (.getfield 29, 3) := by decide +kernel
theorem dX3_readInto_41 : decode cX3_readInto 41 = .ok (.iconst 3, 1) := by decide +kernel
theorem dX3_readInto_42 : decode cX3_readInto 42 = .ok (.if_icmp .eq 6, 3) := by decide +kernel
theorem dX3_readInto_45 : decode cX3_readInto 45 = .ok (.goto 13, 3) := by decide +kernel
theorem dX3_readInto_48 : decode cX3_readInto 48 = .ok (.aload_n 0, 1) := by decide +kernel
theorem dX3_readInto_49 : decode cX3_readInto 49 = .ok (.invokevirtual 22, 3) := by decide +kernel
theorem dX3_readInto_52 : decode cX3_readInto 52 = .ok (.iinc 2 1, 3) := by decide +kernel
theorem dX3_readInto_55 : decode cX3_readInto 55 = .ok (.goto (-44), 3) := by decide +kernel
theorem dX3_readInto_58 : decode cX3_readInto 58 = .ok (.iconst (-1), 1) := by decide +kernel
theorem dX3_readInto_59 : decode cX3_readInto 59 = .ok (.aload_n 0, 1) := by decide +kernel
theorem dX3_readInto_60 : decode cX3_readInto 60 = .ok (.getfield 32, 3) := by decide +kernel
theorem dX3_readInto_63 : decode cX3_readInto 63 = .ok (.isub, 1) := by decide +kernel
theorem dX3_readInto_64 : decode cX3_readInto 64 = .ok (.ireturn, 1) := by decide +kernel
theorem dX3_readItem_0 : decode cX3_readItem 0 = .ok (.iconst 0, 1) := by decide +kernel
theorem dX3_readItem_1 : decode cX3_readItem 1 = .ok (.istore_n 2, 1) := by decide +kernel
theorem dX3_readItem_2 : decode cX3_readItem 2 = .ok (.iload_n 2, 1) := by decide +kernel
theorem dX3_readItem_3 : decode cX3_readItem 3 = .ok (.bipush 7, 2) := by decide +kernel
theorem dX3_readItem_5 : decode cX3_readItem 5 = .ok (.if_icmp .ge 27, 3) := by decide +kernel
theorem dX3_readItem_8 : decode cX3_readItem 8 = .ok (.aload_n 0, 1) := by decide +kernel
theorem dX3_readItem_9 : decode cX3_readItem 9 = .ok (.iload_n 2, 1) := by decide +kernel
theorem dX3_readItem_10 : decode cX3_readItem 10 = .ok (.invokestatic 35, 3) := by decide +kernel
theorem dX3_readItem_13 : decode cX3_readItem 13 = .ok (.invokevirtual 39, 3) := by decide +kernel
theorem dX3_readItem_16 : decode cX3_readItem 16 = .ok (.ifCond .eq 10, 3) := by decide +kernel
theorem dX3_readItem_19 : decode cX3_readItem 19 = .ok (.aload_n 0, 1) := by decide +kernel
theorem dX3_readItem_20 : decode cX3_readItem 20 = .ok (.aload_n 1, 1) := by decide +kernel
theorem dX3_readItem_21 : decode cX3_readItem 21 = .ok (.iload_n 2, 1) := by decide +kernel
theorem dX3_readItem_22 : decode cX3_readItem 22 = .ok (.invokevirtual 43, 3) := by decide +kernel
theorem dX3_readItem_25 : decode cX3_readItem 25 = .ok (.ireturn, 1) := by decide +kernel
theorem dX3_readItem_26 : decode cX3_readItem 26 = .ok (.iinc 2 1, 3) := by decide +kernel
theorem dX3_readItem_29 : decode cX3_readItem 29 = .ok (.goto (-27), 3) := by decide +kernel
theorem dX3_readItem_32 : decode cX3_readItem 32 = .ok (.aload_n 0, 1) := by decide +kernel
theorem dX3_readItem_33 : decode cX3_readItem 33 = .ok (.ldc 47, 2) := by decide +kernel
theorem dX3_readItem_35 : decode cX3_readItem 35 = .ok (.invokevirtual 39, 3) := by decide +kernel
theorem dX3_readItem_38 : decode cX3_readItem 38 = .ok (.ifCond .eq 9, 3) := by decide +kernel
theorem dX3_readItem_41 : decode cX3_readItem 41 = .ok (.aload_n 0, 1) := by decide +kernel
theorem dX3_readItem_42 : decode cX3_readItem 42 = .ok (.aload_n 1, 1) := by decide +kernel
theorem dX3_readItem_43 : decode cX3_readItem 43 = .ok (.invokevirtual 49, 3) := by decide +kernel
theorem dX3_readItem_46 : decode cX3_readItem 46 = .ok (.ireturn, 1) := by decide +kernel
theorem dX3_readItem_47 : decode cX3_readItem 47 = .ok (.aload_n 0, 1) := by decide +kernel
theorem dX3_readItem_48 : decode cX3_readItem 48 = .ok (.ldc 52, 2) := by decide +kernel
theorem dX3_readItem_50 : decode cX3_readItem 50 = .ok (.invokevirtual 39, 3) := by decide +kernel
theorem dX3_readItem_53 : decode cX3_readItem 53 = .ok (.ifCond .eq 9, 3) := by decide +kernel
theorem dX3_readItem_56 : decode cX3_readItem 56 = .ok (.aload_n 0, 1) := by decide +kernel
theorem dX3_readItem_57 : decode cX3_readItem 57 = .ok (.aload_n 1, 1) := by decide +kernel
theorem dX3_readItem_58 : decode cX3_readItem 58 = .ok (.invokevirtual 54, 3) := by decide +kernel
theorem dX3_readItem_61 : decode cX3_readItem 61 = .ok (.ireturn, 1) := by decide +kernel
theorem dX3_readItem_62 : decode cX3_readItem 62 = .ok (.aload_n 0, 1) := by decide +kernel
theorem dX3_readItem_63 : decode cX3_readItem 63 = .ok (.ldc 57, 2) := by decide +kernel
theorem dX3_readItem_65 : decode cX3_readItem 65 = .ok (.invokevirtual 39, 3) := by decide +kernel
theorem dX3_readItem_68 : decode cX3_readItem 68 = .ok (.ifCond .eq 15, 3) := by decide +kernel
theorem dX3_readItem_71 : decode cX3_readItem 71 = .ok (.aload_n 0, 1) := by decide +kernel
theorem dX3_readItem_72 : decode cX3_readItem 72 = .ok (.aload_n 1, 1) := by decide +kernel
theorem dX3_readItem_73 : decode cX3_readItem 73 = .ok (.invokevirtual 59, 3) := by decide +kernel
theorem dX3_readItem_76 : decode cX3_readItem 76 = .ok (.ifCond .eq 7, 3) := by decide +kernel
theorem dX3_readItem_79 : decode cX3_readItem 79 = .ok (.iconst 1, 1) := by decide +kernel
theorem dX3_readItem_80 : decode cX3_readItem 80 = .ok (.goto 4, 3) := by decide +kernel
theorem dX3_readItem_83 : decode cX3_readItem 83 = .ok (.iconst 0, 1) := by decide +kernel
theorem dX3_readItem_84 : decode cX3_readItem 84 = .ok (.ireturn, 1) := by decide +kernel
theorem dX3_readPerson_0 : decode cX3_readPerson 0 = .ok (.aload_n 1, 1) := by decide +kernel
theorem dX3_readPerson_1 : decode cX3_readPerson 1 = .ok (.getfield 62, 3) := by decide +kernel
theorem dX3_readPerson_4 : decode cX3_readPerson 4 = .ok (.bipush 8, 2) := by decide +kernel
theorem dX3_readPerson_6 : decode cX3_readPerson 6 = .ok (.if_icmp .lt 5, 3) := by decide +kernel
theorem dX3_readPerson_9 : decode cX3_readPerson 9 = .ok (.iconst 0, 1) := by decide +kernel
theorem dX3_readPerson_10 : decode cX3_readPerson 10 = .ok (.ireturn, 1) := by decide +kernel
theorem dX3_readPerson_11 : decode cX3_readPerson 11 = .ok (.aload_n 0, 1) := by decide +kernel
theorem dX3_readPerson_12 : decode cX3_readPerson 12 = .ok (.invokevirtual 22, 3) := by decide +kernel
theorem dX3_readPerson_15 : decode cX3_readPerson 15 = .ok (.aload_n 1, 1) := by decide +kernel
theorem dX3_readPerson_16 : decode cX3_readPerson 16 = .ok (.iload_n 2, 1) := by decide +kernel
theorem dX3_readPerson_17 : decode cX3_readPerson 17 = .ok (.iconst 0, 1) := by decide +kernel
theorem dX3_readPerson_18 : decode cX3_readPerson 18 = .ok (.invokevirtual 67, 3) := by decide +kernel
theorem dX3_readPerson_21 : decode cX3_readPerson 21 = .ok (.istore_n 3, 1) := by decide +kernel
theorem dX3_readPerson_22 : decode cX3_readPerson 22 = .ok (.aload_n 0, 1) := by decide +kernel
theorem dX3_readPerson_23 : decode cX3_readPerson 23 = .ok (.ldc 71, 2) := by decide +kernel
theorem dX3_readPerson_25 : decode cX3_readPerson 25 = .ok (.bipush 15, 2) := by decide +kernel
theorem dX3_readPerson_27 : decode cX3_readPerson 27 = .ok (.aload_n 1, 1) := by decide +kernel
theorem dX3_readPerson_28 : decode cX3_readPerson 28 = .ok (.getfield 73, 3) := by decide +kernel
theorem dX3_readPerson_31 : decode cX3_readPerson 31 = .ok (.iload_n 3, 1) := by decide +kernel
theorem dX3_readPerson_32 : decode cX3_readPerson 32 = .ok (.iaload, 1) := by decide +kernel
theorem dX3_readPerson_33 : decode cX3_readPerson 33 = .ok (.invokevirtual 77, 3) := by decide +kernel
theorem dX3_readPerson_36 : decode cX3_readPerson 36 = .ok (.ifCond .ne 5, 3) := by decide +kernel
theorem dX3_readPerson_39 : decode cX3_readPerson 39 = .ok (.iconst 0, 1) := by decide +kernel
theorem dX3_readPerson_40 : decode cX3_readPerson 40 = .ok (.ireturn, 1) := by decide +kernel
theorem dX3_readPerson_41 : decode cX3_readPerson 41 = .ok (.aload_n 1, 1) := by decide +kernel
theorem dX3_readPerson_42 : decode cX3_readPerson 42 = .ok (.iload_n 3, 1) := by decide +kernel
theorem dX3_readPerson_43 : decode cX3_readPerson 43 = .ok (.aload_n 0, 1) := by decide +kernel
theorem dX3_readPerson_44 : decode cX3_readPerson 44 = .ok (.getfield 81, 3) := by decide +kernel
theorem dX3_readPerson_47 : decode cX3_readPerson 47 = .ok (.invokevirtual 84, 3) := by decide +kernel
theorem dX3_readPerson_50 : decode cX3_readPerson 50 = .ok (.aload_n 0, 1) := by decide +kernel
theorem dX3_readPerson_51 : decode cX3_readPerson 51 = .ok (.ldc 88, 2) := by decide +kernel
theorem dX3_readPerson_53 : decode cX3_readPerson 53 = .ok (.bipush 63, 2) := by decide +kernel
theorem dX3_readPerson_55 : decode cX3_readPerson 55 = .ok (.aload_n 1, 1) := by decide +kernel
theorem dX3_readPerson_56 : decode cX3_readPerson 56 = .ok (.getfield 90, 3) := by decide +kernel
theorem dX3_readPerson_59 : decode cX3_readPerson 59 = .ok (.iload_n 3, 1) := by decide +kernel
theorem dX3_readPerson_60 : decode cX3_readPerson 60 = .ok (.iaload, 1) := by decide +kernel
theorem dX3_readPerson_61 : decode cX3_readPerson 61 = .ok (.invokevirtual 77, 3) := by decide +kernel
theorem dX3_readPerson_64 : decode cX3_readPerson 64 = .ok (.ifCond .ne 5, 3) := by decide +kernel
theorem dX3_readPerson_67 : decode cX3_readPerson 67 = .ok (.iconst 0, 1) := by decide +kernel
theorem dX3_readPerson_68 : decode cX3_readPerson 68 = .ok (.ireturn, 1) := by decide +kernel
theorem dX3_readPerson_69 : decode cX3_readPerson 69 = .ok (.aload_n 1, 1) := by decide +kernel
theorem dX3_readPerson_70 : decode cX3_readPerson 70 = .ok (.getfield 90, 3) := by decide +kernel
theorem dX3_readPerson_73 : decode cX3_readPerson 73 = .ok (.iload_n 3, 1) := by decide +kernel
theorem dX3_readPerson_74 : decode cX3_readPerson 74 = .ok (.aload_n 0, 1) := by decide +kernel
theorem dX3_readPerson_75 : decode cX3_readPerson 75 = .ok (.getfield 81, 3) := by decide +kernel
theorem dX3_readPerson_78 : decode cX3_readPerson 78 = .ok (.iastore, 1) := by decide +kernel
theorem dX3_readPerson_79 : decode cX3_readPerson 79 = .ok (.aload_n 0, 1) := by decide +kernel
theorem dX3_readPerson_80 : decode cX3_readPerson 80 = .ok (.ldc 92, 2) := by decide +kernel
theorem dX3_readPerson_82 : decode cX3_readPerson 82 = .ok (.bipush 9, 2) := by decide +kernel
theorem dX3_readPerson_84 : decode cX3_readPerson 84 = .ok (.aload_n 1, 1) := by decide +kernel
theorem dX3_readPerson_85 : decode cX3_readPerson 85 = .ok (.getfield 94, 3) := by decide +kernel
theorem dX3_readPerson_88 : decode cX3_readPerson 88 = .ok (.iload_n 3, 1) := by decide +kernel
theorem dX3_readPerson_89 : decode cX3_readPerson 89 = .ok (.iaload, 1) := by decide +kernel
theorem dX3_readPerson_90 : decode cX3_readPerson 90 = .ok (.invokevirtual 77, 3) := by decide +kernel
theorem dX3_readPerson_93 : decode cX3_readPerson 93 = .ok (.ifCond .ne 5, 3) := by decide +kernel
theorem dX3_readPerson_96 : decode cX3_readPerson 96 = .ok (.iconst 0, 1) := by decide +kernel
theorem dX3_readPerson_97 : decode cX3_readPerson 97 = .ok (.ireturn, 1) := by decide +kernel
theorem dX3_readPerson_98 : decode cX3_readPerson 98 = .ok (.aload_n 1, 1) := by decide +kernel
theorem dX3_readPerson_99 : decode cX3_readPerson 99 = .ok (.getfield 94, 3) := by decide +kernel
theorem dX3_readPerson_102 : decode cX3_readPerson 102 = .ok (.iload_n 3, 1) := by decide +kernel
theorem dX3_readPerson_103 : decode cX3_readPerson 103 = .ok (.aload_n 0, 1) := by decide +kernel
theorem dX3_readPerson_104 : decode cX3_readPerson 104 = .ok (.getfield 81, 3) := by decide +kernel
theorem dX3_readPerson_107 : decode cX3_readPerson 107 = .ok (.iastore, 1) := by decide +kernel
theorem dX3_readPerson_108 : decode cX3_readPerson 108 = .ok (.aload_n 0, 1) := by decide +kernel
theorem dX3_readPerson_109 : decode cX3_readPerson 109 = .ok (.ldc 96, 2) := by decide +kernel
theorem dX3_readPerson_111 : decode cX3_readPerson 111 = .ok (.sipush 9999, 3) := by decide +kernel
theorem dX3_readPerson_114 : decode cX3_readPerson 114 = .ok (.aload_n 1, 1) := by decide +kernel
theorem dX3_readPerson_115 : decode cX3_readPerson 115 = .ok (.getfield 98, 3) := by decide +kernel
theorem dX3_readPerson_118 : decode cX3_readPerson 118 = .ok (.iload_n 3, 1) := by decide +kernel
theorem dX3_readPerson_119 : decode cX3_readPerson 119 = .ok (.iaload, 1) := by decide +kernel
theorem dX3_readPerson_120 : decode cX3_readPerson 120 = .ok (.invokevirtual 77, 3) := by decide +kernel
theorem dX3_readPerson_123 : decode cX3_readPerson 123 = .ok (.ifCond .ne 5, 3) := by decide +kernel
theorem dX3_readPerson_126 : decode cX3_readPerson 126 = .ok (.iconst 0, 1) := by decide +kernel
theorem dX3_readPerson_127 : decode cX3_readPerson 127 = .ok (.ireturn, 1) := by decide +kernel
theorem dX3_readPerson_128 : decode cX3_readPerson 128 = .ok (.aload_n 1, 1) := by decide +kernel
theorem dX3_readPerson_129 : decode cX3_readPerson 129 = .ok (.getfield 98, 3) := by decide +kernel
theorem dX3_readPerson_132 : decode cX3_readPerson 132 = .ok (.iload_n 3, 1) := by decide +kernel
theorem dX3_readPerson_133 : decode cX3_readPerson 133 = .ok (.aload_n 0, 1) := by decide +kernel
theorem dX3_readPerson_134 : decode cX3_readPerson 134 = .ok (.getfield 81, 3) := by decide +kernel
theorem dX3_readPerson_137 : decode cX3_readPerson 137 = .ok (.iastore, 1) := by decide +kernel
theorem dX3_readPerson_138 : decode cX3_readPerson 138 = .ok (.iconst 1, 1) := by decide +kernel
theorem dX3_readPerson_139 : decode cX3_readPerson 139 = .ok (.ireturn, 1) := by decide +kernel
theorem dX3_readJoke_0 : decode cX3_readJoke 0 = .ok (.aload_n 1, 1) := by decide +kernel
theorem dX3_readJoke_1 : decode cX3_readJoke 1 = .ok (.getfield 100, 3) := by decide +kernel
theorem dX3_readJoke_4 : decode cX3_readJoke 4 = .ok (.bipush 8, 2) := by decide +kernel
theorem dX3_readJoke_6 : decode cX3_readJoke 6 = .ok (.if_icmp .lt 5, 3) := by decide +kernel
theorem dX3_readJoke_9 : decode cX3_readJoke 9 = .ok (.iconst 0, 1) := by decide +kernel
theorem dX3_readJoke_10 : decode cX3_readJoke 10 = .ok (.ireturn, 1) := by decide +kernel
theorem dX3_readJoke_11 : decode cX3_readJoke 11 = .ok (.aload_n 0, 1) := by decide +kernel
theorem dX3_readJoke_12 : decode cX3_readJoke 12 = .ok (.invokevirtual 22, 3) := by decide +kernel
theorem dX3_readJoke_15 : decode cX3_readJoke 15 = .ok (.aload_n 0, 1) := by decide +kernel
theorem dX3_readJoke_16 : decode cX3_readJoke 16 = .ok (.iconst 1, 1) := by decide +kernel
theorem dX3_readJoke_17 : decode cX3_readJoke 17 = .ok (.bipush 63, 2) := by decide +kernel
theorem dX3_readJoke_19 : decode cX3_readJoke 19 = .ok (.invokevirtual 103, 3) := by decide +kernel
theorem dX3_readJoke_22 : decode cX3_readJoke 22 = .ok (.ifCond .ne 5, 3) := by decide +kernel
theorem dX3_readJoke_25 : decode cX3_readJoke 25 = .ok (.iconst 0, 1) := by decide +kernel
theorem dX3_readJoke_26 : decode cX3_readJoke 26 = .ok (.ireturn, 1) := by decide +kernel
theorem dX3_readJoke_27 : decode cX3_readJoke 27 = .ok (.aload_n 0, 1) := by decide +kernel
theorem dX3_readJoke_28 : decode cX3_readJoke 28 = .ok (.getfield 81, 3) := by decide +kernel
theorem dX3_readJoke_31 : decode cX3_readJoke 31 = .ok (.istore_n 2, 1) := by decide +kernel
theorem dX3_readJoke_32 : decode cX3_readJoke 32 = .ok (.aload_n 0, 1) := by decide +kernel
theorem dX3_readJoke_33 : decode cX3_readJoke 33 = .ok (.iconst 0, 1) := by decide +kernel
theorem dX3_readJoke_34 : decode cX3_readJoke 34 = .ok (.bipush 9, 2) := by decide +kernel
theorem dX3_readJoke_36 : decode cX3_readJoke 36 = .ok (.invokevirtual 103, 3) := by decide +kernel
theorem dX3_readJoke_39 : decode cX3_readJoke 39 = .ok (.ifCond .ne 5, 3) := by decide +kernel
theorem dX3_readJoke_42 : decode cX3_readJoke 42 = .ok (.iconst 0, 1) := by decide +kernel
theorem dX3_readJoke_43 : decode cX3_readJoke 43 = .ok (.ireturn, 1) := by decide +kernel
theorem dX3_readJoke_44 : decode cX3_readJoke 44 = .ok (.aload_n 1, 1) := by decide +kernel
theorem dX3_readJoke_45 : decode cX3_readJoke 45 = .ok (.iload_n 2, 1) := by decide +kernel
theorem dX3_readJoke_46 : decode cX3_readJoke 46 = .ok (.aload_n 0, 1) := by decide +kernel
theorem dX3_readJoke_47 : decode cX3_readJoke 47 = .ok (.getfield 81, 3) := by decide +kernel
theorem dX3_readJoke_50 : decode cX3_readJoke 50 = .ok (.invokevirtual 107, 3) := by decide +kernel
theorem dX3_readJoke_53 : decode cX3_readJoke 53 = .ok (.pop, 1) := by decide +kernel
theorem dX3_readJoke_54 : decode cX3_readJoke 54 = .ok (.iconst 1, 1) := by decide +kernel
theorem dX3_readJoke_55 : decode cX3_readJoke 55 = .ok (.ireturn, 1) := by decide +kernel
theorem dX3_readRate_0 : decode cX3_readRate 0 = .ok (.aload_n 0, 1) := by decide +kernel
theorem dX3_readRate_1 : decode cX3_readRate 1 = .ok (.invokevirtual 22, 3) := by decide +kernel
theorem dX3_readRate_4 : decode cX3_readRate 4 = .ok (.aload_n 0, 1) := by decide +kernel
theorem dX3_readRate_5 : decode cX3_readRate 5 = .ok (.iconst 0, 1) := by decide +kernel
theorem dX3_readRate_6 : decode cX3_readRate 6 = .ok (.bipush 20, 2) := by decide +kernel
theorem dX3_readRate_8 : decode cX3_readRate 8 = .ok (.invokevirtual 103, 3) := by decide +kernel
theorem dX3_readRate_11 : decode cX3_readRate 11 = .ok (.ifCond .ne 5, 3) := by decide +kernel
theorem dX3_readRate_14 : decode cX3_readRate 14 = .ok (.iconst 0, 1) := by decide +kernel
theorem dX3_readRate_15 : decode cX3_readRate 15 = .ok (.ireturn, 1) := by decide +kernel
theorem dX3_readRate_16 : decode cX3_readRate 16 = .ok (.aload_n 1, 1) := by decide +kernel
theorem dX3_readRate_17 : decode cX3_readRate 17 = .ok (.aload_n 0, 1) := by decide +kernel
theorem dX3_readRate_18 : decode cX3_readRate 18 = .ok (.getfield 81, 3) := by decide +kernel
theorem dX3_readRate_21 : decode cX3_readRate 21 = .ok (.putfield 110, 3) := by decide +kernel
theorem dX3_readRate_24 : decode cX3_readRate 24 = .ok (.iconst 1, 1) := by decide +kernel
theorem dX3_readRate_25 : decode cX3_readRate 25 = .ok (.ireturn, 1) := by decide +kernel
theorem dX3_readReach_0 : decode cX3_readReach 0 = .ok (.aload_n 0, 1) := by decide +kernel
theorem dX3_readReach_1 : decode cX3_readReach 1 = .ok (.invokevirtual 22, 3) := by decide +kernel
theorem dX3_readReach_4 : decode cX3_readReach 4 = .ok (.aload_n 0, 1) := by decide +kernel
theorem dX3_readReach_5 : decode cX3_readReach 5 = .ok (.iconst 0, 1) := by decide +kernel
theorem dX3_readReach_6 : decode cX3_readReach 6 = .ok (.bipush 15, 2) := by decide +kernel
theorem dX3_readReach_8 : decode cX3_readReach 8 = .ok (.invokevirtual 103, 3) := by decide +kernel
theorem dX3_readReach_11 : decode cX3_readReach 11 = .ok (.ifCond .ne 5, 3) := by decide +kernel
theorem dX3_readReach_14 : decode cX3_readReach 14 = .ok (.iconst 0, 1) := by decide +kernel
theorem dX3_readReach_15 : decode cX3_readReach 15 = .ok (.ireturn, 1) := by decide +kernel
theorem dX3_readReach_16 : decode cX3_readReach 16 = .ok (.aload_n 1, 1) := by decide +kernel
theorem dX3_readReach_17 : decode cX3_readReach 17 = .ok (.aload_n 0, 1) := by decide +kernel
theorem dX3_readReach_18 : decode cX3_readReach 18 = .ok (.getfield 81, 3) := by decide +kernel
theorem dX3_readReach_21 : decode cX3_readReach 21 = .ok (.invokevirtual 112, 3) := by decide +kernel
theorem dX3_readReach_24 : decode cX3_readReach 24 = .ok (.iconst 1, 1) := by decide +kernel
theorem dX3_readReach_25 : decode cX3_readReach 25 = .ok (.ireturn, 1) := by decide +kernel
theorem dX3_readPart_0 : decode cX3_readPart 0 = .ok (.aload_n 0, 1) := by decide +kernel
theorem dX3_readPart_1 : decode cX3_readPart 1 = .ok (.aload_n 1, 1) := by decide +kernel
theorem dX3_readPart_2 : decode cX3_readPart 2 = .ok (.invokevirtual 39, 3) := by decide +kernel
theorem dX3_readPart_5 : decode cX3_readPart 5 = .ok (.ifCond .ne 10, 3) := by decide +kernel
theorem dX3_readPart_8 : decode cX3_readPart 8 = .ok (.aload_n 0, 1) := by decide +kernel
theorem dX3_readPart_9 : decode cX3_readPart 9 = .ok (.iload_n 3, 1) := by decide +kernel
theorem dX3_readPart_10 : decode cX3_readPart 10 = .ok (.putfield 81, 3) := by decide +kernel
theorem dX3_readPart_13 : decode cX3_readPart 13 = .ok (.iconst 1, 1) := by decide +kernel
theorem dX3_readPart_14 : decode cX3_readPart 14 = .ok (.ireturn, 1) := by decide +kernel
theorem dX3_readPart_15 : decode cX3_readPart 15 = .ok (.aload_n 0, 1) := by decide +kernel
theorem dX3_readPart_16 : decode cX3_readPart 16 = .ok (.invokevirtual 22, 3) := by decide +kernel
theorem dX3_readPart_19 : decode cX3_readPart 19 = .ok (.aload_n 0, 1) := by decide +kernel
theorem dX3_readPart_20 : decode cX3_readPart 20 = .ok (.iconst 0, 1) := by decide +kernel
theorem dX3_readPart_21 : decode cX3_readPart 21 = .ok (.iload_n 2, 1) := by decide +kernel
theorem dX3_readPart_22 : decode cX3_readPart 22 = .ok (.invokevirtual 103, 3) := by decide +kernel
theorem dX3_readPart_25 : decode cX3_readPart 25 = .ok (.ireturn, 1) := by decide +kernel
theorem dX3_readNumber_0 : decode cX3_readNumber 0 = .ok (.aload_n 0, 1) := by decide +kernel
theorem dX3_readNumber_1 : decode cX3_readNumber 1 = .ok (.getfield 29, 3) := by decide +kernel
theorem dX3_readNumber_4 : decode cX3_readNumber 4 = .ok (.iconst 2, 1) := by decide +kernel
theorem dX3_readNumber_5 : decode cX3_readNumber 5 = .ok (.if_icmp .ne 15, 3) := by decide +kernel
theorem dX3_readNumber_8 : decode cX3_readNumber 8 = .ok (.aload_n 0, 1) := by decide +kernel
theorem dX3_readNumber_9 : decode cX3_readNumber 9 = .ok (.getfield 116, 3) := by decide +kernel
theorem dX3_readNumber_12 : decode cX3_readNumber 12 = .ok (.iload_n 1, 1) := by decide +kernel
theorem dX3_readNumber_13 : decode cX3_readNumber 13 = .ok (.iload_n 2, 1) := by decide +kernel
theorem dX3_readNumber_14 : decode cX3_readNumber 14 = .ok (.invokestatic 119, 3) := by decide +kernel
theorem dX3_readNumber_17 : decode cX3_readNumber 17 = .ok (.ifCond .ne 5, 3) := by decide +kernel
theorem dX3_readNumber_20 : decode cX3_readNumber 20 = .ok (.iconst 0, 1) := by decide +kernel
theorem dX3_readNumber_21 : decode cX3_readNumber 21 = .ok (.ireturn, 1) := by decide +kernel
theorem dX3_readNumber_22 : decode cX3_readNumber 22 = .ok (.aload_n 0, 1) := by decide +kernel
theorem dX3_readNumber_23 : decode cX3_readNumber 23 = .ok (.aload_n 0, 1) := by decide +kernel
theorem dX3_readNumber_24 : decode cX3_readNumber 24 = .ok (.getfield 116, 3) := by decide +kernel
theorem dX3_readNumber_27 : decode cX3_readNumber 27 = .ok (.putfield 81, 3) := by decide +kernel
theorem dX3_readNumber_30 : decode cX3_readNumber 30 = .ok (.aload_n 0, 1) := by decide +kernel
theorem dX3_readNumber_31 : decode cX3_readNumber 31 = .ok (.invokevirtual 22, 3) := by decide +kernel
theorem dX3_readNumber_34 : decode cX3_readNumber 34 = .ok (.iconst 1, 1) := by decide +kernel
theorem dX3_readNumber_35 : decode cX3_readNumber 35 = .ok (.ireturn, 1) := by decide +kernel
theorem dX3_isWord_0 : decode cX3_isWord 0 = .ok (.aload_n 0, 1) := by decide +kernel
theorem dX3_isWord_1 : decode cX3_isWord 1 = .ok (.getfield 29, 3) := by decide +kernel
theorem dX3_isWord_4 : decode cX3_isWord 4 = .ok (.iconst 1, 1) := by decide +kernel
theorem dX3_isWord_5 : decode cX3_isWord 5 = .ok (.if_icmp .ne 19, 3) := by decide +kernel
theorem dX3_isWord_8 : decode cX3_isWord 8 = .ok (.aload_n 0, 1) := by decide +kernel
theorem dX3_isWord_9 : decode cX3_isWord 9 = .ok (.getfield 19, 3) := by decide +kernel
theorem dX3_isWord_12 : decode cX3_isWord 12 = .ok (.aload_n 0, 1) := by decide +kernel
theorem dX3_isWord_13 : decode cX3_isWord 13 = .ok (.getfield 32, 3) := by decide +kernel
theorem dX3_isWord_16 : decode cX3_isWord 16 = .ok (.isub, 1) := by decide +kernel
theorem dX3_isWord_17 : decode cX3_isWord 17 = .ok (.aload_n 1, 1) := by decide +kernel
theorem dX3_isWord_18 : decode cX3_isWord 18 = .ok (.invokevirtual 123, 3) := by decide +kernel
theorem dX3_isWord_21 : decode cX3_isWord 21 = .ok (.if_icmp .eq 5, 3) := by decide +kernel
theorem dX3_isWord_24 : decode cX3_isWord 24 = .ok (.iconst 0, 1) := by decide +kernel
theorem dX3_isWord_25 : decode cX3_isWord 25 = .ok (.ireturn, 1) := by decide +kernel
theorem dX3_isWord_26 : decode cX3_isWord 26 = .ok (.iconst 0, 1) := by decide +kernel
theorem dX3_isWord_27 : decode cX3_isWord 27 = .ok (.istore_n 2, 1) := by decide +kernel
theorem dX3_isWord_28 : decode cX3_isWord 28 = .ok (.iload_n 2, 1) := by decide +kernel
theorem dX3_isWord_29 : decode cX3_isWord 29 = .ok (.aload_n 1, 1) := by decide +kernel
theorem dX3_isWord_30 : decode cX3_isWord 30 = .ok (.invokevirtual 123, 3) := by decide +kernel
theorem dX3_isWord_33 : decode cX3_isWord 33 = .ok (.if_icmp .ge 30, 3) := by decide +kernel
theorem dX3_isWord_36 : decode cX3_isWord 36 = .ok (.aload_n 0, 1) := by decide +kernel
theorem dX3_isWord_37 : decode cX3_isWord 37 = .ok (.getfield 9, 3) := by decide +kernel
theorem dX3_isWord_40 : decode cX3_isWord 40 = .ok (.aload_n 0, 1) := by decide +kernel
theorem dX3_isWord_41 : decode cX3_isWord 41 = .ok (.getfield 32, 3) := by decide +kernel
theorem dX3_isWord_44 : decode cX3_isWord 44 = .ok (.iload_n 2, 1) := by decide +kernel
theorem dX3_isWord_45 : decode cX3_isWord 45 = .ok (.iadd, 1) := by decide +kernel
theorem dX3_isWord_46 : decode cX3_isWord 46 = .ok (.baload, 1) := by decide +kernel
theorem dX3_isWord_47 : decode cX3_isWord 47 = .ok (.aload_n 1, 1) := by decide +kernel
theorem dX3_isWord_48 : decode cX3_isWord 48 = .ok (.iload_n 2, 1) := by decide +kernel
theorem dX3_isWord_49 : decode cX3_isWord 49 = .ok (.invokevirtual 128, 3) := by decide +kernel
theorem dX3_isWord_52 : decode cX3_isWord 52 = .ok (.if_icmp .eq 5, 3) := by decide +kernel
theorem dX3_isWord_55 : decode cX3_isWord 55 = .ok (.iconst 0, 1) := by decide +kernel
theorem dX3_isWord_56 : decode cX3_isWord 56 = .ok (.ireturn, 1) := by decide +kernel
theorem dX3_isWord_57 : decode cX3_isWord 57 = .ok (.iinc 2 1, 3) := by decide +kernel
theorem dX3_isWord_60 : decode cX3_isWord 60 = .ok (.goto (-32), 3) := by decide +kernel
theorem dX3_isWord_63 : decode cX3_isWord 63 = .ok (.iconst 1, 1) := by decide +kernel
theorem dX3_isWord_64 : decode cX3_isWord 64 = .ok (.ireturn, 1) := by decide +kernel
theorem dX3_wordOf_0 : decode cX3_wordOf 0 = .ok (.iload_n 0, 1) := by decide +kernel
theorem dX3_wordOf_1 : decode cX3_wordOf 1 = .ok (.tableswitch 57 0 5 #[39, 42, 45, 48, 51, 54], 39) := by decide +kernel
theorem dX3_wordOf_40 : decode cX3_wordOf 40 = .ok (.ldc 132, 2) := by decide +kernel
theorem dX3_wordOf_42 : decode cX3_wordOf 42 = .ok (.areturn, 1) := by decide +kernel
theorem dX3_wordOf_43 : decode cX3_wordOf 43 = .ok (.ldc 134, 2) := by decide +kernel
theorem dX3_wordOf_45 : decode cX3_wordOf 45 = .ok (.areturn, 1) := by decide +kernel
theorem dX3_wordOf_46 : decode cX3_wordOf 46 = .ok (.ldc 136, 2) := by decide +kernel
theorem dX3_wordOf_48 : decode cX3_wordOf 48 = .ok (.areturn, 1) := by decide +kernel
theorem dX3_wordOf_49 : decode cX3_wordOf 49 = .ok (.ldc 138, 2) := by decide +kernel
theorem dX3_wordOf_51 : decode cX3_wordOf 51 = .ok (.areturn, 1) := by decide +kernel
theorem dX3_wordOf_52 : decode cX3_wordOf 52 = .ok (.ldc 140, 2) := by decide +kernel
theorem dX3_wordOf_54 : decode cX3_wordOf 54 = .ok (.areturn, 1) := by decide +kernel
theorem dX3_wordOf_55 : decode cX3_wordOf 55 = .ok (.ldc 142, 2) := by decide +kernel
theorem dX3_wordOf_57 : decode cX3_wordOf 57 = .ok (.areturn, 1) := by decide +kernel
theorem dX3_wordOf_58 : decode cX3_wordOf 58 = .ok (.ldc 144, 2) := by decide +kernel
theorem dX3_wordOf_60 : decode cX3_wordOf 60 = .ok (.areturn, 1) := by decide +kernel
theorem dX3_step_0 : decode cX3_step 0 = .ok (.aload_n 0, 1) := by decide +kernel
theorem dX3_step_1 : decode cX3_step 1 = .ok (.aload_n 0, 1) := by decide +kernel
theorem dX3_step_2 : decode cX3_step 2 = .ok (.getfield 19, 3) := by decide +kernel
theorem dX3_step_5 : decode cX3_step 5 = .ok (.putfield 32, 3) := by decide +kernel
theorem dX3_step_8 : decode cX3_step 8 = .ok (.aload_n 0, 1) := by decide +kernel
theorem dX3_step_9 : decode cX3_step 9 = .ok (.getfield 32, 3) := by decide +kernel
theorem dX3_step_12 : decode cX3_step 12 = .ok (.aload_n 0, 1) := by decide +kernel
theorem dX3_step_13 : decode cX3_step 13 = .ok (.getfield 15, 3) := by decide +kernel
theorem dX3_step_16 : decode cX3_step 16 = .ok (.if_icmp .ge 30, 3) := by decide +kernel
theorem dX3_step_19 : decode cX3_step 19 = .ok (.aload_n 0, 1) := by decide +kernel
theorem dX3_step_20 : decode cX3_step 20 = .ok (.getfield 9, 3) := by decide +kernel
theorem dX3_step_23 : decode cX3_step 23 = .ok (.aload_n 0, 1) := by decide +kernel
theorem dX3_step_24 : decode cX3_step 24 = .ok (.getfield 32, 3) := by decide +kernel
theorem dX3_step_27 : decode cX3_step 27 = .ok (.baload, 1) := by decide +kernel
theorem dX3_step_28 : decode cX3_step 28 = .ok (.bipush 32, 2) := by decide +kernel
theorem dX3_step_30 : decode cX3_step 30 = .ok (.if_icmp .ne 16, 3) := by decide +kernel
theorem dX3_step_33 : decode cX3_step 33 = .ok (.aload_n 0, 1) := by decide +kernel
theorem dX3_step_34 : decode cX3_step 34 = .ok (.dup, 1) := by decide +kernel
theorem dX3_step_35 : decode cX3_step 35 = .ok (.getfield 32, 3) := by decide +kernel
theorem dX3_step_38 : decode cX3_step 38 = .ok (.iconst 1, 1) := by decide +kernel
theorem dX3_step_39 : decode cX3_step 39 = .ok (.iadd, 1) := by decide +kernel
theorem dX3_step_40 : decode cX3_step 40 = .ok (.putfield 32, 3) := by decide +kernel
theorem dX3_step_43 : decode cX3_step 43 = .ok (.goto (-35), 3) := by decide +kernel
theorem dX3_step_46 : decode cX3_step 46 = .ok (.aload_n 0, 1) := by decide +kernel
theorem dX3_step_47 : decode cX3_step 47 = .ok (.aload_n 0, 1) := by decide +kernel
theorem dX3_step_48 : decode cX3_step 48 = .ok (.getfield 32, 3) := by decide +kernel
theorem dX3_step_51 : decode cX3_step 51 = .ok (.aload_n 0, 1) := by decide +kernel
theorem dX3_step_52 : decode cX3_step 52 = .ok (.getfield 15, 3) := by decide +kernel
theorem dX3_step_55 : decode cX3_step 55 = .ok (.if_icmp .ge 18, 3) := by decide +kernel
theorem dX3_step_58 : decode cX3_step 58 = .ok (.aload_n 0, 1) := by decide +kernel
theorem dX3_step_59 : decode cX3_step 59 = .ok (.getfield 9, 3) := by decide +kernel
theorem dX3_step_62 : decode cX3_step 62 = .ok (.aload_n 0, 1) := by decide +kernel
theorem dX3_step_63 : decode cX3_step 63 = .ok (.getfield 32, 3) := by decide +kernel
theorem dX3_step_66 : decode cX3_step 66 = .ok (.baload, 1) := by decide +kernel
theorem dX3_step_67 : decode cX3_step 67 = .ok (.invokestatic 146, 3) := by decide +kernel
theorem dX3_step_70 : decode cX3_step 70 = .ok (.goto 4, 3) := by decide +kernel
theorem dX3_step_73 : decode cX3_step 73 = .ok (.iconst 0, 1) := by decide +kernel
theorem dX3_step_74 : decode cX3_step 74 = .ok (.putfield 29, 3) := by decide +kernel
theorem dX3_step_77 : decode cX3_step 77 = .ok (.aload_n 0, 1) := by decide +kernel
theorem dX3_step_78 : decode cX3_step 78 = .ok (.aload_n 0, 1) := by decide +kernel
theorem dX3_step_79 : decode cX3_step 79 = .ok (.getfield 32, 3) := by decide +kernel
theorem dX3_step_82 : decode cX3_step 82 = .ok (.putfield 19, 3) := by decide +kernel
theorem dX3_step_85 : decode cX3_step 85 = .ok (.aload_n 0, 1) := by decide +kernel
theorem dX3_step_86 : decode cX3_step 86 = .ok (.iconst 0, 1) := by decide +kernel
theorem dX3_step_87 : decode cX3_step 87 = .ok (.putfield 116, 3) := by decide +kernel
theorem dX3_step_90 : decode cX3_step 90 = .ok (.aload_n 0, 1) := by decide +kernel
theorem dX3_step_91 : decode cX3_step 91 = .ok (.getfield 29, 3) := by decide +kernel
theorem dX3_step_94 : decode cX3_step 94 = .ok (.iconst 1, 1) := by decide +kernel
theorem dX3_step_95 : decode cX3_step 95 = .ok (.if_icmp .eq 11, 3) := by decide +kernel
theorem dX3_step_98 : decode cX3_step 98 = .ok (.aload_n 0, 1) := by decide +kernel
theorem dX3_step_99 : decode cX3_step 99 = .ok (.getfield 29, 3) := by decide +kernel
theorem dX3_step_102 : decode cX3_step 102 = .ok (.iconst 2, 1) := by decide +kernel
theorem dX3_step_103 : decode cX3_step 103 = .ok (.if_icmp .ne 10, 3) := by decide +kernel
theorem dX3_step_106 : decode cX3_step 106 = .ok (.aload_n 0, 1) := by decide +kernel
theorem dX3_step_107 : decode cX3_step 107 = .ok (.getfield 15, 3) := by decide +kernel
theorem dX3_step_110 : decode cX3_step 110 = .ok (.goto 16, 3) := by decide +kernel
theorem dX3_step_113 : decode cX3_step 113 = .ok (.aload_n 0, 1) := by decide +kernel
theorem dX3_step_114 : decode cX3_step 114 = .ok (.getfield 15, 3) := by decide +kernel
theorem dX3_step_117 : decode cX3_step 117 = .ok (.aload_n 0, 1) := by decide +kernel
theorem dX3_step_118 : decode cX3_step 118 = .ok (.getfield 32, 3) := by decide +kernel
theorem dX3_step_121 : decode cX3_step 121 = .ok (.iconst 1, 1) := by decide +kernel
theorem dX3_step_122 : decode cX3_step 122 = .ok (.iadd, 1) := by decide +kernel
theorem dX3_step_123 : decode cX3_step 123 = .ok (.invokestatic 150, 3) := by decide +kernel
theorem dX3_step_126 : decode cX3_step 126 = .ok (.istore_n 1, 1) := by decide +kernel
theorem dX3_step_127 : decode cX3_step 127 = .ok (.aload_n 0, 1) := by decide +kernel
theorem dX3_step_128 : decode cX3_step 128 = .ok (.getfield 19, 3) := by decide +kernel
theorem dX3_step_131 : decode cX3_step 131 = .ok (.iload_n 1, 1) := by decide +kernel
theorem dX3_step_132 : decode cX3_step 132 = .ok (.if_icmp .ge 73, 3) := by decide +kernel
theorem dX3_step_135 : decode cX3_step 135 = .ok (.aload_n 0, 1) := by decide +kernel
theorem dX3_step_136 : decode cX3_step 136 = .ok (.getfield 9, 3) := by decide +kernel
theorem dX3_step_139 : decode cX3_step 139 = .ok (.aload_n 0, 1) := by decide +kernel
theorem dX3_step_140 : decode cX3_step 140 = .ok (.getfield 19, 3) := by decide +kernel
theorem dX3_step_143 : decode cX3_step 143 = .ok (.baload, 1) := by decide +kernel
theorem dX3_step_144 : decode cX3_step 144 = .ok (.invokestatic 146, 3) := by decide +kernel
theorem dX3_step_147 : decode cX3_step 147 = .ok (.aload_n 0, 1) := by decide +kernel
theorem dX3_step_148 : decode cX3_step 148 = .ok (.getfield 29, 3) := by decide +kernel
theorem dX3_step_151 : decode cX3_step 151 = .ok (.if_icmp .ne 54, 3) := by decide +kernel
theorem dX3_step_154 : decode cX3_step 154 = .ok (.aload_n 0, 1) := by decide +kernel
theorem dX3_step_155 : decode cX3_step 155 = .ok (.getfield 29, 3) := by decide +kernel
theorem dX3_step_158 : decode cX3_step 158 = .ok (.iconst 2, 1) := by decide +kernel
theorem dX3_step_159 : decode cX3_step 159 = .ok (.if_icmp .ne 33, 3) := by decide +kernel
theorem dX3_step_162 : decode cX3_step 162 = .ok (.aload_n 0, 1) := by decide +kernel
theorem dX3_step_163 : decode cX3_step 163 = .ok (.sipush 10000, 3) := by decide +kernel
theorem dX3_step_166 : decode cX3_step 166 = .ok (.aload_n 0, 1) := by decide +kernel
theorem dX3_step_167 : decode cX3_step 167 = .ok (.getfield 116, 3) := by decide +kernel
theorem dX3_step_170 : decode cX3_step 170 = .ok (.bipush 10, 2) := by decide +kernel
theorem dX3_step_172 : decode cX3_step 172 = .ok (.imul, 1) := by decide +kernel
theorem dX3_step_173 : decode cX3_step 173 = .ok (.aload_n 0, 1) := by decide +kernel
theorem dX3_step_174 : decode cX3_step 174 = .ok (.getfield 9, 3) := by decide +kernel
theorem dX3_step_177 : decode cX3_step 177 = .ok (.aload_n 0, 1) := by decide +kernel
theorem dX3_step_178 : decode cX3_step 178 = .ok (.getfield 19, 3) := by decide +kernel
theorem dX3_step_181 : decode cX3_step 181 = .ok (.baload, 1) := by decide +kernel
theorem dX3_step_182 : decode cX3_step 182 = .ok (.bipush 48, 2) := by decide +kernel
theorem dX3_step_184 : decode cX3_step 184 = .ok (.isub, 1) := by decide +kernel
theorem dX3_step_185 : decode cX3_step 185 = .ok (.iadd, 1) := by decide +kernel
theorem dX3_step_186 : decode cX3_step 186 = .ok (.invokestatic 150, 3) := by decide +kernel
theorem dX3_step_189 : decode cX3_step 189 = .ok (.putfield 116, 3) := by decide +kernel
theorem dX3_step_192 : decode cX3_step 192 = .ok (.aload_n 0, 1) := by decide +kernel
theorem dX3_step_193 : decode cX3_step 193 = .ok (.dup, 1) := by decide +kernel
theorem dX3_step_194 : decode cX3_step 194 = .ok (.getfield 19, 3) := by decide +kernel
theorem dX3_step_197 : decode cX3_step 197 = .ok (.iconst 1, 1) := by decide +kernel
theorem dX3_step_198 : decode cX3_step 198 = .ok (.iadd, 1) := by decide +kernel
theorem dX3_step_199 : decode cX3_step 199 = .ok (.putfield 19, 3) := by decide +kernel
theorem dX3_step_202 : decode cX3_step 202 = .ok (.goto (-75), 3) := by decide +kernel
theorem dX3_step_205 : decode cX3_step 205 = .ok (.return_, 1) := by decide +kernel
theorem dX3_tokenOf_0 : decode cX3_tokenOf 0 = .ok (.iload_n 0, 1) := by decide +kernel
theorem dX3_tokenOf_1 : decode cX3_tokenOf 1 = .ok (.bipush 97, 2) := by decide +kernel
theorem dX3_tokenOf_3 : decode cX3_tokenOf 3 = .ok (.if_icmp .lt 11, 3) := by decide +kernel
theorem dX3_tokenOf_6 : decode cX3_tokenOf 6 = .ok (.iload_n 0, 1) := by decide +kernel
theorem dX3_tokenOf_7 : decode cX3_tokenOf 7 = .ok (.bipush 122, 2) := by decide +kernel
theorem dX3_tokenOf_9 : decode cX3_tokenOf 9 = .ok (.if_icmp .gt 5, 3) := by decide +kernel
theorem dX3_tokenOf_12 : decode cX3_tokenOf 12 = .ok (.iconst 1, 1) := by decide +kernel
theorem dX3_tokenOf_13 : decode cX3_tokenOf 13 = .ok (.ireturn, 1) := by decide +kernel
theorem dX3_tokenOf_14 : decode cX3_tokenOf 14 = .ok (.iload_n 0, 1) := by decide +kernel
theorem dX3_tokenOf_15 : decode cX3_tokenOf 15 = .ok (.bipush 48, 2) := by decide +kernel
theorem dX3_tokenOf_17 : decode cX3_tokenOf 17 = .ok (.if_icmp .lt 11, 3) := by decide +kernel
theorem dX3_tokenOf_20 : decode cX3_tokenOf 20 = .ok (.iload_n 0, 1) := by decide +kernel
theorem dX3_tokenOf_21 : decode cX3_tokenOf 21 = .ok (.bipush 57, 2) := by decide +kernel
theorem dX3_tokenOf_23 : decode cX3_tokenOf 23 = .ok (.if_icmp .gt 5, 3) := by decide +kernel
theorem dX3_tokenOf_26 : decode cX3_tokenOf 26 = .ok (.iconst 2, 1) := by decide +kernel
theorem dX3_tokenOf_27 : decode cX3_tokenOf 27 = .ok (.ireturn, 1) := by decide +kernel
theorem dX3_tokenOf_28 : decode cX3_tokenOf 28 = .ok (.iload_n 0, 1) := by decide +kernel
theorem dX3_tokenOf_29 : decode cX3_tokenOf 29 = .ok (.bipush 59, 2) := by decide +kernel
theorem dX3_tokenOf_31 : decode cX3_tokenOf 31 = .ok (.if_icmp .ne 7, 3) := by decide +kernel
theorem dX3_tokenOf_34 : decode cX3_tokenOf 34 = .ok (.iconst 3, 1) := by decide +kernel
theorem dX3_tokenOf_35 : decode cX3_tokenOf 35 = .ok (.goto 4, 3) := by decide +kernel
theorem dX3_tokenOf_38 : decode cX3_tokenOf 38 = .ok (.iconst 4, 1) := by decide +kernel
theorem dX3_tokenOf_39 : decode cX3_tokenOf 39 = .ok (.ireturn, 1) := by decide +kernel
theorem dX4_init_0 : decode cX4_init 0 = .ok (.aload_n 0, 1) := by decide +kernel
theorem dX4_init_1 : decode cX4_init 1 = .ok (.invokespecial 3, 3) := by decide +kernel
theorem dX4_init_4 : decode cX4_init 4 = .ok (.aload_n 0, 1) := by decide +kernel
theorem dX4_init_5 : decode cX4_init 5 = .ok (.bipush 8, 2) := by decide +kernel
theorem dX4_init_7 : decode cX4_init 7 = .ok (.newarray .int, 2) := by decide +kernel
theorem dX4_init_9 : decode cX4_init 9 = .ok (.putfield 9, 3) := by decide +kernel
theorem dX4_init_12 : decode cX4_init 12 = .ok (.aload_n 0, 1) := by decide +kernel
theorem dX4_init_13 : decode cX4_init 13 = .ok (.bipush 8, 2) := by decide +kernel
theorem dX4_init_15 : decode cX4_init 15 = .ok (.newarray .int, 2) := by decide +kernel
theorem dX4_init_17 : decode cX4_init 17 = .ok (.putfield 15, 3) := by decide +kernel
theorem dX4_init_20 : decode cX4_init 20 = .ok (.return_, 1) := by decide +kernel
theorem dX4_startersOf_0 : decode cX4_startersOf 0 = .ok (.iconst 0, 1) := by decide +kernel
theorem dX4_startersOf_1 : decode cX4_startersOf 1 = .ok (.istore 4, 2) := by decide +kernel
theorem dX4_startersOf_3 : decode cX4_startersOf 3 = .ok (.iconst 0, 1) := by decide +kernel
theorem dX4_startersOf_4 : decode cX4_startersOf 4 = .ok (.istore 5, 2) := by decide +kernel
theorem dX4_startersOf_6 : decode cX4_startersOf 6 = .ok (.iload 5, 2) := by decide +kernel
theorem dX4_startersOf_8 : decode cX4_startersOf 8 = .ok (.aload_n 1, 1) := by decide +kernel
theorem dX4_startersOf_9 : decode cX4_startersOf 9 = .ok (.getfield 18, 3) := by decide +kernel
theorem dX4_startersOf_12 : decode cX4_startersOf 12 = .ok (.if_icmp .ge 46, 3) := by decide +kernel
theorem dX4_startersOf_15 : decode cX4_startersOf 15 = .ok (.aload_n 1, 1) := by decide +kernel
theorem dX4_startersOf_16 : decode cX4_startersOf 16 = .ok (.iload 5, 2) := by decide +kernel
theorem dX4_startersOf_18 : decode cX4_startersOf 18 = .ok (.iload_n 2, 1) := by decide +kernel
theorem dX4_startersOf_19 : decode cX4_startersOf 19 = .ok (.iload_n 3, 1) := by decide +kernel
theorem dX4_startersOf_20 : decode cX4_startersOf 20 = .ok (.invokevirtual 24, 3) := by decide +kernel
theorem dX4_startersOf_23 : decode cX4_startersOf 23 = .ok (.aload_n 1, 1) := by decide +kernel
theorem dX4_startersOf_24 : decode cX4_startersOf 24 = .ok (.getfield 28, 3) := by decide +kernel
theorem dX4_startersOf_27 : decode cX4_startersOf 27 = .ok (.iload 5, 2) := by decide +kernel
theorem dX4_startersOf_29 : decode cX4_startersOf 29 = .ok (.iaload, 1) := by decide +kernel
theorem dX4_startersOf_30 : decode cX4_startersOf 30 = .ok (.aload_n 1, 1) := by decide +kernel
theorem dX4_startersOf_31 : decode cX4_startersOf 31 = .ok (.getfield 31, 3) := by decide +kernel
theorem dX4_startersOf_34 : decode cX4_startersOf 34 = .ok (.iload 5, 2) := by decide +kernel
theorem dX4_startersOf_36 : decode cX4_startersOf 36 = .ok (.iaload, 1) := by decide +kernel
theorem dX4_startersOf_37 : decode cX4_startersOf 37 = .ok (.invokestatic 34, 3) := by decide +kernel
theorem dX4_startersOf_40 : decode cX4_startersOf 40 = .ok (.if_icmp .lt 12, 3) := by decide +kernel
theorem dX4_startersOf_43 : decode cX4_startersOf 43 = .ok (.iload 4, 2) := by decide +kernel
theorem dX4_startersOf_45 : decode cX4_startersOf 45 = .ok (.iconst 1, 1) := by decide +kernel
theorem dX4_startersOf_46 : decode cX4_startersOf 46 = .ok (.iload 5, 2) := by decide +kernel
theorem dX4_startersOf_48 : decode cX4_startersOf 48 = .ok (.ishl, 1) := by decide +kernel
theorem dX4_startersOf_49 : decode cX4_startersOf 49 = .ok (.ior, 1) := by decide +kernel
theorem dX4_startersOf_50 : decode cX4_startersOf 50 = .ok (.istore 4, 2) := by decide +kernel
theorem dX4_startersOf_52 : decode cX4_startersOf 52 = .ok (.iinc 5 1, 3) := by decide +kernel
theorem dX4_startersOf_55 : decode cX4_startersOf 55 = .ok (.goto (-49), 3) := by decide +kernel
theorem dX4_startersOf_58 : decode cX4_startersOf 58 = .ok (.iload 4, 2) := by decide +kernel
theorem dX4_startersOf_60 : decode cX4_startersOf 60 = .ok (.ireturn, 1) := by decide +kernel
theorem dX4_laughersOf_0 : decode cX4_laughersOf 0 = .ok (.aload_n 0, 1) := by decide +kernel
theorem dX4_laughersOf_1 : decode cX4_laughersOf 1 = .ok (.aload_n 1, 1) := by decide +kernel
theorem dX4_laughersOf_2 : decode cX4_laughersOf 2 = .ok (.aload_n 1, 1) := by decide +kernel
theorem dX4_laughersOf_3 : decode cX4_laughersOf 3 = .ok (.getfield 40, 3) := by decide +kernel
theorem dX4_laughersOf_6 : decode cX4_laughersOf 6 = .ok (.iload_n 2, 1) := by decide +kernel
theorem dX4_laughersOf_7 : decode cX4_laughersOf 7 = .ok (.iaload, 1) := by decide +kernel
theorem dX4_laughersOf_8 : decode cX4_laughersOf 8 = .ok (.aload_n 1, 1) := by decide +kernel
theorem dX4_laughersOf_9 : decode cX4_laughersOf 9 = .ok (.getfield 43, 3) := by decide +kernel
theorem dX4_laughersOf_12 : decode cX4_laughersOf 12 = .ok (.iload_n 2, 1) := by decide +kernel
theorem dX4_laughersOf_13 : decode cX4_laughersOf 13 = .ok (.iaload, 1) := by decide +kernel
theorem dX4_laughersOf_14 : decode cX4_laughersOf 14 = .ok (.invokevirtual 46, 3) := by decide +kernel
theorem dX4_laughersOf_17 : decode cX4_laughersOf 17 = .ok (.istore_n 3, 1) := by decide +kernel
theorem dX4_laughersOf_18 : decode cX4_laughersOf 18 = .ok (.aload_n 0, 1) := by decide +kernel
theorem dX4_laughersOf_19 : decode cX4_laughersOf 19 = .ok (.aload_n 1, 1) := by decide +kernel
theorem dX4_laughersOf_20 : decode cX4_laughersOf 20 = .ok (.iload_n 3, 1) := by decide +kernel
theorem dX4_laughersOf_21 : decode cX4_laughersOf 21 = .ok (.aload_n 1, 1) := by decide +kernel
theorem dX4_laughersOf_22 : decode cX4_laughersOf 22 = .ok (.invokevirtual 50, 3) := by decide +kernel
theorem dX4_laughersOf_25 : decode cX4_laughersOf 25 = .ok (.invokevirtual 54, 3) := by decide +kernel
theorem dX4_laughersOf_28 : decode cX4_laughersOf 28 = .ok (.ireturn, 1) := by decide +kernel
theorem dX4_spread_0 : decode cX4_spread 0 = .ok (.iload_n 2, 1) := by decide +kernel
theorem dX4_spread_1 : decode cX4_spread 1 = .ok (.istore 4, 2) := by decide +kernel
theorem dX4_spread_3 : decode cX4_spread 3 = .ok (.aload_n 0, 1) := by decide +kernel
theorem dX4_spread_4 : decode cX4_spread 4 = .ok (.iconst 0, 1) := by decide +kernel
theorem dX4_spread_5 : decode cX4_spread 5 = .ok (.putfield 57, 3) := by decide +kernel
theorem dX4_spread_8 : decode cX4_spread 8 = .ok (.aload_n 0, 1) := by decide +kernel
theorem dX4_spread_9 : decode cX4_spread 9 = .ok (.iload_n 2, 1) := by decide +kernel
theorem dX4_spread_10 : decode cX4_spread 10 = .ok (.iconst 0, 1) := by decide +kernel
theorem dX4_spread_11 : decode cX4_spread 11 = .ok (.invokevirtual 60, 3) := by decide +kernel
theorem dX4_spread_14 : decode cX4_spread 14 = .ok (.iconst 1, 1) := by decide +kernel
theorem dX4_spread_15 : decode cX4_spread 15 = .ok (.istore 5, 2) := by decide +kernel
theorem dX4_spread_17 : decode cX4_spread 17 = .ok (.iload 5, 2) := by decide +kernel
theorem dX4_spread_19 : decode cX4_spread 19 = .ok (.bipush 8, 2) := by decide +kernel
theorem dX4_spread_21 : decode cX4_spread 21 = .ok (.if_icmp .gt 53, 3) := by decide +kernel
theorem dX4_spread_24 : decode cX4_spread 24 = .ok (.aload_n 0, 1) := by decide +kernel
theorem dX4_spread_25 : decode cX4_spread 25 = .ok (.aload_n 1, 1) := by decide +kernel
theorem dX4_spread_26 : decode cX4_spread 26 = .ok (.iload 4, 2) := by decide +kernel
theorem dX4_spread_28 : decode cX4_spread 28 = .ok (.iload_n 3, 1) := by decide +kernel
theorem dX4_spread_29 : decode cX4_spread 29 = .ok (.iload 4, 2) := by decide +kernel
theorem dX4_spread_31 : decode cX4_spread 31 = .ok (.iconst (-1), 1) := by decide +kernel
theorem dX4_spread_32 : decode cX4_spread 32 = .ok (.ixor, 1) := by decide +kernel
theorem dX4_spread_33 : decode cX4_spread 33 = .ok (.iand, 1) := by decide +kernel
theorem dX4_spread_34 : decode cX4_spread 34 = .ok (.invokevirtual 64, 3) := by decide +kernel
theorem dX4_spread_37 : decode cX4_spread 37 = .ok (.istore 6, 2) := by decide +kernel
theorem dX4_spread_39 : decode cX4_spread 39 = .ok (.iload 6, 2) := by decide +kernel
theorem dX4_spread_41 : decode cX4_spread 41 = .ok (.ifCond .ne 6, 3) := by decide +kernel
theorem dX4_spread_44 : decode cX4_spread 44 = .ok (.goto 30, 3) := by decide +kernel
theorem dX4_spread_47 : decode cX4_spread 47 = .ok (.aload_n 0, 1) := by decide +kernel
theorem dX4_spread_48 : decode cX4_spread 48 = .ok (.iload 5, 2) := by decide +kernel
theorem dX4_spread_50 : decode cX4_spread 50 = .ok (.putfield 57, 3) := by decide +kernel
theorem dX4_spread_53 : decode cX4_spread 53 = .ok (.aload_n 0, 1) := by decide +kernel
theorem dX4_spread_54 : decode cX4_spread 54 = .ok (.iload 6, 2) := by decide +kernel
theorem dX4_spread_56 : decode cX4_spread 56 = .ok (.iload 5, 2) := by decide +kernel
theorem dX4_spread_58 : decode cX4_spread 58 = .ok (.invokevirtual 60, 3) := by decide +kernel
theorem dX4_spread_61 : decode cX4_spread 61 = .ok (.iload 4, 2) := by decide +kernel
theorem dX4_spread_63 : decode cX4_spread 63 = .ok (.iload 6, 2) := by decide +kernel
theorem dX4_spread_65 : decode cX4_spread 65 = .ok (.ior, 1) := by decide +kernel
theorem dX4_spread_66 : decode cX4_spread 66 = .ok (.istore 4, 2) := by decide +kernel
theorem dX4_spread_68 : decode cX4_spread 68 = .ok (.iinc 5 1, 3) := by decide +kernel
theorem dX4_spread_71 : decode cX4_spread 71 = .ok (.goto (-54), 3) := by decide +kernel
theorem dX4_spread_74 : decode cX4_spread 74 = .ok (.iload 4, 2) := by decide +kernel
theorem dX4_spread_76 : decode cX4_spread 76 = .ok (.ireturn, 1) := by decide +kernel
theorem dX4_catchersFrom_0 : decode cX4_catchersFrom 0 = .ok (.iconst 0, 1) := by decide +kernel
theorem dX4_catchersFrom_1 : decode cX4_catchersFrom 1 = .ok (.istore 4, 2) := by decide +kernel
theorem dX4_catchersFrom_3 : decode cX4_catchersFrom 3 = .ok (.iconst 0, 1) := by decide +kernel
theorem dX4_catchersFrom_4 : decode cX4_catchersFrom 4 = .ok (.istore 5, 2) := by decide +kernel
theorem dX4_catchersFrom_6 : decode cX4_catchersFrom 6 = .ok (.iload 5, 2) := by decide +kernel
theorem dX4_catchersFrom_8 : decode cX4_catchersFrom 8 = .ok (.aload_n 1, 1) := by decide +kernel
theorem dX4_catchersFrom_9 : decode cX4_catchersFrom 9 = .ok (.getfield 18, 3) := by decide +kernel
theorem dX4_catchersFrom_12 : decode cX4_catchersFrom 12 = .ok (.if_icmp .ge 63, 3) := by decide +kernel
theorem dX4_catchersFrom_15 : decode cX4_catchersFrom 15 = .ok (.aload_n 1, 1) := by decide +kernel
theorem dX4_catchersFrom_16 : decode cX4_catchersFrom 16 = .ok (.getfield 67, 3) := by decide +kernel
theorem dX4_catchersFrom_19 : decode cX4_catchersFrom 19 = .ok (.iload 5, 2) := by decide +kernel
theorem dX4_catchersFrom_21 : decode cX4_catchersFrom 21 = .ok (.iaload, 1) := by decide +kernel
theorem dX4_catchersFrom_22 : decode cX4_catchersFrom 22 = .ok (.iload_n 2, 1) := by decide +kernel
theorem dX4_catchersFrom_23 : decode cX4_catchersFrom 23 = .ok (.iand, 1) := by decide +kernel
theorem dX4_catchersFrom_24 : decode cX4_catchersFrom 24 = .ok (.invokestatic 70, 3) := by decide +kernel
theorem dX4_catchersFrom_27 : decode cX4_catchersFrom 27 = .ok (.istore 6, 2) := by decide +kernel
theorem dX4_catchersFrom_29 : decode cX4_catchersFrom 29 = .ok (.iload_n 3, 1) := by decide +kernel
theorem dX4_catchersFrom_30 : decode cX4_catchersFrom 30 = .ok (.iload 5, 2) := by decide +kernel
theorem dX4_catchersFrom_32 : decode cX4_catchersFrom 32 = .ok (.invokestatic 76, 3) := by decide +kernel
theorem dX4_catchersFrom_35 : decode cX4_catchersFrom 35 = .ok (.ifCond .eq 34, 3) := by decide +kernel
theorem dX4_catchersFrom_38 : decode cX4_catchersFrom 38 = .ok (.iload 6, 2) := by decide +kernel
theorem dX4_catchersFrom_40 : decode cX4_catchersFrom 40 = .ok (.aload_n 1, 1) := by decide +kernel
theorem dX4_catchersFrom_41 : decode cX4_catchersFrom 41 = .ok (.getfield 28, 3) := by decide +kernel
theorem dX4_catchersFrom_44 : decode cX4_catchersFrom 44 = .ok (.iload 5, 2) := by decide +kernel
theorem dX4_catchersFrom_46 : decode cX4_catchersFrom 46 = .ok (.iaload, 1) := by decide +kernel
theorem dX4_catchersFrom_47 : decode cX4_catchersFrom 47 = .ok (.aload_n 1, 1) := by decide +kernel
theorem dX4_catchersFrom_48 : decode cX4_catchersFrom 48 = .ok (.getfield 80, 3) := by decide +kernel
theorem dX4_catchersFrom_51 : decode cX4_catchersFrom 51 = .ok (.iload 5, 2) := by decide +kernel
theorem dX4_catchersFrom_53 : decode cX4_catchersFrom 53 = .ok (.iaload, 1) := by decide +kernel
theorem dX4_catchersFrom_54 : decode cX4_catchersFrom 54 = .ok (.invokestatic 83, 3) := by decide +kernel
theorem dX4_catchersFrom_57 : decode cX4_catchersFrom 57 = .ok (.if_icmp .lt 12, 3) := by decide +kernel
theorem dX4_catchersFrom_60 : decode cX4_catchersFrom 60 = .ok (.iload 4, 2) := by decide +kernel
theorem dX4_catchersFrom_62 : decode cX4_catchersFrom 62 = .ok (.iconst 1, 1) := by decide +kernel
theorem dX4_catchersFrom_63 : decode cX4_catchersFrom 63 = .ok (.iload 5, 2) := by decide +kernel
theorem dX4_catchersFrom_65 : decode cX4_catchersFrom 65 = .ok (.ishl, 1) := by decide +kernel
theorem dX4_catchersFrom_66 : decode cX4_catchersFrom 66 = .ok (.ior, 1) := by decide +kernel
theorem dX4_catchersFrom_67 : decode cX4_catchersFrom 67 = .ok (.istore 4, 2) := by decide +kernel
theorem dX4_catchersFrom_69 : decode cX4_catchersFrom 69 = .ok (.iinc 5 1, 3) := by decide +kernel
theorem dX4_catchersFrom_72 : decode cX4_catchersFrom 72 = .ok (.goto (-66), 3) := by decide +kernel
theorem dX4_catchersFrom_75 : decode cX4_catchersFrom 75 = .ok (.iload 4, 2) := by decide +kernel
theorem dX4_catchersFrom_77 : decode cX4_catchersFrom 77 = .ok (.ireturn, 1) := by decide +kernel
theorem dX4_noteRound_0 : decode cX4_noteRound 0 = .ok (.iconst 0, 1) := by decide +kernel
theorem dX4_noteRound_1 : decode cX4_noteRound 1 = .ok (.istore_n 3, 1) := by decide +kernel
theorem dX4_noteRound_2 : decode cX4_noteRound 2 = .ok (.iload_n 3, 1) := by decide +kernel
theorem dX4_noteRound_3 : decode cX4_noteRound 3 = .ok (.bipush 8, 2) := by decide +kernel
theorem dX4_noteRound_5 : decode cX4_noteRound 5 = .ok (.if_icmp .ge 24, 3) := by decide +kernel
theorem dX4_noteRound_8 : decode cX4_noteRound 8 = .ok (.iload_n 1, 1) := by decide +kernel
theorem dX4_noteRound_9 : decode cX4_noteRound 9 = .ok (.iload_n 3, 1) := by decide +kernel
theorem dX4_noteRound_10 : decode cX4_noteRound 10 = .ok (.invokestatic 76, 3) := by decide +kernel
theorem dX4_noteRound_13 : decode cX4_noteRound 13 = .ok (.ifCond .eq 10, 3) := by decide +kernel
theorem dX4_noteRound_16 : decode cX4_noteRound 16 = .ok (.aload_n 0, 1) := by decide +kernel
theorem dX4_noteRound_17 : decode cX4_noteRound 17 = .ok (.getfield 9, 3) := by decide +kernel
theorem dX4_noteRound_20 : decode cX4_noteRound 20 = .ok (.iload_n 3, 1) := by decide +kernel
theorem dX4_noteRound_21 : decode cX4_noteRound 21 = .ok (.iload_n 2, 1) := by decide +kernel
theorem dX4_noteRound_22 : decode cX4_noteRound 22 = .ok (.iastore, 1) := by decide +kernel
theorem dX4_noteRound_23 : decode cX4_noteRound 23 = .ok (.iinc 3 1, 3) := by decide +kernel
theorem dX4_noteRound_26 : decode cX4_noteRound 26 = .ok (.goto (-24), 3) := by decide +kernel
theorem dX4_noteRound_29 : decode cX4_noteRound 29 = .ok (.return_, 1) := by decide +kernel
theorem dX4_perform_0 : decode cX4_perform 0 = .ok (.aload_n 0, 1) := by decide +kernel
theorem dX4_perform_1 : decode cX4_perform 1 = .ok (.aload_n 1, 1) := by decide +kernel
theorem dX4_perform_2 : decode cX4_perform 2 = .ok (.iload_n 2, 1) := by decide +kernel
theorem dX4_perform_3 : decode cX4_perform 3 = .ok (.invokevirtual 86, 3) := by decide +kernel
theorem dX4_perform_6 : decode cX4_perform 6 = .ok (.istore_n 3, 1) := by decide +kernel
theorem dX4_perform_7 : decode cX4_perform 7 = .ok (.iconst 0, 1) := by decide +kernel
theorem dX4_perform_8 : decode cX4_perform 8 = .ok (.istore 4, 2) := by decide +kernel
theorem dX4_perform_10 : decode cX4_perform 10 = .ok (.iload 4, 2) := by decide +kernel
theorem dX4_perform_12 : decode cX4_perform 12 = .ok (.aload_n 1, 1) := by decide +kernel
theorem dX4_perform_13 : decode cX4_perform 13 = .ok (.getfield 18, 3) := by decide +kernel
theorem dX4_perform_16 : decode cX4_perform 16 = .ok (.if_icmp .ge 64, 3) := by decide +kernel
theorem dX4_perform_19 : decode cX4_perform 19 = .ok (.aload_n 1, 1) := by decide +kernel
theorem dX4_perform_20 : decode cX4_perform 20 = .ok (.iload 4, 2) := by decide +kernel
theorem dX4_perform_22 : decode cX4_perform 22 = .ok (.aload_n 1, 1) := by decide +kernel
theorem dX4_perform_23 : decode cX4_perform 23 = .ok (.getfield 40, 3) := by decide +kernel
theorem dX4_perform_26 : decode cX4_perform 26 = .ok (.iload_n 2, 1) := by decide +kernel
theorem dX4_perform_27 : decode cX4_perform 27 = .ok (.iaload, 1) := by decide +kernel
theorem dX4_perform_28 : decode cX4_perform 28 = .ok (.aload_n 1, 1) := by decide +kernel
theorem dX4_perform_29 : decode cX4_perform 29 = .ok (.getfield 43, 3) := by decide +kernel
theorem dX4_perform_32 : decode cX4_perform 32 = .ok (.iload_n 2, 1) := by decide +kernel
theorem dX4_perform_33 : decode cX4_perform 33 = .ok (.iaload, 1) := by decide +kernel
theorem dX4_perform_34 : decode cX4_perform 34 = .ok (.invokevirtual 24, 3) := by decide +kernel
theorem dX4_perform_37 : decode cX4_perform 37 = .ok (.istore 5, 2) := by decide +kernel
theorem dX4_perform_39 : decode cX4_perform 39 = .ok (.aload_n 0, 1) := by decide +kernel
theorem dX4_perform_40 : decode cX4_perform 40 = .ok (.getfield 15, 3) := by decide +kernel
theorem dX4_perform_43 : decode cX4_perform 43 = .ok (.iload 4, 2) := by decide +kernel
theorem dX4_perform_45 : decode cX4_perform 45 = .ok (.iload_n 3, 1) := by decide +kernel
theorem dX4_perform_46 : decode cX4_perform 46 = .ok (.iload 4, 2) := by decide +kernel
theorem dX4_perform_48 : decode cX4_perform 48 = .ok (.invokestatic 76, 3) := by decide +kernel
theorem dX4_perform_51 : decode cX4_perform 51 = .ok (.ifCond .eq 21, 3) := by decide +kernel
theorem dX4_perform_54 : decode cX4_perform 54 = .ok (.aload_n 0, 1) := by decide +kernel
theorem dX4_perform_55 : decode cX4_perform 55 = .ok (.aload_n 1, 1) := by decide +kernel
theorem dX4_perform_56 : decode cX4_perform 56 = .ok (.iload 4, 2) := by decide +kernel
theorem dX4_perform_58 : decode cX4_perform 58 = .ok (.aload_n 1, 1) := by decide +kernel
theorem dX4_perform_59 : decode cX4_perform 59 = .ok (.iload 4, 2) := by decide +kernel
theorem dX4_perform_61 : decode cX4_perform 61 = .ok (.iload 5, 2) := by decide +kernel
theorem dX4_perform_63 : decode cX4_perform 63 = .ok (.invokevirtual 90, 3) := by decide +kernel
theorem dX4_perform_66 : decode cX4_perform 66 = .ok (.invokevirtual 93, 3) := by decide +kernel
theorem dX4_perform_69 : decode cX4_perform 69 = .ok (.goto 4, 3) := by decide +kernel
theorem dX4_perform_72 : decode cX4_perform 72 = .ok (.iconst 0, 1) := by decide +kernel
theorem dX4_perform_73 : decode cX4_perform 73 = .ok (.iastore, 1) := by decide +kernel
theorem dX4_perform_74 : decode cX4_perform 74 = .ok (.iinc 4 1, 3) := by decide +kernel
theorem dX4_perform_77 : decode cX4_perform 77 = .ok (.goto (-67), 3) := by decide +kernel
theorem dX4_perform_80 : decode cX4_perform 80 = .ok (.iconst 0, 1) := by decide +kernel
theorem dX4_perform_81 : decode cX4_perform 81 = .ok (.istore 4, 2) := by decide +kernel
theorem dX4_perform_83 : decode cX4_perform 83 = .ok (.iload 4, 2) := by decide +kernel
theorem dX4_perform_85 : decode cX4_perform 85 = .ok (.aload_n 1, 1) := by decide +kernel
theorem dX4_perform_86 : decode cX4_perform 86 = .ok (.getfield 18, 3) := by decide +kernel
theorem dX4_perform_89 : decode cX4_perform 89 = .ok (.if_icmp .ge 51, 3) := by decide +kernel
theorem dX4_perform_92 : decode cX4_perform 92 = .ok (.iload_n 3, 1) := by decide +kernel
theorem dX4_perform_93 : decode cX4_perform 93 = .ok (.iload 4, 2) := by decide +kernel
theorem dX4_perform_95 : decode cX4_perform 95 = .ok (.invokestatic 76, 3) := by decide +kernel
theorem dX4_perform_98 : decode cX4_perform 98 = .ok (.ifCond .eq 7, 3) := by decide +kernel
theorem dX4_perform_101 : decode cX4_perform 101 = .ok (.iconst 1, 1) := by decide +kernel
theorem dX4_perform_102 : decode cX4_perform 102 = .ok (.goto 4, 3) := by decide +kernel
theorem dX4_perform_105 : decode cX4_perform 105 = .ok (.iconst (-1), 1) := by decide +kernel
theorem dX4_perform_106 : decode cX4_perform 106 = .ok (.istore 5, 2) := by decide +kernel
theorem dX4_perform_108 : decode cX4_perform 108 = .ok (.aload_n 1, 1) := by decide +kernel
theorem dX4_perform_109 : decode cX4_perform 109 = .ok (.getfield 80, 3) := by decide +kernel
theorem dX4_perform_112 : decode cX4_perform 112 = .ok (.iload 4, 2) := by decide +kernel
theorem dX4_perform_114 : decode cX4_perform 114 = .ok (.iconst 0, 1) := by decide +kernel
theorem dX4_perform_115 : decode cX4_perform 115 = .ok (.bipush 9, 2) := by decide +kernel
theorem dX4_perform_117 : decode cX4_perform 117 = .ok (.aload_n 1, 1) := by decide +kernel
theorem dX4_perform_118 : decode cX4_perform 118 = .ok (.getfield 80, 3) := by decide +kernel
theorem dX4_perform_121 : decode cX4_perform 121 = .ok (.iload 4, 2) := by decide +kernel
theorem dX4_perform_123 : decode cX4_perform 123 = .ok (.iaload, 1) := by decide +kernel
theorem dX4_perform_124 : decode cX4_perform 124 = .ok (.iload 5, 2) := by decide +kernel
theorem dX4_perform_126 : decode cX4_perform 126 = .ok (.iadd, 1) := by decide +kernel
theorem dX4_perform_127 : decode cX4_perform 127 = .ok (.invokestatic 96, 3) := by decide +kernel
theorem dX4_perform_130 : decode cX4_perform 130 = .ok (.invokestatic 101, 3) := by decide +kernel
theorem dX4_perform_133 : decode cX4_perform 133 = .ok (.iastore, 1) := by decide +kernel
theorem dX4_perform_134 : decode cX4_perform 134 = .ok (.iinc 4 1, 3) := by decide +kernel
theorem dX4_perform_137 : decode cX4_perform 137 = .ok (.goto (-54), 3) := by decide +kernel
theorem dX4_perform_140 : decode cX4_perform 140 = .ok (.aload_n 1, 1) := by decide +kernel
theorem dX4_perform_141 : decode cX4_perform 141 = .ok (.ldc 104, 2) := by decide +kernel
theorem dX4_perform_143 : decode cX4_perform 143 = .ok (.aload_n 1, 1) := by decide +kernel
theorem dX4_perform_144 : decode cX4_perform 144 = .ok (.getfield 105, 3) := by decide +kernel
theorem dX4_perform_147 : decode cX4_perform 147 = .ok (.iconst 1, 1) := by decide +kernel
theorem dX4_perform_148 : decode cX4_perform 148 = .ok (.iadd, 1) := by decide +kernel
theorem dX4_perform_149 : decode cX4_perform 149 = .ok (.invokestatic 96, 3) := by decide +kernel
theorem dX4_perform_152 : decode cX4_perform 152 = .ok (.putfield 105, 3) := by decide +kernel
theorem dX4_perform_155 : decode cX4_perform 155 = .ok (.iload_n 3, 1) := by decide +kernel
theorem dX4_perform_156 : decode cX4_perform 156 = .ok (.ireturn, 1) := by decide +kernel
theorem dX4_collect_0 : decode cX4_collect 0 = .ok (.iload_n 3, 1) := by decide +kernel
theorem dX4_collect_1 : decode cX4_collect 1 = .ok (.aload_n 1, 1) := by decide +kernel
theorem dX4_collect_2 : decode cX4_collect 2 = .ok (.getfield 31, 3) := by decide +kernel
theorem dX4_collect_5 : decode cX4_collect 5 = .ok (.iload_n 2, 1) := by decide +kernel
theorem dX4_collect_6 : decode cX4_collect 6 = .ok (.iaload, 1) := by decide +kernel
theorem dX4_collect_7 : decode cX4_collect 7 = .ok (.ldc 108, 2) := by decide +kernel
theorem dX4_collect_9 : decode cX4_collect 9 = .ok (.aload_n 1, 1) := by decide +kernel
theorem dX4_collect_10 : decode cX4_collect 10 = .ok (.getfield 109, 3) := by decide +kernel
theorem dX4_collect_13 : decode cX4_collect 13 = .ok (.isub, 1) := by decide +kernel
theorem dX4_collect_14 : decode cX4_collect 14 = .ok (.invokestatic 96, 3) := by decide +kernel
theorem dX4_collect_17 : decode cX4_collect 17 = .ok (.invokestatic 96, 3) := by decide +kernel
theorem dX4_collect_20 : decode cX4_collect 20 = .ok (.istore 4, 2) := by decide +kernel
theorem dX4_collect_22 : decode cX4_collect 22 = .ok (.aload_n 1, 1) := by decide +kernel
theorem dX4_collect_23 : decode cX4_collect 23 = .ok (.getfield 31, 3) := by decide +kernel
theorem dX4_collect_26 : decode cX4_collect 26 = .ok (.iload_n 2, 1) := by decide +kernel
theorem dX4_collect_27 : decode cX4_collect 27 = .ok (.dup2, 1) := by decide +kernel
theorem dX4_collect_28 : decode cX4_collect 28 = .ok (.iaload, 1) := by decide +kernel
theorem dX4_collect_29 : decode cX4_collect 29 = .ok (.iload 4, 2) := by decide +kernel
theorem dX4_collect_31 : decode cX4_collect 31 = .ok (.isub, 1) := by decide +kernel
theorem dX4_collect_32 : decode cX4_collect 32 = .ok (.iastore, 1) := by decide +kernel
theorem dX4_collect_33 : decode cX4_collect 33 = .ok (.aload_n 1, 1) := by decide +kernel
theorem dX4_collect_34 : decode cX4_collect 34 = .ok (.dup, 1) := by decide +kernel
theorem dX4_collect_35 : decode cX4_collect 35 = .ok (.getfield 109, 3) := by decide +kernel
theorem dX4_collect_38 : decode cX4_collect 38 = .ok (.iload 4, 2) := by decide +kernel
theorem dX4_collect_40 : decode cX4_collect 40 = .ok (.iadd, 1) := by decide +kernel
theorem dX4_collect_41 : decode cX4_collect 41 = .ok (.putfield 109, 3) := by decide +kernel
theorem dX4_collect_44 : decode cX4_collect 44 = .ok (.iload 4, 2) := by decide +kernel
theorem dX4_collect_46 : decode cX4_collect 46 = .ok (.ireturn, 1) := by decide +kernel
theorem dX4_performOften_0 : decode cX4_performOften 0 = .ok (.iconst 0, 1) := by decide +kernel
theorem dX4_performOften_1 : decode cX4_performOften 1 = .ok (.istore 4, 2) := by decide +kernel
theorem dX4_performOften_3 : decode cX4_performOften 3 = .ok (.iload 4, 2) := by decide +kernel
theorem dX4_performOften_5 : decode cX4_performOften 5 = .ok (.iload_n 3, 1) := by decide +kernel
theorem dX4_performOften_6 : decode cX4_performOften 6 = .ok (.if_icmp .ge 16, 3) := by decide +kernel
theorem dX4_performOften_9 : decode cX4_performOften 9 = .ok (.aload_n 0, 1) := by decide +kernel
theorem dX4_performOften_10 : decode cX4_performOften 10 = .ok (.aload_n 1, 1) := by decide +kernel
theorem dX4_performOften_11 : decode cX4_performOften 11 = .ok (.iload_n 2, 1) := by decide +kernel
theorem dX4_performOften_12 : decode cX4_performOften 12 = .ok (.invokevirtual 112, 3) := by decide +kernel
theorem dX4_performOften_15 : decode cX4_performOften 15 = .ok (.pop, 1) := by decide +kernel
theorem dX4_performOften_16 : decode cX4_performOften 16 = .ok (.iinc 4 1, 3) := by decide +kernel
theorem dX4_performOften_19 : decode cX4_performOften 19 = .ok (.goto (-16), 3) := by decide +kernel
theorem dX4_performOften_22 : decode cX4_performOften 22 = .ok (.aload_n 1, 1) := by decide +kernel
theorem dX4_performOften_23 : decode cX4_performOften 23 = .ok (.getfield 109, 3) := by decide +kernel
theorem dX4_performOften_26 : decode cX4_performOften 26 = .ok (.ireturn, 1) := by decide +kernel
theorem dJ6_bitCount_0f7a4_0 : decode cJ6_bitCount_0f7a4 0 = .ok (.iload_n 0, 1) := by decide +kernel
theorem dJ6_bitCount_0f7a4_1 : decode cJ6_bitCount_0f7a4 1 = .ok (.iload_n 0, 1) := by decide +kernel
theorem dJ6_bitCount_0f7a4_2 : decode cJ6_bitCount_0f7a4 2 = .ok (.iconst 1, 1) := by decide +kernel
theorem dJ6_bitCount_0f7a4_3 : decode cJ6_bitCount_0f7a4 3 = .ok (.iushr, 1) := by decide +kernel
theorem dJ6_bitCount_0f7a4_4 : decode cJ6_bitCount_0f7a4 4 = .ok (.ldc_w 265, 3) := by decide +kernel
theorem dJ6_bitCount_0f7a4_7 : decode cJ6_bitCount_0f7a4 7 = .ok (.iand, 1) := by decide +kernel
theorem dJ6_bitCount_0f7a4_8 : decode cJ6_bitCount_0f7a4 8 = .ok (.isub, 1) := by decide +kernel
theorem dJ6_bitCount_0f7a4_9 : decode cJ6_bitCount_0f7a4 9 = .ok (.istore_n 0, 1) := by decide +kernel
theorem dJ6_bitCount_0f7a4_10 : decode cJ6_bitCount_0f7a4 10 = .ok (.iload_n 0, 1) := by decide +kernel
theorem dJ6_bitCount_0f7a4_11 : decode cJ6_bitCount_0f7a4 11 = .ok (.ldc_w 266, 3) := by decide +kernel
theorem dJ6_bitCount_0f7a4_14 : decode cJ6_bitCount_0f7a4 14 = .ok (.iand, 1) := by decide +kernel
theorem dJ6_bitCount_0f7a4_15 : decode cJ6_bitCount_0f7a4 15 = .ok (.iload_n 0, 1) := by decide +kernel
theorem dJ6_bitCount_0f7a4_16 : decode cJ6_bitCount_0f7a4 16 = .ok (.iconst 2, 1) := by decide +kernel
theorem dJ6_bitCount_0f7a4_17 : decode cJ6_bitCount_0f7a4 17 = .ok (.iushr, 1) := by decide +kernel
theorem dJ6_bitCount_0f7a4_18 : decode cJ6_bitCount_0f7a4 18 = .ok (.ldc_w 266, 3) := by decide +kernel
theorem dJ6_bitCount_0f7a4_21 : decode cJ6_bitCount_0f7a4 21 = .ok (.iand, 1) := by decide +kernel
theorem dJ6_bitCount_0f7a4_22 : decode cJ6_bitCount_0f7a4 22 = .ok (.iadd, 1) := by decide +kernel
theorem dJ6_bitCount_0f7a4_23 : decode cJ6_bitCount_0f7a4 23 = .ok (.istore_n 0, 1) := by decide +kernel
theorem dJ6_bitCount_0f7a4_24 : decode cJ6_bitCount_0f7a4 24 = .ok (.iload_n 0, 1) := by decide +kernel
theorem dJ6_bitCount_0f7a4_25 : decode cJ6_bitCount_0f7a4 25 = .ok (.iload_n 0, 1) := by decide +kernel
theorem dJ6_bitCount_0f7a4_26 : decode cJ6_bitCount_0f7a4 26 = .ok (.iconst 4, 1) := by decide +kernel
theorem dJ6_bitCount_0f7a4_27 : decode cJ6_bitCount_0f7a4 27 = .ok (.iushr, 1) := by decide +kernel
theorem dJ6_bitCount_0f7a4_28 : decode cJ6_bitCount_0f7a4 28 = .ok (.iadd, 1) := by decide +kernel
theorem dJ6_bitCount_0f7a4_29 : decode cJ6_bitCount_0f7a4 29 = .ok (.ldc_w 267, 3) := by decide +kernel
theorem dJ6_bitCount_0f7a4_32 : decode cJ6_bitCount_0f7a4 32 = .ok (.iand, 1) := by decide +kernel
theorem dJ6_bitCount_0f7a4_33 : decode cJ6_bitCount_0f7a4 33 = .ok (.istore_n 0, 1) := by decide +kernel
theorem dJ6_bitCount_0f7a4_34 : decode cJ6_bitCount_0f7a4 34 = .ok (.iload_n 0, 1) := by decide +kernel
theorem dJ6_bitCount_0f7a4_35 : decode cJ6_bitCount_0f7a4 35 = .ok (.iload_n 0, 1) := by decide +kernel
theorem dJ6_bitCount_0f7a4_36 : decode cJ6_bitCount_0f7a4 36 = .ok (.bipush 8, 2) := by decide +kernel
theorem dJ6_bitCount_0f7a4_38 : decode cJ6_bitCount_0f7a4 38 = .ok (.iushr, 1) := by decide +kernel
theorem dJ6_bitCount_0f7a4_39 : decode cJ6_bitCount_0f7a4 39 = .ok (.iadd, 1) := by decide +kernel
theorem dJ6_bitCount_0f7a4_40 : decode cJ6_bitCount_0f7a4 40 = .ok (.istore_n 0, 1) := by decide +kernel
theorem dJ6_bitCount_0f7a4_41 : decode cJ6_bitCount_0f7a4 41 = .ok (.iload_n 0, 1) := by decide +kernel
theorem dJ6_bitCount_0f7a4_42 : decode cJ6_bitCount_0f7a4 42 = .ok (.iload_n 0, 1) := by decide +kernel
theorem dJ6_bitCount_0f7a4_43 : decode cJ6_bitCount_0f7a4 43 = .ok (.bipush 16, 2) := by decide +kernel
theorem dJ6_bitCount_0f7a4_45 : decode cJ6_bitCount_0f7a4 45 = .ok (.iushr, 1) := by decide +kernel
theorem dJ6_bitCount_0f7a4_46 : decode cJ6_bitCount_0f7a4 46 = .ok (.iadd, 1) := by decide +kernel
theorem dJ6_bitCount_0f7a4_47 : decode cJ6_bitCount_0f7a4 47 = .ok (.istore_n 0, 1) := by decide +kernel
theorem dJ6_bitCount_0f7a4_48 : decode cJ6_bitCount_0f7a4 48 = .ok (.iload_n 0, 1) := by decide +kernel
theorem dJ6_bitCount_0f7a4_49 : decode cJ6_bitCount_0f7a4 49 = .ok (.bipush 63, 2) := by decide +kernel
theorem dJ6_bitCount_0f7a4_51 : decode cJ6_bitCount_0f7a4 51 = .ok (.iand, 1) := by decide +kernel
theorem dJ6_bitCount_0f7a4_52 : decode cJ6_bitCount_0f7a4 52 = .ok (.ireturn, 1) := by decide +kernel
theorem dJ9_abs_0f7a4_0 : decode cJ9_abs_0f7a4 0 = .ok (.iload_n 0, 1) := by decide +kernel
theorem dJ9_abs_0f7a4_1 : decode cJ9_abs_0f7a4 1 = .ok (.ifCond .ge 8, 3) := by decide +kernel
theorem dJ9_abs_0f7a4_4 : decode cJ9_abs_0f7a4 4 = .ok (.iload_n 0, 1) := by decide +kernel
theorem dJ9_abs_0f7a4_5 : decode cJ9_abs_0f7a4 5 = .ok (.ineg, 1) := by decide +kernel
theorem dJ9_abs_0f7a4_6 : decode cJ9_abs_0f7a4 6 = .ok (.goto 4, 3) := by decide +kernel
theorem dJ9_abs_0f7a4_9 : decode cJ9_abs_0f7a4 9 = .ok (.iload_n 0, 1) := by decide +kernel
theorem dJ9_abs_0f7a4_10 : decode cJ9_abs_0f7a4 10 = .ok (.ireturn, 1) := by decide +kernel
theorem dJ9_max_7cf53_0 : decode cJ9_max_7cf53 0 = .ok (.iload_n 0, 1) := by decide +kernel
theorem dJ9_max_7cf53_1 : decode cJ9_max_7cf53 1 = .ok (.iload_n 1, 1) := by decide +kernel
theorem dJ9_max_7cf53_2 : decode cJ9_max_7cf53 2 = .ok (.if_icmp .lt 7, 3) := by decide +kernel
theorem dJ9_max_7cf53_5 : decode cJ9_max_7cf53 5 = .ok (.iload_n 0, 1) := by decide +kernel
theorem dJ9_max_7cf53_6 : decode cJ9_max_7cf53 6 = .ok (.goto 4, 3) := by decide +kernel
theorem dJ9_max_7cf53_9 : decode cJ9_max_7cf53 9 = .ok (.iload_n 1, 1) := by decide +kernel
theorem dJ9_max_7cf53_10 : decode cJ9_max_7cf53 10 = .ok (.ireturn, 1) := by decide +kernel
theorem dJ9_min_7cf53_0 : decode cJ9_min_7cf53 0 = .ok (.iload_n 0, 1) := by decide +kernel
theorem dJ9_min_7cf53_1 : decode cJ9_min_7cf53 1 = .ok (.iload_n 1, 1) := by decide +kernel
theorem dJ9_min_7cf53_2 : decode cJ9_min_7cf53 2 = .ok (.if_icmp .gt 7, 3) := by decide +kernel
theorem dJ9_min_7cf53_5 : decode cJ9_min_7cf53 5 = .ok (.iload_n 0, 1) := by decide +kernel
theorem dJ9_min_7cf53_6 : decode cJ9_min_7cf53 6 = .ok (.goto 4, 3) := by decide +kernel
theorem dJ9_min_7cf53_9 : decode cJ9_min_7cf53 9 = .ok (.iload_n 1, 1) := by decide +kernel
theorem dJ9_min_7cf53_10 : decode cJ9_min_7cf53 10 = .ok (.ireturn, 1) := by decide +kernel
theorem dJ0_length_8abf5_0 : decode cJ0_length_8abf5 0 = .ok (.aload_n 0, 1) := by decide +kernel
theorem dJ0_length_8abf5_1 : decode cJ0_length_8abf5 1 = .ok (.getfield 9, 3) := by decide +kernel
theorem dJ0_length_8abf5_4 : decode cJ0_length_8abf5 4 = .ok (.arraylength, 1) := by decide +kernel
theorem dJ0_length_8abf5_5 : decode cJ0_length_8abf5 5 = .ok (.aload_n 0, 1) := by decide +kernel
theorem dJ0_length_8abf5_6 : decode cJ0_length_8abf5 6 = .ok (.invokevirtual 335, 3) := by decide +kernel
theorem dJ0_length_8abf5_9 : decode cJ0_length_8abf5 9 = .ok (.ishr, 1) := by decide +kernel
theorem dJ0_length_8abf5_10 : decode cJ0_length_8abf5 10 = .ok (.ireturn, 1) := by decide +kernel
theorem dJ0_charAt_5068e_0 : decode cJ0_charAt_5068e 0 = .ok (.aload_n 0, 1) := by decide +kernel
theorem dJ0_charAt_5068e_1 : decode cJ0_charAt_5068e 1 = .ok (.invokevirtual 492, 3) := by decide +kernel
theorem dJ0_charAt_5068e_4 : decode cJ0_charAt_5068e 4 = .ok (.ifCond .eq 12, 3) := by decide +kernel
theorem dJ0_charAt_5068e_7 : decode cJ0_charAt_5068e 7 = .ok (.aload_n 0, 1) := by decide +kernel
theorem dJ0_charAt_5068e_8 : decode cJ0_charAt_5068e 8 = .ok (.getfield 9, 3) := by decide +kernel
theorem dJ0_charAt_5068e_11 : decode cJ0_charAt_5068e 11 = .ok (.iload_n 1, 1) := by decide +kernel
theorem dJ0_charAt_5068e_12 : decode cJ0_charAt_5068e 12 = .ok (.invokestatic 495, 3) := by decide +kernel
theorem dJ0_charAt_5068e_15 : decode cJ0_charAt_5068e 15 = .ok (.ireturn, 1) := by decide +kernel
theorem dJ0_charAt_5068e_16 : decode cJ0_charAt_5068e 16 = .ok (.aload_n 0, 1) := by decide +kernel
theorem dJ0_charAt_5068e_17 : decode cJ0_charAt_5068e 17 = .ok (.getfield 9, 3) := by decide +kernel
theorem dJ0_charAt_5068e_20 : decode cJ0_charAt_5068e 20 = .ok (.iload_n 1, 1) := by decide +kernel
theorem dJ0_charAt_5068e_21 : decode cJ0_charAt_5068e 21 = .ok (.invokestatic 498, 3) := by decide +kernel
theorem dJ0_charAt_5068e_24 : decode cJ0_charAt_5068e 24 = .ok (.ireturn, 1) := by decide +kernel
theorem dJ0_coder_7d493_0 : decode cJ0_coder_7d493 0 = .ok (.getstatic 38, 3) := by decide +kernel
theorem dJ0_coder_7d493_3 : decode cJ0_coder_7d493 3 = .ok (.ifCond .eq 10, 3) := by decide +kernel
theorem dJ0_coder_7d493_6 : decode cJ0_coder_7d493 6 = .ok (.aload_n 0, 1) := by decide +kernel
theorem dJ0_coder_7d493_7 : decode cJ0_coder_7d493 7 = .ok (.getfield 15, 3) := by decide +kernel
theorem dJ0_coder_7d493_10 : decode cJ0_coder_7d493 10 = .ok (.goto 4, 3) := by decide +kernel
theorem dJ0_coder_7d493_13 : decode cJ0_coder_7d493 13 = .ok (.iconst 1, 1) := by decide +kernel
theorem dJ0_coder_7d493_14 : decode cJ0_coder_7d493 14 = .ok (.ireturn, 1) := by decide +kernel
theorem dJ0_isLatin1_aae02_0 : decode cJ0_isLatin1_aae02 0 = .ok (.getstatic 38, 3) := by decide +kernel
theorem dJ0_isLatin1_aae02_3 : decode cJ0_isLatin1_aae02 3 = .ok (.ifCond .eq 14, 3) := by decide +kernel
theorem dJ0_isLatin1_aae02_6 : decode cJ0_isLatin1_aae02 6 = .ok (.aload_n 0, 1) := by decide +kernel
theorem dJ0_isLatin1_aae02_7 : decode cJ0_isLatin1_aae02 7 = .ok (.getfield 15, 3) := by decide +kernel
theorem dJ0_isLatin1_aae02_10 : decode cJ0_isLatin1_aae02 10 = .ok (.ifCond .ne 7, 3) := by decide +kernel
theorem dJ0_isLatin1_aae02_13 : decode cJ0_isLatin1_aae02 13 = .ok (.iconst 1, 1) := by decide +kernel
theorem dJ0_isLatin1_aae02_14 : decode cJ0_isLatin1_aae02 14 = .ok (.goto 4, 3) := by decide +kernel
theorem dJ0_isLatin1_aae02_17 : decode cJ0_isLatin1_aae02 17 = .ok (.iconst 0, 1) := by decide +kernel
theorem dJ0_isLatin1_aae02_18 : decode cJ0_isLatin1_aae02 18 = .ok (.ireturn, 1) := by decide +kernel
theorem dJ0_checkIndex_df160_0 : decode cJ0_checkIndex_df160 0 = .ok (.iload_n 0, 1) := by decide +kernel
theorem dJ0_checkIndex_df160_1 : decode cJ0_checkIndex_df160 1 = .ok (.iload_n 1, 1) := by decide +kernel
theorem dJ0_checkIndex_df160_2 : decode cJ0_checkIndex_df160 2 = .ok (.getstatic 1053, 3) := by decide +kernel
theorem dJ0_checkIndex_df160_5 : decode cJ0_checkIndex_df160 5 = .ok (.invokestatic 1059, 3) := by decide +kernel
theorem dJ0_checkIndex_df160_8 : decode cJ0_checkIndex_df160 8 = .ok (.pop, 1) := by decide +kernel
theorem dJ0_checkIndex_df160_9 : decode cJ0_checkIndex_df160 9 = .ok (.return_, 1) := by decide +kernel
theorem dJ1_charAt_3b067_0 : decode cJ1_charAt_3b067 0 = .ok (.iload_n 1, 1) := by decide +kernel
theorem dJ1_charAt_3b067_1 : decode cJ1_charAt_3b067 1 = .ok (.aload_n 0, 1) := by decide +kernel
theorem dJ1_charAt_3b067_2 : decode cJ1_charAt_3b067 2 = .ok (.arraylength, 1) := by decide +kernel
theorem dJ1_charAt_3b067_3 : decode cJ1_charAt_3b067 3 = .ok (.invokestatic 9, 3) := by decide +kernel
theorem dJ1_charAt_3b067_6 : decode cJ1_charAt_3b067 6 = .ok (.aload_n 0, 1) := by decide +kernel
theorem dJ1_charAt_3b067_7 : decode cJ1_charAt_3b067 7 = .ok (.iload_n 1, 1) := by decide +kernel
theorem dJ1_charAt_3b067_8 : decode cJ1_charAt_3b067 8 = .ok (.baload, 1) := by decide +kernel
theorem dJ1_charAt_3b067_9 : decode cJ1_charAt_3b067 9 = .ok (.sipush 255, 3) := by decide +kernel
theorem dJ1_charAt_3b067_12 : decode cJ1_charAt_3b067 12 = .ok (.iand, 1) := by decide +kernel
theorem dJ1_charAt_3b067_13 : decode cJ1_charAt_3b067 13 = .ok (.i2c, 1) := by decide +kernel
theorem dJ1_charAt_3b067_14 : decode cJ1_charAt_3b067 14 = .ok (.ireturn, 1) := by decide +kernel
theorem dJ3_checkIndex_8e157_0 : decode cJ3_checkIndex_8e157 0 = .ok (.iload_n 0, 1) := by decide +kernel
theorem dJ3_checkIndex_8e157_1 : decode cJ3_checkIndex_8e157 1 = .ok (.ifCond .lt 8, 3) := by decide +kernel
theorem dJ3_checkIndex_8e157_4 : decode cJ3_checkIndex_8e157 4 = .ok (.iload_n 0, 1) := by decide +kernel
theorem dJ3_checkIndex_8e157_5 : decode cJ3_checkIndex_8e157 5 = .ok (.iload_n 1, 1) := by decide +kernel
theorem dJ3_checkIndex_8e157_6 : decode cJ3_checkIndex_8e157 6 = .ok (.if_icmp .lt 10, 3) := by decide +kernel
theorem dJ3_checkIndex_8e157_9 : decode cJ3_checkIndex_8e157 9 = .ok (.aload_n 2, 1) := by decide +kernel
theorem dJ3_checkIndex_8e157_10 : decode cJ3_checkIndex_8e157 10 = .ok (.iload_n 0, 1) := by decide +kernel
theorem dJ3_checkIndex_8e157_11 : decode cJ3_checkIndex_8e157 11 = .ok (.iload_n 1, 1) := by decide +kernel
theorem dJ3_checkIndex_8e157_12 : decode cJ3_checkIndex_8e157 12 = .ok (.invokestatic 95, 3) := by decide +kernel
theorem dJ3_checkIndex_8e157_15 : decode cJ3_checkIndex_8e157 15 = .ok (.athrow, 1) := by decide +kernel
theorem dJ3_checkIndex_8e157_16 : decode cJ3_checkIndex_8e157 16 = .ok (.iload_n 0, 1) := by decide +kernel
theorem dJ3_checkIndex_8e157_17 : decode cJ3_checkIndex_8e157 17 = .ok (.ireturn, 1) := by decide +kernel
end
section
/-! words of the tables that every method may use -/
def okWord : Cond → Bool
  | .fieldLinkNest .. => true
  | .methodLinkNest .. => true
  | w => goodWord w
def TB : List Cond := lw_tbl.filter okWord
theorem warm_ok {s U : State} {args a' : Array Value} {w : Cond} (hk : okWord w = true) (hW : s.WarmedH U.vm) (h : w.before args s = true) : w.before a' U = true := by
  cases w
  case fieldLinkNest => exact va_Nw.use rfl (va_Nw.warmF hW (va_Nw.of rfl h))
  case methodLinkNest => exact va_Nw.use rfl (va_Nw.warmM hW (va_Nw.of rfl h))
  all_goals exact word_at hW (good_of_word hk) h
theorem tb_t {w : Cond} (i : Nat) (h : tables_1[i]? = some w) (hk : okWord w = true) : w ∈ TB := List.mem_filter.mpr ⟨List.mem_append_right _ (List.mem_of_getElem? h), hk⟩
theorem tb_s {w : Cond} (i : Nat) (h : (k2_sels lw_privs)[i]? = some w) (hk : okWord w = true) : w ∈ TB := List.mem_filter.mpr ⟨List.mem_append_left _ (List.mem_of_getElem? h), hk⟩
theorem tb_warm {s U : State} {args a' : Array Value} (h : ∀ w ∈ TB, w.before args s = true) (hW : s.WarmedH U.vm) : ∀ w ∈ TB, w.before a' U = true := fun w hw => warm_ok (List.mem_filter.mp hw).2 hW (h w hw)
/-! the memory: rows of ints -/
abbrev Mem : Type := Nat → Nat → Int32
def up2 (σ : Mem) (k i : Nat) (v : Int32) : Mem := fun q => if q = k then upd (σ k) i v else σ q
def upR (σ : Mem) (k : Nat) (f : Nat → Int32) : Mem := fun q => if q = k then f else σ q
theorem up2_R (σ : Mem) (k i : Nat) (v : Int32) : up2 σ k i v = upR σ k (upd (σ k) i v) := rfl
theorem upR_s {σ : Mem} {k : Nat} {f : Nat → Int32} : upR σ k f k = f := if_pos rfl
theorem upR_n {σ : Mem} {k q : Nat} {f : Nat → Int32} (h : q ≠ k) : upR σ k f q = σ q := if_neg h
/-- a cell's shape: a row (0 ints, 1 bytes, 2 references to cells base, base + 2, ..; its length; base), or an object (its class, its fields: none an int, some q a reference to cell q) -/
abbrev Shp : Type := (Nat × Nat × Nat) ⊕ (Nat × List (Option Nat))
def fv (ad : Nat → Nat) (row : Nat → Int32) (j : Nat) (f : Option Nat) : Value := match f with
  | none => .int (row j)
  | some q => .ref (ad q)
/-- the world's parameters: tables, the classes of int, byte and Sheet rows, the addresses, the least address that is ours, what else stands on the heap, the addresses of String constants and their rows, of ABOVE -/
abbrev WE : Type := va_G × (ClassId × ClassId × ClassId) × (Nat → Nat) × Nat × va_W × (Nat → Nat) × (Nat → Nat) × Nat
abbrev wD (w : WE) : va_G := w.1
abbrev wI (w : WE) : ClassId := w.2.1.1
abbrev wB (w : WE) : ClassId := w.2.1.2.1
abbrev wO (w : WE) : ClassId := w.2.1.2.2
abbrev wad (w : WE) : Nat → Nat := w.2.2.1
abbrev wa0 (w : WE) : Nat := w.2.2.2.1
abbrev wrest (w : WE) : va_W := w.2.2.2.2.1
abbrev wK (w : WE) : Nat → Nat := w.2.2.2.2.2.1
abbrev wV (w : WE) : Nat → Nat := w.2.2.2.2.2.2.1
abbrev wT (w : WE) : Nat := w.2.2.2.2.2.2.2
def ent (w : WE) (sh : Shp) (row : Nat → Int32) : va_E := match sh with
  | .inl (0, n, _) => .inl (wI w, n, .inl row)
  | .inl (1, n, _) => .inl (wB w, n, .inl row)
  | .inl (_ + 2, n, b) => .inl (wO w, n, .inr (.inr (.inr (.inr (fun j => some (wad w (b + 2 * j)))))))
  | .inr (ci, fs) => .inr (ci, fs.mapIdx (fv (wad w) row))
def wM (w : WE) (sh : List Shp) (σ : Mem) : va_W := sh.mapIdx (fun k s => (wad w k, ent w s (σ k)))
def Wl (w : WE) (sh : List Shp) (σ : Mem) : va_W := wM w sh σ ++ wrest w
def Wd (w : WE) (sh : List Shp) (σ : Mem) (H : Heap) : Prop := va_P (wD w) vwCl (Wl w sh σ) H
abbrev AA (w : WE) : Nat → Prop := fun q => wa0 w ≤ q
abbrev tysW (w : WE) : List (ClassId × FieldType) := [(wI w, .int), (wB w, .byte), (wO w, .object "LaughTax$Sheet")]
theorem wM_len (w : WE) (sh : List Shp) (σ : Mem) : (wM w sh σ).length = sh.length := List.length_mapIdx
theorem wM_at {w : WE} {sh : List Shp} {σ : Mem} {k : Nat} {s : Shp} (h : sh[k]? = some s) : (Wl w sh σ)[k]? = some (wad w k, ent w s (σ k)) := by
  have hk : k < sh.length := (List.getElem?_eq_some_iff.mp h).1
  rw [Wl, List.getElem?_append_left (by rw [wM_len]; exact hk), wM, List.getElem?_mapIdx, h]
  rfl
theorem wM_set {w : WE} {sh : List Shp} {σ : Mem} {k : Nat} {s : Shp} (h : sh[k]? = some s) {f : Nat → Int32} {e : va_E} (he : e = ent w s f) : (Wl w sh σ).set k (wad w k, e) = Wl w sh (upR σ k f) := by
  have hk : k < sh.length := (List.getElem?_eq_some_iff.mp h).1
  rw [Wl, List.set_append_left _ _ (by rw [wM_len]; exact hk), Wl]
  congr 1
  apply List.ext_getElem?
  intro i
  rw [List.getElem?_set, wM, wM, List.getElem?_mapIdx, List.getElem?_mapIdx, List.length_mapIdx]
  by_cases hi : k = i
  · subst hi
    rw [if_pos rfl, if_pos hk, h, he, upR_s]
    rfl
  · rw [if_neg hi, upR_n (Ne.symm hi)]
theorem fv_set {ad : Nat → Nat} {row : Nat → Int32} {fs : List (Option Nat)} {j : Nat} {v : Int32} (h : fs[j]? = some none) : (fs.mapIdx (fv ad row)).set j (.int v) = fs.mapIdx (fv ad (upd row j v)) := by
  have hj : j < fs.length := (List.getElem?_eq_some_iff.mp h).1
  apply List.ext_getElem?
  intro i
  rw [List.getElem?_set, List.getElem?_mapIdx, List.getElem?_mapIdx, List.length_mapIdx]
  by_cases hi : j = i
  · subst hi
    rw [if_pos rfl, if_pos hj, h]
    show _ = some (Value.int (upd row j v j))
    rw [pk_us]
  · rw [if_neg hi]
    cases hq : fs[i]? with
    | none => rfl
    | some o => cases o with
      | none => show some (Value.int (row i)) = some (Value.int (upd row j v i)); rw [pk_un (Ne.symm hi)]
      | some q => rfl
/-! String constants and statics: what stands on the heap before us -/
/-- a method's own world, whatever the memory holds -/
def OkW (w : WE) (sh : List Shp) : Prop := va_D (AA w) (Wl w sh (fun _ _ => 0))
theorem wM_D {w : WE} {sh : List Shp} {σ τ : Mem} {A : Nat → Prop} (h : va_D A (Wl w sh σ)) : va_D A (Wl w sh τ) := by
  have key : ∀ (k : Nat) (q : Nat × va_E), (Wl w sh τ)[k]? = some q → ∃ q0, (Wl w sh σ)[k]? = some q0 ∧ q0.1 = q.1 := by
    intro k q hk
    rw [Wl, List.getElem?_append, wM_len] at hk
    rw [Wl, List.getElem?_append, wM_len]
    by_cases hl : k < sh.length
    · rw [if_pos hl, wM, List.getElem?_mapIdx] at hk
      rw [if_pos hl, wM, List.getElem?_mapIdx]
      cases hs : sh[k]? with
      | none => rw [hs] at hk; cases hk
      | some s => rw [hs] at hk; cases hk; exact ⟨_, rfl, rfl⟩
    · rw [if_neg hl] at hk
      rw [if_neg hl]
      exact ⟨q, hk, rfl⟩
  refine ⟨fun i j x y hi hj hxy => ?_, fun k q hk => ?_⟩
  · obtain ⟨x0, h1, h2⟩ := key i x hi
    obtain ⟨y0, h3, h4⟩ := key j y hj
    exact h.1 i j x0 y0 h1 h3 (h2.trans (hxy.trans h4.symm))
  · obtain ⟨q0, h1, h2⟩ := key k q hk
    rw [← h2]
    exact h.2 k q0 h1
theorem OkW.D {w : WE} {sh : List Shp} (h : OkW w sh) (σ : Mem) : va_D (AA w) (Wl w sh σ) := wM_D h
end
section
/-! what stands on the heap before us: String constants, the row ABOVE, the JDK's statics -/
def abv (j : Nat) : Int32 := ([-1, 0, 0, 2, 3, 0, 1] : List Int32).getD j 0
def strs : List (List Int32) := [[104, 101, 97, 114, 101, 114], [115, 116, 114, 97, 105, 103, 104, 116], [103, 105, 103, 103, 108, 101, 114], [97, 117, 110, 116], [102, 111, 111, 108], [99, 104, 105, 108, 100], [105, 110, 115, 112, 101, 99, 116, 111, 114], [106, 111, 107, 101], [114, 97, 116, 101], [114, 101, 97, 99, 104], [111, 110], [116, 97, 115, 116, 101], [109, 111, 111, 100], [112, 117, 114, 115, 101], [59]]
def strL (i : Nat) : Nat := (strs.getD i []).length
def strC (i k : Nat) : Int32 := (strs.getD i []).getD k 0
def strTab : List (String × Nat × String × Nat) := [("LaughTax$Tape", 132, "hearer", 0), ("LaughTax$Tape", 134, "straight", 1), ("LaughTax$Tape", 136, "giggler", 2), ("LaughTax$Tape", 138, "aunt", 3), ("LaughTax$Tape", 140, "fool", 4), ("LaughTax$Tape", 142, "child", 5), ("LaughTax$Tape", 144, "inspector", 6), ("LaughTax$Tape", 71, "on", 10), ("LaughTax$Tape", 88, "taste", 11), ("LaughTax$Tape", 92, "mood", 12), ("LaughTax$Tape", 96, "purse", 13), ("LaughTax$Tape", 47, "joke", 7), ("LaughTax$Tape", 52, "rate", 8), ("LaughTax$Tape", 57, "reach", 9), ("LaughTaxModel", 257, "hearer", 0), ("LaughTaxModel", 259, "straight", 1), ("LaughTaxModel", 261, "giggler", 2), ("LaughTaxModel", 263, "aunt", 3), ("LaughTaxModel", 265, "fool", 4), ("LaughTaxModel", 267, "child", 5), ("LaughTaxModel", 269, "inspector", 6), ("LaughTaxModel", 277, "on", 10), ("LaughTaxModel", 283, "taste", 11), ("LaughTaxModel", 285, "mood", 12), ("LaughTaxModel", 287, "purse", 13), ("LaughTaxModel", 296, "joke", 7), ("LaughTaxModel", 301, "rate", 8), ("LaughTaxModel", 303, "reach", 9), ("LaughTaxModel", 308, ";", 14)]
def ExtS (w : WE) (U : State) (H : Heap) : Prop := ∀ i : Nat, i < 15 → va_O "java/lang/String" (wK w i) (AA w) U H ∧ va_OF "java/lang/String" "coder" "B" (.int 0) (wK w i) (AA w) U H ∧ va_OF "java/lang/String" "value" "[B" (.ref (wV w i)) (wK w i) (AA w) U H ∧ va_T .byte (wV w i) (strL i) (fun j => .int (strC i j)) (AA w) U H
def Ext (w : WE) (U : State) (H : Heap) : Prop :=
  (va_Z "LaughTax$Kinds" "ABOVE" "[I" (.ref (wT w)) (AA w) U H ∧ va_T .int (wT w) 7 (fun j => .int (abv j)) (AA w) U H) ∧ ExtS w U H ∧ (∀ q ∈ strTab, vk_R q.1 q.2.1 q.2.2.1 (wK w q.2.2.2) U) ∧ va_Z "java/lang/String" "COMPACT_STRINGS" "Z" (.int 1) (AA w) U H ∧ va_Zq "jdk/internal/util/Preconditions" "SIOOBE_FORMATTER" "Ljava/util/function/BiFunction;" (AA w) U H
theorem Ext.kept {w : WE} {U : State} {H H1 : Heap} (h : Ext w U H) (hq : ∀ a : Nat, a < H.size → ¬ AA w a → H1[a]? = H[a]?) : Ext w U H1 :=
  ⟨⟨h.1.1.kept hq, h.1.2.kept hq⟩, fun i hi => ⟨(h.2.1 i hi).1.kept hq, (h.2.1 i hi).2.1.kept hq, (h.2.1 i hi).2.2.1.kept hq, (h.2.1 i hi).2.2.2.kept hq⟩, h.2.2.1, h.2.2.2.1.kept hq, h.2.2.2.2.kept hq⟩
theorem Ext.warm {w : WE} {s U : State} {H : Heap} (hW : s.WarmedH U.vm) (h : Ext w s H) : Ext w U H :=
  ⟨⟨h.1.1.moved hW.alike, h.1.2.moved hW.alike⟩, fun i hi => ⟨(h.2.1 i hi).1.moved hW.alike, (h.2.1 i hi).2.1.moved hW.alike, (h.2.1 i hi).2.2.1.moved hW.alike, (h.2.1 i hi).2.2.2.moved hW.alike⟩, fun q hq => (h.2.2.1 q hq).warm hW, h.2.2.2.1.moved hW.alike, h.2.2.2.2.moved hW.alike⟩
theorem Ext.same {w : WE} {u U : State} {H : Heap} (hv : U.vm = u.vm) (h : Ext w u H) : Ext w U H := by
  have ha : u.vm.Alike U.vm := by rw [hv]; exact Vm.Alike.refl _
  exact ⟨⟨h.1.1.moved ha, h.1.2.moved ha⟩, fun i hi => ⟨(h.2.1 i hi).1.moved ha, (h.2.1 i hi).2.1.moved ha, (h.2.1 i hi).2.2.1.moved ha, (h.2.1 i hi).2.2.2.moved ha⟩, fun q hq => (h.2.2.1 q hq).same hv, h.2.2.2.1.moved ha, h.2.2.2.2.moved ha⟩

/-! locals by place -/
def lvl : Nat → List (Option Value) → List (Nat × Value)
  | _, [] => []
  | i, none :: t => lvl (i + 1) t
  | i, some v :: t => (i, v) :: lvl (i + 1) t
theorem lvl_mem : ∀ (lv : List (Option Value)) (i j : Nat) (v : Value), (j, v) ∈ lvl i lv ↔ i ≤ j ∧ lv[j - i]? = some (some v)
  | [], i, j, v => by simp [lvl]
  | none :: t, i, j, v => by
    rw [lvl, lvl_mem t (i + 1) j v]
    constructor
    · rintro ⟨h1, h2⟩
      refine ⟨by omega, ?_⟩
      rw [show j - i = (j - (i + 1)) + 1 by omega, List.getElem?_cons_succ]
      exact h2
    · rintro ⟨h1, h2⟩
      rcases Nat.eq_or_lt_of_le h1 with e | e
      · subst e
        rw [Nat.sub_self, List.getElem?_cons_zero] at h2
        cases h2
      · refine ⟨e, ?_⟩
        rw [show j - i = (j - (i + 1)) + 1 by omega, List.getElem?_cons_succ] at h2
        exact h2
  | some u :: t, i, j, v => by
    rw [lvl, List.mem_cons, lvl_mem t (i + 1) j v]
    constructor
    · rintro (h | ⟨h1, h2⟩)
      · cases h
        exact ⟨Nat.le_refl _, by rw [Nat.sub_self, List.getElem?_cons_zero]⟩
      · refine ⟨by omega, ?_⟩
        rw [show j - i = (j - (i + 1)) + 1 by omega, List.getElem?_cons_succ]
        exact h2
    · rintro ⟨h1, h2⟩
      rcases Nat.eq_or_lt_of_le h1 with e | e
      · subst e
        rw [Nat.sub_self, List.getElem?_cons_zero] at h2
        cases h2
        exact Or.inl rfl
      · refine Or.inr ⟨e, ?_⟩
        rw [show j - i = (j - (i + 1)) + 1 by omega, List.getElem?_cons_succ] at h2
        exact h2
def lvH (ls : Array Slot) (nL : Nat) (lv : List (Option Value)) : Prop := lv_has ls nL (lvl 0 lv)
theorem lvH.at {ls : Array Slot} {nL : Nat} {lv : List (Option Value)} (h : lvH ls nL lv) {i : Nat} {v : Value} (hi : lv[i]? = some (some v)) : ls[i]? = some (.val v) := h.2.2 (i, v) ((lvl_mem lv 0 i v).mpr ⟨Nat.zero_le _, hi⟩)
def lvNo (lv : List (Option Value)) : Nat → Bool
  | 0 => true
  | j + 1 => match lv[j]? with
    | some (some (.long _)) => false
    | some (some (.double _)) => false
    | _ => true
theorem lvNo_cat {lv : List (Option Value)} {i j : Nat} {v : Value} (h : lvNo lv i = true) (hj : j + 1 = i) (hv : lv[j]? = some (some v)) : (v.category == 2) = false := by
  subst hj
  simp only [lvNo, hv] at h
  cases v <;> first | rfl | (simp at h)
theorem lvH.set1 {ls : Array Slot} {nL : Nat} {lv : List (Option Value)} {i : Nat} {x : Value} (hn : lvNo lv i = true) (h : lv_has ls nL ((i, x) :: (lvl 0 lv).filter (fun q => !(q.1 == i) && !(q.1 + 1 == i && q.2.category == 2)))) : lvH ls nL (lv.set i (some x)) := by
  refine ⟨h.1, h.2.1, fun q hq => ?_⟩
  obtain ⟨j, v⟩ := q
  have hq2 := ((lvl_mem _ 0 j v).mp hq).2
  rw [Nat.sub_zero, List.getElem?_set] at hq2
  by_cases hj : i = j
  · subst hj
    rw [if_pos rfl] at hq2
    by_cases hl : i < lv.length
    · rw [if_pos hl] at hq2
      cases hq2
      exact h.2.2 _ List.mem_cons_self
    · rw [if_neg hl] at hq2
      cases hq2
  · rw [if_neg hj] at hq2
    refine h.2.2 (j, v) (List.mem_cons_of_mem _ (List.mem_filter.mpr ⟨(lvl_mem lv 0 j v).mpr ⟨Nat.zero_le _, hq2⟩, ?_⟩))
    have h1 : (j == i) = false := by simp; omega
    by_cases hc : j + 1 = i
    · have h2 := lvNo_cat hn hc hq2
      simp [h1, h2]
    · have h3 : (j + 1 == i) = false := by simp; omega
      simp [h1, h3]
theorem lvH.set2 {ls : Array Slot} {nL : Nat} {lv : List (Option Value)} {i : Nat} {x : Value} (hn : lvNo lv i = true) (h : lv_has ls nL ((i, x) :: (lvl 0 lv).filter (fun q => !(q.1 == i) && (!(q.1 == i + 1) && !(q.1 + 1 == i && q.2.category == 2))))) : lvH ls nL ((lv.set i (some x)).set (i + 1) none) := by
  refine ⟨h.1, h.2.1, fun q hq => ?_⟩
  obtain ⟨j, v⟩ := q
  have hq2 := ((lvl_mem _ 0 j v).mp hq).2
  rw [Nat.sub_zero, List.getElem?_set] at hq2
  by_cases hj1 : i + 1 = j
  · rw [if_pos hj1] at hq2
    split at hq2 <;> cases hq2
  rw [if_neg hj1, List.getElem?_set] at hq2
  by_cases hj : i = j
  · subst hj
    rw [if_pos rfl] at hq2
    by_cases hl : i < lv.length
    · rw [if_pos hl] at hq2
      cases hq2
      exact h.2.2 _ List.mem_cons_self
    · rw [if_neg hl] at hq2
      cases hq2
  · rw [if_neg hj] at hq2
    refine h.2.2 (j, v) (List.mem_cons_of_mem _ (List.mem_filter.mpr ⟨(lvl_mem lv 0 j v).mpr ⟨Nat.zero_le _, hq2⟩, ?_⟩))
    have h1 : (j == i) = false := by simp; omega
    have h4 : (j == i + 1) = false := by simp; omega
    by_cases hc : j + 1 = i
    · have h2 := lvNo_cat hn hc hq2
      simp [h1, h2, h4]
    · have h3 : (j + 1 == i) = false := by simp; omega
      simp [h1, h3, h4]
def lvMask : List Bool → List (Option Value) → List (Option Value)
  | b :: bs, v :: vs => (if b = true then v else none) :: lvMask bs vs
  | _, _ => []
theorem lvMask_at : ∀ (bs : List Bool) (lv : List (Option Value)) (j : Nat) (v : Value), (lvMask bs lv)[j]? = some (some v) → lv[j]? = some (some v)
  | [], lv, j, v, h => by cases lv <;> simp [lvMask] at h
  | b :: bs, [], j, v, h => by simp [lvMask] at h
  | b :: bs, u :: us, 0, v, h => by
    rw [lvMask, List.getElem?_cons_zero] at h
    rw [List.getElem?_cons_zero]
    cases b
    · simp at h
    · simpa using h
  | b :: bs, u :: us, j + 1, v, h => by
    rw [lvMask, List.getElem?_cons_succ] at h
    rw [List.getElem?_cons_succ]
    exact lvMask_at bs us j v h
theorem lvH.mask {ls : Array Slot} {nL : Nat} {lv : List (Option Value)} (bs : List Bool) (h : lvH ls nL lv) : lvH ls nL (lvMask bs lv) := by
  refine ⟨h.1, h.2.1, fun q hq => ?_⟩
  obtain ⟨j, v⟩ := q
  have hq2 := ((lvl_mem _ 0 j v).mp hq).2
  exact h.at (lvMask_at bs lv j v hq2)

/-! the judgement -/
abbrev MC : Type := Program × Launch × Env × Room × State × MethodId × Array Value × List Frame × Method × Code
abbrev mp (M : MC) : Program := M.1
abbrev ml (M : MC) : Launch := M.2.1
abbrev me (M : MC) : Env := M.2.2.1
abbrev mR (M : MC) : Room := M.2.2.2.1
abbrev mS (M : MC) : State := M.2.2.2.2.1
abbrev mm (M : MC) : MethodId := M.2.2.2.2.2.1
abbrev ma (M : MC) : Array Value := M.2.2.2.2.2.2.1
abbrev mb (M : MC) : List Frame := M.2.2.2.2.2.2.2.1
abbrev mt (M : MC) : Method := M.2.2.2.2.2.2.2.2.1
abbrev mc (M : MC) : Code := M.2.2.2.2.2.2.2.2.2
abbrev WM (M : MC) (H : Heap) (locs : List Loc) (Q : State → Prop) (g : JFrame) : Prop := W (mp M) (ml M) (me M) (mR M) (mS M) (mm M) (ma M) (mb M) (mt M) (mc M) H locs 0 0 Q g
def rmD (d : Nat) : Room := { frames := d, cells := 0, slots := 0, locals := 36 * d }
def Cx (M : MC) (w : WE) (sh : List Shp) (cc : ByteArray) (nL : Nat) (own : String) (ret : Option FieldType) (d : Nat) : Prop :=
  (mp M).tables.exec = Jvm.exec ∧ (mc M).code = cc ∧ (mc M).maxLocals = nL ∧ (mS M).vm.findClass own = some (mm M).cls ∧ (∀ x ∈ TB, x.before (ma M) (mS M) = true) ∧ va_K (wD w) vwCl (tysW w) (mS M) ∧ OkW w sh ∧ wa0 w ≤ (mS M).heap.size ∧ Ext w (mS M) (mS M).heap ∧ (mt M).sig.returnType = ret ∧ (mt M).locks = false ∧ mR M = rmD d
section
variable {M : MC} {w : WE} {sh : List Shp} {cc : ByteArray} {nL : Nat} {own : String} {ret : Option FieldType} {d : Nat}
theorem Cx.x (X : Cx M w sh cc nL own ret d) : (mp M).tables.exec = Jvm.exec := X.1
theorem Cx.b (X : Cx M w sh cc nL own ret d) : (mc M).code = cc := X.2.1
theorem Cx.ml (X : Cx M w sh cc nL own ret d) : (mc M).maxLocals = nL := X.2.2.1
theorem Cx.o (X : Cx M w sh cc nL own ret d) : (mS M).vm.findClass own = some (mm M).cls := X.2.2.2.1
theorem Cx.t (X : Cx M w sh cc nL own ret d) : ∀ x ∈ TB, x.before (ma M) (mS M) = true := X.2.2.2.2.1
theorem Cx.k (X : Cx M w sh cc nL own ret d) : va_K (wD w) vwCl (tysW w) (mS M) := X.2.2.2.2.2.1
theorem Cx.ok (X : Cx M w sh cc nL own ret d) : OkW w sh := X.2.2.2.2.2.2.1
theorem Cx.a0 (X : Cx M w sh cc nL own ret d) : wa0 w ≤ (mS M).heap.size := X.2.2.2.2.2.2.2.1
theorem Cx.e (X : Cx M w sh cc nL own ret d) : Ext w (mS M) (mS M).heap := X.2.2.2.2.2.2.2.2.1
theorem Cx.r (X : Cx M w sh cc nL own ret d) : (mt M).sig.returnType = ret := X.2.2.2.2.2.2.2.2.2.1
theorem Cx.lk (X : Cx M w sh cc nL own ret d) : (mt M).locks = false := X.2.2.2.2.2.2.2.2.2.2.1
theorem Cx.R (X : Cx M w sh cc nL own ret d) : mR M = rmD d := X.2.2.2.2.2.2.2.2.2.2.2
end
/-- a method's end: the answer and the memory -/
def QcM (w : WE) (sh : List Shp) (z : Option Value × Mem) : Array Value → State → Outcome → State → Prop := fun _ st oc t => oc = .returned z.1 ∧ Wd w sh z.2 t.heap ∧ va_F (AA w) st t
def St (M : MC) (w : WE) (sh : List Shp) (nL : Nat) (z : Option Value × Mem) (pc : Nat) (lv : List (Option Value)) (st : List Value) (σ : Mem) : Prop :=
  ∀ (ls : Array Slot) (H : Heap) (locs : List Loc), lvH ls nL lv → Wd w sh σ H → va_S (AA w) (mS M).heap H locs → WM M H locs (MQ (mb M) (QcM w sh z) (ma M) (mS M) 0 0 (AA w)) (F0 (mm M) pc ls st)
/-- from this place on the program computes b -/
def Cp (M : MC) (w : WE) (sh : List Shp) (nL : Nat) {α : Type} (ι : α → Option Value × Mem) (pc : Nat) (lv : List (Option Value)) (st : List Value) (σ : Mem) (b : Option α) : Prop := ∀ a, b = some a → St M w sh nL (ι a) pc lv st σ
def gd {α : Type} (c : Prop) [Decidable c] (b : Option α) : Option α := if c then b else none
def pb {α β : Type} (e : α) (f : α → β) : β := f e
def b2i (b : Bool) : Int32 := if b = true then 1 else 0
theorem gd_t {α : Type} {c : Prop} [Decidable c] {b : Option α} (h : c) : gd c b = b := if_pos h
section
variable {M : MC} {w : WE} {sh : List Shp} {cc : ByteArray} {nL : Nat} {own : String} {ret : Option FieldType} {d : Nat} {α : Type} {ι : α → Option Value × Mem} {pc : Nat} {lv : List (Option Value)} {st : List Value} {σ : Mem} {b b1 b2 : Option α}
theorem Cp.non : Cp M w sh nL ι pc lv st σ (none : Option α) := fun a h => by cases h
theorem Cp.grd {c : Prop} [Decidable c] (k : c → Cp M w sh nL ι pc lv st σ b) : Cp M w sh nL ι pc lv st σ (gd c b) := by
  unfold gd
  split
  · rename_i h; exact k h
  · exact Cp.non
theorem Cp.mask (bs : List Bool) (k : Cp M w sh nL ι pc (lvMask bs lv) st σ b) : Cp M w sh nL ι pc lv st σ b := fun a ha ls H locs hl hP hS => k a ha ls H locs (hl.mask bs) hP hS
theorem Cp.nameM {e : Mem} {f : Mem → Option α} (k : ∀ x, Cp M w sh nL ι pc lv st x (f x)) : Cp M w sh nL ι pc lv st e (pb e f) := k e
theorem Cp.eqB (h : b1 = b2) (k : Cp M w sh nL ι pc lv st σ b2) : Cp M w sh nL ι pc lv st σ b1 := h ▸ k

theorem Cp.iconst (X : Cx M w sh cc nL own ret d) {n : Int} {v : Int32} (hd : decode cc pc = .ok (.iconst n, 1)) (hv : Int32.ofInt n = v) (k : Cp M w sh nL ι (pc + 1) lv (.int v :: st) σ b) : Cp M w sh nL ι pc lv (st) σ b := fun a ha ls H locs hl hP hS => lv_iconst X.x X.b hd hv (k a ha ls H locs hl hP hS)
theorem Cp.bipush (X : Cx M w sh cc nL own ret d) {n : Int} {v : Int32} (hd : decode cc pc = .ok (.bipush n, 2)) (hv : (Int8.ofInt n).toInt32 = v) (k : Cp M w sh nL ι (pc + 2) lv (.int v :: st) σ b) : Cp M w sh nL ι pc lv (st) σ b := fun a ha ls H locs hl hP hS => lv_bipush X.x X.b hd hv (k a ha ls H locs hl hP hS)
theorem Cp.sipush (X : Cx M w sh cc nL own ret d) {n : Int} {v : Int32} (hd : decode cc pc = .ok (.sipush n, 3)) (hv : (Int16.ofInt n).toInt32 = v) (k : Cp M w sh nL ι (pc + 3) lv (.int v :: st) σ b) : Cp M w sh nL ι pc lv (st) σ b := fun a ha ls H locs hl hP hS => lv_sipush X.x X.b hd hv (k a ha ls H locs hl hP hS)
theorem Cp.lconst (X : Cx M w sh cc nL own ret d) {n : Fin 2} {v : Int64} (hd : decode cc pc = .ok (.lconst n, 1)) (hv : Int64.ofNat (n : Nat) = v) (k : Cp M w sh nL ι (pc + 1) lv (.long v :: st) σ b) : Cp M w sh nL ι pc lv (st) σ b := fun a ha ls H locs hl hP hS => lv_lconst X.x X.b hd hv (k a ha ls H locs hl hP hS)
theorem Cp.ldc (X : Cx M w sh cc nL own ret d) {index : Nat} {v : Int32} (hc : Cond.constant own index v ∈ TB) (hd : decode cc pc = .ok (.ldc index, 2)) (k : Cp M w sh nL ι (pc + 2) lv (.int v :: st) σ b) : Cp M w sh nL ι pc lv (st) σ b := fun a ha ls H locs hl hP hS => lv_ldc X.x X.b X.o (X.t _ hc) hd (k a ha ls H locs hl hP hS)
theorem Cp.ldcw (X : Cx M w sh cc nL own ret d) {index : Nat} {v : Int32} (hc : Cond.constant own index v ∈ TB) (hd : decode cc pc = .ok (.ldc_w index, 3)) (k : Cp M w sh nL ι (pc + 3) lv (.int v :: st) σ b) : Cp M w sh nL ι pc lv (st) σ b := fun a ha ls H locs hl hP hS => lv_ldcw X.x X.b X.o (X.t _ hc) hd (k a ha ls H locs hl hP hS)
theorem Cp.ldc2 (X : Cx M w sh cc nL own ret d) {index : Nat} {v : Int64} (hc : Cond.constantLong own index v ∈ TB) (hd : decode cc pc = .ok (.ldc2_w index, 3)) (k : Cp M w sh nL ι (pc + 3) lv (.long v :: st) σ b) : Cp M w sh nL ι pc lv (st) σ b := fun a ha ls H locs hl hP hS => lv_ldc2 X.x X.b X.o (X.t _ hc) hd (k a ha ls H locs hl hP hS)
theorem Cp.iload_n (X : Cx M w sh cc nL own ret d) {n : Fin 4} {i : Nat} {x : Int32} (hd : decode cc pc = .ok (.iload_n n, 1)) (hi : (n : Nat) = i) (hv : lv[i]? = some (some (.int x))) (k : Cp M w sh nL ι (pc + 1) lv (.int x :: st) σ b) : Cp M w sh nL ι pc lv (st) σ b := fun a ha ls H locs hl hP hS => lv_iload_n X.x X.b hd hi (hl.at hv) (k a ha ls H locs hl hP hS)
theorem Cp.iload (X : Cx M w sh cc nL own ret d) {i : Nat} {x : Int32} (hd : decode cc pc = .ok (.iload i, 2)) (hv : lv[i]? = some (some (.int x))) (k : Cp M w sh nL ι (pc + 2) lv (.int x :: st) σ b) : Cp M w sh nL ι pc lv (st) σ b := fun a ha ls H locs hl hP hS => lv_iload X.x X.b hd (hl.at hv) (k a ha ls H locs hl hP hS)
theorem Cp.lload_n (X : Cx M w sh cc nL own ret d) {n : Fin 4} {i : Nat} {x : Int64} (hd : decode cc pc = .ok (.lload_n n, 1)) (hi : (n : Nat) = i) (hv : lv[i]? = some (some (.long x))) (k : Cp M w sh nL ι (pc + 1) lv (.long x :: st) σ b) : Cp M w sh nL ι pc lv (st) σ b := fun a ha ls H locs hl hP hS => lv_lload_n X.x X.b hd hi (hl.at hv) (k a ha ls H locs hl hP hS)
theorem Cp.lload (X : Cx M w sh cc nL own ret d) {i : Nat} {x : Int64} (hd : decode cc pc = .ok (.lload i, 2)) (hv : lv[i]? = some (some (.long x))) (k : Cp M w sh nL ι (pc + 2) lv (.long x :: st) σ b) : Cp M w sh nL ι pc lv (st) σ b := fun a ha ls H locs hl hP hS => lv_lload X.x X.b hd (hl.at hv) (k a ha ls H locs hl hP hS)
theorem Cp.aload_n (X : Cx M w sh cc nL own ret d) {n : Fin 4} {i : Nat} {x : Nat} (hd : decode cc pc = .ok (.aload_n n, 1)) (hi : (n : Nat) = i) (hv : lv[i]? = some (some (.ref x))) (k : Cp M w sh nL ι (pc + 1) lv (.ref x :: st) σ b) : Cp M w sh nL ι pc lv (st) σ b := fun a ha ls H locs hl hP hS => lv_aload_n X.x X.b hd hi (hl.at hv) (k a ha ls H locs hl hP hS)
theorem Cp.aload (X : Cx M w sh cc nL own ret d) {i : Nat} {x : Nat} (hd : decode cc pc = .ok (.aload i, 2)) (hv : lv[i]? = some (some (.ref x))) (k : Cp M w sh nL ι (pc + 2) lv (.ref x :: st) σ b) : Cp M w sh nL ι pc lv (st) σ b := fun a ha ls H locs hl hP hS => lv_aload X.x X.b hd (hl.at hv) (k a ha ls H locs hl hP hS)
theorem Cp.istore_n (X : Cx M w sh cc nL own ret d) {n : Fin 4} {i : Nat} {x : Int32} (hd : decode cc pc = .ok (.istore_n n, 1)) (hi : (n : Nat) = i) (hn : i < nL) (hno : lvNo lv i = true) (k : Cp M w sh nL ι (pc + 1) (lv.set i (some (.int x))) st σ b) : Cp M w sh nL ι pc lv (.int x :: st) σ b := fun a ha ls H locs hl hP hS => lv_istore_n X.x X.b hd hi hl hn rfl (fun ls' h => k a ha ls' H locs (lvH.set1 hno h) hP hS)
theorem Cp.istore (X : Cx M w sh cc nL own ret d) {i : Nat} {x : Int32} (hd : decode cc pc = .ok (.istore i, 2)) (hn : i < nL) (hno : lvNo lv i = true) (k : Cp M w sh nL ι (pc + 2) (lv.set i (some (.int x))) st σ b) : Cp M w sh nL ι pc lv (.int x :: st) σ b := fun a ha ls H locs hl hP hS => lv_istore X.x X.b hd hl hn rfl (fun ls' h => k a ha ls' H locs (lvH.set1 hno h) hP hS)
theorem Cp.astore_n (X : Cx M w sh cc nL own ret d) {n : Fin 4} {i : Nat} {x : Nat} (hd : decode cc pc = .ok (.astore_n n, 1)) (hi : (n : Nat) = i) (hn : i < nL) (hno : lvNo lv i = true) (k : Cp M w sh nL ι (pc + 1) (lv.set i (some (.ref x))) st σ b) : Cp M w sh nL ι pc lv (.ref x :: st) σ b := fun a ha ls H locs hl hP hS => lv_astore_n X.x X.b hd hi hl hn rfl (fun ls' h => k a ha ls' H locs (lvH.set1 hno h) hP hS)
theorem Cp.astore (X : Cx M w sh cc nL own ret d) {i : Nat} {x : Nat} (hd : decode cc pc = .ok (.astore i, 2)) (hn : i < nL) (hno : lvNo lv i = true) (k : Cp M w sh nL ι (pc + 2) (lv.set i (some (.ref x))) st σ b) : Cp M w sh nL ι pc lv (.ref x :: st) σ b := fun a ha ls H locs hl hP hS => lv_astore X.x X.b hd hl hn rfl (fun ls' h => k a ha ls' H locs (lvH.set1 hno h) hP hS)
theorem Cp.lstore_n (X : Cx M w sh cc nL own ret d) {n : Fin 4} {i : Nat} {x : Int64} (hd : decode cc pc = .ok (.lstore_n n, 1)) (hi : (n : Nat) = i) (hn : i + 1 < nL) (hno : lvNo lv i = true) (k : Cp M w sh nL ι (pc + 1) ((lv.set i (some (.long x))).set (i + 1) none) st σ b) : Cp M w sh nL ι pc lv (.long x :: st) σ b := fun a ha ls H locs hl hP hS => lv_lstore_n X.x X.b hd hi hl hn rfl (fun ls' h => k a ha ls' H locs (lvH.set2 hno h) hP hS)
theorem Cp.lstore (X : Cx M w sh cc nL own ret d) {i : Nat} {x : Int64} (hd : decode cc pc = .ok (.lstore i, 2)) (hn : i + 1 < nL) (hno : lvNo lv i = true) (k : Cp M w sh nL ι (pc + 2) ((lv.set i (some (.long x))).set (i + 1) none) st σ b) : Cp M w sh nL ι pc lv (.long x :: st) σ b := fun a ha ls H locs hl hP hS => lv_lstore X.x X.b hd hl hn rfl (fun ls' h => k a ha ls' H locs (lvH.set2 hno h) hP hS)
theorem lvl_pos {lv : List (Option Value)} {i : Nat} {v : Value} (h : lv[i]? = some (some v)) : ∃ k : Nat, (lvl 0 lv)[k]? = some (i, v) := List.getElem?_of_mem ((lvl_mem lv 0 i v).mpr ⟨Nat.zero_le _, h⟩)
theorem Cp.iinc (X : Cx M w sh cc nL own ret d) {i : Nat} {n : Int} {x v : Int32} (hd : decode cc pc = .ok (.iinc i n, 3)) (hx : lv[i]? = some (some (.int x))) (hv : x + Int32.ofInt n = v) (hn : i < nL) (hno : lvNo lv i = true) (k : Cp M w sh nL ι (pc + 3) (lv.set i (some (.int v))) st σ b) : Cp M w sh nL ι pc lv st σ b := fun a ha ls H locs hl hP hS => by
  obtain ⟨kk, hk⟩ := lvl_pos hx
  exact lv_iinc X.x X.b hd hl hk hv hn rfl (fun ls' h => k a ha ls' H locs (lvH.set1 hno h) hP hS)
theorem Cp.iadd (X : Cx M w sh cc nL own ret d) {x y : Int32} (hd : decode cc pc = .ok (.iadd, 1)) (k : Cp M w sh nL ι (pc + 1) lv (.int (x + y) :: st) σ b) : Cp M w sh nL ι pc lv (.int y :: .int x :: st) σ b := fun a ha ls H locs hl hP hS => lv_iadd X.x X.b hd (k a ha ls H locs hl hP hS)
theorem Cp.isub (X : Cx M w sh cc nL own ret d) {x y : Int32} (hd : decode cc pc = .ok (.isub, 1)) (k : Cp M w sh nL ι (pc + 1) lv (.int (x - y) :: st) σ b) : Cp M w sh nL ι pc lv (.int y :: .int x :: st) σ b := fun a ha ls H locs hl hP hS => lv_isub X.x X.b hd (k a ha ls H locs hl hP hS)
theorem Cp.imul (X : Cx M w sh cc nL own ret d) {x y : Int32} (hd : decode cc pc = .ok (.imul, 1)) (k : Cp M w sh nL ι (pc + 1) lv (.int (x * y) :: st) σ b) : Cp M w sh nL ι pc lv (.int y :: .int x :: st) σ b := fun a ha ls H locs hl hP hS => lv_imul X.x X.b hd (k a ha ls H locs hl hP hS)
theorem Cp.iand (X : Cx M w sh cc nL own ret d) {x y : Int32} (hd : decode cc pc = .ok (.iand, 1)) (k : Cp M w sh nL ι (pc + 1) lv (.int (x &&& y) :: st) σ b) : Cp M w sh nL ι pc lv (.int y :: .int x :: st) σ b := fun a ha ls H locs hl hP hS => lv_iand X.x X.b hd (k a ha ls H locs hl hP hS)
theorem Cp.ior (X : Cx M w sh cc nL own ret d) {x y : Int32} (hd : decode cc pc = .ok (.ior, 1)) (k : Cp M w sh nL ι (pc + 1) lv (.int (x ||| y) :: st) σ b) : Cp M w sh nL ι pc lv (.int y :: .int x :: st) σ b := fun a ha ls H locs hl hP hS => lv_ior X.x X.b hd (k a ha ls H locs hl hP hS)
theorem Cp.ixor (X : Cx M w sh cc nL own ret d) {x y : Int32} (hd : decode cc pc = .ok (.ixor, 1)) (k : Cp M w sh nL ι (pc + 1) lv (.int (x ^^^ y) :: st) σ b) : Cp M w sh nL ι pc lv (.int y :: .int x :: st) σ b := fun a ha ls H locs hl hP hS => lv_ixor X.x X.b hd (k a ha ls H locs hl hP hS)
theorem Cp.ishl (X : Cx M w sh cc nL own ret d) {x y : Int32} (hd : decode cc pc = .ok (.ishl, 1)) (k : Cp M w sh nL ι (pc + 1) lv (.int (x <<< (y &&& 31)) :: st) σ b) : Cp M w sh nL ι pc lv (.int y :: .int x :: st) σ b := fun a ha ls H locs hl hP hS => lv_ishl X.x X.b hd (k a ha ls H locs hl hP hS)
theorem Cp.ishr (X : Cx M w sh cc nL own ret d) {x y : Int32} (hd : decode cc pc = .ok (.ishr, 1)) (k : Cp M w sh nL ι (pc + 1) lv (.int (x >>> (y &&& 31)) :: st) σ b) : Cp M w sh nL ι pc lv (.int y :: .int x :: st) σ b := fun a ha ls H locs hl hP hS => lv_ishr X.x X.b hd (k a ha ls H locs hl hP hS)
theorem Cp.iushr (X : Cx M w sh cc nL own ret d) {x y : Int32} (hd : decode cc pc = .ok (.iushr, 1)) (k : Cp M w sh nL ι (pc + 1) lv (.int ((x.toUInt32 >>> (y.toUInt32 &&& Int32.toUInt32 31)).toInt32) :: st) σ b) : Cp M w sh nL ι pc lv (.int y :: .int x :: st) σ b := fun a ha ls H locs hl hP hS => lv_iushr X.x X.b hd rfl (k a ha ls H locs hl hP hS)
theorem Cp.idiv (X : Cx M w sh cc nL own ret d) {x y : Int32} (hd : decode cc pc = .ok (.idiv, 1)) (hy : ¬ y = 0) (k : Cp M w sh nL ι (pc + 1) lv (.int (x / y) :: st) σ b) : Cp M w sh nL ι pc lv (.int y :: .int x :: st) σ b := fun a ha ls H locs hl hP hS => lv_idiv X.x X.b hd hy (k a ha ls H locs hl hP hS)
theorem Cp.irem (X : Cx M w sh cc nL own ret d) {x y : Int32} (hd : decode cc pc = .ok (.irem, 1)) (hy : ¬ y = 0) (k : Cp M w sh nL ι (pc + 1) lv (.int (x - x / y * y) :: st) σ b) : Cp M w sh nL ι pc lv (.int y :: .int x :: st) σ b := fun a ha ls H locs hl hP hS => lv_irem X.x X.b hd hy (k a ha ls H locs hl hP hS)
theorem Cp.ineg (X : Cx M w sh cc nL own ret d) {x : Int32} (hd : decode cc pc = .ok (.ineg, 1)) (k : Cp M w sh nL ι (pc + 1) lv (.int (-x) :: st) σ b) : Cp M w sh nL ι pc lv (.int x :: st) σ b := fun a ha ls H locs hl hP hS => lv_ineg X.x X.b hd (k a ha ls H locs hl hP hS)
theorem Cp.ladd (X : Cx M w sh cc nL own ret d) {x y : Int64} (hd : decode cc pc = .ok (.ladd, 1)) (k : Cp M w sh nL ι (pc + 1) lv (.long (x + y) :: st) σ b) : Cp M w sh nL ι pc lv (.long y :: .long x :: st) σ b := fun a ha ls H locs hl hP hS => lv_ladd X.x X.b hd (k a ha ls H locs hl hP hS)
theorem Cp.lmul (X : Cx M w sh cc nL own ret d) {x y : Int64} (hd : decode cc pc = .ok (.lmul, 1)) (k : Cp M w sh nL ι (pc + 1) lv (.long (x * y) :: st) σ b) : Cp M w sh nL ι pc lv (.long y :: .long x :: st) σ b := fun a ha ls H locs hl hP hS => lv_lmul X.x X.b hd (k a ha ls H locs hl hP hS)
theorem Cp.ldiv (X : Cx M w sh cc nL own ret d) {x y : Int64} (hd : decode cc pc = .ok (.ldiv, 1)) (hy : ¬ y = 0) (k : Cp M w sh nL ι (pc + 1) lv (.long (x / y) :: st) σ b) : Cp M w sh nL ι pc lv (.long y :: .long x :: st) σ b := fun a ha ls H locs hl hP hS => lv_ldiv X.x X.b hd hy (k a ha ls H locs hl hP hS)
theorem Cp.lrem (X : Cx M w sh cc nL own ret d) {x y : Int64} (hd : decode cc pc = .ok (.lrem, 1)) (hy : ¬ y = 0) (k : Cp M w sh nL ι (pc + 1) lv (.long (x - x / y * y) :: st) σ b) : Cp M w sh nL ι pc lv (.long y :: .long x :: st) σ b := fun a ha ls H locs hl hP hS => lv_lrem X.x X.b hd hy (k a ha ls H locs hl hP hS)
theorem Cp.lcmp (X : Cx M w sh cc nL own ret d) {x y : Int64} (hd : decode cc pc = .ok (.lcmp, 1)) (k : Cp M w sh nL ι (pc + 1) lv (.int (lg_cmp x y) :: st) σ b) : Cp M w sh nL ι pc lv (.long y :: .long x :: st) σ b := fun a ha ls H locs hl hP hS => W.lcmp X.x X.b hd (k a ha ls H locs hl hP hS)
theorem Cp.i2l (X : Cx M w sh cc nL own ret d) {x : Int32} (hd : decode cc pc = .ok (.i2l, 1)) (k : Cp M w sh nL ι (pc + 1) lv (.long x.toInt64 :: st) σ b) : Cp M w sh nL ι pc lv (.int x :: st) σ b := fun a ha ls H locs hl hP hS => lv_i2l X.x X.b hd rfl (k a ha ls H locs hl hP hS)
theorem Cp.i2b (X : Cx M w sh cc nL own ret d) {x : Int32} (hd : decode cc pc = .ok (.i2b, 1)) (k : Cp M w sh nL ι (pc + 1) lv (.int x.toInt8.toInt32 :: st) σ b) : Cp M w sh nL ι pc lv (.int x :: st) σ b := fun a ha ls H locs hl hP hS => lv_i2b X.x X.b hd rfl (k a ha ls H locs hl hP hS)
theorem Cp.i2s (X : Cx M w sh cc nL own ret d) {x : Int32} (hd : decode cc pc = .ok (.i2s, 1)) (k : Cp M w sh nL ι (pc + 1) lv (.int x.toInt16.toInt32 :: st) σ b) : Cp M w sh nL ι pc lv (.int x :: st) σ b := fun a ha ls H locs hl hP hS => lv_i2s X.x X.b hd rfl (k a ha ls H locs hl hP hS)
theorem Cp.dup (X : Cx M w sh cc nL own ret d) {v : Value} (hd : decode cc pc = .ok (.dup, 1)) (h1 : v.category = 1) (k : Cp M w sh nL ι (pc + 1) lv (v :: v :: st) σ b) : Cp M w sh nL ι pc lv (v :: st) σ b := fun a ha ls H locs hl hP hS => lv_dup X.x X.b hd h1 (k a ha ls H locs hl hP hS)
theorem Cp.pop (X : Cx M w sh cc nL own ret d) {v : Value} (hd : decode cc pc = .ok (.pop, 1)) (h1 : v.category = 1) (k : Cp M w sh nL ι (pc + 1) lv (st) σ b) : Cp M w sh nL ι pc lv (v :: st) σ b := fun a ha ls H locs hl hP hS => lv_pop X.x X.b hd h1 (k a ha ls H locs hl hP hS)
theorem Cp.dup2 (X : Cx M w sh cc nL own ret d) {v u : Value} (hd : decode cc pc = .ok (.dup2, 1)) (h1 : v.category = 1) (h2 : u.category = 1) (k : Cp M w sh nL ι (pc + 1) lv (v :: u :: v :: u :: st) σ b) : Cp M w sh nL ι pc lv (v :: u :: st) σ b := fun a ha ls H locs hl hP hS => lv_dup2_11 X.x X.b hd h1 h2 (k a ha ls H locs hl hP hS)
theorem Cp.dup_x1 (X : Cx M w sh cc nL own ret d) {v u : Value} (hd : decode cc pc = .ok (.dup_x1, 1)) (h1 : v.category = 1) (h2 : u.category = 1) (k : Cp M w sh nL ι (pc + 1) lv (v :: u :: v :: st) σ b) : Cp M w sh nL ι pc lv (v :: u :: st) σ b := fun a ha ls H locs hl hP hS => lv_dup_x1 X.x X.b hd h1 h2 (k a ha ls H locs hl hP hS)
theorem Cp.goto (X : Cx M w sh cc nL own ret d) {off : Int} (tgt : Nat) (hd : decode cc pc = .ok (.goto off, 3)) (ht : (pc : Int) + off = (tgt : Int)) (k : Cp M w sh nL ι tgt lv st σ b) : Cp M w sh nL ι pc lv st σ b := fun a ha ls H locs hl hP hS => lv_goto X.x X.b hd ht (k a ha ls H locs hl hP hS)
theorem Cp.if_eq (X : Cx M w sh cc nL own ret d) {x : Int32} {off : Int} (tgt : Nat) (hd : decode cc pc = .ok (.ifCond .eq off, 3)) (ht : (pc : Int) + off = (tgt : Int)) (kt : (x = 0) → Cp M w sh nL ι tgt lv st σ b1) (kf : ¬ (x = 0) → Cp M w sh nL ι (pc + 3) lv st σ b2) : Cp M w sh nL ι pc lv (.int x :: st) σ (if x = 0 then b1 else b2) := fun a ha ls H locs hl hP hS => lv_if_eq X.x X.b hd ht (fun h => kt h a ((if_pos h).symm.trans ha) ls H locs hl hP hS) (fun h => kf h a ((if_neg h).symm.trans ha) ls H locs hl hP hS)
theorem Cp.if_eqT (X : Cx M w sh cc nL own ret d) {x : Int32} {off : Int} {v1 v2 : α} (tgt : Nat) (hd : decode cc pc = .ok (.ifCond .eq off, 3)) (ht : (pc : Int) + off = (tgt : Int)) (kt : (x = 0) → Cp M w sh nL ι tgt lv st σ (some v1)) (kf : ¬ (x = 0) → Cp M w sh nL ι (pc + 3) lv st σ (some v2)) : Cp M w sh nL ι pc lv (.int x :: st) σ (some (if x = 0 then v1 else v2)) := by
  rw [show (some (if x = 0 then v1 else v2) : Option α) = if x = 0 then some v1 else some v2 by split <;> rfl]
  exact Cp.if_eq X tgt hd ht kt kf
theorem Cp.icmp_eq (X : Cx M w sh cc nL own ret d) {x y : Int32} {off : Int} (tgt : Nat) (hd : decode cc pc = .ok (.if_icmp .eq off, 3)) (ht : (pc : Int) + off = (tgt : Int)) (kt : (x = y) → Cp M w sh nL ι tgt lv st σ b1) (kf : ¬ (x = y) → Cp M w sh nL ι (pc + 3) lv st σ b2) : Cp M w sh nL ι pc lv (.int y :: .int x :: st) σ (if x = y then b1 else b2) := fun a ha ls H locs hl hP hS => lv_icmp_eq X.x X.b hd ht (fun h => kt h a ((if_pos h).symm.trans ha) ls H locs hl hP hS) (fun h => kf h a ((if_neg h).symm.trans ha) ls H locs hl hP hS)
theorem Cp.icmp_eqT (X : Cx M w sh cc nL own ret d) {x y : Int32} {off : Int} {v1 v2 : α} (tgt : Nat) (hd : decode cc pc = .ok (.if_icmp .eq off, 3)) (ht : (pc : Int) + off = (tgt : Int)) (kt : (x = y) → Cp M w sh nL ι tgt lv st σ (some v1)) (kf : ¬ (x = y) → Cp M w sh nL ι (pc + 3) lv st σ (some v2)) : Cp M w sh nL ι pc lv (.int y :: .int x :: st) σ (some (if x = y then v1 else v2)) := by
  rw [show (some (if x = y then v1 else v2) : Option α) = if x = y then some v1 else some v2 by split <;> rfl]
  exact Cp.icmp_eq X tgt hd ht kt kf
theorem Cp.if_lt (X : Cx M w sh cc nL own ret d) {x : Int32} {off : Int} (tgt : Nat) (hd : decode cc pc = .ok (.ifCond .lt off, 3)) (ht : (pc : Int) + off = (tgt : Int)) (kt : (x < 0) → Cp M w sh nL ι tgt lv st σ b1) (kf : ¬ (x < 0) → Cp M w sh nL ι (pc + 3) lv st σ b2) : Cp M w sh nL ι pc lv (.int x :: st) σ (if x < 0 then b1 else b2) := fun a ha ls H locs hl hP hS => lv_if_lt X.x X.b hd ht (fun h => kt h a ((if_pos h).symm.trans ha) ls H locs hl hP hS) (fun h => kf h a ((if_neg h).symm.trans ha) ls H locs hl hP hS)
theorem Cp.if_ltT (X : Cx M w sh cc nL own ret d) {x : Int32} {off : Int} {v1 v2 : α} (tgt : Nat) (hd : decode cc pc = .ok (.ifCond .lt off, 3)) (ht : (pc : Int) + off = (tgt : Int)) (kt : (x < 0) → Cp M w sh nL ι tgt lv st σ (some v1)) (kf : ¬ (x < 0) → Cp M w sh nL ι (pc + 3) lv st σ (some v2)) : Cp M w sh nL ι pc lv (.int x :: st) σ (some (if x < 0 then v1 else v2)) := by
  rw [show (some (if x < 0 then v1 else v2) : Option α) = if x < 0 then some v1 else some v2 by split <;> rfl]
  exact Cp.if_lt X tgt hd ht kt kf
theorem Cp.icmp_lt (X : Cx M w sh cc nL own ret d) {x y : Int32} {off : Int} (tgt : Nat) (hd : decode cc pc = .ok (.if_icmp .lt off, 3)) (ht : (pc : Int) + off = (tgt : Int)) (kt : (x < y) → Cp M w sh nL ι tgt lv st σ b1) (kf : ¬ (x < y) → Cp M w sh nL ι (pc + 3) lv st σ b2) : Cp M w sh nL ι pc lv (.int y :: .int x :: st) σ (if x < y then b1 else b2) := fun a ha ls H locs hl hP hS => lv_icmp_lt X.x X.b hd ht (fun h => kt h a ((if_pos h).symm.trans ha) ls H locs hl hP hS) (fun h => kf h a ((if_neg h).symm.trans ha) ls H locs hl hP hS)
theorem Cp.icmp_ltT (X : Cx M w sh cc nL own ret d) {x y : Int32} {off : Int} {v1 v2 : α} (tgt : Nat) (hd : decode cc pc = .ok (.if_icmp .lt off, 3)) (ht : (pc : Int) + off = (tgt : Int)) (kt : (x < y) → Cp M w sh nL ι tgt lv st σ (some v1)) (kf : ¬ (x < y) → Cp M w sh nL ι (pc + 3) lv st σ (some v2)) : Cp M w sh nL ι pc lv (.int y :: .int x :: st) σ (some (if x < y then v1 else v2)) := by
  rw [show (some (if x < y then v1 else v2) : Option α) = if x < y then some v1 else some v2 by split <;> rfl]
  exact Cp.icmp_lt X tgt hd ht kt kf
theorem Cp.if_ge (X : Cx M w sh cc nL own ret d) {x : Int32} {off : Int} (tgt : Nat) (hd : decode cc pc = .ok (.ifCond .ge off, 3)) (ht : (pc : Int) + off = (tgt : Int)) (kt : (0 ≤ x) → Cp M w sh nL ι tgt lv st σ b1) (kf : ¬ (0 ≤ x) → Cp M w sh nL ι (pc + 3) lv st σ b2) : Cp M w sh nL ι pc lv (.int x :: st) σ (if 0 ≤ x then b1 else b2) := fun a ha ls H locs hl hP hS => lv_if_ge X.x X.b hd ht (fun h => kt h a ((if_pos h).symm.trans ha) ls H locs hl hP hS) (fun h => kf h a ((if_neg h).symm.trans ha) ls H locs hl hP hS)
theorem Cp.if_geT (X : Cx M w sh cc nL own ret d) {x : Int32} {off : Int} {v1 v2 : α} (tgt : Nat) (hd : decode cc pc = .ok (.ifCond .ge off, 3)) (ht : (pc : Int) + off = (tgt : Int)) (kt : (0 ≤ x) → Cp M w sh nL ι tgt lv st σ (some v1)) (kf : ¬ (0 ≤ x) → Cp M w sh nL ι (pc + 3) lv st σ (some v2)) : Cp M w sh nL ι pc lv (.int x :: st) σ (some (if 0 ≤ x then v1 else v2)) := by
  rw [show (some (if 0 ≤ x then v1 else v2) : Option α) = if 0 ≤ x then some v1 else some v2 by split <;> rfl]
  exact Cp.if_ge X tgt hd ht kt kf
theorem Cp.icmp_ge (X : Cx M w sh cc nL own ret d) {x y : Int32} {off : Int} (tgt : Nat) (hd : decode cc pc = .ok (.if_icmp .ge off, 3)) (ht : (pc : Int) + off = (tgt : Int)) (kt : (y ≤ x) → Cp M w sh nL ι tgt lv st σ b1) (kf : ¬ (y ≤ x) → Cp M w sh nL ι (pc + 3) lv st σ b2) : Cp M w sh nL ι pc lv (.int y :: .int x :: st) σ (if y ≤ x then b1 else b2) := fun a ha ls H locs hl hP hS => lv_icmp_ge X.x X.b hd ht (fun h => kt h a ((if_pos h).symm.trans ha) ls H locs hl hP hS) (fun h => kf h a ((if_neg h).symm.trans ha) ls H locs hl hP hS)
theorem Cp.icmp_geT (X : Cx M w sh cc nL own ret d) {x y : Int32} {off : Int} {v1 v2 : α} (tgt : Nat) (hd : decode cc pc = .ok (.if_icmp .ge off, 3)) (ht : (pc : Int) + off = (tgt : Int)) (kt : (y ≤ x) → Cp M w sh nL ι tgt lv st σ (some v1)) (kf : ¬ (y ≤ x) → Cp M w sh nL ι (pc + 3) lv st σ (some v2)) : Cp M w sh nL ι pc lv (.int y :: .int x :: st) σ (some (if y ≤ x then v1 else v2)) := by
  rw [show (some (if y ≤ x then v1 else v2) : Option α) = if y ≤ x then some v1 else some v2 by split <;> rfl]
  exact Cp.icmp_ge X tgt hd ht kt kf
theorem Cp.if_gt (X : Cx M w sh cc nL own ret d) {x : Int32} {off : Int} (tgt : Nat) (hd : decode cc pc = .ok (.ifCond .gt off, 3)) (ht : (pc : Int) + off = (tgt : Int)) (kt : (0 < x) → Cp M w sh nL ι tgt lv st σ b1) (kf : ¬ (0 < x) → Cp M w sh nL ι (pc + 3) lv st σ b2) : Cp M w sh nL ι pc lv (.int x :: st) σ (if 0 < x then b1 else b2) := fun a ha ls H locs hl hP hS => lv_if_gt X.x X.b hd ht (fun h => kt h a ((if_pos h).symm.trans ha) ls H locs hl hP hS) (fun h => kf h a ((if_neg h).symm.trans ha) ls H locs hl hP hS)
theorem Cp.if_gtT (X : Cx M w sh cc nL own ret d) {x : Int32} {off : Int} {v1 v2 : α} (tgt : Nat) (hd : decode cc pc = .ok (.ifCond .gt off, 3)) (ht : (pc : Int) + off = (tgt : Int)) (kt : (0 < x) → Cp M w sh nL ι tgt lv st σ (some v1)) (kf : ¬ (0 < x) → Cp M w sh nL ι (pc + 3) lv st σ (some v2)) : Cp M w sh nL ι pc lv (.int x :: st) σ (some (if 0 < x then v1 else v2)) := by
  rw [show (some (if 0 < x then v1 else v2) : Option α) = if 0 < x then some v1 else some v2 by split <;> rfl]
  exact Cp.if_gt X tgt hd ht kt kf
theorem Cp.icmp_gt (X : Cx M w sh cc nL own ret d) {x y : Int32} {off : Int} (tgt : Nat) (hd : decode cc pc = .ok (.if_icmp .gt off, 3)) (ht : (pc : Int) + off = (tgt : Int)) (kt : (y < x) → Cp M w sh nL ι tgt lv st σ b1) (kf : ¬ (y < x) → Cp M w sh nL ι (pc + 3) lv st σ b2) : Cp M w sh nL ι pc lv (.int y :: .int x :: st) σ (if y < x then b1 else b2) := fun a ha ls H locs hl hP hS => lv_icmp_gt X.x X.b hd ht (fun h => kt h a ((if_pos h).symm.trans ha) ls H locs hl hP hS) (fun h => kf h a ((if_neg h).symm.trans ha) ls H locs hl hP hS)
theorem Cp.icmp_gtT (X : Cx M w sh cc nL own ret d) {x y : Int32} {off : Int} {v1 v2 : α} (tgt : Nat) (hd : decode cc pc = .ok (.if_icmp .gt off, 3)) (ht : (pc : Int) + off = (tgt : Int)) (kt : (y < x) → Cp M w sh nL ι tgt lv st σ (some v1)) (kf : ¬ (y < x) → Cp M w sh nL ι (pc + 3) lv st σ (some v2)) : Cp M w sh nL ι pc lv (.int y :: .int x :: st) σ (some (if y < x then v1 else v2)) := by
  rw [show (some (if y < x then v1 else v2) : Option α) = if y < x then some v1 else some v2 by split <;> rfl]
  exact Cp.icmp_gt X tgt hd ht kt kf
theorem Cp.if_le (X : Cx M w sh cc nL own ret d) {x : Int32} {off : Int} (tgt : Nat) (hd : decode cc pc = .ok (.ifCond .le off, 3)) (ht : (pc : Int) + off = (tgt : Int)) (kt : (x ≤ 0) → Cp M w sh nL ι tgt lv st σ b1) (kf : ¬ (x ≤ 0) → Cp M w sh nL ι (pc + 3) lv st σ b2) : Cp M w sh nL ι pc lv (.int x :: st) σ (if x ≤ 0 then b1 else b2) := fun a ha ls H locs hl hP hS => lv_if_le X.x X.b hd ht (fun h => kt h a ((if_pos h).symm.trans ha) ls H locs hl hP hS) (fun h => kf h a ((if_neg h).symm.trans ha) ls H locs hl hP hS)
theorem Cp.if_leT (X : Cx M w sh cc nL own ret d) {x : Int32} {off : Int} {v1 v2 : α} (tgt : Nat) (hd : decode cc pc = .ok (.ifCond .le off, 3)) (ht : (pc : Int) + off = (tgt : Int)) (kt : (x ≤ 0) → Cp M w sh nL ι tgt lv st σ (some v1)) (kf : ¬ (x ≤ 0) → Cp M w sh nL ι (pc + 3) lv st σ (some v2)) : Cp M w sh nL ι pc lv (.int x :: st) σ (some (if x ≤ 0 then v1 else v2)) := by
  rw [show (some (if x ≤ 0 then v1 else v2) : Option α) = if x ≤ 0 then some v1 else some v2 by split <;> rfl]
  exact Cp.if_le X tgt hd ht kt kf
theorem Cp.icmp_le (X : Cx M w sh cc nL own ret d) {x y : Int32} {off : Int} (tgt : Nat) (hd : decode cc pc = .ok (.if_icmp .le off, 3)) (ht : (pc : Int) + off = (tgt : Int)) (kt : (x ≤ y) → Cp M w sh nL ι tgt lv st σ b1) (kf : ¬ (x ≤ y) → Cp M w sh nL ι (pc + 3) lv st σ b2) : Cp M w sh nL ι pc lv (.int y :: .int x :: st) σ (if x ≤ y then b1 else b2) := fun a ha ls H locs hl hP hS => lv_icmp_le X.x X.b hd ht (fun h => kt h a ((if_pos h).symm.trans ha) ls H locs hl hP hS) (fun h => kf h a ((if_neg h).symm.trans ha) ls H locs hl hP hS)
theorem Cp.icmp_leT (X : Cx M w sh cc nL own ret d) {x y : Int32} {off : Int} {v1 v2 : α} (tgt : Nat) (hd : decode cc pc = .ok (.if_icmp .le off, 3)) (ht : (pc : Int) + off = (tgt : Int)) (kt : (x ≤ y) → Cp M w sh nL ι tgt lv st σ (some v1)) (kf : ¬ (x ≤ y) → Cp M w sh nL ι (pc + 3) lv st σ (some v2)) : Cp M w sh nL ι pc lv (.int y :: .int x :: st) σ (some (if x ≤ y then v1 else v2)) := by
  rw [show (some (if x ≤ y then v1 else v2) : Option α) = if x ≤ y then some v1 else some v2 by split <;> rfl]
  exact Cp.icmp_le X tgt hd ht kt kf
theorem Cp.if_ne (X : Cx M w sh cc nL own ret d) {x : Int32} {off : Int} (tgt : Nat) (hd : decode cc pc = .ok (.ifCond .ne off, 3)) (ht : (pc : Int) + off = (tgt : Int)) (kt : ¬ (x = 0) → Cp M w sh nL ι tgt lv st σ b2) (kf : (x = 0) → Cp M w sh nL ι (pc + 3) lv st σ b1) : Cp M w sh nL ι pc lv (.int x :: st) σ (if x = 0 then b1 else b2) := fun a ha ls H locs hl hP hS => lv_if_ne X.x X.b hd ht (fun h => kt h a ((if_neg h).symm.trans ha) ls H locs hl hP hS) (fun h => kf h a ((if_pos h).symm.trans ha) ls H locs hl hP hS)
theorem Cp.if_neT (X : Cx M w sh cc nL own ret d) {x : Int32} {off : Int} {v1 v2 : α} (tgt : Nat) (hd : decode cc pc = .ok (.ifCond .ne off, 3)) (ht : (pc : Int) + off = (tgt : Int)) (kt : ¬ (x = 0) → Cp M w sh nL ι tgt lv st σ (some v2)) (kf : (x = 0) → Cp M w sh nL ι (pc + 3) lv st σ (some v1)) : Cp M w sh nL ι pc lv (.int x :: st) σ (some (if x = 0 then v1 else v2)) := by
  rw [show (some (if x = 0 then v1 else v2) : Option α) = if x = 0 then some v1 else some v2 by split <;> rfl]
  exact Cp.if_ne X tgt hd ht kt kf
theorem Cp.icmp_ne (X : Cx M w sh cc nL own ret d) {x y : Int32} {off : Int} (tgt : Nat) (hd : decode cc pc = .ok (.if_icmp .ne off, 3)) (ht : (pc : Int) + off = (tgt : Int)) (kt : ¬ (x = y) → Cp M w sh nL ι tgt lv st σ b2) (kf : (x = y) → Cp M w sh nL ι (pc + 3) lv st σ b1) : Cp M w sh nL ι pc lv (.int y :: .int x :: st) σ (if x = y then b1 else b2) := fun a ha ls H locs hl hP hS => lv_icmp_ne X.x X.b hd ht (fun h => kt h a ((if_neg h).symm.trans ha) ls H locs hl hP hS) (fun h => kf h a ((if_pos h).symm.trans ha) ls H locs hl hP hS)
theorem Cp.icmp_neT (X : Cx M w sh cc nL own ret d) {x y : Int32} {off : Int} {v1 v2 : α} (tgt : Nat) (hd : decode cc pc = .ok (.if_icmp .ne off, 3)) (ht : (pc : Int) + off = (tgt : Int)) (kt : ¬ (x = y) → Cp M w sh nL ι tgt lv st σ (some v2)) (kf : (x = y) → Cp M w sh nL ι (pc + 3) lv st σ (some v1)) : Cp M w sh nL ι pc lv (.int y :: .int x :: st) σ (some (if x = y then v1 else v2)) := by
  rw [show (some (if x = y then v1 else v2) : Option α) = if x = y then some v1 else some v2 by split <;> rfl]
  exact Cp.icmp_ne X tgt hd ht kt kf
theorem Cp.if_eqB (X : Cx M w sh cc nL own ret d) {x : Bool} {off : Int} (tgt : Nat) (hd : decode cc pc = .ok (.ifCond .eq off, 3)) (ht : (pc : Int) + off = (tgt : Int)) (kt : x = false → Cp M w sh nL ι tgt lv st σ b2) (kf : x = true → Cp M w sh nL ι (pc + 3) lv st σ b1) : Cp M w sh nL ι pc lv (.int (b2i x) :: st) σ (if x = true then b1 else b2) := fun a ha ls H locs hl hP hS => by
  cases x
  · have ha : b2 = some a := ha
    exact lv_if_eq X.x X.b hd ht (fun h => kt rfl a ha ls H locs hl hP hS) (fun h => absurd rfl h)
  · have ha : b1 = some a := ha
    exact lv_if_eq X.x X.b hd ht (fun h => absurd h (by decide)) (fun h => kf rfl a ha ls H locs hl hP hS)
theorem Cp.if_eqBT (X : Cx M w sh cc nL own ret d) {x : Bool} {v1 v2 : α} {off : Int} (tgt : Nat) (hd : decode cc pc = .ok (.ifCond .eq off, 3)) (ht : (pc : Int) + off = (tgt : Int)) (kt : x = false → Cp M w sh nL ι tgt lv st σ (some v2)) (kf : x = true → Cp M w sh nL ι (pc + 3) lv st σ (some v1)) : Cp M w sh nL ι pc lv (.int (b2i x) :: st) σ (some (if x = true then v1 else v2)) := by
  rw [show (some (if x = true then v1 else v2) : Option α) = if x = true then some v1 else some v2 by split <;> rfl]
  exact Cp.if_eqB X tgt hd ht kt kf
theorem Cp.if_neB (X : Cx M w sh cc nL own ret d) {x : Bool} {off : Int} (tgt : Nat) (hd : decode cc pc = .ok (.ifCond .ne off, 3)) (ht : (pc : Int) + off = (tgt : Int)) (kt : x = true → Cp M w sh nL ι tgt lv st σ b1) (kf : x = false → Cp M w sh nL ι (pc + 3) lv st σ b2) : Cp M w sh nL ι pc lv (.int (b2i x) :: st) σ (if x = true then b1 else b2) := fun a ha ls H locs hl hP hS => by
  cases x
  · have ha : b2 = some a := ha
    exact lv_if_ne X.x X.b hd ht (fun h => absurd rfl h) (fun h => kf rfl a ha ls H locs hl hP hS)
  · have ha : b1 = some a := ha
    exact lv_if_ne X.x X.b hd ht (fun h => kt rfl a ha ls H locs hl hP hS) (fun h => absurd h (by decide))
theorem Cp.if_neBT (X : Cx M w sh cc nL own ret d) {x : Bool} {v1 v2 : α} {off : Int} (tgt : Nat) (hd : decode cc pc = .ok (.ifCond .ne off, 3)) (ht : (pc : Int) + off = (tgt : Int)) (kt : x = true → Cp M w sh nL ι tgt lv st σ (some v1)) (kf : x = false → Cp M w sh nL ι (pc + 3) lv st σ (some v2)) : Cp M w sh nL ι pc lv (.int (b2i x) :: st) σ (some (if x = true then v1 else v2)) := by
  rw [show (some (if x = true then v1 else v2) : Option α) = if x = true then some v1 else some v2 by split <;> rfl]
  exact Cp.if_neB X tgt hd ht kt kf
end
end
section
abbrev iI (σ : Mem) : Int32 → Option Value × Mem := fun v => (some (.int v), σ)
abbrev iB (σ : Mem) : Bool → Option Value × Mem := fun v => (some (.int (b2i v)), σ)
abbrev iL (σ : Mem) : Int64 → Option Value × Mem := fun v => (some (.long v), σ)
abbrev iS (w : WE) (σ : Mem) : Nat → Option Value × Mem := fun v => (some (.ref (wK w v)), σ)
abbrev iU (σ : Mem) : Unit → Option Value × Mem := fun _ => (none, σ)
abbrev iIM : Int32 × Mem → Option Value × Mem := fun v => (some (.int v.1), v.2)
abbrev iBM : Bool × Mem → Option Value × Mem := fun v => (some (.int (b2i v.1)), v.2)
abbrev iLM : Int64 × Mem → Option Value × Mem := fun v => (some (.long v.1), v.2)
abbrev iVM : Mem → Option Value × Mem := fun τ => (none, τ)
def bnd2 {β γ α : Type} (f : Option (β × γ)) (g : β → γ → Option α) : Option α := f.bind (fun z => g z.1 z.2)
theorem bnd2_s {β γ α : Type} (x : β) (y : γ) (g : β → γ → Option α) : bnd2 (some (x, y)) g = g x y := rfl
def ClOk (ci : Nat) (C : String) (T : u_T) (N : Nat) (ty0 : Nat → FieldType) : Prop := vwCl[ci]? = some (C, T, N) ∧ (∀ x ∈ u_ws C T N, x ∈ TB) ∧ (∀ k, k < N → parseFieldDescriptor (T k).2.2.1 = some (ty0 k)) ∧ (∀ a, a < N → ∀ b, b < N → a ≠ b → (T a).2.1 ≠ (T b).2.1)
def inB (i : Int32) (n : Nat) : Bool := decide (0 ≤ i) && decide (i.toNatClampNeg < n)
theorem inB_vp {i : Int32} {n : Nat} (h : inB i n = true) : vp_in i n := by
  simp only [inB, Bool.and_eq_true, decide_eq_true_eq] at h
  rintro (q | q)
  · exact absurd h.1 (Int32.not_le.mpr q)
  · omega
section
variable {M : MC} {w : WE} {sh : List Shp} {cc : ByteArray} {nL : Nat} {own : String} {ret : Option FieldType} {d : Nat} {α : Type} {ι : α → Option Value × Mem} {pc : Nat} {lv : List (Option Value)} {st : List Value} {σ : Mem} {b : Option α}

theorem Cp.getI (X : Cx M w sh cc nL own ret d) {ci : Nat} {C : String} {T : u_T} {N : Nat} {ty0 : Nat → FieldType} (hC : ClOk ci C T N ty0) {k : Nat} {fs : List (Option Nat)} (hs : sh[k]? = some (.inr (ci, fs))) {index : Nat} (j : Nat) (hj : j < N) (hl : Cond.fieldLink own index (T j).1 (T j).2.1 (T j).2.2.1 ∈ TB) (hf : fs[j]? = some none) (hd : decode cc pc = .ok (.getfield index, 3)) (kk : Cp M w sh nL ι (pc + 3) lv (.int (σ k j) :: st) σ b) : Cp M w sh nL ι pc lv (.ref (wad w k) :: st) σ b := fun a ha ls H locs hlv hP hS => va_get (ci := ci) (fs := fs.mapIdx (fv (wad w) (σ k))) X.x X.b X.t hC.2.1 X.o X.k hP k (wM_at hs) hC.1 j hj (X.t _ hl) (fun _ h => h) (by rw [List.getElem?_mapIdx, hf]; rfl) hd (kk a ha ls H locs hlv hP hS)
theorem Cp.getR (X : Cx M w sh cc nL own ret d) {ci : Nat} {C : String} {T : u_T} {N : Nat} {ty0 : Nat → FieldType} (hC : ClOk ci C T N ty0) {k q : Nat} {fs : List (Option Nat)} (hs : sh[k]? = some (.inr (ci, fs))) {index : Nat} (j : Nat) (hj : j < N) (hl : Cond.fieldLink own index (T j).1 (T j).2.1 (T j).2.2.1 ∈ TB) (hf : fs[j]? = some (some q)) (hd : decode cc pc = .ok (.getfield index, 3)) (kk : Cp M w sh nL ι (pc + 3) lv (.ref (wad w q) :: st) σ b) : Cp M w sh nL ι pc lv (.ref (wad w k) :: st) σ b := fun a ha ls H locs hlv hP hS => va_get (ci := ci) (fs := fs.mapIdx (fv (wad w) (σ k))) X.x X.b X.t hC.2.1 X.o X.k hP k (wM_at hs) hC.1 j hj (X.t _ hl) (fun _ h => h) (by rw [List.getElem?_mapIdx, hf]; rfl) hd (kk a ha ls H locs hlv hP hS)
theorem Cp.putV (X : Cx M w sh cc nL own ret d) {ci : Nat} {C : String} {T : u_T} {N : Nat} {ty0 : Nat → FieldType} (hC : ClOk ci C T N ty0) {k : Nat} {fs : List (Option Nat)} (hs : sh[k]? = some (.inr (ci, fs))) {index : Nat} (j : Nat) (hj : j < N) (hl : Cond.fieldLink own index (T j).1 (T j).2.1 (T j).2.2.1 ∈ TB) (hf : fs[j]? = some none) (hfin : (T j).2.2.2 = false) {ty : FieldType} (hty : parseFieldDescriptor (T j).2.2.1 = some ty) {v : Int32} (hn : narrow ty (.int v) = .int v) (hfit : fits ty (.int v) = true) (hd : decode cc pc = .ok (.putfield index, 3)) (kk : Cp M w sh nL ι (pc + 3) lv st (up2 σ k j v) b) : Cp M w sh nL ι pc lv (.int v :: .ref (wad w k) :: st) σ b := fun a ha ls H locs hlv hP hS => by
  refine va_put (ci := ci) (fs := fs.mapIdx (fv (wad w) (σ k))) X.x X.b X.t hC.2.1 ty0 hC.2.2.1 hC.2.2.2 X.o X.k hP (X.ok.D σ) hS k (wM_at hs) hC.1 j hj (X.t _ hl) (fun _ h => h) hfin hty hn hfit (by rw [List.length_mapIdx]; exact (List.getElem?_eq_some_iff.mp hf).1) hd (fun H1 locs1 hP1 _ hS1 => ?_)
  refine kk a ha ls H1 locs1 hlv ?_ hS1
  rw [wM_set (f := upd (σ k) j v) hs (by rw [fv_set hf]; rfl)] at hP1
  exact hP1
theorem Cp.putI (X : Cx M w sh cc nL own ret d) {ci : Nat} {C : String} {T : u_T} {N : Nat} {ty0 : Nat → FieldType} (hC : ClOk ci C T N ty0) {k : Nat} {fs : List (Option Nat)} (hs : sh[k]? = some (.inr (ci, fs))) {index : Nat} (j : Nat) (hj : j < N) (hl : Cond.fieldLink own index (T j).1 (T j).2.1 (T j).2.2.1 ∈ TB) (hf : fs[j]? = some none) (hfin : (T j).2.2.2 = false) (hty : parseFieldDescriptor (T j).2.2.1 = some .int) {v : Int32} (hd : decode cc pc = .ok (.putfield index, 3)) (kk : Cp M w sh nL ι (pc + 3) lv st (up2 σ k j v) b) : Cp M w sh nL ι pc lv (.int v :: .ref (wad w k) :: st) σ b := Cp.putV X hC hs j hj hl hf hfin hty rfl rfl hd kk
theorem Cp.putZ (X : Cx M w sh cc nL own ret d) {ci : Nat} {C : String} {T : u_T} {N : Nat} {ty0 : Nat → FieldType} (hC : ClOk ci C T N ty0) {k : Nat} {fs : List (Option Nat)} (hs : sh[k]? = some (.inr (ci, fs))) {index : Nat} (j : Nat) (hj : j < N) (hl : Cond.fieldLink own index (T j).1 (T j).2.1 (T j).2.2.1 ∈ TB) (hf : fs[j]? = some none) (hfin : (T j).2.2.2 = false) (hty : parseFieldDescriptor (T j).2.2.1 = some .boolean) {v : Int32} (hd : decode cc pc = .ok (.putfield index, 3)) (kk : Cp M w sh nL ι (pc + 3) lv st (up2 σ k j v) b) : Cp M w sh nL ι pc lv (.int v :: .ref (wad w k) :: st) σ (gd (v = 0 ∨ v = 1) b) := Cp.grd (fun h => by
  rcases h with rfl | rfl
  · exact Cp.putV X hC hs j hj hl hf hfin hty (by decide +kernel) (by decide +kernel) hd kk
  · exact Cp.putV X hC hs j hj hl hf hfin hty (by decide +kernel) (by decide +kernel) hd kk)
theorem Cp.putZc (X : Cx M w sh cc nL own ret d) {ci : Nat} {C : String} {T : u_T} {N : Nat} {ty0 : Nat → FieldType} (hC : ClOk ci C T N ty0) {k : Nat} {fs : List (Option Nat)} (hs : sh[k]? = some (.inr (ci, fs))) {index : Nat} (j : Nat) (hj : j < N) (hl : Cond.fieldLink own index (T j).1 (T j).2.1 (T j).2.2.1 ∈ TB) (hf : fs[j]? = some none) (hfin : (T j).2.2.2 = false) (hty : parseFieldDescriptor (T j).2.2.1 = some .boolean) {v : Int32} (hv : v = 0 ∨ v = 1) (hd : decode cc pc = .ok (.putfield index, 3)) (kk : Cp M w sh nL ι (pc + 3) lv st (up2 σ k j v) b) : Cp M w sh nL ι pc lv (.int v :: .ref (wad w k) :: st) σ b := by
  have h := Cp.putZ X hC hs j hj hl hf hfin hty hd kk
  rw [gd_t hv] at h
  exact h
theorem Cp.getIN (X : Cx M w sh cc nL own ret d) {ci : Nat} {C : String} {T : u_T} {N : Nat} {ty0 : Nat → FieldType} (hC : ClOk ci C T N ty0) {k : Nat} {fs : List (Option Nat)} (hs : sh[k]? = some (.inr (ci, fs))) {index : Nat} {host : String} (j : Nat) (hj : j < N) (hl : Cond.fieldLinkNest own index (T j).1 (T j).2.1 (T j).2.2.1 host ∈ TB) (hf : fs[j]? = some none) (hd : decode cc pc = .ok (.getfield index, 3)) (kk : Cp M w sh nL ι (pc + 3) lv (.int (σ k j) :: st) σ b) : Cp M w sh nL ι pc lv (.ref (wad w k) :: st) σ b := fun a ha ls H locs hlv hP hS => va_getN (ci := ci) (fs := fs.mapIdx (fv (wad w) (σ k))) X.x X.b X.t hC.2.1 X.o X.k hP k (wM_at hs) hC.1 j hj (X.t _ hl) (fun _ h => h) (by rw [List.getElem?_mapIdx, hf]; rfl) hd (kk a ha ls H locs hlv hP hS)
theorem Cp.getRN (X : Cx M w sh cc nL own ret d) {ci : Nat} {C : String} {T : u_T} {N : Nat} {ty0 : Nat → FieldType} (hC : ClOk ci C T N ty0) {k q : Nat} {fs : List (Option Nat)} (hs : sh[k]? = some (.inr (ci, fs))) {index : Nat} {host : String} (j : Nat) (hj : j < N) (hl : Cond.fieldLinkNest own index (T j).1 (T j).2.1 (T j).2.2.1 host ∈ TB) (hf : fs[j]? = some (some q)) (hd : decode cc pc = .ok (.getfield index, 3)) (kk : Cp M w sh nL ι (pc + 3) lv (.ref (wad w q) :: st) σ b) : Cp M w sh nL ι pc lv (.ref (wad w k) :: st) σ b := fun a ha ls H locs hlv hP hS => va_getN (ci := ci) (fs := fs.mapIdx (fv (wad w) (σ k))) X.x X.b X.t hC.2.1 X.o X.k hP k (wM_at hs) hC.1 j hj (X.t _ hl) (fun _ h => h) (by rw [List.getElem?_mapIdx, hf]; rfl) hd (kk a ha ls H locs hlv hP hS)
theorem Cp.putVN (X : Cx M w sh cc nL own ret d) {ci : Nat} {C : String} {T : u_T} {N : Nat} {ty0 : Nat → FieldType} (hC : ClOk ci C T N ty0) {k : Nat} {fs : List (Option Nat)} (hs : sh[k]? = some (.inr (ci, fs))) {index : Nat} {host : String} (j : Nat) (hj : j < N) (hl : Cond.fieldLinkNest own index (T j).1 (T j).2.1 (T j).2.2.1 host ∈ TB) (hf : fs[j]? = some none) (hfin : (T j).2.2.2 = false) {ty : FieldType} (hty : parseFieldDescriptor (T j).2.2.1 = some ty) {v : Int32} (hn : narrow ty (.int v) = .int v) (hfit : fits ty (.int v) = true) (hd : decode cc pc = .ok (.putfield index, 3)) (kk : Cp M w sh nL ι (pc + 3) lv st (up2 σ k j v) b) : Cp M w sh nL ι pc lv (.int v :: .ref (wad w k) :: st) σ b := fun a ha ls H locs hlv hP hS => by
  refine va_putN (ci := ci) (fs := fs.mapIdx (fv (wad w) (σ k))) X.x X.b X.t hC.2.1 ty0 hC.2.2.1 hC.2.2.2 X.o X.k hP (X.ok.D σ) hS k (wM_at hs) hC.1 j hj (X.t _ hl) (fun _ h => h) hfin hty hn hfit (by rw [List.length_mapIdx]; exact (List.getElem?_eq_some_iff.mp hf).1) hd (fun H1 locs1 hP1 _ hS1 => ?_)
  refine kk a ha ls H1 locs1 hlv ?_ hS1
  rw [wM_set (f := upd (σ k) j v) hs (by rw [fv_set hf]; rfl)] at hP1
  exact hP1
theorem Cp.putIN (X : Cx M w sh cc nL own ret d) {ci : Nat} {C : String} {T : u_T} {N : Nat} {ty0 : Nat → FieldType} (hC : ClOk ci C T N ty0) {k : Nat} {fs : List (Option Nat)} (hs : sh[k]? = some (.inr (ci, fs))) {index : Nat} {host : String} (j : Nat) (hj : j < N) (hl : Cond.fieldLinkNest own index (T j).1 (T j).2.1 (T j).2.2.1 host ∈ TB) (hf : fs[j]? = some none) (hfin : (T j).2.2.2 = false) (hty : parseFieldDescriptor (T j).2.2.1 = some .int) {v : Int32} (hd : decode cc pc = .ok (.putfield index, 3)) (kk : Cp M w sh nL ι (pc + 3) lv st (up2 σ k j v) b) : Cp M w sh nL ι pc lv (.int v :: .ref (wad w k) :: st) σ b := Cp.putVN X hC hs j hj hl hf hfin hty rfl rfl hd kk
theorem Cp.putZN (X : Cx M w sh cc nL own ret d) {ci : Nat} {C : String} {T : u_T} {N : Nat} {ty0 : Nat → FieldType} (hC : ClOk ci C T N ty0) {k : Nat} {fs : List (Option Nat)} (hs : sh[k]? = some (.inr (ci, fs))) {index : Nat} {host : String} (j : Nat) (hj : j < N) (hl : Cond.fieldLinkNest own index (T j).1 (T j).2.1 (T j).2.2.1 host ∈ TB) (hf : fs[j]? = some none) (hfin : (T j).2.2.2 = false) (hty : parseFieldDescriptor (T j).2.2.1 = some .boolean) {v : Int32} (hd : decode cc pc = .ok (.putfield index, 3)) (kk : Cp M w sh nL ι (pc + 3) lv st (up2 σ k j v) b) : Cp M w sh nL ι pc lv (.int v :: .ref (wad w k) :: st) σ (gd (v = 0 ∨ v = 1) b) := Cp.grd (fun h => by
  rcases h with rfl | rfl
  · exact Cp.putVN X hC hs j hj hl hf hfin hty (by decide +kernel) (by decide +kernel) hd kk
  · exact Cp.putVN X hC hs j hj hl hf hfin hty (by decide +kernel) (by decide +kernel) hd kk)
theorem Cp.putZcN (X : Cx M w sh cc nL own ret d) {ci : Nat} {C : String} {T : u_T} {N : Nat} {ty0 : Nat → FieldType} (hC : ClOk ci C T N ty0) {k : Nat} {fs : List (Option Nat)} (hs : sh[k]? = some (.inr (ci, fs))) {index : Nat} {host : String} (j : Nat) (hj : j < N) (hl : Cond.fieldLinkNest own index (T j).1 (T j).2.1 (T j).2.2.1 host ∈ TB) (hf : fs[j]? = some none) (hfin : (T j).2.2.2 = false) (hty : parseFieldDescriptor (T j).2.2.1 = some .boolean) {v : Int32} (hv : v = 0 ∨ v = 1) (hd : decode cc pc = .ok (.putfield index, 3)) (kk : Cp M w sh nL ι (pc + 3) lv st (up2 σ k j v) b) : Cp M w sh nL ι pc lv (.int v :: .ref (wad w k) :: st) σ b := by
  have h := Cp.putZN X hC hs j hj hl hf hfin hty hd kk
  rw [gd_t hv] at h
  exact h
theorem Cp.iald (X : Cx M w sh cc nL own ret d) {k n b0 : Nat} (hs : sh[k]? = some (.inl (0, n, b0))) {i : Int32} (hd : decode cc pc = .ok (.iaload, 1)) (kk : Cp M w sh nL ι (pc + 1) lv (.int (σ k i.toNatClampNeg) :: st) σ b) : Cp M w sh nL ι pc lv (.int i :: .ref (wad w k) :: st) σ (gd (inB i n = true) b) := Cp.grd (fun h a ha ls H locs hlv hP hS => va_iald (n := n) (f := σ k) X.x X.b X.k hP k 0 (wM_at hs) rfl (inB_vp h) hd (kk a ha ls H locs hlv hP hS))
theorem Cp.ialdc (X : Cx M w sh cc nL own ret d) {k n b0 : Nat} (hs : sh[k]? = some (.inl (0, n, b0))) {i : Int32} {j : Nat} (hi : inB i n = true) (hj : i.toNatClampNeg = j) (hd : decode cc pc = .ok (.iaload, 1)) (kk : Cp M w sh nL ι (pc + 1) lv (.int (σ k j) :: st) σ b) : Cp M w sh nL ι pc lv (.int i :: .ref (wad w k) :: st) σ b := by
  subst hj
  have h := Cp.iald X hs hd kk
  rw [gd_t hi] at h
  exact h
theorem Cp.bald (X : Cx M w sh cc nL own ret d) {k n b0 : Nat} (hs : sh[k]? = some (.inl (1, n, b0))) {i : Int32} (hd : decode cc pc = .ok (.baload, 1)) (kk : Cp M w sh nL ι (pc + 1) lv (.int (σ k i.toNatClampNeg) :: st) σ b) : Cp M w sh nL ι pc lv (.int i :: .ref (wad w k) :: st) σ (gd (inB i n = true) b) := Cp.grd (fun h a ha ls H locs hlv hP hS => va_bald (n := n) (f := σ k) X.x X.b X.k hP k 1 (wM_at hs) rfl (inB_vp h) hd (kk a ha ls H locs hlv hP hS))
theorem Cp.aald (X : Cx M w sh cc nL own ret d) {k n b0 : Nat} (hs : sh[k]? = some (.inl (2, n, b0))) {i : Int32} (hd : decode cc pc = .ok (.aaload, 1)) (kk : Cp M w sh nL ι (pc + 1) lv (.ref (wad w (b0 + 2 * i.toNatClampNeg)) :: st) σ b) : Cp M w sh nL ι pc lv (.int i :: .ref (wad w k) :: st) σ (gd (inB i n = true) b) := Cp.grd (fun h a ha ls H locs hlv hP hS => va_aldq (n := n) (f := fun j => some (wad w (b0 + 2 * j))) X.x X.b X.k hP k 2 (wM_at hs) rfl (inB_vp h) hd (kk a ha ls H locs hlv hP hS))
theorem Cp.iast (X : Cx M w sh cc nL own ret d) {k n b0 : Nat} (hs : sh[k]? = some (.inl (0, n, b0))) {i x : Int32} (hd : decode cc pc = .ok (.iastore, 1)) (kk : Cp M w sh nL ι (pc + 1) lv st (up2 σ k i.toNatClampNeg x) b) : Cp M w sh nL ι pc lv (.int x :: .int i :: .ref (wad w k) :: st) σ (gd (inB i n = true) b) := Cp.grd (fun h a ha ls H locs hlv hP hS => va_iast (n := n) (f := σ k) X.x X.b X.k hP (X.ok.D σ) hS k 0 (wM_at hs) rfl (inB_vp h) hd (fun H1 locs1 hP1 _ hS1 => kk a ha ls H1 locs1 hlv (by rw [wM_set (e := .inl (wI w, n, .inl (upd (σ k) i.toNatClampNeg x))) (f := upd (σ k) i.toNatClampNeg x) hs rfl] at hP1; exact hP1) hS1))
theorem Cp.iastc (X : Cx M w sh cc nL own ret d) {k n b0 : Nat} (hs : sh[k]? = some (.inl (0, n, b0))) {i x : Int32} {j : Nat} (hi : inB i n = true) (hj : i.toNatClampNeg = j) (hd : decode cc pc = .ok (.iastore, 1)) (kk : Cp M w sh nL ι (pc + 1) lv st (up2 σ k j x) b) : Cp M w sh nL ι pc lv (.int x :: .int i :: .ref (wad w k) :: st) σ b := by
  subst hj
  have h := Cp.iast X hs hd kk
  rw [gd_t hi] at h
  exact h
theorem Cp.bast (X : Cx M w sh cc nL own ret d) {k n b0 : Nat} (hs : sh[k]? = some (.inl (1, n, b0))) {i x : Int32} (hd : decode cc pc = .ok (.bastore, 1)) (kk : Cp M w sh nL ι (pc + 1) lv st (up2 σ k i.toNatClampNeg (vp_nar .byte x)) b) : Cp M w sh nL ι pc lv (.int x :: .int i :: .ref (wad w k) :: st) σ (gd (inB i n = true) b) := Cp.grd (fun h a ha ls H locs hlv hP hS => va_bast (n := n) (f := σ k) X.x X.b X.k hP (X.ok.D σ) hS k 1 (wM_at hs) rfl (inB_vp h) hd (fun H1 locs1 hP1 _ hS1 => kk a ha ls H1 locs1 hlv (by rw [wM_set (e := .inl (wB w, n, .inl (upd (σ k) i.toNatClampNeg (vp_nar .byte x)))) (f := upd (σ k) i.toNatClampNeg (vp_nar .byte x)) hs rfl] at hP1; exact hP1) hS1))
theorem Cp.nameI {e : Int32} {f : Int32 → Option α} (k : ∀ x, Cp M w sh nL ι pc lv (.int x :: st) σ (f x)) : Cp M w sh nL ι pc lv (.int e :: st) σ (pb e f) := k e
theorem Cp.nameB {e : Bool} {f : Bool → Option α} (k : ∀ x, Cp M w sh nL ι pc lv (.int (b2i x) :: st) σ (f x)) : Cp M w sh nL ι pc lv (.int (b2i e) :: st) σ (pb e f) := k e
theorem Cp.nameL {e : Int64} {f : Int64 → Option α} (k : ∀ x, Cp M w sh nL ι pc lv (.long x :: st) σ (f x)) : Cp M w sh nL ι pc lv (.long e :: st) σ (pb e f) := k e
theorem Cp.nameIT {e : Int32} {f : Int32 → α} (k : ∀ x, Cp M w sh nL ι pc lv (.int x :: st) σ (some (f x))) : Cp M w sh nL ι pc lv (.int e :: st) σ (some (pb e f)) := k e
theorem Cp.nameBT {e : Bool} {f : Bool → α} (k : ∀ x, Cp M w sh nL ι pc lv (.int (b2i x) :: st) σ (some (f x))) : Cp M w sh nL ι pc lv (.int (b2i e) :: st) σ (some (pb e f)) := k e
theorem Cp.nameLT {e : Int64} {f : Int64 → α} (k : ∀ x, Cp M w sh nL ι pc lv (.long x :: st) σ (some (f x))) : Cp M w sh nL ι pc lv (.long e :: st) σ (some (pb e f)) := k e
theorem Cp.ite {c : Prop} [Decidable c] {b1 b2 : Option α} (kt : c → Cp M w sh nL ι pc lv st σ b1) (kf : ¬ c → Cp M w sh nL ι pc lv st σ b2) : Cp M w sh nL ι pc lv st σ (if c then b1 else b2) := by
  split
  · rename_i h; exact kt h
  · rename_i h; exact kf h
theorem Cp.iteT {c : Prop} [Decidable c] {v1 v2 : α} (kt : c → Cp M w sh nL ι pc lv st σ (some v1)) (kf : ¬ c → Cp M w sh nL ι pc lv st σ (some v2)) : Cp M w sh nL ι pc lv st σ (some (if c then v1 else v2)) := by
  split
  · rename_i h; exact kt h
  · rename_i h; exact kf h
theorem Cp.tswI (X : Cx M w sh cc nL own ret d) {x : Int32} {dflt lo hi off : Int} {offs : Array Int} {len : Nat} (v : Int32) (tgt : Nat) (h : x = v) (hd : decode cc pc = .ok (.tableswitch dflt lo hi offs, len)) (h1 : ¬ v.toInt < lo) (h2 : ¬ hi < v.toInt) (ho : offs[(v.toInt - lo).toNat]? = some off) (ht : (pc : Int) + off = (tgt : Int)) (k : Cp M w sh nL ι tgt lv st σ b) : Cp M w sh nL ι pc lv (.int x :: st) σ b := fun a ha ls H locs hl hP hS => by
  subst h
  exact lv_tableIn X.x X.b hd h1 h2 ho ht (k a ha ls H locs hl hP hS)
theorem Cp.tswD (X : Cx M w sh cc nL own ret d) {x : Int32} {dflt lo hi : Int} {offs : Array Int} {len : Nat} (tgt : Nat) (h : x.toInt < lo ∨ hi < x.toInt) (hd : decode cc pc = .ok (.tableswitch dflt lo hi offs, len)) (ht : (pc : Int) + dflt = (tgt : Int)) (k : Cp M w sh nL ι tgt lv st σ b) : Cp M w sh nL ι pc lv (.int x :: st) σ b := fun a ha ls H locs hl hP hS => lv_tableOut X.x X.b hd h ht (k a ha ls H locs hl hP hS)
theorem Cp.idivg (X : Cx M w sh cc nL own ret d) {x y : Int32} (hd : decode cc pc = .ok (.idiv, 1)) (k : Cp M w sh nL ι (pc + 1) lv (.int (x / y) :: st) σ b) : Cp M w sh nL ι pc lv (.int y :: .int x :: st) σ (gd (¬ y = 0) b) := Cp.grd (fun h => Cp.idiv X hd h k)
theorem Cp.iremg (X : Cx M w sh cc nL own ret d) {x y : Int32} (hd : decode cc pc = .ok (.irem, 1)) (k : Cp M w sh nL ι (pc + 1) lv (.int (x - x / y * y) :: st) σ b) : Cp M w sh nL ι pc lv (.int y :: .int x :: st) σ (gd (¬ y = 0) b) := Cp.grd (fun h => Cp.irem X hd h k)
theorem Cp.ldivg (X : Cx M w sh cc nL own ret d) {x y : Int64} (hd : decode cc pc = .ok (.ldiv, 1)) (k : Cp M w sh nL ι (pc + 1) lv (.long (x / y) :: st) σ b) : Cp M w sh nL ι pc lv (.long y :: .long x :: st) σ (gd (¬ y = 0) b) := Cp.grd (fun h => Cp.ldiv X hd h k)
theorem Cp.lremg (X : Cx M w sh cc nL own ret d) {x y : Int64} (hd : decode cc pc = .ok (.lrem, 1)) (k : Cp M w sh nL ι (pc + 1) lv (.long (x - x / y * y) :: st) σ b) : Cp M w sh nL ι pc lv (.long y :: .long x :: st) σ (gd (¬ y = 0) b) := Cp.grd (fun h => Cp.lrem X hd h k)
/-! returns -/
theorem Cp.iret (X : Cx M w sh cc nL own (some .int) d) {v : Int32} {a : α} (hd : decode cc pc = .ok (.ireturn, 1)) (hι : ι a = (some (.int v), σ)) : Cp M w sh nL ι pc lv [.int v] σ (some a) := fun a' ha ls H locs hlv hP hS => by
  cases ha
  rw [hι]
  exact W.iret X.x X.b X.r (fun t ht _ => ⟨rfl, by rw [ht]; exact hP, hS.F ht⟩) hS.2.2 hd X.lk
theorem Cp.zret {ty : FieldType} (X : Cx M w sh cc nL own (some ty) d) {v : Int32} {a : α} (hn : narrow ty (.int v) = .int v) (hd : decode cc pc = .ok (.ireturn, 1)) (hι : ι a = (some (.int v), σ)) : Cp M w sh nL ι pc lv [.int v] σ (some a) := fun a' ha ls H locs hlv hP hS => by
  cases ha
  rw [hι]
  exact W.zret X.x X.b X.r hn (fun t ht _ => ⟨rfl, by rw [ht]; exact hP, hS.F ht⟩) hS.2.2 hd X.lk
theorem nar_b2i (v : Bool) : narrow .boolean (.int (b2i v)) = .int (b2i v) := by cases v <;> decide +kernel
theorem Cp.bret (X : Cx M w sh cc nL own (some .boolean) d) {v : Bool} {a : α} (hd : decode cc pc = .ok (.ireturn, 1)) (hι : ι a = (some (.int (b2i v)), σ)) : Cp M w sh nL ι pc lv [.int (b2i v)] σ (some a) := Cp.zret X (nar_b2i v) hd hι
theorem Cp.bretI (X : Cx M w sh cc nL own (some .boolean) d) {v : Int32} {g : Bool → α} (hd : decode cc pc = .ok (.ireturn, 1)) (hι : ∀ x : Bool, ι (g x) = (some (.int (b2i x)), σ)) : Cp M w sh nL ι pc lv [.int v] σ (gd (v = 0 ∨ v = 1) (some (g (decide (v = 1))))) := Cp.grd (fun h => by
  rcases h with rfl | rfl
  · exact Cp.bret X (v := false) hd (hι _)
  · exact Cp.bret X (v := true) hd (hι _))
theorem Cp.lret (X : Cx M w sh cc nL own (some .long) d) {v : Int64} {a : α} (hd : decode cc pc = .ok (.lreturn, 1)) (hι : ι a = (some (.long v), σ)) : Cp M w sh nL ι pc lv [.long v] σ (some a) := fun a' ha ls H locs hlv hP hS => by
  cases ha
  rw [hι]
  exact W.lret X.x X.b X.r (fun t ht _ => ⟨rfl, by rw [ht]; exact hP, hS.F ht⟩) hS.2.2 hd X.lk
theorem Cp.vret (X : Cx M w sh cc nL own none d) {a : α} (hd : decode cc pc = .ok (.return_, 1)) (hι : ι a = (none, σ)) : Cp M w sh nL ι pc lv [] σ (some a) := fun a' ha ls H locs hlv hP hS => by
  cases ha
  rw [hι]
  exact W.vret X.x X.b X.r (fun t ht _ => ⟨rfl, by rw [ht]; exact hP, hS.F ht⟩) hS.2.2 hd X.lk
theorem Cp.aret {n : String} (X : Cx M w sh cc nL own (some (.object n)) d) {v : Nat} {a : α} (hd : decode cc pc = .ok (.areturn, 1)) (hι : ι a = (some (.ref v), σ)) : Cp M w sh nL ι pc lv [.ref v] σ (some a) := fun a' ha ls H locs hlv hP hS => by
  cases ha
  rw [hι]
  exact W.aret X.x X.b X.r (Or.inl ⟨_, rfl⟩) (Or.inr ⟨_, rfl⟩) (fun t ht _ => ⟨rfl, by rw [ht]; exact hP, hS.F ht⟩) hS.2.2 hd X.lk
end
/-! contracts and calls -/
def PcM (w : WE) (sh : List Shp) (σ : Mem) (U : State) : Prop := Wd w sh σ U.heap ∧ va_K (wD w) vwCl (tysW w) U ∧ wa0 w ≤ U.heap.size ∧ Ext w U U.heap
def Ctr (l : Launch) (w : WE) (sh : List Shp) (y : MethodName) (cc : ByteArray) (nL : Nat) (ret : Option FieldType) (d : Nat) (av : List Value) (σ : Mem) (z : Option Value × Mem) : Prop := Met l y (Cond.code y cc nL ret :: TB) (rmD d) (va_Pc av (PcM w sh σ)) (QcM w sh z) 0 0 (AA w)
theorem Ctr.of {l : Launch} {w : WE} {sh : List Shp} {y : MethodName} {cc : ByteArray} {nL : Nat} {ret : Option FieldType} {d : Nat} {av : List Value} {σ : Mem} {z : Option Value × Mem} (lv0 : List (Option Value)) (hy : plainName y.cls = true) (hok : OkW w sh) (hlv : lv_args 0 av = lvl 0 lv0) (hlen : (lg_sl av).length ≤ nL) (h : ∀ M : MC, ml M = l → Cx M w sh cc nL y.cls ret d → St M w sh nL z 0 lv0 [] σ) : Ctr l w sh y cc nL ret d av σ z := by
  refine Met.ofW (cc := cc) (maxL := nL) (ret := ret) hy rfl ?_
  intro p e s m args below meth c s₁ B hml hv
  obtain ⟨rfl, hP, hK, ha0, hE⟩ := hv
  have hts := atoms_spec (ws := Cond.code y cc nL ret :: TB) B.pre
  have hown : s.vm.findClass y.cls = some m.cls := findClass_of_methodNamed B.named
  have hl := lv_entry av (n := nL) hlen
  rw [lg_entry_eq]
  rw [hlv] at hl
  exact h (p, l, e, rmD d, s, m, av.toArray, below, meth, c) rfl ⟨B.exec, B.bytes, hml, hown, fun x hx => hts x (List.mem_cons_of_mem _ hx), hK, hok, ha0, hE, B.returns, B.notSynchronized, rfl⟩ _ s.heap [] hl hP va_S.rf
theorem PcM.blind {w : WE} {sh : List Shp} {σ : Mem} {av : List Value} : FrameBlind (va_Pc av (PcM w sh σ)) := fun a U g mk q => by
  obtain ⟨q0, qP, qK, q1, qE⟩ := q
  exact ⟨q0, qP, va_K.moved (u := U) (U := U.calling g mk a) (Vm.Alike.refl U.vm) qK, q1, Ext.same (u := U) (U := U.calling g mk a) rfl qE⟩
section
variable {M : MC} {w : WE} {sh : List Shp} {cc : ByteArray} {nL : Nat} {own : String} {ret : Option FieldType} {d : Nat} {σ : Mem}
theorem Cx.pre (X : Cx M w sh cc nL own ret d) {H : Heap} {locs : List Loc} (hP : Wd w sh σ H) (hS : va_S (AA w) (mS M).heap H locs) {av : List Value} : ∀ U : State, U.heap = H → (mS M).WarmedH U.vm → va_Pc av (PcM w sh σ) av.toArray U := fun U hU hW => by
  refine ⟨rfl, by rw [hU]; exact hP, va_K.moved hW.alike X.k, by rw [hU]; exact Nat.le_trans X.a0 hS.1, ?_⟩
  rw [hU]
  exact Ext.warm hW (X.e.kept hS.2.1)
/-- behind a call -/
theorem cqM (X : Cx M w sh cc nL own ret d) {H : Heap} {locs : List Loc} {pc : Nat} {ls : Array Slot} {st0 rest : List Value} {a : Array Value} {z : Option Value × Mem} {Q : State → Prop} (hr : va_Run (mp M) (ml M) (me M) (mR M) (mS M) (mm M) (ma M) (mb M) (mt M) (mc M) H locs 0 0 0 0 (F0 (mm M) pc ls st0) rest (QcM w sh z a) (AA w)) (hS : va_S (AA w) (mS M).heap H locs)
    (kk : ∀ (H1 : Heap) (locs1 : List Loc), Wd w sh z.2 H1 → va_S (AA w) (mS M).heap H1 locs1 → WM M H1 locs1 Q (F0 (mm M) (pc + 3) ls (z.1.toList ++ rest))) : WM M H locs Q (F0 (mm M) pc ls st0) := by
  intro T hT XT
  obtain ⟨v, st₀, t, T', L, h0, X', hL, e1, e2, ⟨hv, hP1, hz, hk⟩, stp⟩ := hr T hT XT
  cases hv
  rw [h0] at hz hk
  obtain ⟨t2, a1, b1⟩ := kk T'.heap (locs ++ L) (by rw [e1]; exact hP1)
    ⟨Nat.le_trans hS.1 (by rw [e1]; exact hz), fun q h1 h2 => by rw [e1, hk q (Nat.lt_of_lt_of_le h1 hS.1) h2]; exact hS.2.1 q h1 h2, fun q hq => by
      rcases List.mem_append.mp hq with h | h
      · exact hS.2.2 q h
      · exact hL q h⟩ T' rfl X'
  exact ⟨t2, stp t2 a1, b1⟩
end
/-- what a call needs of the callee -/
def CalB (y : MethodName) (cc' : ByteArray) (nL' : Nat) (ret' : Option FieldType) (n : Nat) : Prop := Cond.code y cc' nL' ret' ∈ TB ∧ Cond.initialized y.cls ∈ TB ∧ y.cls ≠ "java/lang/invoke/MethodHandle" ∧ y.cls ≠ "java/lang/invoke/VarHandle" ∧ (parseMethodDescriptor y.desc).map (fun d => d.parameters.length) = some n
def CalV (y : MethodName) (cc' : ByteArray) (nL' : Nat) (ret' : Option FieldType) (n : Nat) : Prop := CalB y cc' nL' ret' n ∧ Cond.instanceMethod y ∈ TB ∧ Cond.selects y.cls y y ∈ TB
def CalS (y : MethodName) (cc' : ByteArray) (nL' : Nat) (ret' : Option FieldType) (n : Nat) : Prop := CalB y cc' nL' ret' n ∧ Cond.static y ∈ TB
theorem CalB.len {y : MethodName} {cc' : ByteArray} {nL' : Nat} {ret' : Option FieldType} {n : Nat} (h : CalB y cc' nL' ret' n) : ∀ sig, parseMethodDescriptor y.desc = some sig → n = sig.parameters.length := fun sig hs => by
  have h2 := h.2.2.2.2
  rw [hs] at h2
  exact (Option.some.inj h2).symm
/-- room for a call -/
def fitR (d d' nL' : Nat) : Bool := decide (d' + 1 ≤ d) && decide (8 + (nL' + 11) + 36 * d' ≤ 36 * d)
theorem fitR_1 {d d' nL' : Nat} (h : fitR d d' nL' = true) : d' + 1 ≤ d ∧ 8 + (nL' + 11) + 36 * d' ≤ 36 * d := by simpa [fitR] using h
section
variable {M : MC} {w : WE} {sh : List Shp} {cc : ByteArray} {nL : Nat} {own : String} {ret : Option FieldType} {d : Nat} {σ : Mem} {y : MethodName} {cc' : ByteArray} {nL' : Nat} {ret' : Option FieldType} {d' : Nat} {z : Option Value × Mem} {Q : State → Prop} {pc n index : Nat} {ls : Array Slot} {H : Heap} {locs : List Loc} {rest : List Value}
theorem warmTB (X : Cx M w sh cc nL own ret d) (hc : Cond.code y cc' nL' ret' ∈ TB) : ∀ x ∈ (Cond.code y cc' nL' ret' :: TB), ∀ (a' : Array Value) (U : State), (mS M).WarmedH U.vm → x.before a' U = true := fun x hx a' U hW => by
  have hx2 : x ∈ TB := by
    rcases List.mem_cons.mp hx with rfl | h
    · exact hc
    · exact h
  exact tb_warm X.t hW x hx2
theorem runVM (X : Cx M w sh cc nL own ret d) {k ci : Nat} {q : vw_C} {fs : List (Option Nat)} {As : List Value} (hC : CalV y cc' nL' ret' n) (hk : Ctr (ml M) w sh y cc' nL' ret' d' (.ref (wad w k) :: As) σ z) (hs : sh[k]? = some (.inr (ci, fs))) (hq : vwCl[ci]? = some q) (hq1 : q.1 = y.cls) (hl : Cond.methodLink own index y ∈ TB) (hf : fitR d d' nL' = true) (hn : As.length = n) (hd : decode cc pc = .ok (.invokevirtual index, 3)) (hsum : (rest.map fun v => v.category).sum ≤ 8) (hlv : ls.size = nL) (hP : Wd w sh σ H) (hS : va_S (AA w) (mS M).heap H locs)
    (kk : ∀ (H1 : Heap) (locs1 : List Loc), Wd w sh z.2 H1 → va_S (AA w) (mS M).heap H1 locs1 → WM M H1 locs1 Q (F0 (mm M) (pc + 3) ls (z.1.toList ++ rest))) : WM M H locs Q (F0 (mm M) pc ls (As.reverse ++ .ref (wad w k) :: rest)) := by
  obtain ⟨r1, r2⟩ := fitR_1 hf
  refine cqM X (va_runV (C := y.cls) (As := As) (rest := rest) ⟨X.x, X.b, X.ml, X.o, X.t⟩ hk ⟨⟨rfl, rfl, by rw [X.R]; exact r1, by rw [X.R]; exact r2, warmTB X hC.1.1, List.mem_cons_self, X.t _ hC.1.1, X.t _ hC.1.2.1, ⟨hC.1.2.2.1, hC.1.2.2.2.1⟩, hC.1.len, X.t _ hl⟩, X.t _ hC.2.1, X.t _ hC.2.2⟩ ⟨PcM.blind, ?_, X.pre hP hS⟩ rfl hn hlv rfl (lv_room hsum) hd (by rw [X.R]; exact ⟨Nat.le_refl _, Nat.le_refl _⟩)) hS kk
  have h := va_recv X.k hP hq (wM_at (w := w) (σ := σ) hs)
  rw [hq1] at h
  exact h
theorem runSM (X : Cx M w sh cc nL own ret d) {As : List Value} (hC : CalS y cc' nL' ret' n) (hk : Ctr (ml M) w sh y cc' nL' ret' d' As σ z) (hl : Cond.methodLink own index y ∈ TB) (hf : fitR d d' nL' = true) (hn : As.length = n) (hd : decode cc pc = .ok (.invokestatic index, 3)) (hsum : (rest.map fun v => v.category).sum ≤ 8) (hlv : ls.size = nL) (hP : Wd w sh σ H) (hS : va_S (AA w) (mS M).heap H locs)
    (kk : ∀ (H1 : Heap) (locs1 : List Loc), Wd w sh z.2 H1 → va_S (AA w) (mS M).heap H1 locs1 → WM M H1 locs1 Q (F0 (mm M) (pc + 3) ls (z.1.toList ++ rest))) : WM M H locs Q (F0 (mm M) pc ls (As.reverse ++ rest)) := by
  obtain ⟨r1, r2⟩ := fitR_1 hf
  exact cqM X (va_runS (As := As) (rest := rest) ⟨X.x, X.b, X.ml, X.o, X.t⟩ hk ⟨⟨rfl, rfl, by rw [X.R]; exact r1, by rw [X.R]; exact r2, warmTB X hC.1.1, List.mem_cons_self, X.t _ hC.1.1, X.t _ hC.1.2.1, ⟨hC.1.2.2.1, hC.1.2.2.2.1⟩, hC.1.len, X.t _ hl⟩, X.t _ hC.2⟩ ⟨PcM.blind, X.pre hP hS⟩ rfl hn hlv rfl (lv_room hsum) hd (by rw [X.R]; exact ⟨Nat.le_refl _, Nat.le_refl _⟩)) hS kk
theorem runSNM (X : Cx M w sh cc nL own ret d) {host : String} {As : List Value} (hC : CalS y cc' nL' ret' n) (hk : Ctr (ml M) w sh y cc' nL' ret' d' As σ z) (hl : Cond.methodLinkNest own index y host ∈ TB) (hf : fitR d d' nL' = true) (hn : As.length = n) (hd : decode cc pc = .ok (.invokestatic index, 3)) (hsum : (rest.map fun v => v.category).sum ≤ 8) (hlv : ls.size = nL) (hP : Wd w sh σ H) (hS : va_S (AA w) (mS M).heap H locs)
    (kk : ∀ (H1 : Heap) (locs1 : List Loc), Wd w sh z.2 H1 → va_S (AA w) (mS M).heap H1 locs1 → WM M H1 locs1 Q (F0 (mm M) (pc + 3) ls (z.1.toList ++ rest))) : WM M H locs Q (F0 (mm M) pc ls (As.reverse ++ rest)) := by
  obtain ⟨r1, r2⟩ := fitR_1 hf
  exact cqM X (va_runSN (As := As) (rest := rest) ⟨X.x, X.b, X.ml, X.o, X.t⟩ hk ⟨⟨⟨rfl, rfl, by rw [X.R]; exact r1, by rw [X.R]; exact r2, warmTB X hC.1.1, List.mem_cons_self⟩, X.t _ hC.1.1, X.t _ hC.1.2.1, ⟨hC.1.2.2.1, hC.1.2.2.2.1⟩, hC.1.len, X.t _ hl⟩, X.t _ hC.2, trivial⟩ ⟨PcM.blind, X.pre hP hS⟩ rfl hn hlv rfl (lv_room hsum) hd (by rw [X.R]; exact ⟨Nat.le_refl _, Nat.le_refl _⟩)) hS kk
end
section
variable {M : MC} {w : WE} {sh : List Shp} {cc : ByteArray} {nL : Nat} {own : String} {ret : Option FieldType} {d : Nat} {α : Type} {ι : α → Option Value × Mem} {pc : Nat} {lv : List (Option Value)} {stk : List Value} (st : List Value) {σ : Mem} {b : Option α} {y : MethodName} {cc' : ByteArray} {nL' : Nat} {ret' : Option FieldType} {d' n index : Nat}
theorem Cp.cVI (X : Cx M w sh cc nL own ret d) {k ci : Nat} {q : vw_C} {fs : List (Option Nat)} (As : List Value) (hC : CalV y cc' nL' ret' n) {f : Option Int32} {g : Int32 → Option α} (hk : ∀ v, f = some v → Ctr (ml M) w sh y cc' nL' ret' d' (.ref (wad w k) :: As) σ ((iI σ) v)) (hs : sh[k]? = some (.inr (ci, fs))) (hq : vwCl[ci]? = some q) (hq1 : q.1 = y.cls) (hl : Cond.methodLink own index y ∈ TB) (hf : fitR d d' nL' = true) (hn : As.length = n) (hd : decode cc pc = .ok (.invokevirtual index, 3)) (hstk : stk = As.reverse ++ .ref (wad w k) :: st) (hsum : (st.map fun v => v.category).sum ≤ 8) (kk : ∀ v : Int32, Cp M w sh nL ι (pc + 3) lv (.int v :: st) σ (g v)) : Cp M w sh nL ι pc lv stk σ (f.bind g) := fun a ha ls H locs hlv hP hS => by
  subst hstk
  obtain ⟨z0, h0, h1⟩ := Option.bind_eq_some_iff.mp ha
  exact runVM X hC (hk z0 h0) hs hq hq1 hl hf hn hd hsum hlv.1 hP hS (fun H1 locs1 hP1 hS1 => kk z0 a h1 ls H1 locs1 hlv hP1 hS1)
theorem Cp.cVB (X : Cx M w sh cc nL own ret d) {k ci : Nat} {q : vw_C} {fs : List (Option Nat)} (As : List Value) (hC : CalV y cc' nL' ret' n) {f : Option Bool} {g : Bool → Option α} (hk : ∀ v, f = some v → Ctr (ml M) w sh y cc' nL' ret' d' (.ref (wad w k) :: As) σ ((iB σ) v)) (hs : sh[k]? = some (.inr (ci, fs))) (hq : vwCl[ci]? = some q) (hq1 : q.1 = y.cls) (hl : Cond.methodLink own index y ∈ TB) (hf : fitR d d' nL' = true) (hn : As.length = n) (hd : decode cc pc = .ok (.invokevirtual index, 3)) (hstk : stk = As.reverse ++ .ref (wad w k) :: st) (hsum : (st.map fun v => v.category).sum ≤ 8) (kk : ∀ v : Bool, Cp M w sh nL ι (pc + 3) lv (.int (b2i v) :: st) σ (g v)) : Cp M w sh nL ι pc lv stk σ (f.bind g) := fun a ha ls H locs hlv hP hS => by
  subst hstk
  obtain ⟨z0, h0, h1⟩ := Option.bind_eq_some_iff.mp ha
  exact runVM X hC (hk z0 h0) hs hq hq1 hl hf hn hd hsum hlv.1 hP hS (fun H1 locs1 hP1 hS1 => kk z0 a h1 ls H1 locs1 hlv hP1 hS1)
theorem Cp.cVL (X : Cx M w sh cc nL own ret d) {k ci : Nat} {q : vw_C} {fs : List (Option Nat)} (As : List Value) (hC : CalV y cc' nL' ret' n) {f : Option Int64} {g : Int64 → Option α} (hk : ∀ v, f = some v → Ctr (ml M) w sh y cc' nL' ret' d' (.ref (wad w k) :: As) σ ((iL σ) v)) (hs : sh[k]? = some (.inr (ci, fs))) (hq : vwCl[ci]? = some q) (hq1 : q.1 = y.cls) (hl : Cond.methodLink own index y ∈ TB) (hf : fitR d d' nL' = true) (hn : As.length = n) (hd : decode cc pc = .ok (.invokevirtual index, 3)) (hstk : stk = As.reverse ++ .ref (wad w k) :: st) (hsum : (st.map fun v => v.category).sum ≤ 8) (kk : ∀ v : Int64, Cp M w sh nL ι (pc + 3) lv (.long v :: st) σ (g v)) : Cp M w sh nL ι pc lv stk σ (f.bind g) := fun a ha ls H locs hlv hP hS => by
  subst hstk
  obtain ⟨z0, h0, h1⟩ := Option.bind_eq_some_iff.mp ha
  exact runVM X hC (hk z0 h0) hs hq hq1 hl hf hn hd hsum hlv.1 hP hS (fun H1 locs1 hP1 hS1 => kk z0 a h1 ls H1 locs1 hlv hP1 hS1)
theorem Cp.cVIM (X : Cx M w sh cc nL own ret d) {k ci : Nat} {q : vw_C} {fs : List (Option Nat)} (As : List Value) (hC : CalV y cc' nL' ret' n) {f : Option (Int32 × Mem)} {g : Int32 → Mem → Option α} (hk : ∀ v, f = some v → Ctr (ml M) w sh y cc' nL' ret' d' (.ref (wad w k) :: As) σ ((iIM) v)) (hs : sh[k]? = some (.inr (ci, fs))) (hq : vwCl[ci]? = some q) (hq1 : q.1 = y.cls) (hl : Cond.methodLink own index y ∈ TB) (hf : fitR d d' nL' = true) (hn : As.length = n) (hd : decode cc pc = .ok (.invokevirtual index, 3)) (hstk : stk = As.reverse ++ .ref (wad w k) :: st) (hsum : (st.map fun v => v.category).sum ≤ 8) (kk : ∀ (v : Int32) (τ : Mem), Cp M w sh nL ι (pc + 3) lv (.int v :: st) τ (g v τ)) : Cp M w sh nL ι pc lv stk σ (bnd2 f g) := fun a ha ls H locs hlv hP hS => by
  subst hstk
  obtain ⟨z0, h0, h1⟩ := Option.bind_eq_some_iff.mp ha
  exact runVM X hC (hk z0 h0) hs hq hq1 hl hf hn hd hsum hlv.1 hP hS (fun H1 locs1 hP1 hS1 => kk z0.1 z0.2 a h1 ls H1 locs1 hlv hP1 hS1)
theorem Cp.cVBM (X : Cx M w sh cc nL own ret d) {k ci : Nat} {q : vw_C} {fs : List (Option Nat)} (As : List Value) (hC : CalV y cc' nL' ret' n) {f : Option (Bool × Mem)} {g : Bool → Mem → Option α} (hk : ∀ v, f = some v → Ctr (ml M) w sh y cc' nL' ret' d' (.ref (wad w k) :: As) σ ((iBM) v)) (hs : sh[k]? = some (.inr (ci, fs))) (hq : vwCl[ci]? = some q) (hq1 : q.1 = y.cls) (hl : Cond.methodLink own index y ∈ TB) (hf : fitR d d' nL' = true) (hn : As.length = n) (hd : decode cc pc = .ok (.invokevirtual index, 3)) (hstk : stk = As.reverse ++ .ref (wad w k) :: st) (hsum : (st.map fun v => v.category).sum ≤ 8) (kk : ∀ (v : Bool) (τ : Mem), Cp M w sh nL ι (pc + 3) lv (.int (b2i v) :: st) τ (g v τ)) : Cp M w sh nL ι pc lv stk σ (bnd2 f g) := fun a ha ls H locs hlv hP hS => by
  subst hstk
  obtain ⟨z0, h0, h1⟩ := Option.bind_eq_some_iff.mp ha
  exact runVM X hC (hk z0 h0) hs hq hq1 hl hf hn hd hsum hlv.1 hP hS (fun H1 locs1 hP1 hS1 => kk z0.1 z0.2 a h1 ls H1 locs1 hlv hP1 hS1)
theorem Cp.cVV (X : Cx M w sh cc nL own ret d) {k ci : Nat} {q : vw_C} {fs : List (Option Nat)} (As : List Value) (hC : CalV y cc' nL' ret' n) {f : Option Mem} {g : Mem → Option α} (hk : ∀ v, f = some v → Ctr (ml M) w sh y cc' nL' ret' d' (.ref (wad w k) :: As) σ ((iVM) v)) (hs : sh[k]? = some (.inr (ci, fs))) (hq : vwCl[ci]? = some q) (hq1 : q.1 = y.cls) (hl : Cond.methodLink own index y ∈ TB) (hf : fitR d d' nL' = true) (hn : As.length = n) (hd : decode cc pc = .ok (.invokevirtual index, 3)) (hstk : stk = As.reverse ++ .ref (wad w k) :: st) (hsum : (st.map fun v => v.category).sum ≤ 8) (kk : ∀ τ : Mem, Cp M w sh nL ι (pc + 3) lv st τ (g τ)) : Cp M w sh nL ι pc lv stk σ (f.bind g) := fun a ha ls H locs hlv hP hS => by
  subst hstk
  obtain ⟨z0, h0, h1⟩ := Option.bind_eq_some_iff.mp ha
  exact runVM X hC (hk z0 h0) hs hq hq1 hl hf hn hd hsum hlv.1 hP hS (fun H1 locs1 hP1 hS1 => kk z0 a h1 ls H1 locs1 hlv hP1 hS1)
theorem Cp.cVIT (X : Cx M w sh cc nL own ret d) {k ci : Nat} {q : vw_C} {fs : List (Option Nat)} (As : List Value) (hC : CalV y cc' nL' ret' n) {v : Int32} (hk : Ctr (ml M) w sh y cc' nL' ret' d' (.ref (wad w k) :: As) σ (some (.int v), σ)) (hs : sh[k]? = some (.inr (ci, fs))) (hq : vwCl[ci]? = some q) (hq1 : q.1 = y.cls) (hl : Cond.methodLink own index y ∈ TB) (hf : fitR d d' nL' = true) (hn : As.length = n) (hd : decode cc pc = .ok (.invokevirtual index, 3)) (hstk : stk = As.reverse ++ .ref (wad w k) :: st) (hsum : (st.map fun v => v.category).sum ≤ 8) (kk : Cp M w sh nL ι (pc + 3) lv (.int v :: st) σ b) : Cp M w sh nL ι pc lv stk σ b := fun a ha ls H locs hlv hP hS => by subst hstk; exact runVM X hC hk hs hq hq1 hl hf hn hd hsum hlv.1 hP hS (fun H1 locs1 hP1 hS1 => kk a ha ls H1 locs1 hlv hP1 hS1)
theorem Cp.cVBT (X : Cx M w sh cc nL own ret d) {k ci : Nat} {q : vw_C} {fs : List (Option Nat)} (As : List Value) (hC : CalV y cc' nL' ret' n) {v : Bool} (hk : Ctr (ml M) w sh y cc' nL' ret' d' (.ref (wad w k) :: As) σ (some (.int (b2i v)), σ)) (hs : sh[k]? = some (.inr (ci, fs))) (hq : vwCl[ci]? = some q) (hq1 : q.1 = y.cls) (hl : Cond.methodLink own index y ∈ TB) (hf : fitR d d' nL' = true) (hn : As.length = n) (hd : decode cc pc = .ok (.invokevirtual index, 3)) (hstk : stk = As.reverse ++ .ref (wad w k) :: st) (hsum : (st.map fun v => v.category).sum ≤ 8) (kk : Cp M w sh nL ι (pc + 3) lv (.int (b2i v) :: st) σ b) : Cp M w sh nL ι pc lv stk σ b := fun a ha ls H locs hlv hP hS => by subst hstk; exact runVM X hC hk hs hq hq1 hl hf hn hd hsum hlv.1 hP hS (fun H1 locs1 hP1 hS1 => kk a ha ls H1 locs1 hlv hP1 hS1)
theorem Cp.cVLT (X : Cx M w sh cc nL own ret d) {k ci : Nat} {q : vw_C} {fs : List (Option Nat)} (As : List Value) (hC : CalV y cc' nL' ret' n) {v : Int64} (hk : Ctr (ml M) w sh y cc' nL' ret' d' (.ref (wad w k) :: As) σ (some (.long v), σ)) (hs : sh[k]? = some (.inr (ci, fs))) (hq : vwCl[ci]? = some q) (hq1 : q.1 = y.cls) (hl : Cond.methodLink own index y ∈ TB) (hf : fitR d d' nL' = true) (hn : As.length = n) (hd : decode cc pc = .ok (.invokevirtual index, 3)) (hstk : stk = As.reverse ++ .ref (wad w k) :: st) (hsum : (st.map fun v => v.category).sum ≤ 8) (kk : Cp M w sh nL ι (pc + 3) lv (.long v :: st) σ b) : Cp M w sh nL ι pc lv stk σ b := fun a ha ls H locs hlv hP hS => by subst hstk; exact runVM X hC hk hs hq hq1 hl hf hn hd hsum hlv.1 hP hS (fun H1 locs1 hP1 hS1 => kk a ha ls H1 locs1 hlv hP1 hS1)
theorem Cp.cVRT (X : Cx M w sh cc nL own ret d) {k ci : Nat} {q : vw_C} {fs : List (Option Nat)} (As : List Value) (hC : CalV y cc' nL' ret' n) {v : Nat} (hk : Ctr (ml M) w sh y cc' nL' ret' d' (.ref (wad w k) :: As) σ (some (.ref v), σ)) (hs : sh[k]? = some (.inr (ci, fs))) (hq : vwCl[ci]? = some q) (hq1 : q.1 = y.cls) (hl : Cond.methodLink own index y ∈ TB) (hf : fitR d d' nL' = true) (hn : As.length = n) (hd : decode cc pc = .ok (.invokevirtual index, 3)) (hstk : stk = As.reverse ++ .ref (wad w k) :: st) (hsum : (st.map fun v => v.category).sum ≤ 8) (kk : Cp M w sh nL ι (pc + 3) lv (.ref v :: st) σ b) : Cp M w sh nL ι pc lv stk σ b := fun a ha ls H locs hlv hP hS => by subst hstk; exact runVM X hC hk hs hq hq1 hl hf hn hd hsum hlv.1 hP hS (fun H1 locs1 hP1 hS1 => kk a ha ls H1 locs1 hlv hP1 hS1)
theorem Cp.cVVT (X : Cx M w sh cc nL own ret d) {k ci : Nat} {q : vw_C} {fs : List (Option Nat)} (As : List Value) (hC : CalV y cc' nL' ret' n) {τ : Mem} (hk : Ctr (ml M) w sh y cc' nL' ret' d' (.ref (wad w k) :: As) σ (none, τ)) (hs : sh[k]? = some (.inr (ci, fs))) (hq : vwCl[ci]? = some q) (hq1 : q.1 = y.cls) (hl : Cond.methodLink own index y ∈ TB) (hf : fitR d d' nL' = true) (hn : As.length = n) (hd : decode cc pc = .ok (.invokevirtual index, 3)) (hstk : stk = As.reverse ++ .ref (wad w k) :: st) (hsum : (st.map fun v => v.category).sum ≤ 8) (kk : Cp M w sh nL ι (pc + 3) lv st τ b) : Cp M w sh nL ι pc lv stk σ b := fun a ha ls H locs hlv hP hS => by subst hstk; exact runVM X hC hk hs hq hq1 hl hf hn hd hsum hlv.1 hP hS (fun H1 locs1 hP1 hS1 => kk a ha ls H1 locs1 hlv hP1 hS1)
theorem Cp.cVIMT (X : Cx M w sh cc nL own ret d) {k ci : Nat} {q : vw_C} {fs : List (Option Nat)} (As : List Value) (hC : CalV y cc' nL' ret' n) {v : Int32} {τ : Mem} (hk : Ctr (ml M) w sh y cc' nL' ret' d' (.ref (wad w k) :: As) σ (some (.int v), τ)) (hs : sh[k]? = some (.inr (ci, fs))) (hq : vwCl[ci]? = some q) (hq1 : q.1 = y.cls) (hl : Cond.methodLink own index y ∈ TB) (hf : fitR d d' nL' = true) (hn : As.length = n) (hd : decode cc pc = .ok (.invokevirtual index, 3)) (hstk : stk = As.reverse ++ .ref (wad w k) :: st) (hsum : (st.map fun v => v.category).sum ≤ 8) (kk : Cp M w sh nL ι (pc + 3) lv (.int v :: st) τ b) : Cp M w sh nL ι pc lv stk σ b := fun a ha ls H locs hlv hP hS => by subst hstk; exact runVM X hC hk hs hq hq1 hl hf hn hd hsum hlv.1 hP hS (fun H1 locs1 hP1 hS1 => kk a ha ls H1 locs1 hlv hP1 hS1)
theorem Cp.cSI (X : Cx M w sh cc nL own ret d) (As : List Value) (hC : CalS y cc' nL' ret' n) {f : Option Int32} {g : Int32 → Option α} (hk : ∀ v, f = some v → Ctr (ml M) w sh y cc' nL' ret' d' As σ ((iI σ) v)) (hl : Cond.methodLink own index y ∈ TB) (hf : fitR d d' nL' = true) (hn : As.length = n) (hd : decode cc pc = .ok (.invokestatic index, 3)) (hstk : stk = As.reverse ++ st) (hsum : (st.map fun v => v.category).sum ≤ 8) (kk : ∀ v : Int32, Cp M w sh nL ι (pc + 3) lv (.int v :: st) σ (g v)) : Cp M w sh nL ι pc lv stk σ (f.bind g) := fun a ha ls H locs hlv hP hS => by
  subst hstk
  obtain ⟨z0, h0, h1⟩ := Option.bind_eq_some_iff.mp ha
  exact runSM X hC (hk z0 h0) hl hf hn hd hsum hlv.1 hP hS (fun H1 locs1 hP1 hS1 => kk z0 a h1 ls H1 locs1 hlv hP1 hS1)
theorem Cp.cSB (X : Cx M w sh cc nL own ret d) (As : List Value) (hC : CalS y cc' nL' ret' n) {f : Option Bool} {g : Bool → Option α} (hk : ∀ v, f = some v → Ctr (ml M) w sh y cc' nL' ret' d' As σ ((iB σ) v)) (hl : Cond.methodLink own index y ∈ TB) (hf : fitR d d' nL' = true) (hn : As.length = n) (hd : decode cc pc = .ok (.invokestatic index, 3)) (hstk : stk = As.reverse ++ st) (hsum : (st.map fun v => v.category).sum ≤ 8) (kk : ∀ v : Bool, Cp M w sh nL ι (pc + 3) lv (.int (b2i v) :: st) σ (g v)) : Cp M w sh nL ι pc lv stk σ (f.bind g) := fun a ha ls H locs hlv hP hS => by
  subst hstk
  obtain ⟨z0, h0, h1⟩ := Option.bind_eq_some_iff.mp ha
  exact runSM X hC (hk z0 h0) hl hf hn hd hsum hlv.1 hP hS (fun H1 locs1 hP1 hS1 => kk z0 a h1 ls H1 locs1 hlv hP1 hS1)
theorem Cp.cSL (X : Cx M w sh cc nL own ret d) (As : List Value) (hC : CalS y cc' nL' ret' n) {f : Option Int64} {g : Int64 → Option α} (hk : ∀ v, f = some v → Ctr (ml M) w sh y cc' nL' ret' d' As σ ((iL σ) v)) (hl : Cond.methodLink own index y ∈ TB) (hf : fitR d d' nL' = true) (hn : As.length = n) (hd : decode cc pc = .ok (.invokestatic index, 3)) (hstk : stk = As.reverse ++ st) (hsum : (st.map fun v => v.category).sum ≤ 8) (kk : ∀ v : Int64, Cp M w sh nL ι (pc + 3) lv (.long v :: st) σ (g v)) : Cp M w sh nL ι pc lv stk σ (f.bind g) := fun a ha ls H locs hlv hP hS => by
  subst hstk
  obtain ⟨z0, h0, h1⟩ := Option.bind_eq_some_iff.mp ha
  exact runSM X hC (hk z0 h0) hl hf hn hd hsum hlv.1 hP hS (fun H1 locs1 hP1 hS1 => kk z0 a h1 ls H1 locs1 hlv hP1 hS1)
theorem Cp.cSIM (X : Cx M w sh cc nL own ret d) (As : List Value) (hC : CalS y cc' nL' ret' n) {f : Option (Int32 × Mem)} {g : Int32 → Mem → Option α} (hk : ∀ v, f = some v → Ctr (ml M) w sh y cc' nL' ret' d' As σ ((iIM) v)) (hl : Cond.methodLink own index y ∈ TB) (hf : fitR d d' nL' = true) (hn : As.length = n) (hd : decode cc pc = .ok (.invokestatic index, 3)) (hstk : stk = As.reverse ++ st) (hsum : (st.map fun v => v.category).sum ≤ 8) (kk : ∀ (v : Int32) (τ : Mem), Cp M w sh nL ι (pc + 3) lv (.int v :: st) τ (g v τ)) : Cp M w sh nL ι pc lv stk σ (bnd2 f g) := fun a ha ls H locs hlv hP hS => by
  subst hstk
  obtain ⟨z0, h0, h1⟩ := Option.bind_eq_some_iff.mp ha
  exact runSM X hC (hk z0 h0) hl hf hn hd hsum hlv.1 hP hS (fun H1 locs1 hP1 hS1 => kk z0.1 z0.2 a h1 ls H1 locs1 hlv hP1 hS1)
theorem Cp.cSBM (X : Cx M w sh cc nL own ret d) (As : List Value) (hC : CalS y cc' nL' ret' n) {f : Option (Bool × Mem)} {g : Bool → Mem → Option α} (hk : ∀ v, f = some v → Ctr (ml M) w sh y cc' nL' ret' d' As σ ((iBM) v)) (hl : Cond.methodLink own index y ∈ TB) (hf : fitR d d' nL' = true) (hn : As.length = n) (hd : decode cc pc = .ok (.invokestatic index, 3)) (hstk : stk = As.reverse ++ st) (hsum : (st.map fun v => v.category).sum ≤ 8) (kk : ∀ (v : Bool) (τ : Mem), Cp M w sh nL ι (pc + 3) lv (.int (b2i v) :: st) τ (g v τ)) : Cp M w sh nL ι pc lv stk σ (bnd2 f g) := fun a ha ls H locs hlv hP hS => by
  subst hstk
  obtain ⟨z0, h0, h1⟩ := Option.bind_eq_some_iff.mp ha
  exact runSM X hC (hk z0 h0) hl hf hn hd hsum hlv.1 hP hS (fun H1 locs1 hP1 hS1 => kk z0.1 z0.2 a h1 ls H1 locs1 hlv hP1 hS1)
theorem Cp.cSV (X : Cx M w sh cc nL own ret d) (As : List Value) (hC : CalS y cc' nL' ret' n) {f : Option Mem} {g : Mem → Option α} (hk : ∀ v, f = some v → Ctr (ml M) w sh y cc' nL' ret' d' As σ ((iVM) v)) (hl : Cond.methodLink own index y ∈ TB) (hf : fitR d d' nL' = true) (hn : As.length = n) (hd : decode cc pc = .ok (.invokestatic index, 3)) (hstk : stk = As.reverse ++ st) (hsum : (st.map fun v => v.category).sum ≤ 8) (kk : ∀ τ : Mem, Cp M w sh nL ι (pc + 3) lv st τ (g τ)) : Cp M w sh nL ι pc lv stk σ (f.bind g) := fun a ha ls H locs hlv hP hS => by
  subst hstk
  obtain ⟨z0, h0, h1⟩ := Option.bind_eq_some_iff.mp ha
  exact runSM X hC (hk z0 h0) hl hf hn hd hsum hlv.1 hP hS (fun H1 locs1 hP1 hS1 => kk z0 a h1 ls H1 locs1 hlv hP1 hS1)
theorem Cp.cSIT (X : Cx M w sh cc nL own ret d) (As : List Value) (hC : CalS y cc' nL' ret' n) {v : Int32} (hk : Ctr (ml M) w sh y cc' nL' ret' d' As σ (some (.int v), σ)) (hl : Cond.methodLink own index y ∈ TB) (hf : fitR d d' nL' = true) (hn : As.length = n) (hd : decode cc pc = .ok (.invokestatic index, 3)) (hstk : stk = As.reverse ++ st) (hsum : (st.map fun v => v.category).sum ≤ 8) (kk : Cp M w sh nL ι (pc + 3) lv (.int v :: st) σ b) : Cp M w sh nL ι pc lv stk σ b := fun a ha ls H locs hlv hP hS => by subst hstk; exact runSM X hC hk hl hf hn hd hsum hlv.1 hP hS (fun H1 locs1 hP1 hS1 => kk a ha ls H1 locs1 hlv hP1 hS1)
theorem Cp.cSBT (X : Cx M w sh cc nL own ret d) (As : List Value) (hC : CalS y cc' nL' ret' n) {v : Bool} (hk : Ctr (ml M) w sh y cc' nL' ret' d' As σ (some (.int (b2i v)), σ)) (hl : Cond.methodLink own index y ∈ TB) (hf : fitR d d' nL' = true) (hn : As.length = n) (hd : decode cc pc = .ok (.invokestatic index, 3)) (hstk : stk = As.reverse ++ st) (hsum : (st.map fun v => v.category).sum ≤ 8) (kk : Cp M w sh nL ι (pc + 3) lv (.int (b2i v) :: st) σ b) : Cp M w sh nL ι pc lv stk σ b := fun a ha ls H locs hlv hP hS => by subst hstk; exact runSM X hC hk hl hf hn hd hsum hlv.1 hP hS (fun H1 locs1 hP1 hS1 => kk a ha ls H1 locs1 hlv hP1 hS1)
theorem Cp.cSLT (X : Cx M w sh cc nL own ret d) (As : List Value) (hC : CalS y cc' nL' ret' n) {v : Int64} (hk : Ctr (ml M) w sh y cc' nL' ret' d' As σ (some (.long v), σ)) (hl : Cond.methodLink own index y ∈ TB) (hf : fitR d d' nL' = true) (hn : As.length = n) (hd : decode cc pc = .ok (.invokestatic index, 3)) (hstk : stk = As.reverse ++ st) (hsum : (st.map fun v => v.category).sum ≤ 8) (kk : Cp M w sh nL ι (pc + 3) lv (.long v :: st) σ b) : Cp M w sh nL ι pc lv stk σ b := fun a ha ls H locs hlv hP hS => by subst hstk; exact runSM X hC hk hl hf hn hd hsum hlv.1 hP hS (fun H1 locs1 hP1 hS1 => kk a ha ls H1 locs1 hlv hP1 hS1)
theorem Cp.cSRT (X : Cx M w sh cc nL own ret d) (As : List Value) (hC : CalS y cc' nL' ret' n) {v : Nat} (hk : Ctr (ml M) w sh y cc' nL' ret' d' As σ (some (.ref v), σ)) (hl : Cond.methodLink own index y ∈ TB) (hf : fitR d d' nL' = true) (hn : As.length = n) (hd : decode cc pc = .ok (.invokestatic index, 3)) (hstk : stk = As.reverse ++ st) (hsum : (st.map fun v => v.category).sum ≤ 8) (kk : Cp M w sh nL ι (pc + 3) lv (.ref v :: st) σ b) : Cp M w sh nL ι pc lv stk σ b := fun a ha ls H locs hlv hP hS => by subst hstk; exact runSM X hC hk hl hf hn hd hsum hlv.1 hP hS (fun H1 locs1 hP1 hS1 => kk a ha ls H1 locs1 hlv hP1 hS1)
theorem Cp.cSVT (X : Cx M w sh cc nL own ret d) (As : List Value) (hC : CalS y cc' nL' ret' n) {τ : Mem} (hk : Ctr (ml M) w sh y cc' nL' ret' d' As σ (none, τ)) (hl : Cond.methodLink own index y ∈ TB) (hf : fitR d d' nL' = true) (hn : As.length = n) (hd : decode cc pc = .ok (.invokestatic index, 3)) (hstk : stk = As.reverse ++ st) (hsum : (st.map fun v => v.category).sum ≤ 8) (kk : Cp M w sh nL ι (pc + 3) lv st τ b) : Cp M w sh nL ι pc lv stk σ b := fun a ha ls H locs hlv hP hS => by subst hstk; exact runSM X hC hk hl hf hn hd hsum hlv.1 hP hS (fun H1 locs1 hP1 hS1 => kk a ha ls H1 locs1 hlv hP1 hS1)
theorem Cp.cSIMT (X : Cx M w sh cc nL own ret d) (As : List Value) (hC : CalS y cc' nL' ret' n) {v : Int32} {τ : Mem} (hk : Ctr (ml M) w sh y cc' nL' ret' d' As σ (some (.int v), τ)) (hl : Cond.methodLink own index y ∈ TB) (hf : fitR d d' nL' = true) (hn : As.length = n) (hd : decode cc pc = .ok (.invokestatic index, 3)) (hstk : stk = As.reverse ++ st) (hsum : (st.map fun v => v.category).sum ≤ 8) (kk : Cp M w sh nL ι (pc + 3) lv (.int v :: st) τ b) : Cp M w sh nL ι pc lv stk σ b := fun a ha ls H locs hlv hP hS => by subst hstk; exact runSM X hC hk hl hf hn hd hsum hlv.1 hP hS (fun H1 locs1 hP1 hS1 => kk a ha ls H1 locs1 hlv hP1 hS1)
theorem Cp.cNI (X : Cx M w sh cc nL own ret d) {host : String} (As : List Value) (hC : CalS y cc' nL' ret' n) {f : Option Int32} {g : Int32 → Option α} (hk : ∀ v, f = some v → Ctr (ml M) w sh y cc' nL' ret' d' As σ ((iI σ) v)) (hl : Cond.methodLinkNest own index y host ∈ TB) (hf : fitR d d' nL' = true) (hn : As.length = n) (hd : decode cc pc = .ok (.invokestatic index, 3)) (hstk : stk = As.reverse ++ st) (hsum : (st.map fun v => v.category).sum ≤ 8) (kk : ∀ v : Int32, Cp M w sh nL ι (pc + 3) lv (.int v :: st) σ (g v)) : Cp M w sh nL ι pc lv stk σ (f.bind g) := fun a ha ls H locs hlv hP hS => by
  subst hstk
  obtain ⟨z0, h0, h1⟩ := Option.bind_eq_some_iff.mp ha
  exact runSNM X hC (hk z0 h0) hl hf hn hd hsum hlv.1 hP hS (fun H1 locs1 hP1 hS1 => kk z0 a h1 ls H1 locs1 hlv hP1 hS1)
theorem Cp.cNB (X : Cx M w sh cc nL own ret d) {host : String} (As : List Value) (hC : CalS y cc' nL' ret' n) {f : Option Bool} {g : Bool → Option α} (hk : ∀ v, f = some v → Ctr (ml M) w sh y cc' nL' ret' d' As σ ((iB σ) v)) (hl : Cond.methodLinkNest own index y host ∈ TB) (hf : fitR d d' nL' = true) (hn : As.length = n) (hd : decode cc pc = .ok (.invokestatic index, 3)) (hstk : stk = As.reverse ++ st) (hsum : (st.map fun v => v.category).sum ≤ 8) (kk : ∀ v : Bool, Cp M w sh nL ι (pc + 3) lv (.int (b2i v) :: st) σ (g v)) : Cp M w sh nL ι pc lv stk σ (f.bind g) := fun a ha ls H locs hlv hP hS => by
  subst hstk
  obtain ⟨z0, h0, h1⟩ := Option.bind_eq_some_iff.mp ha
  exact runSNM X hC (hk z0 h0) hl hf hn hd hsum hlv.1 hP hS (fun H1 locs1 hP1 hS1 => kk z0 a h1 ls H1 locs1 hlv hP1 hS1)
theorem Cp.cNL (X : Cx M w sh cc nL own ret d) {host : String} (As : List Value) (hC : CalS y cc' nL' ret' n) {f : Option Int64} {g : Int64 → Option α} (hk : ∀ v, f = some v → Ctr (ml M) w sh y cc' nL' ret' d' As σ ((iL σ) v)) (hl : Cond.methodLinkNest own index y host ∈ TB) (hf : fitR d d' nL' = true) (hn : As.length = n) (hd : decode cc pc = .ok (.invokestatic index, 3)) (hstk : stk = As.reverse ++ st) (hsum : (st.map fun v => v.category).sum ≤ 8) (kk : ∀ v : Int64, Cp M w sh nL ι (pc + 3) lv (.long v :: st) σ (g v)) : Cp M w sh nL ι pc lv stk σ (f.bind g) := fun a ha ls H locs hlv hP hS => by
  subst hstk
  obtain ⟨z0, h0, h1⟩ := Option.bind_eq_some_iff.mp ha
  exact runSNM X hC (hk z0 h0) hl hf hn hd hsum hlv.1 hP hS (fun H1 locs1 hP1 hS1 => kk z0 a h1 ls H1 locs1 hlv hP1 hS1)
theorem Cp.cNIM (X : Cx M w sh cc nL own ret d) {host : String} (As : List Value) (hC : CalS y cc' nL' ret' n) {f : Option (Int32 × Mem)} {g : Int32 → Mem → Option α} (hk : ∀ v, f = some v → Ctr (ml M) w sh y cc' nL' ret' d' As σ ((iIM) v)) (hl : Cond.methodLinkNest own index y host ∈ TB) (hf : fitR d d' nL' = true) (hn : As.length = n) (hd : decode cc pc = .ok (.invokestatic index, 3)) (hstk : stk = As.reverse ++ st) (hsum : (st.map fun v => v.category).sum ≤ 8) (kk : ∀ (v : Int32) (τ : Mem), Cp M w sh nL ι (pc + 3) lv (.int v :: st) τ (g v τ)) : Cp M w sh nL ι pc lv stk σ (bnd2 f g) := fun a ha ls H locs hlv hP hS => by
  subst hstk
  obtain ⟨z0, h0, h1⟩ := Option.bind_eq_some_iff.mp ha
  exact runSNM X hC (hk z0 h0) hl hf hn hd hsum hlv.1 hP hS (fun H1 locs1 hP1 hS1 => kk z0.1 z0.2 a h1 ls H1 locs1 hlv hP1 hS1)
theorem Cp.cNBM (X : Cx M w sh cc nL own ret d) {host : String} (As : List Value) (hC : CalS y cc' nL' ret' n) {f : Option (Bool × Mem)} {g : Bool → Mem → Option α} (hk : ∀ v, f = some v → Ctr (ml M) w sh y cc' nL' ret' d' As σ ((iBM) v)) (hl : Cond.methodLinkNest own index y host ∈ TB) (hf : fitR d d' nL' = true) (hn : As.length = n) (hd : decode cc pc = .ok (.invokestatic index, 3)) (hstk : stk = As.reverse ++ st) (hsum : (st.map fun v => v.category).sum ≤ 8) (kk : ∀ (v : Bool) (τ : Mem), Cp M w sh nL ι (pc + 3) lv (.int (b2i v) :: st) τ (g v τ)) : Cp M w sh nL ι pc lv stk σ (bnd2 f g) := fun a ha ls H locs hlv hP hS => by
  subst hstk
  obtain ⟨z0, h0, h1⟩ := Option.bind_eq_some_iff.mp ha
  exact runSNM X hC (hk z0 h0) hl hf hn hd hsum hlv.1 hP hS (fun H1 locs1 hP1 hS1 => kk z0.1 z0.2 a h1 ls H1 locs1 hlv hP1 hS1)
theorem Cp.cNV (X : Cx M w sh cc nL own ret d) {host : String} (As : List Value) (hC : CalS y cc' nL' ret' n) {f : Option Mem} {g : Mem → Option α} (hk : ∀ v, f = some v → Ctr (ml M) w sh y cc' nL' ret' d' As σ ((iVM) v)) (hl : Cond.methodLinkNest own index y host ∈ TB) (hf : fitR d d' nL' = true) (hn : As.length = n) (hd : decode cc pc = .ok (.invokestatic index, 3)) (hstk : stk = As.reverse ++ st) (hsum : (st.map fun v => v.category).sum ≤ 8) (kk : ∀ τ : Mem, Cp M w sh nL ι (pc + 3) lv st τ (g τ)) : Cp M w sh nL ι pc lv stk σ (f.bind g) := fun a ha ls H locs hlv hP hS => by
  subst hstk
  obtain ⟨z0, h0, h1⟩ := Option.bind_eq_some_iff.mp ha
  exact runSNM X hC (hk z0 h0) hl hf hn hd hsum hlv.1 hP hS (fun H1 locs1 hP1 hS1 => kk z0 a h1 ls H1 locs1 hlv hP1 hS1)
theorem Cp.cNIT (X : Cx M w sh cc nL own ret d) {host : String} (As : List Value) (hC : CalS y cc' nL' ret' n) {v : Int32} (hk : Ctr (ml M) w sh y cc' nL' ret' d' As σ (some (.int v), σ)) (hl : Cond.methodLinkNest own index y host ∈ TB) (hf : fitR d d' nL' = true) (hn : As.length = n) (hd : decode cc pc = .ok (.invokestatic index, 3)) (hstk : stk = As.reverse ++ st) (hsum : (st.map fun v => v.category).sum ≤ 8) (kk : Cp M w sh nL ι (pc + 3) lv (.int v :: st) σ b) : Cp M w sh nL ι pc lv stk σ b := fun a ha ls H locs hlv hP hS => by subst hstk; exact runSNM X hC hk hl hf hn hd hsum hlv.1 hP hS (fun H1 locs1 hP1 hS1 => kk a ha ls H1 locs1 hlv hP1 hS1)
theorem Cp.cNBT (X : Cx M w sh cc nL own ret d) {host : String} (As : List Value) (hC : CalS y cc' nL' ret' n) {v : Bool} (hk : Ctr (ml M) w sh y cc' nL' ret' d' As σ (some (.int (b2i v)), σ)) (hl : Cond.methodLinkNest own index y host ∈ TB) (hf : fitR d d' nL' = true) (hn : As.length = n) (hd : decode cc pc = .ok (.invokestatic index, 3)) (hstk : stk = As.reverse ++ st) (hsum : (st.map fun v => v.category).sum ≤ 8) (kk : Cp M w sh nL ι (pc + 3) lv (.int (b2i v) :: st) σ b) : Cp M w sh nL ι pc lv stk σ b := fun a ha ls H locs hlv hP hS => by subst hstk; exact runSNM X hC hk hl hf hn hd hsum hlv.1 hP hS (fun H1 locs1 hP1 hS1 => kk a ha ls H1 locs1 hlv hP1 hS1)
theorem Cp.cNLT (X : Cx M w sh cc nL own ret d) {host : String} (As : List Value) (hC : CalS y cc' nL' ret' n) {v : Int64} (hk : Ctr (ml M) w sh y cc' nL' ret' d' As σ (some (.long v), σ)) (hl : Cond.methodLinkNest own index y host ∈ TB) (hf : fitR d d' nL' = true) (hn : As.length = n) (hd : decode cc pc = .ok (.invokestatic index, 3)) (hstk : stk = As.reverse ++ st) (hsum : (st.map fun v => v.category).sum ≤ 8) (kk : Cp M w sh nL ι (pc + 3) lv (.long v :: st) σ b) : Cp M w sh nL ι pc lv stk σ b := fun a ha ls H locs hlv hP hS => by subst hstk; exact runSNM X hC hk hl hf hn hd hsum hlv.1 hP hS (fun H1 locs1 hP1 hS1 => kk a ha ls H1 locs1 hlv hP1 hS1)
theorem Cp.cNRT (X : Cx M w sh cc nL own ret d) {host : String} (As : List Value) (hC : CalS y cc' nL' ret' n) {v : Nat} (hk : Ctr (ml M) w sh y cc' nL' ret' d' As σ (some (.ref v), σ)) (hl : Cond.methodLinkNest own index y host ∈ TB) (hf : fitR d d' nL' = true) (hn : As.length = n) (hd : decode cc pc = .ok (.invokestatic index, 3)) (hstk : stk = As.reverse ++ st) (hsum : (st.map fun v => v.category).sum ≤ 8) (kk : Cp M w sh nL ι (pc + 3) lv (.ref v :: st) σ b) : Cp M w sh nL ι pc lv stk σ b := fun a ha ls H locs hlv hP hS => by subst hstk; exact runSNM X hC hk hl hf hn hd hsum hlv.1 hP hS (fun H1 locs1 hP1 hS1 => kk a ha ls H1 locs1 hlv hP1 hS1)
theorem Cp.cNVT (X : Cx M w sh cc nL own ret d) {host : String} (As : List Value) (hC : CalS y cc' nL' ret' n) {τ : Mem} (hk : Ctr (ml M) w sh y cc' nL' ret' d' As σ (none, τ)) (hl : Cond.methodLinkNest own index y host ∈ TB) (hf : fitR d d' nL' = true) (hn : As.length = n) (hd : decode cc pc = .ok (.invokestatic index, 3)) (hstk : stk = As.reverse ++ st) (hsum : (st.map fun v => v.category).sum ≤ 8) (kk : Cp M w sh nL ι (pc + 3) lv st τ b) : Cp M w sh nL ι pc lv stk σ b := fun a ha ls H locs hlv hP hS => by subst hstk; exact runSNM X hC hk hl hf hn hd hsum hlv.1 hP hS (fun H1 locs1 hP1 hS1 => kk a ha ls H1 locs1 hlv hP1 hS1)
theorem Cp.cNIMT (X : Cx M w sh cc nL own ret d) {host : String} (As : List Value) (hC : CalS y cc' nL' ret' n) {v : Int32} {τ : Mem} (hk : Ctr (ml M) w sh y cc' nL' ret' d' As σ (some (.int v), τ)) (hl : Cond.methodLinkNest own index y host ∈ TB) (hf : fitR d d' nL' = true) (hn : As.length = n) (hd : decode cc pc = .ok (.invokestatic index, 3)) (hstk : stk = As.reverse ++ st) (hsum : (st.map fun v => v.category).sum ≤ 8) (kk : Cp M w sh nL ι (pc + 3) lv (.int v :: st) τ b) : Cp M w sh nL ι pc lv stk σ b := fun a ha ls H locs hlv hP hS => by subst hstk; exact runSNM X hC hk hl hf hn hd hsum hlv.1 hP hS (fun H1 locs1 hP1 hS1 => kk a ha ls H1 locs1 hlv hP1 hS1)
end
def FU : Nat := 20000
def lw1 {A1 α : Type} (body : (A1 → Option α) → A1 → Option α) : Nat → A1 → Option α
  | 0, _ => none
  | n + 1, a1 => body (lw1 body n) a1
theorem lw1_s {A1 α : Type} (body : (A1 → Option α) → A1 → Option α) (n : Nat) (a1 : A1) : lw1 body (n + 1) a1 = body (lw1 body n) a1 := rfl
theorem lw1_i {A1 α : Type} {body : (A1 → Option α) → A1 → Option α} {P : A1 → Option α → Prop} (h0 : ∀ a1, P a1 none) (hs : ∀ k, (∀ a1, P a1 (k a1)) → ∀ a1, P a1 (body k a1)) : ∀ (n : Nat) (a1 : A1), P a1 (lw1 body n a1)
  | 0, a1 => h0 a1
  | n + 1, a1 => hs _ (lw1_i h0 hs n) a1
def lw2 {A1 A2 α : Type} (body : (A1 → A2 → Option α) → A1 → A2 → Option α) : Nat → A1 → A2 → Option α
  | 0, _, _ => none
  | n + 1, a1, a2 => body (lw2 body n) a1 a2
theorem lw2_s {A1 A2 α : Type} (body : (A1 → A2 → Option α) → A1 → A2 → Option α) (n : Nat) (a1 : A1) (a2 : A2) : lw2 body (n + 1) a1 a2 = body (lw2 body n) a1 a2 := rfl
theorem lw2_i {A1 A2 α : Type} {body : (A1 → A2 → Option α) → A1 → A2 → Option α} {P : A1 → A2 → Option α → Prop} (h0 : ∀ a1 a2, P a1 a2 none) (hs : ∀ k, (∀ a1 a2, P a1 a2 (k a1 a2)) → ∀ a1 a2, P a1 a2 (body k a1 a2)) : ∀ (n : Nat) (a1 : A1) (a2 : A2), P a1 a2 (lw2 body n a1 a2)
  | 0, a1, a2 => h0 a1 a2
  | n + 1, a1, a2 => hs _ (lw2_i h0 hs n) a1 a2
def lw3 {A1 A2 A3 α : Type} (body : (A1 → A2 → A3 → Option α) → A1 → A2 → A3 → Option α) : Nat → A1 → A2 → A3 → Option α
  | 0, _, _, _ => none
  | n + 1, a1, a2, a3 => body (lw3 body n) a1 a2 a3
theorem lw3_s {A1 A2 A3 α : Type} (body : (A1 → A2 → A3 → Option α) → A1 → A2 → A3 → Option α) (n : Nat) (a1 : A1) (a2 : A2) (a3 : A3) : lw3 body (n + 1) a1 a2 a3 = body (lw3 body n) a1 a2 a3 := rfl
theorem lw3_i {A1 A2 A3 α : Type} {body : (A1 → A2 → A3 → Option α) → A1 → A2 → A3 → Option α} {P : A1 → A2 → A3 → Option α → Prop} (h0 : ∀ a1 a2 a3, P a1 a2 a3 none) (hs : ∀ k, (∀ a1 a2 a3, P a1 a2 a3 (k a1 a2 a3)) → ∀ a1 a2 a3, P a1 a2 a3 (body k a1 a2 a3)) : ∀ (n : Nat) (a1 : A1) (a2 : A2) (a3 : A3), P a1 a2 a3 (lw3 body n a1 a2 a3)
  | 0, a1, a2, a3 => h0 a1 a2 a3
  | n + 1, a1, a2, a3 => hs _ (lw3_i h0 hs n) a1 a2 a3
def lw4 {A1 A2 A3 A4 α : Type} (body : (A1 → A2 → A3 → A4 → Option α) → A1 → A2 → A3 → A4 → Option α) : Nat → A1 → A2 → A3 → A4 → Option α
  | 0, _, _, _, _ => none
  | n + 1, a1, a2, a3, a4 => body (lw4 body n) a1 a2 a3 a4
theorem lw4_s {A1 A2 A3 A4 α : Type} (body : (A1 → A2 → A3 → A4 → Option α) → A1 → A2 → A3 → A4 → Option α) (n : Nat) (a1 : A1) (a2 : A2) (a3 : A3) (a4 : A4) : lw4 body (n + 1) a1 a2 a3 a4 = body (lw4 body n) a1 a2 a3 a4 := rfl
theorem lw4_i {A1 A2 A3 A4 α : Type} {body : (A1 → A2 → A3 → A4 → Option α) → A1 → A2 → A3 → A4 → Option α} {P : A1 → A2 → A3 → A4 → Option α → Prop} (h0 : ∀ a1 a2 a3 a4, P a1 a2 a3 a4 none) (hs : ∀ k, (∀ a1 a2 a3 a4, P a1 a2 a3 a4 (k a1 a2 a3 a4)) → ∀ a1 a2 a3 a4, P a1 a2 a3 a4 (body k a1 a2 a3 a4)) : ∀ (n : Nat) (a1 : A1) (a2 : A2) (a3 : A3) (a4 : A4), P a1 a2 a3 a4 (lw4 body n a1 a2 a3 a4)
  | 0, a1, a2, a3, a4 => h0 a1 a2 a3 a4
  | n + 1, a1, a2, a3, a4 => hs _ (lw4_i h0 hs n) a1 a2 a3 a4
def lw5 {A1 A2 A3 A4 A5 α : Type} (body : (A1 → A2 → A3 → A4 → A5 → Option α) → A1 → A2 → A3 → A4 → A5 → Option α) : Nat → A1 → A2 → A3 → A4 → A5 → Option α
  | 0, _, _, _, _, _ => none
  | n + 1, a1, a2, a3, a4, a5 => body (lw5 body n) a1 a2 a3 a4 a5
theorem lw5_s {A1 A2 A3 A4 A5 α : Type} (body : (A1 → A2 → A3 → A4 → A5 → Option α) → A1 → A2 → A3 → A4 → A5 → Option α) (n : Nat) (a1 : A1) (a2 : A2) (a3 : A3) (a4 : A4) (a5 : A5) : lw5 body (n + 1) a1 a2 a3 a4 a5 = body (lw5 body n) a1 a2 a3 a4 a5 := rfl
theorem lw5_i {A1 A2 A3 A4 A5 α : Type} {body : (A1 → A2 → A3 → A4 → A5 → Option α) → A1 → A2 → A3 → A4 → A5 → Option α} {P : A1 → A2 → A3 → A4 → A5 → Option α → Prop} (h0 : ∀ a1 a2 a3 a4 a5, P a1 a2 a3 a4 a5 none) (hs : ∀ k, (∀ a1 a2 a3 a4 a5, P a1 a2 a3 a4 a5 (k a1 a2 a3 a4 a5)) → ∀ a1 a2 a3 a4 a5, P a1 a2 a3 a4 a5 (body k a1 a2 a3 a4 a5)) : ∀ (n : Nat) (a1 : A1) (a2 : A2) (a3 : A3) (a4 : A4) (a5 : A5), P a1 a2 a3 a4 a5 (lw5 body n a1 a2 a3 a4 a5)
  | 0, a1, a2, a3, a4, a5 => h0 a1 a2 a3 a4 a5
  | n + 1, a1, a2, a3, a4, a5 => hs _ (lw5_i h0 hs n) a1 a2 a3 a4 a5
def lw6 {A1 A2 A3 A4 A5 A6 α : Type} (body : (A1 → A2 → A3 → A4 → A5 → A6 → Option α) → A1 → A2 → A3 → A4 → A5 → A6 → Option α) : Nat → A1 → A2 → A3 → A4 → A5 → A6 → Option α
  | 0, _, _, _, _, _, _ => none
  | n + 1, a1, a2, a3, a4, a5, a6 => body (lw6 body n) a1 a2 a3 a4 a5 a6
theorem lw6_s {A1 A2 A3 A4 A5 A6 α : Type} (body : (A1 → A2 → A3 → A4 → A5 → A6 → Option α) → A1 → A2 → A3 → A4 → A5 → A6 → Option α) (n : Nat) (a1 : A1) (a2 : A2) (a3 : A3) (a4 : A4) (a5 : A5) (a6 : A6) : lw6 body (n + 1) a1 a2 a3 a4 a5 a6 = body (lw6 body n) a1 a2 a3 a4 a5 a6 := rfl
theorem lw6_i {A1 A2 A3 A4 A5 A6 α : Type} {body : (A1 → A2 → A3 → A4 → A5 → A6 → Option α) → A1 → A2 → A3 → A4 → A5 → A6 → Option α} {P : A1 → A2 → A3 → A4 → A5 → A6 → Option α → Prop} (h0 : ∀ a1 a2 a3 a4 a5 a6, P a1 a2 a3 a4 a5 a6 none) (hs : ∀ k, (∀ a1 a2 a3 a4 a5 a6, P a1 a2 a3 a4 a5 a6 (k a1 a2 a3 a4 a5 a6)) → ∀ a1 a2 a3 a4 a5 a6, P a1 a2 a3 a4 a5 a6 (body k a1 a2 a3 a4 a5 a6)) : ∀ (n : Nat) (a1 : A1) (a2 : A2) (a3 : A3) (a4 : A4) (a5 : A5) (a6 : A6), P a1 a2 a3 a4 a5 a6 (lw6 body n a1 a2 a3 a4 a5 a6)
  | 0, a1, a2, a3, a4, a5, a6 => h0 a1 a2 a3 a4 a5 a6
  | n + 1, a1, a2, a3, a4, a5, a6 => hs _ (lw6_i h0 hs n) a1 a2 a3 a4 a5 a6
def lw7 {A1 A2 A3 A4 A5 A6 A7 α : Type} (body : (A1 → A2 → A3 → A4 → A5 → A6 → A7 → Option α) → A1 → A2 → A3 → A4 → A5 → A6 → A7 → Option α) : Nat → A1 → A2 → A3 → A4 → A5 → A6 → A7 → Option α
  | 0, _, _, _, _, _, _, _ => none
  | n + 1, a1, a2, a3, a4, a5, a6, a7 => body (lw7 body n) a1 a2 a3 a4 a5 a6 a7
theorem lw7_s {A1 A2 A3 A4 A5 A6 A7 α : Type} (body : (A1 → A2 → A3 → A4 → A5 → A6 → A7 → Option α) → A1 → A2 → A3 → A4 → A5 → A6 → A7 → Option α) (n : Nat) (a1 : A1) (a2 : A2) (a3 : A3) (a4 : A4) (a5 : A5) (a6 : A6) (a7 : A7) : lw7 body (n + 1) a1 a2 a3 a4 a5 a6 a7 = body (lw7 body n) a1 a2 a3 a4 a5 a6 a7 := rfl
theorem lw7_i {A1 A2 A3 A4 A5 A6 A7 α : Type} {body : (A1 → A2 → A3 → A4 → A5 → A6 → A7 → Option α) → A1 → A2 → A3 → A4 → A5 → A6 → A7 → Option α} {P : A1 → A2 → A3 → A4 → A5 → A6 → A7 → Option α → Prop} (h0 : ∀ a1 a2 a3 a4 a5 a6 a7, P a1 a2 a3 a4 a5 a6 a7 none) (hs : ∀ k, (∀ a1 a2 a3 a4 a5 a6 a7, P a1 a2 a3 a4 a5 a6 a7 (k a1 a2 a3 a4 a5 a6 a7)) → ∀ a1 a2 a3 a4 a5 a6 a7, P a1 a2 a3 a4 a5 a6 a7 (body k a1 a2 a3 a4 a5 a6 a7)) : ∀ (n : Nat) (a1 : A1) (a2 : A2) (a3 : A3) (a4 : A4) (a5 : A5) (a6 : A6) (a7 : A7), P a1 a2 a3 a4 a5 a6 a7 (lw7 body n a1 a2 a3 a4 a5 a6 a7)
  | 0, a1, a2, a3, a4, a5, a6, a7 => h0 a1 a2 a3 a4 a5 a6 a7
  | n + 1, a1, a2, a3, a4, a5, a6, a7 => hs _ (lw7_i h0 hs n) a1 a2 a3 a4 a5 a6 a7
def lw8 {A1 A2 A3 A4 A5 A6 A7 A8 α : Type} (body : (A1 → A2 → A3 → A4 → A5 → A6 → A7 → A8 → Option α) → A1 → A2 → A3 → A4 → A5 → A6 → A7 → A8 → Option α) : Nat → A1 → A2 → A3 → A4 → A5 → A6 → A7 → A8 → Option α
  | 0, _, _, _, _, _, _, _, _ => none
  | n + 1, a1, a2, a3, a4, a5, a6, a7, a8 => body (lw8 body n) a1 a2 a3 a4 a5 a6 a7 a8
theorem lw8_s {A1 A2 A3 A4 A5 A6 A7 A8 α : Type} (body : (A1 → A2 → A3 → A4 → A5 → A6 → A7 → A8 → Option α) → A1 → A2 → A3 → A4 → A5 → A6 → A7 → A8 → Option α) (n : Nat) (a1 : A1) (a2 : A2) (a3 : A3) (a4 : A4) (a5 : A5) (a6 : A6) (a7 : A7) (a8 : A8) : lw8 body (n + 1) a1 a2 a3 a4 a5 a6 a7 a8 = body (lw8 body n) a1 a2 a3 a4 a5 a6 a7 a8 := rfl
theorem lw8_i {A1 A2 A3 A4 A5 A6 A7 A8 α : Type} {body : (A1 → A2 → A3 → A4 → A5 → A6 → A7 → A8 → Option α) → A1 → A2 → A3 → A4 → A5 → A6 → A7 → A8 → Option α} {P : A1 → A2 → A3 → A4 → A5 → A6 → A7 → A8 → Option α → Prop} (h0 : ∀ a1 a2 a3 a4 a5 a6 a7 a8, P a1 a2 a3 a4 a5 a6 a7 a8 none) (hs : ∀ k, (∀ a1 a2 a3 a4 a5 a6 a7 a8, P a1 a2 a3 a4 a5 a6 a7 a8 (k a1 a2 a3 a4 a5 a6 a7 a8)) → ∀ a1 a2 a3 a4 a5 a6 a7 a8, P a1 a2 a3 a4 a5 a6 a7 a8 (body k a1 a2 a3 a4 a5 a6 a7 a8)) : ∀ (n : Nat) (a1 : A1) (a2 : A2) (a3 : A3) (a4 : A4) (a5 : A5) (a6 : A6) (a7 : A7) (a8 : A8), P a1 a2 a3 a4 a5 a6 a7 a8 (lw8 body n a1 a2 a3 a4 a5 a6 a7 a8)
  | 0, a1, a2, a3, a4, a5, a6, a7, a8 => h0 a1 a2 a3 a4 a5 a6 a7 a8
  | n + 1, a1, a2, a3, a4, a5, a6, a7, a8 => hs _ (lw8_i h0 hs n) a1 a2 a3 a4 a5 a6 a7 a8
end
section
def shC : List Shp := [.inr (4, [some 1, some 11, some 21, none, some 31, some 34, some 36, some 45]), .inr (0, [none, some (2), some (3), some (4), some (5), some (6), some (7), none, some (8), some (9), none, none, none, none, none, some (10)]), .inl (0, 8, 0), .inl (0, 8, 0), .inl (0, 8, 0), .inl (0, 8, 0), .inl (0, 8, 0), .inl (0, 8, 0), .inl (0, 8, 0), .inl (0, 8, 0), .inl (0, 10, 0), .inr (0, [none, some (12), some (13), some (14), some (15), some (16), some (17), none, some (18), some (19), none, none, none, none, none, some (20)]), .inl (0, 8, 0), .inl (0, 8, 0), .inl (0, 8, 0), .inl (0, 8, 0), .inl (0, 8, 0), .inl (0, 8, 0), .inl (0, 8, 0), .inl (0, 8, 0), .inl (0, 10, 0), .inr (0, [none, some (22), some (23), some (24), some (25), some (26), some (27), none, some (28), some (29), none, none, none, none, none, some (30)]), .inl (0, 8, 0), .inl (0, 8, 0), .inl (0, 8, 0), .inl (0, 8, 0), .inl (0, 8, 0), .inl (0, 8, 0), .inl (0, 8, 0), .inl (0, 8, 0), .inl (0, 10, 0), .inr (3, [some 32, some 33, none]), .inl (0, 8, 0), .inl (0, 8, 0), .inr (2, [some 35, none, none, none, none, none, none]), .inl (1, 120, 0), .inl (2, 4, 37), .inr (1, [some 38, none, none]), .inl (0, 40, 0), .inr (1, [some 40, none, none]), .inl (0, 40, 0), .inr (1, [some 42, none, none]), .inl (0, 40, 0), .inr (1, [some 44, none, none]), .inl (0, 40, 0), .inl (0, 7, 0)]
def shR : List Shp := [.inr (5, [some 1, some 2, some 3, none, some 4, some 5, none, some 6, none, some 7, none, none, none, none, some 8, some 9, some 10, some 11]), .inl (0, 73, 0), .inl (0, 73, 0), .inl (0, 73, 0), .inl (0, 7, 0), .inl (0, 8, 0), .inl (0, 8, 0), .inl (0, 120, 0), .inl (0, 4, 0), .inl (0, 4, 0), .inl (0, 160, 0), .inl (0, 40, 0)]
theorem sc_0 : shC[0]? = some (.inr (4, [some 1, some 11, some 21, none, some 31, some 34, some 36, some 45])) := rfl
theorem sc_1 : shC[1]? = some (.inr (0, [none, some (2), some (3), some (4), some (5), some (6), some (7), none, some (8), some (9), none, none, none, none, none, some (10)])) := rfl
theorem sc_2 : shC[2]? = some (.inl (0, 8, 0)) := rfl
theorem sc_3 : shC[3]? = some (.inl (0, 8, 0)) := rfl
theorem sc_4 : shC[4]? = some (.inl (0, 8, 0)) := rfl
theorem sc_5 : shC[5]? = some (.inl (0, 8, 0)) := rfl
theorem sc_6 : shC[6]? = some (.inl (0, 8, 0)) := rfl
theorem sc_7 : shC[7]? = some (.inl (0, 8, 0)) := rfl
theorem sc_8 : shC[8]? = some (.inl (0, 8, 0)) := rfl
theorem sc_9 : shC[9]? = some (.inl (0, 8, 0)) := rfl
theorem sc_10 : shC[10]? = some (.inl (0, 10, 0)) := rfl
theorem sc_11 : shC[11]? = some (.inr (0, [none, some (12), some (13), some (14), some (15), some (16), some (17), none, some (18), some (19), none, none, none, none, none, some (20)])) := rfl
theorem sc_12 : shC[12]? = some (.inl (0, 8, 0)) := rfl
theorem sc_13 : shC[13]? = some (.inl (0, 8, 0)) := rfl
theorem sc_14 : shC[14]? = some (.inl (0, 8, 0)) := rfl
theorem sc_15 : shC[15]? = some (.inl (0, 8, 0)) := rfl
theorem sc_16 : shC[16]? = some (.inl (0, 8, 0)) := rfl
theorem sc_17 : shC[17]? = some (.inl (0, 8, 0)) := rfl
theorem sc_18 : shC[18]? = some (.inl (0, 8, 0)) := rfl
theorem sc_19 : shC[19]? = some (.inl (0, 8, 0)) := rfl
theorem sc_20 : shC[20]? = some (.inl (0, 10, 0)) := rfl
theorem sc_21 : shC[21]? = some (.inr (0, [none, some (22), some (23), some (24), some (25), some (26), some (27), none, some (28), some (29), none, none, none, none, none, some (30)])) := rfl
theorem sc_22 : shC[22]? = some (.inl (0, 8, 0)) := rfl
theorem sc_23 : shC[23]? = some (.inl (0, 8, 0)) := rfl
theorem sc_24 : shC[24]? = some (.inl (0, 8, 0)) := rfl
theorem sc_25 : shC[25]? = some (.inl (0, 8, 0)) := rfl
theorem sc_26 : shC[26]? = some (.inl (0, 8, 0)) := rfl
theorem sc_27 : shC[27]? = some (.inl (0, 8, 0)) := rfl
theorem sc_28 : shC[28]? = some (.inl (0, 8, 0)) := rfl
theorem sc_29 : shC[29]? = some (.inl (0, 8, 0)) := rfl
theorem sc_30 : shC[30]? = some (.inl (0, 10, 0)) := rfl
theorem sc_31 : shC[31]? = some (.inr (3, [some 32, some 33, none])) := rfl
theorem sc_32 : shC[32]? = some (.inl (0, 8, 0)) := rfl
theorem sc_33 : shC[33]? = some (.inl (0, 8, 0)) := rfl
theorem sc_34 : shC[34]? = some (.inr (2, [some 35, none, none, none, none, none, none])) := rfl
theorem sc_35 : shC[35]? = some (.inl (1, 120, 0)) := rfl
theorem sc_36 : shC[36]? = some (.inl (2, 4, 37)) := rfl
theorem sc_37 : shC[37]? = some (.inr (1, [some 38, none, none])) := rfl
theorem sc_38 : shC[38]? = some (.inl (0, 40, 0)) := rfl
theorem sc_39 : shC[39]? = some (.inr (1, [some 40, none, none])) := rfl
theorem sc_40 : shC[40]? = some (.inl (0, 40, 0)) := rfl
theorem sc_41 : shC[41]? = some (.inr (1, [some 42, none, none])) := rfl
theorem sc_42 : shC[42]? = some (.inl (0, 40, 0)) := rfl
theorem sc_43 : shC[43]? = some (.inr (1, [some 44, none, none])) := rfl
theorem sc_44 : shC[44]? = some (.inl (0, 40, 0)) := rfl
theorem sc_45 : shC[45]? = some (.inl (0, 7, 0)) := rfl
theorem sr_0 : shR[0]? = some (.inr (5, [some 1, some 2, some 3, none, some 4, some 5, none, some 6, none, some 7, none, none, none, none, some 8, some 9, some 10, some 11])) := rfl
theorem sr_1 : shR[1]? = some (.inl (0, 73, 0)) := rfl
theorem sr_2 : shR[2]? = some (.inl (0, 73, 0)) := rfl
theorem sr_3 : shR[3]? = some (.inl (0, 73, 0)) := rfl
theorem sr_4 : shR[4]? = some (.inl (0, 7, 0)) := rfl
theorem sr_5 : shR[5]? = some (.inl (0, 8, 0)) := rfl
theorem sr_6 : shR[6]? = some (.inl (0, 8, 0)) := rfl
theorem sr_7 : shR[7]? = some (.inl (0, 120, 0)) := rfl
theorem sr_8 : shR[8]? = some (.inl (0, 4, 0)) := rfl
theorem sr_9 : shR[9]? = some (.inl (0, 4, 0)) := rfl
theorem sr_10 : shR[10]? = some (.inl (0, 160, 0)) := rfl
theorem sr_11 : shR[11]? = some (.inl (0, 40, 0)) := rfl
def isRm (r : Nat) : Prop := r = 1 ∨ r = 11 ∨ r = 21
theorem isRm_1 : isRm 1 := Or.inl rfl
theorem isRm_11 : isRm 11 := Or.inr (Or.inl rfl)
theorem isRm_21 : isRm 21 := Or.inr (Or.inr rfl)
def isSe (k : Nat) : Prop := k = 37 ∨ k = 39 ∨ k = 41 ∨ k = 43
theorem isSe_of {s : Int32} (h : inB s 4 = true) : isSe (37 + 2 * s.toNatClampNeg) := by
  simp only [inB, Bool.and_eq_true, decide_eq_true_eq] at h
  rcases (show s.toNatClampNeg = 0 ∨ s.toNatClampNeg = 1 ∨ s.toNatClampNeg = 2 ∨ s.toNatClampNeg = 3 by omega) with e | e | e | e <;> rw [e]
  · exact Or.inl rfl
  · exact Or.inr (Or.inl rfl)
  · exact Or.inr (Or.inr (Or.inl rfl))
  · exact Or.inr (Or.inr (Or.inr rfl))
theorem s_rm {r : Nat} (h : isRm r) : shC[r]? = some (.inr (0, [none, some (r + 1), some (r + 2), some (r + 3), some (r + 4), some (r + 5), some (r + 6), none, some (r + 7), some (r + 8), none, none, none, none, none, some (r + 9)])) := by rcases h with rfl | rfl | rfl <;> rfl
theorem s_ra1 {r : Nat} (h : isRm r) : shC[r + 1]? = some (.inl (0, 8, 0)) := by rcases h with rfl | rfl | rfl <;> rfl
theorem s_ra2 {r : Nat} (h : isRm r) : shC[r + 2]? = some (.inl (0, 8, 0)) := by rcases h with rfl | rfl | rfl <;> rfl
theorem s_ra3 {r : Nat} (h : isRm r) : shC[r + 3]? = some (.inl (0, 8, 0)) := by rcases h with rfl | rfl | rfl <;> rfl
theorem s_ra4 {r : Nat} (h : isRm r) : shC[r + 4]? = some (.inl (0, 8, 0)) := by rcases h with rfl | rfl | rfl <;> rfl
theorem s_ra5 {r : Nat} (h : isRm r) : shC[r + 5]? = some (.inl (0, 8, 0)) := by rcases h with rfl | rfl | rfl <;> rfl
theorem s_ra6 {r : Nat} (h : isRm r) : shC[r + 6]? = some (.inl (0, 8, 0)) := by rcases h with rfl | rfl | rfl <;> rfl
theorem s_ra7 {r : Nat} (h : isRm r) : shC[r + 7]? = some (.inl (0, 8, 0)) := by rcases h with rfl | rfl | rfl <;> rfl
theorem s_ra8 {r : Nat} (h : isRm r) : shC[r + 8]? = some (.inl (0, 8, 0)) := by rcases h with rfl | rfl | rfl <;> rfl
theorem s_ra9 {r : Nat} (h : isRm r) : shC[r + 9]? = some (.inl (0, 10, 0)) := by rcases h with rfl | rfl | rfl <;> rfl
theorem s_se {k : Nat} (h : isSe k) : shC[k]? = some (.inr (1, [some (k + 1), none, none])) := by rcases h with rfl | rfl | rfl | rfl <;> rfl
theorem s_sn {k : Nat} (h : isSe k) : shC[k + 1]? = some (.inl (0, 40, 0)) := by rcases h with rfl | rfl | rfl | rfl <;> rfl
theorem wl1_0 : u_lay RX1 TX1 0 ∈ TB := tb_t 77 (by decide +kernel) (by decide +kernel)
theorem wl1_1 : u_lay RX1 TX1 1 ∈ TB := tb_t 79 (by decide +kernel) (by decide +kernel)
theorem wl1_2 : u_lay RX1 TX1 2 ∈ TB := tb_t 81 (by decide +kernel) (by decide +kernel)
theorem wl1_3 : u_lay RX1 TX1 3 ∈ TB := tb_t 83 (by decide +kernel) (by decide +kernel)
theorem wl1_4 : u_lay RX1 TX1 4 ∈ TB := tb_t 85 (by decide +kernel) (by decide +kernel)
theorem wl1_5 : u_lay RX1 TX1 5 ∈ TB := tb_t 87 (by decide +kernel) (by decide +kernel)
theorem wl1_6 : u_lay RX1 TX1 6 ∈ TB := tb_t 89 (by decide +kernel) (by decide +kernel)
theorem wl1_7 : u_lay RX1 TX1 7 ∈ TB := tb_t 91 (by decide +kernel) (by decide +kernel)
theorem wl1_8 : u_lay RX1 TX1 8 ∈ TB := tb_t 93 (by decide +kernel) (by decide +kernel)
theorem wl1_9 : u_lay RX1 TX1 9 ∈ TB := tb_t 95 (by decide +kernel) (by decide +kernel)
theorem wl1_10 : u_lay RX1 TX1 10 ∈ TB := tb_t 97 (by decide +kernel) (by decide +kernel)
theorem wl1_11 : u_lay RX1 TX1 11 ∈ TB := tb_t 99 (by decide +kernel) (by decide +kernel)
theorem wl1_12 : u_lay RX1 TX1 12 ∈ TB := tb_t 101 (by decide +kernel) (by decide +kernel)
theorem wl1_13 : u_lay RX1 TX1 13 ∈ TB := tb_t 103 (by decide +kernel) (by decide +kernel)
theorem wl1_14 : u_lay RX1 TX1 14 ∈ TB := tb_t 105 (by decide +kernel) (by decide +kernel)
theorem wl1_15 : u_lay RX1 TX1 15 ∈ TB := tb_t 107 (by decide +kernel) (by decide +kernel)
theorem wlX1 : ∀ x ∈ u_ws RX1 TX1 16, x ∈ TB := by
  intro x hx
  obtain ⟨k, hk, rfl⟩ := List.mem_map.mp hx
  have hk := List.mem_range.mp hk
  match k, hk with
  | 0, _ => exact wl1_0
  | 1, _ => exact wl1_1
  | 2, _ => exact wl1_2
  | 3, _ => exact wl1_3
  | 4, _ => exact wl1_4
  | 5, _ => exact wl1_5
  | 6, _ => exact wl1_6
  | 7, _ => exact wl1_7
  | 8, _ => exact wl1_8
  | 9, _ => exact wl1_9
  | 10, _ => exact wl1_10
  | 11, _ => exact wl1_11
  | 12, _ => exact wl1_12
  | 13, _ => exact wl1_13
  | 14, _ => exact wl1_14
  | 15, _ => exact wl1_15
  | k + 16, hk => exact absurd hk (by omega)
theorem clX1 : ClOk 0 RX1 TX1 16 tyX1 := ⟨rfl, wlX1, tyX1_ok, nmX1⟩
theorem wl2_0 : u_lay RX2 TX2 0 ∈ TB := tb_t 173 (by decide +kernel) (by decide +kernel)
theorem wl2_1 : u_lay RX2 TX2 1 ∈ TB := tb_t 175 (by decide +kernel) (by decide +kernel)
theorem wl2_2 : u_lay RX2 TX2 2 ∈ TB := tb_t 177 (by decide +kernel) (by decide +kernel)
theorem wlX2 : ∀ x ∈ u_ws RX2 TX2 3, x ∈ TB := by
  intro x hx
  obtain ⟨k, hk, rfl⟩ := List.mem_map.mp hx
  have hk := List.mem_range.mp hk
  match k, hk with
  | 0, _ => exact wl2_0
  | 1, _ => exact wl2_1
  | 2, _ => exact wl2_2
  | k + 3, hk => exact absurd hk (by omega)
theorem clX2 : ClOk 1 RX2 TX2 3 tyX2 := ⟨rfl, wlX2, tyX2_ok, nmX2⟩
theorem wl3_0 : u_lay RX3 TX3 0 ∈ TB := tb_t 144 (by decide +kernel) (by decide +kernel)
theorem wl3_1 : u_lay RX3 TX3 1 ∈ TB := tb_t 146 (by decide +kernel) (by decide +kernel)
theorem wl3_2 : u_lay RX3 TX3 2 ∈ TB := tb_t 148 (by decide +kernel) (by decide +kernel)
theorem wl3_3 : u_lay RX3 TX3 3 ∈ TB := tb_t 150 (by decide +kernel) (by decide +kernel)
theorem wl3_4 : u_lay RX3 TX3 4 ∈ TB := tb_t 152 (by decide +kernel) (by decide +kernel)
theorem wl3_5 : u_lay RX3 TX3 5 ∈ TB := tb_t 154 (by decide +kernel) (by decide +kernel)
theorem wl3_6 : u_lay RX3 TX3 6 ∈ TB := tb_t 156 (by decide +kernel) (by decide +kernel)
theorem wlX3 : ∀ x ∈ u_ws RX3 TX3 7, x ∈ TB := by
  intro x hx
  obtain ⟨k, hk, rfl⟩ := List.mem_map.mp hx
  have hk := List.mem_range.mp hk
  match k, hk with
  | 0, _ => exact wl3_0
  | 1, _ => exact wl3_1
  | 2, _ => exact wl3_2
  | 3, _ => exact wl3_3
  | 4, _ => exact wl3_4
  | 5, _ => exact wl3_5
  | 6, _ => exact wl3_6
  | k + 7, hk => exact absurd hk (by omega)
theorem clX3 : ClOk 2 RX3 TX3 7 tyX3 := ⟨rfl, wlX3, tyX3_ok, nmX3⟩
theorem wl4_0 : u_lay RX4 TX4 0 ∈ TB := tb_t 123 (by decide +kernel) (by decide +kernel)
theorem wl4_1 : u_lay RX4 TX4 1 ∈ TB := tb_t 125 (by decide +kernel) (by decide +kernel)
theorem wl4_2 : u_lay RX4 TX4 2 ∈ TB := tb_t 127 (by decide +kernel) (by decide +kernel)
theorem wlX4 : ∀ x ∈ u_ws RX4 TX4 3, x ∈ TB := by
  intro x hx
  obtain ⟨k, hk, rfl⟩ := List.mem_map.mp hx
  have hk := List.mem_range.mp hk
  match k, hk with
  | 0, _ => exact wl4_0
  | 1, _ => exact wl4_1
  | 2, _ => exact wl4_2
  | k + 3, hk => exact absurd hk (by omega)
theorem clX4 : ClOk 3 RX4 TX4 3 tyX4 := ⟨rfl, wlX4, tyX4_ok, nmX4⟩
theorem wl5_0 : u_lay RX5 TX5 0 ∈ TB := tb_t 188 (by decide +kernel) (by decide +kernel)
theorem wl5_1 : u_lay RX5 TX5 1 ∈ TB := tb_t 190 (by decide +kernel) (by decide +kernel)
theorem wl5_2 : u_lay RX5 TX5 2 ∈ TB := tb_t 192 (by decide +kernel) (by decide +kernel)
theorem wl5_3 : u_lay RX5 TX5 3 ∈ TB := tb_t 194 (by decide +kernel) (by decide +kernel)
theorem wl5_4 : u_lay RX5 TX5 4 ∈ TB := tb_t 196 (by decide +kernel) (by decide +kernel)
theorem wl5_5 : u_lay RX5 TX5 5 ∈ TB := tb_t 198 (by decide +kernel) (by decide +kernel)
theorem wl5_6 : u_lay RX5 TX5 6 ∈ TB := tb_t 200 (by decide +kernel) (by decide +kernel)
theorem wl5_7 : u_lay RX5 TX5 7 ∈ TB := tb_t 202 (by decide +kernel) (by decide +kernel)
theorem wlX5 : ∀ x ∈ u_ws RX5 TX5 8, x ∈ TB := by
  intro x hx
  obtain ⟨k, hk, rfl⟩ := List.mem_map.mp hx
  have hk := List.mem_range.mp hk
  match k, hk with
  | 0, _ => exact wl5_0
  | 1, _ => exact wl5_1
  | 2, _ => exact wl5_2
  | 3, _ => exact wl5_3
  | 4, _ => exact wl5_4
  | 5, _ => exact wl5_5
  | 6, _ => exact wl5_6
  | 7, _ => exact wl5_7
  | k + 8, hk => exact absurd hk (by omega)
theorem clX5 : ClOk 4 RX5 TX5 8 tyX5 := ⟨rfl, wlX5, tyX5_ok, nmX5⟩
theorem wl6_0 : u_lay RX6 TX6 0 ∈ TB := tb_t 778 (by decide +kernel) (by decide +kernel)
theorem wl6_1 : u_lay RX6 TX6 1 ∈ TB := tb_t 780 (by decide +kernel) (by decide +kernel)
theorem wl6_2 : u_lay RX6 TX6 2 ∈ TB := tb_t 782 (by decide +kernel) (by decide +kernel)
theorem wl6_3 : u_lay RX6 TX6 3 ∈ TB := tb_t 784 (by decide +kernel) (by decide +kernel)
theorem wl6_4 : u_lay RX6 TX6 4 ∈ TB := tb_t 786 (by decide +kernel) (by decide +kernel)
theorem wl6_5 : u_lay RX6 TX6 5 ∈ TB := tb_t 788 (by decide +kernel) (by decide +kernel)
theorem wl6_6 : u_lay RX6 TX6 6 ∈ TB := tb_t 790 (by decide +kernel) (by decide +kernel)
theorem wl6_7 : u_lay RX6 TX6 7 ∈ TB := tb_t 792 (by decide +kernel) (by decide +kernel)
theorem wl6_8 : u_lay RX6 TX6 8 ∈ TB := tb_t 794 (by decide +kernel) (by decide +kernel)
theorem wl6_9 : u_lay RX6 TX6 9 ∈ TB := tb_t 796 (by decide +kernel) (by decide +kernel)
theorem wl6_10 : u_lay RX6 TX6 10 ∈ TB := tb_t 798 (by decide +kernel) (by decide +kernel)
theorem wl6_11 : u_lay RX6 TX6 11 ∈ TB := tb_t 800 (by decide +kernel) (by decide +kernel)
theorem wl6_12 : u_lay RX6 TX6 12 ∈ TB := tb_t 802 (by decide +kernel) (by decide +kernel)
theorem wl6_13 : u_lay RX6 TX6 13 ∈ TB := tb_t 804 (by decide +kernel) (by decide +kernel)
theorem wl6_14 : u_lay RX6 TX6 14 ∈ TB := tb_t 806 (by decide +kernel) (by decide +kernel)
theorem wl6_15 : u_lay RX6 TX6 15 ∈ TB := tb_t 808 (by decide +kernel) (by decide +kernel)
theorem wl6_16 : u_lay RX6 TX6 16 ∈ TB := tb_t 810 (by decide +kernel) (by decide +kernel)
theorem wl6_17 : u_lay RX6 TX6 17 ∈ TB := tb_t 812 (by decide +kernel) (by decide +kernel)
theorem wlX6 : ∀ x ∈ u_ws RX6 TX6 18, x ∈ TB := by
  intro x hx
  obtain ⟨k, hk, rfl⟩ := List.mem_map.mp hx
  have hk := List.mem_range.mp hk
  match k, hk with
  | 0, _ => exact wl6_0
  | 1, _ => exact wl6_1
  | 2, _ => exact wl6_2
  | 3, _ => exact wl6_3
  | 4, _ => exact wl6_4
  | 5, _ => exact wl6_5
  | 6, _ => exact wl6_6
  | 7, _ => exact wl6_7
  | 8, _ => exact wl6_8
  | 9, _ => exact wl6_9
  | 10, _ => exact wl6_10
  | 11, _ => exact wl6_11
  | 12, _ => exact wl6_12
  | 13, _ => exact wl6_13
  | 14, _ => exact wl6_14
  | 15, _ => exact wl6_15
  | 16, _ => exact wl6_16
  | 17, _ => exact wl6_17
  | k + 18, hk => exact absurd hk (by omega)
theorem clX6 : ClOk 5 RX6 TX6 18 tyX6 := ⟨rfl, wlX6, tyX6_ok, nmX6⟩
theorem wfX5_10 : Cond.fieldLink RX5 10 "LaughTax" "live" "LLaughTax$Room;" ∈ TB := tb_t 180 (by decide +kernel) (by decide +kernel)
theorem gfX5_10 {M : MC} {w : WE} {sh : List Shp} {cc : ByteArray} {nL : Nat} {ret : Option FieldType} {d : Nat} {α : Type} {ι : α → Option Value × Mem} {pc : Nat} {lv : List (Option Value)} {st : List Value} {σ : Mem} {b : Option α} (X : Cx M w sh cc nL RX5 ret d) {k : Nat} {fs : List (Option Nat)} (q : Nat) (hs : sh[k]? = some (.inr (4, fs))) (hf : fs[0]? = some (some q)) (hd : decode cc pc = .ok (.getfield 10, 3)) (kk : Cp M w sh nL ι (pc + 3) lv (.ref (wad w q) :: st) σ b) : Cp M w sh nL ι pc lv (.ref (wad w k) :: st) σ b := Cp.getR X clX5 hs 0 (by decide) wfX5_10 hf hd kk
theorem wfX5_16 : Cond.fieldLink RX5 16 "LaughTax" "trial" "LLaughTax$Room;" ∈ TB := tb_t 181 (by decide +kernel) (by decide +kernel)
theorem gfX5_16 {M : MC} {w : WE} {sh : List Shp} {cc : ByteArray} {nL : Nat} {ret : Option FieldType} {d : Nat} {α : Type} {ι : α → Option Value × Mem} {pc : Nat} {lv : List (Option Value)} {st : List Value} {σ : Mem} {b : Option α} (X : Cx M w sh cc nL RX5 ret d) {k : Nat} {fs : List (Option Nat)} (q : Nat) (hs : sh[k]? = some (.inr (4, fs))) (hf : fs[1]? = some (some q)) (hd : decode cc pc = .ok (.getfield 16, 3)) (kk : Cp M w sh nL ι (pc + 3) lv (.ref (wad w q) :: st) σ b) : Cp M w sh nL ι pc lv (.ref (wad w k) :: st) σ b := Cp.getR X clX5 hs 1 (by decide) wfX5_16 hf hd kk
theorem wfX5_19 : Cond.fieldLink RX5 19 "LaughTax" "kept" "LLaughTax$Room;" ∈ TB := tb_t 182 (by decide +kernel) (by decide +kernel)
theorem gfX5_19 {M : MC} {w : WE} {sh : List Shp} {cc : ByteArray} {nL : Nat} {ret : Option FieldType} {d : Nat} {α : Type} {ι : α → Option Value × Mem} {pc : Nat} {lv : List (Option Value)} {st : List Value} {σ : Mem} {b : Option α} (X : Cx M w sh cc nL RX5 ret d) {k : Nat} {fs : List (Option Nat)} (q : Nat) (hs : sh[k]? = some (.inr (4, fs))) (hf : fs[2]? = some (some q)) (hd : decode cc pc = .ok (.getfield 19, 3)) (kk : Cp M w sh nL ι (pc + 3) lv (.ref (wad w q) :: st) σ b) : Cp M w sh nL ι pc lv (.ref (wad w k) :: st) σ b := Cp.getR X clX5 hs 2 (by decide) wfX5_19 hf hd kk
theorem wfX5_22 : Cond.fieldLink RX5 22 "LaughTax" "keeps" "Z" ∈ TB := tb_t 183 (by decide +kernel) (by decide +kernel)
theorem gfX5_22 {M : MC} {w : WE} {sh : List Shp} {cc : ByteArray} {nL : Nat} {ret : Option FieldType} {d : Nat} {α : Type} {ι : α → Option Value × Mem} {pc : Nat} {lv : List (Option Value)} {st : List Value} {σ : Mem} {b : Option α} (X : Cx M w sh cc nL RX5 ret d) {k : Nat} {fs : List (Option Nat)} (hs : sh[k]? = some (.inr (4, fs))) (hf : fs[3]? = some none) (hd : decode cc pc = .ok (.getfield 22, 3)) (kk : Cp M w sh nL ι (pc + 3) lv (.int (σ k 3) :: st) σ b) : Cp M w sh nL ι pc lv (.ref (wad w k) :: st) σ b := Cp.getI X clX5 hs 3 (by decide) wfX5_22 hf hd kk
theorem pfX5_22 {M : MC} {w : WE} {sh : List Shp} {cc : ByteArray} {nL : Nat} {ret : Option FieldType} {d : Nat} {α : Type} {ι : α → Option Value × Mem} {pc : Nat} {lv : List (Option Value)} {st : List Value} {σ : Mem} {b : Option α} (X : Cx M w sh cc nL RX5 ret d) {k : Nat} {fs : List (Option Nat)} (hs : sh[k]? = some (.inr (4, fs))) (hf : fs[3]? = some none) {v : Int32} (hd : decode cc pc = .ok (.putfield 22, 3)) (kk : Cp M w sh nL ι (pc + 3) lv st (up2 σ k 3 v) b) : Cp M w sh nL ι pc lv (.int v :: .ref (wad w k) :: st) σ (gd (v = 0 ∨ v = 1) b) := Cp.putZ X clX5 hs 3 (by decide) wfX5_22 hf rfl (by decide +kernel) hd kk
theorem pfcX5_22 {M : MC} {w : WE} {sh : List Shp} {cc : ByteArray} {nL : Nat} {ret : Option FieldType} {d : Nat} {α : Type} {ι : α → Option Value × Mem} {pc : Nat} {lv : List (Option Value)} {st : List Value} {σ : Mem} {b : Option α} (X : Cx M w sh cc nL RX5 ret d) {k : Nat} {fs : List (Option Nat)} (hs : sh[k]? = some (.inr (4, fs))) (hf : fs[3]? = some none) {v : Int32} (hv : v = 0 ∨ v = 1) (hd : decode cc pc = .ok (.putfield 22, 3)) (kk : Cp M w sh nL ι (pc + 3) lv st (up2 σ k 3 v) b) : Cp M w sh nL ι pc lv (.int v :: .ref (wad w k) :: st) σ b := Cp.putZc X clX5 hs 3 (by decide) wfX5_22 hf rfl (by decide +kernel) hv hd kk
theorem wfX5_29 : Cond.fieldLink RX5 29 "LaughTax" "telling" "LLaughTax$Telling;" ∈ TB := tb_t 184 (by decide +kernel) (by decide +kernel)
theorem gfX5_29 {M : MC} {w : WE} {sh : List Shp} {cc : ByteArray} {nL : Nat} {ret : Option FieldType} {d : Nat} {α : Type} {ι : α → Option Value × Mem} {pc : Nat} {lv : List (Option Value)} {st : List Value} {σ : Mem} {b : Option α} (X : Cx M w sh cc nL RX5 ret d) {k : Nat} {fs : List (Option Nat)} (q : Nat) (hs : sh[k]? = some (.inr (4, fs))) (hf : fs[4]? = some (some q)) (hd : decode cc pc = .ok (.getfield 29, 3)) (kk : Cp M w sh nL ι (pc + 3) lv (.ref (wad w q) :: st) σ b) : Cp M w sh nL ι pc lv (.ref (wad w k) :: st) σ b := Cp.getR X clX5 hs 4 (by decide) wfX5_29 hf hd kk
theorem wfX5_36 : Cond.fieldLink RX5 36 "LaughTax" "tape" "LLaughTax$Tape;" ∈ TB := tb_t 185 (by decide +kernel) (by decide +kernel)
theorem gfX5_36 {M : MC} {w : WE} {sh : List Shp} {cc : ByteArray} {nL : Nat} {ret : Option FieldType} {d : Nat} {α : Type} {ι : α → Option Value × Mem} {pc : Nat} {lv : List (Option Value)} {st : List Value} {σ : Mem} {b : Option α} (X : Cx M w sh cc nL RX5 ret d) {k : Nat} {fs : List (Option Nat)} (q : Nat) (hs : sh[k]? = some (.inr (4, fs))) (hf : fs[5]? = some (some q)) (hd : decode cc pc = .ok (.getfield 36, 3)) (kk : Cp M w sh nL ι (pc + 3) lv (.ref (wad w q) :: st) σ b) : Cp M w sh nL ι pc lv (.ref (wad w k) :: st) σ b := Cp.getR X clX5 hs 5 (by decide) wfX5_36 hf hd kk
theorem wfX5_42 : Cond.fieldLink RX5 42 "LaughTax" "sheets" "[LLaughTax$Sheet;" ∈ TB := tb_t 186 (by decide +kernel) (by decide +kernel)
theorem gfX5_42 {M : MC} {w : WE} {sh : List Shp} {cc : ByteArray} {nL : Nat} {ret : Option FieldType} {d : Nat} {α : Type} {ι : α → Option Value × Mem} {pc : Nat} {lv : List (Option Value)} {st : List Value} {σ : Mem} {b : Option α} (X : Cx M w sh cc nL RX5 ret d) {k : Nat} {fs : List (Option Nat)} (q : Nat) (hs : sh[k]? = some (.inr (4, fs))) (hf : fs[6]? = some (some q)) (hd : decode cc pc = .ok (.getfield 42, 3)) (kk : Cp M w sh nL ι (pc + 3) lv (.ref (wad w q) :: st) σ b) : Cp M w sh nL ι pc lv (.ref (wad w k) :: st) σ b := Cp.getR X clX5 hs 6 (by decide) wfX5_42 hf hd kk
theorem wfX5_47 : Cond.fieldLink RX5 47 "LaughTax" "findings" "[I" ∈ TB := tb_t 187 (by decide +kernel) (by decide +kernel)
theorem gfX5_47 {M : MC} {w : WE} {sh : List Shp} {cc : ByteArray} {nL : Nat} {ret : Option FieldType} {d : Nat} {α : Type} {ι : α → Option Value × Mem} {pc : Nat} {lv : List (Option Value)} {st : List Value} {σ : Mem} {b : Option α} (X : Cx M w sh cc nL RX5 ret d) {k : Nat} {fs : List (Option Nat)} (q : Nat) (hs : sh[k]? = some (.inr (4, fs))) (hf : fs[7]? = some (some q)) (hd : decode cc pc = .ok (.getfield 47, 3)) (kk : Cp M w sh nL ι (pc + 3) lv (.ref (wad w q) :: st) σ b) : Cp M w sh nL ι pc lv (.ref (wad w k) :: st) σ b := Cp.getR X clX5 hs 7 (by decide) wfX5_47 hf hd kk
theorem wfX5_63 : Cond.fieldLinkNest RX5 63 "LaughTax$Room" "people" "I" "LaughTax" ∈ TB := tb_t 31 (by decide +kernel) (by decide +kernel)
theorem gfX5_63 {M : MC} {w : WE} {sh : List Shp} {cc : ByteArray} {nL : Nat} {ret : Option FieldType} {d : Nat} {α : Type} {ι : α → Option Value × Mem} {pc : Nat} {lv : List (Option Value)} {st : List Value} {σ : Mem} {b : Option α} (X : Cx M w sh cc nL RX5 ret d) {k : Nat} {fs : List (Option Nat)} (hs : sh[k]? = some (.inr (0, fs))) (hf : fs[0]? = some none) (hd : decode cc pc = .ok (.getfield 63, 3)) (kk : Cp M w sh nL ι (pc + 3) lv (.int (σ k 0) :: st) σ b) : Cp M w sh nL ι pc lv (.ref (wad w k) :: st) σ b := Cp.getIN X clX1 hs 0 (by decide) wfX5_63 hf hd kk
theorem pfX5_63 {M : MC} {w : WE} {sh : List Shp} {cc : ByteArray} {nL : Nat} {ret : Option FieldType} {d : Nat} {α : Type} {ι : α → Option Value × Mem} {pc : Nat} {lv : List (Option Value)} {st : List Value} {σ : Mem} {b : Option α} (X : Cx M w sh cc nL RX5 ret d) {k : Nat} {fs : List (Option Nat)} (hs : sh[k]? = some (.inr (0, fs))) (hf : fs[0]? = some none) {v : Int32} (hd : decode cc pc = .ok (.putfield 63, 3)) (kk : Cp M w sh nL ι (pc + 3) lv st (up2 σ k 0 v) b) : Cp M w sh nL ι pc lv (.int v :: .ref (wad w k) :: st) σ b := Cp.putIN X clX1 hs 0 (by decide) wfX5_63 hf rfl (by decide +kernel) hd kk
theorem wfX5_75 : Cond.fieldLinkNest RX5 75 "LaughTax$Room" "kind" "[I" "LaughTax" ∈ TB := tb_t 35 (by decide +kernel) (by decide +kernel)
theorem gfX5_75 {M : MC} {w : WE} {sh : List Shp} {cc : ByteArray} {nL : Nat} {ret : Option FieldType} {d : Nat} {α : Type} {ι : α → Option Value × Mem} {pc : Nat} {lv : List (Option Value)} {st : List Value} {σ : Mem} {b : Option α} (X : Cx M w sh cc nL RX5 ret d) {k : Nat} {fs : List (Option Nat)} (q : Nat) (hs : sh[k]? = some (.inr (0, fs))) (hf : fs[1]? = some (some q)) (hd : decode cc pc = .ok (.getfield 75, 3)) (kk : Cp M w sh nL ι (pc + 3) lv (.ref (wad w q) :: st) σ b) : Cp M w sh nL ι pc lv (.ref (wad w k) :: st) σ b := Cp.getRN X clX1 hs 1 (by decide) wfX5_75 hf hd kk
theorem wfX5_78 : Cond.fieldLinkNest RX5 78 "LaughTax$Room" "seat" "[I" "LaughTax" ∈ TB := tb_t 37 (by decide +kernel) (by decide +kernel)
theorem gfX5_78 {M : MC} {w : WE} {sh : List Shp} {cc : ByteArray} {nL : Nat} {ret : Option FieldType} {d : Nat} {α : Type} {ι : α → Option Value × Mem} {pc : Nat} {lv : List (Option Value)} {st : List Value} {σ : Mem} {b : Option α} (X : Cx M w sh cc nL RX5 ret d) {k : Nat} {fs : List (Option Nat)} (q : Nat) (hs : sh[k]? = some (.inr (0, fs))) (hf : fs[2]? = some (some q)) (hd : decode cc pc = .ok (.getfield 78, 3)) (kk : Cp M w sh nL ι (pc + 3) lv (.ref (wad w q) :: st) σ b) : Cp M w sh nL ι pc lv (.ref (wad w k) :: st) σ b := Cp.getRN X clX1 hs 2 (by decide) wfX5_78 hf hd kk
theorem wfX5_81 : Cond.fieldLinkNest RX5 81 "LaughTax$Room" "taste" "[I" "LaughTax" ∈ TB := tb_t 40 (by decide +kernel) (by decide +kernel)
theorem gfX5_81 {M : MC} {w : WE} {sh : List Shp} {cc : ByteArray} {nL : Nat} {ret : Option FieldType} {d : Nat} {α : Type} {ι : α → Option Value × Mem} {pc : Nat} {lv : List (Option Value)} {st : List Value} {σ : Mem} {b : Option α} (X : Cx M w sh cc nL RX5 ret d) {k : Nat} {fs : List (Option Nat)} (q : Nat) (hs : sh[k]? = some (.inr (0, fs))) (hf : fs[3]? = some (some q)) (hd : decode cc pc = .ok (.getfield 81, 3)) (kk : Cp M w sh nL ι (pc + 3) lv (.ref (wad w q) :: st) σ b) : Cp M w sh nL ι pc lv (.ref (wad w k) :: st) σ b := Cp.getRN X clX1 hs 3 (by decide) wfX5_81 hf hd kk
theorem wfX5_84 : Cond.fieldLinkNest RX5 84 "LaughTax$Room" "mood" "[I" "LaughTax" ∈ TB := tb_t 43 (by decide +kernel) (by decide +kernel)
theorem gfX5_84 {M : MC} {w : WE} {sh : List Shp} {cc : ByteArray} {nL : Nat} {ret : Option FieldType} {d : Nat} {α : Type} {ι : α → Option Value × Mem} {pc : Nat} {lv : List (Option Value)} {st : List Value} {σ : Mem} {b : Option α} (X : Cx M w sh cc nL RX5 ret d) {k : Nat} {fs : List (Option Nat)} (q : Nat) (hs : sh[k]? = some (.inr (0, fs))) (hf : fs[4]? = some (some q)) (hd : decode cc pc = .ok (.getfield 84, 3)) (kk : Cp M w sh nL ι (pc + 3) lv (.ref (wad w q) :: st) σ b) : Cp M w sh nL ι pc lv (.ref (wad w k) :: st) σ b := Cp.getRN X clX1 hs 4 (by decide) wfX5_84 hf hd kk
theorem wfX5_87 : Cond.fieldLinkNest RX5 87 "LaughTax$Room" "purse" "[I" "LaughTax" ∈ TB := tb_t 48 (by decide +kernel) (by decide +kernel)
theorem gfX5_87 {M : MC} {w : WE} {sh : List Shp} {cc : ByteArray} {nL : Nat} {ret : Option FieldType} {d : Nat} {α : Type} {ι : α → Option Value × Mem} {pc : Nat} {lv : List (Option Value)} {st : List Value} {σ : Mem} {b : Option α} (X : Cx M w sh cc nL RX5 ret d) {k : Nat} {fs : List (Option Nat)} (q : Nat) (hs : sh[k]? = some (.inr (0, fs))) (hf : fs[5]? = some (some q)) (hd : decode cc pc = .ok (.getfield 87, 3)) (kk : Cp M w sh nL ι (pc + 3) lv (.ref (wad w q) :: st) σ b) : Cp M w sh nL ι pc lv (.ref (wad w k) :: st) σ b := Cp.getRN X clX1 hs 5 (by decide) wfX5_87 hf hd kk
theorem wfX5_98 : Cond.fieldLinkNest RX5 98 "LaughTax$Room" "near" "[I" "LaughTax" ∈ TB := tb_t 51 (by decide +kernel) (by decide +kernel)
theorem gfX5_98 {M : MC} {w : WE} {sh : List Shp} {cc : ByteArray} {nL : Nat} {ret : Option FieldType} {d : Nat} {α : Type} {ι : α → Option Value × Mem} {pc : Nat} {lv : List (Option Value)} {st : List Value} {σ : Mem} {b : Option α} (X : Cx M w sh cc nL RX5 ret d) {k : Nat} {fs : List (Option Nat)} (q : Nat) (hs : sh[k]? = some (.inr (0, fs))) (hf : fs[6]? = some (some q)) (hd : decode cc pc = .ok (.getfield 98, 3)) (kk : Cp M w sh nL ι (pc + 3) lv (.ref (wad w q) :: st) σ b) : Cp M w sh nL ι pc lv (.ref (wad w k) :: st) σ b := Cp.getRN X clX1 hs 6 (by decide) wfX5_98 hf hd kk
theorem wfX5_123 : Cond.fieldLinkNest RX5 123 "LaughTax$Room" "jokes" "I" "LaughTax" ∈ TB := tb_t 54 (by decide +kernel) (by decide +kernel)
theorem gfX5_123 {M : MC} {w : WE} {sh : List Shp} {cc : ByteArray} {nL : Nat} {ret : Option FieldType} {d : Nat} {α : Type} {ι : α → Option Value × Mem} {pc : Nat} {lv : List (Option Value)} {st : List Value} {σ : Mem} {b : Option α} (X : Cx M w sh cc nL RX5 ret d) {k : Nat} {fs : List (Option Nat)} (hs : sh[k]? = some (.inr (0, fs))) (hf : fs[7]? = some none) (hd : decode cc pc = .ok (.getfield 123, 3)) (kk : Cp M w sh nL ι (pc + 3) lv (.int (σ k 7) :: st) σ b) : Cp M w sh nL ι pc lv (.ref (wad w k) :: st) σ b := Cp.getIN X clX1 hs 7 (by decide) wfX5_123 hf hd kk
theorem pfX5_123 {M : MC} {w : WE} {sh : List Shp} {cc : ByteArray} {nL : Nat} {ret : Option FieldType} {d : Nat} {α : Type} {ι : α → Option Value × Mem} {pc : Nat} {lv : List (Option Value)} {st : List Value} {σ : Mem} {b : Option α} (X : Cx M w sh cc nL RX5 ret d) {k : Nat} {fs : List (Option Nat)} (hs : sh[k]? = some (.inr (0, fs))) (hf : fs[7]? = some none) {v : Int32} (hd : decode cc pc = .ok (.putfield 123, 3)) (kk : Cp M w sh nL ι (pc + 3) lv st (up2 σ k 7 v) b) : Cp M w sh nL ι pc lv (.int v :: .ref (wad w k) :: st) σ b := Cp.putIN X clX1 hs 7 (by decide) wfX5_123 hf rfl (by decide +kernel) hd kk
theorem wfX5_136 : Cond.fieldLinkNest RX5 136 "LaughTax$Room" "topics" "[I" "LaughTax" ∈ TB := tb_t 58 (by decide +kernel) (by decide +kernel)
theorem gfX5_136 {M : MC} {w : WE} {sh : List Shp} {cc : ByteArray} {nL : Nat} {ret : Option FieldType} {d : Nat} {α : Type} {ι : α → Option Value × Mem} {pc : Nat} {lv : List (Option Value)} {st : List Value} {σ : Mem} {b : Option α} (X : Cx M w sh cc nL RX5 ret d) {k : Nat} {fs : List (Option Nat)} (q : Nat) (hs : sh[k]? = some (.inr (0, fs))) (hf : fs[8]? = some (some q)) (hd : decode cc pc = .ok (.getfield 136, 3)) (kk : Cp M w sh nL ι (pc + 3) lv (.ref (wad w q) :: st) σ b) : Cp M w sh nL ι pc lv (.ref (wad w k) :: st) σ b := Cp.getRN X clX1 hs 8 (by decide) wfX5_136 hf hd kk
theorem wfX5_139 : Cond.fieldLinkNest RX5 139 "LaughTax$Room" "fun" "[I" "LaughTax" ∈ TB := tb_t 61 (by decide +kernel) (by decide +kernel)
theorem gfX5_139 {M : MC} {w : WE} {sh : List Shp} {cc : ByteArray} {nL : Nat} {ret : Option FieldType} {d : Nat} {α : Type} {ι : α → Option Value × Mem} {pc : Nat} {lv : List (Option Value)} {st : List Value} {σ : Mem} {b : Option α} (X : Cx M w sh cc nL RX5 ret d) {k : Nat} {fs : List (Option Nat)} (q : Nat) (hs : sh[k]? = some (.inr (0, fs))) (hf : fs[9]? = some (some q)) (hd : decode cc pc = .ok (.getfield 139, 3)) (kk : Cp M w sh nL ι (pc + 3) lv (.ref (wad w q) :: st) σ b) : Cp M w sh nL ι pc lv (.ref (wad w k) :: st) σ b := Cp.getRN X clX1 hs 9 (by decide) wfX5_139 hf hd kk
theorem wfX5_142 : Cond.fieldLinkNest RX5 142 "LaughTax$Room" "rate" "I" "LaughTax" ∈ TB := tb_t 64 (by decide +kernel) (by decide +kernel)
theorem gfX5_142 {M : MC} {w : WE} {sh : List Shp} {cc : ByteArray} {nL : Nat} {ret : Option FieldType} {d : Nat} {α : Type} {ι : α → Option Value × Mem} {pc : Nat} {lv : List (Option Value)} {st : List Value} {σ : Mem} {b : Option α} (X : Cx M w sh cc nL RX5 ret d) {k : Nat} {fs : List (Option Nat)} (hs : sh[k]? = some (.inr (0, fs))) (hf : fs[10]? = some none) (hd : decode cc pc = .ok (.getfield 142, 3)) (kk : Cp M w sh nL ι (pc + 3) lv (.int (σ k 10) :: st) σ b) : Cp M w sh nL ι pc lv (.ref (wad w k) :: st) σ b := Cp.getIN X clX1 hs 10 (by decide) wfX5_142 hf hd kk
theorem pfX5_142 {M : MC} {w : WE} {sh : List Shp} {cc : ByteArray} {nL : Nat} {ret : Option FieldType} {d : Nat} {α : Type} {ι : α → Option Value × Mem} {pc : Nat} {lv : List (Option Value)} {st : List Value} {σ : Mem} {b : Option α} (X : Cx M w sh cc nL RX5 ret d) {k : Nat} {fs : List (Option Nat)} (hs : sh[k]? = some (.inr (0, fs))) (hf : fs[10]? = some none) {v : Int32} (hd : decode cc pc = .ok (.putfield 142, 3)) (kk : Cp M w sh nL ι (pc + 3) lv st (up2 σ k 10 v) b) : Cp M w sh nL ι pc lv (.int v :: .ref (wad w k) :: st) σ b := Cp.putIN X clX1 hs 10 (by decide) wfX5_142 hf rfl (by decide +kernel) hd kk
theorem wfX5_145 : Cond.fieldLinkNest RX5 145 "LaughTax$Room" "reach" "I" "LaughTax" ∈ TB := tb_t 66 (by decide +kernel) (by decide +kernel)
theorem gfX5_145 {M : MC} {w : WE} {sh : List Shp} {cc : ByteArray} {nL : Nat} {ret : Option FieldType} {d : Nat} {α : Type} {ι : α → Option Value × Mem} {pc : Nat} {lv : List (Option Value)} {st : List Value} {σ : Mem} {b : Option α} (X : Cx M w sh cc nL RX5 ret d) {k : Nat} {fs : List (Option Nat)} (hs : sh[k]? = some (.inr (0, fs))) (hf : fs[11]? = some none) (hd : decode cc pc = .ok (.getfield 145, 3)) (kk : Cp M w sh nL ι (pc + 3) lv (.int (σ k 11) :: st) σ b) : Cp M w sh nL ι pc lv (.ref (wad w k) :: st) σ b := Cp.getIN X clX1 hs 11 (by decide) wfX5_145 hf hd kk
theorem pfX5_145 {M : MC} {w : WE} {sh : List Shp} {cc : ByteArray} {nL : Nat} {ret : Option FieldType} {d : Nat} {α : Type} {ι : α → Option Value × Mem} {pc : Nat} {lv : List (Option Value)} {st : List Value} {σ : Mem} {b : Option α} (X : Cx M w sh cc nL RX5 ret d) {k : Nat} {fs : List (Option Nat)} (hs : sh[k]? = some (.inr (0, fs))) (hf : fs[11]? = some none) {v : Int32} (hd : decode cc pc = .ok (.putfield 145, 3)) (kk : Cp M w sh nL ι (pc + 3) lv st (up2 σ k 11 v) b) : Cp M w sh nL ι pc lv (.int v :: .ref (wad w k) :: st) σ b := Cp.putIN X clX1 hs 11 (by decide) wfX5_145 hf rfl (by decide +kernel) hd kk
theorem wfX5_162 : Cond.fieldLinkNest RX5 162 "LaughTax$Room" "told" "I" "LaughTax" ∈ TB := tb_t 72 (by decide +kernel) (by decide +kernel)
theorem gfX5_162 {M : MC} {w : WE} {sh : List Shp} {cc : ByteArray} {nL : Nat} {ret : Option FieldType} {d : Nat} {α : Type} {ι : α → Option Value × Mem} {pc : Nat} {lv : List (Option Value)} {st : List Value} {σ : Mem} {b : Option α} (X : Cx M w sh cc nL RX5 ret d) {k : Nat} {fs : List (Option Nat)} (hs : sh[k]? = some (.inr (0, fs))) (hf : fs[13]? = some none) (hd : decode cc pc = .ok (.getfield 162, 3)) (kk : Cp M w sh nL ι (pc + 3) lv (.int (σ k 13) :: st) σ b) : Cp M w sh nL ι pc lv (.ref (wad w k) :: st) σ b := Cp.getIN X clX1 hs 13 (by decide) wfX5_162 hf hd kk
theorem pfX5_162 {M : MC} {w : WE} {sh : List Shp} {cc : ByteArray} {nL : Nat} {ret : Option FieldType} {d : Nat} {α : Type} {ι : α → Option Value × Mem} {pc : Nat} {lv : List (Option Value)} {st : List Value} {σ : Mem} {b : Option α} (X : Cx M w sh cc nL RX5 ret d) {k : Nat} {fs : List (Option Nat)} (hs : sh[k]? = some (.inr (0, fs))) (hf : fs[13]? = some none) {v : Int32} (hd : decode cc pc = .ok (.putfield 162, 3)) (kk : Cp M w sh nL ι (pc + 3) lv st (up2 σ k 13 v) b) : Cp M w sh nL ι pc lv (.int v :: .ref (wad w k) :: st) σ b := Cp.putIN X clX1 hs 13 (by decide) wfX5_162 hf rfl (by decide +kernel) hd kk
theorem wfX5_175 : Cond.fieldLinkNest RX5 175 "LaughTax$Room" "treasury" "I" "LaughTax" ∈ TB := tb_t 69 (by decide +kernel) (by decide +kernel)
theorem gfX5_175 {M : MC} {w : WE} {sh : List Shp} {cc : ByteArray} {nL : Nat} {ret : Option FieldType} {d : Nat} {α : Type} {ι : α → Option Value × Mem} {pc : Nat} {lv : List (Option Value)} {st : List Value} {σ : Mem} {b : Option α} (X : Cx M w sh cc nL RX5 ret d) {k : Nat} {fs : List (Option Nat)} (hs : sh[k]? = some (.inr (0, fs))) (hf : fs[12]? = some none) (hd : decode cc pc = .ok (.getfield 175, 3)) (kk : Cp M w sh nL ι (pc + 3) lv (.int (σ k 12) :: st) σ b) : Cp M w sh nL ι pc lv (.ref (wad w k) :: st) σ b := Cp.getIN X clX1 hs 12 (by decide) wfX5_175 hf hd kk
theorem pfX5_175 {M : MC} {w : WE} {sh : List Shp} {cc : ByteArray} {nL : Nat} {ret : Option FieldType} {d : Nat} {α : Type} {ι : α → Option Value × Mem} {pc : Nat} {lv : List (Option Value)} {st : List Value} {σ : Mem} {b : Option α} (X : Cx M w sh cc nL RX5 ret d) {k : Nat} {fs : List (Option Nat)} (hs : sh[k]? = some (.inr (0, fs))) (hf : fs[12]? = some none) {v : Int32} (hd : decode cc pc = .ok (.putfield 175, 3)) (kk : Cp M w sh nL ι (pc + 3) lv st (up2 σ k 12 v) b) : Cp M w sh nL ι pc lv (.int v :: .ref (wad w k) :: st) σ b := Cp.putIN X clX1 hs 12 (by decide) wfX5_175 hf rfl (by decide +kernel) hd kk
theorem wfX5_198 : Cond.fieldLinkNest RX5 198 "LaughTax$Telling" "lastRound" "I" "LaughTax" ∈ TB := tb_t 122 (by decide +kernel) (by decide +kernel)
theorem gfX5_198 {M : MC} {w : WE} {sh : List Shp} {cc : ByteArray} {nL : Nat} {ret : Option FieldType} {d : Nat} {α : Type} {ι : α → Option Value × Mem} {pc : Nat} {lv : List (Option Value)} {st : List Value} {σ : Mem} {b : Option α} (X : Cx M w sh cc nL RX5 ret d) {k : Nat} {fs : List (Option Nat)} (hs : sh[k]? = some (.inr (3, fs))) (hf : fs[2]? = some none) (hd : decode cc pc = .ok (.getfield 198, 3)) (kk : Cp M w sh nL ι (pc + 3) lv (.int (σ k 2) :: st) σ b) : Cp M w sh nL ι pc lv (.ref (wad w k) :: st) σ b := Cp.getIN X clX4 hs 2 (by decide) wfX5_198 hf hd kk
theorem pfX5_198 {M : MC} {w : WE} {sh : List Shp} {cc : ByteArray} {nL : Nat} {ret : Option FieldType} {d : Nat} {α : Type} {ι : α → Option Value × Mem} {pc : Nat} {lv : List (Option Value)} {st : List Value} {σ : Mem} {b : Option α} (X : Cx M w sh cc nL RX5 ret d) {k : Nat} {fs : List (Option Nat)} (hs : sh[k]? = some (.inr (3, fs))) (hf : fs[2]? = some none) {v : Int32} (hd : decode cc pc = .ok (.putfield 198, 3)) (kk : Cp M w sh nL ι (pc + 3) lv st (up2 σ k 2 v) b) : Cp M w sh nL ι pc lv (.int v :: .ref (wad w k) :: st) σ b := Cp.putIN X clX4 hs 2 (by decide) wfX5_198 hf rfl (by decide +kernel) hd kk
theorem wfX5_205 : Cond.fieldLinkNest RX5 205 "LaughTax$Telling" "paid" "[I" "LaughTax" ∈ TB := tb_t 120 (by decide +kernel) (by decide +kernel)
theorem gfX5_205 {M : MC} {w : WE} {sh : List Shp} {cc : ByteArray} {nL : Nat} {ret : Option FieldType} {d : Nat} {α : Type} {ι : α → Option Value × Mem} {pc : Nat} {lv : List (Option Value)} {st : List Value} {σ : Mem} {b : Option α} (X : Cx M w sh cc nL RX5 ret d) {k : Nat} {fs : List (Option Nat)} (q : Nat) (hs : sh[k]? = some (.inr (3, fs))) (hf : fs[1]? = some (some q)) (hd : decode cc pc = .ok (.getfield 205, 3)) (kk : Cp M w sh nL ι (pc + 3) lv (.ref (wad w q) :: st) σ b) : Cp M w sh nL ι pc lv (.ref (wad w k) :: st) σ b := Cp.getRN X clX4 hs 1 (by decide) wfX5_205 hf hd kk
theorem wfX5_248 : Cond.fieldLinkNest RX5 248 "LaughTax$Room" "z" "I" "LaughTax" ∈ TB := tb_t 74 (by decide +kernel) (by decide +kernel)
theorem gfX5_248 {M : MC} {w : WE} {sh : List Shp} {cc : ByteArray} {nL : Nat} {ret : Option FieldType} {d : Nat} {α : Type} {ι : α → Option Value × Mem} {pc : Nat} {lv : List (Option Value)} {st : List Value} {σ : Mem} {b : Option α} (X : Cx M w sh cc nL RX5 ret d) {k : Nat} {fs : List (Option Nat)} (hs : sh[k]? = some (.inr (0, fs))) (hf : fs[14]? = some none) (hd : decode cc pc = .ok (.getfield 248, 3)) (kk : Cp M w sh nL ι (pc + 3) lv (.int (σ k 14) :: st) σ b) : Cp M w sh nL ι pc lv (.ref (wad w k) :: st) σ b := Cp.getIN X clX1 hs 14 (by decide) wfX5_248 hf hd kk
theorem pfX5_248 {M : MC} {w : WE} {sh : List Shp} {cc : ByteArray} {nL : Nat} {ret : Option FieldType} {d : Nat} {α : Type} {ι : α → Option Value × Mem} {pc : Nat} {lv : List (Option Value)} {st : List Value} {σ : Mem} {b : Option α} (X : Cx M w sh cc nL RX5 ret d) {k : Nat} {fs : List (Option Nat)} (hs : sh[k]? = some (.inr (0, fs))) (hf : fs[14]? = some none) {v : Int32} (hd : decode cc pc = .ok (.putfield 248, 3)) (kk : Cp M w sh nL ι (pc + 3) lv st (up2 σ k 14 v) b) : Cp M w sh nL ι pc lv (.int v :: .ref (wad w k) :: st) σ b := Cp.putIN X clX1 hs 14 (by decide) wfX5_248 hf rfl (by decide +kernel) hd kk
theorem wfX5_251 : Cond.fieldLinkNest RX5 251 "LaughTax$Tape" "length" "I" "LaughTax" ∈ TB := tb_t 138 (by decide +kernel) (by decide +kernel)
theorem gfX5_251 {M : MC} {w : WE} {sh : List Shp} {cc : ByteArray} {nL : Nat} {ret : Option FieldType} {d : Nat} {α : Type} {ι : α → Option Value × Mem} {pc : Nat} {lv : List (Option Value)} {st : List Value} {σ : Mem} {b : Option α} (X : Cx M w sh cc nL RX5 ret d) {k : Nat} {fs : List (Option Nat)} (hs : sh[k]? = some (.inr (2, fs))) (hf : fs[1]? = some none) (hd : decode cc pc = .ok (.getfield 251, 3)) (kk : Cp M w sh nL ι (pc + 3) lv (.int (σ k 1) :: st) σ b) : Cp M w sh nL ι pc lv (.ref (wad w k) :: st) σ b := Cp.getIN X clX3 hs 1 (by decide) wfX5_251 hf hd kk
theorem pfX5_251 {M : MC} {w : WE} {sh : List Shp} {cc : ByteArray} {nL : Nat} {ret : Option FieldType} {d : Nat} {α : Type} {ι : α → Option Value × Mem} {pc : Nat} {lv : List (Option Value)} {st : List Value} {σ : Mem} {b : Option α} (X : Cx M w sh cc nL RX5 ret d) {k : Nat} {fs : List (Option Nat)} (hs : sh[k]? = some (.inr (2, fs))) (hf : fs[1]? = some none) {v : Int32} (hd : decode cc pc = .ok (.putfield 251, 3)) (kk : Cp M w sh nL ι (pc + 3) lv st (up2 σ k 1 v) b) : Cp M w sh nL ι pc lv (.int v :: .ref (wad w k) :: st) σ b := Cp.putIN X clX3 hs 1 (by decide) wfX5_251 hf rfl (by decide +kernel) hd kk
theorem wfX5_262 : Cond.fieldLinkNest RX5 262 "LaughTax$Room" "spots" "[I" "LaughTax" ∈ TB := tb_t 76 (by decide +kernel) (by decide +kernel)
theorem gfX5_262 {M : MC} {w : WE} {sh : List Shp} {cc : ByteArray} {nL : Nat} {ret : Option FieldType} {d : Nat} {α : Type} {ι : α → Option Value × Mem} {pc : Nat} {lv : List (Option Value)} {st : List Value} {σ : Mem} {b : Option α} (X : Cx M w sh cc nL RX5 ret d) {k : Nat} {fs : List (Option Nat)} (q : Nat) (hs : sh[k]? = some (.inr (0, fs))) (hf : fs[15]? = some (some q)) (hd : decode cc pc = .ok (.getfield 262, 3)) (kk : Cp M w sh nL ι (pc + 3) lv (.ref (wad w q) :: st) σ b) : Cp M w sh nL ι pc lv (.ref (wad w k) :: st) σ b := Cp.getRN X clX1 hs 15 (by decide) wfX5_262 hf hd kk
theorem wfX5_274 : Cond.fieldLinkNest RX5 274 "LaughTax$Sheet" "length" "I" "LaughTax" ∈ TB := tb_t 172 (by decide +kernel) (by decide +kernel)
theorem gfX5_274 {M : MC} {w : WE} {sh : List Shp} {cc : ByteArray} {nL : Nat} {ret : Option FieldType} {d : Nat} {α : Type} {ι : α → Option Value × Mem} {pc : Nat} {lv : List (Option Value)} {st : List Value} {σ : Mem} {b : Option α} (X : Cx M w sh cc nL RX5 ret d) {k : Nat} {fs : List (Option Nat)} (hs : sh[k]? = some (.inr (1, fs))) (hf : fs[2]? = some none) (hd : decode cc pc = .ok (.getfield 274, 3)) (kk : Cp M w sh nL ι (pc + 3) lv (.int (σ k 2) :: st) σ b) : Cp M w sh nL ι pc lv (.ref (wad w k) :: st) σ b := Cp.getIN X clX2 hs 2 (by decide) wfX5_274 hf hd kk
theorem pfX5_274 {M : MC} {w : WE} {sh : List Shp} {cc : ByteArray} {nL : Nat} {ret : Option FieldType} {d : Nat} {α : Type} {ι : α → Option Value × Mem} {pc : Nat} {lv : List (Option Value)} {st : List Value} {σ : Mem} {b : Option α} (X : Cx M w sh cc nL RX5 ret d) {k : Nat} {fs : List (Option Nat)} (hs : sh[k]? = some (.inr (1, fs))) (hf : fs[2]? = some none) {v : Int32} (hd : decode cc pc = .ok (.putfield 274, 3)) (kk : Cp M w sh nL ι (pc + 3) lv st (up2 σ k 2 v) b) : Cp M w sh nL ι pc lv (.int v :: .ref (wad w k) :: st) σ b := Cp.putIN X clX2 hs 2 (by decide) wfX5_274 hf rfl (by decide +kernel) hd kk
theorem wfX5_281 : Cond.fieldLinkNest RX5 281 "LaughTax$Sheet" "bits" "I" "LaughTax" ∈ TB := tb_t 170 (by decide +kernel) (by decide +kernel)
theorem gfX5_281 {M : MC} {w : WE} {sh : List Shp} {cc : ByteArray} {nL : Nat} {ret : Option FieldType} {d : Nat} {α : Type} {ι : α → Option Value × Mem} {pc : Nat} {lv : List (Option Value)} {st : List Value} {σ : Mem} {b : Option α} (X : Cx M w sh cc nL RX5 ret d) {k : Nat} {fs : List (Option Nat)} (hs : sh[k]? = some (.inr (1, fs))) (hf : fs[1]? = some none) (hd : decode cc pc = .ok (.getfield 281, 3)) (kk : Cp M w sh nL ι (pc + 3) lv (.int (σ k 1) :: st) σ b) : Cp M w sh nL ι pc lv (.ref (wad w k) :: st) σ b := Cp.getIN X clX2 hs 1 (by decide) wfX5_281 hf hd kk
theorem pfX5_281 {M : MC} {w : WE} {sh : List Shp} {cc : ByteArray} {nL : Nat} {ret : Option FieldType} {d : Nat} {α : Type} {ι : α → Option Value × Mem} {pc : Nat} {lv : List (Option Value)} {st : List Value} {σ : Mem} {b : Option α} (X : Cx M w sh cc nL RX5 ret d) {k : Nat} {fs : List (Option Nat)} (hs : sh[k]? = some (.inr (1, fs))) (hf : fs[1]? = some none) {v : Int32} (hd : decode cc pc = .ok (.putfield 281, 3)) (kk : Cp M w sh nL ι (pc + 3) lv st (up2 σ k 1 v) b) : Cp M w sh nL ι pc lv (.int v :: .ref (wad w k) :: st) σ b := Cp.putIN X clX2 hs 1 (by decide) wfX5_281 hf rfl (by decide +kernel) hd kk
theorem wfX5_287 : Cond.fieldLinkNest RX5 287 "LaughTax$Sheet" "numbers" "[I" "LaughTax" ∈ TB := tb_t 168 (by decide +kernel) (by decide +kernel)
theorem gfX5_287 {M : MC} {w : WE} {sh : List Shp} {cc : ByteArray} {nL : Nat} {ret : Option FieldType} {d : Nat} {α : Type} {ι : α → Option Value × Mem} {pc : Nat} {lv : List (Option Value)} {st : List Value} {σ : Mem} {b : Option α} (X : Cx M w sh cc nL RX5 ret d) {k : Nat} {fs : List (Option Nat)} (q : Nat) (hs : sh[k]? = some (.inr (1, fs))) (hf : fs[0]? = some (some q)) (hd : decode cc pc = .ok (.getfield 287, 3)) (kk : Cp M w sh nL ι (pc + 3) lv (.ref (wad w q) :: st) σ b) : Cp M w sh nL ι pc lv (.ref (wad w k) :: st) σ b := Cp.getRN X clX2 hs 0 (by decide) wfX5_287 hf hd kk
theorem wfX5_299 : Cond.fieldLinkNest RX5 299 "LaughTax$Telling" "roundOf" "[I" "LaughTax" ∈ TB := tb_t 118 (by decide +kernel) (by decide +kernel)
theorem gfX5_299 {M : MC} {w : WE} {sh : List Shp} {cc : ByteArray} {nL : Nat} {ret : Option FieldType} {d : Nat} {α : Type} {ι : α → Option Value × Mem} {pc : Nat} {lv : List (Option Value)} {st : List Value} {σ : Mem} {b : Option α} (X : Cx M w sh cc nL RX5 ret d) {k : Nat} {fs : List (Option Nat)} (q : Nat) (hs : sh[k]? = some (.inr (3, fs))) (hf : fs[0]? = some (some q)) (hd : decode cc pc = .ok (.getfield 299, 3)) (kk : Cp M w sh nL ι (pc + 3) lv (.ref (wad w q) :: st) σ b) : Cp M w sh nL ι pc lv (.ref (wad w k) :: st) σ b := Cp.getRN X clX4 hs 0 (by decide) wfX5_299 hf hd kk
theorem wfX1_9 : Cond.fieldLink RX1 9 "LaughTax$Room" "kind" "[I" ∈ TB := tb_t 33 (by decide +kernel) (by decide +kernel)
theorem gfX1_9 {M : MC} {w : WE} {sh : List Shp} {cc : ByteArray} {nL : Nat} {ret : Option FieldType} {d : Nat} {α : Type} {ι : α → Option Value × Mem} {pc : Nat} {lv : List (Option Value)} {st : List Value} {σ : Mem} {b : Option α} (X : Cx M w sh cc nL RX1 ret d) {k : Nat} {fs : List (Option Nat)} (q : Nat) (hs : sh[k]? = some (.inr (0, fs))) (hf : fs[1]? = some (some q)) (hd : decode cc pc = .ok (.getfield 9, 3)) (kk : Cp M w sh nL ι (pc + 3) lv (.ref (wad w q) :: st) σ b) : Cp M w sh nL ι pc lv (.ref (wad w k) :: st) σ b := Cp.getR X clX1 hs 1 (by decide) wfX1_9 hf hd kk
theorem wfX1_15 : Cond.fieldLink RX1 15 "LaughTax$Room" "seat" "[I" ∈ TB := tb_t 36 (by decide +kernel) (by decide +kernel)
theorem gfX1_15 {M : MC} {w : WE} {sh : List Shp} {cc : ByteArray} {nL : Nat} {ret : Option FieldType} {d : Nat} {α : Type} {ι : α → Option Value × Mem} {pc : Nat} {lv : List (Option Value)} {st : List Value} {σ : Mem} {b : Option α} (X : Cx M w sh cc nL RX1 ret d) {k : Nat} {fs : List (Option Nat)} (q : Nat) (hs : sh[k]? = some (.inr (0, fs))) (hf : fs[2]? = some (some q)) (hd : decode cc pc = .ok (.getfield 15, 3)) (kk : Cp M w sh nL ι (pc + 3) lv (.ref (wad w q) :: st) σ b) : Cp M w sh nL ι pc lv (.ref (wad w k) :: st) σ b := Cp.getR X clX1 hs 2 (by decide) wfX1_15 hf hd kk
theorem wfX1_18 : Cond.fieldLink RX1 18 "LaughTax$Room" "taste" "[I" ∈ TB := tb_t 39 (by decide +kernel) (by decide +kernel)
theorem gfX1_18 {M : MC} {w : WE} {sh : List Shp} {cc : ByteArray} {nL : Nat} {ret : Option FieldType} {d : Nat} {α : Type} {ι : α → Option Value × Mem} {pc : Nat} {lv : List (Option Value)} {st : List Value} {σ : Mem} {b : Option α} (X : Cx M w sh cc nL RX1 ret d) {k : Nat} {fs : List (Option Nat)} (q : Nat) (hs : sh[k]? = some (.inr (0, fs))) (hf : fs[3]? = some (some q)) (hd : decode cc pc = .ok (.getfield 18, 3)) (kk : Cp M w sh nL ι (pc + 3) lv (.ref (wad w q) :: st) σ b) : Cp M w sh nL ι pc lv (.ref (wad w k) :: st) σ b := Cp.getR X clX1 hs 3 (by decide) wfX1_18 hf hd kk
theorem wfX1_21 : Cond.fieldLink RX1 21 "LaughTax$Room" "mood" "[I" ∈ TB := tb_t 42 (by decide +kernel) (by decide +kernel)
theorem gfX1_21 {M : MC} {w : WE} {sh : List Shp} {cc : ByteArray} {nL : Nat} {ret : Option FieldType} {d : Nat} {α : Type} {ι : α → Option Value × Mem} {pc : Nat} {lv : List (Option Value)} {st : List Value} {σ : Mem} {b : Option α} (X : Cx M w sh cc nL RX1 ret d) {k : Nat} {fs : List (Option Nat)} (q : Nat) (hs : sh[k]? = some (.inr (0, fs))) (hf : fs[4]? = some (some q)) (hd : decode cc pc = .ok (.getfield 21, 3)) (kk : Cp M w sh nL ι (pc + 3) lv (.ref (wad w q) :: st) σ b) : Cp M w sh nL ι pc lv (.ref (wad w k) :: st) σ b := Cp.getR X clX1 hs 4 (by decide) wfX1_21 hf hd kk
theorem wfX1_24 : Cond.fieldLink RX1 24 "LaughTax$Room" "purse" "[I" ∈ TB := tb_t 46 (by decide +kernel) (by decide +kernel)
theorem gfX1_24 {M : MC} {w : WE} {sh : List Shp} {cc : ByteArray} {nL : Nat} {ret : Option FieldType} {d : Nat} {α : Type} {ι : α → Option Value × Mem} {pc : Nat} {lv : List (Option Value)} {st : List Value} {σ : Mem} {b : Option α} (X : Cx M w sh cc nL RX1 ret d) {k : Nat} {fs : List (Option Nat)} (q : Nat) (hs : sh[k]? = some (.inr (0, fs))) (hf : fs[5]? = some (some q)) (hd : decode cc pc = .ok (.getfield 24, 3)) (kk : Cp M w sh nL ι (pc + 3) lv (.ref (wad w q) :: st) σ b) : Cp M w sh nL ι pc lv (.ref (wad w k) :: st) σ b := Cp.getR X clX1 hs 5 (by decide) wfX1_24 hf hd kk
theorem wfX1_27 : Cond.fieldLink RX1 27 "LaughTax$Room" "near" "[I" ∈ TB := tb_t 50 (by decide +kernel) (by decide +kernel)
theorem gfX1_27 {M : MC} {w : WE} {sh : List Shp} {cc : ByteArray} {nL : Nat} {ret : Option FieldType} {d : Nat} {α : Type} {ι : α → Option Value × Mem} {pc : Nat} {lv : List (Option Value)} {st : List Value} {σ : Mem} {b : Option α} (X : Cx M w sh cc nL RX1 ret d) {k : Nat} {fs : List (Option Nat)} (q : Nat) (hs : sh[k]? = some (.inr (0, fs))) (hf : fs[6]? = some (some q)) (hd : decode cc pc = .ok (.getfield 27, 3)) (kk : Cp M w sh nL ι (pc + 3) lv (.ref (wad w q) :: st) σ b) : Cp M w sh nL ι pc lv (.ref (wad w k) :: st) σ b := Cp.getR X clX1 hs 6 (by decide) wfX1_27 hf hd kk
theorem wfX1_30 : Cond.fieldLink RX1 30 "LaughTax$Room" "topics" "[I" ∈ TB := tb_t 56 (by decide +kernel) (by decide +kernel)
theorem gfX1_30 {M : MC} {w : WE} {sh : List Shp} {cc : ByteArray} {nL : Nat} {ret : Option FieldType} {d : Nat} {α : Type} {ι : α → Option Value × Mem} {pc : Nat} {lv : List (Option Value)} {st : List Value} {σ : Mem} {b : Option α} (X : Cx M w sh cc nL RX1 ret d) {k : Nat} {fs : List (Option Nat)} (q : Nat) (hs : sh[k]? = some (.inr (0, fs))) (hf : fs[8]? = some (some q)) (hd : decode cc pc = .ok (.getfield 30, 3)) (kk : Cp M w sh nL ι (pc + 3) lv (.ref (wad w q) :: st) σ b) : Cp M w sh nL ι pc lv (.ref (wad w k) :: st) σ b := Cp.getR X clX1 hs 8 (by decide) wfX1_30 hf hd kk
theorem wfX1_33 : Cond.fieldLink RX1 33 "LaughTax$Room" "fun" "[I" ∈ TB := tb_t 59 (by decide +kernel) (by decide +kernel)
theorem gfX1_33 {M : MC} {w : WE} {sh : List Shp} {cc : ByteArray} {nL : Nat} {ret : Option FieldType} {d : Nat} {α : Type} {ι : α → Option Value × Mem} {pc : Nat} {lv : List (Option Value)} {st : List Value} {σ : Mem} {b : Option α} (X : Cx M w sh cc nL RX1 ret d) {k : Nat} {fs : List (Option Nat)} (q : Nat) (hs : sh[k]? = some (.inr (0, fs))) (hf : fs[9]? = some (some q)) (hd : decode cc pc = .ok (.getfield 33, 3)) (kk : Cp M w sh nL ι (pc + 3) lv (.ref (wad w q) :: st) σ b) : Cp M w sh nL ι pc lv (.ref (wad w k) :: st) σ b := Cp.getR X clX1 hs 9 (by decide) wfX1_33 hf hd kk
theorem wfX1_36 : Cond.fieldLink RX1 36 "LaughTax$Room" "rate" "I" ∈ TB := tb_t 62 (by decide +kernel) (by decide +kernel)
theorem gfX1_36 {M : MC} {w : WE} {sh : List Shp} {cc : ByteArray} {nL : Nat} {ret : Option FieldType} {d : Nat} {α : Type} {ι : α → Option Value × Mem} {pc : Nat} {lv : List (Option Value)} {st : List Value} {σ : Mem} {b : Option α} (X : Cx M w sh cc nL RX1 ret d) {k : Nat} {fs : List (Option Nat)} (hs : sh[k]? = some (.inr (0, fs))) (hf : fs[10]? = some none) (hd : decode cc pc = .ok (.getfield 36, 3)) (kk : Cp M w sh nL ι (pc + 3) lv (.int (σ k 10) :: st) σ b) : Cp M w sh nL ι pc lv (.ref (wad w k) :: st) σ b := Cp.getI X clX1 hs 10 (by decide) wfX1_36 hf hd kk
theorem pfX1_36 {M : MC} {w : WE} {sh : List Shp} {cc : ByteArray} {nL : Nat} {ret : Option FieldType} {d : Nat} {α : Type} {ι : α → Option Value × Mem} {pc : Nat} {lv : List (Option Value)} {st : List Value} {σ : Mem} {b : Option α} (X : Cx M w sh cc nL RX1 ret d) {k : Nat} {fs : List (Option Nat)} (hs : sh[k]? = some (.inr (0, fs))) (hf : fs[10]? = some none) {v : Int32} (hd : decode cc pc = .ok (.putfield 36, 3)) (kk : Cp M w sh nL ι (pc + 3) lv st (up2 σ k 10 v) b) : Cp M w sh nL ι pc lv (.int v :: .ref (wad w k) :: st) σ b := Cp.putI X clX1 hs 10 (by decide) wfX1_36 hf rfl (by decide +kernel) hd kk
theorem wfX1_40 : Cond.fieldLink RX1 40 "LaughTax$Room" "reach" "I" ∈ TB := tb_t 65 (by decide +kernel) (by decide +kernel)
theorem gfX1_40 {M : MC} {w : WE} {sh : List Shp} {cc : ByteArray} {nL : Nat} {ret : Option FieldType} {d : Nat} {α : Type} {ι : α → Option Value × Mem} {pc : Nat} {lv : List (Option Value)} {st : List Value} {σ : Mem} {b : Option α} (X : Cx M w sh cc nL RX1 ret d) {k : Nat} {fs : List (Option Nat)} (hs : sh[k]? = some (.inr (0, fs))) (hf : fs[11]? = some none) (hd : decode cc pc = .ok (.getfield 40, 3)) (kk : Cp M w sh nL ι (pc + 3) lv (.int (σ k 11) :: st) σ b) : Cp M w sh nL ι pc lv (.ref (wad w k) :: st) σ b := Cp.getI X clX1 hs 11 (by decide) wfX1_40 hf hd kk
theorem pfX1_40 {M : MC} {w : WE} {sh : List Shp} {cc : ByteArray} {nL : Nat} {ret : Option FieldType} {d : Nat} {α : Type} {ι : α → Option Value × Mem} {pc : Nat} {lv : List (Option Value)} {st : List Value} {σ : Mem} {b : Option α} (X : Cx M w sh cc nL RX1 ret d) {k : Nat} {fs : List (Option Nat)} (hs : sh[k]? = some (.inr (0, fs))) (hf : fs[11]? = some none) {v : Int32} (hd : decode cc pc = .ok (.putfield 40, 3)) (kk : Cp M w sh nL ι (pc + 3) lv st (up2 σ k 11 v) b) : Cp M w sh nL ι pc lv (.int v :: .ref (wad w k) :: st) σ b := Cp.putI X clX1 hs 11 (by decide) wfX1_40 hf rfl (by decide +kernel) hd kk
theorem wfX1_43 : Cond.fieldLink RX1 43 "LaughTax$Room" "z" "I" ∈ TB := tb_t 73 (by decide +kernel) (by decide +kernel)
theorem gfX1_43 {M : MC} {w : WE} {sh : List Shp} {cc : ByteArray} {nL : Nat} {ret : Option FieldType} {d : Nat} {α : Type} {ι : α → Option Value × Mem} {pc : Nat} {lv : List (Option Value)} {st : List Value} {σ : Mem} {b : Option α} (X : Cx M w sh cc nL RX1 ret d) {k : Nat} {fs : List (Option Nat)} (hs : sh[k]? = some (.inr (0, fs))) (hf : fs[14]? = some none) (hd : decode cc pc = .ok (.getfield 43, 3)) (kk : Cp M w sh nL ι (pc + 3) lv (.int (σ k 14) :: st) σ b) : Cp M w sh nL ι pc lv (.ref (wad w k) :: st) σ b := Cp.getI X clX1 hs 14 (by decide) wfX1_43 hf hd kk
theorem pfX1_43 {M : MC} {w : WE} {sh : List Shp} {cc : ByteArray} {nL : Nat} {ret : Option FieldType} {d : Nat} {α : Type} {ι : α → Option Value × Mem} {pc : Nat} {lv : List (Option Value)} {st : List Value} {σ : Mem} {b : Option α} (X : Cx M w sh cc nL RX1 ret d) {k : Nat} {fs : List (Option Nat)} (hs : sh[k]? = some (.inr (0, fs))) (hf : fs[14]? = some none) {v : Int32} (hd : decode cc pc = .ok (.putfield 43, 3)) (kk : Cp M w sh nL ι (pc + 3) lv st (up2 σ k 14 v) b) : Cp M w sh nL ι pc lv (.int v :: .ref (wad w k) :: st) σ b := Cp.putI X clX1 hs 14 (by decide) wfX1_43 hf rfl (by decide +kernel) hd kk
theorem wfX1_46 : Cond.fieldLink RX1 46 "LaughTax$Room" "spots" "[I" ∈ TB := tb_t 75 (by decide +kernel) (by decide +kernel)
theorem gfX1_46 {M : MC} {w : WE} {sh : List Shp} {cc : ByteArray} {nL : Nat} {ret : Option FieldType} {d : Nat} {α : Type} {ι : α → Option Value × Mem} {pc : Nat} {lv : List (Option Value)} {st : List Value} {σ : Mem} {b : Option α} (X : Cx M w sh cc nL RX1 ret d) {k : Nat} {fs : List (Option Nat)} (q : Nat) (hs : sh[k]? = some (.inr (0, fs))) (hf : fs[15]? = some (some q)) (hd : decode cc pc = .ok (.getfield 46, 3)) (kk : Cp M w sh nL ι (pc + 3) lv (.ref (wad w q) :: st) σ b) : Cp M w sh nL ι pc lv (.ref (wad w k) :: st) σ b := Cp.getR X clX1 hs 15 (by decide) wfX1_46 hf hd kk
theorem wfX1_49 : Cond.fieldLink RX1 49 "LaughTax$Room" "people" "I" ∈ TB := tb_t 29 (by decide +kernel) (by decide +kernel)
theorem gfX1_49 {M : MC} {w : WE} {sh : List Shp} {cc : ByteArray} {nL : Nat} {ret : Option FieldType} {d : Nat} {α : Type} {ι : α → Option Value × Mem} {pc : Nat} {lv : List (Option Value)} {st : List Value} {σ : Mem} {b : Option α} (X : Cx M w sh cc nL RX1 ret d) {k : Nat} {fs : List (Option Nat)} (hs : sh[k]? = some (.inr (0, fs))) (hf : fs[0]? = some none) (hd : decode cc pc = .ok (.getfield 49, 3)) (kk : Cp M w sh nL ι (pc + 3) lv (.int (σ k 0) :: st) σ b) : Cp M w sh nL ι pc lv (.ref (wad w k) :: st) σ b := Cp.getI X clX1 hs 0 (by decide) wfX1_49 hf hd kk
theorem pfX1_49 {M : MC} {w : WE} {sh : List Shp} {cc : ByteArray} {nL : Nat} {ret : Option FieldType} {d : Nat} {α : Type} {ι : α → Option Value × Mem} {pc : Nat} {lv : List (Option Value)} {st : List Value} {σ : Mem} {b : Option α} (X : Cx M w sh cc nL RX1 ret d) {k : Nat} {fs : List (Option Nat)} (hs : sh[k]? = some (.inr (0, fs))) (hf : fs[0]? = some none) {v : Int32} (hd : decode cc pc = .ok (.putfield 49, 3)) (kk : Cp M w sh nL ι (pc + 3) lv st (up2 σ k 0 v) b) : Cp M w sh nL ι pc lv (.int v :: .ref (wad w k) :: st) σ b := Cp.putI X clX1 hs 0 (by decide) wfX1_49 hf rfl (by decide +kernel) hd kk
theorem wfX1_58 : Cond.fieldLink RX1 58 "LaughTax$Room" "jokes" "I" ∈ TB := tb_t 53 (by decide +kernel) (by decide +kernel)
theorem gfX1_58 {M : MC} {w : WE} {sh : List Shp} {cc : ByteArray} {nL : Nat} {ret : Option FieldType} {d : Nat} {α : Type} {ι : α → Option Value × Mem} {pc : Nat} {lv : List (Option Value)} {st : List Value} {σ : Mem} {b : Option α} (X : Cx M w sh cc nL RX1 ret d) {k : Nat} {fs : List (Option Nat)} (hs : sh[k]? = some (.inr (0, fs))) (hf : fs[7]? = some none) (hd : decode cc pc = .ok (.getfield 58, 3)) (kk : Cp M w sh nL ι (pc + 3) lv (.int (σ k 7) :: st) σ b) : Cp M w sh nL ι pc lv (.ref (wad w k) :: st) σ b := Cp.getI X clX1 hs 7 (by decide) wfX1_58 hf hd kk
theorem pfX1_58 {M : MC} {w : WE} {sh : List Shp} {cc : ByteArray} {nL : Nat} {ret : Option FieldType} {d : Nat} {α : Type} {ι : α → Option Value × Mem} {pc : Nat} {lv : List (Option Value)} {st : List Value} {σ : Mem} {b : Option α} (X : Cx M w sh cc nL RX1 ret d) {k : Nat} {fs : List (Option Nat)} (hs : sh[k]? = some (.inr (0, fs))) (hf : fs[7]? = some none) {v : Int32} (hd : decode cc pc = .ok (.putfield 58, 3)) (kk : Cp M w sh nL ι (pc + 3) lv st (up2 σ k 7 v) b) : Cp M w sh nL ι pc lv (.int v :: .ref (wad w k) :: st) σ b := Cp.putI X clX1 hs 7 (by decide) wfX1_58 hf rfl (by decide +kernel) hd kk
theorem wfX1_61 : Cond.fieldLink RX1 61 "LaughTax$Room" "treasury" "I" ∈ TB := tb_t 67 (by decide +kernel) (by decide +kernel)
theorem gfX1_61 {M : MC} {w : WE} {sh : List Shp} {cc : ByteArray} {nL : Nat} {ret : Option FieldType} {d : Nat} {α : Type} {ι : α → Option Value × Mem} {pc : Nat} {lv : List (Option Value)} {st : List Value} {σ : Mem} {b : Option α} (X : Cx M w sh cc nL RX1 ret d) {k : Nat} {fs : List (Option Nat)} (hs : sh[k]? = some (.inr (0, fs))) (hf : fs[12]? = some none) (hd : decode cc pc = .ok (.getfield 61, 3)) (kk : Cp M w sh nL ι (pc + 3) lv (.int (σ k 12) :: st) σ b) : Cp M w sh nL ι pc lv (.ref (wad w k) :: st) σ b := Cp.getI X clX1 hs 12 (by decide) wfX1_61 hf hd kk
theorem pfX1_61 {M : MC} {w : WE} {sh : List Shp} {cc : ByteArray} {nL : Nat} {ret : Option FieldType} {d : Nat} {α : Type} {ι : α → Option Value × Mem} {pc : Nat} {lv : List (Option Value)} {st : List Value} {σ : Mem} {b : Option α} (X : Cx M w sh cc nL RX1 ret d) {k : Nat} {fs : List (Option Nat)} (hs : sh[k]? = some (.inr (0, fs))) (hf : fs[12]? = some none) {v : Int32} (hd : decode cc pc = .ok (.putfield 61, 3)) (kk : Cp M w sh nL ι (pc + 3) lv st (up2 σ k 12 v) b) : Cp M w sh nL ι pc lv (.int v :: .ref (wad w k) :: st) σ b := Cp.putI X clX1 hs 12 (by decide) wfX1_61 hf rfl (by decide +kernel) hd kk
theorem wfX1_64 : Cond.fieldLink RX1 64 "LaughTax$Room" "told" "I" ∈ TB := tb_t 70 (by decide +kernel) (by decide +kernel)
theorem gfX1_64 {M : MC} {w : WE} {sh : List Shp} {cc : ByteArray} {nL : Nat} {ret : Option FieldType} {d : Nat} {α : Type} {ι : α → Option Value × Mem} {pc : Nat} {lv : List (Option Value)} {st : List Value} {σ : Mem} {b : Option α} (X : Cx M w sh cc nL RX1 ret d) {k : Nat} {fs : List (Option Nat)} (hs : sh[k]? = some (.inr (0, fs))) (hf : fs[13]? = some none) (hd : decode cc pc = .ok (.getfield 64, 3)) (kk : Cp M w sh nL ι (pc + 3) lv (.int (σ k 13) :: st) σ b) : Cp M w sh nL ι pc lv (.ref (wad w k) :: st) σ b := Cp.getI X clX1 hs 13 (by decide) wfX1_64 hf hd kk
theorem pfX1_64 {M : MC} {w : WE} {sh : List Shp} {cc : ByteArray} {nL : Nat} {ret : Option FieldType} {d : Nat} {α : Type} {ι : α → Option Value × Mem} {pc : Nat} {lv : List (Option Value)} {st : List Value} {σ : Mem} {b : Option α} (X : Cx M w sh cc nL RX1 ret d) {k : Nat} {fs : List (Option Nat)} (hs : sh[k]? = some (.inr (0, fs))) (hf : fs[13]? = some none) {v : Int32} (hd : decode cc pc = .ok (.putfield 64, 3)) (kk : Cp M w sh nL ι (pc + 3) lv st (up2 σ k 13 v) b) : Cp M w sh nL ι pc lv (.int v :: .ref (wad w k) :: st) σ b := Cp.putI X clX1 hs 13 (by decide) wfX1_64 hf rfl (by decide +kernel) hd kk
theorem wfX2_9 : Cond.fieldLink RX2 9 "LaughTax$Sheet" "numbers" "[I" ∈ TB := tb_t 167 (by decide +kernel) (by decide +kernel)
theorem gfX2_9 {M : MC} {w : WE} {sh : List Shp} {cc : ByteArray} {nL : Nat} {ret : Option FieldType} {d : Nat} {α : Type} {ι : α → Option Value × Mem} {pc : Nat} {lv : List (Option Value)} {st : List Value} {σ : Mem} {b : Option α} (X : Cx M w sh cc nL RX2 ret d) {k : Nat} {fs : List (Option Nat)} (q : Nat) (hs : sh[k]? = some (.inr (1, fs))) (hf : fs[0]? = some (some q)) (hd : decode cc pc = .ok (.getfield 9, 3)) (kk : Cp M w sh nL ι (pc + 3) lv (.ref (wad w q) :: st) σ b) : Cp M w sh nL ι pc lv (.ref (wad w k) :: st) σ b := Cp.getR X clX2 hs 0 (by decide) wfX2_9 hf hd kk
theorem wfX2_15 : Cond.fieldLink RX2 15 "LaughTax$Sheet" "bits" "I" ∈ TB := tb_t 169 (by decide +kernel) (by decide +kernel)
theorem gfX2_15 {M : MC} {w : WE} {sh : List Shp} {cc : ByteArray} {nL : Nat} {ret : Option FieldType} {d : Nat} {α : Type} {ι : α → Option Value × Mem} {pc : Nat} {lv : List (Option Value)} {st : List Value} {σ : Mem} {b : Option α} (X : Cx M w sh cc nL RX2 ret d) {k : Nat} {fs : List (Option Nat)} (hs : sh[k]? = some (.inr (1, fs))) (hf : fs[1]? = some none) (hd : decode cc pc = .ok (.getfield 15, 3)) (kk : Cp M w sh nL ι (pc + 3) lv (.int (σ k 1) :: st) σ b) : Cp M w sh nL ι pc lv (.ref (wad w k) :: st) σ b := Cp.getI X clX2 hs 1 (by decide) wfX2_15 hf hd kk
theorem pfX2_15 {M : MC} {w : WE} {sh : List Shp} {cc : ByteArray} {nL : Nat} {ret : Option FieldType} {d : Nat} {α : Type} {ι : α → Option Value × Mem} {pc : Nat} {lv : List (Option Value)} {st : List Value} {σ : Mem} {b : Option α} (X : Cx M w sh cc nL RX2 ret d) {k : Nat} {fs : List (Option Nat)} (hs : sh[k]? = some (.inr (1, fs))) (hf : fs[1]? = some none) {v : Int32} (hd : decode cc pc = .ok (.putfield 15, 3)) (kk : Cp M w sh nL ι (pc + 3) lv st (up2 σ k 1 v) b) : Cp M w sh nL ι pc lv (.int v :: .ref (wad w k) :: st) σ b := Cp.putI X clX2 hs 1 (by decide) wfX2_15 hf rfl (by decide +kernel) hd kk
theorem wfX2_19 : Cond.fieldLink RX2 19 "LaughTax$Sheet" "length" "I" ∈ TB := tb_t 171 (by decide +kernel) (by decide +kernel)
theorem gfX2_19 {M : MC} {w : WE} {sh : List Shp} {cc : ByteArray} {nL : Nat} {ret : Option FieldType} {d : Nat} {α : Type} {ι : α → Option Value × Mem} {pc : Nat} {lv : List (Option Value)} {st : List Value} {σ : Mem} {b : Option α} (X : Cx M w sh cc nL RX2 ret d) {k : Nat} {fs : List (Option Nat)} (hs : sh[k]? = some (.inr (1, fs))) (hf : fs[2]? = some none) (hd : decode cc pc = .ok (.getfield 19, 3)) (kk : Cp M w sh nL ι (pc + 3) lv (.int (σ k 2) :: st) σ b) : Cp M w sh nL ι pc lv (.ref (wad w k) :: st) σ b := Cp.getI X clX2 hs 2 (by decide) wfX2_19 hf hd kk
theorem pfX2_19 {M : MC} {w : WE} {sh : List Shp} {cc : ByteArray} {nL : Nat} {ret : Option FieldType} {d : Nat} {α : Type} {ι : α → Option Value × Mem} {pc : Nat} {lv : List (Option Value)} {st : List Value} {σ : Mem} {b : Option α} (X : Cx M w sh cc nL RX2 ret d) {k : Nat} {fs : List (Option Nat)} (hs : sh[k]? = some (.inr (1, fs))) (hf : fs[2]? = some none) {v : Int32} (hd : decode cc pc = .ok (.putfield 19, 3)) (kk : Cp M w sh nL ι (pc + 3) lv st (up2 σ k 2 v) b) : Cp M w sh nL ι pc lv (.int v :: .ref (wad w k) :: st) σ b := Cp.putI X clX2 hs 2 (by decide) wfX2_19 hf rfl (by decide +kernel) hd kk
theorem wfX3_9 : Cond.fieldLink RX3 9 "LaughTax$Tape" "bytes" "[B" ∈ TB := tb_t 136 (by decide +kernel) (by decide +kernel)
theorem gfX3_9 {M : MC} {w : WE} {sh : List Shp} {cc : ByteArray} {nL : Nat} {ret : Option FieldType} {d : Nat} {α : Type} {ι : α → Option Value × Mem} {pc : Nat} {lv : List (Option Value)} {st : List Value} {σ : Mem} {b : Option α} (X : Cx M w sh cc nL RX3 ret d) {k : Nat} {fs : List (Option Nat)} (q : Nat) (hs : sh[k]? = some (.inr (2, fs))) (hf : fs[0]? = some (some q)) (hd : decode cc pc = .ok (.getfield 9, 3)) (kk : Cp M w sh nL ι (pc + 3) lv (.ref (wad w q) :: st) σ b) : Cp M w sh nL ι pc lv (.ref (wad w k) :: st) σ b := Cp.getR X clX3 hs 0 (by decide) wfX3_9 hf hd kk
theorem wfX3_15 : Cond.fieldLink RX3 15 "LaughTax$Tape" "length" "I" ∈ TB := tb_t 137 (by decide +kernel) (by decide +kernel)
theorem gfX3_15 {M : MC} {w : WE} {sh : List Shp} {cc : ByteArray} {nL : Nat} {ret : Option FieldType} {d : Nat} {α : Type} {ι : α → Option Value × Mem} {pc : Nat} {lv : List (Option Value)} {st : List Value} {σ : Mem} {b : Option α} (X : Cx M w sh cc nL RX3 ret d) {k : Nat} {fs : List (Option Nat)} (hs : sh[k]? = some (.inr (2, fs))) (hf : fs[1]? = some none) (hd : decode cc pc = .ok (.getfield 15, 3)) (kk : Cp M w sh nL ι (pc + 3) lv (.int (σ k 1) :: st) σ b) : Cp M w sh nL ι pc lv (.ref (wad w k) :: st) σ b := Cp.getI X clX3 hs 1 (by decide) wfX3_15 hf hd kk
theorem pfX3_15 {M : MC} {w : WE} {sh : List Shp} {cc : ByteArray} {nL : Nat} {ret : Option FieldType} {d : Nat} {α : Type} {ι : α → Option Value × Mem} {pc : Nat} {lv : List (Option Value)} {st : List Value} {σ : Mem} {b : Option α} (X : Cx M w sh cc nL RX3 ret d) {k : Nat} {fs : List (Option Nat)} (hs : sh[k]? = some (.inr (2, fs))) (hf : fs[1]? = some none) {v : Int32} (hd : decode cc pc = .ok (.putfield 15, 3)) (kk : Cp M w sh nL ι (pc + 3) lv st (up2 σ k 1 v) b) : Cp M w sh nL ι pc lv (.int v :: .ref (wad w k) :: st) σ b := Cp.putI X clX3 hs 1 (by decide) wfX3_15 hf rfl (by decide +kernel) hd kk
theorem wfX3_19 : Cond.fieldLink RX3 19 "LaughTax$Tape" "behind" "I" ∈ TB := tb_t 141 (by decide +kernel) (by decide +kernel)
theorem gfX3_19 {M : MC} {w : WE} {sh : List Shp} {cc : ByteArray} {nL : Nat} {ret : Option FieldType} {d : Nat} {α : Type} {ι : α → Option Value × Mem} {pc : Nat} {lv : List (Option Value)} {st : List Value} {σ : Mem} {b : Option α} (X : Cx M w sh cc nL RX3 ret d) {k : Nat} {fs : List (Option Nat)} (hs : sh[k]? = some (.inr (2, fs))) (hf : fs[4]? = some none) (hd : decode cc pc = .ok (.getfield 19, 3)) (kk : Cp M w sh nL ι (pc + 3) lv (.int (σ k 4) :: st) σ b) : Cp M w sh nL ι pc lv (.ref (wad w k) :: st) σ b := Cp.getI X clX3 hs 4 (by decide) wfX3_19 hf hd kk
theorem pfX3_19 {M : MC} {w : WE} {sh : List Shp} {cc : ByteArray} {nL : Nat} {ret : Option FieldType} {d : Nat} {α : Type} {ι : α → Option Value × Mem} {pc : Nat} {lv : List (Option Value)} {st : List Value} {σ : Mem} {b : Option α} (X : Cx M w sh cc nL RX3 ret d) {k : Nat} {fs : List (Option Nat)} (hs : sh[k]? = some (.inr (2, fs))) (hf : fs[4]? = some none) {v : Int32} (hd : decode cc pc = .ok (.putfield 19, 3)) (kk : Cp M w sh nL ι (pc + 3) lv st (up2 σ k 4 v) b) : Cp M w sh nL ι pc lv (.int v :: .ref (wad w k) :: st) σ b := Cp.putI X clX3 hs 4 (by decide) wfX3_19 hf rfl (by decide +kernel) hd kk
theorem wfX3_29 : Cond.fieldLink RX3 29 "LaughTax$Tape" "token" "I" ∈ TB := tb_t 139 (by decide +kernel) (by decide +kernel)
theorem gfX3_29 {M : MC} {w : WE} {sh : List Shp} {cc : ByteArray} {nL : Nat} {ret : Option FieldType} {d : Nat} {α : Type} {ι : α → Option Value × Mem} {pc : Nat} {lv : List (Option Value)} {st : List Value} {σ : Mem} {b : Option α} (X : Cx M w sh cc nL RX3 ret d) {k : Nat} {fs : List (Option Nat)} (hs : sh[k]? = some (.inr (2, fs))) (hf : fs[2]? = some none) (hd : decode cc pc = .ok (.getfield 29, 3)) (kk : Cp M w sh nL ι (pc + 3) lv (.int (σ k 2) :: st) σ b) : Cp M w sh nL ι pc lv (.ref (wad w k) :: st) σ b := Cp.getI X clX3 hs 2 (by decide) wfX3_29 hf hd kk
theorem pfX3_29 {M : MC} {w : WE} {sh : List Shp} {cc : ByteArray} {nL : Nat} {ret : Option FieldType} {d : Nat} {α : Type} {ι : α → Option Value × Mem} {pc : Nat} {lv : List (Option Value)} {st : List Value} {σ : Mem} {b : Option α} (X : Cx M w sh cc nL RX3 ret d) {k : Nat} {fs : List (Option Nat)} (hs : sh[k]? = some (.inr (2, fs))) (hf : fs[2]? = some none) {v : Int32} (hd : decode cc pc = .ok (.putfield 29, 3)) (kk : Cp M w sh nL ι (pc + 3) lv st (up2 σ k 2 v) b) : Cp M w sh nL ι pc lv (.int v :: .ref (wad w k) :: st) σ b := Cp.putI X clX3 hs 2 (by decide) wfX3_29 hf rfl (by decide +kernel) hd kk
theorem wfX3_32 : Cond.fieldLink RX3 32 "LaughTax$Tape" "start" "I" ∈ TB := tb_t 140 (by decide +kernel) (by decide +kernel)
theorem gfX3_32 {M : MC} {w : WE} {sh : List Shp} {cc : ByteArray} {nL : Nat} {ret : Option FieldType} {d : Nat} {α : Type} {ι : α → Option Value × Mem} {pc : Nat} {lv : List (Option Value)} {st : List Value} {σ : Mem} {b : Option α} (X : Cx M w sh cc nL RX3 ret d) {k : Nat} {fs : List (Option Nat)} (hs : sh[k]? = some (.inr (2, fs))) (hf : fs[3]? = some none) (hd : decode cc pc = .ok (.getfield 32, 3)) (kk : Cp M w sh nL ι (pc + 3) lv (.int (σ k 3) :: st) σ b) : Cp M w sh nL ι pc lv (.ref (wad w k) :: st) σ b := Cp.getI X clX3 hs 3 (by decide) wfX3_32 hf hd kk
theorem pfX3_32 {M : MC} {w : WE} {sh : List Shp} {cc : ByteArray} {nL : Nat} {ret : Option FieldType} {d : Nat} {α : Type} {ι : α → Option Value × Mem} {pc : Nat} {lv : List (Option Value)} {st : List Value} {σ : Mem} {b : Option α} (X : Cx M w sh cc nL RX3 ret d) {k : Nat} {fs : List (Option Nat)} (hs : sh[k]? = some (.inr (2, fs))) (hf : fs[3]? = some none) {v : Int32} (hd : decode cc pc = .ok (.putfield 32, 3)) (kk : Cp M w sh nL ι (pc + 3) lv st (up2 σ k 3 v) b) : Cp M w sh nL ι pc lv (.int v :: .ref (wad w k) :: st) σ b := Cp.putI X clX3 hs 3 (by decide) wfX3_32 hf rfl (by decide +kernel) hd kk
theorem wfX3_62 : Cond.fieldLinkNest RX3 62 "LaughTax$Room" "people" "I" "LaughTax" ∈ TB := tb_t 32 (by decide +kernel) (by decide +kernel)
theorem gfX3_62 {M : MC} {w : WE} {sh : List Shp} {cc : ByteArray} {nL : Nat} {ret : Option FieldType} {d : Nat} {α : Type} {ι : α → Option Value × Mem} {pc : Nat} {lv : List (Option Value)} {st : List Value} {σ : Mem} {b : Option α} (X : Cx M w sh cc nL RX3 ret d) {k : Nat} {fs : List (Option Nat)} (hs : sh[k]? = some (.inr (0, fs))) (hf : fs[0]? = some none) (hd : decode cc pc = .ok (.getfield 62, 3)) (kk : Cp M w sh nL ι (pc + 3) lv (.int (σ k 0) :: st) σ b) : Cp M w sh nL ι pc lv (.ref (wad w k) :: st) σ b := Cp.getIN X clX1 hs 0 (by decide) wfX3_62 hf hd kk
theorem pfX3_62 {M : MC} {w : WE} {sh : List Shp} {cc : ByteArray} {nL : Nat} {ret : Option FieldType} {d : Nat} {α : Type} {ι : α → Option Value × Mem} {pc : Nat} {lv : List (Option Value)} {st : List Value} {σ : Mem} {b : Option α} (X : Cx M w sh cc nL RX3 ret d) {k : Nat} {fs : List (Option Nat)} (hs : sh[k]? = some (.inr (0, fs))) (hf : fs[0]? = some none) {v : Int32} (hd : decode cc pc = .ok (.putfield 62, 3)) (kk : Cp M w sh nL ι (pc + 3) lv st (up2 σ k 0 v) b) : Cp M w sh nL ι pc lv (.int v :: .ref (wad w k) :: st) σ b := Cp.putIN X clX1 hs 0 (by decide) wfX3_62 hf rfl (by decide +kernel) hd kk
theorem wfX3_73 : Cond.fieldLinkNest RX3 73 "LaughTax$Room" "seat" "[I" "LaughTax" ∈ TB := tb_t 38 (by decide +kernel) (by decide +kernel)
theorem gfX3_73 {M : MC} {w : WE} {sh : List Shp} {cc : ByteArray} {nL : Nat} {ret : Option FieldType} {d : Nat} {α : Type} {ι : α → Option Value × Mem} {pc : Nat} {lv : List (Option Value)} {st : List Value} {σ : Mem} {b : Option α} (X : Cx M w sh cc nL RX3 ret d) {k : Nat} {fs : List (Option Nat)} (q : Nat) (hs : sh[k]? = some (.inr (0, fs))) (hf : fs[2]? = some (some q)) (hd : decode cc pc = .ok (.getfield 73, 3)) (kk : Cp M w sh nL ι (pc + 3) lv (.ref (wad w q) :: st) σ b) : Cp M w sh nL ι pc lv (.ref (wad w k) :: st) σ b := Cp.getRN X clX1 hs 2 (by decide) wfX3_73 hf hd kk
theorem wfX3_81 : Cond.fieldLink RX3 81 "LaughTax$Tape" "taken" "I" ∈ TB := tb_t 143 (by decide +kernel) (by decide +kernel)
theorem gfX3_81 {M : MC} {w : WE} {sh : List Shp} {cc : ByteArray} {nL : Nat} {ret : Option FieldType} {d : Nat} {α : Type} {ι : α → Option Value × Mem} {pc : Nat} {lv : List (Option Value)} {st : List Value} {σ : Mem} {b : Option α} (X : Cx M w sh cc nL RX3 ret d) {k : Nat} {fs : List (Option Nat)} (hs : sh[k]? = some (.inr (2, fs))) (hf : fs[6]? = some none) (hd : decode cc pc = .ok (.getfield 81, 3)) (kk : Cp M w sh nL ι (pc + 3) lv (.int (σ k 6) :: st) σ b) : Cp M w sh nL ι pc lv (.ref (wad w k) :: st) σ b := Cp.getI X clX3 hs 6 (by decide) wfX3_81 hf hd kk
theorem pfX3_81 {M : MC} {w : WE} {sh : List Shp} {cc : ByteArray} {nL : Nat} {ret : Option FieldType} {d : Nat} {α : Type} {ι : α → Option Value × Mem} {pc : Nat} {lv : List (Option Value)} {st : List Value} {σ : Mem} {b : Option α} (X : Cx M w sh cc nL RX3 ret d) {k : Nat} {fs : List (Option Nat)} (hs : sh[k]? = some (.inr (2, fs))) (hf : fs[6]? = some none) {v : Int32} (hd : decode cc pc = .ok (.putfield 81, 3)) (kk : Cp M w sh nL ι (pc + 3) lv st (up2 σ k 6 v) b) : Cp M w sh nL ι pc lv (.int v :: .ref (wad w k) :: st) σ b := Cp.putI X clX3 hs 6 (by decide) wfX3_81 hf rfl (by decide +kernel) hd kk
theorem wfX3_90 : Cond.fieldLinkNest RX3 90 "LaughTax$Room" "taste" "[I" "LaughTax" ∈ TB := tb_t 41 (by decide +kernel) (by decide +kernel)
theorem gfX3_90 {M : MC} {w : WE} {sh : List Shp} {cc : ByteArray} {nL : Nat} {ret : Option FieldType} {d : Nat} {α : Type} {ι : α → Option Value × Mem} {pc : Nat} {lv : List (Option Value)} {st : List Value} {σ : Mem} {b : Option α} (X : Cx M w sh cc nL RX3 ret d) {k : Nat} {fs : List (Option Nat)} (q : Nat) (hs : sh[k]? = some (.inr (0, fs))) (hf : fs[3]? = some (some q)) (hd : decode cc pc = .ok (.getfield 90, 3)) (kk : Cp M w sh nL ι (pc + 3) lv (.ref (wad w q) :: st) σ b) : Cp M w sh nL ι pc lv (.ref (wad w k) :: st) σ b := Cp.getRN X clX1 hs 3 (by decide) wfX3_90 hf hd kk
theorem wfX3_94 : Cond.fieldLinkNest RX3 94 "LaughTax$Room" "mood" "[I" "LaughTax" ∈ TB := tb_t 45 (by decide +kernel) (by decide +kernel)
theorem gfX3_94 {M : MC} {w : WE} {sh : List Shp} {cc : ByteArray} {nL : Nat} {ret : Option FieldType} {d : Nat} {α : Type} {ι : α → Option Value × Mem} {pc : Nat} {lv : List (Option Value)} {st : List Value} {σ : Mem} {b : Option α} (X : Cx M w sh cc nL RX3 ret d) {k : Nat} {fs : List (Option Nat)} (q : Nat) (hs : sh[k]? = some (.inr (0, fs))) (hf : fs[4]? = some (some q)) (hd : decode cc pc = .ok (.getfield 94, 3)) (kk : Cp M w sh nL ι (pc + 3) lv (.ref (wad w q) :: st) σ b) : Cp M w sh nL ι pc lv (.ref (wad w k) :: st) σ b := Cp.getRN X clX1 hs 4 (by decide) wfX3_94 hf hd kk
theorem wfX3_98 : Cond.fieldLinkNest RX3 98 "LaughTax$Room" "purse" "[I" "LaughTax" ∈ TB := tb_t 49 (by decide +kernel) (by decide +kernel)
theorem gfX3_98 {M : MC} {w : WE} {sh : List Shp} {cc : ByteArray} {nL : Nat} {ret : Option FieldType} {d : Nat} {α : Type} {ι : α → Option Value × Mem} {pc : Nat} {lv : List (Option Value)} {st : List Value} {σ : Mem} {b : Option α} (X : Cx M w sh cc nL RX3 ret d) {k : Nat} {fs : List (Option Nat)} (q : Nat) (hs : sh[k]? = some (.inr (0, fs))) (hf : fs[5]? = some (some q)) (hd : decode cc pc = .ok (.getfield 98, 3)) (kk : Cp M w sh nL ι (pc + 3) lv (.ref (wad w q) :: st) σ b) : Cp M w sh nL ι pc lv (.ref (wad w k) :: st) σ b := Cp.getRN X clX1 hs 5 (by decide) wfX3_98 hf hd kk
theorem wfX3_100 : Cond.fieldLinkNest RX3 100 "LaughTax$Room" "jokes" "I" "LaughTax" ∈ TB := tb_t 55 (by decide +kernel) (by decide +kernel)
theorem gfX3_100 {M : MC} {w : WE} {sh : List Shp} {cc : ByteArray} {nL : Nat} {ret : Option FieldType} {d : Nat} {α : Type} {ι : α → Option Value × Mem} {pc : Nat} {lv : List (Option Value)} {st : List Value} {σ : Mem} {b : Option α} (X : Cx M w sh cc nL RX3 ret d) {k : Nat} {fs : List (Option Nat)} (hs : sh[k]? = some (.inr (0, fs))) (hf : fs[7]? = some none) (hd : decode cc pc = .ok (.getfield 100, 3)) (kk : Cp M w sh nL ι (pc + 3) lv (.int (σ k 7) :: st) σ b) : Cp M w sh nL ι pc lv (.ref (wad w k) :: st) σ b := Cp.getIN X clX1 hs 7 (by decide) wfX3_100 hf hd kk
theorem pfX3_100 {M : MC} {w : WE} {sh : List Shp} {cc : ByteArray} {nL : Nat} {ret : Option FieldType} {d : Nat} {α : Type} {ι : α → Option Value × Mem} {pc : Nat} {lv : List (Option Value)} {st : List Value} {σ : Mem} {b : Option α} (X : Cx M w sh cc nL RX3 ret d) {k : Nat} {fs : List (Option Nat)} (hs : sh[k]? = some (.inr (0, fs))) (hf : fs[7]? = some none) {v : Int32} (hd : decode cc pc = .ok (.putfield 100, 3)) (kk : Cp M w sh nL ι (pc + 3) lv st (up2 σ k 7 v) b) : Cp M w sh nL ι pc lv (.int v :: .ref (wad w k) :: st) σ b := Cp.putIN X clX1 hs 7 (by decide) wfX3_100 hf rfl (by decide +kernel) hd kk
theorem wfX3_110 : Cond.fieldLinkNest RX3 110 "LaughTax$Room" "rate" "I" "LaughTax" ∈ TB := tb_t 63 (by decide +kernel) (by decide +kernel)
theorem gfX3_110 {M : MC} {w : WE} {sh : List Shp} {cc : ByteArray} {nL : Nat} {ret : Option FieldType} {d : Nat} {α : Type} {ι : α → Option Value × Mem} {pc : Nat} {lv : List (Option Value)} {st : List Value} {σ : Mem} {b : Option α} (X : Cx M w sh cc nL RX3 ret d) {k : Nat} {fs : List (Option Nat)} (hs : sh[k]? = some (.inr (0, fs))) (hf : fs[10]? = some none) (hd : decode cc pc = .ok (.getfield 110, 3)) (kk : Cp M w sh nL ι (pc + 3) lv (.int (σ k 10) :: st) σ b) : Cp M w sh nL ι pc lv (.ref (wad w k) :: st) σ b := Cp.getIN X clX1 hs 10 (by decide) wfX3_110 hf hd kk
theorem pfX3_110 {M : MC} {w : WE} {sh : List Shp} {cc : ByteArray} {nL : Nat} {ret : Option FieldType} {d : Nat} {α : Type} {ι : α → Option Value × Mem} {pc : Nat} {lv : List (Option Value)} {st : List Value} {σ : Mem} {b : Option α} (X : Cx M w sh cc nL RX3 ret d) {k : Nat} {fs : List (Option Nat)} (hs : sh[k]? = some (.inr (0, fs))) (hf : fs[10]? = some none) {v : Int32} (hd : decode cc pc = .ok (.putfield 110, 3)) (kk : Cp M w sh nL ι (pc + 3) lv st (up2 σ k 10 v) b) : Cp M w sh nL ι pc lv (.int v :: .ref (wad w k) :: st) σ b := Cp.putIN X clX1 hs 10 (by decide) wfX3_110 hf rfl (by decide +kernel) hd kk
theorem wfX3_116 : Cond.fieldLink RX3 116 "LaughTax$Tape" "value" "I" ∈ TB := tb_t 142 (by decide +kernel) (by decide +kernel)
theorem gfX3_116 {M : MC} {w : WE} {sh : List Shp} {cc : ByteArray} {nL : Nat} {ret : Option FieldType} {d : Nat} {α : Type} {ι : α → Option Value × Mem} {pc : Nat} {lv : List (Option Value)} {st : List Value} {σ : Mem} {b : Option α} (X : Cx M w sh cc nL RX3 ret d) {k : Nat} {fs : List (Option Nat)} (hs : sh[k]? = some (.inr (2, fs))) (hf : fs[5]? = some none) (hd : decode cc pc = .ok (.getfield 116, 3)) (kk : Cp M w sh nL ι (pc + 3) lv (.int (σ k 5) :: st) σ b) : Cp M w sh nL ι pc lv (.ref (wad w k) :: st) σ b := Cp.getI X clX3 hs 5 (by decide) wfX3_116 hf hd kk
theorem pfX3_116 {M : MC} {w : WE} {sh : List Shp} {cc : ByteArray} {nL : Nat} {ret : Option FieldType} {d : Nat} {α : Type} {ι : α → Option Value × Mem} {pc : Nat} {lv : List (Option Value)} {st : List Value} {σ : Mem} {b : Option α} (X : Cx M w sh cc nL RX3 ret d) {k : Nat} {fs : List (Option Nat)} (hs : sh[k]? = some (.inr (2, fs))) (hf : fs[5]? = some none) {v : Int32} (hd : decode cc pc = .ok (.putfield 116, 3)) (kk : Cp M w sh nL ι (pc + 3) lv st (up2 σ k 5 v) b) : Cp M w sh nL ι pc lv (.int v :: .ref (wad w k) :: st) σ b := Cp.putI X clX3 hs 5 (by decide) wfX3_116 hf rfl (by decide +kernel) hd kk
theorem wfX4_9 : Cond.fieldLink RX4 9 "LaughTax$Telling" "roundOf" "[I" ∈ TB := tb_t 117 (by decide +kernel) (by decide +kernel)
theorem gfX4_9 {M : MC} {w : WE} {sh : List Shp} {cc : ByteArray} {nL : Nat} {ret : Option FieldType} {d : Nat} {α : Type} {ι : α → Option Value × Mem} {pc : Nat} {lv : List (Option Value)} {st : List Value} {σ : Mem} {b : Option α} (X : Cx M w sh cc nL RX4 ret d) {k : Nat} {fs : List (Option Nat)} (q : Nat) (hs : sh[k]? = some (.inr (3, fs))) (hf : fs[0]? = some (some q)) (hd : decode cc pc = .ok (.getfield 9, 3)) (kk : Cp M w sh nL ι (pc + 3) lv (.ref (wad w q) :: st) σ b) : Cp M w sh nL ι pc lv (.ref (wad w k) :: st) σ b := Cp.getR X clX4 hs 0 (by decide) wfX4_9 hf hd kk
theorem wfX4_15 : Cond.fieldLink RX4 15 "LaughTax$Telling" "paid" "[I" ∈ TB := tb_t 119 (by decide +kernel) (by decide +kernel)
theorem gfX4_15 {M : MC} {w : WE} {sh : List Shp} {cc : ByteArray} {nL : Nat} {ret : Option FieldType} {d : Nat} {α : Type} {ι : α → Option Value × Mem} {pc : Nat} {lv : List (Option Value)} {st : List Value} {σ : Mem} {b : Option α} (X : Cx M w sh cc nL RX4 ret d) {k : Nat} {fs : List (Option Nat)} (q : Nat) (hs : sh[k]? = some (.inr (3, fs))) (hf : fs[1]? = some (some q)) (hd : decode cc pc = .ok (.getfield 15, 3)) (kk : Cp M w sh nL ι (pc + 3) lv (.ref (wad w q) :: st) σ b) : Cp M w sh nL ι pc lv (.ref (wad w k) :: st) σ b := Cp.getR X clX4 hs 1 (by decide) wfX4_15 hf hd kk
theorem wfX4_18 : Cond.fieldLinkNest RX4 18 "LaughTax$Room" "people" "I" "LaughTax" ∈ TB := tb_t 30 (by decide +kernel) (by decide +kernel)
theorem gfX4_18 {M : MC} {w : WE} {sh : List Shp} {cc : ByteArray} {nL : Nat} {ret : Option FieldType} {d : Nat} {α : Type} {ι : α → Option Value × Mem} {pc : Nat} {lv : List (Option Value)} {st : List Value} {σ : Mem} {b : Option α} (X : Cx M w sh cc nL RX4 ret d) {k : Nat} {fs : List (Option Nat)} (hs : sh[k]? = some (.inr (0, fs))) (hf : fs[0]? = some none) (hd : decode cc pc = .ok (.getfield 18, 3)) (kk : Cp M w sh nL ι (pc + 3) lv (.int (σ k 0) :: st) σ b) : Cp M w sh nL ι pc lv (.ref (wad w k) :: st) σ b := Cp.getIN X clX1 hs 0 (by decide) wfX4_18 hf hd kk
theorem pfX4_18 {M : MC} {w : WE} {sh : List Shp} {cc : ByteArray} {nL : Nat} {ret : Option FieldType} {d : Nat} {α : Type} {ι : α → Option Value × Mem} {pc : Nat} {lv : List (Option Value)} {st : List Value} {σ : Mem} {b : Option α} (X : Cx M w sh cc nL RX4 ret d) {k : Nat} {fs : List (Option Nat)} (hs : sh[k]? = some (.inr (0, fs))) (hf : fs[0]? = some none) {v : Int32} (hd : decode cc pc = .ok (.putfield 18, 3)) (kk : Cp M w sh nL ι (pc + 3) lv st (up2 σ k 0 v) b) : Cp M w sh nL ι pc lv (.int v :: .ref (wad w k) :: st) σ b := Cp.putIN X clX1 hs 0 (by decide) wfX4_18 hf rfl (by decide +kernel) hd kk
theorem wfX4_28 : Cond.fieldLinkNest RX4 28 "LaughTax$Room" "kind" "[I" "LaughTax" ∈ TB := tb_t 34 (by decide +kernel) (by decide +kernel)
theorem gfX4_28 {M : MC} {w : WE} {sh : List Shp} {cc : ByteArray} {nL : Nat} {ret : Option FieldType} {d : Nat} {α : Type} {ι : α → Option Value × Mem} {pc : Nat} {lv : List (Option Value)} {st : List Value} {σ : Mem} {b : Option α} (X : Cx M w sh cc nL RX4 ret d) {k : Nat} {fs : List (Option Nat)} (q : Nat) (hs : sh[k]? = some (.inr (0, fs))) (hf : fs[1]? = some (some q)) (hd : decode cc pc = .ok (.getfield 28, 3)) (kk : Cp M w sh nL ι (pc + 3) lv (.ref (wad w q) :: st) σ b) : Cp M w sh nL ι pc lv (.ref (wad w k) :: st) σ b := Cp.getRN X clX1 hs 1 (by decide) wfX4_28 hf hd kk
theorem wfX4_31 : Cond.fieldLinkNest RX4 31 "LaughTax$Room" "purse" "[I" "LaughTax" ∈ TB := tb_t 47 (by decide +kernel) (by decide +kernel)
theorem gfX4_31 {M : MC} {w : WE} {sh : List Shp} {cc : ByteArray} {nL : Nat} {ret : Option FieldType} {d : Nat} {α : Type} {ι : α → Option Value × Mem} {pc : Nat} {lv : List (Option Value)} {st : List Value} {σ : Mem} {b : Option α} (X : Cx M w sh cc nL RX4 ret d) {k : Nat} {fs : List (Option Nat)} (q : Nat) (hs : sh[k]? = some (.inr (0, fs))) (hf : fs[5]? = some (some q)) (hd : decode cc pc = .ok (.getfield 31, 3)) (kk : Cp M w sh nL ι (pc + 3) lv (.ref (wad w q) :: st) σ b) : Cp M w sh nL ι pc lv (.ref (wad w k) :: st) σ b := Cp.getRN X clX1 hs 5 (by decide) wfX4_31 hf hd kk
theorem wfX4_40 : Cond.fieldLinkNest RX4 40 "LaughTax$Room" "topics" "[I" "LaughTax" ∈ TB := tb_t 57 (by decide +kernel) (by decide +kernel)
theorem gfX4_40 {M : MC} {w : WE} {sh : List Shp} {cc : ByteArray} {nL : Nat} {ret : Option FieldType} {d : Nat} {α : Type} {ι : α → Option Value × Mem} {pc : Nat} {lv : List (Option Value)} {st : List Value} {σ : Mem} {b : Option α} (X : Cx M w sh cc nL RX4 ret d) {k : Nat} {fs : List (Option Nat)} (q : Nat) (hs : sh[k]? = some (.inr (0, fs))) (hf : fs[8]? = some (some q)) (hd : decode cc pc = .ok (.getfield 40, 3)) (kk : Cp M w sh nL ι (pc + 3) lv (.ref (wad w q) :: st) σ b) : Cp M w sh nL ι pc lv (.ref (wad w k) :: st) σ b := Cp.getRN X clX1 hs 8 (by decide) wfX4_40 hf hd kk
theorem wfX4_43 : Cond.fieldLinkNest RX4 43 "LaughTax$Room" "fun" "[I" "LaughTax" ∈ TB := tb_t 60 (by decide +kernel) (by decide +kernel)
theorem gfX4_43 {M : MC} {w : WE} {sh : List Shp} {cc : ByteArray} {nL : Nat} {ret : Option FieldType} {d : Nat} {α : Type} {ι : α → Option Value × Mem} {pc : Nat} {lv : List (Option Value)} {st : List Value} {σ : Mem} {b : Option α} (X : Cx M w sh cc nL RX4 ret d) {k : Nat} {fs : List (Option Nat)} (q : Nat) (hs : sh[k]? = some (.inr (0, fs))) (hf : fs[9]? = some (some q)) (hd : decode cc pc = .ok (.getfield 43, 3)) (kk : Cp M w sh nL ι (pc + 3) lv (.ref (wad w q) :: st) σ b) : Cp M w sh nL ι pc lv (.ref (wad w k) :: st) σ b := Cp.getRN X clX1 hs 9 (by decide) wfX4_43 hf hd kk
theorem wfX4_57 : Cond.fieldLink RX4 57 "LaughTax$Telling" "lastRound" "I" ∈ TB := tb_t 121 (by decide +kernel) (by decide +kernel)
theorem gfX4_57 {M : MC} {w : WE} {sh : List Shp} {cc : ByteArray} {nL : Nat} {ret : Option FieldType} {d : Nat} {α : Type} {ι : α → Option Value × Mem} {pc : Nat} {lv : List (Option Value)} {st : List Value} {σ : Mem} {b : Option α} (X : Cx M w sh cc nL RX4 ret d) {k : Nat} {fs : List (Option Nat)} (hs : sh[k]? = some (.inr (3, fs))) (hf : fs[2]? = some none) (hd : decode cc pc = .ok (.getfield 57, 3)) (kk : Cp M w sh nL ι (pc + 3) lv (.int (σ k 2) :: st) σ b) : Cp M w sh nL ι pc lv (.ref (wad w k) :: st) σ b := Cp.getI X clX4 hs 2 (by decide) wfX4_57 hf hd kk
theorem pfX4_57 {M : MC} {w : WE} {sh : List Shp} {cc : ByteArray} {nL : Nat} {ret : Option FieldType} {d : Nat} {α : Type} {ι : α → Option Value × Mem} {pc : Nat} {lv : List (Option Value)} {st : List Value} {σ : Mem} {b : Option α} (X : Cx M w sh cc nL RX4 ret d) {k : Nat} {fs : List (Option Nat)} (hs : sh[k]? = some (.inr (3, fs))) (hf : fs[2]? = some none) {v : Int32} (hd : decode cc pc = .ok (.putfield 57, 3)) (kk : Cp M w sh nL ι (pc + 3) lv st (up2 σ k 2 v) b) : Cp M w sh nL ι pc lv (.int v :: .ref (wad w k) :: st) σ b := Cp.putI X clX4 hs 2 (by decide) wfX4_57 hf rfl (by decide +kernel) hd kk
theorem wfX4_67 : Cond.fieldLinkNest RX4 67 "LaughTax$Room" "near" "[I" "LaughTax" ∈ TB := tb_t 52 (by decide +kernel) (by decide +kernel)
theorem gfX4_67 {M : MC} {w : WE} {sh : List Shp} {cc : ByteArray} {nL : Nat} {ret : Option FieldType} {d : Nat} {α : Type} {ι : α → Option Value × Mem} {pc : Nat} {lv : List (Option Value)} {st : List Value} {σ : Mem} {b : Option α} (X : Cx M w sh cc nL RX4 ret d) {k : Nat} {fs : List (Option Nat)} (q : Nat) (hs : sh[k]? = some (.inr (0, fs))) (hf : fs[6]? = some (some q)) (hd : decode cc pc = .ok (.getfield 67, 3)) (kk : Cp M w sh nL ι (pc + 3) lv (.ref (wad w q) :: st) σ b) : Cp M w sh nL ι pc lv (.ref (wad w k) :: st) σ b := Cp.getRN X clX1 hs 6 (by decide) wfX4_67 hf hd kk
theorem wfX4_80 : Cond.fieldLinkNest RX4 80 "LaughTax$Room" "mood" "[I" "LaughTax" ∈ TB := tb_t 44 (by decide +kernel) (by decide +kernel)
theorem gfX4_80 {M : MC} {w : WE} {sh : List Shp} {cc : ByteArray} {nL : Nat} {ret : Option FieldType} {d : Nat} {α : Type} {ι : α → Option Value × Mem} {pc : Nat} {lv : List (Option Value)} {st : List Value} {σ : Mem} {b : Option α} (X : Cx M w sh cc nL RX4 ret d) {k : Nat} {fs : List (Option Nat)} (q : Nat) (hs : sh[k]? = some (.inr (0, fs))) (hf : fs[4]? = some (some q)) (hd : decode cc pc = .ok (.getfield 80, 3)) (kk : Cp M w sh nL ι (pc + 3) lv (.ref (wad w q) :: st) σ b) : Cp M w sh nL ι pc lv (.ref (wad w k) :: st) σ b := Cp.getRN X clX1 hs 4 (by decide) wfX4_80 hf hd kk
theorem wfX4_105 : Cond.fieldLinkNest RX4 105 "LaughTax$Room" "told" "I" "LaughTax" ∈ TB := tb_t 71 (by decide +kernel) (by decide +kernel)
theorem gfX4_105 {M : MC} {w : WE} {sh : List Shp} {cc : ByteArray} {nL : Nat} {ret : Option FieldType} {d : Nat} {α : Type} {ι : α → Option Value × Mem} {pc : Nat} {lv : List (Option Value)} {st : List Value} {σ : Mem} {b : Option α} (X : Cx M w sh cc nL RX4 ret d) {k : Nat} {fs : List (Option Nat)} (hs : sh[k]? = some (.inr (0, fs))) (hf : fs[13]? = some none) (hd : decode cc pc = .ok (.getfield 105, 3)) (kk : Cp M w sh nL ι (pc + 3) lv (.int (σ k 13) :: st) σ b) : Cp M w sh nL ι pc lv (.ref (wad w k) :: st) σ b := Cp.getIN X clX1 hs 13 (by decide) wfX4_105 hf hd kk
theorem pfX4_105 {M : MC} {w : WE} {sh : List Shp} {cc : ByteArray} {nL : Nat} {ret : Option FieldType} {d : Nat} {α : Type} {ι : α → Option Value × Mem} {pc : Nat} {lv : List (Option Value)} {st : List Value} {σ : Mem} {b : Option α} (X : Cx M w sh cc nL RX4 ret d) {k : Nat} {fs : List (Option Nat)} (hs : sh[k]? = some (.inr (0, fs))) (hf : fs[13]? = some none) {v : Int32} (hd : decode cc pc = .ok (.putfield 105, 3)) (kk : Cp M w sh nL ι (pc + 3) lv st (up2 σ k 13 v) b) : Cp M w sh nL ι pc lv (.int v :: .ref (wad w k) :: st) σ b := Cp.putIN X clX1 hs 13 (by decide) wfX4_105 hf rfl (by decide +kernel) hd kk
theorem wfX4_109 : Cond.fieldLinkNest RX4 109 "LaughTax$Room" "treasury" "I" "LaughTax" ∈ TB := tb_t 68 (by decide +kernel) (by decide +kernel)
theorem gfX4_109 {M : MC} {w : WE} {sh : List Shp} {cc : ByteArray} {nL : Nat} {ret : Option FieldType} {d : Nat} {α : Type} {ι : α → Option Value × Mem} {pc : Nat} {lv : List (Option Value)} {st : List Value} {σ : Mem} {b : Option α} (X : Cx M w sh cc nL RX4 ret d) {k : Nat} {fs : List (Option Nat)} (hs : sh[k]? = some (.inr (0, fs))) (hf : fs[12]? = some none) (hd : decode cc pc = .ok (.getfield 109, 3)) (kk : Cp M w sh nL ι (pc + 3) lv (.int (σ k 12) :: st) σ b) : Cp M w sh nL ι pc lv (.ref (wad w k) :: st) σ b := Cp.getIN X clX1 hs 12 (by decide) wfX4_109 hf hd kk
theorem pfX4_109 {M : MC} {w : WE} {sh : List Shp} {cc : ByteArray} {nL : Nat} {ret : Option FieldType} {d : Nat} {α : Type} {ι : α → Option Value × Mem} {pc : Nat} {lv : List (Option Value)} {st : List Value} {σ : Mem} {b : Option α} (X : Cx M w sh cc nL RX4 ret d) {k : Nat} {fs : List (Option Nat)} (hs : sh[k]? = some (.inr (0, fs))) (hf : fs[12]? = some none) {v : Int32} (hd : decode cc pc = .ok (.putfield 109, 3)) (kk : Cp M w sh nL ι (pc + 3) lv st (up2 σ k 12 v) b) : Cp M w sh nL ι pc lv (.int v :: .ref (wad w k) :: st) σ b := Cp.putIN X clX1 hs 12 (by decide) wfX4_109 hf rfl (by decide +kernel) hd kk
theorem wfX6_9 : Cond.fieldLink RX6 9 "LaughTaxModel" "s" "[I" ∈ TB := tb_t 760 (by decide +kernel) (by decide +kernel)
theorem gfX6_9 {M : MC} {w : WE} {sh : List Shp} {cc : ByteArray} {nL : Nat} {ret : Option FieldType} {d : Nat} {α : Type} {ι : α → Option Value × Mem} {pc : Nat} {lv : List (Option Value)} {st : List Value} {σ : Mem} {b : Option α} (X : Cx M w sh cc nL RX6 ret d) {k : Nat} {fs : List (Option Nat)} (q : Nat) (hs : sh[k]? = some (.inr (5, fs))) (hf : fs[0]? = some (some q)) (hd : decode cc pc = .ok (.getfield 9, 3)) (kk : Cp M w sh nL ι (pc + 3) lv (.ref (wad w q) :: st) σ b) : Cp M w sh nL ι pc lv (.ref (wad w k) :: st) σ b := Cp.getR X clX6 hs 0 (by decide) wfX6_9 hf hd kk
theorem wfX6_13 : Cond.fieldLink RX6 13 "LaughTaxModel" "kept" "[I" ∈ TB := tb_t 761 (by decide +kernel) (by decide +kernel)
theorem gfX6_13 {M : MC} {w : WE} {sh : List Shp} {cc : ByteArray} {nL : Nat} {ret : Option FieldType} {d : Nat} {α : Type} {ι : α → Option Value × Mem} {pc : Nat} {lv : List (Option Value)} {st : List Value} {σ : Mem} {b : Option α} (X : Cx M w sh cc nL RX6 ret d) {k : Nat} {fs : List (Option Nat)} (q : Nat) (hs : sh[k]? = some (.inr (5, fs))) (hf : fs[1]? = some (some q)) (hd : decode cc pc = .ok (.getfield 13, 3)) (kk : Cp M w sh nL ι (pc + 3) lv (.ref (wad w q) :: st) σ b) : Cp M w sh nL ι pc lv (.ref (wad w k) :: st) σ b := Cp.getR X clX6 hs 1 (by decide) wfX6_13 hf hd kk
theorem wfX6_16 : Cond.fieldLink RX6 16 "LaughTaxModel" "aside" "[I" ∈ TB := tb_t 762 (by decide +kernel) (by decide +kernel)
theorem gfX6_16 {M : MC} {w : WE} {sh : List Shp} {cc : ByteArray} {nL : Nat} {ret : Option FieldType} {d : Nat} {α : Type} {ι : α → Option Value × Mem} {pc : Nat} {lv : List (Option Value)} {st : List Value} {σ : Mem} {b : Option α} (X : Cx M w sh cc nL RX6 ret d) {k : Nat} {fs : List (Option Nat)} (q : Nat) (hs : sh[k]? = some (.inr (5, fs))) (hf : fs[2]? = some (some q)) (hd : decode cc pc = .ok (.getfield 16, 3)) (kk : Cp M w sh nL ι (pc + 3) lv (.ref (wad w q) :: st) σ b) : Cp M w sh nL ι pc lv (.ref (wad w k) :: st) σ b := Cp.getR X clX6 hs 2 (by decide) wfX6_16 hf hd kk
theorem wfX6_19 : Cond.fieldLink RX6 19 "LaughTaxModel" "found" "[I" ∈ TB := tb_t 764 (by decide +kernel) (by decide +kernel)
theorem gfX6_19 {M : MC} {w : WE} {sh : List Shp} {cc : ByteArray} {nL : Nat} {ret : Option FieldType} {d : Nat} {α : Type} {ι : α → Option Value × Mem} {pc : Nat} {lv : List (Option Value)} {st : List Value} {σ : Mem} {b : Option α} (X : Cx M w sh cc nL RX6 ret d) {k : Nat} {fs : List (Option Nat)} (q : Nat) (hs : sh[k]? = some (.inr (5, fs))) (hf : fs[4]? = some (some q)) (hd : decode cc pc = .ok (.getfield 19, 3)) (kk : Cp M w sh nL ι (pc + 3) lv (.ref (wad w q) :: st) σ b) : Cp M w sh nL ι pc lv (.ref (wad w k) :: st) σ b := Cp.getR X clX6 hs 4 (by decide) wfX6_19 hf hd kk
theorem wfX6_22 : Cond.fieldLink RX6 22 "LaughTaxModel" "round" "[I" ∈ TB := tb_t 765 (by decide +kernel) (by decide +kernel)
theorem gfX6_22 {M : MC} {w : WE} {sh : List Shp} {cc : ByteArray} {nL : Nat} {ret : Option FieldType} {d : Nat} {α : Type} {ι : α → Option Value × Mem} {pc : Nat} {lv : List (Option Value)} {st : List Value} {σ : Mem} {b : Option α} (X : Cx M w sh cc nL RX6 ret d) {k : Nat} {fs : List (Option Nat)} (q : Nat) (hs : sh[k]? = some (.inr (5, fs))) (hf : fs[5]? = some (some q)) (hd : decode cc pc = .ok (.getfield 22, 3)) (kk : Cp M w sh nL ι (pc + 3) lv (.ref (wad w q) :: st) σ b) : Cp M w sh nL ι pc lv (.ref (wad w k) :: st) σ b := Cp.getR X clX6 hs 5 (by decide) wfX6_22 hf hd kk
theorem wfX6_25 : Cond.fieldLink RX6 25 "LaughTaxModel" "paid" "[I" ∈ TB := tb_t 767 (by decide +kernel) (by decide +kernel)
theorem gfX6_25 {M : MC} {w : WE} {sh : List Shp} {cc : ByteArray} {nL : Nat} {ret : Option FieldType} {d : Nat} {α : Type} {ι : α → Option Value × Mem} {pc : Nat} {lv : List (Option Value)} {st : List Value} {σ : Mem} {b : Option α} (X : Cx M w sh cc nL RX6 ret d) {k : Nat} {fs : List (Option Nat)} (q : Nat) (hs : sh[k]? = some (.inr (5, fs))) (hf : fs[7]? = some (some q)) (hd : decode cc pc = .ok (.getfield 25, 3)) (kk : Cp M w sh nL ι (pc + 3) lv (.ref (wad w q) :: st) σ b) : Cp M w sh nL ι pc lv (.ref (wad w k) :: st) σ b := Cp.getR X clX6 hs 7 (by decide) wfX6_25 hf hd kk
theorem wfX6_28 : Cond.fieldLink RX6 28 "LaughTaxModel" "tape" "[I" ∈ TB := tb_t 769 (by decide +kernel) (by decide +kernel)
theorem gfX6_28 {M : MC} {w : WE} {sh : List Shp} {cc : ByteArray} {nL : Nat} {ret : Option FieldType} {d : Nat} {α : Type} {ι : α → Option Value × Mem} {pc : Nat} {lv : List (Option Value)} {st : List Value} {σ : Mem} {b : Option α} (X : Cx M w sh cc nL RX6 ret d) {k : Nat} {fs : List (Option Nat)} (q : Nat) (hs : sh[k]? = some (.inr (5, fs))) (hf : fs[9]? = some (some q)) (hd : decode cc pc = .ok (.getfield 28, 3)) (kk : Cp M w sh nL ι (pc + 3) lv (.ref (wad w q) :: st) σ b) : Cp M w sh nL ι pc lv (.ref (wad w k) :: st) σ b := Cp.getR X clX6 hs 9 (by decide) wfX6_28 hf hd kk
theorem wfX6_31 : Cond.fieldLink RX6 31 "LaughTaxModel" "bitsOf" "[I" ∈ TB := tb_t 774 (by decide +kernel) (by decide +kernel)
theorem gfX6_31 {M : MC} {w : WE} {sh : List Shp} {cc : ByteArray} {nL : Nat} {ret : Option FieldType} {d : Nat} {α : Type} {ι : α → Option Value × Mem} {pc : Nat} {lv : List (Option Value)} {st : List Value} {σ : Mem} {b : Option α} (X : Cx M w sh cc nL RX6 ret d) {k : Nat} {fs : List (Option Nat)} (q : Nat) (hs : sh[k]? = some (.inr (5, fs))) (hf : fs[14]? = some (some q)) (hd : decode cc pc = .ok (.getfield 31, 3)) (kk : Cp M w sh nL ι (pc + 3) lv (.ref (wad w q) :: st) σ b) : Cp M w sh nL ι pc lv (.ref (wad w k) :: st) σ b := Cp.getR X clX6 hs 14 (by decide) wfX6_31 hf hd kk
theorem wfX6_34 : Cond.fieldLink RX6 34 "LaughTaxModel" "sizeOf" "[I" ∈ TB := tb_t 775 (by decide +kernel) (by decide +kernel)
theorem gfX6_34 {M : MC} {w : WE} {sh : List Shp} {cc : ByteArray} {nL : Nat} {ret : Option FieldType} {d : Nat} {α : Type} {ι : α → Option Value × Mem} {pc : Nat} {lv : List (Option Value)} {st : List Value} {σ : Mem} {b : Option α} (X : Cx M w sh cc nL RX6 ret d) {k : Nat} {fs : List (Option Nat)} (q : Nat) (hs : sh[k]? = some (.inr (5, fs))) (hf : fs[15]? = some (some q)) (hd : decode cc pc = .ok (.getfield 34, 3)) (kk : Cp M w sh nL ι (pc + 3) lv (.ref (wad w q) :: st) σ b) : Cp M w sh nL ι pc lv (.ref (wad w k) :: st) σ b := Cp.getR X clX6 hs 15 (by decide) wfX6_34 hf hd kk
theorem wfX6_37 : Cond.fieldLink RX6 37 "LaughTaxModel" "number" "[I" ∈ TB := tb_t 776 (by decide +kernel) (by decide +kernel)
theorem gfX6_37 {M : MC} {w : WE} {sh : List Shp} {cc : ByteArray} {nL : Nat} {ret : Option FieldType} {d : Nat} {α : Type} {ι : α → Option Value × Mem} {pc : Nat} {lv : List (Option Value)} {st : List Value} {σ : Mem} {b : Option α} (X : Cx M w sh cc nL RX6 ret d) {k : Nat} {fs : List (Option Nat)} (q : Nat) (hs : sh[k]? = some (.inr (5, fs))) (hf : fs[16]? = some (some q)) (hd : decode cc pc = .ok (.getfield 37, 3)) (kk : Cp M w sh nL ι (pc + 3) lv (.ref (wad w q) :: st) σ b) : Cp M w sh nL ι pc lv (.ref (wad w k) :: st) σ b := Cp.getR X clX6 hs 16 (by decide) wfX6_37 hf hd kk
theorem wfX6_40 : Cond.fieldLink RX6 40 "LaughTaxModel" "moved" "[I" ∈ TB := tb_t 777 (by decide +kernel) (by decide +kernel)
theorem gfX6_40 {M : MC} {w : WE} {sh : List Shp} {cc : ByteArray} {nL : Nat} {ret : Option FieldType} {d : Nat} {α : Type} {ι : α → Option Value × Mem} {pc : Nat} {lv : List (Option Value)} {st : List Value} {σ : Mem} {b : Option α} (X : Cx M w sh cc nL RX6 ret d) {k : Nat} {fs : List (Option Nat)} (q : Nat) (hs : sh[k]? = some (.inr (5, fs))) (hf : fs[17]? = some (some q)) (hd : decode cc pc = .ok (.getfield 40, 3)) (kk : Cp M w sh nL ι (pc + 3) lv (.ref (wad w q) :: st) σ b) : Cp M w sh nL ι pc lv (.ref (wad w k) :: st) σ b := Cp.getR X clX6 hs 17 (by decide) wfX6_40 hf hd kk
theorem wfX6_148 : Cond.fieldLink RX6 148 "LaughTaxModel" "rounds" "I" ∈ TB := tb_t 766 (by decide +kernel) (by decide +kernel)
theorem gfX6_148 {M : MC} {w : WE} {sh : List Shp} {cc : ByteArray} {nL : Nat} {ret : Option FieldType} {d : Nat} {α : Type} {ι : α → Option Value × Mem} {pc : Nat} {lv : List (Option Value)} {st : List Value} {σ : Mem} {b : Option α} (X : Cx M w sh cc nL RX6 ret d) {k : Nat} {fs : List (Option Nat)} (hs : sh[k]? = some (.inr (5, fs))) (hf : fs[6]? = some none) (hd : decode cc pc = .ok (.getfield 148, 3)) (kk : Cp M w sh nL ι (pc + 3) lv (.int (σ k 6) :: st) σ b) : Cp M w sh nL ι pc lv (.ref (wad w k) :: st) σ b := Cp.getI X clX6 hs 6 (by decide) wfX6_148 hf hd kk
theorem pfX6_148 {M : MC} {w : WE} {sh : List Shp} {cc : ByteArray} {nL : Nat} {ret : Option FieldType} {d : Nat} {α : Type} {ι : α → Option Value × Mem} {pc : Nat} {lv : List (Option Value)} {st : List Value} {σ : Mem} {b : Option α} (X : Cx M w sh cc nL RX6 ret d) {k : Nat} {fs : List (Option Nat)} (hs : sh[k]? = some (.inr (5, fs))) (hf : fs[6]? = some none) {v : Int32} (hd : decode cc pc = .ok (.putfield 148, 3)) (kk : Cp M w sh nL ι (pc + 3) lv st (up2 σ k 6 v) b) : Cp M w sh nL ι pc lv (.int v :: .ref (wad w k) :: st) σ b := Cp.putI X clX6 hs 6 (by decide) wfX6_148 hf rfl (by decide +kernel) hd kk
theorem wfX6_197 : Cond.fieldLink RX6 197 "LaughTaxModel" "leastTaste" "I" ∈ TB := tb_t 768 (by decide +kernel) (by decide +kernel)
theorem gfX6_197 {M : MC} {w : WE} {sh : List Shp} {cc : ByteArray} {nL : Nat} {ret : Option FieldType} {d : Nat} {α : Type} {ι : α → Option Value × Mem} {pc : Nat} {lv : List (Option Value)} {st : List Value} {σ : Mem} {b : Option α} (X : Cx M w sh cc nL RX6 ret d) {k : Nat} {fs : List (Option Nat)} (hs : sh[k]? = some (.inr (5, fs))) (hf : fs[8]? = some none) (hd : decode cc pc = .ok (.getfield 197, 3)) (kk : Cp M w sh nL ι (pc + 3) lv (.int (σ k 8) :: st) σ b) : Cp M w sh nL ι pc lv (.ref (wad w k) :: st) σ b := Cp.getI X clX6 hs 8 (by decide) wfX6_197 hf hd kk
theorem pfX6_197 {M : MC} {w : WE} {sh : List Shp} {cc : ByteArray} {nL : Nat} {ret : Option FieldType} {d : Nat} {α : Type} {ι : α → Option Value × Mem} {pc : Nat} {lv : List (Option Value)} {st : List Value} {σ : Mem} {b : Option α} (X : Cx M w sh cc nL RX6 ret d) {k : Nat} {fs : List (Option Nat)} (hs : sh[k]? = some (.inr (5, fs))) (hf : fs[8]? = some none) {v : Int32} (hd : decode cc pc = .ok (.putfield 197, 3)) (kk : Cp M w sh nL ι (pc + 3) lv st (up2 σ k 8 v) b) : Cp M w sh nL ι pc lv (.int v :: .ref (wad w k) :: st) σ b := Cp.putI X clX6 hs 8 (by decide) wfX6_197 hf rfl (by decide +kernel) hd kk
theorem wfX6_221 : Cond.fieldLink RX6 221 "LaughTaxModel" "taped" "I" ∈ TB := tb_t 770 (by decide +kernel) (by decide +kernel)
theorem gfX6_221 {M : MC} {w : WE} {sh : List Shp} {cc : ByteArray} {nL : Nat} {ret : Option FieldType} {d : Nat} {α : Type} {ι : α → Option Value × Mem} {pc : Nat} {lv : List (Option Value)} {st : List Value} {σ : Mem} {b : Option α} (X : Cx M w sh cc nL RX6 ret d) {k : Nat} {fs : List (Option Nat)} (hs : sh[k]? = some (.inr (5, fs))) (hf : fs[10]? = some none) (hd : decode cc pc = .ok (.getfield 221, 3)) (kk : Cp M w sh nL ι (pc + 3) lv (.int (σ k 10) :: st) σ b) : Cp M w sh nL ι pc lv (.ref (wad w k) :: st) σ b := Cp.getI X clX6 hs 10 (by decide) wfX6_221 hf hd kk
theorem pfX6_221 {M : MC} {w : WE} {sh : List Shp} {cc : ByteArray} {nL : Nat} {ret : Option FieldType} {d : Nat} {α : Type} {ι : α → Option Value × Mem} {pc : Nat} {lv : List (Option Value)} {st : List Value} {σ : Mem} {b : Option α} (X : Cx M w sh cc nL RX6 ret d) {k : Nat} {fs : List (Option Nat)} (hs : sh[k]? = some (.inr (5, fs))) (hf : fs[10]? = some none) {v : Int32} (hd : decode cc pc = .ok (.putfield 221, 3)) (kk : Cp M w sh nL ι (pc + 3) lv st (up2 σ k 10 v) b) : Cp M w sh nL ι pc lv (.int v :: .ref (wad w k) :: st) σ b := Cp.putI X clX6 hs 10 (by decide) wfX6_221 hf rfl (by decide +kernel) hd kk
theorem wfX6_224 : Cond.fieldLink RX6 224 "LaughTaxModel" "to" "I" ∈ TB := tb_t 772 (by decide +kernel) (by decide +kernel)
theorem gfX6_224 {M : MC} {w : WE} {sh : List Shp} {cc : ByteArray} {nL : Nat} {ret : Option FieldType} {d : Nat} {α : Type} {ι : α → Option Value × Mem} {pc : Nat} {lv : List (Option Value)} {st : List Value} {σ : Mem} {b : Option α} (X : Cx M w sh cc nL RX6 ret d) {k : Nat} {fs : List (Option Nat)} (hs : sh[k]? = some (.inr (5, fs))) (hf : fs[12]? = some none) (hd : decode cc pc = .ok (.getfield 224, 3)) (kk : Cp M w sh nL ι (pc + 3) lv (.int (σ k 12) :: st) σ b) : Cp M w sh nL ι pc lv (.ref (wad w k) :: st) σ b := Cp.getI X clX6 hs 12 (by decide) wfX6_224 hf hd kk
theorem pfX6_224 {M : MC} {w : WE} {sh : List Shp} {cc : ByteArray} {nL : Nat} {ret : Option FieldType} {d : Nat} {α : Type} {ι : α → Option Value × Mem} {pc : Nat} {lv : List (Option Value)} {st : List Value} {σ : Mem} {b : Option α} (X : Cx M w sh cc nL RX6 ret d) {k : Nat} {fs : List (Option Nat)} (hs : sh[k]? = some (.inr (5, fs))) (hf : fs[12]? = some none) {v : Int32} (hd : decode cc pc = .ok (.putfield 224, 3)) (kk : Cp M w sh nL ι (pc + 3) lv st (up2 σ k 12 v) b) : Cp M w sh nL ι pc lv (.int v :: .ref (wad w k) :: st) σ b := Cp.putI X clX6 hs 12 (by decide) wfX6_224 hf rfl (by decide +kernel) hd kk
theorem wfX6_227 : Cond.fieldLink RX6 227 "LaughTaxModel" "from" "I" ∈ TB := tb_t 771 (by decide +kernel) (by decide +kernel)
theorem gfX6_227 {M : MC} {w : WE} {sh : List Shp} {cc : ByteArray} {nL : Nat} {ret : Option FieldType} {d : Nat} {α : Type} {ι : α → Option Value × Mem} {pc : Nat} {lv : List (Option Value)} {st : List Value} {σ : Mem} {b : Option α} (X : Cx M w sh cc nL RX6 ret d) {k : Nat} {fs : List (Option Nat)} (hs : sh[k]? = some (.inr (5, fs))) (hf : fs[11]? = some none) (hd : decode cc pc = .ok (.getfield 227, 3)) (kk : Cp M w sh nL ι (pc + 3) lv (.int (σ k 11) :: st) σ b) : Cp M w sh nL ι pc lv (.ref (wad w k) :: st) σ b := Cp.getI X clX6 hs 11 (by decide) wfX6_227 hf hd kk
theorem pfX6_227 {M : MC} {w : WE} {sh : List Shp} {cc : ByteArray} {nL : Nat} {ret : Option FieldType} {d : Nat} {α : Type} {ι : α → Option Value × Mem} {pc : Nat} {lv : List (Option Value)} {st : List Value} {σ : Mem} {b : Option α} (X : Cx M w sh cc nL RX6 ret d) {k : Nat} {fs : List (Option Nat)} (hs : sh[k]? = some (.inr (5, fs))) (hf : fs[11]? = some none) {v : Int32} (hd : decode cc pc = .ok (.putfield 227, 3)) (kk : Cp M w sh nL ι (pc + 3) lv st (up2 σ k 11 v) b) : Cp M w sh nL ι pc lv (.int v :: .ref (wad w k) :: st) σ b := Cp.putI X clX6 hs 11 (by decide) wfX6_227 hf rfl (by decide +kernel) hd kk
theorem wfX6_233 : Cond.fieldLink RX6 233 "LaughTaxModel" "isWrong" "Z" ∈ TB := tb_t 773 (by decide +kernel) (by decide +kernel)
theorem gfX6_233 {M : MC} {w : WE} {sh : List Shp} {cc : ByteArray} {nL : Nat} {ret : Option FieldType} {d : Nat} {α : Type} {ι : α → Option Value × Mem} {pc : Nat} {lv : List (Option Value)} {st : List Value} {σ : Mem} {b : Option α} (X : Cx M w sh cc nL RX6 ret d) {k : Nat} {fs : List (Option Nat)} (hs : sh[k]? = some (.inr (5, fs))) (hf : fs[13]? = some none) (hd : decode cc pc = .ok (.getfield 233, 3)) (kk : Cp M w sh nL ι (pc + 3) lv (.int (σ k 13) :: st) σ b) : Cp M w sh nL ι pc lv (.ref (wad w k) :: st) σ b := Cp.getI X clX6 hs 13 (by decide) wfX6_233 hf hd kk
theorem pfX6_233 {M : MC} {w : WE} {sh : List Shp} {cc : ByteArray} {nL : Nat} {ret : Option FieldType} {d : Nat} {α : Type} {ι : α → Option Value × Mem} {pc : Nat} {lv : List (Option Value)} {st : List Value} {σ : Mem} {b : Option α} (X : Cx M w sh cc nL RX6 ret d) {k : Nat} {fs : List (Option Nat)} (hs : sh[k]? = some (.inr (5, fs))) (hf : fs[13]? = some none) {v : Int32} (hd : decode cc pc = .ok (.putfield 233, 3)) (kk : Cp M w sh nL ι (pc + 3) lv st (up2 σ k 13 v) b) : Cp M w sh nL ι pc lv (.int v :: .ref (wad w k) :: st) σ (gd (v = 0 ∨ v = 1) b) := Cp.putZ X clX6 hs 13 (by decide) wfX6_233 hf rfl (by decide +kernel) hd kk
theorem pfcX6_233 {M : MC} {w : WE} {sh : List Shp} {cc : ByteArray} {nL : Nat} {ret : Option FieldType} {d : Nat} {α : Type} {ι : α → Option Value × Mem} {pc : Nat} {lv : List (Option Value)} {st : List Value} {σ : Mem} {b : Option α} (X : Cx M w sh cc nL RX6 ret d) {k : Nat} {fs : List (Option Nat)} (hs : sh[k]? = some (.inr (5, fs))) (hf : fs[13]? = some none) {v : Int32} (hv : v = 0 ∨ v = 1) (hd : decode cc pc = .ok (.putfield 233, 3)) (kk : Cp M w sh nL ι (pc + 3) lv st (up2 σ k 13 v) b) : Cp M w sh nL ι pc lv (.int v :: .ref (wad w k) :: st) σ b := Cp.putZc X clX6 hs 13 (by decide) wfX6_233 hf rfl (by decide +kernel) hv hd kk
theorem wfX6_324 : Cond.fieldLink RX6 324 "LaughTaxModel" "isKept" "Z" ∈ TB := tb_t 763 (by decide +kernel) (by decide +kernel)
theorem gfX6_324 {M : MC} {w : WE} {sh : List Shp} {cc : ByteArray} {nL : Nat} {ret : Option FieldType} {d : Nat} {α : Type} {ι : α → Option Value × Mem} {pc : Nat} {lv : List (Option Value)} {st : List Value} {σ : Mem} {b : Option α} (X : Cx M w sh cc nL RX6 ret d) {k : Nat} {fs : List (Option Nat)} (hs : sh[k]? = some (.inr (5, fs))) (hf : fs[3]? = some none) (hd : decode cc pc = .ok (.getfield 324, 3)) (kk : Cp M w sh nL ι (pc + 3) lv (.int (σ k 3) :: st) σ b) : Cp M w sh nL ι pc lv (.ref (wad w k) :: st) σ b := Cp.getI X clX6 hs 3 (by decide) wfX6_324 hf hd kk
theorem pfX6_324 {M : MC} {w : WE} {sh : List Shp} {cc : ByteArray} {nL : Nat} {ret : Option FieldType} {d : Nat} {α : Type} {ι : α → Option Value × Mem} {pc : Nat} {lv : List (Option Value)} {st : List Value} {σ : Mem} {b : Option α} (X : Cx M w sh cc nL RX6 ret d) {k : Nat} {fs : List (Option Nat)} (hs : sh[k]? = some (.inr (5, fs))) (hf : fs[3]? = some none) {v : Int32} (hd : decode cc pc = .ok (.putfield 324, 3)) (kk : Cp M w sh nL ι (pc + 3) lv st (up2 σ k 3 v) b) : Cp M w sh nL ι pc lv (.int v :: .ref (wad w k) :: st) σ (gd (v = 0 ∨ v = 1) b) := Cp.putZ X clX6 hs 3 (by decide) wfX6_324 hf rfl (by decide +kernel) hd kk
theorem pfcX6_324 {M : MC} {w : WE} {sh : List Shp} {cc : ByteArray} {nL : Nat} {ret : Option FieldType} {d : Nat} {α : Type} {ι : α → Option Value × Mem} {pc : Nat} {lv : List (Option Value)} {st : List Value} {σ : Mem} {b : Option α} (X : Cx M w sh cc nL RX6 ret d) {k : Nat} {fs : List (Option Nat)} (hs : sh[k]? = some (.inr (5, fs))) (hf : fs[3]? = some none) {v : Int32} (hv : v = 0 ∨ v = 1) (hd : decode cc pc = .ok (.putfield 324, 3)) (kk : Cp M w sh nL ι (pc + 3) lv st (up2 σ k 3 v) b) : Cp M w sh nL ι pc lv (.int v :: .ref (wad w k) :: st) σ b := Cp.putZc X clX6 hs 3 (by decide) wfX6_324 hf rfl (by decide +kernel) hv hd kk
theorem wcX5_58 : Cond.constant RX5 58 (-1000001) ∈ TB := tb_t 218 (by decide +kernel) (by decide +kernel)
theorem wcX5_67 : Cond.constant RX5 67 (-1000002) ∈ TB := tb_t 223 (by decide +kernel) (by decide +kernel)
theorem wcX5_165 : Cond.constant RX5 165 (99999) ∈ TB := tb_t 330 (by decide +kernel) (by decide +kernel)
theorem wcX5_166 : Cond.constant RX5 166 (-1000005) ∈ TB := tb_t 331 (by decide +kernel) (by decide +kernel)
theorem wcX5_182 : Cond.constant RX5 182 (-1000004) ∈ TB := tb_t 397 (by decide +kernel) (by decide +kernel)
theorem wcX5_265 : Cond.constant RX5 265 (-1000006) ∈ TB := tb_t 505 (by decide +kernel) (by decide +kernel)
theorem wcX5_269 : Cond.constant RX5 269 (-1000003) ∈ TB := tb_t 694 (by decide +kernel) (by decide +kernel)
theorem wcX5_270 : Cond.constant RX5 270 (-1000007) ∈ TB := tb_t 699 (by decide +kernel) (by decide +kernel)
theorem wcX1_87 : Cond.constant RX1 87 (1103515245) ∈ TB := tb_t 536 (by decide +kernel) (by decide +kernel)
theorem wcX4_104 : Cond.constant RX4 104 (99999) ∈ TB := tb_t 375 (by decide +kernel) (by decide +kernel)
theorem wcX4_108 : Cond.constant RX4 108 (999999) ∈ TB := tb_t 372 (by decide +kernel) (by decide +kernel)
theorem wcX6_43 : Cond.constant RX6 43 (-1000001) ∈ TB := tb_t 834 (by decide +kernel) (by decide +kernel)
theorem wcX6_165 : Cond.constant RX6 165 (999999) ∈ TB := tb_t 957 (by decide +kernel) (by decide +kernel)
theorem wcX6_166 : Cond.constant RX6 166 (99999) ∈ TB := tb_t 936 (by decide +kernel) (by decide +kernel)
theorem wcX6_213 : Cond.constant RX6 213 (1103515245) ∈ TB := tb_t 1115 (by decide +kernel) (by decide +kernel)
theorem wcJ6_265 : Cond.constant RJ6 265 (1431655765) ∈ TB := tb_t 255 (by decide +kernel) (by decide +kernel)
theorem wcJ6_266 : Cond.constant RJ6 266 (858993459) ∈ TB := tb_t 256 (by decide +kernel) (by decide +kernel)
theorem wcJ6_267 : Cond.constant RJ6 267 (252645135) ∈ TB := tb_t 257 (by decide +kernel) (by decide +kernel)
theorem wcX6_52 : Cond.constantLong RX6 52 (15) ∈ TB := tb_t 829 (by decide +kernel) (by decide +kernel)
theorem wcX6_54 : Cond.constantLong RX6 54 (63) ∈ TB := tb_t 880 (by decide +kernel) (by decide +kernel)
theorem wcX6_56 : Cond.constantLong RX6 56 (9) ∈ TB := tb_t 881 (by decide +kernel) (by decide +kernel)
theorem wcX6_62 : Cond.constantLong RX6 62 (6) ∈ TB := tb_t 822 (by decide +kernel) (by decide +kernel)
theorem wcX6_112 : Cond.constantLong RX6 112 (7) ∈ TB := tb_t 851 (by decide +kernel) (by decide +kernel)
theorem wcX6_120 : Cond.constantLong RX6 120 (9999) ∈ TB := tb_t 882 (by decide +kernel) (by decide +kernel)
theorem wcX6_141 : Cond.constantLong RX6 141 (20) ∈ TB := tb_t 913 (by decide +kernel) (by decide +kernel)
theorem wcX6_143 : Cond.constantLong RX6 143 (2) ∈ TB := tb_t 918 (by decide +kernel) (by decide +kernel)
theorem wcX6_170 : Cond.constantLong RX6 170 (60) ∈ TB := tb_t 962 (by decide +kernel) (by decide +kernel)
theorem wcX6_192 : Cond.constantLong RX6 192 (8) ∈ TB := tb_t 1042 (by decide +kernel) (by decide +kernel)
theorem wcX6_217 : Cond.constantLong RX6 217 (14) ∈ TB := tb_t 1120 (by decide +kernel) (by decide +kernel)
theorem wcX6_219 : Cond.constantLong RX6 219 (4) ∈ TB := tb_t 1129 (by decide +kernel) (by decide +kernel)
theorem wcX6_316 : Cond.constantLong RX6 316 (3) ∈ TB := tb_t 1090 (by decide +kernel) (by decide +kernel)
theorem wcX6_330 : Cond.constantLong RX6 330 (-1) ∈ TB := tb_t 1264 (by decide +kernel) (by decide +kernel)
theorem wmX5_9 : Cond.methodLink RX5 9 yX1_init ∈ TB := tb_t 25 (by decide +kernel) (by decide +kernel)
theorem wmX5_28 : Cond.methodLinkNest RX5 28 yX4_init "LaughTax" ∈ TB := tb_t 113 (by decide +kernel) (by decide +kernel)
theorem wmX5_35 : Cond.methodLinkNest RX5 35 yX3_init "LaughTax" ∈ TB := tb_t 132 (by decide +kernel) (by decide +kernel)
theorem wmX5_46 : Cond.methodLinkNest RX5 46 yX2_init "LaughTax" ∈ TB := tb_t 163 (by decide +kernel) (by decide +kernel)
theorem wmX5_51 : Cond.methodLink RX5 51 yX5_isKind ∈ TB := tb_t 209 (by decide +kernel) (by decide +kernel)
theorem wmX5_55 : Cond.methodLink RX5 55 yX5_isSeat ∈ TB := tb_t 215 (by decide +kernel) (by decide +kernel)
theorem wmX5_59 : Cond.methodLink RX5 59 yX5_found ∈ TB := tb_t 219 (by decide +kernel) (by decide +kernel)
theorem wmX5_68 : Cond.methodLink RX5 68 yX1_addPerson ∈ TB := tb_t 224 (by decide +kernel) (by decide +kernel)
theorem wmX5_72 : Cond.methodLink RX5 72 yX5_hasPerson ∈ TB := tb_t 239 (by decide +kernel) (by decide +kernel)
theorem wmX5_90 : Cond.methodLink RX5 90 yX0_bound ∈ TB := tb_t 243 (by decide +kernel) (by decide +kernel)
theorem wmX5_95 : Cond.methodLink RX5 95 yX0_number ∈ TB := tb_t 249 (by decide +kernel) (by decide +kernel)
theorem wmX5_101 : Cond.methodLink RX5 101 yJ6_bitCount_0f7a4 ∈ TB := tb_t 252 (by decide +kernel) (by decide +kernel)
theorem wmX5_106 : Cond.methodLink RX5 106 yX5_canBecome ∈ TB := tb_t 262 (by decide +kernel) (by decide +kernel)
theorem wmX5_110 : Cond.methodLink RX5 110 yX5_replace ∈ TB := tb_t 265 (by decide +kernel) (by decide +kernel)
theorem wmX5_114 : Cond.methodLink RX5 114 yX5_moveTo ∈ TB := tb_t 268 (by decide +kernel) (by decide +kernel)
theorem wmX5_117 : Cond.methodLink RX5 117 yX5_isTopics ∈ TB := tb_t 280 (by decide +kernel) (by decide +kernel)
theorem wmX5_120 : Cond.methodLink RX5 120 yX5_isFun ∈ TB := tb_t 283 (by decide +kernel) (by decide +kernel)
theorem wmX5_126 : Cond.methodLink RX5 126 yX1_addJoke ∈ TB := tb_t 286 (by decide +kernel) (by decide +kernel)
theorem wmX5_129 : Cond.methodLink RX5 129 yX5_hasJoke ∈ TB := tb_t 294 (by decide +kernel) (by decide +kernel)
theorem wmX5_132 : Cond.methodLink RX5 132 yX5_within ∈ TB := tb_t 212 (by decide +kernel) (by decide +kernel)
theorem wmX5_148 : Cond.methodLink RX5 148 yX1_setReach ∈ TB := tb_t 302 (by decide +kernel) (by decide +kernel)
theorem wmX5_152 : Cond.methodLink RX5 152 yX1_strengthFor ∈ TB := tb_t 310 (by decide +kernel) (by decide +kernel)
theorem wmX5_156 : Cond.methodLink RX5 156 yX0_seconds ∈ TB := tb_t 315 (by decide +kernel) (by decide +kernel)
theorem wmX5_159 : Cond.methodLink RX5 159 yX1_dueFrom ∈ TB := tb_t 321 (by decide +kernel) (by decide +kernel)
theorem wmX5_167 : Cond.methodLink RX5 167 yX4_perform ∈ TB := tb_t 332 (by decide +kernel) (by decide +kernel)
theorem wmX5_171 : Cond.methodLink RX5 171 yX4_performOften ∈ TB := tb_t 380 (by decide +kernel) (by decide +kernel)
theorem wmX5_178 : Cond.methodLink RX5 178 yX1_together ∈ TB := tb_t 389 (by decide +kernel) (by decide +kernel)
theorem wmX5_183 : Cond.methodLink RX5 183 yJ9_min_7cf53 ∈ TB := tb_t 398 (by decide +kernel) (by decide +kernel)
theorem wmX5_188 : Cond.methodLink RX5 188 yX1_poorest ∈ TB := tb_t 399 (by decide +kernel) (by decide +kernel)
theorem wmX5_192 : Cond.methodLink RX5 192 yX4_startersOf ∈ TB := tb_t 407 (by decide +kernel) (by decide +kernel)
theorem wmX5_195 : Cond.methodLink RX5 195 yX4_laughersOf ∈ TB := tb_t 408 (by decide +kernel) (by decide +kernel)
theorem wmX5_201 : Cond.methodLink RX5 201 yX1_takeOver ∈ TB := tb_t 417 (by decide +kernel) (by decide +kernel)
theorem wmX5_208 : Cond.methodLink RX5 208 yX1_everybody ∈ TB := tb_t 440 (by decide +kernel) (by decide +kernel)
theorem wmX5_211 : Cond.methodLink RX5 211 yX4_spread ∈ TB := tb_t 441 (by decide +kernel) (by decide +kernel)
theorem wmX5_214 : Cond.methodLink RX5 214 yX5_isSmaller ∈ TB := tb_t 450 (by decide +kernel) (by decide +kernel)
theorem wmX5_217 : Cond.methodLink RX5 217 yX1_setSeat ∈ TB := tb_t 272 (by decide +kernel) (by decide +kernel)
theorem wmX5_221 : Cond.methodLink RX5 221 yX5_laughingAt ∈ TB := tb_t 477 (by decide +kernel) (by decide +kernel)
theorem wmX5_224 : Cond.methodLink RX5 224 yX5_paymentsFinding ∈ TB := tb_t 493 (by decide +kernel) (by decide +kernel)
theorem wmX5_227 : Cond.methodLink RX5 227 yX5_fits ∈ TB := tb_t 506 (by decide +kernel) (by decide +kernel)
theorem wmX5_231 : Cond.methodLink RX5 231 yX5_sheetFinding ∈ TB := tb_t 497 (by decide +kernel) (by decide +kernel)
theorem wmX5_234 : Cond.methodLink RX5 234 yX2_tellsFirst ∈ TB := tb_t 522 (by decide +kernel) (by decide +kernel)
theorem wmX5_238 : Cond.methodLink RX5 238 yX1_drawBelow ∈ TB := tb_t 532 (by decide +kernel) (by decide +kernel)
theorem wmX5_241 : Cond.methodLink RX5 241 yX5_commonDivisor ∈ TB := tb_t 541 (by decide +kernel) (by decide +kernel)
theorem wmX5_244 : Cond.methodLink RX5 244 yX5_power ∈ TB := tb_t 544 (by decide +kernel) (by decide +kernel)
theorem wmX5_254 : Cond.methodLink RX5 254 yX3_put ∈ TB := tb_t 555 (by decide +kernel) (by decide +kernel)
theorem wmX5_258 : Cond.methodLink RX5 258 yX3_readInto ∈ TB := tb_t 567 (by decide +kernel) (by decide +kernel)
theorem wmX5_266 : Cond.methodLink RX5 266 yX0_isA ∈ TB := tb_t 689 (by decide +kernel) (by decide +kernel)
theorem wmX5_271 : Cond.methodLink RX5 271 yX2_begin ∈ TB := tb_t 700 (by decide +kernel) (by decide +kernel)
theorem wmX5_275 : Cond.methodLink RX5 275 yX2_put ∈ TB := tb_t 708 (by decide +kernel) (by decide +kernel)
theorem wmX5_277 : Cond.methodLink RX5 277 yX2_isMissing ∈ TB := tb_t 501 (by decide +kernel) (by decide +kernel)
theorem wmX5_284 : Cond.methodLink RX5 284 yX2_has ∈ TB := tb_t 716 (by decide +kernel) (by decide +kernel)
theorem wmX5_296 : Cond.methodLink RX5 296 yX5_isIn ∈ TB := tb_t 729 (by decide +kernel) (by decide +kernel)
theorem wmX5_302 : Cond.methodLink RX5 302 yX1_spotsHolding ∈ TB := tb_t 746 (by decide +kernel) (by decide +kernel)
theorem wmX5_305 : Cond.methodLink RX5 305 yX2_tells ∈ TB := tb_t 510 (by decide +kernel) (by decide +kernel)
theorem wmX0_15 : Cond.methodLink RX0 15 yJ9_min_7cf53 ∈ TB := tb_t 246 (by decide +kernel) (by decide +kernel)
theorem wmX0_21 : Cond.methodLink RX0 21 yJ9_max_7cf53 ∈ TB := tb_t 318 (by decide +kernel) (by decide +kernel)
theorem wmX1_67 : Cond.methodLink RX1 67 yX1_renewNear ∈ TB := tb_t 228 (by decide +kernel) (by decide +kernel)
theorem wmX1_70 : Cond.methodLink RX1 70 yJ9_abs_0f7a4 ∈ TB := tb_t 232 (by decide +kernel) (by decide +kernel)
theorem wmX1_76 : Cond.methodLink RX1 76 yJ6_bitCount_0f7a4 ∈ TB := tb_t 314 (by decide +kernel) (by decide +kernel)
theorem wmX1_81 : Cond.methodLink RX1 81 yX0_seconds ∈ TB := tb_t 325 (by decide +kernel) (by decide +kernel)
theorem wmX2_22 : Cond.methodLink RX2 22 yJ9_min_7cf53 ∈ TB := tb_t 526 (by decide +kernel) (by decide +kernel)
theorem wmX2_28 : Cond.methodLink RX2 28 yX2_tells ∈ TB := tb_t 527 (by decide +kernel) (by decide +kernel)
theorem wmX3_22 : Cond.methodLink RX3 22 yX3_step ∈ TB := tb_t 571 (by decide +kernel) (by decide +kernel)
theorem wmX3_25 : Cond.methodLink RX3 25 yX3_readItem ∈ TB := tb_t 579 (by decide +kernel) (by decide +kernel)
theorem wmX3_35 : Cond.methodLink RX3 35 yX3_wordOf ∈ TB := tb_t 583 (by decide +kernel) (by decide +kernel)
theorem wmX3_39 : Cond.methodLink RX3 39 yX3_isWord ∈ TB := tb_t 593 (by decide +kernel) (by decide +kernel)
theorem wmX3_43 : Cond.methodLink RX3 43 yX3_readPerson ∈ TB := tb_t 645 (by decide +kernel) (by decide +kernel)
theorem wmX3_49 : Cond.methodLink RX3 49 yX3_readJoke ∈ TB := tb_t 665 (by decide +kernel) (by decide +kernel)
theorem wmX3_54 : Cond.methodLink RX3 54 yX3_readRate ∈ TB := tb_t 671 (by decide +kernel) (by decide +kernel)
theorem wmX3_59 : Cond.methodLink RX3 59 yX3_readReach ∈ TB := tb_t 676 (by decide +kernel) (by decide +kernel)
theorem wmX3_67 : Cond.methodLink RX3 67 yX1_addPerson ∈ TB := tb_t 649 (by decide +kernel) (by decide +kernel)
theorem wmX3_77 : Cond.methodLink RX3 77 yX3_readPart ∈ TB := tb_t 651 (by decide +kernel) (by decide +kernel)
theorem wmX3_84 : Cond.methodLink RX3 84 yX1_setSeat ∈ TB := tb_t 660 (by decide +kernel) (by decide +kernel)
theorem wmX3_103 : Cond.methodLink RX3 103 yX3_readNumber ∈ TB := tb_t 655 (by decide +kernel) (by decide +kernel)
theorem wmX3_107 : Cond.methodLink RX3 107 yX1_addJoke ∈ TB := tb_t 669 (by decide +kernel) (by decide +kernel)
theorem wmX3_112 : Cond.methodLink RX3 112 yX1_setReach ∈ TB := tb_t 680 (by decide +kernel) (by decide +kernel)
theorem wmX3_119 : Cond.methodLinkNest RX3 119 yX5_within "LaughTax" ∈ TB := tb_t 659 (by decide +kernel) (by decide +kernel)
theorem wmX3_123 : Cond.methodLink RX3 123 yJ0_length_8abf5 ∈ TB := tb_t 597 (by decide +kernel) (by decide +kernel)
theorem wmX3_128 : Cond.methodLink RX3 128 yJ0_charAt_5068e ∈ TB := tb_t 607 (by decide +kernel) (by decide +kernel)
theorem wmX3_146 : Cond.methodLink RX3 146 yX3_tokenOf ∈ TB := tb_t 575 (by decide +kernel) (by decide +kernel)
theorem wmX3_150 : Cond.methodLink RX3 150 yJ9_min_7cf53 ∈ TB := tb_t 578 (by decide +kernel) (by decide +kernel)
theorem wmX4_24 : Cond.methodLink RX4 24 yX1_strengthFor ∈ TB := tb_t 344 (by decide +kernel) (by decide +kernel)
theorem wmX4_34 : Cond.methodLink RX4 34 yX0_bound ∈ TB := tb_t 345 (by decide +kernel) (by decide +kernel)
theorem wmX4_46 : Cond.methodLink RX4 46 yX4_startersOf ∈ TB := tb_t 340 (by decide +kernel) (by decide +kernel)
theorem wmX4_50 : Cond.methodLink RX4 50 yX1_everybody ∈ TB := tb_t 346 (by decide +kernel) (by decide +kernel)
theorem wmX4_54 : Cond.methodLink RX4 54 yX4_spread ∈ TB := tb_t 350 (by decide +kernel) (by decide +kernel)
theorem wmX4_60 : Cond.methodLink RX4 60 yX4_noteRound ∈ TB := tb_t 354 (by decide +kernel) (by decide +kernel)
theorem wmX4_64 : Cond.methodLink RX4 64 yX4_catchersFrom ∈ TB := tb_t 361 (by decide +kernel) (by decide +kernel)
theorem wmX4_70 : Cond.methodLink RX4 70 yJ6_bitCount_0f7a4 ∈ TB := tb_t 365 (by decide +kernel) (by decide +kernel)
theorem wmX4_76 : Cond.methodLinkNest RX4 76 yX5_isIn "LaughTax" ∈ TB := tb_t 358 (by decide +kernel) (by decide +kernel)
theorem wmX4_83 : Cond.methodLink RX4 83 yX0_number ∈ TB := tb_t 366 (by decide +kernel) (by decide +kernel)
theorem wmX4_86 : Cond.methodLink RX4 86 yX4_laughersOf ∈ TB := tb_t 336 (by decide +kernel) (by decide +kernel)
theorem wmX4_90 : Cond.methodLink RX4 90 yX1_dueFrom ∈ TB := tb_t 367 (by decide +kernel) (by decide +kernel)
theorem wmX4_93 : Cond.methodLink RX4 93 yX4_collect ∈ TB := tb_t 368 (by decide +kernel) (by decide +kernel)
theorem wmX4_96 : Cond.methodLink RX4 96 yJ9_min_7cf53 ∈ TB := tb_t 373 (by decide +kernel) (by decide +kernel)
theorem wmX4_101 : Cond.methodLink RX4 101 yJ9_max_7cf53 ∈ TB := tb_t 374 (by decide +kernel) (by decide +kernel)
theorem wmX4_112 : Cond.methodLink RX4 112 yX4_perform ∈ TB := tb_t 384 (by decide +kernel) (by decide +kernel)
theorem wmL_9 : Cond.methodLink RL 9 yX5_init ∈ TB := tb_t 17 (by decide +kernel) (by decide +kernel)
theorem wmL_12 : Cond.methodLink RL 12 yX6_init ∈ TB := tb_t 756 (by decide +kernel) (by decide +kernel)
theorem wmL_13 : Cond.methodLink RL 13 yX5_person ∈ TB := tb_t 205 (by decide +kernel) (by decide +kernel)
theorem wmL_17 : Cond.methodLink RL 17 yX6_person ∈ TB := tb_t 815 (by decide +kernel) (by decide +kernel)
theorem wmL_18 : Cond.methodLink RL 18 yX5_of ∈ TB := tb_t 235 (by decide +kernel) (by decide +kernel)
theorem wmL_21 : Cond.methodLink RL 21 yX6_of ∈ TB := tb_t 843 (by decide +kernel) (by decide +kernel)
theorem wmL_22 : Cond.methodLink RL 22 yX5_change ∈ TB := tb_t 258 (by decide +kernel) (by decide +kernel)
theorem wmL_26 : Cond.methodLink RL 26 yX6_change ∈ TB := tb_t 873 (by decide +kernel) (by decide +kernel)
theorem wmL_27 : Cond.methodLink RL 27 yX5_joke ∈ TB := tb_t 276 (by decide +kernel) (by decide +kernel)
theorem wmL_30 : Cond.methodLink RL 30 yX6_joke ∈ TB := tb_t 887 (by decide +kernel) (by decide +kernel)
theorem wmL_31 : Cond.methodLink RL 31 yX5_jokeOf ∈ TB := tb_t 290 (by decide +kernel) (by decide +kernel)
theorem wmL_34 : Cond.methodLink RL 34 yX6_jokeOf ∈ TB := tb_t 901 (by decide +kernel) (by decide +kernel)
theorem wmL_35 : Cond.methodLink RL 35 yX5_law ∈ TB := tb_t 298 (by decide +kernel) (by decide +kernel)
theorem wmL_38 : Cond.methodLink RL 38 yX6_law ∈ TB := tb_t 909 (by decide +kernel) (by decide +kernel)
theorem wmL_39 : Cond.methodLink RL 39 yX5_strength ∈ TB := tb_t 306 (by decide +kernel) (by decide +kernel)
theorem wmL_42 : Cond.methodLink RL 42 yX6_strength ∈ TB := tb_t 914 (by decide +kernel) (by decide +kernel)
theorem wmL_43 : Cond.methodLink RL 43 yX5_tell ∈ TB := tb_t 326 (by decide +kernel) (by decide +kernel)
theorem wmL_47 : Cond.methodLink RL 47 yX6_tell ∈ TB := tb_t 932 (by decide +kernel) (by decide +kernel)
theorem wmL_48 : Cond.methodLink RL 48 yX5_evening ∈ TB := tb_t 376 (by decide +kernel) (by decide +kernel)
theorem wmL_51 : Cond.methodLink RL 51 yX6_evening ∈ TB := tb_t 958 (by decide +kernel) (by decide +kernel)
theorem wmL_52 : Cond.methodLink RL 52 yX5_now ∈ TB := tb_t 385 (by decide +kernel) (by decide +kernel)
theorem wmL_55 : Cond.methodLink RL 55 yX6_now ∈ TB := tb_t 963 (by decide +kernel) (by decide +kernel)
theorem wmL_56 : Cond.methodLink RL 56 yX5_relief ∈ TB := tb_t 393 (by decide +kernel) (by decide +kernel)
theorem wmL_59 : Cond.methodLink RL 59 yX6_relief ∈ TB := tb_t 971 (by decide +kernel) (by decide +kernel)
theorem wmL_60 : Cond.methodLink RL 60 yX5_laugh ∈ TB := tb_t 403 (by decide +kernel) (by decide +kernel)
theorem wmL_63 : Cond.methodLink RL 63 yX6_laugh ∈ TB := tb_t 979 (by decide +kernel) (by decide +kernel)
theorem wmL_64 : Cond.methodLink RL 64 yX5_rounds ∈ TB := tb_t 409 (by decide +kernel) (by decide +kernel)
theorem wmL_67 : Cond.methodLink RL 67 yX6_rounds ∈ TB := tb_t 987 (by decide +kernel) (by decide +kernel)
theorem wmL_68 : Cond.methodLink RL 68 yX5_raised ∈ TB := tb_t 413 (by decide +kernel) (by decide +kernel)
theorem wmL_71 : Cond.methodLink RL 71 yX6_raised ∈ TB := tb_t 991 (by decide +kernel) (by decide +kernel)
theorem wmL_72 : Cond.methodLink RL 72 yX5_ahead ∈ TB := tb_t 424 (by decide +kernel) (by decide +kernel)
theorem wmL_75 : Cond.methodLink RL 75 yX6_ahead ∈ TB := tb_t 1010 (by decide +kernel) (by decide +kernel)
theorem wmL_76 : Cond.methodLink RL 76 yX5_stale ∈ TB := tb_t 428 (by decide +kernel) (by decide +kernel)
theorem wmL_79 : Cond.methodLink RL 79 yX6_stale ∈ TB := tb_t 1014 (by decide +kernel) (by decide +kernel)
theorem wmL_80 : Cond.methodLink RL 80 yX5_broke ∈ TB := tb_t 432 (by decide +kernel) (by decide +kernel)
theorem wmL_83 : Cond.methodLink RL 83 yX6_broke ∈ TB := tb_t 1022 (by decide +kernel) (by decide +kernel)
theorem wmL_84 : Cond.methodLink RL 84 yX5_caught ∈ TB := tb_t 436 (by decide +kernel) (by decide +kernel)
theorem wmL_87 : Cond.methodLink RL 87 yX6_caught ∈ TB := tb_t 1026 (by decide +kernel) (by decide +kernel)
theorem wmL_88 : Cond.methodLink RL 88 yX5_starter ∈ TB := tb_t 442 (by decide +kernel) (by decide +kernel)
theorem wmL_92 : Cond.methodLink RL 92 yX6_starter ∈ TB := tb_t 1030 (by decide +kernel) (by decide +kernel)
theorem wmL_93 : Cond.methodLink RL 93 yX5_fewest ∈ TB := tb_t 446 (by decide +kernel) (by decide +kernel)
theorem wmL_96 : Cond.methodLink RL 96 yX6_fewest ∈ TB := tb_t 1034 (by decide +kernel) (by decide +kernel)
theorem wmL_97 : Cond.methodLink RL 97 yX5_away ∈ TB := tb_t 453 (by decide +kernel) (by decide +kernel)
theorem wmL_100 : Cond.methodLink RL 100 yX6_away ∈ TB := tb_t 1038 (by decide +kernel) (by decide +kernel)
theorem wmL_101 : Cond.methodLink RL 101 yX5_seatFor ∈ TB := tb_t 457 (by decide +kernel) (by decide +kernel)
theorem wmL_104 : Cond.methodLink RL 104 yX6_seatFor ∈ TB := tb_t 1047 (by decide +kernel) (by decide +kernel)
theorem wmL_105 : Cond.methodLink RL 105 yX5_kindFor ∈ TB := tb_t 461 (by decide +kernel) (by decide +kernel)
theorem wmL_108 : Cond.methodLink RL 108 yX6_kindFor ∈ TB := tb_t 1051 (by decide +kernel) (by decide +kernel)
theorem wmL_109 : Cond.methodLink RL 109 yX5_reachFor ∈ TB := tb_t 465 (by decide +kernel) (by decide +kernel)
theorem wmL_112 : Cond.methodLink RL 112 yX6_reachFor ∈ TB := tb_t 1055 (by decide +kernel) (by decide +kernel)
theorem wmL_113 : Cond.methodLink RL 113 yX5_rateFor ∈ TB := tb_t 469 (by decide +kernel) (by decide +kernel)
theorem wmL_116 : Cond.methodLink RL 116 yX6_rateFor ∈ TB := tb_t 1059 (by decide +kernel) (by decide +kernel)
theorem wmL_117 : Cond.methodLink RL 117 yX5_best ∈ TB := tb_t 473 (by decide +kernel) (by decide +kernel)
theorem wmL_120 : Cond.methodLink RL 120 yX6_best ∈ TB := tb_t 1063 (by decide +kernel) (by decide +kernel)
theorem wmL_121 : Cond.methodLink RL 121 yX5_quiet ∈ TB := tb_t 481 (by decide +kernel) (by decide +kernel)
theorem wmL_124 : Cond.methodLink RL 124 yX6_quiet ∈ TB := tb_t 1067 (by decide +kernel) (by decide +kernel)
theorem wmL_125 : Cond.methodLink RL 125 yX5_safe ∈ TB := tb_t 485 (by decide +kernel) (by decide +kernel)
theorem wmL_128 : Cond.methodLink RL 128 yX6_safe ∈ TB := tb_t 1071 (by decide +kernel) (by decide +kernel)
theorem wmL_129 : Cond.methodLink RL 129 yX5_tastes ∈ TB := tb_t 489 (by decide +kernel) (by decide +kernel)
theorem wmL_132 : Cond.methodLink RL 132 yX6_tastes ∈ TB := tb_t 1075 (by decide +kernel) (by decide +kernel)
theorem wmL_133 : Cond.methodLink RL 133 yX5_taste ∈ TB := tb_t 514 (by decide +kernel) (by decide +kernel)
theorem wmL_136 : Cond.methodLink RL 136 yX6_taste ∈ TB := tb_t 1099 (by decide +kernel) (by decide +kernel)
theorem wmL_137 : Cond.methodLink RL 137 yX5_which ∈ TB := tb_t 518 (by decide +kernel) (by decide +kernel)
theorem wmL_140 : Cond.methodLink RL 140 yX6_which ∈ TB := tb_t 1103 (by decide +kernel) (by decide +kernel)
theorem wmL_141 : Cond.methodLink RL 141 yX5_shows ∈ TB := tb_t 528 (by decide +kernel) (by decide +kernel)
theorem wmL_144 : Cond.methodLink RL 144 yX6_shows ∈ TB := tb_t 1107 (by decide +kernel) (by decide +kernel)
theorem wmL_145 : Cond.methodLink RL 145 yX5_odds ∈ TB := tb_t 537 (by decide +kernel) (by decide +kernel)
theorem wmL_149 : Cond.methodLink RL 149 yX6_odds ∈ TB := tb_t 1116 (by decide +kernel) (by decide +kernel)
theorem wmL_150 : Cond.methodLink RL 150 yX5_seed ∈ TB := tb_t 547 (by decide +kernel) (by decide +kernel)
theorem wmL_153 : Cond.methodLink RL 153 yX6_seed ∈ TB := tb_t 1121 (by decide +kernel) (by decide +kernel)
theorem wmL_154 : Cond.methodLink RL 154 yX5_feed ∈ TB := tb_t 551 (by decide +kernel) (by decide +kernel)
theorem wmL_157 : Cond.methodLink RL 157 yX6_feed ∈ TB := tb_t 1125 (by decide +kernel) (by decide +kernel)
theorem wmL_158 : Cond.methodLink RL 158 yX5_wipe ∈ TB := tb_t 559 (by decide +kernel) (by decide +kernel)
theorem wmL_161 : Cond.methodLink RL 161 yX6_wipe ∈ TB := tb_t 1130 (by decide +kernel) (by decide +kernel)
theorem wmL_162 : Cond.methodLink RL 162 yX5_text ∈ TB := tb_t 563 (by decide +kernel) (by decide +kernel)
theorem wmL_165 : Cond.methodLink RL 165 yX6_text ∈ TB := tb_t 1134 (by decide +kernel) (by decide +kernel)
theorem wmL_166 : Cond.methodLink RL 166 yX5_hold ∈ TB := tb_t 681 (by decide +kernel) (by decide +kernel)
theorem wmL_169 : Cond.methodLink RL 169 yX6_hold ∈ TB := tb_t 1199 (by decide +kernel) (by decide +kernel)
theorem wmL_170 : Cond.methodLink RL 170 yX5_as ∈ TB := tb_t 685 (by decide +kernel) (by decide +kernel)
theorem wmL_173 : Cond.methodLink RL 173 yX6_as ∈ TB := tb_t 1206 (by decide +kernel) (by decide +kernel)
theorem wmL_174 : Cond.methodLink RL 174 yX5_sheet ∈ TB := tb_t 695 (by decide +kernel) (by decide +kernel)
theorem wmL_177 : Cond.methodLink RL 177 yX6_sheet ∈ TB := tb_t 1216 (by decide +kernel) (by decide +kernel)
theorem wmL_178 : Cond.methodLink RL 178 yX5_write ∈ TB := tb_t 704 (by decide +kernel) (by decide +kernel)
theorem wmL_181 : Cond.methodLink RL 181 yX6_write ∈ TB := tb_t 1220 (by decide +kernel) (by decide +kernel)
theorem wmL_182 : Cond.methodLink RL 182 yX5_copy ∈ TB := tb_t 712 (by decide +kernel) (by decide +kernel)
theorem wmL_186 : Cond.methodLink RL 186 yX6_copy ∈ TB := tb_t 1224 (by decide +kernel) (by decide +kernel)
theorem wmL_187 : Cond.methodLink RL 187 yX5_load ∈ TB := tb_t 721 (by decide +kernel) (by decide +kernel)
theorem wmL_190 : Cond.methodLink RL 190 yX6_load ∈ TB := tb_t 1228 (by decide +kernel) (by decide +kernel)
theorem wmL_191 : Cond.methodLink RL 191 yX5_judge ∈ TB := tb_t 725 (by decide +kernel) (by decide +kernel)
theorem wmL_194 : Cond.methodLink RL 194 yX6_judge ∈ TB := tb_t 1232 (by decide +kernel) (by decide +kernel)
theorem wmL_195 : Cond.methodLink RL 195 yX5_image ∈ TB := tb_t 730 (by decide +kernel) (by decide +kernel)
theorem wmL_198 : Cond.methodLink RL 198 yX6_image ∈ TB := tb_t 1240 (by decide +kernel) (by decide +kernel)
theorem wmL_199 : Cond.methodLink RL 199 yX5_undo ∈ TB := tb_t 734 (by decide +kernel) (by decide +kernel)
theorem wmL_202 : Cond.methodLink RL 202 yX6_undo ∈ TB := tb_t 1244 (by decide +kernel) (by decide +kernel)
theorem wmL_203 : Cond.methodLink RL 203 yX5_tear ∈ TB := tb_t 738 (by decide +kernel) (by decide +kernel)
theorem wmL_206 : Cond.methodLink RL 206 yX6_tear ∈ TB := tb_t 1248 (by decide +kernel) (by decide +kernel)
theorem wmL_207 : Cond.methodLink RL 207 yX5_count ∈ TB := tb_t 742 (by decide +kernel) (by decide +kernel)
theorem wmL_210 : Cond.methodLink RL 210 yX6_count ∈ TB := tb_t 1252 (by decide +kernel) (by decide +kernel)
theorem wmL_211 : Cond.methodLink RL 211 yX5_status ∈ TB := tb_t 750 (by decide +kernel) (by decide +kernel)
theorem wmL_214 : Cond.methodLink RL 214 yX6_status ∈ TB := tb_t 1260 (by decide +kernel) (by decide +kernel)
theorem wmX6_44 : Cond.methodLink RX6 44 yX6_become ∈ TB := tb_t 999 (by decide +kernel) (by decide +kernel)
theorem wmX6_48 : Cond.methodLink RX6 48 yX6_in ∈ TB := tb_t 823 (by decide +kernel) (by decide +kernel)
theorem wmX6_58 : Cond.methodLink RX6 58 yX6_aboveOf ∈ TB := tb_t 1213 (by decide +kernel) (by decide +kernel)
theorem wmX6_64 : Cond.methodLink RX6 64 yX6_its ∈ TB := tb_t 856 (by decide +kernel) (by decide +kernel)
theorem wmX6_68 : Cond.methodLink RX6 68 yJ9_min_7cf53 ∈ TB := tb_t 860 (by decide +kernel) (by decide +kernel)
theorem wmX6_73 : Cond.methodLink RX6 73 yJ9_abs_0f7a4 ∈ TB := tb_t 869 (by decide +kernel) (by decide +kernel)
theorem wmX6_76 : Cond.methodLink RX6 76 yX6_ones ∈ TB := tb_t 870 (by decide +kernel) (by decide +kernel)
theorem wmX6_79 : Cond.methodLink RX6 79 yX6_strong ∈ TB := tb_t 919 (by decide +kernel) (by decide +kernel)
theorem wmX6_83 : Cond.methodLink RX6 83 yJ9_max_7cf53 ∈ TB := tb_t 927 (by decide +kernel) (by decide +kernel)
theorem wmX6_86 : Cond.methodLink RX6 86 yX6_seconds ∈ TB := tb_t 923 (by decide +kernel) (by decide +kernel)
theorem wmX6_89 : Cond.methodLink RX6 89 yX6_near ∈ TB := tb_t 865 (by decide +kernel) (by decide +kernel)
theorem wmX6_92 : Cond.methodLink RX6 92 yX6_sets ∈ TB := tb_t 839 (by decide +kernel) (by decide +kernel)
theorem wmX6_96 : Cond.methodLink RX6 96 yX6_isKind ∈ TB := tb_t 819 (by decide +kernel) (by decide +kernel)
theorem wmX6_100 : Cond.methodLink RX6 100 yX6_isSeat ∈ TB := tb_t 826 (by decide +kernel) (by decide +kernel)
theorem wmX6_103 : Cond.methodLink RX6 103 yX6_finds ∈ TB := tb_t 830 (by decide +kernel) (by decide +kernel)
theorem wmX6_106 : Cond.methodLink RX6 106 yX6_adds ∈ TB := tb_t 835 (by decide +kernel) (by decide +kernel)
theorem wmX6_109 : Cond.methodLink RX6 109 yX6_isPerson ∈ TB := tb_t 847 (by decide +kernel) (by decide +kernel)
theorem wmX6_114 : Cond.methodLink RX6 114 yX6_bound ∈ TB := tb_t 852 (by decide +kernel) (by decide +kernel)
theorem wmX6_117 : Cond.methodLink RX6 117 yX6_numberOf ∈ TB := tb_t 861 (by decide +kernel) (by decide +kernel)
theorem wmX6_122 : Cond.methodLink RX6 122 yX6_mayBe ∈ TB := tb_t 877 (by decide +kernel) (by decide +kernel)
theorem wmX6_126 : Cond.methodLink RX6 126 yX6_becomes ∈ TB := tb_t 883 (by decide +kernel) (by decide +kernel)
theorem wmX6_129 : Cond.methodLink RX6 129 yX6_isTopics ∈ TB := tb_t 891 (by decide +kernel) (by decide +kernel)
theorem wmX6_132 : Cond.methodLink RX6 132 yX6_isFun ∈ TB := tb_t 894 (by decide +kernel) (by decide +kernel)
theorem wmX6_135 : Cond.methodLink RX6 135 yX6_addsJoke ∈ TB := tb_t 897 (by decide +kernel) (by decide +kernel)
theorem wmX6_138 : Cond.methodLink RX6 138 yX6_isJoke ∈ TB := tb_t 905 (by decide +kernel) (by decide +kernel)
theorem wmX6_145 : Cond.methodLink RX6 145 yX6_due ∈ TB := tb_t 928 (by decide +kernel) (by decide +kernel)
theorem wmX6_152 : Cond.methodLink RX6 152 yX6_byThemselves ∈ TB := tb_t 945 (by decide +kernel) (by decide +kernel)
theorem wmX6_155 : Cond.methodLink RX6 155 yX6_everybody ∈ TB := tb_t 949 (by decide +kernel) (by decide +kernel)
theorem wmX6_159 : Cond.methodLink RX6 159 yX6_caughtFrom ∈ TB := tb_t 953 (by decide +kernel) (by decide +kernel)
theorem wmX6_162 : Cond.methodLink RX6 162 yX6_laughAt ∈ TB := tb_t 941 (by decide +kernel) (by decide +kernel)
theorem wmX6_167 : Cond.methodLink RX6 167 yX6_tells ∈ TB := tb_t 937 (by decide +kernel) (by decide +kernel)
theorem wmX6_172 : Cond.methodLink RX6 172 yX6_sumOf ∈ TB := tb_t 967 (by decide +kernel) (by decide +kernel)
theorem wmX6_175 : Cond.methodLink RX6 175 yX6_poorest ∈ TB := tb_t 975 (by decide +kernel) (by decide +kernel)
theorem wmX6_178 : Cond.methodLink RX6 178 yX6_laughAt_ ∈ TB := tb_t 983 (by decide +kernel) (by decide +kernel)
theorem wmX6_180 : Cond.methodLink RX6 180 yX6_lends ∈ TB := tb_t 995 (by decide +kernel) (by decide +kernel)
theorem wmX6_183 : Cond.methodLink RX6 183 yX6_laysBack ∈ TB := tb_t 1002 (by decide +kernel) (by decide +kernel)
theorem wmX6_186 : Cond.methodLink RX6 186 yX6_allPaid ∈ TB := tb_t 1006 (by decide +kernel) (by decide +kernel)
theorem wmX6_189 : Cond.methodLink RX6 189 yX6_orNone ∈ TB := tb_t 1018 (by decide +kernel) (by decide +kernel)
theorem wmX6_194 : Cond.methodLink RX6 194 yX6_leftWithout ∈ TB := tb_t 1043 (by decide +kernel) (by decide +kernel)
theorem wmX6_200 : Cond.methodLink RX6 200 yX6_paysSo ∈ TB := tb_t 1095 (by decide +kernel) (by decide +kernel)
theorem wmX6_204 : Cond.methodLink RX6 204 yX6_lacks ∈ TB := tb_t 1083 (by decide +kernel) (by decide +kernel)
theorem wmX6_207 : Cond.methodLink RX6 207 yX6_lacksTastes ∈ TB := tb_t 1079 (by decide +kernel) (by decide +kernel)
theorem wmX6_210 : Cond.methodLink RX6 210 yX6_findTastes ∈ TB := tb_t 1091 (by decide +kernel) (by decide +kernel)
theorem wmX6_214 : Cond.methodLink RX6 214 yX6_draw ∈ TB := tb_t 1111 (by decide +kernel) (by decide +kernel)
theorem wmX6_230 : Cond.methodLink RX6 230 yX6_isByte ∈ TB := tb_t 1142 (by decide +kernel) (by decide +kernel)
theorem wmX6_237 : Cond.methodLink RX6 237 yJ0_length_8abf5 ∈ TB := tb_t 1159 (by decide +kernel) (by decide +kernel)
theorem wmX6_242 : Cond.methodLink RX6 242 yJ0_charAt_5068e ∈ TB := tb_t 1160 (by decide +kernel) (by decide +kernel)
theorem wmX6_246 : Cond.methodLink RX6 246 yX6_next ∈ TB := tb_t 1138 (by decide +kernel) (by decide +kernel)
theorem wmX6_249 : Cond.methodLink RX6 249 yX6_isWord ∈ TB := tb_t 1155 (by decide +kernel) (by decide +kernel)
theorem wmX6_253 : Cond.methodLink RX6 253 yX6_must ∈ TB := tb_t 1171 (by decide +kernel) (by decide +kernel)
theorem wmX6_271 : Cond.methodLink RX6 271 yX6_takes ∈ TB := tb_t 1180 (by decide +kernel) (by decide +kernel)
theorem wmX6_274 : Cond.methodLink RX6 274 yX6_numberRead ∈ TB := tb_t 1184 (by decide +kernel) (by decide +kernel)
theorem wmX6_279 : Cond.methodLink RX6 279 yX6_partTold ∈ TB := tb_t 1176 (by decide +kernel) (by decide +kernel)
theorem wmX6_289 : Cond.methodLink RX6 289 yX6_kindHere ∈ TB := tb_t 1150 (by decide +kernel) (by decide +kernel)
theorem wmX6_292 : Cond.methodLink RX6 292 yX6_personTold ∈ TB := tb_t 1167 (by decide +kernel) (by decide +kernel)
theorem wmX6_298 : Cond.methodLink RX6 298 yX6_jokeTold ∈ TB := tb_t 1192 (by decide +kernel) (by decide +kernel)
theorem wmX6_305 : Cond.methodLink RX6 305 yX6_item ∈ TB := tb_t 1146 (by decide +kernel) (by decide +kernel)
theorem wmX6_310 : Cond.methodLink RX6 310 yX6_isSpot ∈ TB := tb_t 1203 (by decide +kernel) (by decide +kernel)
theorem wmX6_313 : Cond.methodLink RX6 313 yX6_isUnder ∈ TB := tb_t 1210 (by decide +kernel) (by decide +kernel)
theorem wmX6_318 : Cond.methodLink RX6 318 yX6_isSheet ∈ TB := tb_t 1087 (by decide +kernel) (by decide +kernel)
theorem wmX6_321 : Cond.methodLink RX6 321 yX6_goesOn ∈ TB := tb_t 1236 (by decide +kernel) (by decide +kernel)
theorem wmX6_327 : Cond.methodLink RX6 327 yX6_held ∈ TB := tb_t 1256 (by decide +kernel) (by decide +kernel)
theorem wmJ0_335 : Cond.methodLink RJ0 335 yJ0_coder_7d493 ∈ TB := tb_t 601 (by decide +kernel) (by decide +kernel)
theorem wmJ0_492 : Cond.methodLink RJ0 492 yJ0_isLatin1_aae02 ∈ TB := tb_t 611 (by decide +kernel) (by decide +kernel)
theorem wmJ0_495 : Cond.methodLink RJ0 495 yJ1_charAt_3b067 ∈ TB := tb_t 615 (by decide +kernel) (by decide +kernel)
theorem wmJ0_498 : Cond.methodLink RJ0 498 yJ2_charAt_3b067 ∈ TB := tb_t 626 (by decide +kernel) (by decide +kernel)
theorem wmJ0_1059 : Cond.methodLink RJ0 1059 yJ3_checkIndex_8e157 ∈ TB := tb_t 623 (by decide +kernel) (by decide +kernel)
theorem wmJ1_9 : Cond.methodLink RJ1 9 yJ0_checkIndex_df160 ∈ TB := tb_t 618 (by decide +kernel) (by decide +kernel)
theorem wmJ2_48 : Cond.methodLink RJ2 48 yJ2_length_9d52b ∈ TB := tb_t 632 (by decide +kernel) (by decide +kernel)
theorem wmJ2_67 : Cond.methodLink RJ2 67 yJ2_checkIndex_2214a ∈ TB := tb_t 629 (by decide +kernel) (by decide +kernel)
theorem wmJ2_71 : Cond.methodLink RJ2 71 yJ2_getChar_3b067 ∈ TB := tb_t 636 (by decide +kernel) (by decide +kernel)
theorem wmJ2_414 : Cond.methodLink RJ2 414 yJ0_checkIndex_df160 ∈ TB := tb_t 635 (by decide +kernel) (by decide +kernel)
theorem cbX5_person : CalB yX5_person cX5_person 3 (some .int) 2 := ⟨tb_t 208 (by decide +kernel) (by decide +kernel), tb_t 1 (by decide +kernel) (by decide +kernel), by decide, by decide, by decide +kernel⟩
theorem cvX5_person : CalV yX5_person cX5_person 3 (some .int) 2 := ⟨cbX5_person, tb_t 206 (by decide +kernel) (by decide +kernel), tb_t 207 (by decide +kernel) (by decide +kernel)⟩
theorem cbX5_isKind : CalB yX5_isKind cX5_isKind 1 (some .boolean) 1 := ⟨tb_t 211 (by decide +kernel) (by decide +kernel), tb_t 1 (by decide +kernel) (by decide +kernel), by decide, by decide, by decide +kernel⟩
theorem csX5_isKind : CalS yX5_isKind cX5_isKind 1 (some .boolean) 1 := ⟨cbX5_isKind, tb_t 210 (by decide +kernel) (by decide +kernel)⟩
theorem cbX5_within : CalB yX5_within cX5_within 3 (some .boolean) 3 := ⟨tb_t 214 (by decide +kernel) (by decide +kernel), tb_t 1 (by decide +kernel) (by decide +kernel), by decide, by decide, by decide +kernel⟩
theorem csX5_within : CalS yX5_within cX5_within 3 (some .boolean) 3 := ⟨cbX5_within, tb_t 213 (by decide +kernel) (by decide +kernel)⟩
theorem cbX5_isSeat : CalB yX5_isSeat cX5_isSeat 1 (some .boolean) 1 := ⟨tb_t 217 (by decide +kernel) (by decide +kernel), tb_t 1 (by decide +kernel) (by decide +kernel), by decide, by decide, by decide +kernel⟩
theorem csX5_isSeat : CalS yX5_isSeat cX5_isSeat 1 (some .boolean) 1 := ⟨cbX5_isSeat, tb_t 216 (by decide +kernel) (by decide +kernel)⟩
theorem cbX5_found : CalB yX5_found cX5_found 3 (some .int) 1 := ⟨tb_t 222 (by decide +kernel) (by decide +kernel), tb_t 1 (by decide +kernel) (by decide +kernel), by decide, by decide, by decide +kernel⟩
theorem cvX5_found : CalV yX5_found cX5_found 3 (some .int) 1 := ⟨cbX5_found, tb_t 221 (by decide +kernel) (by decide +kernel), tb_s 0 (by decide +kernel) (by decide +kernel)⟩
theorem cbX1_addPerson : CalB yX1_addPerson cX1_addPerson 4 (some .int) 2 := ⟨tb_t 227 (by decide +kernel) (by decide +kernel), tb_t 2 (by decide +kernel) (by decide +kernel), by decide, by decide, by decide +kernel⟩
theorem cvX1_addPerson : CalV yX1_addPerson cX1_addPerson 4 (some .int) 2 := ⟨cbX1_addPerson, tb_t 225 (by decide +kernel) (by decide +kernel), tb_t 226 (by decide +kernel) (by decide +kernel)⟩
theorem cbX1_renewNear : CalB yX1_renewNear cX1_renewNear 4 none 0 := ⟨tb_t 231 (by decide +kernel) (by decide +kernel), tb_t 2 (by decide +kernel) (by decide +kernel), by decide, by decide, by decide +kernel⟩
theorem cvX1_renewNear : CalV yX1_renewNear cX1_renewNear 4 none 0 := ⟨cbX1_renewNear, tb_t 230 (by decide +kernel) (by decide +kernel), tb_s 1 (by decide +kernel) (by decide +kernel)⟩
theorem cbJ9_abs_0f7a4 : CalB yJ9_abs_0f7a4 cJ9_abs_0f7a4 1 (some .int) 1 := ⟨tb_t 234 (by decide +kernel) (by decide +kernel), tb_t 7 (by decide +kernel) (by decide +kernel), by decide, by decide, by decide +kernel⟩
theorem csJ9_abs_0f7a4 : CalS yJ9_abs_0f7a4 cJ9_abs_0f7a4 1 (some .int) 1 := ⟨cbJ9_abs_0f7a4, tb_t 233 (by decide +kernel) (by decide +kernel)⟩
theorem cbX5_of : CalB yX5_of cX5_of 3 (some .int) 2 := ⟨tb_t 238 (by decide +kernel) (by decide +kernel), tb_t 1 (by decide +kernel) (by decide +kernel), by decide, by decide, by decide +kernel⟩
theorem cvX5_of : CalV yX5_of cX5_of 3 (some .int) 2 := ⟨cbX5_of, tb_t 236 (by decide +kernel) (by decide +kernel), tb_t 237 (by decide +kernel) (by decide +kernel)⟩
theorem cbX5_hasPerson : CalB yX5_hasPerson cX5_hasPerson 2 (some .boolean) 1 := ⟨tb_t 242 (by decide +kernel) (by decide +kernel), tb_t 1 (by decide +kernel) (by decide +kernel), by decide, by decide, by decide +kernel⟩
theorem cvX5_hasPerson : CalV yX5_hasPerson cX5_hasPerson 2 (some .boolean) 1 := ⟨cbX5_hasPerson, tb_t 241 (by decide +kernel) (by decide +kernel), tb_s 2 (by decide +kernel) (by decide +kernel)⟩
theorem cbX0_bound : CalB yX0_bound cX0_bound 3 (some .int) 2 := ⟨tb_t 245 (by decide +kernel) (by decide +kernel), tb_t 8 (by decide +kernel) (by decide +kernel), by decide, by decide, by decide +kernel⟩
theorem csX0_bound : CalS yX0_bound cX0_bound 3 (some .int) 2 := ⟨cbX0_bound, tb_t 244 (by decide +kernel) (by decide +kernel)⟩
theorem cbJ9_min_7cf53 : CalB yJ9_min_7cf53 cJ9_min_7cf53 2 (some .int) 2 := ⟨tb_t 248 (by decide +kernel) (by decide +kernel), tb_t 7 (by decide +kernel) (by decide +kernel), by decide, by decide, by decide +kernel⟩
theorem csJ9_min_7cf53 : CalS yJ9_min_7cf53 cJ9_min_7cf53 2 (some .int) 2 := ⟨cbJ9_min_7cf53, tb_t 247 (by decide +kernel) (by decide +kernel)⟩
theorem cbX0_number : CalB yX0_number cX0_number 2 (some .int) 2 := ⟨tb_t 251 (by decide +kernel) (by decide +kernel), tb_t 8 (by decide +kernel) (by decide +kernel), by decide, by decide, by decide +kernel⟩
theorem csX0_number : CalS yX0_number cX0_number 2 (some .int) 2 := ⟨cbX0_number, tb_t 250 (by decide +kernel) (by decide +kernel)⟩
theorem cbJ6_bitCount_0f7a4 : CalB yJ6_bitCount_0f7a4 cJ6_bitCount_0f7a4 1 (some .int) 1 := ⟨tb_t 254 (by decide +kernel) (by decide +kernel), tb_t 9 (by decide +kernel) (by decide +kernel), by decide, by decide, by decide +kernel⟩
theorem csJ6_bitCount_0f7a4 : CalS yJ6_bitCount_0f7a4 cJ6_bitCount_0f7a4 1 (some .int) 1 := ⟨cbJ6_bitCount_0f7a4, tb_t 253 (by decide +kernel) (by decide +kernel)⟩
theorem cbX5_change : CalB yX5_change cX5_change 4 (some .int) 3 := ⟨tb_t 261 (by decide +kernel) (by decide +kernel), tb_t 1 (by decide +kernel) (by decide +kernel), by decide, by decide, by decide +kernel⟩
theorem cvX5_change : CalV yX5_change cX5_change 4 (some .int) 3 := ⟨cbX5_change, tb_t 259 (by decide +kernel) (by decide +kernel), tb_t 260 (by decide +kernel) (by decide +kernel)⟩
theorem cbX5_canBecome : CalB yX5_canBecome cX5_canBecome 2 (some .boolean) 2 := ⟨tb_t 264 (by decide +kernel) (by decide +kernel), tb_t 1 (by decide +kernel) (by decide +kernel), by decide, by decide, by decide +kernel⟩
theorem csX5_canBecome : CalS yX5_canBecome cX5_canBecome 2 (some .boolean) 2 := ⟨cbX5_canBecome, tb_t 263 (by decide +kernel) (by decide +kernel)⟩
theorem cbX5_replace : CalB yX5_replace cX5_replace 4 (some .int) 3 := ⟨tb_t 267 (by decide +kernel) (by decide +kernel), tb_t 1 (by decide +kernel) (by decide +kernel), by decide, by decide, by decide +kernel⟩
theorem csX5_replace : CalS yX5_replace cX5_replace 4 (some .int) 3 := ⟨cbX5_replace, tb_t 266 (by decide +kernel) (by decide +kernel)⟩
theorem cbX5_moveTo : CalB yX5_moveTo cX5_moveTo 4 (some .int) 2 := ⟨tb_t 271 (by decide +kernel) (by decide +kernel), tb_t 1 (by decide +kernel) (by decide +kernel), by decide, by decide, by decide +kernel⟩
theorem cvX5_moveTo : CalV yX5_moveTo cX5_moveTo 4 (some .int) 2 := ⟨cbX5_moveTo, tb_t 270 (by decide +kernel) (by decide +kernel), tb_s 3 (by decide +kernel) (by decide +kernel)⟩
theorem cbX1_setSeat : CalB yX1_setSeat cX1_setSeat 3 none 2 := ⟨tb_t 275 (by decide +kernel) (by decide +kernel), tb_t 2 (by decide +kernel) (by decide +kernel), by decide, by decide, by decide +kernel⟩
theorem cvX1_setSeat : CalV yX1_setSeat cX1_setSeat 3 none 2 := ⟨cbX1_setSeat, tb_t 273 (by decide +kernel) (by decide +kernel), tb_t 274 (by decide +kernel) (by decide +kernel)⟩
theorem cbX5_joke : CalB yX5_joke cX5_joke 3 (some .int) 2 := ⟨tb_t 279 (by decide +kernel) (by decide +kernel), tb_t 1 (by decide +kernel) (by decide +kernel), by decide, by decide, by decide +kernel⟩
theorem cvX5_joke : CalV yX5_joke cX5_joke 3 (some .int) 2 := ⟨cbX5_joke, tb_t 277 (by decide +kernel) (by decide +kernel), tb_t 278 (by decide +kernel) (by decide +kernel)⟩
theorem cbX5_isTopics : CalB yX5_isTopics cX5_isTopics 1 (some .boolean) 1 := ⟨tb_t 282 (by decide +kernel) (by decide +kernel), tb_t 1 (by decide +kernel) (by decide +kernel), by decide, by decide, by decide +kernel⟩
theorem csX5_isTopics : CalS yX5_isTopics cX5_isTopics 1 (some .boolean) 1 := ⟨cbX5_isTopics, tb_t 281 (by decide +kernel) (by decide +kernel)⟩
theorem cbX5_isFun : CalB yX5_isFun cX5_isFun 1 (some .boolean) 1 := ⟨tb_t 285 (by decide +kernel) (by decide +kernel), tb_t 1 (by decide +kernel) (by decide +kernel), by decide, by decide, by decide +kernel⟩
theorem csX5_isFun : CalS yX5_isFun cX5_isFun 1 (some .boolean) 1 := ⟨cbX5_isFun, tb_t 284 (by decide +kernel) (by decide +kernel)⟩
theorem cbX1_addJoke : CalB yX1_addJoke cX1_addJoke 4 (some .int) 2 := ⟨tb_t 289 (by decide +kernel) (by decide +kernel), tb_t 2 (by decide +kernel) (by decide +kernel), by decide, by decide, by decide +kernel⟩
theorem cvX1_addJoke : CalV yX1_addJoke cX1_addJoke 4 (some .int) 2 := ⟨cbX1_addJoke, tb_t 287 (by decide +kernel) (by decide +kernel), tb_t 288 (by decide +kernel) (by decide +kernel)⟩
theorem cbX5_jokeOf : CalB yX5_jokeOf cX5_jokeOf 3 (some .int) 2 := ⟨tb_t 293 (by decide +kernel) (by decide +kernel), tb_t 1 (by decide +kernel) (by decide +kernel), by decide, by decide, by decide +kernel⟩
theorem cvX5_jokeOf : CalV yX5_jokeOf cX5_jokeOf 3 (some .int) 2 := ⟨cbX5_jokeOf, tb_t 291 (by decide +kernel) (by decide +kernel), tb_t 292 (by decide +kernel) (by decide +kernel)⟩
theorem cbX5_hasJoke : CalB yX5_hasJoke cX5_hasJoke 2 (some .boolean) 1 := ⟨tb_t 297 (by decide +kernel) (by decide +kernel), tb_t 1 (by decide +kernel) (by decide +kernel), by decide, by decide, by decide +kernel⟩
theorem cvX5_hasJoke : CalV yX5_hasJoke cX5_hasJoke 2 (some .boolean) 1 := ⟨cbX5_hasJoke, tb_t 296 (by decide +kernel) (by decide +kernel), tb_s 4 (by decide +kernel) (by decide +kernel)⟩
theorem cbX5_law : CalB yX5_law cX5_law 5 (some .int) 2 := ⟨tb_t 301 (by decide +kernel) (by decide +kernel), tb_t 1 (by decide +kernel) (by decide +kernel), by decide, by decide, by decide +kernel⟩
theorem cvX5_law : CalV yX5_law cX5_law 5 (some .int) 2 := ⟨cbX5_law, tb_t 299 (by decide +kernel) (by decide +kernel), tb_t 300 (by decide +kernel) (by decide +kernel)⟩
theorem cbX1_setReach : CalB yX1_setReach cX1_setReach 2 none 1 := ⟨tb_t 305 (by decide +kernel) (by decide +kernel), tb_t 2 (by decide +kernel) (by decide +kernel), by decide, by decide, by decide +kernel⟩
theorem cvX1_setReach : CalV yX1_setReach cX1_setReach 2 none 1 := ⟨cbX1_setReach, tb_t 303 (by decide +kernel) (by decide +kernel), tb_t 304 (by decide +kernel) (by decide +kernel)⟩
theorem cbX5_strength : CalB yX5_strength cX5_strength 5 (some .int) 3 := ⟨tb_t 309 (by decide +kernel) (by decide +kernel), tb_t 1 (by decide +kernel) (by decide +kernel), by decide, by decide, by decide +kernel⟩
theorem cvX5_strength : CalV yX5_strength cX5_strength 5 (some .int) 3 := ⟨cbX5_strength, tb_t 307 (by decide +kernel) (by decide +kernel), tb_t 308 (by decide +kernel) (by decide +kernel)⟩
theorem cbX1_strengthFor : CalB yX1_strengthFor cX1_strengthFor 4 (some .int) 3 := ⟨tb_t 313 (by decide +kernel) (by decide +kernel), tb_t 2 (by decide +kernel) (by decide +kernel), by decide, by decide, by decide +kernel⟩
theorem cvX1_strengthFor : CalV yX1_strengthFor cX1_strengthFor 4 (some .int) 3 := ⟨cbX1_strengthFor, tb_t 311 (by decide +kernel) (by decide +kernel), tb_t 312 (by decide +kernel) (by decide +kernel)⟩
theorem cbX0_seconds : CalB yX0_seconds cX0_seconds 3 (some .int) 2 := ⟨tb_t 317 (by decide +kernel) (by decide +kernel), tb_t 8 (by decide +kernel) (by decide +kernel), by decide, by decide, by decide +kernel⟩
theorem csX0_seconds : CalS yX0_seconds cX0_seconds 3 (some .int) 2 := ⟨cbX0_seconds, tb_t 316 (by decide +kernel) (by decide +kernel)⟩
theorem cbJ9_max_7cf53 : CalB yJ9_max_7cf53 cJ9_max_7cf53 2 (some .int) 2 := ⟨tb_t 320 (by decide +kernel) (by decide +kernel), tb_t 7 (by decide +kernel) (by decide +kernel), by decide, by decide, by decide +kernel⟩
theorem csJ9_max_7cf53 : CalS yJ9_max_7cf53 cJ9_max_7cf53 2 (some .int) 2 := ⟨cbJ9_max_7cf53, tb_t 319 (by decide +kernel) (by decide +kernel)⟩
theorem cbX1_dueFrom : CalB yX1_dueFrom cX1_dueFrom 3 (some .int) 2 := ⟨tb_t 324 (by decide +kernel) (by decide +kernel), tb_t 2 (by decide +kernel) (by decide +kernel), by decide, by decide, by decide +kernel⟩
theorem cvX1_dueFrom : CalV yX1_dueFrom cX1_dueFrom 3 (some .int) 2 := ⟨cbX1_dueFrom, tb_t 322 (by decide +kernel) (by decide +kernel), tb_t 323 (by decide +kernel) (by decide +kernel)⟩
theorem cbX5_tell : CalB yX5_tell cX5_tell 2 (some .int) 1 := ⟨tb_t 329 (by decide +kernel) (by decide +kernel), tb_t 1 (by decide +kernel) (by decide +kernel), by decide, by decide, by decide +kernel⟩
theorem cvX5_tell : CalV yX5_tell cX5_tell 2 (some .int) 1 := ⟨cbX5_tell, tb_t 327 (by decide +kernel) (by decide +kernel), tb_t 328 (by decide +kernel) (by decide +kernel)⟩
theorem cbX4_perform : CalB yX4_perform cX4_perform 6 (some .int) 2 := ⟨tb_t 335 (by decide +kernel) (by decide +kernel), tb_t 3 (by decide +kernel) (by decide +kernel), by decide, by decide, by decide +kernel⟩
theorem cvX4_perform : CalV yX4_perform cX4_perform 6 (some .int) 2 := ⟨cbX4_perform, tb_t 333 (by decide +kernel) (by decide +kernel), tb_t 334 (by decide +kernel) (by decide +kernel)⟩
theorem cbX4_laughersOf : CalB yX4_laughersOf cX4_laughersOf 4 (some .int) 2 := ⟨tb_t 339 (by decide +kernel) (by decide +kernel), tb_t 3 (by decide +kernel) (by decide +kernel), by decide, by decide, by decide +kernel⟩
theorem cvX4_laughersOf : CalV yX4_laughersOf cX4_laughersOf 4 (some .int) 2 := ⟨cbX4_laughersOf, tb_t 337 (by decide +kernel) (by decide +kernel), tb_t 338 (by decide +kernel) (by decide +kernel)⟩
theorem cbX4_startersOf : CalB yX4_startersOf cX4_startersOf 6 (some .int) 3 := ⟨tb_t 343 (by decide +kernel) (by decide +kernel), tb_t 3 (by decide +kernel) (by decide +kernel), by decide, by decide, by decide +kernel⟩
theorem cvX4_startersOf : CalV yX4_startersOf cX4_startersOf 6 (some .int) 3 := ⟨cbX4_startersOf, tb_t 341 (by decide +kernel) (by decide +kernel), tb_t 342 (by decide +kernel) (by decide +kernel)⟩
theorem cbX1_everybody : CalB yX1_everybody cX1_everybody 1 (some .int) 0 := ⟨tb_t 349 (by decide +kernel) (by decide +kernel), tb_t 2 (by decide +kernel) (by decide +kernel), by decide, by decide, by decide +kernel⟩
theorem cvX1_everybody : CalV yX1_everybody cX1_everybody 1 (some .int) 0 := ⟨cbX1_everybody, tb_t 347 (by decide +kernel) (by decide +kernel), tb_t 348 (by decide +kernel) (by decide +kernel)⟩
theorem cbX4_spread : CalB yX4_spread cX4_spread 7 (some .int) 3 := ⟨tb_t 353 (by decide +kernel) (by decide +kernel), tb_t 3 (by decide +kernel) (by decide +kernel), by decide, by decide, by decide +kernel⟩
theorem cvX4_spread : CalV yX4_spread cX4_spread 7 (some .int) 3 := ⟨cbX4_spread, tb_t 351 (by decide +kernel) (by decide +kernel), tb_t 352 (by decide +kernel) (by decide +kernel)⟩
theorem cbX4_noteRound : CalB yX4_noteRound cX4_noteRound 4 none 2 := ⟨tb_t 357 (by decide +kernel) (by decide +kernel), tb_t 3 (by decide +kernel) (by decide +kernel), by decide, by decide, by decide +kernel⟩
theorem cvX4_noteRound : CalV yX4_noteRound cX4_noteRound 4 none 2 := ⟨cbX4_noteRound, tb_t 356 (by decide +kernel) (by decide +kernel), tb_s 5 (by decide +kernel) (by decide +kernel)⟩
theorem cbX5_isIn : CalB yX5_isIn cX5_isIn 2 (some .boolean) 2 := ⟨tb_t 360 (by decide +kernel) (by decide +kernel), tb_t 1 (by decide +kernel) (by decide +kernel), by decide, by decide, by decide +kernel⟩
theorem csX5_isIn : CalS yX5_isIn cX5_isIn 2 (some .boolean) 2 := ⟨cbX5_isIn, tb_t 359 (by decide +kernel) (by decide +kernel)⟩
theorem cbX4_catchersFrom : CalB yX4_catchersFrom cX4_catchersFrom 7 (some .int) 3 := ⟨tb_t 364 (by decide +kernel) (by decide +kernel), tb_t 3 (by decide +kernel) (by decide +kernel), by decide, by decide, by decide +kernel⟩
theorem cvX4_catchersFrom : CalV yX4_catchersFrom cX4_catchersFrom 7 (some .int) 3 := ⟨cbX4_catchersFrom, tb_t 363 (by decide +kernel) (by decide +kernel), tb_s 6 (by decide +kernel) (by decide +kernel)⟩
theorem cbX4_collect : CalB yX4_collect cX4_collect 5 (some .int) 3 := ⟨tb_t 371 (by decide +kernel) (by decide +kernel), tb_t 3 (by decide +kernel) (by decide +kernel), by decide, by decide, by decide +kernel⟩
theorem cvX4_collect : CalV yX4_collect cX4_collect 5 (some .int) 3 := ⟨cbX4_collect, tb_t 370 (by decide +kernel) (by decide +kernel), tb_s 7 (by decide +kernel) (by decide +kernel)⟩
theorem cbX5_evening : CalB yX5_evening cX5_evening 3 (some .int) 2 := ⟨tb_t 379 (by decide +kernel) (by decide +kernel), tb_t 1 (by decide +kernel) (by decide +kernel), by decide, by decide, by decide +kernel⟩
theorem cvX5_evening : CalV yX5_evening cX5_evening 3 (some .int) 2 := ⟨cbX5_evening, tb_t 377 (by decide +kernel) (by decide +kernel), tb_t 378 (by decide +kernel) (by decide +kernel)⟩
theorem cbX4_performOften : CalB yX4_performOften cX4_performOften 5 (some .int) 3 := ⟨tb_t 383 (by decide +kernel) (by decide +kernel), tb_t 3 (by decide +kernel) (by decide +kernel), by decide, by decide, by decide +kernel⟩
theorem cvX4_performOften : CalV yX4_performOften cX4_performOften 5 (some .int) 3 := ⟨cbX4_performOften, tb_t 381 (by decide +kernel) (by decide +kernel), tb_t 382 (by decide +kernel) (by decide +kernel)⟩
theorem cbX5_now : CalB yX5_now cX5_now 2 (some .int) 1 := ⟨tb_t 388 (by decide +kernel) (by decide +kernel), tb_t 1 (by decide +kernel) (by decide +kernel), by decide, by decide, by decide +kernel⟩
theorem cvX5_now : CalV yX5_now cX5_now 2 (some .int) 1 := ⟨cbX5_now, tb_t 386 (by decide +kernel) (by decide +kernel), tb_t 387 (by decide +kernel) (by decide +kernel)⟩
theorem cbX1_together : CalB yX1_together cX1_together 4 (some .int) 1 := ⟨tb_t 392 (by decide +kernel) (by decide +kernel), tb_t 2 (by decide +kernel) (by decide +kernel), by decide, by decide, by decide +kernel⟩
theorem cvX1_together : CalV yX1_together cX1_together 4 (some .int) 1 := ⟨cbX1_together, tb_t 390 (by decide +kernel) (by decide +kernel), tb_t 391 (by decide +kernel) (by decide +kernel)⟩
theorem cbX5_relief : CalB yX5_relief cX5_relief 5 (some .int) 1 := ⟨tb_t 396 (by decide +kernel) (by decide +kernel), tb_t 1 (by decide +kernel) (by decide +kernel), by decide, by decide, by decide +kernel⟩
theorem cvX5_relief : CalV yX5_relief cX5_relief 5 (some .int) 1 := ⟨cbX5_relief, tb_t 394 (by decide +kernel) (by decide +kernel), tb_t 395 (by decide +kernel) (by decide +kernel)⟩
theorem cbX1_poorest : CalB yX1_poorest cX1_poorest 3 (some .int) 0 := ⟨tb_t 402 (by decide +kernel) (by decide +kernel), tb_t 2 (by decide +kernel) (by decide +kernel), by decide, by decide, by decide +kernel⟩
theorem cvX1_poorest : CalV yX1_poorest cX1_poorest 3 (some .int) 0 := ⟨cbX1_poorest, tb_t 400 (by decide +kernel) (by decide +kernel), tb_t 401 (by decide +kernel) (by decide +kernel)⟩
theorem cbX5_laugh : CalB yX5_laugh cX5_laugh 3 (some .int) 2 := ⟨tb_t 406 (by decide +kernel) (by decide +kernel), tb_t 1 (by decide +kernel) (by decide +kernel), by decide, by decide, by decide +kernel⟩
theorem cvX5_laugh : CalV yX5_laugh cX5_laugh 3 (some .int) 2 := ⟨cbX5_laugh, tb_t 404 (by decide +kernel) (by decide +kernel), tb_t 405 (by decide +kernel) (by decide +kernel)⟩
theorem cbX5_rounds : CalB yX5_rounds cX5_rounds 2 (some .int) 1 := ⟨tb_t 412 (by decide +kernel) (by decide +kernel), tb_t 1 (by decide +kernel) (by decide +kernel), by decide, by decide, by decide +kernel⟩
theorem cvX5_rounds : CalV yX5_rounds cX5_rounds 2 (some .int) 1 := ⟨cbX5_rounds, tb_t 410 (by decide +kernel) (by decide +kernel), tb_t 411 (by decide +kernel) (by decide +kernel)⟩
theorem cbX5_raised : CalB yX5_raised cX5_raised 2 (some .int) 1 := ⟨tb_t 416 (by decide +kernel) (by decide +kernel), tb_t 1 (by decide +kernel) (by decide +kernel), by decide, by decide, by decide +kernel⟩
theorem cvX5_raised : CalV yX5_raised cX5_raised 2 (some .int) 1 := ⟨cbX5_raised, tb_t 414 (by decide +kernel) (by decide +kernel), tb_t 415 (by decide +kernel) (by decide +kernel)⟩
theorem cbX1_takeOver : CalB yX1_takeOver cX1_takeOver 2 none 1 := ⟨tb_t 420 (by decide +kernel) (by decide +kernel), tb_t 2 (by decide +kernel) (by decide +kernel), by decide, by decide, by decide +kernel⟩
theorem cvX1_takeOver : CalV yX1_takeOver cX1_takeOver 2 none 1 := ⟨cbX1_takeOver, tb_t 418 (by decide +kernel) (by decide +kernel), tb_t 419 (by decide +kernel) (by decide +kernel)⟩
theorem cbX5_ahead : CalB yX5_ahead cX5_ahead 3 (some .int) 2 := ⟨tb_t 427 (by decide +kernel) (by decide +kernel), tb_t 1 (by decide +kernel) (by decide +kernel), by decide, by decide, by decide +kernel⟩
theorem cvX5_ahead : CalV yX5_ahead cX5_ahead 3 (some .int) 2 := ⟨cbX5_ahead, tb_t 425 (by decide +kernel) (by decide +kernel), tb_t 426 (by decide +kernel) (by decide +kernel)⟩
theorem cbX5_stale : CalB yX5_stale cX5_stale 3 (some .int) 1 := ⟨tb_t 431 (by decide +kernel) (by decide +kernel), tb_t 1 (by decide +kernel) (by decide +kernel), by decide, by decide, by decide +kernel⟩
theorem cvX5_stale : CalV yX5_stale cX5_stale 3 (some .int) 1 := ⟨cbX5_stale, tb_t 429 (by decide +kernel) (by decide +kernel), tb_t 430 (by decide +kernel) (by decide +kernel)⟩
theorem cbX5_broke : CalB yX5_broke cX5_broke 4 (some .int) 2 := ⟨tb_t 435 (by decide +kernel) (by decide +kernel), tb_t 1 (by decide +kernel) (by decide +kernel), by decide, by decide, by decide +kernel⟩
theorem cvX5_broke : CalV yX5_broke cX5_broke 4 (some .int) 2 := ⟨cbX5_broke, tb_t 433 (by decide +kernel) (by decide +kernel), tb_t 434 (by decide +kernel) (by decide +kernel)⟩
theorem cbX5_caught : CalB yX5_caught cX5_caught 2 (some .int) 1 := ⟨tb_t 439 (by decide +kernel) (by decide +kernel), tb_t 1 (by decide +kernel) (by decide +kernel), by decide, by decide, by decide +kernel⟩
theorem cvX5_caught : CalV yX5_caught cX5_caught 2 (some .int) 1 := ⟨cbX5_caught, tb_t 437 (by decide +kernel) (by decide +kernel), tb_t 438 (by decide +kernel) (by decide +kernel)⟩
theorem cbX5_starter : CalB yX5_starter cX5_starter 5 (some .int) 0 := ⟨tb_t 445 (by decide +kernel) (by decide +kernel), tb_t 1 (by decide +kernel) (by decide +kernel), by decide, by decide, by decide +kernel⟩
theorem cvX5_starter : CalV yX5_starter cX5_starter 5 (some .int) 0 := ⟨cbX5_starter, tb_t 443 (by decide +kernel) (by decide +kernel), tb_t 444 (by decide +kernel) (by decide +kernel)⟩
theorem cbX5_fewest : CalB yX5_fewest cX5_fewest 4 (some .int) 0 := ⟨tb_t 449 (by decide +kernel) (by decide +kernel), tb_t 1 (by decide +kernel) (by decide +kernel), by decide, by decide, by decide +kernel⟩
theorem cvX5_fewest : CalV yX5_fewest cX5_fewest 4 (some .int) 0 := ⟨cbX5_fewest, tb_t 447 (by decide +kernel) (by decide +kernel), tb_t 448 (by decide +kernel) (by decide +kernel)⟩
theorem cbX5_isSmaller : CalB yX5_isSmaller cX5_isSmaller 2 (some .boolean) 2 := ⟨tb_t 452 (by decide +kernel) (by decide +kernel), tb_t 1 (by decide +kernel) (by decide +kernel), by decide, by decide, by decide +kernel⟩
theorem csX5_isSmaller : CalS yX5_isSmaller cX5_isSmaller 2 (some .boolean) 2 := ⟨cbX5_isSmaller, tb_t 451 (by decide +kernel) (by decide +kernel)⟩
theorem cbX5_away : CalB yX5_away cX5_away 7 (some .int) 2 := ⟨tb_t 456 (by decide +kernel) (by decide +kernel), tb_t 1 (by decide +kernel) (by decide +kernel), by decide, by decide, by decide +kernel⟩
theorem cvX5_away : CalV yX5_away cX5_away 7 (some .int) 2 := ⟨cbX5_away, tb_t 454 (by decide +kernel) (by decide +kernel), tb_t 455 (by decide +kernel) (by decide +kernel)⟩
theorem cbX5_seatFor : CalB yX5_seatFor cX5_seatFor 7 (some .int) 2 := ⟨tb_t 460 (by decide +kernel) (by decide +kernel), tb_t 1 (by decide +kernel) (by decide +kernel), by decide, by decide, by decide +kernel⟩
theorem cvX5_seatFor : CalV yX5_seatFor cX5_seatFor 7 (some .int) 2 := ⟨cbX5_seatFor, tb_t 458 (by decide +kernel) (by decide +kernel), tb_t 459 (by decide +kernel) (by decide +kernel)⟩
theorem cbX5_kindFor : CalB yX5_kindFor cX5_kindFor 7 (some .int) 2 := ⟨tb_t 464 (by decide +kernel) (by decide +kernel), tb_t 1 (by decide +kernel) (by decide +kernel), by decide, by decide, by decide +kernel⟩
theorem cvX5_kindFor : CalV yX5_kindFor cX5_kindFor 7 (some .int) 2 := ⟨cbX5_kindFor, tb_t 462 (by decide +kernel) (by decide +kernel), tb_t 463 (by decide +kernel) (by decide +kernel)⟩
theorem cbX5_reachFor : CalB yX5_reachFor cX5_reachFor 3 (some .int) 1 := ⟨tb_t 468 (by decide +kernel) (by decide +kernel), tb_t 1 (by decide +kernel) (by decide +kernel), by decide, by decide, by decide +kernel⟩
theorem cvX5_reachFor : CalV yX5_reachFor cX5_reachFor 3 (some .int) 1 := ⟨cbX5_reachFor, tb_t 466 (by decide +kernel) (by decide +kernel), tb_t 467 (by decide +kernel) (by decide +kernel)⟩
theorem cbX5_rateFor : CalB yX5_rateFor cX5_rateFor 7 (some .int) 2 := ⟨tb_t 472 (by decide +kernel) (by decide +kernel), tb_t 1 (by decide +kernel) (by decide +kernel), by decide, by decide, by decide +kernel⟩
theorem cvX5_rateFor : CalV yX5_rateFor cX5_rateFor 7 (some .int) 2 := ⟨cbX5_rateFor, tb_t 470 (by decide +kernel) (by decide +kernel), tb_t 471 (by decide +kernel) (by decide +kernel)⟩
theorem cbX5_best : CalB yX5_best cX5_best 6 (some .int) 1 := ⟨tb_t 476 (by decide +kernel) (by decide +kernel), tb_t 1 (by decide +kernel) (by decide +kernel), by decide, by decide, by decide +kernel⟩
theorem cvX5_best : CalV yX5_best cX5_best 6 (some .int) 1 := ⟨cbX5_best, tb_t 474 (by decide +kernel) (by decide +kernel), tb_t 475 (by decide +kernel) (by decide +kernel)⟩
theorem cbX5_laughingAt : CalB yX5_laughingAt cX5_laughingAt 4 (some .int) 2 := ⟨tb_t 480 (by decide +kernel) (by decide +kernel), tb_t 1 (by decide +kernel) (by decide +kernel), by decide, by decide, by decide +kernel⟩
theorem cvX5_laughingAt : CalV yX5_laughingAt cX5_laughingAt 4 (some .int) 2 := ⟨cbX5_laughingAt, tb_t 479 (by decide +kernel) (by decide +kernel), tb_s 8 (by decide +kernel) (by decide +kernel)⟩
theorem cbX5_quiet : CalB yX5_quiet cX5_quiet 6 (some .int) 1 := ⟨tb_t 484 (by decide +kernel) (by decide +kernel), tb_t 1 (by decide +kernel) (by decide +kernel), by decide, by decide, by decide +kernel⟩
theorem cvX5_quiet : CalV yX5_quiet cX5_quiet 6 (some .int) 1 := ⟨cbX5_quiet, tb_t 482 (by decide +kernel) (by decide +kernel), tb_t 483 (by decide +kernel) (by decide +kernel)⟩
theorem cbX5_safe : CalB yX5_safe cX5_safe 3 (some .int) 1 := ⟨tb_t 488 (by decide +kernel) (by decide +kernel), tb_t 1 (by decide +kernel) (by decide +kernel), by decide, by decide, by decide +kernel⟩
theorem cvX5_safe : CalV yX5_safe cX5_safe 3 (some .int) 1 := ⟨cbX5_safe, tb_t 486 (by decide +kernel) (by decide +kernel), tb_t 487 (by decide +kernel) (by decide +kernel)⟩
theorem cbX5_tastes : CalB yX5_tastes cX5_tastes 7 (some .int) 3 := ⟨tb_t 492 (by decide +kernel) (by decide +kernel), tb_t 1 (by decide +kernel) (by decide +kernel), by decide, by decide, by decide +kernel⟩
theorem cvX5_tastes : CalV yX5_tastes cX5_tastes 7 (some .int) 3 := ⟨cbX5_tastes, tb_t 490 (by decide +kernel) (by decide +kernel), tb_t 491 (by decide +kernel) (by decide +kernel)⟩
theorem cbX5_paymentsFinding : CalB yX5_paymentsFinding cX5_paymentsFinding 5 (some .int) 3 := ⟨tb_t 496 (by decide +kernel) (by decide +kernel), tb_t 1 (by decide +kernel) (by decide +kernel), by decide, by decide, by decide +kernel⟩
theorem cvX5_paymentsFinding : CalV yX5_paymentsFinding cX5_paymentsFinding 5 (some .int) 3 := ⟨cbX5_paymentsFinding, tb_t 495 (by decide +kernel) (by decide +kernel), tb_s 9 (by decide +kernel) (by decide +kernel)⟩
theorem cbX5_sheetFinding : CalB yX5_sheetFinding cX5_sheetFinding 2 (some .int) 1 := ⟨tb_t 500 (by decide +kernel) (by decide +kernel), tb_t 1 (by decide +kernel) (by decide +kernel), by decide, by decide, by decide +kernel⟩
theorem cvX5_sheetFinding : CalV yX5_sheetFinding cX5_sheetFinding 2 (some .int) 1 := ⟨cbX5_sheetFinding, tb_t 499 (by decide +kernel) (by decide +kernel), tb_s 10 (by decide +kernel) (by decide +kernel)⟩
theorem cbX2_isMissing : CalB yX2_isMissing cX2_isMissing 1 (some .boolean) 0 := ⟨tb_t 504 (by decide +kernel) (by decide +kernel), tb_t 5 (by decide +kernel) (by decide +kernel), by decide, by decide, by decide +kernel⟩
theorem cvX2_isMissing : CalV yX2_isMissing cX2_isMissing 1 (some .boolean) 0 := ⟨cbX2_isMissing, tb_t 502 (by decide +kernel) (by decide +kernel), tb_t 503 (by decide +kernel) (by decide +kernel)⟩
theorem cbX5_fits : CalB yX5_fits cX5_fits 6 (some .boolean) 4 := ⟨tb_t 509 (by decide +kernel) (by decide +kernel), tb_t 1 (by decide +kernel) (by decide +kernel), by decide, by decide, by decide +kernel⟩
theorem cvX5_fits : CalV yX5_fits cX5_fits 6 (some .boolean) 4 := ⟨cbX5_fits, tb_t 508 (by decide +kernel) (by decide +kernel), tb_s 11 (by decide +kernel) (by decide +kernel)⟩
theorem cbX2_tells : CalB yX2_tells cX2_tells 3 (some .boolean) 2 := ⟨tb_t 513 (by decide +kernel) (by decide +kernel), tb_t 5 (by decide +kernel) (by decide +kernel), by decide, by decide, by decide +kernel⟩
theorem cvX2_tells : CalV yX2_tells cX2_tells 3 (some .boolean) 2 := ⟨cbX2_tells, tb_t 511 (by decide +kernel) (by decide +kernel), tb_t 512 (by decide +kernel) (by decide +kernel)⟩
theorem cbX5_taste : CalB yX5_taste cX5_taste 6 (some .int) 3 := ⟨tb_t 517 (by decide +kernel) (by decide +kernel), tb_t 1 (by decide +kernel) (by decide +kernel), by decide, by decide, by decide +kernel⟩
theorem cvX5_taste : CalV yX5_taste cX5_taste 6 (some .int) 3 := ⟨cbX5_taste, tb_t 515 (by decide +kernel) (by decide +kernel), tb_t 516 (by decide +kernel) (by decide +kernel)⟩
theorem cbX5_which : CalB yX5_which cX5_which 5 (some .int) 1 := ⟨tb_t 521 (by decide +kernel) (by decide +kernel), tb_t 1 (by decide +kernel) (by decide +kernel), by decide, by decide, by decide +kernel⟩
theorem cvX5_which : CalV yX5_which cX5_which 5 (some .int) 1 := ⟨cbX5_which, tb_t 519 (by decide +kernel) (by decide +kernel), tb_t 520 (by decide +kernel) (by decide +kernel)⟩
theorem cbX2_tellsFirst : CalB yX2_tellsFirst cX2_tellsFirst 5 (some .boolean) 2 := ⟨tb_t 525 (by decide +kernel) (by decide +kernel), tb_t 5 (by decide +kernel) (by decide +kernel), by decide, by decide, by decide +kernel⟩
theorem cvX2_tellsFirst : CalV yX2_tellsFirst cX2_tellsFirst 5 (some .boolean) 2 := ⟨cbX2_tellsFirst, tb_t 523 (by decide +kernel) (by decide +kernel), tb_t 524 (by decide +kernel) (by decide +kernel)⟩
theorem cbX5_shows : CalB yX5_shows cX5_shows 3 (some .int) 1 := ⟨tb_t 531 (by decide +kernel) (by decide +kernel), tb_t 1 (by decide +kernel) (by decide +kernel), by decide, by decide, by decide +kernel⟩
theorem cvX5_shows : CalV yX5_shows cX5_shows 3 (some .int) 1 := ⟨cbX5_shows, tb_t 529 (by decide +kernel) (by decide +kernel), tb_t 530 (by decide +kernel) (by decide +kernel)⟩
theorem cbX1_drawBelow : CalB yX1_drawBelow cX1_drawBelow 2 (some .int) 1 := ⟨tb_t 535 (by decide +kernel) (by decide +kernel), tb_t 2 (by decide +kernel) (by decide +kernel), by decide, by decide, by decide +kernel⟩
theorem cvX1_drawBelow : CalV yX1_drawBelow cX1_drawBelow 2 (some .int) 1 := ⟨cbX1_drawBelow, tb_t 533 (by decide +kernel) (by decide +kernel), tb_t 534 (by decide +kernel) (by decide +kernel)⟩
theorem cbX5_odds : CalB yX5_odds cX5_odds 5 (some .long) 2 := ⟨tb_t 540 (by decide +kernel) (by decide +kernel), tb_t 1 (by decide +kernel) (by decide +kernel), by decide, by decide, by decide +kernel⟩
theorem cvX5_odds : CalV yX5_odds cX5_odds 5 (some .long) 2 := ⟨cbX5_odds, tb_t 538 (by decide +kernel) (by decide +kernel), tb_t 539 (by decide +kernel) (by decide +kernel)⟩
theorem cbX5_commonDivisor : CalB yX5_commonDivisor cX5_commonDivisor 3 (some .int) 2 := ⟨tb_t 543 (by decide +kernel) (by decide +kernel), tb_t 1 (by decide +kernel) (by decide +kernel), by decide, by decide, by decide +kernel⟩
theorem csX5_commonDivisor : CalS yX5_commonDivisor cX5_commonDivisor 3 (some .int) 2 := ⟨cbX5_commonDivisor, tb_t 542 (by decide +kernel) (by decide +kernel)⟩
theorem cbX5_power : CalB yX5_power cX5_power 5 (some .long) 2 := ⟨tb_t 546 (by decide +kernel) (by decide +kernel), tb_t 1 (by decide +kernel) (by decide +kernel), by decide, by decide, by decide +kernel⟩
theorem csX5_power : CalS yX5_power cX5_power 5 (some .long) 2 := ⟨cbX5_power, tb_t 545 (by decide +kernel) (by decide +kernel)⟩
theorem cbX5_seed : CalB yX5_seed cX5_seed 3 (some .int) 1 := ⟨tb_t 550 (by decide +kernel) (by decide +kernel), tb_t 1 (by decide +kernel) (by decide +kernel), by decide, by decide, by decide +kernel⟩
theorem cvX5_seed : CalV yX5_seed cX5_seed 3 (some .int) 1 := ⟨cbX5_seed, tb_t 548 (by decide +kernel) (by decide +kernel), tb_t 549 (by decide +kernel) (by decide +kernel)⟩
theorem cbX5_feed : CalB yX5_feed cX5_feed 4 (some .int) 2 := ⟨tb_t 554 (by decide +kernel) (by decide +kernel), tb_t 1 (by decide +kernel) (by decide +kernel), by decide, by decide, by decide +kernel⟩
theorem cvX5_feed : CalV yX5_feed cX5_feed 4 (some .int) 2 := ⟨cbX5_feed, tb_t 552 (by decide +kernel) (by decide +kernel), tb_t 553 (by decide +kernel) (by decide +kernel)⟩
theorem cbX3_put : CalB yX3_put cX3_put 2 none 1 := ⟨tb_t 558 (by decide +kernel) (by decide +kernel), tb_t 4 (by decide +kernel) (by decide +kernel), by decide, by decide, by decide +kernel⟩
theorem cvX3_put : CalV yX3_put cX3_put 2 none 1 := ⟨cbX3_put, tb_t 556 (by decide +kernel) (by decide +kernel), tb_t 557 (by decide +kernel) (by decide +kernel)⟩
theorem cbX5_wipe : CalB yX5_wipe cX5_wipe 2 (some .int) 0 := ⟨tb_t 562 (by decide +kernel) (by decide +kernel), tb_t 1 (by decide +kernel) (by decide +kernel), by decide, by decide, by decide +kernel⟩
theorem cvX5_wipe : CalV yX5_wipe cX5_wipe 2 (some .int) 0 := ⟨cbX5_wipe, tb_t 560 (by decide +kernel) (by decide +kernel), tb_t 561 (by decide +kernel) (by decide +kernel)⟩
theorem cbX5_text : CalB yX5_text cX5_text 2 (some .int) 0 := ⟨tb_t 566 (by decide +kernel) (by decide +kernel), tb_t 1 (by decide +kernel) (by decide +kernel), by decide, by decide, by decide +kernel⟩
theorem cvX5_text : CalV yX5_text cX5_text 2 (some .int) 0 := ⟨cbX5_text, tb_t 564 (by decide +kernel) (by decide +kernel), tb_t 565 (by decide +kernel) (by decide +kernel)⟩
theorem cbX3_readInto : CalB yX3_readInto cX3_readInto 3 (some .int) 1 := ⟨tb_t 570 (by decide +kernel) (by decide +kernel), tb_t 4 (by decide +kernel) (by decide +kernel), by decide, by decide, by decide +kernel⟩
theorem cvX3_readInto : CalV yX3_readInto cX3_readInto 3 (some .int) 1 := ⟨cbX3_readInto, tb_t 568 (by decide +kernel) (by decide +kernel), tb_t 569 (by decide +kernel) (by decide +kernel)⟩
theorem cbX3_step : CalB yX3_step cX3_step 2 none 0 := ⟨tb_t 574 (by decide +kernel) (by decide +kernel), tb_t 4 (by decide +kernel) (by decide +kernel), by decide, by decide, by decide +kernel⟩
theorem cvX3_step : CalV yX3_step cX3_step 2 none 0 := ⟨cbX3_step, tb_t 573 (by decide +kernel) (by decide +kernel), tb_s 12 (by decide +kernel) (by decide +kernel)⟩
theorem cbX3_tokenOf : CalB yX3_tokenOf cX3_tokenOf 1 (some .int) 1 := ⟨tb_t 577 (by decide +kernel) (by decide +kernel), tb_t 4 (by decide +kernel) (by decide +kernel), by decide, by decide, by decide +kernel⟩
theorem csX3_tokenOf : CalS yX3_tokenOf cX3_tokenOf 1 (some .int) 1 := ⟨cbX3_tokenOf, tb_t 576 (by decide +kernel) (by decide +kernel)⟩
theorem cbX3_readItem : CalB yX3_readItem cX3_readItem 3 (some .boolean) 1 := ⟨tb_t 582 (by decide +kernel) (by decide +kernel), tb_t 4 (by decide +kernel) (by decide +kernel), by decide, by decide, by decide +kernel⟩
theorem cvX3_readItem : CalV yX3_readItem cX3_readItem 3 (some .boolean) 1 := ⟨cbX3_readItem, tb_t 581 (by decide +kernel) (by decide +kernel), tb_s 13 (by decide +kernel) (by decide +kernel)⟩
theorem cbX3_wordOf : CalB yX3_wordOf cX3_wordOf 1 (some (.object "java/lang/String")) 1 := ⟨tb_t 585 (by decide +kernel) (by decide +kernel), tb_t 4 (by decide +kernel) (by decide +kernel), by decide, by decide, by decide +kernel⟩
theorem csX3_wordOf : CalS yX3_wordOf cX3_wordOf 1 (some (.object "java/lang/String")) 1 := ⟨cbX3_wordOf, tb_t 584 (by decide +kernel) (by decide +kernel)⟩
theorem cbX3_isWord : CalB yX3_isWord cX3_isWord 3 (some .boolean) 1 := ⟨tb_t 596 (by decide +kernel) (by decide +kernel), tb_t 4 (by decide +kernel) (by decide +kernel), by decide, by decide, by decide +kernel⟩
theorem cvX3_isWord : CalV yX3_isWord cX3_isWord 3 (some .boolean) 1 := ⟨cbX3_isWord, tb_t 595 (by decide +kernel) (by decide +kernel), tb_s 14 (by decide +kernel) (by decide +kernel)⟩
theorem cbJ0_length_8abf5 : CalB yJ0_length_8abf5 cJ0_length_8abf5 1 (some .int) 0 := ⟨tb_t 600 (by decide +kernel) (by decide +kernel), tb_t 11 (by decide +kernel) (by decide +kernel), by decide, by decide, by decide +kernel⟩
theorem cvJ0_length_8abf5 : CalV yJ0_length_8abf5 cJ0_length_8abf5 1 (some .int) 0 := ⟨cbJ0_length_8abf5, tb_t 598 (by decide +kernel) (by decide +kernel), tb_t 599 (by decide +kernel) (by decide +kernel)⟩
theorem cbJ0_coder_7d493 : CalB yJ0_coder_7d493 cJ0_coder_7d493 1 (some .byte) 0 := ⟨tb_t 604 (by decide +kernel) (by decide +kernel), tb_t 11 (by decide +kernel) (by decide +kernel), by decide, by decide, by decide +kernel⟩
theorem cvJ0_coder_7d493 : CalV yJ0_coder_7d493 cJ0_coder_7d493 1 (some .byte) 0 := ⟨cbJ0_coder_7d493, tb_t 602 (by decide +kernel) (by decide +kernel), tb_t 603 (by decide +kernel) (by decide +kernel)⟩
theorem cbJ0_charAt_5068e : CalB yJ0_charAt_5068e cJ0_charAt_5068e 2 (some .char) 1 := ⟨tb_t 610 (by decide +kernel) (by decide +kernel), tb_t 11 (by decide +kernel) (by decide +kernel), by decide, by decide, by decide +kernel⟩
theorem cvJ0_charAt_5068e : CalV yJ0_charAt_5068e cJ0_charAt_5068e 2 (some .char) 1 := ⟨cbJ0_charAt_5068e, tb_t 608 (by decide +kernel) (by decide +kernel), tb_t 609 (by decide +kernel) (by decide +kernel)⟩
theorem cbJ0_isLatin1_aae02 : CalB yJ0_isLatin1_aae02 cJ0_isLatin1_aae02 1 (some .boolean) 0 := ⟨tb_t 614 (by decide +kernel) (by decide +kernel), tb_t 11 (by decide +kernel) (by decide +kernel), by decide, by decide, by decide +kernel⟩
theorem cvJ0_isLatin1_aae02 : CalV yJ0_isLatin1_aae02 cJ0_isLatin1_aae02 1 (some .boolean) 0 := ⟨cbJ0_isLatin1_aae02, tb_t 612 (by decide +kernel) (by decide +kernel), tb_t 613 (by decide +kernel) (by decide +kernel)⟩
theorem cbJ1_charAt_3b067 : CalB yJ1_charAt_3b067 cJ1_charAt_3b067 2 (some .char) 2 := ⟨tb_t 617 (by decide +kernel) (by decide +kernel), tb_t 12 (by decide +kernel) (by decide +kernel), by decide, by decide, by decide +kernel⟩
theorem csJ1_charAt_3b067 : CalS yJ1_charAt_3b067 cJ1_charAt_3b067 2 (some .char) 2 := ⟨cbJ1_charAt_3b067, tb_t 616 (by decide +kernel) (by decide +kernel)⟩
theorem cbJ0_checkIndex_df160 : CalB yJ0_checkIndex_df160 cJ0_checkIndex_df160 2 none 2 := ⟨tb_t 620 (by decide +kernel) (by decide +kernel), tb_t 11 (by decide +kernel) (by decide +kernel), by decide, by decide, by decide +kernel⟩
theorem csJ0_checkIndex_df160 : CalS yJ0_checkIndex_df160 cJ0_checkIndex_df160 2 none 2 := ⟨cbJ0_checkIndex_df160, tb_t 619 (by decide +kernel) (by decide +kernel)⟩
theorem cbJ3_checkIndex_8e157 : CalB yJ3_checkIndex_8e157 cJ3_checkIndex_8e157 3 (some .int) 3 := ⟨tb_t 625 (by decide +kernel) (by decide +kernel), tb_t 13 (by decide +kernel) (by decide +kernel), by decide, by decide, by decide +kernel⟩
theorem csJ3_checkIndex_8e157 : CalS yJ3_checkIndex_8e157 cJ3_checkIndex_8e157 3 (some .int) 3 := ⟨cbJ3_checkIndex_8e157, tb_t 624 (by decide +kernel) (by decide +kernel)⟩
theorem cbJ2_charAt_3b067 : CalB yJ2_charAt_3b067 cJ2_charAt_3b067 2 (some .char) 2 := ⟨tb_t 628 (by decide +kernel) (by decide +kernel), tb_t 14 (by decide +kernel) (by decide +kernel), by decide, by decide, by decide +kernel⟩
theorem csJ2_charAt_3b067 : CalS yJ2_charAt_3b067 cJ2_charAt_3b067 2 (some .char) 2 := ⟨cbJ2_charAt_3b067, tb_t 627 (by decide +kernel) (by decide +kernel)⟩
theorem cbJ2_checkIndex_2214a : CalB yJ2_checkIndex_2214a cJ2_checkIndex_2214a 2 none 2 := ⟨tb_t 631 (by decide +kernel) (by decide +kernel), tb_t 14 (by decide +kernel) (by decide +kernel), by decide, by decide, by decide +kernel⟩
theorem csJ2_checkIndex_2214a : CalS yJ2_checkIndex_2214a cJ2_checkIndex_2214a 2 none 2 := ⟨cbJ2_checkIndex_2214a, tb_t 630 (by decide +kernel) (by decide +kernel)⟩
theorem cbJ2_length_9d52b : CalB yJ2_length_9d52b cJ2_length_9d52b 1 (some .int) 1 := ⟨tb_t 634 (by decide +kernel) (by decide +kernel), tb_t 14 (by decide +kernel) (by decide +kernel), by decide, by decide, by decide +kernel⟩
theorem csJ2_length_9d52b : CalS yJ2_length_9d52b cJ2_length_9d52b 1 (some .int) 1 := ⟨cbJ2_length_9d52b, tb_t 633 (by decide +kernel) (by decide +kernel)⟩
theorem cbJ2_getChar_3b067 : CalB yJ2_getChar_3b067 cJ2_getChar_3b067 2 (some .char) 2 := ⟨tb_t 638 (by decide +kernel) (by decide +kernel), tb_t 14 (by decide +kernel) (by decide +kernel), by decide, by decide, by decide +kernel⟩
theorem csJ2_getChar_3b067 : CalS yJ2_getChar_3b067 cJ2_getChar_3b067 2 (some .char) 2 := ⟨cbJ2_getChar_3b067, tb_t 637 (by decide +kernel) (by decide +kernel)⟩
theorem cbX3_readPerson : CalB yX3_readPerson cX3_readPerson 4 (some .boolean) 2 := ⟨tb_t 648 (by decide +kernel) (by decide +kernel), tb_t 4 (by decide +kernel) (by decide +kernel), by decide, by decide, by decide +kernel⟩
theorem cvX3_readPerson : CalV yX3_readPerson cX3_readPerson 4 (some .boolean) 2 := ⟨cbX3_readPerson, tb_t 647 (by decide +kernel) (by decide +kernel), tb_s 15 (by decide +kernel) (by decide +kernel)⟩
theorem cbX3_readPart : CalB yX3_readPart cX3_readPart 4 (some .boolean) 3 := ⟨tb_t 654 (by decide +kernel) (by decide +kernel), tb_t 4 (by decide +kernel) (by decide +kernel), by decide, by decide, by decide +kernel⟩
theorem cvX3_readPart : CalV yX3_readPart cX3_readPart 4 (some .boolean) 3 := ⟨cbX3_readPart, tb_t 653 (by decide +kernel) (by decide +kernel), tb_s 16 (by decide +kernel) (by decide +kernel)⟩
theorem cbX3_readNumber : CalB yX3_readNumber cX3_readNumber 3 (some .boolean) 2 := ⟨tb_t 658 (by decide +kernel) (by decide +kernel), tb_t 4 (by decide +kernel) (by decide +kernel), by decide, by decide, by decide +kernel⟩
theorem cvX3_readNumber : CalV yX3_readNumber cX3_readNumber 3 (some .boolean) 2 := ⟨cbX3_readNumber, tb_t 657 (by decide +kernel) (by decide +kernel), tb_s 17 (by decide +kernel) (by decide +kernel)⟩
theorem cbX3_readJoke : CalB yX3_readJoke cX3_readJoke 3 (some .boolean) 1 := ⟨tb_t 668 (by decide +kernel) (by decide +kernel), tb_t 4 (by decide +kernel) (by decide +kernel), by decide, by decide, by decide +kernel⟩
theorem cvX3_readJoke : CalV yX3_readJoke cX3_readJoke 3 (some .boolean) 1 := ⟨cbX3_readJoke, tb_t 667 (by decide +kernel) (by decide +kernel), tb_s 18 (by decide +kernel) (by decide +kernel)⟩
theorem cbX3_readRate : CalB yX3_readRate cX3_readRate 2 (some .boolean) 1 := ⟨tb_t 674 (by decide +kernel) (by decide +kernel), tb_t 4 (by decide +kernel) (by decide +kernel), by decide, by decide, by decide +kernel⟩
theorem cvX3_readRate : CalV yX3_readRate cX3_readRate 2 (some .boolean) 1 := ⟨cbX3_readRate, tb_t 673 (by decide +kernel) (by decide +kernel), tb_s 19 (by decide +kernel) (by decide +kernel)⟩
theorem cbX3_readReach : CalB yX3_readReach cX3_readReach 2 (some .boolean) 1 := ⟨tb_t 679 (by decide +kernel) (by decide +kernel), tb_t 4 (by decide +kernel) (by decide +kernel), by decide, by decide, by decide +kernel⟩
theorem cvX3_readReach : CalV yX3_readReach cX3_readReach 2 (some .boolean) 1 := ⟨cbX3_readReach, tb_t 678 (by decide +kernel) (by decide +kernel), tb_s 20 (by decide +kernel) (by decide +kernel)⟩
theorem cbX5_hold : CalB yX5_hold cX5_hold 4 (some .int) 2 := ⟨tb_t 684 (by decide +kernel) (by decide +kernel), tb_t 1 (by decide +kernel) (by decide +kernel), by decide, by decide, by decide +kernel⟩
theorem cvX5_hold : CalV yX5_hold cX5_hold 4 (some .int) 2 := ⟨cbX5_hold, tb_t 682 (by decide +kernel) (by decide +kernel), tb_t 683 (by decide +kernel) (by decide +kernel)⟩
theorem cbX5_as : CalB yX5_as cX5_as 4 (some .int) 2 := ⟨tb_t 688 (by decide +kernel) (by decide +kernel), tb_t 1 (by decide +kernel) (by decide +kernel), by decide, by decide, by decide +kernel⟩
theorem cvX5_as : CalV yX5_as cX5_as 4 (some .int) 2 := ⟨cbX5_as, tb_t 686 (by decide +kernel) (by decide +kernel), tb_t 687 (by decide +kernel) (by decide +kernel)⟩
theorem cbX0_isA : CalB yX0_isA cX0_isA 4 (some .boolean) 2 := ⟨tb_t 691 (by decide +kernel) (by decide +kernel), tb_t 8 (by decide +kernel) (by decide +kernel), by decide, by decide, by decide +kernel⟩
theorem csX0_isA : CalS yX0_isA cX0_isA 4 (some .boolean) 2 := ⟨cbX0_isA, tb_t 690 (by decide +kernel) (by decide +kernel)⟩
theorem cbX5_sheet : CalB yX5_sheet cX5_sheet 5 (some .int) 3 := ⟨tb_t 698 (by decide +kernel) (by decide +kernel), tb_t 1 (by decide +kernel) (by decide +kernel), by decide, by decide, by decide +kernel⟩
theorem cvX5_sheet : CalV yX5_sheet cX5_sheet 5 (some .int) 3 := ⟨cbX5_sheet, tb_t 696 (by decide +kernel) (by decide +kernel), tb_t 697 (by decide +kernel) (by decide +kernel)⟩
theorem cbX2_begin : CalB yX2_begin cX2_begin 4 none 2 := ⟨tb_t 703 (by decide +kernel) (by decide +kernel), tb_t 5 (by decide +kernel) (by decide +kernel), by decide, by decide, by decide +kernel⟩
theorem cvX2_begin : CalV yX2_begin cX2_begin 4 none 2 := ⟨cbX2_begin, tb_t 701 (by decide +kernel) (by decide +kernel), tb_t 702 (by decide +kernel) (by decide +kernel)⟩
theorem cbX5_write : CalB yX5_write cX5_write 5 (some .int) 3 := ⟨tb_t 707 (by decide +kernel) (by decide +kernel), tb_t 1 (by decide +kernel) (by decide +kernel), by decide, by decide, by decide +kernel⟩
theorem cvX5_write : CalV yX5_write cX5_write 5 (some .int) 3 := ⟨cbX5_write, tb_t 705 (by decide +kernel) (by decide +kernel), tb_t 706 (by decide +kernel) (by decide +kernel)⟩
theorem cbX2_put : CalB yX2_put cX2_put 3 none 2 := ⟨tb_t 711 (by decide +kernel) (by decide +kernel), tb_t 5 (by decide +kernel) (by decide +kernel), by decide, by decide, by decide +kernel⟩
theorem cvX2_put : CalV yX2_put cX2_put 3 none 2 := ⟨cbX2_put, tb_t 709 (by decide +kernel) (by decide +kernel), tb_t 710 (by decide +kernel) (by decide +kernel)⟩
theorem cbX5_copy : CalB yX5_copy cX5_copy 8 (some .int) 5 := ⟨tb_t 715 (by decide +kernel) (by decide +kernel), tb_t 1 (by decide +kernel) (by decide +kernel), by decide, by decide, by decide +kernel⟩
theorem cvX5_copy : CalV yX5_copy cX5_copy 8 (some .int) 5 := ⟨cbX5_copy, tb_t 713 (by decide +kernel) (by decide +kernel), tb_t 714 (by decide +kernel) (by decide +kernel)⟩
theorem cbX2_has : CalB yX2_has cX2_has 3 (some .boolean) 2 := ⟨tb_t 719 (by decide +kernel) (by decide +kernel), tb_t 5 (by decide +kernel) (by decide +kernel), by decide, by decide, by decide +kernel⟩
theorem cvX2_has : CalV yX2_has cX2_has 3 (some .boolean) 2 := ⟨cbX2_has, tb_t 717 (by decide +kernel) (by decide +kernel), tb_t 718 (by decide +kernel) (by decide +kernel)⟩
theorem cbX5_load : CalB yX5_load cX5_load 5 (some .int) 1 := ⟨tb_t 724 (by decide +kernel) (by decide +kernel), tb_t 1 (by decide +kernel) (by decide +kernel), by decide, by decide, by decide +kernel⟩
theorem cvX5_load : CalV yX5_load cX5_load 5 (some .int) 1 := ⟨cbX5_load, tb_t 722 (by decide +kernel) (by decide +kernel), tb_t 723 (by decide +kernel) (by decide +kernel)⟩
theorem cbX5_judge : CalB yX5_judge cX5_judge 7 (some .int) 1 := ⟨tb_t 728 (by decide +kernel) (by decide +kernel), tb_t 1 (by decide +kernel) (by decide +kernel), by decide, by decide, by decide +kernel⟩
theorem cvX5_judge : CalV yX5_judge cX5_judge 7 (some .int) 1 := ⟨cbX5_judge, tb_t 726 (by decide +kernel) (by decide +kernel), tb_t 727 (by decide +kernel) (by decide +kernel)⟩
theorem cbX5_image : CalB yX5_image cX5_image 1 (some .int) 0 := ⟨tb_t 733 (by decide +kernel) (by decide +kernel), tb_t 1 (by decide +kernel) (by decide +kernel), by decide, by decide, by decide +kernel⟩
theorem cvX5_image : CalV yX5_image cX5_image 1 (some .int) 0 := ⟨cbX5_image, tb_t 731 (by decide +kernel) (by decide +kernel), tb_t 732 (by decide +kernel) (by decide +kernel)⟩
theorem cbX5_undo : CalB yX5_undo cX5_undo 1 (some .int) 0 := ⟨tb_t 737 (by decide +kernel) (by decide +kernel), tb_t 1 (by decide +kernel) (by decide +kernel), by decide, by decide, by decide +kernel⟩
theorem cvX5_undo : CalV yX5_undo cX5_undo 1 (some .int) 0 := ⟨cbX5_undo, tb_t 735 (by decide +kernel) (by decide +kernel), tb_t 736 (by decide +kernel) (by decide +kernel)⟩
theorem cbX5_tear : CalB yX5_tear cX5_tear 2 (some .int) 0 := ⟨tb_t 741 (by decide +kernel) (by decide +kernel), tb_t 1 (by decide +kernel) (by decide +kernel), by decide, by decide, by decide +kernel⟩
theorem cvX5_tear : CalV yX5_tear cX5_tear 2 (some .int) 0 := ⟨cbX5_tear, tb_t 739 (by decide +kernel) (by decide +kernel), tb_t 740 (by decide +kernel) (by decide +kernel)⟩
theorem cbX5_count : CalB yX5_count cX5_count 2 (some .int) 1 := ⟨tb_t 745 (by decide +kernel) (by decide +kernel), tb_t 1 (by decide +kernel) (by decide +kernel), by decide, by decide, by decide +kernel⟩
theorem cvX5_count : CalV yX5_count cX5_count 2 (some .int) 1 := ⟨cbX5_count, tb_t 743 (by decide +kernel) (by decide +kernel), tb_t 744 (by decide +kernel) (by decide +kernel)⟩
theorem cbX1_spotsHolding : CalB yX1_spotsHolding cX1_spotsHolding 3 (some .int) 0 := ⟨tb_t 749 (by decide +kernel) (by decide +kernel), tb_t 2 (by decide +kernel) (by decide +kernel), by decide, by decide, by decide +kernel⟩
theorem cvX1_spotsHolding : CalV yX1_spotsHolding cX1_spotsHolding 3 (some .int) 0 := ⟨cbX1_spotsHolding, tb_t 747 (by decide +kernel) (by decide +kernel), tb_t 748 (by decide +kernel) (by decide +kernel)⟩
theorem cbX5_status : CalB yX5_status cX5_status 4 (some .int) 1 := ⟨tb_t 753 (by decide +kernel) (by decide +kernel), tb_t 1 (by decide +kernel) (by decide +kernel), by decide, by decide, by decide +kernel⟩
theorem cvX5_status : CalV yX5_status cX5_status 4 (some .int) 1 := ⟨cbX5_status, tb_t 751 (by decide +kernel) (by decide +kernel), tb_t 752 (by decide +kernel) (by decide +kernel)⟩
theorem cbX6_person : CalB yX6_person cX6_person 3 (some .int) 2 := ⟨tb_t 818 (by decide +kernel) (by decide +kernel), tb_t 6 (by decide +kernel) (by decide +kernel), by decide, by decide, by decide +kernel⟩
theorem cvX6_person : CalV yX6_person cX6_person 3 (some .int) 2 := ⟨cbX6_person, tb_t 816 (by decide +kernel) (by decide +kernel), tb_t 817 (by decide +kernel) (by decide +kernel)⟩
theorem cbX6_isKind : CalB yX6_isKind cX6_isKind 1 (some .boolean) 1 := ⟨tb_t 821 (by decide +kernel) (by decide +kernel), tb_t 6 (by decide +kernel) (by decide +kernel), by decide, by decide, by decide +kernel⟩
theorem csX6_isKind : CalS yX6_isKind cX6_isKind 1 (some .boolean) 1 := ⟨cbX6_isKind, tb_t 820 (by decide +kernel) (by decide +kernel)⟩
theorem cbX6_in : CalB yX6_in cX6_in 6 (some .boolean) 3 := ⟨tb_t 825 (by decide +kernel) (by decide +kernel), tb_t 6 (by decide +kernel) (by decide +kernel), by decide, by decide, by decide +kernel⟩
theorem csX6_in : CalS yX6_in cX6_in 6 (some .boolean) 3 := ⟨cbX6_in, tb_t 824 (by decide +kernel) (by decide +kernel)⟩
theorem cbX6_isSeat : CalB yX6_isSeat cX6_isSeat 1 (some .boolean) 1 := ⟨tb_t 828 (by decide +kernel) (by decide +kernel), tb_t 6 (by decide +kernel) (by decide +kernel), by decide, by decide, by decide +kernel⟩
theorem csX6_isSeat : CalS yX6_isSeat cX6_isSeat 1 (some .boolean) 1 := ⟨cbX6_isSeat, tb_t 827 (by decide +kernel) (by decide +kernel)⟩
theorem cbX6_finds : CalB yX6_finds cX6_finds 2 (some .int) 1 := ⟨tb_t 833 (by decide +kernel) (by decide +kernel), tb_t 6 (by decide +kernel) (by decide +kernel), by decide, by decide, by decide +kernel⟩
theorem cvX6_finds : CalV yX6_finds cX6_finds 2 (some .int) 1 := ⟨cbX6_finds, tb_t 832 (by decide +kernel) (by decide +kernel), tb_s 21 (by decide +kernel) (by decide +kernel)⟩
theorem cbX6_adds : CalB yX6_adds cX6_adds 4 (some .int) 2 := ⟨tb_t 838 (by decide +kernel) (by decide +kernel), tb_t 6 (by decide +kernel) (by decide +kernel), by decide, by decide, by decide +kernel⟩
theorem cvX6_adds : CalV yX6_adds cX6_adds 4 (some .int) 2 := ⟨cbX6_adds, tb_t 837 (by decide +kernel) (by decide +kernel), tb_s 22 (by decide +kernel) (by decide +kernel)⟩
theorem cbX6_sets : CalB yX6_sets cX6_sets 4 none 3 := ⟨tb_t 842 (by decide +kernel) (by decide +kernel), tb_t 6 (by decide +kernel) (by decide +kernel), by decide, by decide, by decide +kernel⟩
theorem cvX6_sets : CalV yX6_sets cX6_sets 4 none 3 := ⟨cbX6_sets, tb_t 841 (by decide +kernel) (by decide +kernel), tb_s 23 (by decide +kernel) (by decide +kernel)⟩
theorem cbX6_of : CalB yX6_of cX6_of 3 (some .int) 2 := ⟨tb_t 846 (by decide +kernel) (by decide +kernel), tb_t 6 (by decide +kernel) (by decide +kernel), by decide, by decide, by decide +kernel⟩
theorem cvX6_of : CalV yX6_of cX6_of 3 (some .int) 2 := ⟨cbX6_of, tb_t 844 (by decide +kernel) (by decide +kernel), tb_t 845 (by decide +kernel) (by decide +kernel)⟩
theorem cbX6_isPerson : CalB yX6_isPerson cX6_isPerson 2 (some .boolean) 1 := ⟨tb_t 850 (by decide +kernel) (by decide +kernel), tb_t 6 (by decide +kernel) (by decide +kernel), by decide, by decide, by decide +kernel⟩
theorem cvX6_isPerson : CalV yX6_isPerson cX6_isPerson 2 (some .boolean) 1 := ⟨cbX6_isPerson, tb_t 849 (by decide +kernel) (by decide +kernel), tb_s 24 (by decide +kernel) (by decide +kernel)⟩
theorem cbX6_bound : CalB yX6_bound cX6_bound 3 (some .int) 1 := ⟨tb_t 855 (by decide +kernel) (by decide +kernel), tb_t 6 (by decide +kernel) (by decide +kernel), by decide, by decide, by decide +kernel⟩
theorem cvX6_bound : CalV yX6_bound cX6_bound 3 (some .int) 1 := ⟨cbX6_bound, tb_t 854 (by decide +kernel) (by decide +kernel), tb_s 25 (by decide +kernel) (by decide +kernel)⟩
theorem cbX6_its : CalB yX6_its cX6_its 3 (some .int) 2 := ⟨tb_t 859 (by decide +kernel) (by decide +kernel), tb_t 6 (by decide +kernel) (by decide +kernel), by decide, by decide, by decide +kernel⟩
theorem cvX6_its : CalV yX6_its cX6_its 3 (some .int) 2 := ⟨cbX6_its, tb_t 858 (by decide +kernel) (by decide +kernel), tb_s 26 (by decide +kernel) (by decide +kernel)⟩
theorem cbX6_numberOf : CalB yX6_numberOf cX6_numberOf 2 (some .int) 1 := ⟨tb_t 864 (by decide +kernel) (by decide +kernel), tb_t 6 (by decide +kernel) (by decide +kernel), by decide, by decide, by decide +kernel⟩
theorem cvX6_numberOf : CalV yX6_numberOf cX6_numberOf 2 (some .int) 1 := ⟨cbX6_numberOf, tb_t 863 (by decide +kernel) (by decide +kernel), tb_s 27 (by decide +kernel) (by decide +kernel)⟩
theorem cbX6_near : CalB yX6_near cX6_near 5 (some .int) 1 := ⟨tb_t 868 (by decide +kernel) (by decide +kernel), tb_t 6 (by decide +kernel) (by decide +kernel), by decide, by decide, by decide +kernel⟩
theorem cvX6_near : CalV yX6_near cX6_near 5 (some .int) 1 := ⟨cbX6_near, tb_t 867 (by decide +kernel) (by decide +kernel), tb_s 28 (by decide +kernel) (by decide +kernel)⟩
theorem cbX6_ones : CalB yX6_ones cX6_ones 3 (some .int) 1 := ⟨tb_t 872 (by decide +kernel) (by decide +kernel), tb_t 6 (by decide +kernel) (by decide +kernel), by decide, by decide, by decide +kernel⟩
theorem csX6_ones : CalS yX6_ones cX6_ones 3 (some .int) 1 := ⟨cbX6_ones, tb_t 871 (by decide +kernel) (by decide +kernel)⟩
theorem cbX6_change : CalB yX6_change cX6_change 4 (some .int) 3 := ⟨tb_t 876 (by decide +kernel) (by decide +kernel), tb_t 6 (by decide +kernel) (by decide +kernel), by decide, by decide, by decide +kernel⟩
theorem cvX6_change : CalV yX6_change cX6_change 4 (some .int) 3 := ⟨cbX6_change, tb_t 874 (by decide +kernel) (by decide +kernel), tb_t 875 (by decide +kernel) (by decide +kernel)⟩
theorem cbX6_mayBe : CalB yX6_mayBe cX6_mayBe 2 (some .boolean) 2 := ⟨tb_t 879 (by decide +kernel) (by decide +kernel), tb_t 6 (by decide +kernel) (by decide +kernel), by decide, by decide, by decide +kernel⟩
theorem csX6_mayBe : CalS yX6_mayBe cX6_mayBe 2 (some .boolean) 2 := ⟨cbX6_mayBe, tb_t 878 (by decide +kernel) (by decide +kernel)⟩
theorem cbX6_becomes : CalB yX6_becomes cX6_becomes 4 (some .int) 2 := ⟨tb_t 886 (by decide +kernel) (by decide +kernel), tb_t 6 (by decide +kernel) (by decide +kernel), by decide, by decide, by decide +kernel⟩
theorem cvX6_becomes : CalV yX6_becomes cX6_becomes 4 (some .int) 2 := ⟨cbX6_becomes, tb_t 885 (by decide +kernel) (by decide +kernel), tb_s 29 (by decide +kernel) (by decide +kernel)⟩
theorem cbX6_joke : CalB yX6_joke cX6_joke 3 (some .int) 2 := ⟨tb_t 890 (by decide +kernel) (by decide +kernel), tb_t 6 (by decide +kernel) (by decide +kernel), by decide, by decide, by decide +kernel⟩
theorem cvX6_joke : CalV yX6_joke cX6_joke 3 (some .int) 2 := ⟨cbX6_joke, tb_t 888 (by decide +kernel) (by decide +kernel), tb_t 889 (by decide +kernel) (by decide +kernel)⟩
theorem cbX6_isTopics : CalB yX6_isTopics cX6_isTopics 1 (some .boolean) 1 := ⟨tb_t 893 (by decide +kernel) (by decide +kernel), tb_t 6 (by decide +kernel) (by decide +kernel), by decide, by decide, by decide +kernel⟩
theorem csX6_isTopics : CalS yX6_isTopics cX6_isTopics 1 (some .boolean) 1 := ⟨cbX6_isTopics, tb_t 892 (by decide +kernel) (by decide +kernel)⟩
theorem cbX6_isFun : CalB yX6_isFun cX6_isFun 1 (some .boolean) 1 := ⟨tb_t 896 (by decide +kernel) (by decide +kernel), tb_t 6 (by decide +kernel) (by decide +kernel), by decide, by decide, by decide +kernel⟩
theorem csX6_isFun : CalS yX6_isFun cX6_isFun 1 (some .boolean) 1 := ⟨cbX6_isFun, tb_t 895 (by decide +kernel) (by decide +kernel)⟩
theorem cbX6_addsJoke : CalB yX6_addsJoke cX6_addsJoke 4 (some .int) 2 := ⟨tb_t 900 (by decide +kernel) (by decide +kernel), tb_t 6 (by decide +kernel) (by decide +kernel), by decide, by decide, by decide +kernel⟩
theorem cvX6_addsJoke : CalV yX6_addsJoke cX6_addsJoke 4 (some .int) 2 := ⟨cbX6_addsJoke, tb_t 899 (by decide +kernel) (by decide +kernel), tb_s 30 (by decide +kernel) (by decide +kernel)⟩
theorem cbX6_jokeOf : CalB yX6_jokeOf cX6_jokeOf 3 (some .int) 2 := ⟨tb_t 904 (by decide +kernel) (by decide +kernel), tb_t 6 (by decide +kernel) (by decide +kernel), by decide, by decide, by decide +kernel⟩
theorem cvX6_jokeOf : CalV yX6_jokeOf cX6_jokeOf 3 (some .int) 2 := ⟨cbX6_jokeOf, tb_t 902 (by decide +kernel) (by decide +kernel), tb_t 903 (by decide +kernel) (by decide +kernel)⟩
theorem cbX6_isJoke : CalB yX6_isJoke cX6_isJoke 2 (some .boolean) 1 := ⟨tb_t 908 (by decide +kernel) (by decide +kernel), tb_t 6 (by decide +kernel) (by decide +kernel), by decide, by decide, by decide +kernel⟩
theorem cvX6_isJoke : CalV yX6_isJoke cX6_isJoke 2 (some .boolean) 1 := ⟨cbX6_isJoke, tb_t 907 (by decide +kernel) (by decide +kernel), tb_s 31 (by decide +kernel) (by decide +kernel)⟩
theorem cbX6_law : CalB yX6_law cX6_law 3 (some .int) 2 := ⟨tb_t 912 (by decide +kernel) (by decide +kernel), tb_t 6 (by decide +kernel) (by decide +kernel), by decide, by decide, by decide +kernel⟩
theorem cvX6_law : CalV yX6_law cX6_law 3 (some .int) 2 := ⟨cbX6_law, tb_t 910 (by decide +kernel) (by decide +kernel), tb_t 911 (by decide +kernel) (by decide +kernel)⟩
theorem cbX6_strength : CalB yX6_strength cX6_strength 6 (some .int) 3 := ⟨tb_t 917 (by decide +kernel) (by decide +kernel), tb_t 6 (by decide +kernel) (by decide +kernel), by decide, by decide, by decide +kernel⟩
theorem cvX6_strength : CalV yX6_strength cX6_strength 6 (some .int) 3 := ⟨cbX6_strength, tb_t 915 (by decide +kernel) (by decide +kernel), tb_t 916 (by decide +kernel) (by decide +kernel)⟩
theorem cbX6_strong : CalB yX6_strong cX6_strong 4 (some .int) 3 := ⟨tb_t 922 (by decide +kernel) (by decide +kernel), tb_t 6 (by decide +kernel) (by decide +kernel), by decide, by decide, by decide +kernel⟩
theorem cvX6_strong : CalV yX6_strong cX6_strong 4 (some .int) 3 := ⟨cbX6_strong, tb_t 921 (by decide +kernel) (by decide +kernel), tb_s 32 (by decide +kernel) (by decide +kernel)⟩
theorem cbX6_seconds : CalB yX6_seconds cX6_seconds 5 (some .int) 3 := ⟨tb_t 926 (by decide +kernel) (by decide +kernel), tb_t 6 (by decide +kernel) (by decide +kernel), by decide, by decide, by decide +kernel⟩
theorem cvX6_seconds : CalV yX6_seconds cX6_seconds 5 (some .int) 3 := ⟨cbX6_seconds, tb_t 925 (by decide +kernel) (by decide +kernel), tb_s 33 (by decide +kernel) (by decide +kernel)⟩
theorem cbX6_due : CalB yX6_due cX6_due 4 (some .int) 3 := ⟨tb_t 931 (by decide +kernel) (by decide +kernel), tb_t 6 (by decide +kernel) (by decide +kernel), by decide, by decide, by decide +kernel⟩
theorem cvX6_due : CalV yX6_due cX6_due 4 (some .int) 3 := ⟨cbX6_due, tb_t 930 (by decide +kernel) (by decide +kernel), tb_s 34 (by decide +kernel) (by decide +kernel)⟩
theorem cbX6_tell : CalB yX6_tell cX6_tell 2 (some .int) 1 := ⟨tb_t 935 (by decide +kernel) (by decide +kernel), tb_t 6 (by decide +kernel) (by decide +kernel), by decide, by decide, by decide +kernel⟩
theorem cvX6_tell : CalV yX6_tell cX6_tell 2 (some .int) 1 := ⟨cbX6_tell, tb_t 933 (by decide +kernel) (by decide +kernel), tb_t 934 (by decide +kernel) (by decide +kernel)⟩
theorem cbX6_tells : CalB yX6_tells cX6_tells 8 (some .int) 1 := ⟨tb_t 940 (by decide +kernel) (by decide +kernel), tb_t 6 (by decide +kernel) (by decide +kernel), by decide, by decide, by decide +kernel⟩
theorem cvX6_tells : CalV yX6_tells cX6_tells 8 (some .int) 1 := ⟨cbX6_tells, tb_t 939 (by decide +kernel) (by decide +kernel), tb_s 35 (by decide +kernel) (by decide +kernel)⟩
theorem cbX6_laughAt : CalB yX6_laughAt cX6_laughAt 3 (some .int) 2 := ⟨tb_t 944 (by decide +kernel) (by decide +kernel), tb_t 6 (by decide +kernel) (by decide +kernel), by decide, by decide, by decide +kernel⟩
theorem cvX6_laughAt : CalV yX6_laughAt cX6_laughAt 3 (some .int) 2 := ⟨cbX6_laughAt, tb_t 943 (by decide +kernel) (by decide +kernel), tb_s 36 (by decide +kernel) (by decide +kernel)⟩
theorem cbX6_byThemselves : CalB yX6_byThemselves cX6_byThemselves 5 (some .int) 2 := ⟨tb_t 948 (by decide +kernel) (by decide +kernel), tb_t 6 (by decide +kernel) (by decide +kernel), by decide, by decide, by decide +kernel⟩
theorem cvX6_byThemselves : CalV yX6_byThemselves cX6_byThemselves 5 (some .int) 2 := ⟨cbX6_byThemselves, tb_t 947 (by decide +kernel) (by decide +kernel), tb_s 37 (by decide +kernel) (by decide +kernel)⟩
theorem cbX6_everybody : CalB yX6_everybody cX6_everybody 1 (some .int) 0 := ⟨tb_t 952 (by decide +kernel) (by decide +kernel), tb_t 6 (by decide +kernel) (by decide +kernel), by decide, by decide, by decide +kernel⟩
theorem cvX6_everybody : CalV yX6_everybody cX6_everybody 1 (some .int) 0 := ⟨cbX6_everybody, tb_t 951 (by decide +kernel) (by decide +kernel), tb_s 38 (by decide +kernel) (by decide +kernel)⟩
theorem cbX6_caughtFrom : CalB yX6_caughtFrom cX6_caughtFrom 8 (some .int) 2 := ⟨tb_t 956 (by decide +kernel) (by decide +kernel), tb_t 6 (by decide +kernel) (by decide +kernel), by decide, by decide, by decide +kernel⟩
theorem cvX6_caughtFrom : CalV yX6_caughtFrom cX6_caughtFrom 8 (some .int) 2 := ⟨cbX6_caughtFrom, tb_t 955 (by decide +kernel) (by decide +kernel), tb_s 39 (by decide +kernel) (by decide +kernel)⟩
theorem cbX6_evening : CalB yX6_evening cX6_evening 5 (some .int) 2 := ⟨tb_t 961 (by decide +kernel) (by decide +kernel), tb_t 6 (by decide +kernel) (by decide +kernel), by decide, by decide, by decide +kernel⟩
theorem cvX6_evening : CalV yX6_evening cX6_evening 5 (some .int) 2 := ⟨cbX6_evening, tb_t 959 (by decide +kernel) (by decide +kernel), tb_t 960 (by decide +kernel) (by decide +kernel)⟩
theorem cbX6_now : CalB yX6_now cX6_now 2 (some .int) 1 := ⟨tb_t 966 (by decide +kernel) (by decide +kernel), tb_t 6 (by decide +kernel) (by decide +kernel), by decide, by decide, by decide +kernel⟩
theorem cvX6_now : CalV yX6_now cX6_now 2 (some .int) 1 := ⟨cbX6_now, tb_t 964 (by decide +kernel) (by decide +kernel), tb_t 965 (by decide +kernel) (by decide +kernel)⟩
theorem cbX6_sumOf : CalB yX6_sumOf cX6_sumOf 4 (some .int) 1 := ⟨tb_t 970 (by decide +kernel) (by decide +kernel), tb_t 6 (by decide +kernel) (by decide +kernel), by decide, by decide, by decide +kernel⟩
theorem cvX6_sumOf : CalV yX6_sumOf cX6_sumOf 4 (some .int) 1 := ⟨cbX6_sumOf, tb_t 969 (by decide +kernel) (by decide +kernel), tb_s 40 (by decide +kernel) (by decide +kernel)⟩
theorem cbX6_relief : CalB yX6_relief cX6_relief 4 (some .int) 1 := ⟨tb_t 974 (by decide +kernel) (by decide +kernel), tb_t 6 (by decide +kernel) (by decide +kernel), by decide, by decide, by decide +kernel⟩
theorem cvX6_relief : CalV yX6_relief cX6_relief 4 (some .int) 1 := ⟨cbX6_relief, tb_t 972 (by decide +kernel) (by decide +kernel), tb_t 973 (by decide +kernel) (by decide +kernel)⟩
theorem cbX6_poorest : CalB yX6_poorest cX6_poorest 3 (some .int) 0 := ⟨tb_t 978 (by decide +kernel) (by decide +kernel), tb_t 6 (by decide +kernel) (by decide +kernel), by decide, by decide, by decide +kernel⟩
theorem cvX6_poorest : CalV yX6_poorest cX6_poorest 3 (some .int) 0 := ⟨cbX6_poorest, tb_t 977 (by decide +kernel) (by decide +kernel), tb_s 41 (by decide +kernel) (by decide +kernel)⟩
theorem cbX6_laugh : CalB yX6_laugh cX6_laugh 3 (some .int) 2 := ⟨tb_t 982 (by decide +kernel) (by decide +kernel), tb_t 6 (by decide +kernel) (by decide +kernel), by decide, by decide, by decide +kernel⟩
theorem cvX6_laugh : CalV yX6_laugh cX6_laugh 3 (some .int) 2 := ⟨cbX6_laugh, tb_t 980 (by decide +kernel) (by decide +kernel), tb_t 981 (by decide +kernel) (by decide +kernel)⟩
theorem cbX6_laughAt_ : CalB yX6_laughAt_ cX6_laughAt_ 2 (some .int) 1 := ⟨tb_t 986 (by decide +kernel) (by decide +kernel), tb_t 6 (by decide +kernel) (by decide +kernel), by decide, by decide, by decide +kernel⟩
theorem cvX6_laughAt_ : CalV yX6_laughAt_ cX6_laughAt_ 2 (some .int) 1 := ⟨cbX6_laughAt_, tb_t 985 (by decide +kernel) (by decide +kernel), tb_s 42 (by decide +kernel) (by decide +kernel)⟩
theorem cbX6_rounds : CalB yX6_rounds cX6_rounds 3 (some .int) 1 := ⟨tb_t 990 (by decide +kernel) (by decide +kernel), tb_t 6 (by decide +kernel) (by decide +kernel), by decide, by decide, by decide +kernel⟩
theorem cvX6_rounds : CalV yX6_rounds cX6_rounds 3 (some .int) 1 := ⟨cbX6_rounds, tb_t 988 (by decide +kernel) (by decide +kernel), tb_t 989 (by decide +kernel) (by decide +kernel)⟩
theorem cbX6_raised : CalB yX6_raised cX6_raised 3 (some .int) 1 := ⟨tb_t 994 (by decide +kernel) (by decide +kernel), tb_t 6 (by decide +kernel) (by decide +kernel), by decide, by decide, by decide +kernel⟩
theorem cvX6_raised : CalV yX6_raised cX6_raised 3 (some .int) 1 := ⟨cbX6_raised, tb_t 992 (by decide +kernel) (by decide +kernel), tb_t 993 (by decide +kernel) (by decide +kernel)⟩
theorem cbX6_lends : CalB yX6_lends cX6_lends 1 none 0 := ⟨tb_t 998 (by decide +kernel) (by decide +kernel), tb_t 6 (by decide +kernel) (by decide +kernel), by decide, by decide, by decide +kernel⟩
theorem cvX6_lends : CalV yX6_lends cX6_lends 1 none 0 := ⟨cbX6_lends, tb_t 997 (by decide +kernel) (by decide +kernel), tb_s 43 (by decide +kernel) (by decide +kernel)⟩
theorem cbX6_become : CalB yX6_become cX6_become 3 none 2 := ⟨tb_t 1001 (by decide +kernel) (by decide +kernel), tb_t 6 (by decide +kernel) (by decide +kernel), by decide, by decide, by decide +kernel⟩
theorem csX6_become : CalS yX6_become cX6_become 3 none 2 := ⟨cbX6_become, tb_t 1000 (by decide +kernel) (by decide +kernel)⟩
theorem cbX6_laysBack : CalB yX6_laysBack cX6_laysBack 1 none 0 := ⟨tb_t 1005 (by decide +kernel) (by decide +kernel), tb_t 6 (by decide +kernel) (by decide +kernel), by decide, by decide, by decide +kernel⟩
theorem cvX6_laysBack : CalV yX6_laysBack cX6_laysBack 1 none 0 := ⟨cbX6_laysBack, tb_t 1004 (by decide +kernel) (by decide +kernel), tb_s 44 (by decide +kernel) (by decide +kernel)⟩
theorem cbX6_allPaid : CalB yX6_allPaid cX6_allPaid 3 (some .int) 0 := ⟨tb_t 1009 (by decide +kernel) (by decide +kernel), tb_t 6 (by decide +kernel) (by decide +kernel), by decide, by decide, by decide +kernel⟩
theorem cvX6_allPaid : CalV yX6_allPaid cX6_allPaid 3 (some .int) 0 := ⟨cbX6_allPaid, tb_t 1008 (by decide +kernel) (by decide +kernel), tb_s 45 (by decide +kernel) (by decide +kernel)⟩
theorem cbX6_ahead : CalB yX6_ahead cX6_ahead 5 (some .int) 2 := ⟨tb_t 1013 (by decide +kernel) (by decide +kernel), tb_t 6 (by decide +kernel) (by decide +kernel), by decide, by decide, by decide +kernel⟩
theorem cvX6_ahead : CalV yX6_ahead cX6_ahead 5 (some .int) 2 := ⟨cbX6_ahead, tb_t 1011 (by decide +kernel) (by decide +kernel), tb_t 1012 (by decide +kernel) (by decide +kernel)⟩
theorem cbX6_stale : CalB yX6_stale cX6_stale 4 (some .int) 1 := ⟨tb_t 1017 (by decide +kernel) (by decide +kernel), tb_t 6 (by decide +kernel) (by decide +kernel), by decide, by decide, by decide +kernel⟩
theorem cvX6_stale : CalV yX6_stale cX6_stale 4 (some .int) 1 := ⟨cbX6_stale, tb_t 1015 (by decide +kernel) (by decide +kernel), tb_t 1016 (by decide +kernel) (by decide +kernel)⟩
theorem cbX6_orNone : CalB yX6_orNone cX6_orNone 2 (some .int) 1 := ⟨tb_t 1021 (by decide +kernel) (by decide +kernel), tb_t 6 (by decide +kernel) (by decide +kernel), by decide, by decide, by decide +kernel⟩
theorem cvX6_orNone : CalV yX6_orNone cX6_orNone 2 (some .int) 1 := ⟨cbX6_orNone, tb_t 1020 (by decide +kernel) (by decide +kernel), tb_s 46 (by decide +kernel) (by decide +kernel)⟩
theorem cbX6_broke : CalB yX6_broke cX6_broke 5 (some .int) 2 := ⟨tb_t 1025 (by decide +kernel) (by decide +kernel), tb_t 6 (by decide +kernel) (by decide +kernel), by decide, by decide, by decide +kernel⟩
theorem cvX6_broke : CalV yX6_broke cX6_broke 5 (some .int) 2 := ⟨cbX6_broke, tb_t 1023 (by decide +kernel) (by decide +kernel), tb_t 1024 (by decide +kernel) (by decide +kernel)⟩
theorem cbX6_caught : CalB yX6_caught cX6_caught 2 (some .int) 1 := ⟨tb_t 1029 (by decide +kernel) (by decide +kernel), tb_t 6 (by decide +kernel) (by decide +kernel), by decide, by decide, by decide +kernel⟩
theorem cvX6_caught : CalV yX6_caught cX6_caught 2 (some .int) 1 := ⟨cbX6_caught, tb_t 1027 (by decide +kernel) (by decide +kernel), tb_t 1028 (by decide +kernel) (by decide +kernel)⟩
theorem cbX6_starter : CalB yX6_starter cX6_starter 5 (some .int) 0 := ⟨tb_t 1033 (by decide +kernel) (by decide +kernel), tb_t 6 (by decide +kernel) (by decide +kernel), by decide, by decide, by decide +kernel⟩
theorem cvX6_starter : CalV yX6_starter cX6_starter 5 (some .int) 0 := ⟨cbX6_starter, tb_t 1031 (by decide +kernel) (by decide +kernel), tb_t 1032 (by decide +kernel) (by decide +kernel)⟩
theorem cbX6_fewest : CalB yX6_fewest cX6_fewest 4 (some .int) 0 := ⟨tb_t 1037 (by decide +kernel) (by decide +kernel), tb_t 6 (by decide +kernel) (by decide +kernel), by decide, by decide, by decide +kernel⟩
theorem cvX6_fewest : CalV yX6_fewest cX6_fewest 4 (some .int) 0 := ⟨cbX6_fewest, tb_t 1035 (by decide +kernel) (by decide +kernel), tb_t 1036 (by decide +kernel) (by decide +kernel)⟩
theorem cbX6_away : CalB yX6_away cX6_away 6 (some .int) 2 := ⟨tb_t 1041 (by decide +kernel) (by decide +kernel), tb_t 6 (by decide +kernel) (by decide +kernel), by decide, by decide, by decide +kernel⟩
theorem cvX6_away : CalV yX6_away cX6_away 6 (some .int) 2 := ⟨cbX6_away, tb_t 1039 (by decide +kernel) (by decide +kernel), tb_t 1040 (by decide +kernel) (by decide +kernel)⟩
theorem cbX6_leftWithout : CalB yX6_leftWithout cX6_leftWithout 3 (some .int) 2 := ⟨tb_t 1046 (by decide +kernel) (by decide +kernel), tb_t 6 (by decide +kernel) (by decide +kernel), by decide, by decide, by decide +kernel⟩
theorem cvX6_leftWithout : CalV yX6_leftWithout cX6_leftWithout 3 (some .int) 2 := ⟨cbX6_leftWithout, tb_t 1045 (by decide +kernel) (by decide +kernel), tb_s 47 (by decide +kernel) (by decide +kernel)⟩
theorem cbX6_seatFor : CalB yX6_seatFor cX6_seatFor 8 (some .int) 2 := ⟨tb_t 1050 (by decide +kernel) (by decide +kernel), tb_t 6 (by decide +kernel) (by decide +kernel), by decide, by decide, by decide +kernel⟩
theorem cvX6_seatFor : CalV yX6_seatFor cX6_seatFor 8 (some .int) 2 := ⟨cbX6_seatFor, tb_t 1048 (by decide +kernel) (by decide +kernel), tb_t 1049 (by decide +kernel) (by decide +kernel)⟩
theorem cbX6_kindFor : CalB yX6_kindFor cX6_kindFor 8 (some .int) 2 := ⟨tb_t 1054 (by decide +kernel) (by decide +kernel), tb_t 6 (by decide +kernel) (by decide +kernel), by decide, by decide, by decide +kernel⟩
theorem cvX6_kindFor : CalV yX6_kindFor cX6_kindFor 8 (some .int) 2 := ⟨cbX6_kindFor, tb_t 1052 (by decide +kernel) (by decide +kernel), tb_t 1053 (by decide +kernel) (by decide +kernel)⟩
theorem cbX6_reachFor : CalB yX6_reachFor cX6_reachFor 5 (some .int) 1 := ⟨tb_t 1058 (by decide +kernel) (by decide +kernel), tb_t 6 (by decide +kernel) (by decide +kernel), by decide, by decide, by decide +kernel⟩
theorem cvX6_reachFor : CalV yX6_reachFor cX6_reachFor 5 (some .int) 1 := ⟨cbX6_reachFor, tb_t 1056 (by decide +kernel) (by decide +kernel), tb_t 1057 (by decide +kernel) (by decide +kernel)⟩
theorem cbX6_rateFor : CalB yX6_rateFor cX6_rateFor 9 (some .int) 2 := ⟨tb_t 1062 (by decide +kernel) (by decide +kernel), tb_t 6 (by decide +kernel) (by decide +kernel), by decide, by decide, by decide +kernel⟩
theorem cvX6_rateFor : CalV yX6_rateFor cX6_rateFor 9 (some .int) 2 := ⟨cbX6_rateFor, tb_t 1060 (by decide +kernel) (by decide +kernel), tb_t 1061 (by decide +kernel) (by decide +kernel)⟩
theorem cbX6_best : CalB yX6_best cX6_best 6 (some .int) 1 := ⟨tb_t 1066 (by decide +kernel) (by decide +kernel), tb_t 6 (by decide +kernel) (by decide +kernel), by decide, by decide, by decide +kernel⟩
theorem cvX6_best : CalV yX6_best cX6_best 6 (some .int) 1 := ⟨cbX6_best, tb_t 1064 (by decide +kernel) (by decide +kernel), tb_t 1065 (by decide +kernel) (by decide +kernel)⟩
theorem cbX6_quiet : CalB yX6_quiet cX6_quiet 6 (some .int) 1 := ⟨tb_t 1070 (by decide +kernel) (by decide +kernel), tb_t 6 (by decide +kernel) (by decide +kernel), by decide, by decide, by decide +kernel⟩
theorem cvX6_quiet : CalV yX6_quiet cX6_quiet 6 (some .int) 1 := ⟨cbX6_quiet, tb_t 1068 (by decide +kernel) (by decide +kernel), tb_t 1069 (by decide +kernel) (by decide +kernel)⟩
theorem cbX6_safe : CalB yX6_safe cX6_safe 4 (some .int) 1 := ⟨tb_t 1074 (by decide +kernel) (by decide +kernel), tb_t 6 (by decide +kernel) (by decide +kernel), by decide, by decide, by decide +kernel⟩
theorem cvX6_safe : CalV yX6_safe cX6_safe 4 (some .int) 1 := ⟨cbX6_safe, tb_t 1072 (by decide +kernel) (by decide +kernel), tb_t 1073 (by decide +kernel) (by decide +kernel)⟩
theorem cbX6_tastes : CalB yX6_tastes cX6_tastes 5 (some .int) 3 := ⟨tb_t 1078 (by decide +kernel) (by decide +kernel), tb_t 6 (by decide +kernel) (by decide +kernel), by decide, by decide, by decide +kernel⟩
theorem cvX6_tastes : CalV yX6_tastes cX6_tastes 5 (some .int) 3 := ⟨cbX6_tastes, tb_t 1076 (by decide +kernel) (by decide +kernel), tb_t 1077 (by decide +kernel) (by decide +kernel)⟩
theorem cbX6_lacksTastes : CalB yX6_lacksTastes cX6_lacksTastes 5 (some .int) 3 := ⟨tb_t 1082 (by decide +kernel) (by decide +kernel), tb_t 6 (by decide +kernel) (by decide +kernel), by decide, by decide, by decide +kernel⟩
theorem cvX6_lacksTastes : CalV yX6_lacksTastes cX6_lacksTastes 5 (some .int) 3 := ⟨cbX6_lacksTastes, tb_t 1081 (by decide +kernel) (by decide +kernel), tb_s 48 (by decide +kernel) (by decide +kernel)⟩
theorem cbX6_lacks : CalB yX6_lacks cX6_lacks 2 (some .int) 1 := ⟨tb_t 1086 (by decide +kernel) (by decide +kernel), tb_t 6 (by decide +kernel) (by decide +kernel), by decide, by decide, by decide +kernel⟩
theorem cvX6_lacks : CalV yX6_lacks cX6_lacks 2 (some .int) 1 := ⟨cbX6_lacks, tb_t 1085 (by decide +kernel) (by decide +kernel), tb_s 49 (by decide +kernel) (by decide +kernel)⟩
theorem cbX6_isSheet : CalB yX6_isSheet cX6_isSheet 1 (some .boolean) 1 := ⟨tb_t 1089 (by decide +kernel) (by decide +kernel), tb_t 6 (by decide +kernel) (by decide +kernel), by decide, by decide, by decide +kernel⟩
theorem csX6_isSheet : CalS yX6_isSheet cX6_isSheet 1 (some .boolean) 1 := ⟨cbX6_isSheet, tb_t 1088 (by decide +kernel) (by decide +kernel)⟩
theorem cbX6_findTastes : CalB yX6_findTastes cX6_findTastes 7 (some .int) 3 := ⟨tb_t 1094 (by decide +kernel) (by decide +kernel), tb_t 6 (by decide +kernel) (by decide +kernel), by decide, by decide, by decide +kernel⟩
theorem cvX6_findTastes : CalV yX6_findTastes cX6_findTastes 7 (some .int) 3 := ⟨cbX6_findTastes, tb_t 1093 (by decide +kernel) (by decide +kernel), tb_s 50 (by decide +kernel) (by decide +kernel)⟩
theorem cbX6_paysSo : CalB yX6_paysSo cX6_paysSo 8 (some .boolean) 3 := ⟨tb_t 1098 (by decide +kernel) (by decide +kernel), tb_t 6 (by decide +kernel) (by decide +kernel), by decide, by decide, by decide +kernel⟩
theorem cvX6_paysSo : CalV yX6_paysSo cX6_paysSo 8 (some .boolean) 3 := ⟨cbX6_paysSo, tb_t 1097 (by decide +kernel) (by decide +kernel), tb_s 51 (by decide +kernel) (by decide +kernel)⟩
theorem cbX6_taste : CalB yX6_taste cX6_taste 5 (some .int) 3 := ⟨tb_t 1102 (by decide +kernel) (by decide +kernel), tb_t 6 (by decide +kernel) (by decide +kernel), by decide, by decide, by decide +kernel⟩
theorem cvX6_taste : CalV yX6_taste cX6_taste 5 (some .int) 3 := ⟨cbX6_taste, tb_t 1100 (by decide +kernel) (by decide +kernel), tb_t 1101 (by decide +kernel) (by decide +kernel)⟩
theorem cbX6_which : CalB yX6_which cX6_which 9 (some .int) 1 := ⟨tb_t 1106 (by decide +kernel) (by decide +kernel), tb_t 6 (by decide +kernel) (by decide +kernel), by decide, by decide, by decide +kernel⟩
theorem cvX6_which : CalV yX6_which cX6_which 9 (some .int) 1 := ⟨cbX6_which, tb_t 1104 (by decide +kernel) (by decide +kernel), tb_t 1105 (by decide +kernel) (by decide +kernel)⟩
theorem cbX6_shows : CalB yX6_shows cX6_shows 4 (some .int) 1 := ⟨tb_t 1110 (by decide +kernel) (by decide +kernel), tb_t 6 (by decide +kernel) (by decide +kernel), by decide, by decide, by decide +kernel⟩
theorem cvX6_shows : CalV yX6_shows cX6_shows 4 (some .int) 1 := ⟨cbX6_shows, tb_t 1108 (by decide +kernel) (by decide +kernel), tb_t 1109 (by decide +kernel) (by decide +kernel)⟩
theorem cbX6_draw : CalB yX6_draw cX6_draw 1 (some .int) 0 := ⟨tb_t 1114 (by decide +kernel) (by decide +kernel), tb_t 6 (by decide +kernel) (by decide +kernel), by decide, by decide, by decide +kernel⟩
theorem cvX6_draw : CalV yX6_draw cX6_draw 1 (some .int) 0 := ⟨cbX6_draw, tb_t 1113 (by decide +kernel) (by decide +kernel), tb_s 52 (by decide +kernel) (by decide +kernel)⟩
theorem cbX6_odds : CalB yX6_odds cX6_odds 14 (some .long) 2 := ⟨tb_t 1119 (by decide +kernel) (by decide +kernel), tb_t 6 (by decide +kernel) (by decide +kernel), by decide, by decide, by decide +kernel⟩
theorem cvX6_odds : CalV yX6_odds cX6_odds 14 (some .long) 2 := ⟨cbX6_odds, tb_t 1117 (by decide +kernel) (by decide +kernel), tb_t 1118 (by decide +kernel) (by decide +kernel)⟩
theorem cbX6_seed : CalB yX6_seed cX6_seed 2 (some .int) 1 := ⟨tb_t 1124 (by decide +kernel) (by decide +kernel), tb_t 6 (by decide +kernel) (by decide +kernel), by decide, by decide, by decide +kernel⟩
theorem cvX6_seed : CalV yX6_seed cX6_seed 2 (some .int) 1 := ⟨cbX6_seed, tb_t 1122 (by decide +kernel) (by decide +kernel), tb_t 1123 (by decide +kernel) (by decide +kernel)⟩
theorem cbX6_feed : CalB yX6_feed cX6_feed 4 (some .int) 2 := ⟨tb_t 1128 (by decide +kernel) (by decide +kernel), tb_t 6 (by decide +kernel) (by decide +kernel), by decide, by decide, by decide +kernel⟩
theorem cvX6_feed : CalV yX6_feed cX6_feed 4 (some .int) 2 := ⟨cbX6_feed, tb_t 1126 (by decide +kernel) (by decide +kernel), tb_t 1127 (by decide +kernel) (by decide +kernel)⟩
theorem cbX6_wipe : CalB yX6_wipe cX6_wipe 2 (some .int) 0 := ⟨tb_t 1133 (by decide +kernel) (by decide +kernel), tb_t 6 (by decide +kernel) (by decide +kernel), by decide, by decide, by decide +kernel⟩
theorem cvX6_wipe : CalV yX6_wipe cX6_wipe 2 (some .int) 0 := ⟨cbX6_wipe, tb_t 1131 (by decide +kernel) (by decide +kernel), tb_t 1132 (by decide +kernel) (by decide +kernel)⟩
theorem cbX6_text : CalB yX6_text cX6_text 2 (some .int) 0 := ⟨tb_t 1137 (by decide +kernel) (by decide +kernel), tb_t 6 (by decide +kernel) (by decide +kernel), by decide, by decide, by decide +kernel⟩
theorem cvX6_text : CalV yX6_text cX6_text 2 (some .int) 0 := ⟨cbX6_text, tb_t 1135 (by decide +kernel) (by decide +kernel), tb_t 1136 (by decide +kernel) (by decide +kernel)⟩
theorem cbX6_next : CalB yX6_next cX6_next 3 none 0 := ⟨tb_t 1141 (by decide +kernel) (by decide +kernel), tb_t 6 (by decide +kernel) (by decide +kernel), by decide, by decide, by decide +kernel⟩
theorem cvX6_next : CalV yX6_next cX6_next 3 none 0 := ⟨cbX6_next, tb_t 1140 (by decide +kernel) (by decide +kernel), tb_s 53 (by decide +kernel) (by decide +kernel)⟩
theorem cbX6_isByte : CalB yX6_isByte cX6_isByte 4 (some .boolean) 3 := ⟨tb_t 1145 (by decide +kernel) (by decide +kernel), tb_t 6 (by decide +kernel) (by decide +kernel), by decide, by decide, by decide +kernel⟩
theorem cvX6_isByte : CalV yX6_isByte cX6_isByte 4 (some .boolean) 3 := ⟨cbX6_isByte, tb_t 1144 (by decide +kernel) (by decide +kernel), tb_s 54 (by decide +kernel) (by decide +kernel)⟩
theorem cbX6_item : CalB yX6_item cX6_item 2 none 0 := ⟨tb_t 1149 (by decide +kernel) (by decide +kernel), tb_t 6 (by decide +kernel) (by decide +kernel), by decide, by decide, by decide +kernel⟩
theorem cvX6_item : CalV yX6_item cX6_item 2 none 0 := ⟨cbX6_item, tb_t 1148 (by decide +kernel) (by decide +kernel), tb_s 55 (by decide +kernel) (by decide +kernel)⟩
theorem cbX6_kindHere : CalB yX6_kindHere cX6_kindHere 3 (some .int) 0 := ⟨tb_t 1153 (by decide +kernel) (by decide +kernel), tb_t 6 (by decide +kernel) (by decide +kernel), by decide, by decide, by decide +kernel⟩
theorem cvX6_kindHere : CalV yX6_kindHere cX6_kindHere 3 (some .int) 0 := ⟨cbX6_kindHere, tb_t 1152 (by decide +kernel) (by decide +kernel), tb_s 56 (by decide +kernel) (by decide +kernel)⟩
theorem cbX6_isWord : CalB yX6_isWord cX6_isWord 4 (some .boolean) 1 := ⟨tb_t 1158 (by decide +kernel) (by decide +kernel), tb_t 6 (by decide +kernel) (by decide +kernel), by decide, by decide, by decide +kernel⟩
theorem cvX6_isWord : CalV yX6_isWord cX6_isWord 4 (some .boolean) 1 := ⟨cbX6_isWord, tb_t 1157 (by decide +kernel) (by decide +kernel), tb_s 57 (by decide +kernel) (by decide +kernel)⟩
theorem cbX6_personTold : CalB yX6_personTold cX6_personTold 3 none 1 := ⟨tb_t 1170 (by decide +kernel) (by decide +kernel), tb_t 6 (by decide +kernel) (by decide +kernel), by decide, by decide, by decide +kernel⟩
theorem cvX6_personTold : CalV yX6_personTold cX6_personTold 3 none 1 := ⟨cbX6_personTold, tb_t 1169 (by decide +kernel) (by decide +kernel), tb_s 58 (by decide +kernel) (by decide +kernel)⟩
theorem cbX6_must : CalB yX6_must cX6_must 2 none 1 := ⟨tb_t 1174 (by decide +kernel) (by decide +kernel), tb_t 6 (by decide +kernel) (by decide +kernel), by decide, by decide, by decide +kernel⟩
theorem cvX6_must : CalV yX6_must cX6_must 2 none 1 := ⟨cbX6_must, tb_t 1173 (by decide +kernel) (by decide +kernel), tb_s 59 (by decide +kernel) (by decide +kernel)⟩
theorem cbX6_partTold : CalB yX6_partTold cX6_partTold 5 none 4 := ⟨tb_t 1179 (by decide +kernel) (by decide +kernel), tb_t 6 (by decide +kernel) (by decide +kernel), by decide, by decide, by decide +kernel⟩
theorem cvX6_partTold : CalV yX6_partTold cX6_partTold 5 none 4 := ⟨cbX6_partTold, tb_t 1178 (by decide +kernel) (by decide +kernel), tb_s 60 (by decide +kernel) (by decide +kernel)⟩
theorem cbX6_takes : CalB yX6_takes cX6_takes 3 (some .boolean) 1 := ⟨tb_t 1183 (by decide +kernel) (by decide +kernel), tb_t 6 (by decide +kernel) (by decide +kernel), by decide, by decide, by decide +kernel⟩
theorem cvX6_takes : CalV yX6_takes cX6_takes 3 (some .boolean) 1 := ⟨cbX6_takes, tb_t 1182 (by decide +kernel) (by decide +kernel), tb_s 61 (by decide +kernel) (by decide +kernel)⟩
theorem cbX6_numberRead : CalB yX6_numberRead cX6_numberRead 5 (some .int) 2 := ⟨tb_t 1187 (by decide +kernel) (by decide +kernel), tb_t 6 (by decide +kernel) (by decide +kernel), by decide, by decide, by decide +kernel⟩
theorem cvX6_numberRead : CalV yX6_numberRead cX6_numberRead 5 (some .int) 2 := ⟨cbX6_numberRead, tb_t 1186 (by decide +kernel) (by decide +kernel), tb_s 62 (by decide +kernel) (by decide +kernel)⟩
theorem cbX6_jokeTold : CalB yX6_jokeTold cX6_jokeTold 4 none 0 := ⟨tb_t 1195 (by decide +kernel) (by decide +kernel), tb_t 6 (by decide +kernel) (by decide +kernel), by decide, by decide, by decide +kernel⟩
theorem cvX6_jokeTold : CalV yX6_jokeTold cX6_jokeTold 4 none 0 := ⟨cbX6_jokeTold, tb_t 1194 (by decide +kernel) (by decide +kernel), tb_s 63 (by decide +kernel) (by decide +kernel)⟩
theorem cbX6_hold : CalB yX6_hold cX6_hold 3 (some .int) 2 := ⟨tb_t 1202 (by decide +kernel) (by decide +kernel), tb_t 6 (by decide +kernel) (by decide +kernel), by decide, by decide, by decide +kernel⟩
theorem cvX6_hold : CalV yX6_hold cX6_hold 3 (some .int) 2 := ⟨cbX6_hold, tb_t 1200 (by decide +kernel) (by decide +kernel), tb_t 1201 (by decide +kernel) (by decide +kernel)⟩
theorem cbX6_isSpot : CalB yX6_isSpot cX6_isSpot 1 (some .boolean) 1 := ⟨tb_t 1205 (by decide +kernel) (by decide +kernel), tb_t 6 (by decide +kernel) (by decide +kernel), by decide, by decide, by decide +kernel⟩
theorem csX6_isSpot : CalS yX6_isSpot cX6_isSpot 1 (some .boolean) 1 := ⟨cbX6_isSpot, tb_t 1204 (by decide +kernel) (by decide +kernel)⟩
theorem cbX6_as : CalB yX6_as cX6_as 4 (some .int) 2 := ⟨tb_t 1209 (by decide +kernel) (by decide +kernel), tb_t 6 (by decide +kernel) (by decide +kernel), by decide, by decide, by decide +kernel⟩
theorem cvX6_as : CalV yX6_as cX6_as 4 (some .int) 2 := ⟨cbX6_as, tb_t 1207 (by decide +kernel) (by decide +kernel), tb_t 1208 (by decide +kernel) (by decide +kernel)⟩
theorem cbX6_isUnder : CalB yX6_isUnder cX6_isUnder 3 (some .boolean) 2 := ⟨tb_t 1212 (by decide +kernel) (by decide +kernel), tb_t 6 (by decide +kernel) (by decide +kernel), by decide, by decide, by decide +kernel⟩
theorem csX6_isUnder : CalS yX6_isUnder cX6_isUnder 3 (some .boolean) 2 := ⟨cbX6_isUnder, tb_t 1211 (by decide +kernel) (by decide +kernel)⟩
theorem cbX6_aboveOf : CalB yX6_aboveOf cX6_aboveOf 1 (some .int) 1 := ⟨tb_t 1215 (by decide +kernel) (by decide +kernel), tb_t 6 (by decide +kernel) (by decide +kernel), by decide, by decide, by decide +kernel⟩
theorem csX6_aboveOf : CalS yX6_aboveOf cX6_aboveOf 1 (some .int) 1 := ⟨cbX6_aboveOf, tb_t 1214 (by decide +kernel) (by decide +kernel)⟩
theorem cbX6_sheet : CalB yX6_sheet cX6_sheet 6 (some .int) 3 := ⟨tb_t 1219 (by decide +kernel) (by decide +kernel), tb_t 6 (by decide +kernel) (by decide +kernel), by decide, by decide, by decide +kernel⟩
theorem cvX6_sheet : CalV yX6_sheet cX6_sheet 6 (some .int) 3 := ⟨cbX6_sheet, tb_t 1217 (by decide +kernel) (by decide +kernel), tb_t 1218 (by decide +kernel) (by decide +kernel)⟩
theorem cbX6_write : CalB yX6_write cX6_write 5 (some .int) 3 := ⟨tb_t 1223 (by decide +kernel) (by decide +kernel), tb_t 6 (by decide +kernel) (by decide +kernel), by decide, by decide, by decide +kernel⟩
theorem cvX6_write : CalV yX6_write cX6_write 5 (some .int) 3 := ⟨cbX6_write, tb_t 1221 (by decide +kernel) (by decide +kernel), tb_t 1222 (by decide +kernel) (by decide +kernel)⟩
theorem cbX6_copy : CalB yX6_copy cX6_copy 8 (some .int) 5 := ⟨tb_t 1227 (by decide +kernel) (by decide +kernel), tb_t 6 (by decide +kernel) (by decide +kernel), by decide, by decide, by decide +kernel⟩
theorem cvX6_copy : CalV yX6_copy cX6_copy 8 (some .int) 5 := ⟨cbX6_copy, tb_t 1225 (by decide +kernel) (by decide +kernel), tb_t 1226 (by decide +kernel) (by decide +kernel)⟩
theorem cbX6_load : CalB yX6_load cX6_load 4 (some .int) 1 := ⟨tb_t 1231 (by decide +kernel) (by decide +kernel), tb_t 6 (by decide +kernel) (by decide +kernel), by decide, by decide, by decide +kernel⟩
theorem cvX6_load : CalV yX6_load cX6_load 4 (some .int) 1 := ⟨cbX6_load, tb_t 1229 (by decide +kernel) (by decide +kernel), tb_t 1230 (by decide +kernel) (by decide +kernel)⟩
theorem cbX6_judge : CalB yX6_judge cX6_judge 5 (some .int) 1 := ⟨tb_t 1235 (by decide +kernel) (by decide +kernel), tb_t 6 (by decide +kernel) (by decide +kernel), by decide, by decide, by decide +kernel⟩
theorem cvX6_judge : CalV yX6_judge cX6_judge 5 (some .int) 1 := ⟨cbX6_judge, tb_t 1233 (by decide +kernel) (by decide +kernel), tb_t 1234 (by decide +kernel) (by decide +kernel)⟩
theorem cbX6_goesOn : CalB yX6_goesOn cX6_goesOn 6 (some .boolean) 2 := ⟨tb_t 1239 (by decide +kernel) (by decide +kernel), tb_t 6 (by decide +kernel) (by decide +kernel), by decide, by decide, by decide +kernel⟩
theorem cvX6_goesOn : CalV yX6_goesOn cX6_goesOn 6 (some .boolean) 2 := ⟨cbX6_goesOn, tb_t 1238 (by decide +kernel) (by decide +kernel), tb_s 64 (by decide +kernel) (by decide +kernel)⟩
theorem cbX6_image : CalB yX6_image cX6_image 1 (some .int) 0 := ⟨tb_t 1243 (by decide +kernel) (by decide +kernel), tb_t 6 (by decide +kernel) (by decide +kernel), by decide, by decide, by decide +kernel⟩
theorem cvX6_image : CalV yX6_image cX6_image 1 (some .int) 0 := ⟨cbX6_image, tb_t 1241 (by decide +kernel) (by decide +kernel), tb_t 1242 (by decide +kernel) (by decide +kernel)⟩
theorem cbX6_undo : CalB yX6_undo cX6_undo 1 (some .int) 0 := ⟨tb_t 1247 (by decide +kernel) (by decide +kernel), tb_t 6 (by decide +kernel) (by decide +kernel), by decide, by decide, by decide +kernel⟩
theorem cvX6_undo : CalV yX6_undo cX6_undo 1 (some .int) 0 := ⟨cbX6_undo, tb_t 1245 (by decide +kernel) (by decide +kernel), tb_t 1246 (by decide +kernel) (by decide +kernel)⟩
theorem cbX6_tear : CalB yX6_tear cX6_tear 2 (some .int) 0 := ⟨tb_t 1251 (by decide +kernel) (by decide +kernel), tb_t 6 (by decide +kernel) (by decide +kernel), by decide, by decide, by decide +kernel⟩
theorem cvX6_tear : CalV yX6_tear cX6_tear 2 (some .int) 0 := ⟨cbX6_tear, tb_t 1249 (by decide +kernel) (by decide +kernel), tb_t 1250 (by decide +kernel) (by decide +kernel)⟩
theorem cbX6_count : CalB yX6_count cX6_count 2 (some .int) 1 := ⟨tb_t 1255 (by decide +kernel) (by decide +kernel), tb_t 6 (by decide +kernel) (by decide +kernel), by decide, by decide, by decide +kernel⟩
theorem cvX6_count : CalV yX6_count cX6_count 2 (some .int) 1 := ⟨cbX6_count, tb_t 1253 (by decide +kernel) (by decide +kernel), tb_t 1254 (by decide +kernel) (by decide +kernel)⟩
theorem cbX6_held : CalB yX6_held cX6_held 3 (some .int) 0 := ⟨tb_t 1259 (by decide +kernel) (by decide +kernel), tb_t 6 (by decide +kernel) (by decide +kernel), by decide, by decide, by decide +kernel⟩
theorem cvX6_held : CalV yX6_held cX6_held 3 (some .int) 0 := ⟨cbX6_held, tb_t 1258 (by decide +kernel) (by decide +kernel), tb_s 65 (by decide +kernel) (by decide +kernel)⟩
theorem cbX6_status : CalB yX6_status cX6_status 4 (some .int) 1 := ⟨tb_t 1263 (by decide +kernel) (by decide +kernel), tb_t 6 (by decide +kernel) (by decide +kernel), by decide, by decide, by decide +kernel⟩
theorem cvX6_status : CalV yX6_status cX6_status 4 (some .int) 1 := ⟨cbX6_status, tb_t 1261 (by decide +kernel) (by decide +kernel), tb_t 1262 (by decide +kernel) (by decide +kernel)⟩
end
