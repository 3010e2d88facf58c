section
-- ===== PART A: goes FIRST, ahead of the names: the tables' words, and 'selects' of the private methods out of them =====
/-- a private method of a class that the tables say can be made, by its rows of tables_1 -/
def lw_okq (q : MethodName × Nat) : Prop := (q.1.cls ≠ "java/lang/invoke/MethodHandle" ∧ q.1.cls ≠ "java/lang/invoke/VarHandle") ∧ Cond.instantiable q.1.cls q.2 ∈ tables_1 ∧ Cond.privateMethod q.1 ∈ tables_1 ∧ Cond.instanceMethod q.1 ∈ tables_1
theorem lw_p0 : lw_okq (⟨"LaughTax", "found", "(I)I"⟩, 8) := ⟨⟨by decide +kernel, by decide +kernel⟩, List.mem_of_getElem? (i := 16) (by decide +kernel), List.mem_of_getElem? (i := 220) (by decide +kernel), List.mem_of_getElem? (i := 221) (by decide +kernel)⟩
theorem lw_p1 : lw_okq (⟨"LaughTax$Room", "renewNear", "()V"⟩, 16) := ⟨⟨by decide +kernel, by decide +kernel⟩, List.mem_of_getElem? (i := 24) (by decide +kernel), List.mem_of_getElem? (i := 229) (by decide +kernel), List.mem_of_getElem? (i := 230) (by decide +kernel)⟩
theorem lw_p2 : lw_okq (⟨"LaughTax", "hasPerson", "(I)Z"⟩, 8) := ⟨⟨by decide +kernel, by decide +kernel⟩, List.mem_of_getElem? (i := 16) (by decide +kernel), List.mem_of_getElem? (i := 240) (by decide +kernel), List.mem_of_getElem? (i := 241) (by decide +kernel)⟩
theorem lw_p3 : lw_okq (⟨"LaughTax", "moveTo", "(II)I"⟩, 8) := ⟨⟨by decide +kernel, by decide +kernel⟩, List.mem_of_getElem? (i := 16) (by decide +kernel), List.mem_of_getElem? (i := 269) (by decide +kernel), List.mem_of_getElem? (i := 270) (by decide +kernel)⟩
theorem lw_p4 : lw_okq (⟨"LaughTax", "hasJoke", "(I)Z"⟩, 8) := ⟨⟨by decide +kernel, by decide +kernel⟩, List.mem_of_getElem? (i := 16) (by decide +kernel), List.mem_of_getElem? (i := 295) (by decide +kernel), List.mem_of_getElem? (i := 296) (by decide +kernel)⟩
theorem lw_p5 : lw_okq (⟨"LaughTax$Telling", "noteRound", "(II)V"⟩, 3) := ⟨⟨by decide +kernel, by decide +kernel⟩, List.mem_of_getElem? (i := 112) (by decide +kernel), List.mem_of_getElem? (i := 355) (by decide +kernel), List.mem_of_getElem? (i := 356) (by decide +kernel)⟩
theorem lw_p6 : lw_okq (⟨"LaughTax$Telling", "catchersFrom", "(LLaughTax$Room;II)I"⟩, 3) := ⟨⟨by decide +kernel, by decide +kernel⟩, List.mem_of_getElem? (i := 112) (by decide +kernel), List.mem_of_getElem? (i := 362) (by decide +kernel), List.mem_of_getElem? (i := 363) (by decide +kernel)⟩
theorem lw_p7 : lw_okq (⟨"LaughTax$Telling", "collect", "(LLaughTax$Room;II)I"⟩, 3) := ⟨⟨by decide +kernel, by decide +kernel⟩, List.mem_of_getElem? (i := 112) (by decide +kernel), List.mem_of_getElem? (i := 369) (by decide +kernel), List.mem_of_getElem? (i := 370) (by decide +kernel)⟩
theorem lw_p8 : lw_okq (⟨"LaughTax", "laughingAt", "(II)I"⟩, 8) := ⟨⟨by decide +kernel, by decide +kernel⟩, List.mem_of_getElem? (i := 16) (by decide +kernel), List.mem_of_getElem? (i := 478) (by decide +kernel), List.mem_of_getElem? (i := 479) (by decide +kernel)⟩
theorem lw_p9 : lw_okq (⟨"LaughTax", "paymentsFinding", "(III)I"⟩, 8) := ⟨⟨by decide +kernel, by decide +kernel⟩, List.mem_of_getElem? (i := 16) (by decide +kernel), List.mem_of_getElem? (i := 494) (by decide +kernel), List.mem_of_getElem? (i := 495) (by decide +kernel)⟩
theorem lw_p10 : lw_okq (⟨"LaughTax", "sheetFinding", "(I)I"⟩, 8) := ⟨⟨by decide +kernel, by decide +kernel⟩, List.mem_of_getElem? (i := 16) (by decide +kernel), List.mem_of_getElem? (i := 498) (by decide +kernel), List.mem_of_getElem? (i := 499) (by decide +kernel)⟩
theorem lw_p11 : lw_okq (⟨"LaughTax", "fits", "(LLaughTax$Sheet;III)Z"⟩, 8) := ⟨⟨by decide +kernel, by decide +kernel⟩, List.mem_of_getElem? (i := 16) (by decide +kernel), List.mem_of_getElem? (i := 507) (by decide +kernel), List.mem_of_getElem? (i := 508) (by decide +kernel)⟩
theorem lw_p12 : lw_okq (⟨"LaughTax$Tape", "step", "()V"⟩, 7) := ⟨⟨by decide +kernel, by decide +kernel⟩, List.mem_of_getElem? (i := 131) (by decide +kernel), List.mem_of_getElem? (i := 572) (by decide +kernel), List.mem_of_getElem? (i := 573) (by decide +kernel)⟩
theorem lw_p13 : lw_okq (⟨"LaughTax$Tape", "readItem", "(LLaughTax$Room;)Z"⟩, 7) := ⟨⟨by decide +kernel, by decide +kernel⟩, List.mem_of_getElem? (i := 131) (by decide +kernel), List.mem_of_getElem? (i := 580) (by decide +kernel), List.mem_of_getElem? (i := 581) (by decide +kernel)⟩
theorem lw_p14 : lw_okq (⟨"LaughTax$Tape", "isWord", "(Ljava/lang/String;)Z"⟩, 7) := ⟨⟨by decide +kernel, by decide +kernel⟩, List.mem_of_getElem? (i := 131) (by decide +kernel), List.mem_of_getElem? (i := 594) (by decide +kernel), List.mem_of_getElem? (i := 595) (by decide +kernel)⟩
theorem lw_p15 : lw_okq (⟨"LaughTax$Tape", "readPerson", "(LLaughTax$Room;I)Z"⟩, 7) := ⟨⟨by decide +kernel, by decide +kernel⟩, List.mem_of_getElem? (i := 131) (by decide +kernel), List.mem_of_getElem? (i := 646) (by decide +kernel), List.mem_of_getElem? (i := 647) (by decide +kernel)⟩
def lw_privs_1 : List (MethodName × Nat) := [(⟨"LaughTax", "found", "(I)I"⟩, 8), (⟨"LaughTax$Room", "renewNear", "()V"⟩, 16), (⟨"LaughTax", "hasPerson", "(I)Z"⟩, 8), (⟨"LaughTax", "moveTo", "(II)I"⟩, 8), (⟨"LaughTax", "hasJoke", "(I)Z"⟩, 8), (⟨"LaughTax$Telling", "noteRound", "(II)V"⟩, 3), (⟨"LaughTax$Telling", "catchersFrom", "(LLaughTax$Room;II)I"⟩, 3), (⟨"LaughTax$Telling", "collect", "(LLaughTax$Room;II)I"⟩, 3), (⟨"LaughTax", "laughingAt", "(II)I"⟩, 8), (⟨"LaughTax", "paymentsFinding", "(III)I"⟩, 8), (⟨"LaughTax", "sheetFinding", "(I)I"⟩, 8), (⟨"LaughTax", "fits", "(LLaughTax$Sheet;III)Z"⟩, 8), (⟨"LaughTax$Tape", "step", "()V"⟩, 7), (⟨"LaughTax$Tape", "readItem", "(LLaughTax$Room;)Z"⟩, 7), (⟨"LaughTax$Tape", "isWord", "(Ljava/lang/String;)Z"⟩, 7), (⟨"LaughTax$Tape", "readPerson", "(LLaughTax$Room;I)Z"⟩, 7)]
theorem lw_r1 : ∀ q ∈ lw_privs_1, lw_okq q := List.forall_mem_cons.mpr ⟨lw_p0, List.forall_mem_cons.mpr ⟨lw_p1, List.forall_mem_cons.mpr ⟨lw_p2, List.forall_mem_cons.mpr ⟨lw_p3, List.forall_mem_cons.mpr ⟨lw_p4, List.forall_mem_cons.mpr ⟨lw_p5, List.forall_mem_cons.mpr ⟨lw_p6, List.forall_mem_cons.mpr ⟨lw_p7, List.forall_mem_cons.mpr ⟨lw_p8, List.forall_mem_cons.mpr ⟨lw_p9, List.forall_mem_cons.mpr ⟨lw_p10, List.forall_mem_cons.mpr ⟨lw_p11, List.forall_mem_cons.mpr ⟨lw_p12, List.forall_mem_cons.mpr ⟨lw_p13, List.forall_mem_cons.mpr ⟨lw_p14, List.forall_mem_cons.mpr ⟨lw_p15, fun _ h => absurd h List.not_mem_nil⟩⟩⟩⟩⟩⟩⟩⟩⟩⟩⟩⟩⟩⟩⟩⟩
theorem lw_p16 : lw_okq (⟨"LaughTax$Tape", "readPart", "(Ljava/lang/String;II)Z"⟩, 7) := ⟨⟨by decide +kernel, by decide +kernel⟩, List.mem_of_getElem? (i := 131) (by decide +kernel), List.mem_of_getElem? (i := 652) (by decide +kernel), List.mem_of_getElem? (i := 653) (by decide +kernel)⟩
theorem lw_p17 : lw_okq (⟨"LaughTax$Tape", "readNumber", "(II)Z"⟩, 7) := ⟨⟨by decide +kernel, by decide +kernel⟩, List.mem_of_getElem? (i := 131) (by decide +kernel), List.mem_of_getElem? (i := 656) (by decide +kernel), List.mem_of_getElem? (i := 657) (by decide +kernel)⟩
theorem lw_p18 : lw_okq (⟨"LaughTax$Tape", "readJoke", "(LLaughTax$Room;)Z"⟩, 7) := ⟨⟨by decide +kernel, by decide +kernel⟩, List.mem_of_getElem? (i := 131) (by decide +kernel), List.mem_of_getElem? (i := 666) (by decide +kernel), List.mem_of_getElem? (i := 667) (by decide +kernel)⟩
theorem lw_p19 : lw_okq (⟨"LaughTax$Tape", "readRate", "(LLaughTax$Room;)Z"⟩, 7) := ⟨⟨by decide +kernel, by decide +kernel⟩, List.mem_of_getElem? (i := 131) (by decide +kernel), List.mem_of_getElem? (i := 672) (by decide +kernel), List.mem_of_getElem? (i := 673) (by decide +kernel)⟩
theorem lw_p20 : lw_okq (⟨"LaughTax$Tape", "readReach", "(LLaughTax$Room;)Z"⟩, 7) := ⟨⟨by decide +kernel, by decide +kernel⟩, List.mem_of_getElem? (i := 131) (by decide +kernel), List.mem_of_getElem? (i := 677) (by decide +kernel), List.mem_of_getElem? (i := 678) (by decide +kernel)⟩
theorem lw_p21 : lw_okq (⟨"LaughTaxModel", "finds", "(I)I"⟩, 18) := ⟨⟨by decide +kernel, by decide +kernel⟩, List.mem_of_getElem? (i := 755) (by decide +kernel), List.mem_of_getElem? (i := 831) (by decide +kernel), List.mem_of_getElem? (i := 832) (by decide +kernel)⟩
theorem lw_p22 : lw_okq (⟨"LaughTaxModel", "adds", "(II)I"⟩, 18) := ⟨⟨by decide +kernel, by decide +kernel⟩, List.mem_of_getElem? (i := 755) (by decide +kernel), List.mem_of_getElem? (i := 836) (by decide +kernel), List.mem_of_getElem? (i := 837) (by decide +kernel)⟩
theorem lw_p23 : lw_okq (⟨"LaughTaxModel", "sets", "(III)V"⟩, 18) := ⟨⟨by decide +kernel, by decide +kernel⟩, List.mem_of_getElem? (i := 755) (by decide +kernel), List.mem_of_getElem? (i := 840) (by decide +kernel), List.mem_of_getElem? (i := 841) (by decide +kernel)⟩
theorem lw_p24 : lw_okq (⟨"LaughTaxModel", "isPerson", "(I)Z"⟩, 18) := ⟨⟨by decide +kernel, by decide +kernel⟩, List.mem_of_getElem? (i := 755) (by decide +kernel), List.mem_of_getElem? (i := 848) (by decide +kernel), List.mem_of_getElem? (i := 849) (by decide +kernel)⟩
theorem lw_p25 : lw_okq (⟨"LaughTaxModel", "bound", "(I)I"⟩, 18) := ⟨⟨by decide +kernel, by decide +kernel⟩, List.mem_of_getElem? (i := 755) (by decide +kernel), List.mem_of_getElem? (i := 853) (by decide +kernel), List.mem_of_getElem? (i := 854) (by decide +kernel)⟩
theorem lw_p26 : lw_okq (⟨"LaughTaxModel", "its", "(II)I"⟩, 18) := ⟨⟨by decide +kernel, by decide +kernel⟩, List.mem_of_getElem? (i := 755) (by decide +kernel), List.mem_of_getElem? (i := 857) (by decide +kernel), List.mem_of_getElem? (i := 858) (by decide +kernel)⟩
theorem lw_p27 : lw_okq (⟨"LaughTaxModel", "numberOf", "(I)I"⟩, 18) := ⟨⟨by decide +kernel, by decide +kernel⟩, List.mem_of_getElem? (i := 755) (by decide +kernel), List.mem_of_getElem? (i := 862) (by decide +kernel), List.mem_of_getElem? (i := 863) (by decide +kernel)⟩
theorem lw_p28 : lw_okq (⟨"LaughTaxModel", "near", "(I)I"⟩, 18) := ⟨⟨by decide +kernel, by decide +kernel⟩, List.mem_of_getElem? (i := 755) (by decide +kernel), List.mem_of_getElem? (i := 866) (by decide +kernel), List.mem_of_getElem? (i := 867) (by decide +kernel)⟩
theorem lw_p29 : lw_okq (⟨"LaughTaxModel", "becomes", "(II)I"⟩, 18) := ⟨⟨by decide +kernel, by decide +kernel⟩, List.mem_of_getElem? (i := 755) (by decide +kernel), List.mem_of_getElem? (i := 884) (by decide +kernel), List.mem_of_getElem? (i := 885) (by decide +kernel)⟩
theorem lw_p30 : lw_okq (⟨"LaughTaxModel", "addsJoke", "(II)I"⟩, 18) := ⟨⟨by decide +kernel, by decide +kernel⟩, List.mem_of_getElem? (i := 755) (by decide +kernel), List.mem_of_getElem? (i := 898) (by decide +kernel), List.mem_of_getElem? (i := 899) (by decide +kernel)⟩
theorem lw_p31 : lw_okq (⟨"LaughTaxModel", "isJoke", "(I)Z"⟩, 18) := ⟨⟨by decide +kernel, by decide +kernel⟩, List.mem_of_getElem? (i := 755) (by decide +kernel), List.mem_of_getElem? (i := 906) (by decide +kernel), List.mem_of_getElem? (i := 907) (by decide +kernel)⟩
def lw_privs_2 : List (MethodName × Nat) := [(⟨"LaughTax$Tape", "readPart", "(Ljava/lang/String;II)Z"⟩, 7), (⟨"LaughTax$Tape", "readNumber", "(II)Z"⟩, 7), (⟨"LaughTax$Tape", "readJoke", "(LLaughTax$Room;)Z"⟩, 7), (⟨"LaughTax$Tape", "readRate", "(LLaughTax$Room;)Z"⟩, 7), (⟨"LaughTax$Tape", "readReach", "(LLaughTax$Room;)Z"⟩, 7), (⟨"LaughTaxModel", "finds", "(I)I"⟩, 18), (⟨"LaughTaxModel", "adds", "(II)I"⟩, 18), (⟨"LaughTaxModel", "sets", "(III)V"⟩, 18), (⟨"LaughTaxModel", "isPerson", "(I)Z"⟩, 18), (⟨"LaughTaxModel", "bound", "(I)I"⟩, 18), (⟨"LaughTaxModel", "its", "(II)I"⟩, 18), (⟨"LaughTaxModel", "numberOf", "(I)I"⟩, 18), (⟨"LaughTaxModel", "near", "(I)I"⟩, 18), (⟨"LaughTaxModel", "becomes", "(II)I"⟩, 18), (⟨"LaughTaxModel", "addsJoke", "(II)I"⟩, 18), (⟨"LaughTaxModel", "isJoke", "(I)Z"⟩, 18)]
theorem lw_r2 : ∀ q ∈ lw_privs_2, lw_okq q := List.forall_mem_cons.mpr ⟨lw_p16, List.forall_mem_cons.mpr ⟨lw_p17, List.forall_mem_cons.mpr ⟨lw_p18, List.forall_mem_cons.mpr ⟨lw_p19, List.forall_mem_cons.mpr ⟨lw_p20, List.forall_mem_cons.mpr ⟨lw_p21, List.forall_mem_cons.mpr ⟨lw_p22, List.forall_mem_cons.mpr ⟨lw_p23, List.forall_mem_cons.mpr ⟨lw_p24, List.forall_mem_cons.mpr ⟨lw_p25, List.forall_mem_cons.mpr ⟨lw_p26, List.forall_mem_cons.mpr ⟨lw_p27, List.forall_mem_cons.mpr ⟨lw_p28, List.forall_mem_cons.mpr ⟨lw_p29, List.forall_mem_cons.mpr ⟨lw_p30, List.forall_mem_cons.mpr ⟨lw_p31, fun _ h => absurd h List.not_mem_nil⟩⟩⟩⟩⟩⟩⟩⟩⟩⟩⟩⟩⟩⟩⟩⟩
theorem lw_p32 : lw_okq (⟨"LaughTaxModel", "strong", "(III)I"⟩, 18) := ⟨⟨by decide +kernel, by decide +kernel⟩, List.mem_of_getElem? (i := 755) (by decide +kernel), List.mem_of_getElem? (i := 920) (by decide +kernel), List.mem_of_getElem? (i := 921) (by decide +kernel)⟩
theorem lw_p33 : lw_okq (⟨"LaughTaxModel", "seconds", "(III)I"⟩, 18) := ⟨⟨by decide +kernel, by decide +kernel⟩, List.mem_of_getElem? (i := 755) (by decide +kernel), List.mem_of_getElem? (i := 924) (by decide +kernel), List.mem_of_getElem? (i := 925) (by decide +kernel)⟩
theorem lw_p34 : lw_okq (⟨"LaughTaxModel", "due", "(III)I"⟩, 18) := ⟨⟨by decide +kernel, by decide +kernel⟩, List.mem_of_getElem? (i := 755) (by decide +kernel), List.mem_of_getElem? (i := 929) (by decide +kernel), List.mem_of_getElem? (i := 930) (by decide +kernel)⟩
theorem lw_p35 : lw_okq (⟨"LaughTaxModel", "tells", "(I)I"⟩, 18) := ⟨⟨by decide +kernel, by decide +kernel⟩, List.mem_of_getElem? (i := 755) (by decide +kernel), List.mem_of_getElem? (i := 938) (by decide +kernel), List.mem_of_getElem? (i := 939) (by decide +kernel)⟩
theorem lw_p36 : lw_okq (⟨"LaughTaxModel", "laughAt", "(II)I"⟩, 18) := ⟨⟨by decide +kernel, by decide +kernel⟩, List.mem_of_getElem? (i := 755) (by decide +kernel), List.mem_of_getElem? (i := 942) (by decide +kernel), List.mem_of_getElem? (i := 943) (by decide +kernel)⟩
theorem lw_p37 : lw_okq (⟨"LaughTaxModel", "byThemselves", "(II)I"⟩, 18) := ⟨⟨by decide +kernel, by decide +kernel⟩, List.mem_of_getElem? (i := 755) (by decide +kernel), List.mem_of_getElem? (i := 946) (by decide +kernel), List.mem_of_getElem? (i := 947) (by decide +kernel)⟩
theorem lw_p38 : lw_okq (⟨"LaughTaxModel", "everybody", "()I"⟩, 18) := ⟨⟨by decide +kernel, by decide +kernel⟩, List.mem_of_getElem? (i := 755) (by decide +kernel), List.mem_of_getElem? (i := 950) (by decide +kernel), List.mem_of_getElem? (i := 951) (by decide +kernel)⟩
theorem lw_p39 : lw_okq (⟨"LaughTaxModel", "caughtFrom", "(II)I"⟩, 18) := ⟨⟨by decide +kernel, by decide +kernel⟩, List.mem_of_getElem? (i := 755) (by decide +kernel), List.mem_of_getElem? (i := 954) (by decide +kernel), List.mem_of_getElem? (i := 955) (by decide +kernel)⟩
theorem lw_p40 : lw_okq (⟨"LaughTaxModel", "sumOf", "(I)I"⟩, 18) := ⟨⟨by decide +kernel, by decide +kernel⟩, List.mem_of_getElem? (i := 755) (by decide +kernel), List.mem_of_getElem? (i := 968) (by decide +kernel), List.mem_of_getElem? (i := 969) (by decide +kernel)⟩
theorem lw_p41 : lw_okq (⟨"LaughTaxModel", "poorest", "()I"⟩, 18) := ⟨⟨by decide +kernel, by decide +kernel⟩, List.mem_of_getElem? (i := 755) (by decide +kernel), List.mem_of_getElem? (i := 976) (by decide +kernel), List.mem_of_getElem? (i := 977) (by decide +kernel)⟩
theorem lw_p42 : lw_okq (⟨"LaughTaxModel", "laughAt", "(I)I"⟩, 18) := ⟨⟨by decide +kernel, by decide +kernel⟩, List.mem_of_getElem? (i := 755) (by decide +kernel), List.mem_of_getElem? (i := 984) (by decide +kernel), List.mem_of_getElem? (i := 985) (by decide +kernel)⟩
theorem lw_p43 : lw_okq (⟨"LaughTaxModel", "lends", "()V"⟩, 18) := ⟨⟨by decide +kernel, by decide +kernel⟩, List.mem_of_getElem? (i := 755) (by decide +kernel), List.mem_of_getElem? (i := 996) (by decide +kernel), List.mem_of_getElem? (i := 997) (by decide +kernel)⟩
theorem lw_p44 : lw_okq (⟨"LaughTaxModel", "laysBack", "()V"⟩, 18) := ⟨⟨by decide +kernel, by decide +kernel⟩, List.mem_of_getElem? (i := 755) (by decide +kernel), List.mem_of_getElem? (i := 1003) (by decide +kernel), List.mem_of_getElem? (i := 1004) (by decide +kernel)⟩
theorem lw_p45 : lw_okq (⟨"LaughTaxModel", "allPaid", "()I"⟩, 18) := ⟨⟨by decide +kernel, by decide +kernel⟩, List.mem_of_getElem? (i := 755) (by decide +kernel), List.mem_of_getElem? (i := 1007) (by decide +kernel), List.mem_of_getElem? (i := 1008) (by decide +kernel)⟩
theorem lw_p46 : lw_okq (⟨"LaughTaxModel", "orNone", "(I)I"⟩, 18) := ⟨⟨by decide +kernel, by decide +kernel⟩, List.mem_of_getElem? (i := 755) (by decide +kernel), List.mem_of_getElem? (i := 1019) (by decide +kernel), List.mem_of_getElem? (i := 1020) (by decide +kernel)⟩
theorem lw_p47 : lw_okq (⟨"LaughTaxModel", "leftWithout", "(II)I"⟩, 18) := ⟨⟨by decide +kernel, by decide +kernel⟩, List.mem_of_getElem? (i := 755) (by decide +kernel), List.mem_of_getElem? (i := 1044) (by decide +kernel), List.mem_of_getElem? (i := 1045) (by decide +kernel)⟩
def lw_privs_3 : List (MethodName × Nat) := [(⟨"LaughTaxModel", "strong", "(III)I"⟩, 18), (⟨"LaughTaxModel", "seconds", "(III)I"⟩, 18), (⟨"LaughTaxModel", "due", "(III)I"⟩, 18), (⟨"LaughTaxModel", "tells", "(I)I"⟩, 18), (⟨"LaughTaxModel", "laughAt", "(II)I"⟩, 18), (⟨"LaughTaxModel", "byThemselves", "(II)I"⟩, 18), (⟨"LaughTaxModel", "everybody", "()I"⟩, 18), (⟨"LaughTaxModel", "caughtFrom", "(II)I"⟩, 18), (⟨"LaughTaxModel", "sumOf", "(I)I"⟩, 18), (⟨"LaughTaxModel", "poorest", "()I"⟩, 18), (⟨"LaughTaxModel", "laughAt", "(I)I"⟩, 18), (⟨"LaughTaxModel", "lends", "()V"⟩, 18), (⟨"LaughTaxModel", "laysBack", "()V"⟩, 18), (⟨"LaughTaxModel", "allPaid", "()I"⟩, 18), (⟨"LaughTaxModel", "orNone", "(I)I"⟩, 18), (⟨"LaughTaxModel", "leftWithout", "(II)I"⟩, 18)]
theorem lw_r3 : ∀ q ∈ lw_privs_3, lw_okq q := List.forall_mem_cons.mpr ⟨lw_p32, List.forall_mem_cons.mpr ⟨lw_p33, List.forall_mem_cons.mpr ⟨lw_p34, List.forall_mem_cons.mpr ⟨lw_p35, List.forall_mem_cons.mpr ⟨lw_p36, List.forall_mem_cons.mpr ⟨lw_p37, List.forall_mem_cons.mpr ⟨lw_p38, List.forall_mem_cons.mpr ⟨lw_p39, List.forall_mem_cons.mpr ⟨lw_p40, List.forall_mem_cons.mpr ⟨lw_p41, List.forall_mem_cons.mpr ⟨lw_p42, List.forall_mem_cons.mpr ⟨lw_p43, List.forall_mem_cons.mpr ⟨lw_p44, List.forall_mem_cons.mpr ⟨lw_p45, List.forall_mem_cons.mpr ⟨lw_p46, List.forall_mem_cons.mpr ⟨lw_p47, fun _ h => absurd h List.not_mem_nil⟩⟩⟩⟩⟩⟩⟩⟩⟩⟩⟩⟩⟩⟩⟩⟩
theorem lw_p48 : lw_okq (⟨"LaughTaxModel", "lacksTastes", "(III)I"⟩, 18) := ⟨⟨by decide +kernel, by decide +kernel⟩, List.mem_of_getElem? (i := 755) (by decide +kernel), List.mem_of_getElem? (i := 1080) (by decide +kernel), List.mem_of_getElem? (i := 1081) (by decide +kernel)⟩
theorem lw_p49 : lw_okq (⟨"LaughTaxModel", "lacks", "(I)I"⟩, 18) := ⟨⟨by decide +kernel, by decide +kernel⟩, List.mem_of_getElem? (i := 755) (by decide +kernel), List.mem_of_getElem? (i := 1084) (by decide +kernel), List.mem_of_getElem? (i := 1085) (by decide +kernel)⟩
theorem lw_p50 : lw_okq (⟨"LaughTaxModel", "findTastes", "(III)I"⟩, 18) := ⟨⟨by decide +kernel, by decide +kernel⟩, List.mem_of_getElem? (i := 755) (by decide +kernel), List.mem_of_getElem? (i := 1092) (by decide +kernel), List.mem_of_getElem? (i := 1093) (by decide +kernel)⟩
theorem lw_p51 : lw_okq (⟨"LaughTaxModel", "paysSo", "(III)Z"⟩, 18) := ⟨⟨by decide +kernel, by decide +kernel⟩, List.mem_of_getElem? (i := 755) (by decide +kernel), List.mem_of_getElem? (i := 1096) (by decide +kernel), List.mem_of_getElem? (i := 1097) (by decide +kernel)⟩
theorem lw_p52 : lw_okq (⟨"LaughTaxModel", "draw", "()I"⟩, 18) := ⟨⟨by decide +kernel, by decide +kernel⟩, List.mem_of_getElem? (i := 755) (by decide +kernel), List.mem_of_getElem? (i := 1112) (by decide +kernel), List.mem_of_getElem? (i := 1113) (by decide +kernel)⟩
theorem lw_p53 : lw_okq (⟨"LaughTaxModel", "next", "()V"⟩, 18) := ⟨⟨by decide +kernel, by decide +kernel⟩, List.mem_of_getElem? (i := 755) (by decide +kernel), List.mem_of_getElem? (i := 1139) (by decide +kernel), List.mem_of_getElem? (i := 1140) (by decide +kernel)⟩
theorem lw_p54 : lw_okq (⟨"LaughTaxModel", "isByte", "(III)Z"⟩, 18) := ⟨⟨by decide +kernel, by decide +kernel⟩, List.mem_of_getElem? (i := 755) (by decide +kernel), List.mem_of_getElem? (i := 1143) (by decide +kernel), List.mem_of_getElem? (i := 1144) (by decide +kernel)⟩
theorem lw_p55 : lw_okq (⟨"LaughTaxModel", "item", "()V"⟩, 18) := ⟨⟨by decide +kernel, by decide +kernel⟩, List.mem_of_getElem? (i := 755) (by decide +kernel), List.mem_of_getElem? (i := 1147) (by decide +kernel), List.mem_of_getElem? (i := 1148) (by decide +kernel)⟩
theorem lw_p56 : lw_okq (⟨"LaughTaxModel", "kindHere", "()I"⟩, 18) := ⟨⟨by decide +kernel, by decide +kernel⟩, List.mem_of_getElem? (i := 755) (by decide +kernel), List.mem_of_getElem? (i := 1151) (by decide +kernel), List.mem_of_getElem? (i := 1152) (by decide +kernel)⟩
theorem lw_p57 : lw_okq (⟨"LaughTaxModel", "isWord", "(Ljava/lang/String;)Z"⟩, 18) := ⟨⟨by decide +kernel, by decide +kernel⟩, List.mem_of_getElem? (i := 755) (by decide +kernel), List.mem_of_getElem? (i := 1156) (by decide +kernel), List.mem_of_getElem? (i := 1157) (by decide +kernel)⟩
theorem lw_p58 : lw_okq (⟨"LaughTaxModel", "personTold", "(I)V"⟩, 18) := ⟨⟨by decide +kernel, by decide +kernel⟩, List.mem_of_getElem? (i := 755) (by decide +kernel), List.mem_of_getElem? (i := 1168) (by decide +kernel), List.mem_of_getElem? (i := 1169) (by decide +kernel)⟩
theorem lw_p59 : lw_okq (⟨"LaughTaxModel", "must", "(Z)V"⟩, 18) := ⟨⟨by decide +kernel, by decide +kernel⟩, List.mem_of_getElem? (i := 755) (by decide +kernel), List.mem_of_getElem? (i := 1172) (by decide +kernel), List.mem_of_getElem? (i := 1173) (by decide +kernel)⟩
theorem lw_p60 : lw_okq (⟨"LaughTaxModel", "partTold", "(ILjava/lang/String;II)V"⟩, 18) := ⟨⟨by decide +kernel, by decide +kernel⟩, List.mem_of_getElem? (i := 755) (by decide +kernel), List.mem_of_getElem? (i := 1177) (by decide +kernel), List.mem_of_getElem? (i := 1178) (by decide +kernel)⟩
theorem lw_p61 : lw_okq (⟨"LaughTaxModel", "takes", "(Ljava/lang/String;)Z"⟩, 18) := ⟨⟨by decide +kernel, by decide +kernel⟩, List.mem_of_getElem? (i := 755) (by decide +kernel), List.mem_of_getElem? (i := 1181) (by decide +kernel), List.mem_of_getElem? (i := 1182) (by decide +kernel)⟩
theorem lw_p62 : lw_okq (⟨"LaughTaxModel", "numberRead", "(II)I"⟩, 18) := ⟨⟨by decide +kernel, by decide +kernel⟩, List.mem_of_getElem? (i := 755) (by decide +kernel), List.mem_of_getElem? (i := 1185) (by decide +kernel), List.mem_of_getElem? (i := 1186) (by decide +kernel)⟩
theorem lw_p63 : lw_okq (⟨"LaughTaxModel", "jokeTold", "()V"⟩, 18) := ⟨⟨by decide +kernel, by decide +kernel⟩, List.mem_of_getElem? (i := 755) (by decide +kernel), List.mem_of_getElem? (i := 1193) (by decide +kernel), List.mem_of_getElem? (i := 1194) (by decide +kernel)⟩
def lw_privs_4 : List (MethodName × Nat) := [(⟨"LaughTaxModel", "lacksTastes", "(III)I"⟩, 18), (⟨"LaughTaxModel", "lacks", "(I)I"⟩, 18), (⟨"LaughTaxModel", "findTastes", "(III)I"⟩, 18), (⟨"LaughTaxModel", "paysSo", "(III)Z"⟩, 18), (⟨"LaughTaxModel", "draw", "()I"⟩, 18), (⟨"LaughTaxModel", "next", "()V"⟩, 18), (⟨"LaughTaxModel", "isByte", "(III)Z"⟩, 18), (⟨"LaughTaxModel", "item", "()V"⟩, 18), (⟨"LaughTaxModel", "kindHere", "()I"⟩, 18), (⟨"LaughTaxModel", "isWord", "(Ljava/lang/String;)Z"⟩, 18), (⟨"LaughTaxModel", "personTold", "(I)V"⟩, 18), (⟨"LaughTaxModel", "must", "(Z)V"⟩, 18), (⟨"LaughTaxModel", "partTold", "(ILjava/lang/String;II)V"⟩, 18), (⟨"LaughTaxModel", "takes", "(Ljava/lang/String;)Z"⟩, 18), (⟨"LaughTaxModel", "numberRead", "(II)I"⟩, 18), (⟨"LaughTaxModel", "jokeTold", "()V"⟩, 18)]
theorem lw_r4 : ∀ q ∈ lw_privs_4, lw_okq q := List.forall_mem_cons.mpr ⟨lw_p48, List.forall_mem_cons.mpr ⟨lw_p49, List.forall_mem_cons.mpr ⟨lw_p50, List.forall_mem_cons.mpr ⟨lw_p51, List.forall_mem_cons.mpr ⟨lw_p52, List.forall_mem_cons.mpr ⟨lw_p53, List.forall_mem_cons.mpr ⟨lw_p54, List.forall_mem_cons.mpr ⟨lw_p55, List.forall_mem_cons.mpr ⟨lw_p56, List.forall_mem_cons.mpr ⟨lw_p57, List.forall_mem_cons.mpr ⟨lw_p58, List.forall_mem_cons.mpr ⟨lw_p59, List.forall_mem_cons.mpr ⟨lw_p60, List.forall_mem_cons.mpr ⟨lw_p61, List.forall_mem_cons.mpr ⟨lw_p62, List.forall_mem_cons.mpr ⟨lw_p63, fun _ h => absurd h List.not_mem_nil⟩⟩⟩⟩⟩⟩⟩⟩⟩⟩⟩⟩⟩⟩⟩⟩
theorem lw_p64 : lw_okq (⟨"LaughTaxModel", "goesOn", "(II)Z"⟩, 18) := ⟨⟨by decide +kernel, by decide +kernel⟩, List.mem_of_getElem? (i := 755) (by decide +kernel), List.mem_of_getElem? (i := 1237) (by decide +kernel), List.mem_of_getElem? (i := 1238) (by decide +kernel)⟩
theorem lw_p65 : lw_okq (⟨"LaughTaxModel", "held", "()I"⟩, 18) := ⟨⟨by decide +kernel, by decide +kernel⟩, List.mem_of_getElem? (i := 755) (by decide +kernel), List.mem_of_getElem? (i := 1257) (by decide +kernel), List.mem_of_getElem? (i := 1258) (by decide +kernel)⟩
def lw_privs_5 : List (MethodName × Nat) := [(⟨"LaughTaxModel", "goesOn", "(II)Z"⟩, 18), (⟨"LaughTaxModel", "held", "()I"⟩, 18)]
theorem lw_r5 : ∀ q ∈ lw_privs_5, lw_okq q := List.forall_mem_cons.mpr ⟨lw_p64, List.forall_mem_cons.mpr ⟨lw_p65, fun _ h => absurd h List.not_mem_nil⟩⟩
def lw_privs : List (MethodName × Nat) := lw_privs_1 ++ (lw_privs_2 ++ (lw_privs_3 ++ (lw_privs_4 ++ (lw_privs_5))))
def lw_tbl : List Cond := k2_sels lw_privs ++ tables_1
theorem lw_privs_ok : ∀ q ∈ lw_privs, lw_okq q := by
  show ∀ q ∈ lw_privs_1 ++ (lw_privs_2 ++ (lw_privs_3 ++ (lw_privs_4 ++ (lw_privs_5)))), lw_okq q
  exact List.forall_mem_append.mpr ⟨lw_r1, List.forall_mem_append.mpr ⟨lw_r2, List.forall_mem_append.mpr ⟨lw_r3, List.forall_mem_append.mpr ⟨lw_r4, lw_r5⟩⟩⟩⟩

/-! ===== BEGIN words of one list among another's, by their places ===== -/
theorem goodIn_r {big : List Cond} (ws : List Cond) (ps : List Nat) (hp : ws = ps.filterMap (fun i => big[i]?)) (h : ws.all goodWord = true) : GoodIn big ws := by
  intro w hw
  have h1 := List.all_eq_true.mp h w hw
  rw [hp] at hw
  obtain ⟨i, -, hi⟩ := List.mem_filterMap.mp hw
  have hm : w ∈ big := by first | exact List.mem_of_getElem? hi | exact List.getElem?_mem hi
  exact ⟨hm, good_of_word h1⟩
theorem goodIn_app {big a b : List Cond} (ha : GoodIn big a) (hb : GoodIn big b) : GoodIn big (a ++ b) := fun w h => (List.mem_append.mp h).elim (ha w) (hb w)
theorem goodIn_ca {big a b : List Cond} {c : Cond} (ha : GoodIn big (c :: a)) (hb : GoodIn big b) : GoodIn big (c :: (a ++ b)) := fun w h => (List.mem_cons.mp h).elim (fun e => ha w (List.mem_cons.mpr (Or.inl e))) (fun h => (List.mem_append.mp h).elim (fun h => ha w (List.mem_cons.mpr (Or.inr h))) (hb w))
theorem goodIn_sub {big ws : List Cond} (hm : ∀ w ∈ ws, w ∈ big) (h : ws.all goodWord = true) : GoodIn big ws := fun w hw => ⟨hm w hw, good_of_word (List.all_eq_true.mp h w hw)⟩
/-! ===== END ===== -/

/-! ===== BEGIN printed: names, fields, word lists, decode rows ===== -/
def RX0 : String := "LaughTax$Kinds"
def TX0 : u_T := fun k => match k with
  | _ => ("", "", "", false)
def tyX0 : Nat → FieldType := fun k => match k with
  | _ => .int
abbrev wsX00 : List Cond := u_ws RX0 TX0 0
theorem nmX0 : ∀ a, a < 0 → ∀ b, b < 0 → a ≠ b → (TX0 a).2.1 ≠ (TX0 b).2.1 := by decide +kernel
theorem tyX0_ok : ∀ k, k < 0 → parseFieldDescriptor (TX0 k).2.2.1 = some (tyX0 k) := by decide +kernel
abbrev cX0_isA : ByteArray := prog_2_method_2_code
def yX0_isA : MethodName := ⟨RX0, "isA", "(II)Z"⟩
abbrev cX0_bound : ByteArray := prog_2_method_3_code
def yX0_bound : MethodName := ⟨RX0, "bound", "(II)I"⟩
abbrev cX0_number : ByteArray := prog_2_method_4_code
def yX0_number : MethodName := ⟨RX0, "number", "(II)I"⟩
abbrev cX0_seconds : ByteArray := prog_2_method_5_code
def yX0_seconds : MethodName := ⟨RX0, "seconds", "(II)I"⟩
def RX1 : String := "LaughTax$Room"
def TX1 : u_T := fun k => match k with
  | 0 => ("LaughTax$Room", "people", "I", false)
  | 1 => ("LaughTax$Room", "kind", "[I", true)
  | 2 => ("LaughTax$Room", "seat", "[I", true)
  | 3 => ("LaughTax$Room", "taste", "[I", true)
  | 4 => ("LaughTax$Room", "mood", "[I", true)
  | 5 => ("LaughTax$Room", "purse", "[I", true)
  | 6 => ("LaughTax$Room", "near", "[I", true)
  | 7 => ("LaughTax$Room", "jokes", "I", false)
  | 8 => ("LaughTax$Room", "topics", "[I", true)
  | 9 => ("LaughTax$Room", "fun", "[I", true)
  | 10 => ("LaughTax$Room", "rate", "I", false)
  | 11 => ("LaughTax$Room", "reach", "I", false)
  | 12 => ("LaughTax$Room", "treasury", "I", false)
  | 13 => ("LaughTax$Room", "told", "I", false)
  | 14 => ("LaughTax$Room", "z", "I", false)
  | _ => ("LaughTax$Room", "spots", "[I", true)
def tyX1 : Nat → FieldType := fun k => match k with
  | 0 => .int
  | 1 => .array .int
  | 2 => .array .int
  | 3 => .array .int
  | 4 => .array .int
  | 5 => .array .int
  | 6 => .array .int
  | 7 => .int
  | 8 => .array .int
  | 9 => .array .int
  | 10 => .int
  | 11 => .int
  | 12 => .int
  | 13 => .int
  | 14 => .int
  | _ => .array .int
abbrev wsX10 : List Cond := u_ws RX1 TX1 16
theorem nmX1 : ∀ a, a < 16 → ∀ b, b < 16 → a ≠ b → (TX1 a).2.1 ≠ (TX1 b).2.1 := by decide +kernel
theorem tyX1_ok : ∀ k, k < 16 → parseFieldDescriptor (TX1 k).2.2.1 = some (tyX1 k) := by decide +kernel
abbrev cX1_init : ByteArray := prog_3_method_1_code
def yX1_init : MethodName := ⟨RX1, "<init>", "()V"⟩
abbrev cX1_takeOver : ByteArray := prog_3_method_2_code
def yX1_takeOver : MethodName := ⟨RX1, "takeOver", "(LLaughTax$Room;)V"⟩
abbrev cX1_addPerson : ByteArray := prog_3_method_3_code
def yX1_addPerson : MethodName := ⟨RX1, "addPerson", "(II)I"⟩
abbrev cX1_addJoke : ByteArray := prog_3_method_4_code
def yX1_addJoke : MethodName := ⟨RX1, "addJoke", "(II)I"⟩
abbrev cX1_setSeat : ByteArray := prog_3_method_5_code
def yX1_setSeat : MethodName := ⟨RX1, "setSeat", "(II)V"⟩
abbrev cX1_setReach : ByteArray := prog_3_method_6_code
def yX1_setReach : MethodName := ⟨RX1, "setReach", "(I)V"⟩
abbrev cX1_renewNear : ByteArray := prog_3_method_7_code
def yX1_renewNear : MethodName := ⟨RX1, "renewNear", "()V"⟩
abbrev cX1_everybody : ByteArray := prog_3_method_8_code
def yX1_everybody : MethodName := ⟨RX1, "everybody", "()I"⟩
abbrev cX1_strengthFor : ByteArray := prog_3_method_9_code
def yX1_strengthFor : MethodName := ⟨RX1, "strengthFor", "(III)I"⟩
abbrev cX1_dueFrom : ByteArray := prog_3_method_10_code
def yX1_dueFrom : MethodName := ⟨RX1, "dueFrom", "(II)I"⟩
abbrev cX1_together : ByteArray := prog_3_method_11_code
def yX1_together : MethodName := ⟨RX1, "together", "([I)I"⟩
abbrev cX1_poorest : ByteArray := prog_3_method_12_code
def yX1_poorest : MethodName := ⟨RX1, "poorest", "()I"⟩
abbrev cX1_drawBelow : ByteArray := prog_3_method_13_code
def yX1_drawBelow : MethodName := ⟨RX1, "drawBelow", "(I)I"⟩
abbrev cX1_spotsHolding : ByteArray := prog_3_method_14_code
def yX1_spotsHolding : MethodName := ⟨RX1, "spotsHolding", "()I"⟩
def RX2 : String := "LaughTax$Sheet"
def TX2 : u_T := fun k => match k with
  | 0 => ("LaughTax$Sheet", "numbers", "[I", true)
  | 1 => ("LaughTax$Sheet", "bits", "I", false)
  | _ => ("LaughTax$Sheet", "length", "I", false)
def tyX2 : Nat → FieldType := fun k => match k with
  | 0 => .array .int
  | 1 => .int
  | _ => .int
abbrev wsX20 : List Cond := u_ws RX2 TX2 3
theorem nmX2 : ∀ a, a < 3 → ∀ b, b < 3 → a ≠ b → (TX2 a).2.1 ≠ (TX2 b).2.1 := by decide +kernel
theorem tyX2_ok : ∀ k, k < 3 → parseFieldDescriptor (TX2 k).2.2.1 = some (tyX2 k) := by decide +kernel
abbrev cX2_init : ByteArray := prog_4_method_1_code
def yX2_init : MethodName := ⟨RX2, "<init>", "()V"⟩
abbrev cX2_begin : ByteArray := prog_4_method_2_code
def yX2_begin : MethodName := ⟨RX2, "begin", "(II)V"⟩
abbrev cX2_isMissing : ByteArray := prog_4_method_3_code
def yX2_isMissing : MethodName := ⟨RX2, "isMissing", "()Z"⟩
abbrev cX2_put : ByteArray := prog_4_method_4_code
def yX2_put : MethodName := ⟨RX2, "put", "(II)V"⟩
abbrev cX2_has : ByteArray := prog_4_method_5_code
def yX2_has : MethodName := ⟨RX2, "has", "(II)Z"⟩
abbrev cX2_tells : ByteArray := prog_4_method_6_code
def yX2_tells : MethodName := ⟨RX2, "tells", "(II)Z"⟩
abbrev cX2_tellsFirst : ByteArray := prog_4_method_7_code
def yX2_tellsFirst : MethodName := ⟨RX2, "tellsFirst", "([II)Z"⟩
def RX3 : String := "LaughTax$Tape"
def TX3 : u_T := fun k => match k with
  | 0 => ("LaughTax$Tape", "bytes", "[B", true)
  | 1 => ("LaughTax$Tape", "length", "I", false)
  | 2 => ("LaughTax$Tape", "token", "I", false)
  | 3 => ("LaughTax$Tape", "start", "I", false)
  | 4 => ("LaughTax$Tape", "behind", "I", false)
  | 5 => ("LaughTax$Tape", "value", "I", false)
  | _ => ("LaughTax$Tape", "taken", "I", false)
def tyX3 : Nat → FieldType := fun k => match k with
  | 0 => .array .byte
  | 1 => .int
  | 2 => .int
  | 3 => .int
  | 4 => .int
  | 5 => .int
  | _ => .int
abbrev wsX30 : List Cond := u_ws RX3 TX3 7
theorem nmX3 : ∀ a, a < 7 → ∀ b, b < 7 → a ≠ b → (TX3 a).2.1 ≠ (TX3 b).2.1 := by decide +kernel
theorem tyX3_ok : ∀ k, k < 7 → parseFieldDescriptor (TX3 k).2.2.1 = some (tyX3 k) := by decide +kernel
abbrev cX3_init : ByteArray := prog_5_method_1_code
def yX3_init : MethodName := ⟨RX3, "<init>", "()V"⟩
abbrev cX3_put : ByteArray := prog_5_method_2_code
def yX3_put : MethodName := ⟨RX3, "put", "(B)V"⟩
abbrev cX3_readInto : ByteArray := prog_5_method_3_code
def yX3_readInto : MethodName := ⟨RX3, "readInto", "(LLaughTax$Room;)I"⟩
abbrev cX3_readItem : ByteArray := prog_5_method_4_code
def yX3_readItem : MethodName := ⟨RX3, "readItem", "(LLaughTax$Room;)Z"⟩
abbrev cX3_readPerson : ByteArray := prog_5_method_5_code
def yX3_readPerson : MethodName := ⟨RX3, "readPerson", "(LLaughTax$Room;I)Z"⟩
abbrev cX3_readJoke : ByteArray := prog_5_method_6_code
def yX3_readJoke : MethodName := ⟨RX3, "readJoke", "(LLaughTax$Room;)Z"⟩
abbrev cX3_readRate : ByteArray := prog_5_method_7_code
def yX3_readRate : MethodName := ⟨RX3, "readRate", "(LLaughTax$Room;)Z"⟩
abbrev cX3_readReach : ByteArray := prog_5_method_8_code
def yX3_readReach : MethodName := ⟨RX3, "readReach", "(LLaughTax$Room;)Z"⟩
abbrev cX3_readPart : ByteArray := prog_5_method_9_code
def yX3_readPart : MethodName := ⟨RX3, "readPart", "(Ljava/lang/String;II)Z"⟩
abbrev cX3_readNumber : ByteArray := prog_5_method_10_code
def yX3_readNumber : MethodName := ⟨RX3, "readNumber", "(II)Z"⟩
abbrev cX3_isWord : ByteArray := prog_5_method_11_code
def yX3_isWord : MethodName := ⟨RX3, "isWord", "(Ljava/lang/String;)Z"⟩
abbrev cX3_wordOf : ByteArray := prog_5_method_12_code
def yX3_wordOf : MethodName := ⟨RX3, "wordOf", "(I)Ljava/lang/String;"⟩
abbrev cX3_step : ByteArray := prog_5_method_13_code
def yX3_step : MethodName := ⟨RX3, "step", "()V"⟩
abbrev cX3_tokenOf : ByteArray := prog_5_method_14_code
def yX3_tokenOf : MethodName := ⟨RX3, "tokenOf", "(B)I"⟩
def RX4 : String := "LaughTax$Telling"
def TX4 : u_T := fun k => match k with
  | 0 => ("LaughTax$Telling", "roundOf", "[I", true)
  | 1 => ("LaughTax$Telling", "paid", "[I", true)
  | _ => ("LaughTax$Telling", "lastRound", "I", false)
def tyX4 : Nat → FieldType := fun k => match k with
  | 0 => .array .int
  | 1 => .array .int
  | _ => .int
abbrev wsX40 : List Cond := u_ws RX4 TX4 3
theorem nmX4 : ∀ a, a < 3 → ∀ b, b < 3 → a ≠ b → (TX4 a).2.1 ≠ (TX4 b).2.1 := by decide +kernel
theorem tyX4_ok : ∀ k, k < 3 → parseFieldDescriptor (TX4 k).2.2.1 = some (tyX4 k) := by decide +kernel
abbrev cX4_init : ByteArray := prog_6_method_1_code
def yX4_init : MethodName := ⟨RX4, "<init>", "()V"⟩
abbrev cX4_startersOf : ByteArray := prog_6_method_2_code
def yX4_startersOf : MethodName := ⟨RX4, "startersOf", "(LLaughTax$Room;II)I"⟩
abbrev cX4_laughersOf : ByteArray := prog_6_method_3_code
def yX4_laughersOf : MethodName := ⟨RX4, "laughersOf", "(LLaughTax$Room;I)I"⟩
abbrev cX4_spread : ByteArray := prog_6_method_4_code
def yX4_spread : MethodName := ⟨RX4, "spread", "(LLaughTax$Room;II)I"⟩
abbrev cX4_catchersFrom : ByteArray := prog_6_method_5_code
def yX4_catchersFrom : MethodName := ⟨RX4, "catchersFrom", "(LLaughTax$Room;II)I"⟩
abbrev cX4_noteRound : ByteArray := prog_6_method_6_code
def yX4_noteRound : MethodName := ⟨RX4, "noteRound", "(II)V"⟩
abbrev cX4_perform : ByteArray := prog_6_method_7_code
def yX4_perform : MethodName := ⟨RX4, "perform", "(LLaughTax$Room;I)I"⟩
abbrev cX4_collect : ByteArray := prog_6_method_8_code
def yX4_collect : MethodName := ⟨RX4, "collect", "(LLaughTax$Room;II)I"⟩
abbrev cX4_performOften : ByteArray := prog_6_method_9_code
def yX4_performOften : MethodName := ⟨RX4, "performOften", "(LLaughTax$Room;II)I"⟩
def RX5 : String := "LaughTax"
def TX5 : u_T := fun k => match k with
  | 0 => ("LaughTax", "live", "LLaughTax$Room;", true)
  | 1 => ("LaughTax", "trial", "LLaughTax$Room;", true)
  | 2 => ("LaughTax", "kept", "LLaughTax$Room;", true)
  | 3 => ("LaughTax", "keeps", "Z", false)
  | 4 => ("LaughTax", "telling", "LLaughTax$Telling;", true)
  | 5 => ("LaughTax", "tape", "LLaughTax$Tape;", true)
  | 6 => ("LaughTax", "sheets", "[LLaughTax$Sheet;", true)
  | _ => ("LaughTax", "findings", "[I", true)
def tyX5 : Nat → FieldType := fun k => match k with
  | 0 => .object "LaughTax$Room"
  | 1 => .object "LaughTax$Room"
  | 2 => .object "LaughTax$Room"
  | 3 => .boolean
  | 4 => .object "LaughTax$Telling"
  | 5 => .object "LaughTax$Tape"
  | 6 => .array (.object "LaughTax$Sheet")
  | _ => .array .int
abbrev wsX50 : List Cond := u_ws RX5 TX5 8
theorem nmX5 : ∀ a, a < 8 → ∀ b, b < 8 → a ≠ b → (TX5 a).2.1 ≠ (TX5 b).2.1 := by decide +kernel
theorem tyX5_ok : ∀ k, k < 8 → parseFieldDescriptor (TX5 k).2.2.1 = some (tyX5 k) := by decide +kernel
abbrev cX5_init : ByteArray := prog_1_method_1_code
def yX5_init : MethodName := ⟨RX5, "<init>", "()V"⟩
abbrev cX5_person : ByteArray := prog_1_method_2_code
def yX5_person : MethodName := ⟨RX5, "person", "(II)I"⟩
abbrev cX5_of : ByteArray := prog_1_method_3_code
def yX5_of : MethodName := ⟨RX5, "of", "(II)I"⟩
abbrev cX5_change : ByteArray := prog_1_method_4_code
def yX5_change : MethodName := ⟨RX5, "change", "(III)I"⟩
abbrev cX5_joke : ByteArray := prog_1_method_5_code
def yX5_joke : MethodName := ⟨RX5, "joke", "(II)I"⟩
abbrev cX5_jokeOf : ByteArray := prog_1_method_6_code
def yX5_jokeOf : MethodName := ⟨RX5, "jokeOf", "(II)I"⟩
abbrev cX5_law : ByteArray := prog_1_method_7_code
def yX5_law : MethodName := ⟨RX5, "law", "(II)I"⟩
abbrev cX5_strength : ByteArray := prog_1_method_8_code
def yX5_strength : MethodName := ⟨RX5, "strength", "(III)I"⟩
abbrev cX5_tell : ByteArray := prog_1_method_9_code
def yX5_tell : MethodName := ⟨RX5, "tell", "(I)I"⟩
abbrev cX5_evening : ByteArray := prog_1_method_10_code
def yX5_evening : MethodName := ⟨RX5, "evening", "(II)I"⟩
abbrev cX5_now : ByteArray := prog_1_method_11_code
def yX5_now : MethodName := ⟨RX5, "now", "(I)I"⟩
abbrev cX5_relief : ByteArray := prog_1_method_12_code
def yX5_relief : MethodName := ⟨RX5, "relief", "(I)I"⟩
abbrev cX5_laugh : ByteArray := prog_1_method_13_code
def yX5_laugh : MethodName := ⟨RX5, "laugh", "(II)I"⟩
abbrev cX5_rounds : ByteArray := prog_1_method_14_code
def yX5_rounds : MethodName := ⟨RX5, "rounds", "(I)I"⟩
abbrev cX5_raised : ByteArray := prog_1_method_15_code
def yX5_raised : MethodName := ⟨RX5, "raised", "(I)I"⟩
abbrev cX5_ahead : ByteArray := prog_1_method_16_code
def yX5_ahead : MethodName := ⟨RX5, "ahead", "(II)I"⟩
abbrev cX5_stale : ByteArray := prog_1_method_17_code
def yX5_stale : MethodName := ⟨RX5, "stale", "(I)I"⟩
abbrev cX5_broke : ByteArray := prog_1_method_18_code
def yX5_broke : MethodName := ⟨RX5, "broke", "(II)I"⟩
abbrev cX5_caught : ByteArray := prog_1_method_19_code
def yX5_caught : MethodName := ⟨RX5, "caught", "(I)I"⟩
abbrev cX5_starter : ByteArray := prog_1_method_20_code
def yX5_starter : MethodName := ⟨RX5, "starter", "()I"⟩
abbrev cX5_fewest : ByteArray := prog_1_method_21_code
def yX5_fewest : MethodName := ⟨RX5, "fewest", "()I"⟩
abbrev cX5_away : ByteArray := prog_1_method_22_code
def yX5_away : MethodName := ⟨RX5, "away", "(II)I"⟩
abbrev cX5_seatFor : ByteArray := prog_1_method_23_code
def yX5_seatFor : MethodName := ⟨RX5, "seatFor", "(II)I"⟩
abbrev cX5_kindFor : ByteArray := prog_1_method_24_code
def yX5_kindFor : MethodName := ⟨RX5, "kindFor", "(II)I"⟩
abbrev cX5_reachFor : ByteArray := prog_1_method_25_code
def yX5_reachFor : MethodName := ⟨RX5, "reachFor", "(I)I"⟩
abbrev cX5_rateFor : ByteArray := prog_1_method_26_code
def yX5_rateFor : MethodName := ⟨RX5, "rateFor", "(II)I"⟩
abbrev cX5_best : ByteArray := prog_1_method_27_code
def yX5_best : MethodName := ⟨RX5, "best", "(I)I"⟩
abbrev cX5_quiet : ByteArray := prog_1_method_28_code
def yX5_quiet : MethodName := ⟨RX5, "quiet", "(I)I"⟩
abbrev cX5_safe : ByteArray := prog_1_method_29_code
def yX5_safe : MethodName := ⟨RX5, "safe", "(I)I"⟩
abbrev cX5_tastes : ByteArray := prog_1_method_30_code
def yX5_tastes : MethodName := ⟨RX5, "tastes", "(III)I"⟩
abbrev cX5_taste : ByteArray := prog_1_method_31_code
def yX5_taste : MethodName := ⟨RX5, "taste", "(III)I"⟩
abbrev cX5_which : ByteArray := prog_1_method_32_code
def yX5_which : MethodName := ⟨RX5, "which", "(I)I"⟩
abbrev cX5_shows : ByteArray := prog_1_method_33_code
def yX5_shows : MethodName := ⟨RX5, "shows", "(I)I"⟩
abbrev cX5_odds : ByteArray := prog_1_method_34_code
def yX5_odds : MethodName := ⟨RX5, "odds", "(II)J"⟩
abbrev cX5_seed : ByteArray := prog_1_method_35_code
def yX5_seed : MethodName := ⟨RX5, "seed", "(I)I"⟩
abbrev cX5_feed : ByteArray := prog_1_method_36_code
def yX5_feed : MethodName := ⟨RX5, "feed", "(II)I"⟩
abbrev cX5_wipe : ByteArray := prog_1_method_37_code
def yX5_wipe : MethodName := ⟨RX5, "wipe", "()I"⟩
abbrev cX5_text : ByteArray := prog_1_method_38_code
def yX5_text : MethodName := ⟨RX5, "text", "()I"⟩
abbrev cX5_hold : ByteArray := prog_1_method_39_code
def yX5_hold : MethodName := ⟨RX5, "hold", "(II)I"⟩
abbrev cX5_as : ByteArray := prog_1_method_40_code
def yX5_as : MethodName := ⟨RX5, "as", "(II)I"⟩
abbrev cX5_sheet : ByteArray := prog_1_method_41_code
def yX5_sheet : MethodName := ⟨RX5, "sheet", "(III)I"⟩
abbrev cX5_write : ByteArray := prog_1_method_42_code
def yX5_write : MethodName := ⟨RX5, "write", "(III)I"⟩
abbrev cX5_copy : ByteArray := prog_1_method_43_code
def yX5_copy : MethodName := ⟨RX5, "copy", "(IIIII)I"⟩
abbrev cX5_load : ByteArray := prog_1_method_44_code
def yX5_load : MethodName := ⟨RX5, "load", "(I)I"⟩
abbrev cX5_judge : ByteArray := prog_1_method_45_code
def yX5_judge : MethodName := ⟨RX5, "judge", "(I)I"⟩
abbrev cX5_image : ByteArray := prog_1_method_46_code
def yX5_image : MethodName := ⟨RX5, "image", "()I"⟩
abbrev cX5_undo : ByteArray := prog_1_method_47_code
def yX5_undo : MethodName := ⟨RX5, "undo", "()I"⟩
abbrev cX5_tear : ByteArray := prog_1_method_48_code
def yX5_tear : MethodName := ⟨RX5, "tear", "()I"⟩
abbrev cX5_count : ByteArray := prog_1_method_49_code
def yX5_count : MethodName := ⟨RX5, "count", "(I)I"⟩
abbrev cX5_status : ByteArray := prog_1_method_50_code
def yX5_status : MethodName := ⟨RX5, "status", "(I)I"⟩
abbrev cX5_found : ByteArray := prog_1_method_51_code
def yX5_found : MethodName := ⟨RX5, "found", "(I)I"⟩
abbrev cX5_within : ByteArray := prog_1_method_52_code
def yX5_within : MethodName := ⟨RX5, "within", "(III)Z"⟩
abbrev cX5_isIn : ByteArray := prog_1_method_53_code
def yX5_isIn : MethodName := ⟨RX5, "isIn", "(II)Z"⟩
abbrev cX5_isSmaller : ByteArray := prog_1_method_54_code
def yX5_isSmaller : MethodName := ⟨RX5, "isSmaller", "(II)Z"⟩
abbrev cX5_isKind : ByteArray := prog_1_method_55_code
def yX5_isKind : MethodName := ⟨RX5, "isKind", "(I)Z"⟩
abbrev cX5_isSeat : ByteArray := prog_1_method_56_code
def yX5_isSeat : MethodName := ⟨RX5, "isSeat", "(I)Z"⟩
abbrev cX5_isTopics : ByteArray := prog_1_method_57_code
def yX5_isTopics : MethodName := ⟨RX5, "isTopics", "(I)Z"⟩
abbrev cX5_isFun : ByteArray := prog_1_method_58_code
def yX5_isFun : MethodName := ⟨RX5, "isFun", "(I)Z"⟩
abbrev cX5_hasPerson : ByteArray := prog_1_method_59_code
def yX5_hasPerson : MethodName := ⟨RX5, "hasPerson", "(I)Z"⟩
abbrev cX5_hasJoke : ByteArray := prog_1_method_60_code
def yX5_hasJoke : MethodName := ⟨RX5, "hasJoke", "(I)Z"⟩
abbrev cX5_canBecome : ByteArray := prog_1_method_61_code
def yX5_canBecome : MethodName := ⟨RX5, "canBecome", "(II)Z"⟩
abbrev cX5_replace : ByteArray := prog_1_method_62_code
def yX5_replace : MethodName := ⟨RX5, "replace", "([III)I"⟩
abbrev cX5_moveTo : ByteArray := prog_1_method_63_code
def yX5_moveTo : MethodName := ⟨RX5, "moveTo", "(II)I"⟩
abbrev cX5_laughingAt : ByteArray := prog_1_method_64_code
def yX5_laughingAt : MethodName := ⟨RX5, "laughingAt", "(II)I"⟩
abbrev cX5_sheetFinding : ByteArray := prog_1_method_65_code
def yX5_sheetFinding : MethodName := ⟨RX5, "sheetFinding", "(I)I"⟩
abbrev cX5_paymentsFinding : ByteArray := prog_1_method_66_code
def yX5_paymentsFinding : MethodName := ⟨RX5, "paymentsFinding", "(III)I"⟩
abbrev cX5_fits : ByteArray := prog_1_method_67_code
def yX5_fits : MethodName := ⟨RX5, "fits", "(LLaughTax$Sheet;III)Z"⟩
abbrev cX5_commonDivisor : ByteArray := prog_1_method_68_code
def yX5_commonDivisor : MethodName := ⟨RX5, "commonDivisor", "(II)I"⟩
abbrev cX5_power : ByteArray := prog_1_method_69_code
def yX5_power : MethodName := ⟨RX5, "power", "(II)J"⟩
def RX6 : String := "LaughTaxModel"
def TX6 : u_T := fun k => match k with
  | 0 => ("LaughTaxModel", "s", "[I", true)
  | 1 => ("LaughTaxModel", "kept", "[I", true)
  | 2 => ("LaughTaxModel", "aside", "[I", true)
  | 3 => ("LaughTaxModel", "isKept", "Z", false)
  | 4 => ("LaughTaxModel", "found", "[I", true)
  | 5 => ("LaughTaxModel", "round", "[I", true)
  | 6 => ("LaughTaxModel", "rounds", "I", false)
  | 7 => ("LaughTaxModel", "paid", "[I", true)
  | 8 => ("LaughTaxModel", "leastTaste", "I", false)
  | 9 => ("LaughTaxModel", "tape", "[I", true)
  | 10 => ("LaughTaxModel", "taped", "I", false)
  | 11 => ("LaughTaxModel", "from", "I", false)
  | 12 => ("LaughTaxModel", "to", "I", false)
  | 13 => ("LaughTaxModel", "isWrong", "Z", false)
  | 14 => ("LaughTaxModel", "bitsOf", "[I", true)
  | 15 => ("LaughTaxModel", "sizeOf", "[I", true)
  | 16 => ("LaughTaxModel", "number", "[I", true)
  | _ => ("LaughTaxModel", "moved", "[I", true)
def tyX6 : Nat → FieldType := fun k => match k with
  | 0 => .array .int
  | 1 => .array .int
  | 2 => .array .int
  | 3 => .boolean
  | 4 => .array .int
  | 5 => .array .int
  | 6 => .int
  | 7 => .array .int
  | 8 => .int
  | 9 => .array .int
  | 10 => .int
  | 11 => .int
  | 12 => .int
  | 13 => .boolean
  | 14 => .array .int
  | 15 => .array .int
  | 16 => .array .int
  | _ => .array .int
abbrev wsX60 : List Cond := u_ws RX6 TX6 18
theorem nmX6 : ∀ a, a < 18 → ∀ b, b < 18 → a ≠ b → (TX6 a).2.1 ≠ (TX6 b).2.1 := by decide +kernel
theorem tyX6_ok : ∀ k, k < 18 → parseFieldDescriptor (TX6 k).2.2.1 = some (tyX6 k) := by decide +kernel
abbrev cX6_init : ByteArray := prog_8_method_1_code
def yX6_init : MethodName := ⟨RX6, "<init>", "()V"⟩
abbrev cX6_finds : ByteArray := prog_8_method_2_code
def yX6_finds : MethodName := ⟨RX6, "finds", "(I)I"⟩
abbrev cX6_in : ByteArray := prog_8_method_3_code
def yX6_in : MethodName := ⟨RX6, "in", "(JJJ)Z"⟩
abbrev cX6_become : ByteArray := prog_8_method_4_code
def yX6_become : MethodName := ⟨RX6, "become", "([I[I)V"⟩
abbrev cX6_lends : ByteArray := prog_8_method_5_code
def yX6_lends : MethodName := ⟨RX6, "lends", "()V"⟩
abbrev cX6_laysBack : ByteArray := prog_8_method_6_code
def yX6_laysBack : MethodName := ⟨RX6, "laysBack", "()V"⟩
abbrev cX6_isPerson : ByteArray := prog_8_method_7_code
def yX6_isPerson : MethodName := ⟨RX6, "isPerson", "(I)Z"⟩
abbrev cX6_isJoke : ByteArray := prog_8_method_8_code
def yX6_isJoke : MethodName := ⟨RX6, "isJoke", "(I)Z"⟩
abbrev cX6_isSeat : ByteArray := prog_8_method_9_code
def yX6_isSeat : MethodName := ⟨RX6, "isSeat", "(I)Z"⟩
abbrev cX6_isTopics : ByteArray := prog_8_method_10_code
def yX6_isTopics : MethodName := ⟨RX6, "isTopics", "(I)Z"⟩
abbrev cX6_isFun : ByteArray := prog_8_method_11_code
def yX6_isFun : MethodName := ⟨RX6, "isFun", "(I)Z"⟩
abbrev cX6_its : ByteArray := prog_8_method_12_code
def yX6_its : MethodName := ⟨RX6, "its", "(II)I"⟩
abbrev cX6_sets : ByteArray := prog_8_method_13_code
def yX6_sets : MethodName := ⟨RX6, "sets", "(III)V"⟩
abbrev cX6_becomes : ByteArray := prog_8_method_14_code
def yX6_becomes : MethodName := ⟨RX6, "becomes", "(II)I"⟩
abbrev cX6_ones : ByteArray := prog_8_method_15_code
def yX6_ones : MethodName := ⟨RX6, "ones", "(I)I"⟩
abbrev cX6_everybody : ByteArray := prog_8_method_16_code
def yX6_everybody : MethodName := ⟨RX6, "everybody", "()I"⟩
abbrev cX6_aboveOf : ByteArray := prog_8_method_17_code
def yX6_aboveOf : MethodName := ⟨RX6, "aboveOf", "(I)I"⟩
abbrev cX6_isUnder : ByteArray := prog_8_method_18_code
def yX6_isUnder : MethodName := ⟨RX6, "isUnder", "(II)Z"⟩
abbrev cX6_isKind : ByteArray := prog_8_method_19_code
def yX6_isKind : MethodName := ⟨RX6, "isKind", "(I)Z"⟩
abbrev cX6_bound : ByteArray := prog_8_method_20_code
def yX6_bound : MethodName := ⟨RX6, "bound", "(I)I"⟩
abbrev cX6_numberOf : ByteArray := prog_8_method_21_code
def yX6_numberOf : MethodName := ⟨RX6, "numberOf", "(I)I"⟩
abbrev cX6_near : ByteArray := prog_8_method_22_code
def yX6_near : MethodName := ⟨RX6, "near", "(I)I"⟩
abbrev cX6_strong : ByteArray := prog_8_method_23_code
def yX6_strong : MethodName := ⟨RX6, "strong", "(III)I"⟩
abbrev cX6_seconds : ByteArray := prog_8_method_24_code
def yX6_seconds : MethodName := ⟨RX6, "seconds", "(III)I"⟩
abbrev cX6_due : ByteArray := prog_8_method_25_code
def yX6_due : MethodName := ⟨RX6, "due", "(III)I"⟩
abbrev cX6_adds : ByteArray := prog_8_method_26_code
def yX6_adds : MethodName := ⟨RX6, "adds", "(II)I"⟩
abbrev cX6_person : ByteArray := prog_8_method_27_code
def yX6_person : MethodName := ⟨RX6, "person", "(II)I"⟩
abbrev cX6_of : ByteArray := prog_8_method_28_code
def yX6_of : MethodName := ⟨RX6, "of", "(II)I"⟩
abbrev cX6_mayBe : ByteArray := prog_8_method_29_code
def yX6_mayBe : MethodName := ⟨RX6, "mayBe", "(II)Z"⟩
abbrev cX6_change : ByteArray := prog_8_method_30_code
def yX6_change : MethodName := ⟨RX6, "change", "(III)I"⟩
abbrev cX6_addsJoke : ByteArray := prog_8_method_31_code
def yX6_addsJoke : MethodName := ⟨RX6, "addsJoke", "(II)I"⟩
abbrev cX6_joke : ByteArray := prog_8_method_32_code
def yX6_joke : MethodName := ⟨RX6, "joke", "(II)I"⟩
abbrev cX6_jokeOf : ByteArray := prog_8_method_33_code
def yX6_jokeOf : MethodName := ⟨RX6, "jokeOf", "(II)I"⟩
abbrev cX6_law : ByteArray := prog_8_method_34_code
def yX6_law : MethodName := ⟨RX6, "law", "(II)I"⟩
abbrev cX6_strength : ByteArray := prog_8_method_35_code
def yX6_strength : MethodName := ⟨RX6, "strength", "(III)I"⟩
abbrev cX6_caughtFrom : ByteArray := prog_8_method_36_code
def yX6_caughtFrom : MethodName := ⟨RX6, "caughtFrom", "(II)I"⟩
abbrev cX6_byThemselves : ByteArray := prog_8_method_37_code
def yX6_byThemselves : MethodName := ⟨RX6, "byThemselves", "(II)I"⟩
abbrev cX6_laughAt : ByteArray := prog_8_method_38_code
def yX6_laughAt : MethodName := ⟨RX6, "laughAt", "(II)I"⟩
abbrev cX6_laughAt_ : ByteArray := prog_8_method_39_code
def yX6_laughAt_ : MethodName := ⟨RX6, "laughAt", "(I)I"⟩
abbrev cX6_tells : ByteArray := prog_8_method_40_code
def yX6_tells : MethodName := ⟨RX6, "tells", "(I)I"⟩
abbrev cX6_allPaid : ByteArray := prog_8_method_41_code
def yX6_allPaid : MethodName := ⟨RX6, "allPaid", "()I"⟩
abbrev cX6_tell : ByteArray := prog_8_method_42_code
def yX6_tell : MethodName := ⟨RX6, "tell", "(I)I"⟩
abbrev cX6_evening : ByteArray := prog_8_method_43_code
def yX6_evening : MethodName := ⟨RX6, "evening", "(II)I"⟩
abbrev cX6_sumOf : ByteArray := prog_8_method_44_code
def yX6_sumOf : MethodName := ⟨RX6, "sumOf", "(I)I"⟩
abbrev cX6_now : ByteArray := prog_8_method_45_code
def yX6_now : MethodName := ⟨RX6, "now", "(I)I"⟩
abbrev cX6_poorest : ByteArray := prog_8_method_46_code
def yX6_poorest : MethodName := ⟨RX6, "poorest", "()I"⟩
abbrev cX6_relief : ByteArray := prog_8_method_47_code
def yX6_relief : MethodName := ⟨RX6, "relief", "(I)I"⟩
abbrev cX6_laugh : ByteArray := prog_8_method_48_code
def yX6_laugh : MethodName := ⟨RX6, "laugh", "(II)I"⟩
abbrev cX6_rounds : ByteArray := prog_8_method_49_code
def yX6_rounds : MethodName := ⟨RX6, "rounds", "(I)I"⟩
abbrev cX6_raised : ByteArray := prog_8_method_50_code
def yX6_raised : MethodName := ⟨RX6, "raised", "(I)I"⟩
abbrev cX6_ahead : ByteArray := prog_8_method_51_code
def yX6_ahead : MethodName := ⟨RX6, "ahead", "(II)I"⟩
abbrev cX6_orNone : ByteArray := prog_8_method_52_code
def yX6_orNone : MethodName := ⟨RX6, "orNone", "(I)I"⟩
abbrev cX6_stale : ByteArray := prog_8_method_53_code
def yX6_stale : MethodName := ⟨RX6, "stale", "(I)I"⟩
abbrev cX6_broke : ByteArray := prog_8_method_54_code
def yX6_broke : MethodName := ⟨RX6, "broke", "(II)I"⟩
abbrev cX6_caught : ByteArray := prog_8_method_55_code
def yX6_caught : MethodName := ⟨RX6, "caught", "(I)I"⟩
abbrev cX6_starter : ByteArray := prog_8_method_56_code
def yX6_starter : MethodName := ⟨RX6, "starter", "()I"⟩
abbrev cX6_fewest : ByteArray := prog_8_method_57_code
def yX6_fewest : MethodName := ⟨RX6, "fewest", "()I"⟩
abbrev cX6_leftWithout : ByteArray := prog_8_method_58_code
def yX6_leftWithout : MethodName := ⟨RX6, "leftWithout", "(II)I"⟩
abbrev cX6_away : ByteArray := prog_8_method_59_code
def yX6_away : MethodName := ⟨RX6, "away", "(II)I"⟩
abbrev cX6_seatFor : ByteArray := prog_8_method_60_code
def yX6_seatFor : MethodName := ⟨RX6, "seatFor", "(II)I"⟩
abbrev cX6_kindFor : ByteArray := prog_8_method_61_code
def yX6_kindFor : MethodName := ⟨RX6, "kindFor", "(II)I"⟩
abbrev cX6_reachFor : ByteArray := prog_8_method_62_code
def yX6_reachFor : MethodName := ⟨RX6, "reachFor", "(I)I"⟩
abbrev cX6_rateFor : ByteArray := prog_8_method_63_code
def yX6_rateFor : MethodName := ⟨RX6, "rateFor", "(II)I"⟩
abbrev cX6_best : ByteArray := prog_8_method_64_code
def yX6_best : MethodName := ⟨RX6, "best", "(I)I"⟩
abbrev cX6_quiet : ByteArray := prog_8_method_65_code
def yX6_quiet : MethodName := ⟨RX6, "quiet", "(I)I"⟩
abbrev cX6_safe : ByteArray := prog_8_method_66_code
def yX6_safe : MethodName := ⟨RX6, "safe", "(I)I"⟩
abbrev cX6_paysSo : ByteArray := prog_8_method_67_code
def yX6_paysSo : MethodName := ⟨RX6, "paysSo", "(III)Z"⟩
abbrev cX6_findTastes : ByteArray := prog_8_method_68_code
def yX6_findTastes : MethodName := ⟨RX6, "findTastes", "(III)I"⟩
abbrev cX6_lacksTastes : ByteArray := prog_8_method_69_code
def yX6_lacksTastes : MethodName := ⟨RX6, "lacksTastes", "(III)I"⟩
abbrev cX6_tastes : ByteArray := prog_8_method_70_code
def yX6_tastes : MethodName := ⟨RX6, "tastes", "(III)I"⟩
abbrev cX6_taste : ByteArray := prog_8_method_71_code
def yX6_taste : MethodName := ⟨RX6, "taste", "(III)I"⟩
abbrev cX6_which : ByteArray := prog_8_method_72_code
def yX6_which : MethodName := ⟨RX6, "which", "(I)I"⟩
abbrev cX6_draw : ByteArray := prog_8_method_73_code
def yX6_draw : MethodName := ⟨RX6, "draw", "()I"⟩
abbrev cX6_shows : ByteArray := prog_8_method_74_code
def yX6_shows : MethodName := ⟨RX6, "shows", "(I)I"⟩
abbrev cX6_odds : ByteArray := prog_8_method_75_code
def yX6_odds : MethodName := ⟨RX6, "odds", "(II)J"⟩
abbrev cX6_seed : ByteArray := prog_8_method_76_code
def yX6_seed : MethodName := ⟨RX6, "seed", "(I)I"⟩
abbrev cX6_feed : ByteArray := prog_8_method_77_code
def yX6_feed : MethodName := ⟨RX6, "feed", "(II)I"⟩
abbrev cX6_wipe : ByteArray := prog_8_method_78_code
def yX6_wipe : MethodName := ⟨RX6, "wipe", "()I"⟩
abbrev cX6_isByte : ByteArray := prog_8_method_79_code
def yX6_isByte : MethodName := ⟨RX6, "isByte", "(III)Z"⟩
abbrev cX6_next : ByteArray := prog_8_method_80_code
def yX6_next : MethodName := ⟨RX6, "next", "()V"⟩
abbrev cX6_isWord : ByteArray := prog_8_method_81_code
def yX6_isWord : MethodName := ⟨RX6, "isWord", "(Ljava/lang/String;)Z"⟩
abbrev cX6_must : ByteArray := prog_8_method_82_code
def yX6_must : MethodName := ⟨RX6, "must", "(Z)V"⟩
abbrev cX6_takes : ByteArray := prog_8_method_83_code
def yX6_takes : MethodName := ⟨RX6, "takes", "(Ljava/lang/String;)Z"⟩
abbrev cX6_numberRead : ByteArray := prog_8_method_84_code
def yX6_numberRead : MethodName := ⟨RX6, "numberRead", "(II)I"⟩
abbrev cX6_kindHere : ByteArray := prog_8_method_85_code
def yX6_kindHere : MethodName := ⟨RX6, "kindHere", "()I"⟩
abbrev cX6_partTold : ByteArray := prog_8_method_86_code
def yX6_partTold : MethodName := ⟨RX6, "partTold", "(ILjava/lang/String;II)V"⟩
abbrev cX6_personTold : ByteArray := prog_8_method_87_code
def yX6_personTold : MethodName := ⟨RX6, "personTold", "(I)V"⟩
abbrev cX6_jokeTold : ByteArray := prog_8_method_88_code
def yX6_jokeTold : MethodName := ⟨RX6, "jokeTold", "()V"⟩
abbrev cX6_item : ByteArray := prog_8_method_89_code
def yX6_item : MethodName := ⟨RX6, "item", "()V"⟩
abbrev cX6_text : ByteArray := prog_8_method_90_code
def yX6_text : MethodName := ⟨RX6, "text", "()I"⟩
abbrev cX6_isSpot : ByteArray := prog_8_method_91_code
def yX6_isSpot : MethodName := ⟨RX6, "isSpot", "(I)Z"⟩
abbrev cX6_hold : ByteArray := prog_8_method_92_code
def yX6_hold : MethodName := ⟨RX6, "hold", "(II)I"⟩
abbrev cX6_as : ByteArray := prog_8_method_93_code
def yX6_as : MethodName := ⟨RX6, "as", "(II)I"⟩
abbrev cX6_isSheet : ByteArray := prog_8_method_94_code
def yX6_isSheet : MethodName := ⟨RX6, "isSheet", "(I)Z"⟩
abbrev cX6_sheet : ByteArray := prog_8_method_95_code
def yX6_sheet : MethodName := ⟨RX6, "sheet", "(III)I"⟩
abbrev cX6_lacks : ByteArray := prog_8_method_96_code
def yX6_lacks : MethodName := ⟨RX6, "lacks", "(I)I"⟩
abbrev cX6_write : ByteArray := prog_8_method_97_code
def yX6_write : MethodName := ⟨RX6, "write", "(III)I"⟩
abbrev cX6_copy : ByteArray := prog_8_method_98_code
def yX6_copy : MethodName := ⟨RX6, "copy", "(IIIII)I"⟩
abbrev cX6_load : ByteArray := prog_8_method_99_code
def yX6_load : MethodName := ⟨RX6, "load", "(I)I"⟩
abbrev cX6_goesOn : ByteArray := prog_8_method_100_code
def yX6_goesOn : MethodName := ⟨RX6, "goesOn", "(II)Z"⟩
abbrev cX6_judge : ByteArray := prog_8_method_101_code
def yX6_judge : MethodName := ⟨RX6, "judge", "(I)I"⟩
abbrev cX6_image : ByteArray := prog_8_method_102_code
def yX6_image : MethodName := ⟨RX6, "image", "()I"⟩
abbrev cX6_undo : ByteArray := prog_8_method_103_code
def yX6_undo : MethodName := ⟨RX6, "undo", "()I"⟩
abbrev cX6_tear : ByteArray := prog_8_method_104_code
def yX6_tear : MethodName := ⟨RX6, "tear", "()I"⟩
abbrev cX6_held : ByteArray := prog_8_method_105_code
def yX6_held : MethodName := ⟨RX6, "held", "()I"⟩
abbrev cX6_count : ByteArray := prog_8_method_106_code
def yX6_count : MethodName := ⟨RX6, "count", "(I)I"⟩
abbrev cX6_status : ByteArray := prog_8_method_107_code
def yX6_status : MethodName := ⟨RX6, "status", "(I)I"⟩
def RJ6 : String := "java/lang/Integer"
def TJ6 : u_T := fun k => match k with
  | _ => ("", "", "", false)
def tyJ6 : Nat → FieldType := fun k => match k with
  | _ => .int
abbrev wsJ60 : List Cond := u_ws RJ6 TJ6 0
theorem nmJ6 : ∀ a, a < 0 → ∀ b, b < 0 → a ≠ b → (TJ6 a).2.1 ≠ (TJ6 b).2.1 := by decide +kernel
theorem tyJ6_ok : ∀ k, k < 0 → parseFieldDescriptor (TJ6 k).2.2.1 = some (tyJ6 k) := by decide +kernel
abbrev cJ6_bitCount_0f7a4 : ByteArray := prog_9_method_49_code
def yJ6_bitCount_0f7a4 : MethodName := ⟨RJ6, "bitCount", "(I)I"⟩
def RJ9 : String := "java/lang/Math"
def TJ9 : u_T := fun k => match k with
  | _ => ("", "", "", false)
def tyJ9 : Nat → FieldType := fun k => match k with
  | _ => .int
abbrev wsJ90 : List Cond := u_ws RJ9 TJ9 0
theorem nmJ9 : ∀ a, a < 0 → ∀ b, b < 0 → a ≠ b → (TJ9 a).2.1 ≠ (TJ9 b).2.1 := by decide +kernel
theorem tyJ9_ok : ∀ k, k < 0 → parseFieldDescriptor (TJ9 k).2.2.1 = some (tyJ9 k) := by decide +kernel
abbrev cJ9_abs_0f7a4 : ByteArray := prog_10_method_59_code
def yJ9_abs_0f7a4 : MethodName := ⟨RJ9, "abs", "(I)I"⟩
abbrev cJ9_max_7cf53 : ByteArray := prog_10_method_65_code
def yJ9_max_7cf53 : MethodName := ⟨RJ9, "max", "(II)I"⟩
abbrev cJ9_min_7cf53 : ByteArray := prog_10_method_69_code
def yJ9_min_7cf53 : MethodName := ⟨RJ9, "min", "(II)I"⟩
def RJ0 : String := "java/lang/String"
def TJ0 : u_T := fun k => match k with
  | _ => ("", "", "", false)
def tyJ0 : Nat → FieldType := fun k => match k with
  | _ => .int
abbrev wsJ00 : List Cond := u_ws RJ0 TJ0 0
theorem nmJ0 : ∀ a, a < 0 → ∀ b, b < 0 → a ≠ b → (TJ0 a).2.1 ≠ (TJ0 b).2.1 := by decide +kernel
theorem tyJ0_ok : ∀ k, k < 0 → parseFieldDescriptor (TJ0 k).2.2.1 = some (tyJ0 k) := by decide +kernel
abbrev cJ0_length_8abf5 : ByteArray := prog_11_method_54_code
def yJ0_length_8abf5 : MethodName := ⟨RJ0, "length", "()I"⟩
abbrev cJ0_charAt_5068e : ByteArray := prog_11_method_56_code
def yJ0_charAt_5068e : MethodName := ⟨RJ0, "charAt", "(I)C"⟩
abbrev cJ0_coder_7d493 : ByteArray := prog_11_method_152_code
def yJ0_coder_7d493 : MethodName := ⟨RJ0, "coder", "()B"⟩
abbrev cJ0_isLatin1_aae02 : ByteArray := prog_11_method_154_code
def yJ0_isLatin1_aae02 : MethodName := ⟨RJ0, "isLatin1", "()Z"⟩
abbrev cJ0_checkIndex_df160 : ByteArray := prog_11_method_155_code
def yJ0_checkIndex_df160 : MethodName := ⟨RJ0, "checkIndex", "(II)V"⟩
def RJ1 : String := "java/lang/StringLatin1"
def TJ1 : u_T := fun k => match k with
  | _ => ("", "", "", false)
def tyJ1 : Nat → FieldType := fun k => match k with
  | _ => .int
abbrev wsJ10 : List Cond := u_ws RJ1 TJ1 0
theorem nmJ1 : ∀ a, a < 0 → ∀ b, b < 0 → a ≠ b → (TJ1 a).2.1 ≠ (TJ1 b).2.1 := by decide +kernel
theorem tyJ1_ok : ∀ k, k < 0 → parseFieldDescriptor (TJ1 k).2.2.1 = some (tyJ1 k) := by decide +kernel
abbrev cJ1_charAt_3b067 : ByteArray := prog_12_method_2_code
def yJ1_charAt_3b067 : MethodName := ⟨RJ1, "charAt", "([BI)C"⟩
def RJ2 : String := "java/lang/StringUTF16"
def TJ2 : u_T := fun k => match k with
  | _ => ("", "", "", false)
def tyJ2 : Nat → FieldType := fun k => match k with
  | _ => .int
abbrev wsJ20 : List Cond := u_ws RJ2 TJ2 0
theorem nmJ2 : ∀ a, a < 0 → ∀ b, b < 0 → a ≠ b → (TJ2 a).2.1 ≠ (TJ2 b).2.1 := by decide +kernel
theorem tyJ2_ok : ∀ k, k < 0 → parseFieldDescriptor (TJ2 k).2.2.1 = some (tyJ2 k) := by decide +kernel
abbrev cJ2_getChar_3b067 : ByteArray := prog_13_method_5_code
def yJ2_getChar_3b067 : MethodName := ⟨RJ2, "getChar", "([BI)C"⟩
abbrev cJ2_length_9d52b : ByteArray := prog_13_method_6_code
def yJ2_length_9d52b : MethodName := ⟨RJ2, "length", "([B)I"⟩
abbrev cJ2_charAt_3b067 : ByteArray := prog_13_method_83_code
def yJ2_charAt_3b067 : MethodName := ⟨RJ2, "charAt", "([BI)C"⟩
abbrev cJ2_checkIndex_2214a : ByteArray := prog_13_method_91_code
def yJ2_checkIndex_2214a : MethodName := ⟨RJ2, "checkIndex", "(I[B)V"⟩
def RJ10 : String := "java/lang/System"
def TJ10 : u_T := fun k => match k with
  | _ => ("", "", "", false)
def tyJ10 : Nat → FieldType := fun k => match k with
  | _ => .int
abbrev wsJ100 : List Cond := u_ws RJ10 TJ10 0
theorem nmJ10 : ∀ a, a < 0 → ∀ b, b < 0 → a ≠ b → (TJ10 a).2.1 ≠ (TJ10 b).2.1 := by decide +kernel
theorem tyJ10_ok : ∀ k, k < 0 → parseFieldDescriptor (TJ10 k).2.2.1 = some (tyJ10 k) := by decide +kernel
def RJ3 : String := "jdk/internal/util/Preconditions"
def TJ3 : u_T := fun k => match k with
  | _ => ("", "", "", false)
def tyJ3 : Nat → FieldType := fun k => match k with
  | _ => .int
abbrev wsJ30 : List Cond := u_ws RJ3 TJ3 0
theorem nmJ3 : ∀ a, a < 0 → ∀ b, b < 0 → a ≠ b → (TJ3 a).2.1 ≠ (TJ3 b).2.1 := by decide +kernel
theorem tyJ3_ok : ∀ k, k < 0 → parseFieldDescriptor (TJ3 k).2.2.1 = some (tyJ3 k) := by decide +kernel
abbrev cJ3_checkIndex_8e157 : ByteArray := prog_15_method_11_code
def yJ3_checkIndex_8e157 : MethodName := ⟨RJ3, "checkIndex", "(IILjava/util/function/BiFunction;)I"⟩
def RL : String := "LaughTaxLaw"
abbrev cL_law : ByteArray := code
def yL_law : MethodName := ⟨RL, "law", "([I)Z"⟩
set_option maxRecDepth 20000 in
theorem inJ6 : ∀ w ∈ wsJ60, w ∈ lw_tbl := by decide +kernel
theorem inJ9 : ∀ w ∈ wsJ90, w ∈ lw_tbl := by decide +kernel
theorem inJ0 : ∀ w ∈ wsJ00, w ∈ lw_tbl := by decide +kernel
theorem inJ1 : ∀ w ∈ wsJ10, w ∈ lw_tbl := by decide +kernel
theorem inJ2 : ∀ w ∈ wsJ20, w ∈ lw_tbl := by decide +kernel
theorem inJ10 : ∀ w ∈ wsJ100, w ∈ lw_tbl := by decide +kernel
theorem inJ3 : ∀ w ∈ wsJ30, w ∈ lw_tbl := by decide +kernel
abbrev vwCl : List vw_C := [(RX1, TX1, 16), (RX2, TX2, 3), (RX3, TX3, 7), (RX4, TX4, 3), (RX5, TX5, 8), (RX6, TX6, 18)]
end
section
theorem dX0_isA_0 : decode cX0_isA 0 = .ok (.iload_n 0, 1) := by decide +kernel
theorem dX0_isA_1 : decode cX0_isA 1 = .ok (.istore_n 2, 1) := by decide +kernel
theorem dX0_isA_2 : decode cX0_isA 2 = .ok (.iconst 0, 1) := by decide +kernel
theorem dX0_isA_3 : decode cX0_isA 3 = .ok (.istore_n 3, 1) := by decide +kernel
theorem dX0_isA_4 : decode cX0_isA 4 = .ok (.iload_n 3, 1) := by decide +kernel
theorem dX0_isA_5 : decode cX0_isA 5 = .ok (.bipush 7, 2) := by decide +kernel
theorem dX0_isA_7 : decode cX0_isA 7 = .ok (.if_icmp .ge 27, 3) := by decide +kernel
theorem dX0_isA_10 : decode cX0_isA 10 = .ok (.iload_n 2, 1) := by decide +kernel
theorem dX0_isA_11 : decode cX0_isA 11 = .ok (.iconst (-1), 1) := by decide +kernel
theorem dX0_isA_12 : decode cX0_isA 12 = .ok (.if_icmp .eq 22, 3) := by decide +kernel
theorem dX0_isA_15 : decode cX0_isA 15 = .ok (.iload_n 2, 1) := by decide +kernel
theorem dX0_isA_16 : decode cX0_isA 16 = .ok (.iload_n 1, 1) := by decide +kernel
theorem dX0_isA_17 : decode cX0_isA 17 = .ok (.if_icmp .ne 5, 3) := by decide +kernel
theorem dX0_isA_20 : decode cX0_isA 20 = .ok (.iconst 1, 1) := by decide +kernel
theorem dX0_isA_21 : decode cX0_isA 21 = .ok (.ireturn, 1) := by decide +kernel
theorem dX0_isA_22 : decode cX0_isA 22 = .ok (.getstatic 11, 3) := by decide +kernel
theorem dX0_isA_25 : decode cX0_isA 25 = .ok (.iload_n 2, 1) := by decide +kernel
theorem dX0_isA_26 : decode cX0_isA 26 = .ok (.iaload, 1) := by decide +kernel
theorem dX0_isA_27 : decode cX0_isA 27 = .ok (.istore_n 2, 1) := by decide +kernel
theorem dX0_isA_28 : decode cX0_isA 28 = .ok (.iinc 3 1, 3) := by decide +kernel
theorem dX0_isA_31 : decode cX0_isA 31 = .ok (.goto (-27), 3) := by decide +kernel
theorem dX0_isA_34 : decode cX0_isA 34 = .ok (.iconst 0, 1) := by decide +kernel
theorem dX0_isA_35 : decode cX0_isA 35 = .ok (.ireturn, 1) := by decide +kernel
theorem dX0_bound_0 : decode cX0_bound 0 = .ok (.bipush 8, 2) := by decide +kernel
theorem dX0_bound_2 : decode cX0_bound 2 = .ok (.bipush 20, 2) := by decide +kernel
theorem dX0_bound_4 : decode cX0_bound 4 = .ok (.iload_n 1, 1) := by decide +kernel
theorem dX0_bound_5 : decode cX0_bound 5 = .ok (.bipush 10, 2) := by decide +kernel
theorem dX0_bound_7 : decode cX0_bound 7 = .ok (.idiv, 1) := by decide +kernel
theorem dX0_bound_8 : decode cX0_bound 8 = .ok (.invokestatic 15, 3) := by decide +kernel
theorem dX0_bound_11 : decode cX0_bound 11 = .ok (.iadd, 1) := by decide +kernel
theorem dX0_bound_12 : decode cX0_bound 12 = .ok (.istore_n 2, 1) := by decide +kernel
theorem dX0_bound_13 : decode cX0_bound 13 = .ok (.iload_n 0, 1) := by decide +kernel
theorem dX0_bound_14 : decode cX0_bound 14 = .ok (.tableswitch 53 1 6 #[38, 44, 46, 48, 51, 40], 38) := by decide +kernel
theorem dX0_bound_52 : decode cX0_bound 52 = .ok (.iload_n 2, 1) := by decide +kernel
theorem dX0_bound_53 : decode cX0_bound 53 = .ok (.ireturn, 1) := by decide +kernel
theorem dX0_bound_54 : decode cX0_bound 54 = .ok (.iload_n 2, 1) := by decide +kernel
theorem dX0_bound_55 : decode cX0_bound 55 = .ok (.iconst 4, 1) := by decide +kernel
theorem dX0_bound_56 : decode cX0_bound 56 = .ok (.iadd, 1) := by decide +kernel
theorem dX0_bound_57 : decode cX0_bound 57 = .ok (.ireturn, 1) := by decide +kernel
theorem dX0_bound_58 : decode cX0_bound 58 = .ok (.iconst 4, 1) := by decide +kernel
theorem dX0_bound_59 : decode cX0_bound 59 = .ok (.ireturn, 1) := by decide +kernel
theorem dX0_bound_60 : decode cX0_bound 60 = .ok (.iconst 3, 1) := by decide +kernel
theorem dX0_bound_61 : decode cX0_bound 61 = .ok (.ireturn, 1) := by decide +kernel
theorem dX0_bound_62 : decode cX0_bound 62 = .ok (.bipush 93, 2) := by decide +kernel
theorem dX0_bound_64 : decode cX0_bound 64 = .ok (.ireturn, 1) := by decide +kernel
theorem dX0_bound_65 : decode cX0_bound 65 = .ok (.iconst 5, 1) := by decide +kernel
theorem dX0_bound_66 : decode cX0_bound 66 = .ok (.ireturn, 1) := by decide +kernel
theorem dX0_bound_67 : decode cX0_bound 67 = .ok (.bipush 8, 2) := by decide +kernel
theorem dX0_bound_69 : decode cX0_bound 69 = .ok (.ireturn, 1) := by decide +kernel
theorem dX0_number_0 : decode cX0_number 0 = .ok (.iload_n 0, 1) := by decide +kernel
theorem dX0_number_1 : decode cX0_number 1 = .ok (.tableswitch 62 1 6 #[39, 44, 46, 48, 51, 41], 39) := by decide +kernel
theorem dX0_number_40 : decode cX0_number 40 = .ok (.iconst 3, 1) := by decide +kernel
theorem dX0_number_41 : decode cX0_number 41 = .ok (.ireturn, 1) := by decide +kernel
theorem dX0_number_42 : decode cX0_number 42 = .ok (.bipush 6, 2) := by decide +kernel
theorem dX0_number_44 : decode cX0_number 44 = .ok (.ireturn, 1) := by decide +kernel
theorem dX0_number_45 : decode cX0_number 45 = .ok (.iconst 1, 1) := by decide +kernel
theorem dX0_number_46 : decode cX0_number 46 = .ok (.ireturn, 1) := by decide +kernel
theorem dX0_number_47 : decode cX0_number 47 = .ok (.iconst 1, 1) := by decide +kernel
theorem dX0_number_48 : decode cX0_number 48 = .ok (.ireturn, 1) := by decide +kernel
theorem dX0_number_49 : decode cX0_number 49 = .ok (.bipush 9, 2) := by decide +kernel
theorem dX0_number_51 : decode cX0_number 51 = .ok (.ireturn, 1) := by decide +kernel
theorem dX0_number_52 : decode cX0_number 52 = .ok (.iload_n 1, 1) := by decide +kernel
theorem dX0_number_53 : decode cX0_number 53 = .ok (.iconst 5, 1) := by decide +kernel
theorem dX0_number_54 : decode cX0_number 54 = .ok (.if_icmp .lt 7, 3) := by decide +kernel
theorem dX0_number_57 : decode cX0_number 57 = .ok (.iconst 1, 1) := by decide +kernel
theorem dX0_number_58 : decode cX0_number 58 = .ok (.goto 4, 3) := by decide +kernel
theorem dX0_number_61 : decode cX0_number 61 = .ok (.iconst 2, 1) := by decide +kernel
theorem dX0_number_62 : decode cX0_number 62 = .ok (.ireturn, 1) := by decide +kernel
theorem dX0_number_63 : decode cX0_number 63 = .ok (.iconst 2, 1) := by decide +kernel
theorem dX0_number_64 : decode cX0_number 64 = .ok (.ireturn, 1) := by decide +kernel
theorem dX0_seconds_0 : decode cX0_seconds 0 = .ok (.bipush 30, 2) := by decide +kernel
theorem dX0_seconds_2 : decode cX0_seconds 2 = .ok (.iconst 1, 1) := by decide +kernel
theorem dX0_seconds_3 : decode cX0_seconds 3 = .ok (.iload_n 1, 1) := by decide +kernel
theorem dX0_seconds_4 : decode cX0_seconds 4 = .ok (.invokestatic 21, 3) := by decide +kernel
theorem dX0_seconds_7 : decode cX0_seconds 7 = .ok (.invokestatic 15, 3) := by decide +kernel
theorem dX0_seconds_10 : decode cX0_seconds 10 = .ok (.istore_n 2, 1) := by decide +kernel
theorem dX0_seconds_11 : decode cX0_seconds 11 = .ok (.iload_n 0, 1) := by decide +kernel
theorem dX0_seconds_12 : decode cX0_seconds 12 = .ok (.tableswitch 60 1 6 #[40, 48, 52, 58, 60, 46], 40) := by decide +kernel
theorem dX0_seconds_52 : decode cX0_seconds 52 = .ok (.iload_n 2, 1) := by decide +kernel
theorem dX0_seconds_53 : decode cX0_seconds 53 = .ok (.iconst 2, 1) := by decide +kernel
theorem dX0_seconds_54 : decode cX0_seconds 54 = .ok (.idiv, 1) := by decide +kernel
theorem dX0_seconds_55 : decode cX0_seconds 55 = .ok (.iconst 1, 1) := by decide +kernel
theorem dX0_seconds_56 : decode cX0_seconds 56 = .ok (.iadd, 1) := by decide +kernel
theorem dX0_seconds_57 : decode cX0_seconds 57 = .ok (.ireturn, 1) := by decide +kernel
theorem dX0_seconds_58 : decode cX0_seconds 58 = .ok (.iconst 1, 1) := by decide +kernel
theorem dX0_seconds_59 : decode cX0_seconds 59 = .ok (.ireturn, 1) := by decide +kernel
theorem dX0_seconds_60 : decode cX0_seconds 60 = .ok (.iload_n 2, 1) := by decide +kernel
theorem dX0_seconds_61 : decode cX0_seconds 61 = .ok (.iconst 2, 1) := by decide +kernel
theorem dX0_seconds_62 : decode cX0_seconds 62 = .ok (.imul, 1) := by decide +kernel
theorem dX0_seconds_63 : decode cX0_seconds 63 = .ok (.ireturn, 1) := by decide +kernel
theorem dX0_seconds_64 : decode cX0_seconds 64 = .ok (.iload_n 2, 1) := by decide +kernel
theorem dX0_seconds_65 : decode cX0_seconds 65 = .ok (.iconst 2, 1) := by decide +kernel
theorem dX0_seconds_66 : decode cX0_seconds 66 = .ok (.imul, 1) := by decide +kernel
theorem dX0_seconds_67 : decode cX0_seconds 67 = .ok (.iconst 5, 1) := by decide +kernel
theorem dX0_seconds_68 : decode cX0_seconds 68 = .ok (.iadd, 1) := by decide +kernel
theorem dX0_seconds_69 : decode cX0_seconds 69 = .ok (.ireturn, 1) := by decide +kernel
theorem dX0_seconds_70 : decode cX0_seconds 70 = .ok (.iconst 0, 1) := by decide +kernel
theorem dX0_seconds_71 : decode cX0_seconds 71 = .ok (.ireturn, 1) := by decide +kernel
theorem dX0_seconds_72 : decode cX0_seconds 72 = .ok (.iload_n 2, 1) := by decide +kernel
theorem dX0_seconds_73 : decode cX0_seconds 73 = .ok (.ireturn, 1) := by decide +kernel
theorem dX1_init_0 : decode cX1_init 0 = .ok (.aload_n 0, 1) := by decide +kernel
theorem dX1_init_1 : decode cX1_init 1 = .ok (.invokespecial 3, 3) := by decide +kernel
theorem dX1_init_4 : decode cX1_init 4 = .ok (.aload_n 0, 1) := by decide +kernel
theorem dX1_init_5 : decode cX1_init 5 = .ok (.bipush 8, 2) := by decide +kernel
theorem dX1_init_7 : decode cX1_init 7 = .ok (.newarray .int, 2) := by decide +kernel
theorem dX1_init_9 : decode cX1_init 9 = .ok (.putfield 9, 3) := by decide +kernel
theorem dX1_init_12 : decode cX1_init 12 = .ok (.aload_n 0, 1) := by decide +kernel
theorem dX1_init_13 : decode cX1_init 13 = .ok (.bipush 8, 2) := by decide +kernel
theorem dX1_init_15 : decode cX1_init 15 = .ok (.newarray .int, 2) := by decide +kernel
theorem dX1_init_17 : decode cX1_init 17 = .ok (.putfield 15, 3) := by decide +kernel
theorem dX1_init_20 : decode cX1_init 20 = .ok (.aload_n 0, 1) := by decide +kernel
theorem dX1_init_21 : decode cX1_init 21 = .ok (.bipush 8, 2) := by decide +kernel
theorem dX1_init_23 : decode cX1_init 23 = .ok (.newarray .int, 2) := by decide +kernel
theorem dX1_init_25 : decode cX1_init 25 = .ok (.putfield 18, 3) := by decide +kernel
theorem dX1_init_28 : decode cX1_init 28 = .ok (.aload_n 0, 1) := by decide +kernel
theorem dX1_init_29 : decode cX1_init 29 = .ok (.bipush 8, 2) := by decide +kernel
theorem dX1_init_31 : decode cX1_init 31 = .ok (.newarray .int, 2) := by decide +kernel
theorem dX1_init_33 : decode cX1_init 33 = .ok (.putfield 21, 3) := by decide +kernel
theorem dX1_init_36 : decode cX1_init 36 = .ok (.aload_n 0, 1) := by decide +kernel
theorem dX1_init_37 : decode cX1_init 37 = .ok (.bipush 8, 2) := by decide +kernel
theorem dX1_init_39 : decode cX1_init 39 = .ok (.newarray .int, 2) := by decide +kernel
theorem dX1_init_41 : decode cX1_init 41 = .ok (.putfield 24, 3) := by decide +kernel
theorem dX1_init_44 : decode cX1_init 44 = .ok (.aload_n 0, 1) := by decide +kernel
theorem dX1_init_45 : decode cX1_init 45 = .ok (.bipush 8, 2) := by decide +kernel
theorem dX1_init_47 : decode cX1_init 47 = .ok (.newarray .int, 2) := by decide +kernel
theorem dX1_init_49 : decode cX1_init 49 = .ok (.putfield 27, 3) := by decide +kernel
theorem dX1_init_52 : decode cX1_init 52 = .ok (.aload_n 0, 1) := by decide +kernel
theorem dX1_init_53 : decode cX1_init 53 = .ok (.bipush 8, 2) := by decide +kernel
theorem dX1_init_55 : decode cX1_init 55 = .ok (.newarray .int, 2) := by decide +kernel
theorem dX1_init_57 : decode cX1_init 57 = .ok (.putfield 30, 3) := by decide +kernel
theorem dX1_init_60 : decode cX1_init 60 = .ok (.aload_n 0, 1) := by decide +kernel
theorem dX1_init_61 : decode cX1_init 61 = .ok (.bipush 8, 2) := by decide +kernel
theorem dX1_init_63 : decode cX1_init 63 = .ok (.newarray .int, 2) := by decide +kernel
theorem dX1_init_65 : decode cX1_init 65 = .ok (.putfield 33, 3) := by decide +kernel
theorem dX1_init_68 : decode cX1_init 68 = .ok (.aload_n 0, 1) := by decide +kernel
theorem dX1_init_69 : decode cX1_init 69 = .ok (.iconst 1, 1) := by decide +kernel
theorem dX1_init_70 : decode cX1_init 70 = .ok (.putfield 36, 3) := by decide +kernel
theorem dX1_init_73 : decode cX1_init 73 = .ok (.aload_n 0, 1) := by decide +kernel
theorem dX1_init_74 : decode cX1_init 74 = .ok (.iconst 2, 1) := by decide +kernel
theorem dX1_init_75 : decode cX1_init 75 = .ok (.putfield 40, 3) := by decide +kernel
theorem dX1_init_78 : decode cX1_init 78 = .ok (.aload_n 0, 1) := by decide +kernel
theorem dX1_init_79 : decode cX1_init 79 = .ok (.iconst 1, 1) := by decide +kernel
theorem dX1_init_80 : decode cX1_init 80 = .ok (.putfield 43, 3) := by decide +kernel
theorem dX1_init_83 : decode cX1_init 83 = .ok (.aload_n 0, 1) := by decide +kernel
theorem dX1_init_84 : decode cX1_init 84 = .ok (.bipush 10, 2) := by decide +kernel
theorem dX1_init_86 : decode cX1_init 86 = .ok (.newarray .int, 2) := by decide +kernel
theorem dX1_init_88 : decode cX1_init 88 = .ok (.putfield 46, 3) := by decide +kernel
theorem dX1_init_91 : decode cX1_init 91 = .ok (.iconst 0, 1) := by decide +kernel
theorem dX1_init_92 : decode cX1_init 92 = .ok (.istore_n 1, 1) := by decide +kernel
theorem dX1_init_93 : decode cX1_init 93 = .ok (.iload_n 1, 1) := by decide +kernel
theorem dX1_init_94 : decode cX1_init 94 = .ok (.bipush 10, 2) := by decide +kernel
theorem dX1_init_96 : decode cX1_init 96 = .ok (.if_icmp .ge 16, 3) := by decide +kernel
theorem dX1_init_99 : decode cX1_init 99 = .ok (.aload_n 0, 1) := by decide +kernel
theorem dX1_init_100 : decode cX1_init 100 = .ok (.getfield 46, 3) := by decide +kernel
theorem dX1_init_103 : decode cX1_init 103 = .ok (.iload_n 1, 1) := by decide +kernel
theorem dX1_init_104 : decode cX1_init 104 = .ok (.iconst (-1), 1) := by decide +kernel
theorem dX1_init_105 : decode cX1_init 105 = .ok (.iastore, 1) := by decide +kernel
theorem dX1_init_106 : decode cX1_init 106 = .ok (.iinc 1 1, 3) := by decide +kernel
theorem dX1_init_109 : decode cX1_init 109 = .ok (.goto (-16), 3) := by decide +kernel
theorem dX1_init_112 : decode cX1_init 112 = .ok (.return_, 1) := by decide +kernel
theorem dX1_takeOver_0 : decode cX1_takeOver 0 = .ok (.aload_n 0, 1) := by decide +kernel
theorem dX1_takeOver_1 : decode cX1_takeOver 1 = .ok (.aload_n 1, 1) := by decide +kernel
theorem dX1_takeOver_2 : decode cX1_takeOver 2 = .ok (.getfield 49, 3) := by decide +kernel
theorem dX1_takeOver_5 : decode cX1_takeOver 5 = .ok (.putfield 49, 3) := by decide +kernel
theorem dX1_takeOver_8 : decode cX1_takeOver 8 = .ok (.aload_n 1, 1) := by decide +kernel
theorem dX1_takeOver_9 : decode cX1_takeOver 9 = .ok (.getfield 9, 3) := by decide +kernel
theorem dX1_takeOver_12 : decode cX1_takeOver 12 = .ok (.iconst 0, 1) := by decide +kernel
theorem dX1_takeOver_13 : decode cX1_takeOver 13 = .ok (.aload_n 0, 1) := by decide +kernel
theorem dX1_takeOver_14 : decode cX1_takeOver 14 = .ok (.getfield 9, 3) := by decide +kernel
theorem dX1_takeOver_17 : decode cX1_takeOver 17 = .ok (.iconst 0, 1) := by decide +kernel
theorem dX1_takeOver_18 : decode cX1_takeOver 18 = .ok (.bipush 8, 2) := by decide +kernel
theorem dX1_takeOver_20 : decode cX1_takeOver 20 = .ok (.invokestatic 52, 3) := by decide +kernel
theorem dX1_takeOver_23 : decode cX1_takeOver 23 = .ok (.aload_n 1, 1) := by decide +kernel
theorem dX1_takeOver_24 : decode cX1_takeOver 24 = .ok (.getfield 15, 3) := by decide +kernel
theorem dX1_takeOver_27 : decode cX1_takeOver 27 = .ok (.iconst 0, 1) := by decide +kernel
theorem dX1_takeOver_28 : decode cX1_takeOver 28 = .ok (.aload_n 0, 1) := by decide +kernel
theorem dX1_takeOver_29 : decode cX1_takeOver 29 = .ok (.getfield 15, 3) := by decide +kernel
theorem dX1_takeOver_32 : decode cX1_takeOver 32 = .ok (.iconst 0, 1) := by decide +kernel
theorem dX1_takeOver_33 : decode cX1_takeOver 33 = .ok (.bipush 8, 2) := by decide +kernel
theorem dX1_takeOver_35 : decode cX1_takeOver 35 = .ok (.invokestatic 52, 3) := by decide +kernel
theorem dX1_takeOver_38 : decode cX1_takeOver 38 = .ok (.aload_n 1, 1) := by decide +kernel
theorem dX1_takeOver_39 : decode cX1_takeOver 39 = .ok (.getfield 18, 3) := by decide +kernel
theorem dX1_takeOver_42 : decode cX1_takeOver 42 = .ok (.iconst 0, 1) := by decide +kernel
theorem dX1_takeOver_43 : decode cX1_takeOver 43 = .ok (.aload_n 0, 1) := by decide +kernel
theorem dX1_takeOver_44 : decode cX1_takeOver 44 = .ok (.getfield 18, 3) := by decide +kernel
theorem dX1_takeOver_47 : decode cX1_takeOver 47 = .ok (.iconst 0, 1) := by decide +kernel
theorem dX1_takeOver_48 : decode cX1_takeOver 48 = .ok (.bipush 8, 2) := by decide +kernel
theorem dX1_takeOver_50 : decode cX1_takeOver 50 = .ok (.invokestatic 52, 3) := by decide +kernel
theorem dX1_takeOver_53 : decode cX1_takeOver 53 = .ok (.aload_n 1, 1) := by decide +kernel
theorem dX1_takeOver_54 : decode cX1_takeOver 54 = .ok (.getfield 21, 3) := by decide +kernel
theorem dX1_takeOver_57 : decode cX1_takeOver 57 = .ok (.iconst 0, 1) := by decide +kernel
theorem dX1_takeOver_58 : decode cX1_takeOver 58 = .ok (.aload_n 0, 1) := by decide +kernel
theorem dX1_takeOver_59 : decode cX1_takeOver 59 = .ok (.getfield 21, 3) := by decide +kernel
theorem dX1_takeOver_62 : decode cX1_takeOver 62 = .ok (.iconst 0, 1) := by decide +kernel
theorem dX1_takeOver_63 : decode cX1_takeOver 63 = .ok (.bipush 8, 2) := by decide +kernel
theorem dX1_takeOver_65 : decode cX1_takeOver 65 = .ok (.invokestatic 52, 3) := by decide +kernel
theorem dX1_takeOver_68 : decode cX1_takeOver 68 = .ok (.aload_n 1, 1) := by decide +kernel
theorem dX1_takeOver_69 : decode cX1_takeOver 69 = .ok (.getfield 24, 3) := by decide +kernel
theorem dX1_takeOver_72 : decode cX1_takeOver 72 = .ok (.iconst 0, 1) := by decide +kernel
theorem dX1_takeOver_73 : decode cX1_takeOver 73 = .ok (.aload_n 0, 1) := by decide +kernel
theorem dX1_takeOver_74 : decode cX1_takeOver 74 = .ok (.getfield 24, 3) := by decide +kernel
theorem dX1_takeOver_77 : decode cX1_takeOver 77 = .ok (.iconst 0, 1) := by decide +kernel
theorem dX1_takeOver_78 : decode cX1_takeOver 78 = .ok (.bipush 8, 2) := by decide +kernel
theorem dX1_takeOver_80 : decode cX1_takeOver 80 = .ok (.invokestatic 52, 3) := by decide +kernel
theorem dX1_takeOver_83 : decode cX1_takeOver 83 = .ok (.aload_n 1, 1) := by decide +kernel
theorem dX1_takeOver_84 : decode cX1_takeOver 84 = .ok (.getfield 27, 3) := by decide +kernel
theorem dX1_takeOver_87 : decode cX1_takeOver 87 = .ok (.iconst 0, 1) := by decide +kernel
theorem dX1_takeOver_88 : decode cX1_takeOver 88 = .ok (.aload_n 0, 1) := by decide +kernel
theorem dX1_takeOver_89 : decode cX1_takeOver 89 = .ok (.getfield 27, 3) := by decide +kernel
theorem dX1_takeOver_92 : decode cX1_takeOver 92 = .ok (.iconst 0, 1) := by decide +kernel
theorem dX1_takeOver_93 : decode cX1_takeOver 93 = .ok (.bipush 8, 2) := by decide +kernel
theorem dX1_takeOver_95 : decode cX1_takeOver 95 = .ok (.invokestatic 52, 3) := by decide +kernel
theorem dX1_takeOver_98 : decode cX1_takeOver 98 = .ok (.aload_n 0, 1) := by decide +kernel
theorem dX1_takeOver_99 : decode cX1_takeOver 99 = .ok (.aload_n 1, 1) := by decide +kernel
theorem dX1_takeOver_100 : decode cX1_takeOver 100 = .ok (.getfield 58, 3) := by decide +kernel
theorem dX1_takeOver_103 : decode cX1_takeOver 103 = .ok (.putfield 58, 3) := by decide +kernel
theorem dX1_takeOver_106 : decode cX1_takeOver 106 = .ok (.aload_n 1, 1) := by decide +kernel
theorem dX1_takeOver_107 : decode cX1_takeOver 107 = .ok (.getfield 30, 3) := by decide +kernel
theorem dX1_takeOver_110 : decode cX1_takeOver 110 = .ok (.iconst 0, 1) := by decide +kernel
theorem dX1_takeOver_111 : decode cX1_takeOver 111 = .ok (.aload_n 0, 1) := by decide +kernel
theorem dX1_takeOver_112 : decode cX1_takeOver 112 = .ok (.getfield 30, 3) := by decide +kernel
theorem dX1_takeOver_115 : decode cX1_takeOver 115 = .ok (.iconst 0, 1) := by decide +kernel
theorem dX1_takeOver_116 : decode cX1_takeOver 116 = .ok (.bipush 8, 2) := by decide +kernel
theorem dX1_takeOver_118 : decode cX1_takeOver 118 = .ok (.invokestatic 52, 3) := by decide +kernel
theorem dX1_takeOver_121 : decode cX1_takeOver 121 = .ok (.aload_n 1, 1) := by decide +kernel
theorem dX1_takeOver_122 : decode cX1_takeOver 122 = .ok (.getfield 33, 3) := by decide +kernel
theorem dX1_takeOver_125 : decode cX1_takeOver 125 = .ok (.iconst 0, 1) := by decide +kernel
theorem dX1_takeOver_126 : decode cX1_takeOver 126 = .ok (.aload_n 0, 1) := by decide +kernel
theorem dX1_takeOver_127 : decode cX1_takeOver 127 = .ok (.getfield 33, 3) := by decide +kernel
theorem dX1_takeOver_130 : decode cX1_takeOver 130 = .ok (.iconst 0, 1) := by decide +kernel
theorem dX1_takeOver_131 : decode cX1_takeOver 131 = .ok (.bipush 8, 2) := by decide +kernel
theorem dX1_takeOver_133 : decode cX1_takeOver 133 = .ok (.invokestatic 52, 3) := by decide +kernel
theorem dX1_takeOver_136 : decode cX1_takeOver 136 = .ok (.aload_n 0, 1) := by decide +kernel
theorem dX1_takeOver_137 : decode cX1_takeOver 137 = .ok (.aload_n 1, 1) := by decide +kernel
theorem dX1_takeOver_138 : decode cX1_takeOver 138 = .ok (.getfield 36, 3) := by decide +kernel
theorem dX1_takeOver_141 : decode cX1_takeOver 141 = .ok (.putfield 36, 3) := by decide +kernel
theorem dX1_takeOver_144 : decode cX1_takeOver 144 = .ok (.aload_n 0, 1) := by decide +kernel
theorem dX1_takeOver_145 : decode cX1_takeOver 145 = .ok (.aload_n 1, 1) := by decide +kernel
theorem dX1_takeOver_146 : decode cX1_takeOver 146 = .ok (.getfield 40, 3) := by decide +kernel
theorem dX1_takeOver_149 : decode cX1_takeOver 149 = .ok (.putfield 40, 3) := by decide +kernel
theorem dX1_takeOver_152 : decode cX1_takeOver 152 = .ok (.aload_n 0, 1) := by decide +kernel
theorem dX1_takeOver_153 : decode cX1_takeOver 153 = .ok (.aload_n 1, 1) := by decide +kernel
theorem dX1_takeOver_154 : decode cX1_takeOver 154 = .ok (.getfield 61, 3) := by decide +kernel
theorem dX1_takeOver_157 : decode cX1_takeOver 157 = .ok (.putfield 61, 3) := by decide +kernel
theorem dX1_takeOver_160 : decode cX1_takeOver 160 = .ok (.aload_n 0, 1) := by decide +kernel
theorem dX1_takeOver_161 : decode cX1_takeOver 161 = .ok (.aload_n 1, 1) := by decide +kernel
theorem dX1_takeOver_162 : decode cX1_takeOver 162 = .ok (.getfield 64, 3) := by decide +kernel
theorem dX1_takeOver_165 : decode cX1_takeOver 165 = .ok (.putfield 64, 3) := by decide +kernel
theorem dX1_takeOver_168 : decode cX1_takeOver 168 = .ok (.aload_n 0, 1) := by decide +kernel
theorem dX1_takeOver_169 : decode cX1_takeOver 169 = .ok (.aload_n 1, 1) := by decide +kernel
theorem dX1_takeOver_170 : decode cX1_takeOver 170 = .ok (.getfield 43, 3) := by decide +kernel
theorem dX1_takeOver_173 : decode cX1_takeOver 173 = .ok (.putfield 43, 3) := by decide +kernel
theorem dX1_takeOver_176 : decode cX1_takeOver 176 = .ok (.aload_n 1, 1) := by decide +kernel
theorem dX1_takeOver_177 : decode cX1_takeOver 177 = .ok (.getfield 46, 3) := by decide +kernel
theorem dX1_takeOver_180 : decode cX1_takeOver 180 = .ok (.iconst 0, 1) := by decide +kernel
theorem dX1_takeOver_181 : decode cX1_takeOver 181 = .ok (.aload_n 0, 1) := by decide +kernel
theorem dX1_takeOver_182 : decode cX1_takeOver 182 = .ok (.getfield 46, 3) := by decide +kernel
theorem dX1_takeOver_185 : decode cX1_takeOver 185 = .ok (.iconst 0, 1) := by decide +kernel
theorem dX1_takeOver_186 : decode cX1_takeOver 186 = .ok (.bipush 10, 2) := by decide +kernel
theorem dX1_takeOver_188 : decode cX1_takeOver 188 = .ok (.invokestatic 52, 3) := by decide +kernel
theorem dX1_takeOver_191 : decode cX1_takeOver 191 = .ok (.return_, 1) := by decide +kernel
theorem dX1_addPerson_0 : decode cX1_addPerson 0 = .ok (.aload_n 0, 1) := by decide +kernel
theorem dX1_addPerson_1 : decode cX1_addPerson 1 = .ok (.getfield 49, 3) := by decide +kernel
theorem dX1_addPerson_4 : decode cX1_addPerson 4 = .ok (.istore_n 3, 1) := by decide +kernel
theorem dX1_addPerson_5 : decode cX1_addPerson 5 = .ok (.aload_n 0, 1) := by decide +kernel
theorem dX1_addPerson_6 : decode cX1_addPerson 6 = .ok (.dup, 1) := by decide +kernel
theorem dX1_addPerson_7 : decode cX1_addPerson 7 = .ok (.getfield 49, 3) := by decide +kernel
theorem dX1_addPerson_10 : decode cX1_addPerson 10 = .ok (.iconst 1, 1) := by decide +kernel
theorem dX1_addPerson_11 : decode cX1_addPerson 11 = .ok (.iadd, 1) := by decide +kernel
theorem dX1_addPerson_12 : decode cX1_addPerson 12 = .ok (.putfield 49, 3) := by decide +kernel
theorem dX1_addPerson_15 : decode cX1_addPerson 15 = .ok (.aload_n 0, 1) := by decide +kernel
theorem dX1_addPerson_16 : decode cX1_addPerson 16 = .ok (.getfield 9, 3) := by decide +kernel
theorem dX1_addPerson_19 : decode cX1_addPerson 19 = .ok (.iload_n 3, 1) := by decide +kernel
theorem dX1_addPerson_20 : decode cX1_addPerson 20 = .ok (.iload_n 1, 1) := by decide +kernel
theorem dX1_addPerson_21 : decode cX1_addPerson 21 = .ok (.iastore, 1) := by decide +kernel
theorem dX1_addPerson_22 : decode cX1_addPerson 22 = .ok (.aload_n 0, 1) := by decide +kernel
theorem dX1_addPerson_23 : decode cX1_addPerson 23 = .ok (.getfield 15, 3) := by decide +kernel
theorem dX1_addPerson_26 : decode cX1_addPerson 26 = .ok (.iload_n 3, 1) := by decide +kernel
theorem dX1_addPerson_27 : decode cX1_addPerson 27 = .ok (.iload_n 2, 1) := by decide +kernel
theorem dX1_addPerson_28 : decode cX1_addPerson 28 = .ok (.iastore, 1) := by decide +kernel
theorem dX1_addPerson_29 : decode cX1_addPerson 29 = .ok (.aload_n 0, 1) := by decide +kernel
theorem dX1_addPerson_30 : decode cX1_addPerson 30 = .ok (.getfield 18, 3) := by decide +kernel
theorem dX1_addPerson_33 : decode cX1_addPerson 33 = .ok (.iload_n 3, 1) := by decide +kernel
theorem dX1_addPerson_34 : decode cX1_addPerson 34 = .ok (.iconst 1, 1) := by decide +kernel
theorem dX1_addPerson_35 : decode cX1_addPerson 35 = .ok (.iastore, 1) := by decide +kernel
theorem dX1_addPerson_36 : decode cX1_addPerson 36 = .ok (.aload_n 0, 1) := by decide +kernel
theorem dX1_addPerson_37 : decode cX1_addPerson 37 = .ok (.getfield 21, 3) := by decide +kernel
theorem dX1_addPerson_40 : decode cX1_addPerson 40 = .ok (.iload_n 3, 1) := by decide +kernel
theorem dX1_addPerson_41 : decode cX1_addPerson 41 = .ok (.iconst 3, 1) := by decide +kernel
theorem dX1_addPerson_42 : decode cX1_addPerson 42 = .ok (.iastore, 1) := by decide +kernel
theorem dX1_addPerson_43 : decode cX1_addPerson 43 = .ok (.aload_n 0, 1) := by decide +kernel
theorem dX1_addPerson_44 : decode cX1_addPerson 44 = .ok (.getfield 24, 3) := by decide +kernel
theorem dX1_addPerson_47 : decode cX1_addPerson 47 = .ok (.iload_n 3, 1) := by decide +kernel
theorem dX1_addPerson_48 : decode cX1_addPerson 48 = .ok (.bipush 100, 2) := by decide +kernel
theorem dX1_addPerson_50 : decode cX1_addPerson 50 = .ok (.iastore, 1) := by decide +kernel
theorem dX1_addPerson_51 : decode cX1_addPerson 51 = .ok (.aload_n 0, 1) := by decide +kernel
theorem dX1_addPerson_52 : decode cX1_addPerson 52 = .ok (.invokevirtual 67, 3) := by decide +kernel
theorem dX1_addPerson_55 : decode cX1_addPerson 55 = .ok (.iload_n 3, 1) := by decide +kernel
theorem dX1_addPerson_56 : decode cX1_addPerson 56 = .ok (.ireturn, 1) := by decide +kernel
theorem dX1_addJoke_0 : decode cX1_addJoke 0 = .ok (.aload_n 0, 1) := by decide +kernel
theorem dX1_addJoke_1 : decode cX1_addJoke 1 = .ok (.getfield 58, 3) := by decide +kernel
theorem dX1_addJoke_4 : decode cX1_addJoke 4 = .ok (.istore_n 3, 1) := by decide +kernel
theorem dX1_addJoke_5 : decode cX1_addJoke 5 = .ok (.aload_n 0, 1) := by decide +kernel
theorem dX1_addJoke_6 : decode cX1_addJoke 6 = .ok (.dup, 1) := by decide +kernel
theorem dX1_addJoke_7 : decode cX1_addJoke 7 = .ok (.getfield 58, 3) := by decide +kernel
theorem dX1_addJoke_10 : decode cX1_addJoke 10 = .ok (.iconst 1, 1) := by decide +kernel
theorem dX1_addJoke_11 : decode cX1_addJoke 11 = .ok (.iadd, 1) := by decide +kernel
theorem dX1_addJoke_12 : decode cX1_addJoke 12 = .ok (.putfield 58, 3) := by decide +kernel
theorem dX1_addJoke_15 : decode cX1_addJoke 15 = .ok (.aload_n 0, 1) := by decide +kernel
theorem dX1_addJoke_16 : decode cX1_addJoke 16 = .ok (.getfield 30, 3) := by decide +kernel
theorem dX1_addJoke_19 : decode cX1_addJoke 19 = .ok (.iload_n 3, 1) := by decide +kernel
theorem dX1_addJoke_20 : decode cX1_addJoke 20 = .ok (.iload_n 1, 1) := by decide +kernel
theorem dX1_addJoke_21 : decode cX1_addJoke 21 = .ok (.iastore, 1) := by decide +kernel
theorem dX1_addJoke_22 : decode cX1_addJoke 22 = .ok (.aload_n 0, 1) := by decide +kernel
theorem dX1_addJoke_23 : decode cX1_addJoke 23 = .ok (.getfield 33, 3) := by decide +kernel
theorem dX1_addJoke_26 : decode cX1_addJoke 26 = .ok (.iload_n 3, 1) := by decide +kernel
theorem dX1_addJoke_27 : decode cX1_addJoke 27 = .ok (.iload_n 2, 1) := by decide +kernel
theorem dX1_addJoke_28 : decode cX1_addJoke 28 = .ok (.iastore, 1) := by decide +kernel
theorem dX1_addJoke_29 : decode cX1_addJoke 29 = .ok (.iload_n 3, 1) := by decide +kernel
theorem dX1_addJoke_30 : decode cX1_addJoke 30 = .ok (.ireturn, 1) := by decide +kernel
theorem dX1_setSeat_0 : decode cX1_setSeat 0 = .ok (.aload_n 0, 1) := by decide +kernel
theorem dX1_setSeat_1 : decode cX1_setSeat 1 = .ok (.getfield 15, 3) := by decide +kernel
theorem dX1_setSeat_4 : decode cX1_setSeat 4 = .ok (.iload_n 1, 1) := by decide +kernel
theorem dX1_setSeat_5 : decode cX1_setSeat 5 = .ok (.iload_n 2, 1) := by decide +kernel
theorem dX1_setSeat_6 : decode cX1_setSeat 6 = .ok (.iastore, 1) := by decide +kernel
theorem dX1_setSeat_7 : decode cX1_setSeat 7 = .ok (.aload_n 0, 1) := by decide +kernel
theorem dX1_setSeat_8 : decode cX1_setSeat 8 = .ok (.invokevirtual 67, 3) := by decide +kernel
theorem dX1_setSeat_11 : decode cX1_setSeat 11 = .ok (.return_, 1) := by decide +kernel
theorem dX1_setReach_0 : decode cX1_setReach 0 = .ok (.aload_n 0, 1) := by decide +kernel
theorem dX1_setReach_1 : decode cX1_setReach 1 = .ok (.iload_n 1, 1) := by decide +kernel
theorem dX1_setReach_2 : decode cX1_setReach 2 = .ok (.putfield 40, 3) := by decide +kernel
theorem dX1_setReach_5 : decode cX1_setReach 5 = .ok (.aload_n 0, 1) := by decide +kernel
theorem dX1_setReach_6 : decode cX1_setReach 6 = .ok (.invokevirtual 67, 3) := by decide +kernel
theorem dX1_setReach_9 : decode cX1_setReach 9 = .ok (.return_, 1) := by decide +kernel
theorem dX1_renewNear_0 : decode cX1_renewNear 0 = .ok (.iconst 0, 1) := by decide +kernel
theorem dX1_renewNear_1 : decode cX1_renewNear 1 = .ok (.istore_n 1, 1) := by decide +kernel
theorem dX1_renewNear_2 : decode cX1_renewNear 2 = .ok (.iload_n 1, 1) := by decide +kernel
theorem dX1_renewNear_3 : decode cX1_renewNear 3 = .ok (.aload_n 0, 1) := by decide +kernel
theorem dX1_renewNear_4 : decode cX1_renewNear 4 = .ok (.getfield 49, 3) := by decide +kernel
theorem dX1_renewNear_7 : decode cX1_renewNear 7 = .ok (.if_icmp .ge 68, 3) := by decide +kernel
theorem dX1_renewNear_10 : decode cX1_renewNear 10 = .ok (.iconst 0, 1) := by decide +kernel
theorem dX1_renewNear_11 : decode cX1_renewNear 11 = .ok (.istore_n 2, 1) := by decide +kernel
theorem dX1_renewNear_12 : decode cX1_renewNear 12 = .ok (.iconst 0, 1) := by decide +kernel
theorem dX1_renewNear_13 : decode cX1_renewNear 13 = .ok (.istore_n 3, 1) := by decide +kernel
theorem dX1_renewNear_14 : decode cX1_renewNear 14 = .ok (.iload_n 3, 1) := by decide +kernel
theorem dX1_renewNear_15 : decode cX1_renewNear 15 = .ok (.aload_n 0, 1) := by decide +kernel
theorem dX1_renewNear_16 : decode cX1_renewNear 16 = .ok (.getfield 49, 3) := by decide +kernel
theorem dX1_renewNear_19 : decode cX1_renewNear 19 = .ok (.if_icmp .ge 43, 3) := by decide +kernel
theorem dX1_renewNear_22 : decode cX1_renewNear 22 = .ok (.iload_n 3, 1) := by decide +kernel
theorem dX1_renewNear_23 : decode cX1_renewNear 23 = .ok (.iload_n 1, 1) := by decide +kernel
theorem dX1_renewNear_24 : decode cX1_renewNear 24 = .ok (.if_icmp .eq 32, 3) := by decide +kernel
theorem dX1_renewNear_27 : decode cX1_renewNear 27 = .ok (.aload_n 0, 1) := by decide +kernel
theorem dX1_renewNear_28 : decode cX1_renewNear 28 = .ok (.getfield 15, 3) := by decide +kernel
theorem dX1_renewNear_31 : decode cX1_renewNear 31 = .ok (.iload_n 1, 1) := by decide +kernel
theorem dX1_renewNear_32 : decode cX1_renewNear 32 = .ok (.iaload, 1) := by decide +kernel
theorem dX1_renewNear_33 : decode cX1_renewNear 33 = .ok (.aload_n 0, 1) := by decide +kernel
theorem dX1_renewNear_34 : decode cX1_renewNear 34 = .ok (.getfield 15, 3) := by decide +kernel
theorem dX1_renewNear_37 : decode cX1_renewNear 37 = .ok (.iload_n 3, 1) := by decide +kernel
theorem dX1_renewNear_38 : decode cX1_renewNear 38 = .ok (.iaload, 1) := by decide +kernel
theorem dX1_renewNear_39 : decode cX1_renewNear 39 = .ok (.isub, 1) := by decide +kernel
theorem dX1_renewNear_40 : decode cX1_renewNear 40 = .ok (.invokestatic 70, 3) := by decide +kernel
theorem dX1_renewNear_43 : decode cX1_renewNear 43 = .ok (.aload_n 0, 1) := by decide +kernel
theorem dX1_renewNear_44 : decode cX1_renewNear 44 = .ok (.getfield 40, 3) := by decide +kernel
theorem dX1_renewNear_47 : decode cX1_renewNear 47 = .ok (.if_icmp .gt 9, 3) := by decide +kernel
theorem dX1_renewNear_50 : decode cX1_renewNear 50 = .ok (.iload_n 2, 1) := by decide +kernel
theorem dX1_renewNear_51 : decode cX1_renewNear 51 = .ok (.iconst 1, 1) := by decide +kernel
theorem dX1_renewNear_52 : decode cX1_renewNear 52 = .ok (.iload_n 3, 1) := by decide +kernel
theorem dX1_renewNear_53 : decode cX1_renewNear 53 = .ok (.ishl, 1) := by decide +kernel
theorem dX1_renewNear_54 : decode cX1_renewNear 54 = .ok (.ior, 1) := by decide +kernel
theorem dX1_renewNear_55 : decode cX1_renewNear 55 = .ok (.istore_n 2, 1) := by decide +kernel
theorem dX1_renewNear_56 : decode cX1_renewNear 56 = .ok (.iinc 3 1, 3) := by decide +kernel
theorem dX1_renewNear_59 : decode cX1_renewNear 59 = .ok (.goto (-45), 3) := by decide +kernel
theorem dX1_renewNear_62 : decode cX1_renewNear 62 = .ok (.aload_n 0, 1) := by decide +kernel
theorem dX1_renewNear_63 : decode cX1_renewNear 63 = .ok (.getfield 27, 3) := by decide +kernel
theorem dX1_renewNear_66 : decode cX1_renewNear 66 = .ok (.iload_n 1, 1) := by decide +kernel
theorem dX1_renewNear_67 : decode cX1_renewNear 67 = .ok (.iload_n 2, 1) := by decide +kernel
theorem dX1_renewNear_68 : decode cX1_renewNear 68 = .ok (.iastore, 1) := by decide +kernel
theorem dX1_renewNear_69 : decode cX1_renewNear 69 = .ok (.iinc 1 1, 3) := by decide +kernel
theorem dX1_renewNear_72 : decode cX1_renewNear 72 = .ok (.goto (-70), 3) := by decide +kernel
theorem dX1_renewNear_75 : decode cX1_renewNear 75 = .ok (.return_, 1) := by decide +kernel
theorem dX1_everybody_0 : decode cX1_everybody 0 = .ok (.iconst 1, 1) := by decide +kernel
theorem dX1_everybody_1 : decode cX1_everybody 1 = .ok (.aload_n 0, 1) := by decide +kernel
theorem dX1_everybody_2 : decode cX1_everybody 2 = .ok (.getfield 49, 3) := by decide +kernel
theorem dX1_everybody_5 : decode cX1_everybody 5 = .ok (.ishl, 1) := by decide +kernel
theorem dX1_everybody_6 : decode cX1_everybody 6 = .ok (.iconst 1, 1) := by decide +kernel
theorem dX1_everybody_7 : decode cX1_everybody 7 = .ok (.isub, 1) := by decide +kernel
theorem dX1_everybody_8 : decode cX1_everybody 8 = .ok (.ireturn, 1) := by decide +kernel
theorem dX1_strengthFor_0 : decode cX1_strengthFor 0 = .ok (.iload_n 3, 1) := by decide +kernel
theorem dX1_strengthFor_1 : decode cX1_strengthFor 1 = .ok (.iload_n 2, 1) := by decide +kernel
theorem dX1_strengthFor_2 : decode cX1_strengthFor 2 = .ok (.aload_n 0, 1) := by decide +kernel
theorem dX1_strengthFor_3 : decode cX1_strengthFor 3 = .ok (.getfield 18, 3) := by decide +kernel
theorem dX1_strengthFor_6 : decode cX1_strengthFor 6 = .ok (.iload_n 1, 1) := by decide +kernel
theorem dX1_strengthFor_7 : decode cX1_strengthFor 7 = .ok (.iaload, 1) := by decide +kernel
theorem dX1_strengthFor_8 : decode cX1_strengthFor 8 = .ok (.iand, 1) := by decide +kernel
theorem dX1_strengthFor_9 : decode cX1_strengthFor 9 = .ok (.invokestatic 76, 3) := by decide +kernel
theorem dX1_strengthFor_12 : decode cX1_strengthFor 12 = .ok (.imul, 1) := by decide +kernel
theorem dX1_strengthFor_13 : decode cX1_strengthFor 13 = .ok (.aload_n 0, 1) := by decide +kernel
theorem dX1_strengthFor_14 : decode cX1_strengthFor 14 = .ok (.getfield 21, 3) := by decide +kernel
theorem dX1_strengthFor_17 : decode cX1_strengthFor 17 = .ok (.iload_n 1, 1) := by decide +kernel
theorem dX1_strengthFor_18 : decode cX1_strengthFor 18 = .ok (.iaload, 1) := by decide +kernel
theorem dX1_strengthFor_19 : decode cX1_strengthFor 19 = .ok (.iadd, 1) := by decide +kernel
theorem dX1_strengthFor_20 : decode cX1_strengthFor 20 = .ok (.ireturn, 1) := by decide +kernel
theorem dX1_dueFrom_0 : decode cX1_dueFrom 0 = .ok (.aload_n 0, 1) := by decide +kernel
theorem dX1_dueFrom_1 : decode cX1_dueFrom 1 = .ok (.getfield 9, 3) := by decide +kernel
theorem dX1_dueFrom_4 : decode cX1_dueFrom 4 = .ok (.iload_n 1, 1) := by decide +kernel
theorem dX1_dueFrom_5 : decode cX1_dueFrom 5 = .ok (.iaload, 1) := by decide +kernel
theorem dX1_dueFrom_6 : decode cX1_dueFrom 6 = .ok (.iload_n 2, 1) := by decide +kernel
theorem dX1_dueFrom_7 : decode cX1_dueFrom 7 = .ok (.invokestatic 81, 3) := by decide +kernel
theorem dX1_dueFrom_10 : decode cX1_dueFrom 10 = .ok (.aload_n 0, 1) := by decide +kernel
theorem dX1_dueFrom_11 : decode cX1_dueFrom 11 = .ok (.getfield 36, 3) := by decide +kernel
theorem dX1_dueFrom_14 : decode cX1_dueFrom 14 = .ok (.imul, 1) := by decide +kernel
theorem dX1_dueFrom_15 : decode cX1_dueFrom 15 = .ok (.aload_n 0, 1) := by decide +kernel
theorem dX1_dueFrom_16 : decode cX1_dueFrom 16 = .ok (.getfield 27, 3) := by decide +kernel
theorem dX1_dueFrom_19 : decode cX1_dueFrom 19 = .ok (.iload_n 1, 1) := by decide +kernel
theorem dX1_dueFrom_20 : decode cX1_dueFrom 20 = .ok (.iaload, 1) := by decide +kernel
theorem dX1_dueFrom_21 : decode cX1_dueFrom 21 = .ok (.invokestatic 76, 3) := by decide +kernel
theorem dX1_dueFrom_24 : decode cX1_dueFrom 24 = .ok (.imul, 1) := by decide +kernel
theorem dX1_dueFrom_25 : decode cX1_dueFrom 25 = .ok (.bipush 10, 2) := by decide +kernel
theorem dX1_dueFrom_27 : decode cX1_dueFrom 27 = .ok (.idiv, 1) := by decide +kernel
theorem dX1_dueFrom_28 : decode cX1_dueFrom 28 = .ok (.ireturn, 1) := by decide +kernel
theorem dX1_together_0 : decode cX1_together 0 = .ok (.iconst 0, 1) := by decide +kernel
theorem dX1_together_1 : decode cX1_together 1 = .ok (.istore_n 2, 1) := by decide +kernel
theorem dX1_together_2 : decode cX1_together 2 = .ok (.iconst 0, 1) := by decide +kernel
theorem dX1_together_3 : decode cX1_together 3 = .ok (.istore_n 3, 1) := by decide +kernel
theorem dX1_together_4 : decode cX1_together 4 = .ok (.iload_n 3, 1) := by decide +kernel
theorem dX1_together_5 : decode cX1_together 5 = .ok (.aload_n 0, 1) := by decide +kernel
theorem dX1_together_6 : decode cX1_together 6 = .ok (.getfield 49, 3) := by decide +kernel
theorem dX1_together_9 : decode cX1_together 9 = .ok (.if_icmp .ge 15, 3) := by decide +kernel
theorem dX1_together_12 : decode cX1_together 12 = .ok (.iload_n 2, 1) := by decide +kernel
theorem dX1_together_13 : decode cX1_together 13 = .ok (.aload_n 1, 1) := by decide +kernel
theorem dX1_together_14 : decode cX1_together 14 = .ok (.iload_n 3, 1) := by decide +kernel
theorem dX1_together_15 : decode cX1_together 15 = .ok (.iaload, 1) := by decide +kernel
theorem dX1_together_16 : decode cX1_together 16 = .ok (.iadd, 1) := by decide +kernel
theorem dX1_together_17 : decode cX1_together 17 = .ok (.istore_n 2, 1) := by decide +kernel
theorem dX1_together_18 : decode cX1_together 18 = .ok (.iinc 3 1, 3) := by decide +kernel
theorem dX1_together_21 : decode cX1_together 21 = .ok (.goto (-17), 3) := by decide +kernel
theorem dX1_together_24 : decode cX1_together 24 = .ok (.iload_n 2, 1) := by decide +kernel
theorem dX1_together_25 : decode cX1_together 25 = .ok (.ireturn, 1) := by decide +kernel
theorem dX1_poorest_0 : decode cX1_poorest 0 = .ok (.iconst 0, 1) := by decide +kernel
theorem dX1_poorest_1 : decode cX1_poorest 1 = .ok (.istore_n 1, 1) := by decide +kernel
theorem dX1_poorest_2 : decode cX1_poorest 2 = .ok (.iconst 1, 1) := by decide +kernel
theorem dX1_poorest_3 : decode cX1_poorest 3 = .ok (.istore_n 2, 1) := by decide +kernel
theorem dX1_poorest_4 : decode cX1_poorest 4 = .ok (.iload_n 2, 1) := by decide +kernel
theorem dX1_poorest_5 : decode cX1_poorest 5 = .ok (.aload_n 0, 1) := by decide +kernel
theorem dX1_poorest_6 : decode cX1_poorest 6 = .ok (.getfield 49, 3) := by decide +kernel
theorem dX1_poorest_9 : decode cX1_poorest 9 = .ok (.if_icmp .ge 26, 3) := by decide +kernel
theorem dX1_poorest_12 : decode cX1_poorest 12 = .ok (.aload_n 0, 1) := by decide +kernel
theorem dX1_poorest_13 : decode cX1_poorest 13 = .ok (.getfield 24, 3) := by decide +kernel
theorem dX1_poorest_16 : decode cX1_poorest 16 = .ok (.iload_n 2, 1) := by decide +kernel
theorem dX1_poorest_17 : decode cX1_poorest 17 = .ok (.iaload, 1) := by decide +kernel
theorem dX1_poorest_18 : decode cX1_poorest 18 = .ok (.aload_n 0, 1) := by decide +kernel
theorem dX1_poorest_19 : decode cX1_poorest 19 = .ok (.getfield 24, 3) := by decide +kernel
theorem dX1_poorest_22 : decode cX1_poorest 22 = .ok (.iload_n 1, 1) := by decide +kernel
theorem dX1_poorest_23 : decode cX1_poorest 23 = .ok (.iaload, 1) := by decide +kernel
theorem dX1_poorest_24 : decode cX1_poorest 24 = .ok (.if_icmp .ge 5, 3) := by decide +kernel
theorem dX1_poorest_27 : decode cX1_poorest 27 = .ok (.iload_n 2, 1) := by decide +kernel
theorem dX1_poorest_28 : decode cX1_poorest 28 = .ok (.istore_n 1, 1) := by decide +kernel
theorem dX1_poorest_29 : decode cX1_poorest 29 = .ok (.iinc 2 1, 3) := by decide +kernel
theorem dX1_poorest_32 : decode cX1_poorest 32 = .ok (.goto (-28), 3) := by decide +kernel
theorem dX1_poorest_35 : decode cX1_poorest 35 = .ok (.iload_n 1, 1) := by decide +kernel
theorem dX1_poorest_36 : decode cX1_poorest 36 = .ok (.ireturn, 1) := by decide +kernel
theorem dX1_drawBelow_0 : decode cX1_drawBelow 0 = .ok (.aload_n 0, 1) := by decide +kernel
theorem dX1_drawBelow_1 : decode cX1_drawBelow 1 = .ok (.aload_n 0, 1) := by decide +kernel
theorem dX1_drawBelow_2 : decode cX1_drawBelow 2 = .ok (.getfield 43, 3) := by decide +kernel
theorem dX1_drawBelow_5 : decode cX1_drawBelow 5 = .ok (.ldc 87, 2) := by decide +kernel
theorem dX1_drawBelow_7 : decode cX1_drawBelow 7 = .ok (.imul, 1) := by decide +kernel
theorem dX1_drawBelow_8 : decode cX1_drawBelow 8 = .ok (.sipush 12345, 3) := by decide +kernel
theorem dX1_drawBelow_11 : decode cX1_drawBelow 11 = .ok (.iadd, 1) := by decide +kernel
theorem dX1_drawBelow_12 : decode cX1_drawBelow 12 = .ok (.putfield 43, 3) := by decide +kernel
theorem dX1_drawBelow_15 : decode cX1_drawBelow 15 = .ok (.iload_n 1, 1) := by decide +kernel
theorem dX1_drawBelow_16 : decode cX1_drawBelow 16 = .ok (.ifCond .le 15, 3) := by decide +kernel
theorem dX1_drawBelow_19 : decode cX1_drawBelow 19 = .ok (.aload_n 0, 1) := by decide +kernel
theorem dX1_drawBelow_20 : decode cX1_drawBelow 20 = .ok (.getfield 43, 3) := by decide +kernel
theorem dX1_drawBelow_23 : decode cX1_drawBelow 23 = .ok (.bipush 8, 2) := by decide +kernel
theorem dX1_drawBelow_25 : decode cX1_drawBelow 25 = .ok (.iushr, 1) := by decide +kernel
theorem dX1_drawBelow_26 : decode cX1_drawBelow 26 = .ok (.iload_n 1, 1) := by decide +kernel
theorem dX1_drawBelow_27 : decode cX1_drawBelow 27 = .ok (.irem, 1) := by decide +kernel
theorem dX1_drawBelow_28 : decode cX1_drawBelow 28 = .ok (.goto 4, 3) := by decide +kernel
theorem dX1_drawBelow_31 : decode cX1_drawBelow 31 = .ok (.iconst 0, 1) := by decide +kernel
theorem dX1_drawBelow_32 : decode cX1_drawBelow 32 = .ok (.ireturn, 1) := by decide +kernel
theorem dX1_spotsHolding_0 : decode cX1_spotsHolding 0 = .ok (.iconst 0, 1) := by decide +kernel
theorem dX1_spotsHolding_1 : decode cX1_spotsHolding 1 = .ok (.istore_n 1, 1) := by decide +kernel
theorem dX1_spotsHolding_2 : decode cX1_spotsHolding 2 = .ok (.iconst 0, 1) := by decide +kernel
theorem dX1_spotsHolding_3 : decode cX1_spotsHolding 3 = .ok (.istore_n 2, 1) := by decide +kernel
theorem dX1_spotsHolding_4 : decode cX1_spotsHolding 4 = .ok (.iload_n 2, 1) := by decide +kernel
theorem dX1_spotsHolding_5 : decode cX1_spotsHolding 5 = .ok (.bipush 10, 2) := by decide +kernel
theorem dX1_spotsHolding_7 : decode cX1_spotsHolding 7 = .ok (.if_icmp .ge 22, 3) := by decide +kernel
theorem dX1_spotsHolding_10 : decode cX1_spotsHolding 10 = .ok (.aload_n 0, 1) := by decide +kernel
theorem dX1_spotsHolding_11 : decode cX1_spotsHolding 11 = .ok (.getfield 46, 3) := by decide +kernel
theorem dX1_spotsHolding_14 : decode cX1_spotsHolding 14 = .ok (.iload_n 2, 1) := by decide +kernel
theorem dX1_spotsHolding_15 : decode cX1_spotsHolding 15 = .ok (.iaload, 1) := by decide +kernel
theorem dX1_spotsHolding_16 : decode cX1_spotsHolding 16 = .ok (.iconst (-1), 1) := by decide +kernel
theorem dX1_spotsHolding_17 : decode cX1_spotsHolding 17 = .ok (.if_icmp .eq 6, 3) := by decide +kernel
theorem dX1_spotsHolding_20 : decode cX1_spotsHolding 20 = .ok (.iinc 1 1, 3) := by decide +kernel
theorem dX1_spotsHolding_23 : decode cX1_spotsHolding 23 = .ok (.iinc 2 1, 3) := by decide +kernel
theorem dX1_spotsHolding_26 : decode cX1_spotsHolding 26 = .ok (.goto (-22), 3) := by decide +kernel
theorem dX1_spotsHolding_29 : decode cX1_spotsHolding 29 = .ok (.iload_n 1, 1) := by decide +kernel
theorem dX1_spotsHolding_30 : decode cX1_spotsHolding 30 = .ok (.ireturn, 1) := by decide +kernel
theorem dX2_init_0 : decode cX2_init 0 = .ok (.aload_n 0, 1) := by decide +kernel
theorem dX2_init_1 : decode cX2_init 1 = .ok (.invokespecial 3, 3) := by decide +kernel
theorem dX2_init_4 : decode cX2_init 4 = .ok (.aload_n 0, 1) := by decide +kernel
theorem dX2_init_5 : decode cX2_init 5 = .ok (.bipush 40, 2) := by decide +kernel
theorem dX2_init_7 : decode cX2_init 7 = .ok (.newarray .int, 2) := by decide +kernel
theorem dX2_init_9 : decode cX2_init 9 = .ok (.putfield 9, 3) := by decide +kernel
theorem dX2_init_12 : decode cX2_init 12 = .ok (.return_, 1) := by decide +kernel
theorem dX2_begin_0 : decode cX2_begin 0 = .ok (.aload_n 0, 1) := by decide +kernel
theorem dX2_begin_1 : decode cX2_begin 1 = .ok (.iload_n 1, 1) := by decide +kernel
theorem dX2_begin_2 : decode cX2_begin 2 = .ok (.putfield 15, 3) := by decide +kernel
theorem dX2_begin_5 : decode cX2_begin 5 = .ok (.aload_n 0, 1) := by decide +kernel
theorem dX2_begin_6 : decode cX2_begin 6 = .ok (.iload_n 2, 1) := by decide +kernel
theorem dX2_begin_7 : decode cX2_begin 7 = .ok (.putfield 19, 3) := by decide +kernel
theorem dX2_begin_10 : decode cX2_begin 10 = .ok (.iconst 0, 1) := by decide +kernel
theorem dX2_begin_11 : decode cX2_begin 11 = .ok (.istore_n 3, 1) := by decide +kernel
theorem dX2_begin_12 : decode cX2_begin 12 = .ok (.iload_n 3, 1) := by decide +kernel
theorem dX2_begin_13 : decode cX2_begin 13 = .ok (.bipush 40, 2) := by decide +kernel
theorem dX2_begin_15 : decode cX2_begin 15 = .ok (.if_icmp .ge 16, 3) := by decide +kernel
theorem dX2_begin_18 : decode cX2_begin 18 = .ok (.aload_n 0, 1) := by decide +kernel
theorem dX2_begin_19 : decode cX2_begin 19 = .ok (.getfield 9, 3) := by decide +kernel
theorem dX2_begin_22 : decode cX2_begin 22 = .ok (.iload_n 3, 1) := by decide +kernel
theorem dX2_begin_23 : decode cX2_begin 23 = .ok (.iconst 0, 1) := by decide +kernel
theorem dX2_begin_24 : decode cX2_begin 24 = .ok (.iastore, 1) := by decide +kernel
theorem dX2_begin_25 : decode cX2_begin 25 = .ok (.iinc 3 1, 3) := by decide +kernel
theorem dX2_begin_28 : decode cX2_begin 28 = .ok (.goto (-16), 3) := by decide +kernel
theorem dX2_begin_31 : decode cX2_begin 31 = .ok (.return_, 1) := by decide +kernel
theorem dX2_isMissing_0 : decode cX2_isMissing 0 = .ok (.aload_n 0, 1) := by decide +kernel
theorem dX2_isMissing_1 : decode cX2_isMissing 1 = .ok (.getfield 15, 3) := by decide +kernel
theorem dX2_isMissing_4 : decode cX2_isMissing 4 = .ok (.ifCond .ne 7, 3) := by decide +kernel
theorem dX2_isMissing_7 : decode cX2_isMissing 7 = .ok (.iconst 1, 1) := by decide +kernel
theorem dX2_isMissing_8 : decode cX2_isMissing 8 = .ok (.goto 4, 3) := by decide +kernel
theorem dX2_isMissing_11 : decode cX2_isMissing 11 = .ok (.iconst 0, 1) := by decide +kernel
theorem dX2_isMissing_12 : decode cX2_isMissing 12 = .ok (.ireturn, 1) := by decide +kernel
theorem dX2_put_0 : decode cX2_put 0 = .ok (.aload_n 0, 1) := by decide +kernel
theorem dX2_put_1 : decode cX2_put 1 = .ok (.getfield 15, 3) := by decide +kernel
theorem dX2_put_4 : decode cX2_put 4 = .ok (.bipush 8, 2) := by decide +kernel
theorem dX2_put_6 : decode cX2_put 6 = .ok (.if_icmp .ne 14, 3) := by decide +kernel
theorem dX2_put_9 : decode cX2_put 9 = .ok (.aload_n 0, 1) := by decide +kernel
theorem dX2_put_10 : decode cX2_put 10 = .ok (.getfield 9, 3) := by decide +kernel
theorem dX2_put_13 : decode cX2_put 13 = .ok (.iload_n 1, 1) := by decide +kernel
theorem dX2_put_14 : decode cX2_put 14 = .ok (.iload_n 2, 1) := by decide +kernel
theorem dX2_put_15 : decode cX2_put 15 = .ok (.i2b, 1) := by decide +kernel
theorem dX2_put_16 : decode cX2_put 16 = .ok (.iastore, 1) := by decide +kernel
theorem dX2_put_17 : decode cX2_put 17 = .ok (.goto 30, 3) := by decide +kernel
theorem dX2_put_20 : decode cX2_put 20 = .ok (.aload_n 0, 1) := by decide +kernel
theorem dX2_put_21 : decode cX2_put 21 = .ok (.getfield 15, 3) := by decide +kernel
theorem dX2_put_24 : decode cX2_put 24 = .ok (.bipush 16, 2) := by decide +kernel
theorem dX2_put_26 : decode cX2_put 26 = .ok (.if_icmp .ne 14, 3) := by decide +kernel
theorem dX2_put_29 : decode cX2_put 29 = .ok (.aload_n 0, 1) := by decide +kernel
theorem dX2_put_30 : decode cX2_put 30 = .ok (.getfield 9, 3) := by decide +kernel
theorem dX2_put_33 : decode cX2_put 33 = .ok (.iload_n 1, 1) := by decide +kernel
theorem dX2_put_34 : decode cX2_put 34 = .ok (.iload_n 2, 1) := by decide +kernel
theorem dX2_put_35 : decode cX2_put 35 = .ok (.i2s, 1) := by decide +kernel
theorem dX2_put_36 : decode cX2_put 36 = .ok (.iastore, 1) := by decide +kernel
theorem dX2_put_37 : decode cX2_put 37 = .ok (.goto 10, 3) := by decide +kernel
theorem dX2_put_40 : decode cX2_put 40 = .ok (.aload_n 0, 1) := by decide +kernel
theorem dX2_put_41 : decode cX2_put 41 = .ok (.getfield 9, 3) := by decide +kernel
theorem dX2_put_44 : decode cX2_put 44 = .ok (.iload_n 1, 1) := by decide +kernel
theorem dX2_put_45 : decode cX2_put 45 = .ok (.iload_n 2, 1) := by decide +kernel
theorem dX2_put_46 : decode cX2_put 46 = .ok (.iastore, 1) := by decide +kernel
theorem dX2_put_47 : decode cX2_put 47 = .ok (.return_, 1) := by decide +kernel
theorem dX2_has_0 : decode cX2_has 0 = .ok (.iload_n 1, 1) := by decide +kernel
theorem dX2_has_1 : decode cX2_has 1 = .ok (.ifCond .lt 29, 3) := by decide +kernel
theorem dX2_has_4 : decode cX2_has 4 = .ok (.iload_n 2, 1) := by decide +kernel
theorem dX2_has_5 : decode cX2_has 5 = .ok (.ifCond .lt 25, 3) := by decide +kernel
theorem dX2_has_8 : decode cX2_has 8 = .ok (.iload_n 2, 1) := by decide +kernel
theorem dX2_has_9 : decode cX2_has 9 = .ok (.aload_n 0, 1) := by decide +kernel
theorem dX2_has_10 : decode cX2_has 10 = .ok (.getfield 19, 3) := by decide +kernel
theorem dX2_has_13 : decode cX2_has 13 = .ok (.if_icmp .gt 17, 3) := by decide +kernel
theorem dX2_has_16 : decode cX2_has 16 = .ok (.iload_n 1, 1) := by decide +kernel
theorem dX2_has_17 : decode cX2_has 17 = .ok (.aload_n 0, 1) := by decide +kernel
theorem dX2_has_18 : decode cX2_has 18 = .ok (.getfield 19, 3) := by decide +kernel
theorem dX2_has_21 : decode cX2_has 21 = .ok (.iload_n 2, 1) := by decide +kernel
theorem dX2_has_22 : decode cX2_has 22 = .ok (.isub, 1) := by decide +kernel
theorem dX2_has_23 : decode cX2_has 23 = .ok (.if_icmp .gt 7, 3) := by decide +kernel
theorem dX2_has_26 : decode cX2_has 26 = .ok (.iconst 1, 1) := by decide +kernel
theorem dX2_has_27 : decode cX2_has 27 = .ok (.goto 4, 3) := by decide +kernel
theorem dX2_has_30 : decode cX2_has 30 = .ok (.iconst 0, 1) := by decide +kernel
theorem dX2_has_31 : decode cX2_has 31 = .ok (.ireturn, 1) := by decide +kernel
theorem dX2_tells_0 : decode cX2_tells 0 = .ok (.aload_n 0, 1) := by decide +kernel
theorem dX2_tells_1 : decode cX2_tells 1 = .ok (.getfield 9, 3) := by decide +kernel
theorem dX2_tells_4 : decode cX2_tells 4 = .ok (.iload_n 1, 1) := by decide +kernel
theorem dX2_tells_5 : decode cX2_tells 5 = .ok (.iaload, 1) := by decide +kernel
theorem dX2_tells_6 : decode cX2_tells 6 = .ok (.iconst (-1), 1) := by decide +kernel
theorem dX2_tells_7 : decode cX2_tells 7 = .ok (.if_icmp .eq 13, 3) := by decide +kernel
theorem dX2_tells_10 : decode cX2_tells 10 = .ok (.aload_n 0, 1) := by decide +kernel
theorem dX2_tells_11 : decode cX2_tells 11 = .ok (.getfield 9, 3) := by decide +kernel
theorem dX2_tells_14 : decode cX2_tells 14 = .ok (.iload_n 1, 1) := by decide +kernel
theorem dX2_tells_15 : decode cX2_tells 15 = .ok (.iaload, 1) := by decide +kernel
theorem dX2_tells_16 : decode cX2_tells 16 = .ok (.iload_n 2, 1) := by decide +kernel
theorem dX2_tells_17 : decode cX2_tells 17 = .ok (.if_icmp .ne 7, 3) := by decide +kernel
theorem dX2_tells_20 : decode cX2_tells 20 = .ok (.iconst 1, 1) := by decide +kernel
theorem dX2_tells_21 : decode cX2_tells 21 = .ok (.goto 4, 3) := by decide +kernel
theorem dX2_tells_24 : decode cX2_tells 24 = .ok (.iconst 0, 1) := by decide +kernel
theorem dX2_tells_25 : decode cX2_tells 25 = .ok (.ireturn, 1) := by decide +kernel
theorem dX2_tellsFirst_0 : decode cX2_tellsFirst 0 = .ok (.iload_n 2, 1) := by decide +kernel
theorem dX2_tellsFirst_1 : decode cX2_tellsFirst 1 = .ok (.aload_n 0, 1) := by decide +kernel
theorem dX2_tellsFirst_2 : decode cX2_tellsFirst 2 = .ok (.getfield 19, 3) := by decide +kernel
theorem dX2_tellsFirst_5 : decode cX2_tellsFirst 5 = .ok (.invokestatic 22, 3) := by decide +kernel
theorem dX2_tellsFirst_8 : decode cX2_tellsFirst 8 = .ok (.istore_n 3, 1) := by decide +kernel
theorem dX2_tellsFirst_9 : decode cX2_tellsFirst 9 = .ok (.iconst 0, 1) := by decide +kernel
theorem dX2_tellsFirst_10 : decode cX2_tellsFirst 10 = .ok (.istore 4, 2) := by decide +kernel
theorem dX2_tellsFirst_12 : decode cX2_tellsFirst 12 = .ok (.iload 4, 2) := by decide +kernel
theorem dX2_tellsFirst_14 : decode cX2_tellsFirst 14 = .ok (.iload_n 3, 1) := by decide +kernel
theorem dX2_tellsFirst_15 : decode cX2_tellsFirst 15 = .ok (.if_icmp .ge 24, 3) := by decide +kernel
theorem dX2_tellsFirst_18 : decode cX2_tellsFirst 18 = .ok (.aload_n 0, 1) := by decide +kernel
theorem dX2_tellsFirst_19 : decode cX2_tellsFirst 19 = .ok (.iload 4, 2) := by decide +kernel
theorem dX2_tellsFirst_21 : decode cX2_tellsFirst 21 = .ok (.aload_n 1, 1) := by decide +kernel
theorem dX2_tellsFirst_22 : decode cX2_tellsFirst 22 = .ok (.iload 4, 2) := by decide +kernel
theorem dX2_tellsFirst_24 : decode cX2_tellsFirst 24 = .ok (.iaload, 1) := by decide +kernel
theorem dX2_tellsFirst_25 : decode cX2_tellsFirst 25 = .ok (.invokevirtual 28, 3) := by decide +kernel
theorem dX2_tellsFirst_28 : decode cX2_tellsFirst 28 = .ok (.ifCond .ne 5, 3) := by decide +kernel
theorem dX2_tellsFirst_31 : decode cX2_tellsFirst 31 = .ok (.iconst 0, 1) := by decide +kernel
theorem dX2_tellsFirst_32 : decode cX2_tellsFirst 32 = .ok (.ireturn, 1) := by decide +kernel
theorem dX2_tellsFirst_33 : decode cX2_tellsFirst 33 = .ok (.iinc 4 1, 3) := by decide +kernel
theorem dX2_tellsFirst_36 : decode cX2_tellsFirst 36 = .ok (.goto (-24), 3) := by decide +kernel
theorem dX2_tellsFirst_39 : decode cX2_tellsFirst 39 = .ok (.iconst 1, 1) := by decide +kernel
theorem dX2_tellsFirst_40 : decode cX2_tellsFirst 40 = .ok (.ireturn, 1) := by decide +kernel
theorem dX3_init_0 : decode cX3_init 0 = .ok (.aload_n 0, 1) := by decide +kernel
theorem dX3_init_1 : decode cX3_init 1 = .ok (.invokespecial 3, 3) := by decide +kernel
theorem dX3_init_4 : decode cX3_init 4 = .ok (.aload_n 0, 1) := by decide +kernel
theorem dX3_init_5 : decode cX3_init 5 = .ok (.bipush 120, 2) := by decide +kernel
theorem dX3_init_7 : decode cX3_init 7 = .ok (.newarray .byte, 2) := by decide +kernel
theorem dX3_init_9 : decode cX3_init 9 = .ok (.putfield 9, 3) := by decide +kernel
theorem dX3_init_12 : decode cX3_init 12 = .ok (.return_, 1) := by decide +kernel
theorem dX3_put_0 : decode cX3_put 0 = .ok (.aload_n 0, 1) := by decide +kernel
theorem dX3_put_1 : decode cX3_put 1 = .ok (.getfield 9, 3) := by decide +kernel
theorem dX3_put_4 : decode cX3_put 4 = .ok (.aload_n 0, 1) := by decide +kernel
theorem dX3_put_5 : decode cX3_put 5 = .ok (.getfield 15, 3) := by decide +kernel
theorem dX3_put_8 : decode cX3_put 8 = .ok (.iload_n 1, 1) := by decide +kernel
theorem dX3_put_9 : decode cX3_put 9 = .ok (.bastore, 1) := by decide +kernel
theorem dX3_put_10 : decode cX3_put 10 = .ok (.aload_n 0, 1) := by decide +kernel
theorem dX3_put_11 : decode cX3_put 11 = .ok (.dup, 1) := by decide +kernel
theorem dX3_put_12 : decode cX3_put 12 = .ok (.getfield 15, 3) := by decide +kernel
theorem dX3_put_15 : decode cX3_put 15 = .ok (.iconst 1, 1) := by decide +kernel
theorem dX3_put_16 : decode cX3_put 16 = .ok (.iadd, 1) := by decide +kernel
theorem dX3_put_17 : decode cX3_put 17 = .ok (.putfield 15, 3) := by decide +kernel
theorem dX3_put_20 : decode cX3_put 20 = .ok (.return_, 1) := by decide +kernel
theorem dX3_readInto_0 : decode cX3_readInto 0 = .ok (.aload_n 0, 1) := by decide +kernel
theorem dX3_readInto_1 : decode cX3_readInto 1 = .ok (.iconst 0, 1) := by decide +kernel
theorem dX3_readInto_2 : decode cX3_readInto 2 = .ok (.putfield 19, 3) := by decide +kernel
theorem dX3_readInto_5 : decode cX3_readInto 5 = .ok (.aload_n 0, 1) := by decide +kernel
theorem dX3_readInto_6 : decode cX3_readInto 6 = .ok (.invokevirtual 22, 3) := by decide +kernel
theorem dX3_readInto_9 : decode cX3_readInto 9 = .ok (.iconst 1, 1) := by decide +kernel
theorem dX3_readInto_10 : decode cX3_readInto 10 = .ok (.istore_n 2, 1) := by decide +kernel
theorem dX3_readInto_11 : decode cX3_readInto 11 = .ok (.iload_n 2, 1) := by decide +kernel
theorem dX3_readInto_12 : decode cX3_readInto 12 = .ok (.bipush 120, 2) := by decide +kernel
theorem dX3_readInto_14 : decode cX3_readInto 14 = .ok (.if_icmp .gt 44, 3) := by decide +kernel
theorem dX3_readInto_17 : decode cX3_readInto 17 = .ok (.aload_n 0, 1) := by decide +kernel
theorem dX3_readInto_18 : decode cX3_readInto 18 = .ok (.aload_n 1, 1) := by decide +kernel
theorem dX3_readInto_19 : decode cX3_readInto 19 = .ok (.invokevirtual 25, 3) := by decide +kernel
theorem dX3_readInto_22 : decode cX3_readInto 22 = .ok (.ifCond .ne 6, 3) := by decide +kernel
theorem dX3_readInto_25 : decode cX3_readInto 25 = .ok (.goto 33, 3) := by decide +kernel
theorem dX3_readInto_28 : decode cX3_readInto 28 = .ok (.aload_n 0, 1) := by decide +kernel
theorem dX3_readInto_29 : decode cX3_readInto 29 = .ok (.getfield 29, 3) := by decide +kernel
theorem dX3_readInto_32 : decode cX3_readInto 32 = .ok (.ifCond .ne 5, 3) := by decide +kernel
theorem dX3_readInto_35 : decode cX3_readInto 35 = .ok (.iload_n 2, 1) := by decide +kernel
theorem dX3_readInto_36 : decode cX3_readInto 36 = .ok (.ireturn, 1) := by decide +kernel
theorem dX3_readInto_37 : decode cX3_readInto 37 = .ok (.aload_n 0, 1) := by decide +kernel
theorem dX3_readInto_38 : decode cX3_readInto 38 = .ok (.getfield 29, 3) := by decide +kernel
theorem dX3_readInto_41 : decode cX3_readInto 41 = .ok (.iconst 3, 1) := by decide +kernel
theorem dX3_readInto_42 : decode cX3_readInto 42 = .ok (.if_icmp .eq 6, 3) := by decide +kernel
theorem dX3_readInto_45 : decode cX3_readInto 45 = .ok (.goto 13, 3) := by decide +kernel
theorem dX3_readInto_48 : decode cX3_readInto 48 = .ok (.aload_n 0, 1) := by decide +kernel
theorem dX3_readInto_49 : decode cX3_readInto 49 = .ok (.invokevirtual 22, 3) := by decide +kernel
theorem dX3_readInto_52 : decode cX3_readInto 52 = .ok (.iinc 2 1, 3) := by decide +kernel
theorem dX3_readInto_55 : decode cX3_readInto 55 = .ok (.goto (-44), 3) := by decide +kernel
theorem dX3_readInto_58 : decode cX3_readInto 58 = .ok (.iconst (-1), 1) := by decide +kernel
theorem dX3_readInto_59 : decode cX3_readInto 59 = .ok (.aload_n 0, 1) := by decide +kernel
theorem dX3_readInto_60 : decode cX3_readInto 60 = .ok (.getfield 32, 3) := by decide +kernel
theorem dX3_readInto_63 : decode cX3_readInto 63 = .ok (.isub, 1) := by decide +kernel
theorem dX3_readInto_64 : decode cX3_readInto 64 = .ok (.ireturn, 1) := by decide +kernel
theorem dX3_readItem_0 : decode cX3_readItem 0 = .ok (.iconst 0, 1) := by decide +kernel
theorem dX3_readItem_1 : decode cX3_readItem 1 = .ok (.istore_n 2, 1) := by decide +kernel
theorem dX3_readItem_2 : decode cX3_readItem 2 = .ok (.iload_n 2, 1) := by decide +kernel
theorem dX3_readItem_3 : decode cX3_readItem 3 = .ok (.bipush 7, 2) := by decide +kernel
theorem dX3_readItem_5 : decode cX3_readItem 5 = .ok (.if_icmp .ge 27, 3) := by decide +kernel
theorem dX3_readItem_8 : decode cX3_readItem 8 = .ok (.aload_n 0, 1) := by decide +kernel
theorem dX3_readItem_9 : decode cX3_readItem 9 = .ok (.iload_n 2, 1) := by decide +kernel
theorem dX3_readItem_10 : decode cX3_readItem 10 = .ok (.invokestatic 35, 3) := by decide +kernel
theorem dX3_readItem_13 : decode cX3_readItem 13 = .ok (.invokevirtual 39, 3) := by decide +kernel
theorem dX3_readItem_16 : decode cX3_readItem 16 = .ok (.ifCond .eq 10, 3) := by decide +kernel
theorem dX3_readItem_19 : decode cX3_readItem 19 = .ok (.aload_n 0, 1) := by decide +kernel
theorem dX3_readItem_20 : decode cX3_readItem 20 = .ok (.aload_n 1, 1) := by decide +kernel
theorem dX3_readItem_21 : decode cX3_readItem 21 = .ok (.iload_n 2, 1) := by decide +kernel
theorem dX3_readItem_22 : decode cX3_readItem 22 = .ok (.invokevirtual 43, 3) := by decide +kernel
theorem dX3_readItem_25 : decode cX3_readItem 25 = .ok (.ireturn, 1) := by decide +kernel
theorem dX3_readItem_26 : decode cX3_readItem 26 = .ok (.iinc 2 1, 3) := by decide +kernel
theorem dX3_readItem_29 : decode cX3_readItem 29 = .ok (.goto (-27), 3) := by decide +kernel
theorem dX3_readItem_32 : decode cX3_readItem 32 = .ok (.aload_n 0, 1) := by decide +kernel
theorem dX3_readItem_33 : decode cX3_readItem 33 = .ok (.ldc 47, 2) := by decide +kernel
theorem dX3_readItem_35 : decode cX3_readItem 35 = .ok (.invokevirtual 39, 3) := by decide +kernel
theorem dX3_readItem_38 : decode cX3_readItem 38 = .ok (.ifCond .eq 9, 3) := by decide +kernel
theorem dX3_readItem_41 : decode cX3_readItem 41 = .ok (.aload_n 0, 1) := by decide +kernel
theorem dX3_readItem_42 : decode cX3_readItem 42 = .ok (.aload_n 1, 1) := by decide +kernel
theorem dX3_readItem_43 : decode cX3_readItem 43 = .ok (.invokevirtual 49, 3) := by decide +kernel
theorem dX3_readItem_46 : decode cX3_readItem 46 = .ok (.ireturn, 1) := by decide +kernel
theorem dX3_readItem_47 : decode cX3_readItem 47 = .ok (.aload_n 0, 1) := by decide +kernel
theorem dX3_readItem_48 : decode cX3_readItem 48 = .ok (.ldc 52, 2) := by decide +kernel
theorem dX3_readItem_50 : decode cX3_readItem 50 = .ok (.invokevirtual 39, 3) := by decide +kernel
theorem dX3_readItem_53 : decode cX3_readItem 53 = .ok (.ifCond .eq 9, 3) := by decide +kernel
theorem dX3_readItem_56 : decode cX3_readItem 56 = .ok (.aload_n 0, 1) := by decide +kernel
theorem dX3_readItem_57 : decode cX3_readItem 57 = .ok (.aload_n 1, 1) := by decide +kernel
theorem dX3_readItem_58 : decode cX3_readItem 58 = .ok (.invokevirtual 54, 3) := by decide +kernel
theorem dX3_readItem_61 : decode cX3_readItem 61 = .ok (.ireturn, 1) := by decide +kernel
theorem dX3_readItem_62 : decode cX3_readItem 62 = .ok (.aload_n 0, 1) := by decide +kernel
theorem dX3_readItem_63 : decode cX3_readItem 63 = .ok (.ldc 57, 2) := by decide +kernel
theorem dX3_readItem_65 : decode cX3_readItem 65 = .ok (.invokevirtual 39, 3) := by decide +kernel
theorem dX3_readItem_68 : decode cX3_readItem 68 = .ok (.ifCond .eq 15, 3) := by decide +kernel
theorem dX3_readItem_71 : decode cX3_readItem 71 = .ok (.aload_n 0, 1) := by decide +kernel
theorem dX3_readItem_72 : decode cX3_readItem 72 = .ok (.aload_n 1, 1) := by decide +kernel
theorem dX3_readItem_73 : decode cX3_readItem 73 = .ok (.invokevirtual 59, 3) := by decide +kernel
theorem dX3_readItem_76 : decode cX3_readItem 76 = .ok (.ifCond .eq 7, 3) := by decide +kernel
theorem dX3_readItem_79 : decode cX3_readItem 79 = .ok (.iconst 1, 1) := by decide +kernel
theorem dX3_readItem_80 : decode cX3_readItem 80 = .ok (.goto 4, 3) := by decide +kernel
theorem dX3_readItem_83 : decode cX3_readItem 83 = .ok (.iconst 0, 1) := by decide +kernel
theorem dX3_readItem_84 : decode cX3_readItem 84 = .ok (.ireturn, 1) := by decide +kernel
theorem dX3_readPerson_0 : decode cX3_readPerson 0 = .ok (.aload_n 1, 1) := by decide +kernel
theorem dX3_readPerson_1 : decode cX3_readPerson 1 = .ok (.getfield 62, 3) := by decide +kernel
theorem dX3_readPerson_4 : decode cX3_readPerson 4 = .ok (.bipush 8, 2) := by decide +kernel
theorem dX3_readPerson_6 : decode cX3_readPerson 6 = .ok (.if_icmp .lt 5, 3) := by decide +kernel
theorem dX3_readPerson_9 : decode cX3_readPerson 9 = .ok (.iconst 0, 1) := by decide +kernel
theorem dX3_readPerson_10 : decode cX3_readPerson 10 = .ok (.ireturn, 1) := by decide +kernel
theorem dX3_readPerson_11 : decode cX3_readPerson 11 = .ok (.aload_n 0, 1) := by decide +kernel
theorem dX3_readPerson_12 : decode cX3_readPerson 12 = .ok (.invokevirtual 22, 3) := by decide +kernel
theorem dX3_readPerson_15 : decode cX3_readPerson 15 = .ok (.aload_n 1, 1) := by decide +kernel
theorem dX3_readPerson_16 : decode cX3_readPerson 16 = .ok (.iload_n 2, 1) := by decide +kernel
theorem dX3_readPerson_17 : decode cX3_readPerson 17 = .ok (.iconst 0, 1) := by decide +kernel
theorem dX3_readPerson_18 : decode cX3_readPerson 18 = .ok (.invokevirtual 67, 3) := by decide +kernel
theorem dX3_readPerson_21 : decode cX3_readPerson 21 = .ok (.istore_n 3, 1) := by decide +kernel
theorem dX3_readPerson_22 : decode cX3_readPerson 22 = .ok (.aload_n 0, 1) := by decide +kernel
theorem dX3_readPerson_23 : decode cX3_readPerson 23 = .ok (.ldc 71, 2) := by decide +kernel
theorem dX3_readPerson_25 : decode cX3_readPerson 25 = .ok (.bipush 15, 2) := by decide +kernel
theorem dX3_readPerson_27 : decode cX3_readPerson 27 = .ok (.aload_n 1, 1) := by decide +kernel
theorem dX3_readPerson_28 : decode cX3_readPerson 28 = .ok (.getfield 73, 3) := by decide +kernel
theorem dX3_readPerson_31 : decode cX3_readPerson 31 = .ok (.iload_n 3, 1) := by decide +kernel
theorem dX3_readPerson_32 : decode cX3_readPerson 32 = .ok (.iaload, 1) := by decide +kernel
theorem dX3_readPerson_33 : decode cX3_readPerson 33 = .ok (.invokevirtual 77, 3) := by decide +kernel
theorem dX3_readPerson_36 : decode cX3_readPerson 36 = .ok (.ifCond .ne 5, 3) := by decide +kernel
theorem dX3_readPerson_39 : decode cX3_readPerson 39 = .ok (.iconst 0, 1) := by decide +kernel
theorem dX3_readPerson_40 : decode cX3_readPerson 40 = .ok (.ireturn, 1) := by decide +kernel
theorem dX3_readPerson_41 : decode cX3_readPerson 41 = .ok (.aload_n 1, 1) := by decide +kernel
theorem dX3_readPerson_42 : decode cX3_readPerson 42 = .ok (.iload_n 3, 1) := by decide +kernel
theorem dX3_readPerson_43 : decode cX3_readPerson 43 = .ok (.aload_n 0, 1) := by decide +kernel
theorem dX3_readPerson_44 : decode cX3_readPerson 44 = .ok (.getfield 81, 3) := by decide +kernel
theorem dX3_readPerson_47 : decode cX3_readPerson 47 = .ok (.invokevirtual 84, 3) := by decide +kernel
theorem dX3_readPerson_50 : decode cX3_readPerson 50 = .ok (.aload_n 0, 1) := by decide +kernel
theorem dX3_readPerson_51 : decode cX3_readPerson 51 = .ok (.ldc 88, 2) := by decide +kernel
theorem dX3_readPerson_53 : decode cX3_readPerson 53 = .ok (.bipush 63, 2) := by decide +kernel
theorem dX3_readPerson_55 : decode cX3_readPerson 55 = .ok (.aload_n 1, 1) := by decide +kernel
theorem dX3_readPerson_56 : decode cX3_readPerson 56 = .ok (.getfield 90, 3) := by decide +kernel
theorem dX3_readPerson_59 : decode cX3_readPerson 59 = .ok (.iload_n 3, 1) := by decide +kernel
theorem dX3_readPerson_60 : decode cX3_readPerson 60 = .ok (.iaload, 1) := by decide +kernel
theorem dX3_readPerson_61 : decode cX3_readPerson 61 = .ok (.invokevirtual 77, 3) := by decide +kernel
theorem dX3_readPerson_64 : decode cX3_readPerson 64 = .ok (.ifCond .ne 5, 3) := by decide +kernel
theorem dX3_readPerson_67 : decode cX3_readPerson 67 = .ok (.iconst 0, 1) := by decide +kernel
theorem dX3_readPerson_68 : decode cX3_readPerson 68 = .ok (.ireturn, 1) := by decide +kernel
theorem dX3_readPerson_69 : decode cX3_readPerson 69 = .ok (.aload_n 1, 1) := by decide +kernel
theorem dX3_readPerson_70 : decode cX3_readPerson 70 = .ok (.getfield 90, 3) := by decide +kernel
theorem dX3_readPerson_73 : decode cX3_readPerson 73 = .ok (.iload_n 3, 1) := by decide +kernel
theorem dX3_readPerson_74 : decode cX3_readPerson 74 = .ok (.aload_n 0, 1) := by decide +kernel
theorem dX3_readPerson_75 : decode cX3_readPerson 75 = .ok (.getfield 81, 3) := by decide +kernel
theorem dX3_readPerson_78 : decode cX3_readPerson 78 = .ok (.iastore, 1) := by decide +kernel
theorem dX3_readPerson_79 : decode cX3_readPerson 79 = .ok (.aload_n 0, 1) := by decide +kernel
theorem dX3_readPerson_80 : decode cX3_readPerson 80 = .ok (.ldc 92, 2) := by decide +kernel
theorem dX3_readPerson_82 : decode cX3_readPerson 82 = .ok (.bipush 9, 2) := by decide +kernel
theorem dX3_readPerson_84 : decode cX3_readPerson 84 = .ok (.aload_n 1, 1) := by decide +kernel
theorem dX3_readPerson_85 : decode cX3_readPerson 85 = .ok (.getfield 94, 3) := by decide +kernel
theorem dX3_readPerson_88 : decode cX3_readPerson 88 = .ok (.iload_n 3, 1) := by decide +kernel
theorem dX3_readPerson_89 : decode cX3_readPerson 89 = .ok (.iaload, 1) := by decide +kernel
theorem dX3_readPerson_90 : decode cX3_readPerson 90 = .ok (.invokevirtual 77, 3) := by decide +kernel
theorem dX3_readPerson_93 : decode cX3_readPerson 93 = .ok (.ifCond .ne 5, 3) := by decide +kernel
theorem dX3_readPerson_96 : decode cX3_readPerson 96 = .ok (.iconst 0, 1) := by decide +kernel
theorem dX3_readPerson_97 : decode cX3_readPerson 97 = .ok (.ireturn, 1) := by decide +kernel
theorem dX3_readPerson_98 : decode cX3_readPerson 98 = .ok (.aload_n 1, 1) := by decide +kernel
theorem dX3_readPerson_99 : decode cX3_readPerson 99 = .ok (.getfield 94, 3) := by decide +kernel
theorem dX3_readPerson_102 : decode cX3_readPerson 102 = .ok (.iload_n 3, 1) := by decide +kernel
theorem dX3_readPerson_103 : decode cX3_readPerson 103 = .ok (.aload_n 0, 1) := by decide +kernel
theorem dX3_readPerson_104 : decode cX3_readPerson 104 = .ok (.getfield 81, 3) := by decide +kernel
theorem dX3_readPerson_107 : decode cX3_readPerson 107 = .ok (.iastore, 1) := by decide +kernel
theorem dX3_readPerson_108 : decode cX3_readPerson 108 = .ok (.aload_n 0, 1) := by decide +kernel
theorem dX3_readPerson_109 : decode cX3_readPerson 109 = .ok (.ldc 96, 2) := by decide +kernel
theorem dX3_readPerson_111 : decode cX3_readPerson 111 = .ok (.sipush 9999, 3) := by decide +kernel
theorem dX3_readPerson_114 : decode cX3_readPerson 114 = .ok (.aload_n 1, 1) := by decide +kernel
theorem dX3_readPerson_115 : decode cX3_readPerson 115 = .ok (.getfield 98, 3) := by decide +kernel
theorem dX3_readPerson_118 : decode cX3_readPerson 118 = .ok (.iload_n 3, 1) := by decide +kernel
theorem dX3_readPerson_119 : decode cX3_readPerson 119 = .ok (.iaload, 1) := by decide +kernel
theorem dX3_readPerson_120 : decode cX3_readPerson 120 = .ok (.invokevirtual 77, 3) := by decide +kernel
theorem dX3_readPerson_123 : decode cX3_readPerson 123 = .ok (.ifCond .ne 5, 3) := by decide +kernel
theorem dX3_readPerson_126 : decode cX3_readPerson 126 = .ok (.iconst 0, 1) := by decide +kernel
theorem dX3_readPerson_127 : decode cX3_readPerson 127 = .ok (.ireturn, 1) := by decide +kernel
theorem dX3_readPerson_128 : decode cX3_readPerson 128 = .ok (.aload_n 1, 1) := by decide +kernel
theorem dX3_readPerson_129 : decode cX3_readPerson 129 = .ok (.getfield 98, 3) := by decide +kernel
theorem dX3_readPerson_132 : decode cX3_readPerson 132 = .ok (.iload_n 3, 1) := by decide +kernel
theorem dX3_readPerson_133 : decode cX3_readPerson 133 = .ok (.aload_n 0, 1) := by decide +kernel
theorem dX3_readPerson_134 : decode cX3_readPerson 134 = .ok (.getfield 81, 3) := by decide +kernel
theorem dX3_readPerson_137 : decode cX3_readPerson 137 = .ok (.iastore, 1) := by decide +kernel
theorem dX3_readPerson_138 : decode cX3_readPerson 138 = .ok (.iconst 1, 1) := by decide +kernel
theorem dX3_readPerson_139 : decode cX3_readPerson 139 = .ok (.ireturn, 1) := by decide +kernel
theorem dX3_readJoke_0 : decode cX3_readJoke 0 = .ok (.aload_n 1, 1) := by decide +kernel
theorem dX3_readJoke_1 : decode cX3_readJoke 1 = .ok (.getfield 100, 3) := by decide +kernel
theorem dX3_readJoke_4 : decode cX3_readJoke 4 = .ok (.bipush 8, 2) := by decide +kernel
theorem dX3_readJoke_6 : decode cX3_readJoke 6 = .ok (.if_icmp .lt 5, 3) := by decide +kernel
theorem dX3_readJoke_9 : decode cX3_readJoke 9 = .ok (.iconst 0, 1) := by decide +kernel
theorem dX3_readJoke_10 : decode cX3_readJoke 10 = .ok (.ireturn, 1) := by decide +kernel
theorem dX3_readJoke_11 : decode cX3_readJoke 11 = .ok (.aload_n 0, 1) := by decide +kernel
theorem dX3_readJoke_12 : decode cX3_readJoke 12 = .ok (.invokevirtual 22, 3) := by decide +kernel
theorem dX3_readJoke_15 : decode cX3_readJoke 15 = .ok (.aload_n 0, 1) := by decide +kernel
theorem dX3_readJoke_16 : decode cX3_readJoke 16 = .ok (.iconst 1, 1) := by decide +kernel
theorem dX3_readJoke_17 : decode cX3_readJoke 17 = .ok (.bipush 63, 2) := by decide +kernel
theorem dX3_readJoke_19 : decode cX3_readJoke 19 = .ok (.invokevirtual 103, 3) := by decide +kernel
theorem dX3_readJoke_22 : decode cX3_readJoke 22 = .ok (.ifCond .ne 5, 3) := by decide +kernel
theorem dX3_readJoke_25 : decode cX3_readJoke 25 = .ok (.iconst 0, 1) := by decide +kernel
theorem dX3_readJoke_26 : decode cX3_readJoke 26 = .ok (.ireturn, 1) := by decide +kernel
theorem dX3_readJoke_27 : decode cX3_readJoke 27 = .ok (.aload_n 0, 1) := by decide +kernel
theorem dX3_readJoke_28 : decode cX3_readJoke 28 = .ok (.getfield 81, 3) := by decide +kernel
theorem dX3_readJoke_31 : decode cX3_readJoke 31 = .ok (.istore_n 2, 1) := by decide +kernel
theorem dX3_readJoke_32 : decode cX3_readJoke 32 = .ok (.aload_n 0, 1) := by decide +kernel
theorem dX3_readJoke_33 : decode cX3_readJoke 33 = .ok (.iconst 0, 1) := by decide +kernel
theorem dX3_readJoke_34 : decode cX3_readJoke 34 = .ok (.bipush 9, 2) := by decide +kernel
theorem dX3_readJoke_36 : decode cX3_readJoke 36 = .ok (.invokevirtual 103, 3) := by decide +kernel
theorem dX3_readJoke_39 : decode cX3_readJoke 39 = .ok (.ifCond .ne 5, 3) := by decide +kernel
theorem dX3_readJoke_42 : decode cX3_readJoke 42 = .ok (.iconst 0, 1) := by decide +kernel
theorem dX3_readJoke_43 : decode cX3_readJoke 43 = .ok (.ireturn, 1) := by decide +kernel
theorem dX3_readJoke_44 : decode cX3_readJoke 44 = .ok (.aload_n 1, 1) := by decide +kernel
theorem dX3_readJoke_45 : decode cX3_readJoke 45 = .ok (.iload_n 2, 1) := by decide +kernel
theorem dX3_readJoke_46 : decode cX3_readJoke 46 = .ok (.aload_n 0, 1) := by decide +kernel
theorem dX3_readJoke_47 : decode cX3_readJoke 47 = .ok (.getfield 81, 3) := by decide +kernel
theorem dX3_readJoke_50 : decode cX3_readJoke 50 = .ok (.invokevirtual 107, 3) := by decide +kernel
theorem dX3_readJoke_53 : decode cX3_readJoke 53 = .ok (.pop, 1) := by decide +kernel
theorem dX3_readJoke_54 : decode cX3_readJoke 54 = .ok (.iconst 1, 1) := by decide +kernel
theorem dX3_readJoke_55 : decode cX3_readJoke 55 = .ok (.ireturn, 1) := by decide +kernel
theorem dX3_readRate_0 : decode cX3_readRate 0 = .ok (.aload_n 0, 1) := by decide +kernel
theorem dX3_readRate_1 : decode cX3_readRate 1 = .ok (.invokevirtual 22, 3) := by decide +kernel
theorem dX3_readRate_4 : decode cX3_readRate 4 = .ok (.aload_n 0, 1) := by decide +kernel
theorem dX3_readRate_5 : decode cX3_readRate 5 = .ok (.iconst 0, 1) := by decide +kernel
theorem dX3_readRate_6 : decode cX3_readRate 6 = .ok (.bipush 20, 2) := by decide +kernel
theorem dX3_readRate_8 : decode cX3_readRate 8 = .ok (.invokevirtual 103, 3) := by decide +kernel
theorem dX3_readRate_11 : decode cX3_readRate 11 = .ok (.ifCond .ne 5, 3) := by decide +kernel
theorem dX3_readRate_14 : decode cX3_readRate 14 = .ok (.iconst 0, 1) := by decide +kernel
theorem dX3_readRate_15 : decode cX3_readRate 15 = .ok (.ireturn, 1) := by decide +kernel
theorem dX3_readRate_16 : decode cX3_readRate 16 = .ok (.aload_n 1, 1) := by decide +kernel
theorem dX3_readRate_17 : decode cX3_readRate 17 = .ok (.aload_n 0, 1) := by decide +kernel
theorem dX3_readRate_18 : decode cX3_readRate 18 = .ok (.getfield 81, 3) := by decide +kernel
theorem dX3_readRate_21 : decode cX3_readRate 21 = .ok (.putfield 110, 3) := by decide +kernel
theorem dX3_readRate_24 : decode cX3_readRate 24 = .ok (.iconst 1, 1) := by decide +kernel
theorem dX3_readRate_25 : decode cX3_readRate 25 = .ok (.ireturn, 1) := by decide +kernel
theorem dX3_readReach_0 : decode cX3_readReach 0 = .ok (.aload_n 0, 1) := by decide +kernel
theorem dX3_readReach_1 : decode cX3_readReach 1 = .ok (.invokevirtual 22, 3) := by decide +kernel
theorem dX3_readReach_4 : decode cX3_readReach 4 = .ok (.aload_n 0, 1) := by decide +kernel
theorem dX3_readReach_5 : decode cX3_readReach 5 = .ok (.iconst 0, 1) := by decide +kernel
theorem dX3_readReach_6 : decode cX3_readReach 6 = .ok (.bipush 15, 2) := by decide +kernel
theorem dX3_readReach_8 : decode cX3_readReach 8 = .ok (.invokevirtual 103, 3) := by decide +kernel
theorem dX3_readReach_11 : decode cX3_readReach 11 = .ok (.ifCond .ne 5, 3) := by decide +kernel
theorem dX3_readReach_14 : decode cX3_readReach 14 = .ok (.iconst 0, 1) := by decide +kernel
theorem dX3_readReach_15 : decode cX3_readReach 15 = .ok (.ireturn, 1) := by decide +kernel
theorem dX3_readReach_16 : decode cX3_readReach 16 = .ok (.aload_n 1, 1) := by decide +kernel
theorem dX3_readReach_17 : decode cX3_readReach 17 = .ok (.aload_n 0, 1) := by decide +kernel
theorem dX3_readReach_18 : decode cX3_readReach 18 = .ok (.getfield 81, 3) := by decide +kernel
theorem dX3_readReach_21 : decode cX3_readReach 21 = .ok (.invokevirtual 112, 3) := by decide +kernel
theorem dX3_readReach_24 : decode cX3_readReach 24 = .ok (.iconst 1, 1) := by decide +kernel
theorem dX3_readReach_25 : decode cX3_readReach 25 = .ok (.ireturn, 1) := by decide +kernel
theorem dX3_readPart_0 : decode cX3_readPart 0 = .ok (.aload_n 0, 1) := by decide +kernel
theorem dX3_readPart_1 : decode cX3_readPart 1 = .ok (.aload_n 1, 1) := by decide +kernel
theorem dX3_readPart_2 : decode cX3_readPart 2 = .ok (.invokevirtual 39, 3) := by decide +kernel
theorem dX3_readPart_5 : decode cX3_readPart 5 = .ok (.ifCond .ne 10, 3) := by decide +kernel
theorem dX3_readPart_8 : decode cX3_readPart 8 = .ok (.aload_n 0, 1) := by decide +kernel
theorem dX3_readPart_9 : decode cX3_readPart 9 = .ok (.iload_n 3, 1) := by decide +kernel
theorem dX3_readPart_10 : decode cX3_readPart 10 = .ok (.putfield 81, 3) := by decide +kernel
theorem dX3_readPart_13 : decode cX3_readPart 13 = .ok (.iconst 1, 1) := by decide +kernel
theorem dX3_readPart_14 : decode cX3_readPart 14 = .ok (.ireturn, 1) := by decide +kernel
theorem dX3_readPart_15 : decode cX3_readPart 15 = .ok (.aload_n 0, 1) := by decide +kernel
theorem dX3_readPart_16 : decode cX3_readPart 16 = .ok (.invokevirtual 22, 3) := by decide +kernel
theorem dX3_readPart_19 : decode cX3_readPart 19 = .ok (.aload_n 0, 1) := by decide +kernel
theorem dX3_readPart_20 : decode cX3_readPart 20 = .ok (.iconst 0, 1) := by decide +kernel
theorem dX3_readPart_21 : decode cX3_readPart 21 = .ok (.iload_n 2, 1) := by decide +kernel
theorem dX3_readPart_22 : decode cX3_readPart 22 = .ok (.invokevirtual 103, 3) := by decide +kernel
theorem dX3_readPart_25 : decode cX3_readPart 25 = .ok (.ireturn, 1) := by decide +kernel
theorem dX3_readNumber_0 : decode cX3_readNumber 0 = .ok (.aload_n 0, 1) := by decide +kernel
theorem dX3_readNumber_1 : decode cX3_readNumber 1 = .ok (.getfield 29, 3) := by decide +kernel
theorem dX3_readNumber_4 : decode cX3_readNumber 4 = .ok (.iconst 2, 1) := by decide +kernel
theorem dX3_readNumber_5 : decode cX3_readNumber 5 = .ok (.if_icmp .ne 15, 3) := by decide +kernel
theorem dX3_readNumber_8 : decode cX3_readNumber 8 = .ok (.aload_n 0, 1) := by decide +kernel
theorem dX3_readNumber_9 : decode cX3_readNumber 9 = .ok (.getfield 116, 3) := by decide +kernel
theorem dX3_readNumber_12 : decode cX3_readNumber 12 = .ok (.iload_n 1, 1) := by decide +kernel
theorem dX3_readNumber_13 : decode cX3_readNumber 13 = .ok (.iload_n 2, 1) := by decide +kernel
theorem dX3_readNumber_14 : decode cX3_readNumber 14 = .ok (.invokestatic 119, 3) := by decide +kernel
theorem dX3_readNumber_17 : decode cX3_readNumber 17 = .ok (.ifCond .ne 5, 3) := by decide +kernel
theorem dX3_readNumber_20 : decode cX3_readNumber 20 = .ok (.iconst 0, 1) := by decide +kernel
theorem dX3_readNumber_21 : decode cX3_readNumber 21 = .ok (.ireturn, 1) := by decide +kernel
theorem dX3_readNumber_22 : decode cX3_readNumber 22 = .ok (.aload_n 0, 1) := by decide +kernel
theorem dX3_readNumber_23 : decode cX3_readNumber 23 = .ok (.aload_n 0, 1) := by decide +kernel
theorem dX3_readNumber_24 : decode cX3_readNumber 24 = .ok (.getfield 116, 3) := by decide +kernel
theorem dX3_readNumber_27 : decode cX3_readNumber 27 = .ok (.putfield 81, 3) := by decide +kernel
theorem dX3_readNumber_30 : decode cX3_readNumber 30 = .ok (.aload_n 0, 1) := by decide +kernel
theorem dX3_readNumber_31 : decode cX3_readNumber 31 = .ok (.invokevirtual 22, 3) := by decide +kernel
theorem dX3_readNumber_34 : decode cX3_readNumber 34 = .ok (.iconst 1, 1) := by decide +kernel
theorem dX3_readNumber_35 : decode cX3_readNumber 35 = .ok (.ireturn, 1) := by decide +kernel
theorem dX3_isWord_0 : decode cX3_isWord 0 = .ok (.aload_n 0, 1) := by decide +kernel
theorem dX3_isWord_1 : decode cX3_isWord 1 = .ok (.getfield 29, 3) := by decide +kernel
theorem dX3_isWord_4 : decode cX3_isWord 4 = .ok (.iconst 1, 1) := by decide +kernel
theorem dX3_isWord_5 : decode cX3_isWord 5 = .ok (.if_icmp .ne 19, 3) := by decide +kernel
theorem dX3_isWord_8 : decode cX3_isWord 8 = .ok (.aload_n 0, 1) := by decide +kernel
theorem dX3_isWord_9 : decode cX3_isWord 9 = .ok (.getfield 19, 3) := by decide +kernel
theorem dX3_isWord_12 : decode cX3_isWord 12 = .ok (.aload_n 0, 1) := by decide +kernel
theorem dX3_isWord_13 : decode cX3_isWord 13 = .ok (.getfield 32, 3) := by decide +kernel
theorem dX3_isWord_16 : decode cX3_isWord 16 = .ok (.isub, 1) := by decide +kernel
theorem dX3_isWord_17 : decode cX3_isWord 17 = .ok (.aload_n 1, 1) := by decide +kernel
theorem dX3_isWord_18 : decode cX3_isWord 18 = .ok (.invokevirtual 123, 3) := by decide +kernel
theorem dX3_isWord_21 : decode cX3_isWord 21 = .ok (.if_icmp .eq 5, 3) := by decide +kernel
theorem dX3_isWord_24 : decode cX3_isWord 24 = .ok (.iconst 0, 1) := by decide +kernel
theorem dX3_isWord_25 : decode cX3_isWord 25 = .ok (.ireturn, 1) := by decide +kernel
theorem dX3_isWord_26 : decode cX3_isWord 26 = .ok (.iconst 0, 1) := by decide +kernel
theorem dX3_isWord_27 : decode cX3_isWord 27 = .ok (.istore_n 2, 1) := by decide +kernel
theorem dX3_isWord_28 : decode cX3_isWord 28 = .ok (.iload_n 2, 1) := by decide +kernel
theorem dX3_isWord_29 : decode cX3_isWord 29 = .ok (.aload_n 1, 1) := by decide +kernel
theorem dX3_isWord_30 : decode cX3_isWord 30 = .ok (.invokevirtual 123, 3) := by decide +kernel
theorem dX3_isWord_33 : decode cX3_isWord 33 = .ok (.if_icmp .ge 30, 3) := by decide +kernel
theorem dX3_isWord_36 : decode cX3_isWord 36 = .ok (.aload_n 0, 1) := by decide +kernel
theorem dX3_isWord_37 : decode cX3_isWord 37 = .ok (.getfield 9, 3) := by decide +kernel
theorem dX3_isWord_40 : decode cX3_isWord 40 = .ok (.aload_n 0, 1) := by decide +kernel
theorem dX3_isWord_41 : decode cX3_isWord 41 = .ok (.getfield 32, 3) := by decide +kernel
theorem dX3_isWord_44 : decode cX3_isWord 44 = .ok (.iload_n 2, 1) := by decide +kernel
theorem dX3_isWord_45 : decode cX3_isWord 45 = .ok (.iadd, 1) := by decide +kernel
theorem dX3_isWord_46 : decode cX3_isWord 46 = .ok (.baload, 1) := by decide +kernel
theorem dX3_isWord_47 : decode cX3_isWord 47 = .ok (.aload_n 1, 1) := by decide +kernel
theorem dX3_isWord_48 : decode cX3_isWord 48 = .ok (.iload_n 2, 1) := by decide +kernel
theorem dX3_isWord_49 : decode cX3_isWord 49 = .ok (.invokevirtual 128, 3) := by decide +kernel
theorem dX3_isWord_52 : decode cX3_isWord 52 = .ok (.if_icmp .eq 5, 3) := by decide +kernel
theorem dX3_isWord_55 : decode cX3_isWord 55 = .ok (.iconst 0, 1) := by decide +kernel
theorem dX3_isWord_56 : decode cX3_isWord 56 = .ok (.ireturn, 1) := by decide +kernel
theorem dX3_isWord_57 : decode cX3_isWord 57 = .ok (.iinc 2 1, 3) := by decide +kernel
theorem dX3_isWord_60 : decode cX3_isWord 60 = .ok (.goto (-32), 3) := by decide +kernel
theorem dX3_isWord_63 : decode cX3_isWord 63 = .ok (.iconst 1, 1) := by decide +kernel
theorem dX3_isWord_64 : decode cX3_isWord 64 = .ok (.ireturn, 1) := by decide +kernel
theorem dX3_wordOf_0 : decode cX3_wordOf 0 = .ok (.iload_n 0, 1) := by decide +kernel
theorem dX3_wordOf_1 : decode cX3_wordOf 1 = .ok (.tableswitch 57 0 5 #[39, 42, 45, 48, 51, 54], 39) := by decide +kernel
theorem dX3_wordOf_40 : decode cX3_wordOf 40 = .ok (.ldc 132, 2) := by decide +kernel
theorem dX3_wordOf_42 : decode cX3_wordOf 42 = .ok (.areturn, 1) := by decide +kernel
theorem dX3_wordOf_43 : decode cX3_wordOf 43 = .ok (.ldc 134, 2) := by decide +kernel
theorem dX3_wordOf_45 : decode cX3_wordOf 45 = .ok (.areturn, 1) := by decide +kernel
theorem dX3_wordOf_46 : decode cX3_wordOf 46 = .ok (.ldc 136, 2) := by decide +kernel
theorem dX3_wordOf_48 : decode cX3_wordOf 48 = .ok (.areturn, 1) := by decide +kernel
theorem dX3_wordOf_49 : decode cX3_wordOf 49 = .ok (.ldc 138, 2) := by decide +kernel
theorem dX3_wordOf_51 : decode cX3_wordOf 51 = .ok (.areturn, 1) := by decide +kernel
theorem dX3_wordOf_52 : decode cX3_wordOf 52 = .ok (.ldc 140, 2) := by decide +kernel
theorem dX3_wordOf_54 : decode cX3_wordOf 54 = .ok (.areturn, 1) := by decide +kernel
theorem dX3_wordOf_55 : decode cX3_wordOf 55 = .ok (.ldc 142, 2) := by decide +kernel
theorem dX3_wordOf_57 : decode cX3_wordOf 57 = .ok (.areturn, 1) := by decide +kernel
theorem dX3_wordOf_58 : decode cX3_wordOf 58 = .ok (.ldc 144, 2) := by decide +kernel
theorem dX3_wordOf_60 : decode cX3_wordOf 60 = .ok (.areturn, 1) := by decide +kernel
theorem dX3_step_0 : decode cX3_step 0 = .ok (.aload_n 0, 1) := by decide +kernel
theorem dX3_step_1 : decode cX3_step 1 = .ok (.aload_n 0, 1) := by decide +kernel
theorem dX3_step_2 : decode cX3_step 2 = .ok (.getfield 19, 3) := by decide +kernel
theorem dX3_step_5 : decode cX3_step 5 = .ok (.putfield 32, 3) := by decide +kernel
theorem dX3_step_8 : decode cX3_step 8 = .ok (.aload_n 0, 1) := by decide +kernel
theorem dX3_step_9 : decode cX3_step 9 = .ok (.getfield 32, 3) := by decide +kernel
theorem dX3_step_12 : decode cX3_step 12 = .ok (.aload_n 0, 1) := by decide +kernel
theorem dX3_step_13 : decode cX3_step 13 = .ok (.getfield 15, 3) := by decide +kernel
theorem dX3_step_16 : decode cX3_step 16 = .ok (.if_icmp .ge 30, 3) := by decide +kernel
theorem dX3_step_19 : decode cX3_step 19 = .ok (.aload_n 0, 1) := by decide +kernel
theorem dX3_step_20 : decode cX3_step 20 = .ok (.getfield 9, 3) := by decide +kernel
theorem dX3_step_23 : decode cX3_step 23 = .ok (.aload_n 0, 1) := by decide +kernel
theorem dX3_step_24 : decode cX3_step 24 = .ok (.getfield 32, 3) := by decide +kernel
theorem dX3_step_27 : decode cX3_step 27 = .ok (.baload, 1) := by decide +kernel
theorem dX3_step_28 : decode cX3_step 28 = .ok (.bipush 32, 2) := by decide +kernel
theorem dX3_step_30 : decode cX3_step 30 = .ok (.if_icmp .ne 16, 3) := by decide +kernel
theorem dX3_step_33 : decode cX3_step 33 = .ok (.aload_n 0, 1) := by decide +kernel
theorem dX3_step_34 : decode cX3_step 34 = .ok (.dup, 1) := by decide +kernel
theorem dX3_step_35 : decode cX3_step 35 = .ok (.getfield 32, 3) := by decide +kernel
theorem dX3_step_38 : decode cX3_step 38 = .ok (.iconst 1, 1) := by decide +kernel
theorem dX3_step_39 : decode cX3_step 39 = .ok (.iadd, 1) := by decide +kernel
theorem dX3_step_40 : decode cX3_step 40 = .ok (.putfield 32, 3) := by decide +kernel
theorem dX3_step_43 : decode cX3_step 43 = .ok (.goto (-35), 3) := by decide +kernel
theorem dX3_step_46 : decode cX3_step 46 = .ok (.aload_n 0, 1) := by decide +kernel
theorem dX3_step_47 : decode cX3_step 47 = .ok (.aload_n 0, 1) := by decide +kernel
theorem dX3_step_48 : decode cX3_step 48 = .ok (.getfield 32, 3) := by decide +kernel
theorem dX3_step_51 : decode cX3_step 51 = .ok (.aload_n 0, 1) := by decide +kernel
theorem dX3_step_52 : decode cX3_step 52 = .ok (.getfield 15, 3) := by decide +kernel
theorem dX3_step_55 : decode cX3_step 55 = .ok (.if_icmp .ge 18, 3) := by decide +kernel
theorem dX3_step_58 : decode cX3_step 58 = .ok (.aload_n 0, 1) := by decide +kernel
theorem dX3_step_59 : decode cX3_step 59 = .ok (.getfield 9, 3) := by decide +kernel
theorem dX3_step_62 : decode cX3_step 62 = .ok (.aload_n 0, 1) := by decide +kernel
theorem dX3_step_63 : decode cX3_step 63 = .ok (.getfield 32, 3) := by decide +kernel
theorem dX3_step_66 : decode cX3_step 66 = .ok (.baload, 1) := by decide +kernel
theorem dX3_step_67 : decode cX3_step 67 = .ok (.invokestatic 146, 3) := by decide +kernel
theorem dX3_step_70 : decode cX3_step 70 = .ok (.goto 4, 3) := by decide +kernel
theorem dX3_step_73 : decode cX3_step 73 = .ok (.iconst 0, 1) := by decide +kernel
theorem dX3_step_74 : decode cX3_step 74 = .ok (.putfield 29, 3) := by decide +kernel
theorem dX3_step_77 : decode cX3_step 77 = .ok (.aload_n 0, 1) := by decide +kernel
theorem dX3_step_78 : decode cX3_step 78 = .ok (.aload_n 0, 1) := by decide +kernel
theorem dX3_step_79 : decode cX3_step 79 = .ok (.getfield 32, 3) := by decide +kernel
theorem dX3_step_82 : decode cX3_step 82 = .ok (.putfield 19, 3) := by decide +kernel
theorem dX3_step_85 : decode cX3_step 85 = .ok (.aload_n 0, 1) := by decide +kernel
theorem dX3_step_86 : decode cX3_step 86 = .ok (.iconst 0, 1) := by decide +kernel
theorem dX3_step_87 : decode cX3_step 87 = .ok (.putfield 116, 3) := by decide +kernel
theorem dX3_step_90 : decode cX3_step 90 = .ok (.aload_n 0, 1) := by decide +kernel
theorem dX3_step_91 : decode cX3_step 91 = .ok (.getfield 29, 3) := by decide +kernel
theorem dX3_step_94 : decode cX3_step 94 = .ok (.iconst 1, 1) := by decide +kernel
theorem dX3_step_95 : decode cX3_step 95 = .ok (.if_icmp .eq 11, 3) := by decide +kernel
theorem dX3_step_98 : decode cX3_step 98 = .ok (.aload_n 0, 1) := by decide +kernel
theorem dX3_step_99 : decode cX3_step 99 = .ok (.getfield 29, 3) := by decide +kernel
theorem dX3_step_102 : decode cX3_step 102 = .ok (.iconst 2, 1) := by decide +kernel
theorem dX3_step_103 : decode cX3_step 103 = .ok (.if_icmp .ne 10, 3) := by decide +kernel
theorem dX3_step_106 : decode cX3_step 106 = .ok (.aload_n 0, 1) := by decide +kernel
theorem dX3_step_107 : decode cX3_step 107 = .ok (.getfield 15, 3) := by decide +kernel
theorem dX3_step_110 : decode cX3_step 110 = .ok (.goto 16, 3) := by decide +kernel
theorem dX3_step_113 : decode cX3_step 113 = .ok (.aload_n 0, 1) := by decide +kernel
theorem dX3_step_114 : decode cX3_step 114 = .ok (.getfield 15, 3) := by decide +kernel
theorem dX3_step_117 : decode cX3_step 117 = .ok (.aload_n 0, 1) := by decide +kernel
theorem dX3_step_118 : decode cX3_step 118 = .ok (.getfield 32, 3) := by decide +kernel
theorem dX3_step_121 : decode cX3_step 121 = .ok (.iconst 1, 1) := by decide +kernel
theorem dX3_step_122 : decode cX3_step 122 = .ok (.iadd, 1) := by decide +kernel
theorem dX3_step_123 : decode cX3_step 123 = .ok (.invokestatic 150, 3) := by decide +kernel
theorem dX3_step_126 : decode cX3_step 126 = .ok (.istore_n 1, 1) := by decide +kernel
theorem dX3_step_127 : decode cX3_step 127 = .ok (.aload_n 0, 1) := by decide +kernel
theorem dX3_step_128 : decode cX3_step 128 = .ok (.getfield 19, 3) := by decide +kernel
theorem dX3_step_131 : decode cX3_step 131 = .ok (.iload_n 1, 1) := by decide +kernel
theorem dX3_step_132 : decode cX3_step 132 = .ok (.if_icmp .ge 73, 3) := by decide +kernel
theorem dX3_step_135 : decode cX3_step 135 = .ok (.aload_n 0, 1) := by decide +kernel
theorem dX3_step_136 : decode cX3_step 136 = .ok (.getfield 9, 3) := by decide +kernel
theorem dX3_step_139 : decode cX3_step 139 = .ok (.aload_n 0, 1) := by decide +kernel
theorem dX3_step_140 : decode cX3_step 140 = .ok (.getfield 19, 3) := by decide +kernel
theorem dX3_step_143 : decode cX3_step 143 = .ok (.baload, 1) := by decide +kernel
theorem dX3_step_144 : decode cX3_step 144 = .ok (.invokestatic 146, 3) := by decide +kernel
theorem dX3_step_147 : decode cX3_step 147 = .ok (.aload_n 0, 1) := by decide +kernel
theorem dX3_step_148 : decode cX3_step 148 = .ok (.getfield 29, 3) := by decide +kernel
theorem dX3_step_151 : decode cX3_step 151 = .ok (.if_icmp .ne 54, 3) := by decide +kernel
theorem dX3_step_154 : decode cX3_step 154 = .ok (.aload_n 0, 1) := by decide +kernel
theorem dX3_step_155 : decode cX3_step 155 = .ok (.getfield 29, 3) := by decide +kernel
theorem dX3_step_158 : decode cX3_step 158 = .ok (.iconst 2, 1) := by decide +kernel
theorem dX3_step_159 : decode cX3_step 159 = .ok (.if_icmp .ne 33, 3) := by decide +kernel
theorem dX3_step_162 : decode cX3_step 162 = .ok (.aload_n 0, 1) := by decide +kernel
theorem dX3_step_163 : decode cX3_step 163 = .ok (.sipush 10000, 3) := by decide +kernel
theorem dX3_step_166 : decode cX3_step 166 = .ok (.aload_n 0, 1) := by decide +kernel
theorem dX3_step_167 : decode cX3_step 167 = .ok (.getfield 116, 3) := by decide +kernel
theorem dX3_step_170 : decode cX3_step 170 = .ok (.bipush 10, 2) := by decide +kernel
theorem dX3_step_172 : decode cX3_step 172 = .ok (.imul, 1) := by decide +kernel
theorem dX3_step_173 : decode cX3_step 173 = .ok (.aload_n 0, 1) := by decide +kernel
theorem dX3_step_174 : decode cX3_step 174 = .ok (.getfield 9, 3) := by decide +kernel
theorem dX3_step_177 : decode cX3_step 177 = .ok (.aload_n 0, 1) := by decide +kernel
theorem dX3_step_178 : decode cX3_step 178 = .ok (.getfield 19, 3) := by decide +kernel
theorem dX3_step_181 : decode cX3_step 181 = .ok (.baload, 1) := by decide +kernel
theorem dX3_step_182 : decode cX3_step 182 = .ok (.bipush 48, 2) := by decide +kernel
theorem dX3_step_184 : decode cX3_step 184 = .ok (.isub, 1) := by decide +kernel
theorem dX3_step_185 : decode cX3_step 185 = .ok (.iadd, 1) := by decide +kernel
theorem dX3_step_186 : decode cX3_step 186 = .ok (.invokestatic 150, 3) := by decide +kernel
theorem dX3_step_189 : decode cX3_step 189 = .ok (.putfield 116, 3) := by decide +kernel
theorem dX3_step_192 : decode cX3_step 192 = .ok (.aload_n 0, 1) := by decide +kernel
theorem dX3_step_193 : decode cX3_step 193 = .ok (.dup, 1) := by decide +kernel
theorem dX3_step_194 : decode cX3_step 194 = .ok (.getfield 19, 3) := by decide +kernel
theorem dX3_step_197 : decode cX3_step 197 = .ok (.iconst 1, 1) := by decide +kernel
theorem dX3_step_198 : decode cX3_step 198 = .ok (.iadd, 1) := by decide +kernel
theorem dX3_step_199 : decode cX3_step 199 = .ok (.putfield 19, 3) := by decide +kernel
theorem dX3_step_202 : decode cX3_step 202 = .ok (.goto (-75), 3) := by decide +kernel
theorem dX3_step_205 : decode cX3_step 205 = .ok (.return_, 1) := by decide +kernel
theorem dX3_tokenOf_0 : decode cX3_tokenOf 0 = .ok (.iload_n 0, 1) := by decide +kernel
theorem dX3_tokenOf_1 : decode cX3_tokenOf 1 = .ok (.bipush 97, 2) := by decide +kernel
theorem dX3_tokenOf_3 : decode cX3_tokenOf 3 = .ok (.if_icmp .lt 11, 3) := by decide +kernel
theorem dX3_tokenOf_6 : decode cX3_tokenOf 6 = .ok (.iload_n 0, 1) := by decide +kernel
theorem dX3_tokenOf_7 : decode cX3_tokenOf 7 = .ok (.bipush 122, 2) := by decide +kernel
theorem dX3_tokenOf_9 : decode cX3_tokenOf 9 = .ok (.if_icmp .gt 5, 3) := by decide +kernel
theorem dX3_tokenOf_12 : decode cX3_tokenOf 12 = .ok (.iconst 1, 1) := by decide +kernel
theorem dX3_tokenOf_13 : decode cX3_tokenOf 13 = .ok (.ireturn, 1) := by decide +kernel
theorem dX3_tokenOf_14 : decode cX3_tokenOf 14 = .ok (.iload_n 0, 1) := by decide +kernel
theorem dX3_tokenOf_15 : decode cX3_tokenOf 15 = .ok (.bipush 48, 2) := by decide +kernel
theorem dX3_tokenOf_17 : decode cX3_tokenOf 17 = .ok (.if_icmp .lt 11, 3) := by decide +kernel
theorem dX3_tokenOf_20 : decode cX3_tokenOf 20 = .ok (.iload_n 0, 1) := by decide +kernel
theorem dX3_tokenOf_21 : decode cX3_tokenOf 21 = .ok (.bipush 57, 2) := by decide +kernel
theorem dX3_tokenOf_23 : decode cX3_tokenOf 23 = .ok (.if_icmp .gt 5, 3) := by decide +kernel
theorem dX3_tokenOf_26 : decode cX3_tokenOf 26 = .ok (.iconst 2, 1) := by decide +kernel
theorem dX3_tokenOf_27 : decode cX3_tokenOf 27 = .ok (.ireturn, 1) := by decide +kernel
theorem dX3_tokenOf_28 : decode cX3_tokenOf 28 = .ok (.iload_n 0, 1) := by decide +kernel
theorem dX3_tokenOf_29 : decode cX3_tokenOf 29 = .ok (.bipush 59, 2) := by decide +kernel
theorem dX3_tokenOf_31 : decode cX3_tokenOf 31 = .ok (.if_icmp .ne 7, 3) := by decide +kernel
theorem dX3_tokenOf_34 : decode cX3_tokenOf 34 = .ok (.iconst 3, 1) := by decide +kernel
theorem dX3_tokenOf_35 : decode cX3_tokenOf 35 = .ok (.goto 4, 3) := by decide +kernel
theorem dX3_tokenOf_38 : decode cX3_tokenOf 38 = .ok (.iconst 4, 1) := by decide +kernel
theorem dX3_tokenOf_39 : decode cX3_tokenOf 39 = .ok (.ireturn, 1) := by decide +kernel
theorem dX4_init_0 : decode cX4_init 0 = .ok (.aload_n 0, 1) := by decide +kernel
theorem dX4_init_1 : decode cX4_init 1 = .ok (.invokespecial 3, 3) := by decide +kernel
theorem dX4_init_4 : decode cX4_init 4 = .ok (.aload_n 0, 1) := by decide +kernel
theorem dX4_init_5 : decode cX4_init 5 = .ok (.bipush 8, 2) := by decide +kernel
theorem dX4_init_7 : decode cX4_init 7 = .ok (.newarray .int, 2) := by decide +kernel
theorem dX4_init_9 : decode cX4_init 9 = .ok (.putfield 9, 3) := by decide +kernel
theorem dX4_init_12 : decode cX4_init 12 = .ok (.aload_n 0, 1) := by decide +kernel
theorem dX4_init_13 : decode cX4_init 13 = .ok (.bipush 8, 2) := by decide +kernel
theorem dX4_init_15 : decode cX4_init 15 = .ok (.newarray .int, 2) := by decide +kernel
theorem dX4_init_17 : decode cX4_init 17 = .ok (.putfield 15, 3) := by decide +kernel
theorem dX4_init_20 : decode cX4_init 20 = .ok (.return_, 1) := by decide +kernel
theorem dX4_startersOf_0 : decode cX4_startersOf 0 = .ok (.iconst 0, 1) := by decide +kernel
theorem dX4_startersOf_1 : decode cX4_startersOf 1 = .ok (.istore 4, 2) := by decide +kernel
theorem dX4_startersOf_3 : decode cX4_startersOf 3 = .ok (.iconst 0, 1) := by decide +kernel
theorem dX4_startersOf_4 : decode cX4_startersOf 4 = .ok (.istore 5, 2) := by decide +kernel
theorem dX4_startersOf_6 : decode cX4_startersOf 6 = .ok (.iload 5, 2) := by decide +kernel
theorem dX4_startersOf_8 : decode cX4_startersOf 8 = .ok (.aload_n 1, 1) := by decide +kernel
theorem dX4_startersOf_9 : decode cX4_startersOf 9 = .ok (.getfield 18, 3) := by decide +kernel
theorem dX4_startersOf_12 : decode cX4_startersOf 12 = .ok (.if_icmp .ge 46, 3) := by decide +kernel
theorem dX4_startersOf_15 : decode cX4_startersOf 15 = .ok (.aload_n 1, 1) := by decide +kernel
theorem dX4_startersOf_16 : decode cX4_startersOf 16 = .ok (.iload 5, 2) := by decide +kernel
theorem dX4_startersOf_18 : decode cX4_startersOf 18 = .ok (.iload_n 2, 1) := by decide +kernel
theorem dX4_startersOf_19 : decode cX4_startersOf 19 = .ok (.iload_n 3, 1) := by decide +kernel
theorem dX4_startersOf_20 : decode cX4_startersOf 20 = .ok (.invokevirtual 24, 3) := by decide +kernel
theorem dX4_startersOf_23 : decode cX4_startersOf 23 = .ok (.aload_n 1, 1) := by decide +kernel
theorem dX4_startersOf_24 : decode cX4_startersOf 24 = .ok (.getfield 28, 3) := by decide +kernel
theorem dX4_startersOf_27 : decode cX4_startersOf 27 = .ok (.iload 5, 2) := by decide +kernel
theorem dX4_startersOf_29 : decode cX4_startersOf 29 = .ok (.iaload, 1) := by decide +kernel
theorem dX4_startersOf_30 : decode cX4_startersOf 30 = .ok (.aload_n 1, 1) := by decide +kernel
theorem dX4_startersOf_31 : decode cX4_startersOf 31 = .ok (.getfield 31, 3) := by decide +kernel
theorem dX4_startersOf_34 : decode cX4_startersOf 34 = .ok (.iload 5, 2) := by decide +kernel
theorem dX4_startersOf_36 : decode cX4_startersOf 36 = .ok (.iaload, 1) := by decide +kernel
theorem dX4_startersOf_37 : decode cX4_startersOf 37 = .ok (.invokestatic 34, 3) := by decide +kernel
theorem dX4_startersOf_40 : decode cX4_startersOf 40 = .ok (.if_icmp .lt 12, 3) := by decide +kernel
theorem dX4_startersOf_43 : decode cX4_startersOf 43 = .ok (.iload 4, 2) := by decide +kernel
theorem dX4_startersOf_45 : decode cX4_startersOf 45 = .ok (.iconst 1, 1) := by decide +kernel
theorem dX4_startersOf_46 : decode cX4_startersOf 46 = .ok (.iload 5, 2) := by decide +kernel
theorem dX4_startersOf_48 : decode cX4_startersOf 48 = .ok (.ishl, 1) := by decide +kernel
theorem dX4_startersOf_49 : decode cX4_startersOf 49 = .ok (.ior, 1) := by decide +kernel
theorem dX4_startersOf_50 : decode cX4_startersOf 50 = .ok (.istore 4, 2) := by decide +kernel
theorem dX4_startersOf_52 : decode cX4_startersOf 52 = .ok (.iinc 5 1, 3) := by decide +kernel
theorem dX4_startersOf_55 : decode cX4_startersOf 55 = .ok (.goto (-49), 3) := by decide +kernel
theorem dX4_startersOf_58 : decode cX4_startersOf 58 = .ok (.iload 4, 2) := by decide +kernel
theorem dX4_startersOf_60 : decode cX4_startersOf 60 = .ok (.ireturn, 1) := by decide +kernel
theorem dX4_laughersOf_0 : decode cX4_laughersOf 0 = .ok (.aload_n 0, 1) := by decide +kernel
theorem dX4_laughersOf_1 : decode cX4_laughersOf 1 = .ok (.aload_n 1, 1) := by decide +kernel
theorem dX4_laughersOf_2 : decode cX4_laughersOf 2 = .ok (.aload_n 1, 1) := by decide +kernel
theorem dX4_laughersOf_3 : decode cX4_laughersOf 3 = .ok (.getfield 40, 3) := by decide +kernel
theorem dX4_laughersOf_6 : decode cX4_laughersOf 6 = .ok (.iload_n 2, 1) := by decide +kernel
theorem dX4_laughersOf_7 : decode cX4_laughersOf 7 = .ok (.iaload, 1) := by decide +kernel
theorem dX4_laughersOf_8 : decode cX4_laughersOf 8 = .ok (.aload_n 1, 1) := by decide +kernel
theorem dX4_laughersOf_9 : decode cX4_laughersOf 9 = .ok (.getfield 43, 3) := by decide +kernel
theorem dX4_laughersOf_12 : decode cX4_laughersOf 12 = .ok (.iload_n 2, 1) := by decide +kernel
theorem dX4_laughersOf_13 : decode cX4_laughersOf 13 = .ok (.iaload, 1) := by decide +kernel
theorem dX4_laughersOf_14 : decode cX4_laughersOf 14 = .ok (.invokevirtual 46, 3) := by decide +kernel
theorem dX4_laughersOf_17 : decode cX4_laughersOf 17 = .ok (.istore_n 3, 1) := by decide +kernel
theorem dX4_laughersOf_18 : decode cX4_laughersOf 18 = .ok (.aload_n 0, 1) := by decide +kernel
theorem dX4_laughersOf_19 : decode cX4_laughersOf 19 = .ok (.aload_n 1, 1) := by decide +kernel
theorem dX4_laughersOf_20 : decode cX4_laughersOf 20 = .ok (.iload_n 3, 1) := by decide +kernel
theorem dX4_laughersOf_21 : decode cX4_laughersOf 21 = .ok (.aload_n 1, 1) := by decide +kernel
theorem dX4_laughersOf_22 : decode cX4_laughersOf 22 = .ok (.invokevirtual 50, 3) := by decide +kernel
theorem dX4_laughersOf_25 : decode cX4_laughersOf 25 = .ok (.invokevirtual 54, 3) := by decide +kernel
theorem dX4_laughersOf_28 : decode cX4_laughersOf 28 = .ok (.ireturn, 1) := by decide +kernel
theorem dX4_spread_0 : decode cX4_spread 0 = .ok (.iload_n 2, 1) := by decide +kernel
theorem dX4_spread_1 : decode cX4_spread 1 = .ok (.istore 4, 2) := by decide +kernel
theorem dX4_spread_3 : decode cX4_spread 3 = .ok (.aload_n 0, 1) := by decide +kernel
theorem dX4_spread_4 : decode cX4_spread 4 = .ok (.iconst 0, 1) := by decide +kernel
theorem dX4_spread_5 : decode cX4_spread 5 = .ok (.putfield 57, 3) := by decide +kernel
theorem dX4_spread_8 : decode cX4_spread 8 = .ok (.aload_n 0, 1) := by decide +kernel
theorem dX4_spread_9 : decode cX4_spread 9 = .ok (.iload_n 2, 1) := by decide +kernel
theorem dX4_spread_10 : decode cX4_spread 10 = .ok (.iconst 0, 1) := by decide +kernel
theorem dX4_spread_11 : decode cX4_spread 11 = .ok (.invokevirtual 60, 3) := by decide +kernel
theorem dX4_spread_14 : decode cX4_spread 14 = .ok (.iconst 1, 1) := by decide +kernel
theorem dX4_spread_15 : decode cX4_spread 15 = .ok (.istore 5, 2) := by decide +kernel
theorem dX4_spread_17 : decode cX4_spread 17 = .ok (.iload 5, 2) := by decide +kernel
theorem dX4_spread_19 : decode cX4_spread 19 = .ok (.bipush 8, 2) := by decide +kernel
theorem dX4_spread_21 : decode cX4_spread 21 = .ok (.if_icmp .gt 53, 3) := by decide +kernel
theorem dX4_spread_24 : decode cX4_spread 24 = .ok (.aload_n 0, 1) := by decide +kernel
theorem dX4_spread_25 : decode cX4_spread 25 = .ok (.aload_n 1, 1) := by decide +kernel
theorem dX4_spread_26 : decode cX4_spread 26 = .ok (.iload 4, 2) := by decide +kernel
theorem dX4_spread_28 : decode cX4_spread 28 = .ok (.iload_n 3, 1) := by decide +kernel
theorem dX4_spread_29 : decode cX4_spread 29 = .ok (.iload 4, 2) := by decide +kernel
theorem dX4_spread_31 : decode cX4_spread 31 = .ok (.iconst (-1), 1) := by decide +kernel
theorem dX4_spread_32 : decode cX4_spread 32 = .ok (.ixor, 1) := by decide +kernel
theorem dX4_spread_33 : decode cX4_spread 33 = .ok (.iand, 1) := by decide +kernel
theorem dX4_spread_34 : decode cX4_spread 34 = .ok (.invokevirtual 64, 3) := by decide +kernel
theorem dX4_spread_37 : decode cX4_spread 37 = .ok (.istore 6, 2) := by decide +kernel
theorem dX4_spread_39 : decode cX4_spread 39 = .ok (.iload 6, 2) := by decide +kernel
theorem dX4_spread_41 : decode cX4_spread 41 = .ok (.ifCond .ne 6, 3) := by decide +kernel
theorem dX4_spread_44 : decode cX4_spread 44 = .ok (.goto 30, 3) := by decide +kernel
theorem dX4_spread_47 : decode cX4_spread 47 = .ok (.aload_n 0, 1) := by decide +kernel
theorem dX4_spread_48 : decode cX4_spread 48 = .ok (.iload 5, 2) := by decide +kernel
theorem dX4_spread_50 : decode cX4_spread 50 = .ok (.putfield 57, 3) := by decide +kernel
theorem dX4_spread_53 : decode cX4_spread 53 = .ok (.aload_n 0, 1) := by decide +kernel
theorem dX4_spread_54 : decode cX4_spread 54 = .ok (.iload 6, 2) := by decide +kernel
theorem dX4_spread_56 : decode cX4_spread 56 = .ok (.iload 5, 2) := by decide +kernel
theorem dX4_spread_58 : decode cX4_spread 58 = .ok (.invokevirtual 60, 3) := by decide +kernel
theorem dX4_spread_61 : decode cX4_spread 61 = .ok (.iload 4, 2) := by decide +kernel
theorem dX4_spread_63 : decode cX4_spread 63 = .ok (.iload 6, 2) := by decide +kernel
theorem dX4_spread_65 : decode cX4_spread 65 = .ok (.ior, 1) := by decide +kernel
theorem dX4_spread_66 : decode cX4_spread 66 = .ok (.istore 4, 2) := by decide +kernel
theorem dX4_spread_68 : decode cX4_spread 68 = .ok (.iinc 5 1, 3) := by decide +kernel
theorem dX4_spread_71 : decode cX4_spread 71 = .ok (.goto (-54), 3) := by decide +kernel
theorem dX4_spread_74 : decode cX4_spread 74 = .ok (.iload 4, 2) := by decide +kernel
theorem dX4_spread_76 : decode cX4_spread 76 = .ok (.ireturn, 1) := by decide +kernel
theorem dX4_catchersFrom_0 : decode cX4_catchersFrom 0 = .ok (.iconst 0, 1) := by decide +kernel
theorem dX4_catchersFrom_1 : decode cX4_catchersFrom 1 = .ok (.istore 4, 2) := by decide +kernel
theorem dX4_catchersFrom_3 : decode cX4_catchersFrom 3 = .ok (.iconst 0, 1) := by decide +kernel
theorem dX4_catchersFrom_4 : decode cX4_catchersFrom 4 = .ok (.istore 5, 2) := by decide +kernel
theorem dX4_catchersFrom_6 : decode cX4_catchersFrom 6 = .ok (.iload 5, 2) := by decide +kernel
theorem dX4_catchersFrom_8 : decode cX4_catchersFrom 8 = .ok (.aload_n 1, 1) := by decide +kernel
theorem dX4_catchersFrom_9 : decode cX4_catchersFrom 9 = .ok (.getfield 18, 3) := by decide +kernel
theorem dX4_catchersFrom_12 : decode cX4_catchersFrom 12 = .ok (.if_icmp .ge 63, 3) := by decide +kernel
theorem dX4_catchersFrom_15 : decode cX4_catchersFrom 15 = .ok (.aload_n 1, 1) := by decide +kernel
theorem dX4_catchersFrom_16 : decode cX4_catchersFrom 16 = .ok (.getfield 67, 3) := by decide +kernel
theorem dX4_catchersFrom_19 : decode cX4_catchersFrom 19 = .ok (.iload 5, 2) := by decide +kernel
theorem dX4_catchersFrom_21 : decode cX4_catchersFrom 21 = .ok (.iaload, 1) := by decide +kernel
theorem dX4_catchersFrom_22 : decode cX4_catchersFrom 22 = .ok (.iload_n 2, 1) := by decide +kernel
theorem dX4_catchersFrom_23 : decode cX4_catchersFrom 23 = .ok (.iand, 1) := by decide +kernel
theorem dX4_catchersFrom_24 : decode cX4_catchersFrom 24 = .ok (.invokestatic 70, 3) := by decide +kernel
theorem dX4_catchersFrom_27 : decode cX4_catchersFrom 27 = .ok (.istore 6, 2) := by decide +kernel
theorem dX4_catchersFrom_29 : decode cX4_catchersFrom 29 = .ok (.iload_n 3, 1) := by decide +kernel
theorem dX4_catchersFrom_30 : decode cX4_catchersFrom 30 = .ok (.iload 5, 2) := by decide +kernel
theorem dX4_catchersFrom_32 : decode cX4_catchersFrom 32 = .ok (.invokestatic 76, 3) := by decide +kernel
theorem dX4_catchersFrom_35 : decode cX4_catchersFrom 35 = .ok (.ifCond .eq 34, 3) := by decide +kernel
theorem dX4_catchersFrom_38 : decode cX4_catchersFrom 38 = .ok (.iload 6, 2) := by decide +kernel
theorem dX4_catchersFrom_40 : decode cX4_catchersFrom 40 = .ok (.aload_n 1, 1) := by decide +kernel
theorem dX4_catchersFrom_41 : decode cX4_catchersFrom 41 = .ok (.getfield 28, 3) := by decide +kernel
theorem dX4_catchersFrom_44 : decode cX4_catchersFrom 44 = .ok (.iload 5, 2) := by decide +kernel
theorem dX4_catchersFrom_46 : decode cX4_catchersFrom 46 = .ok (.iaload, 1) := by decide +kernel
theorem dX4_catchersFrom_47 : decode cX4_catchersFrom 47 = .ok (.aload_n 1, 1) := by decide +kernel
theorem dX4_catchersFrom_48 : decode cX4_catchersFrom 48 = .ok (.getfield 80, 3) := by decide +kernel
theorem dX4_catchersFrom_51 : decode cX4_catchersFrom 51 = .ok (.iload 5, 2) := by decide +kernel
theorem dX4_catchersFrom_53 : decode cX4_catchersFrom 53 = .ok (.iaload, 1) := by decide +kernel
theorem dX4_catchersFrom_54 : decode cX4_catchersFrom 54 = .ok (.invokestatic 83, 3) := by decide +kernel
theorem dX4_catchersFrom_57 : decode cX4_catchersFrom 57 = .ok (.if_icmp .lt 12, 3) := by decide +kernel
theorem dX4_catchersFrom_60 : decode cX4_catchersFrom 60 = .ok (.iload 4, 2) := by decide +kernel
theorem dX4_catchersFrom_62 : decode cX4_catchersFrom 62 = .ok (.iconst 1, 1) := by decide +kernel
theorem dX4_catchersFrom_63 : decode cX4_catchersFrom 63 = .ok (.iload 5, 2) := by decide +kernel
theorem dX4_catchersFrom_65 : decode cX4_catchersFrom 65 = .ok (.ishl, 1) := by decide +kernel
theorem dX4_catchersFrom_66 : decode cX4_catchersFrom 66 = .ok (.ior, 1) := by decide +kernel
theorem dX4_catchersFrom_67 : decode cX4_catchersFrom 67 = .ok (.istore 4, 2) := by decide +kernel
theorem dX4_catchersFrom_69 : decode cX4_catchersFrom 69 = .ok (.iinc 5 1, 3) := by decide +kernel
theorem dX4_catchersFrom_72 : decode cX4_catchersFrom 72 = .ok (.goto (-66), 3) := by decide +kernel
theorem dX4_catchersFrom_75 : decode cX4_catchersFrom 75 = .ok (.iload 4, 2) := by decide +kernel
theorem dX4_catchersFrom_77 : decode cX4_catchersFrom 77 = .ok (.ireturn, 1) := by decide +kernel
theorem dX4_noteRound_0 : decode cX4_noteRound 0 = .ok (.iconst 0, 1) := by decide +kernel
theorem dX4_noteRound_1 : decode cX4_noteRound 1 = .ok (.istore_n 3, 1) := by decide +kernel
theorem dX4_noteRound_2 : decode cX4_noteRound 2 = .ok (.iload_n 3, 1) := by decide +kernel
theorem dX4_noteRound_3 : decode cX4_noteRound 3 = .ok (.bipush 8, 2) := by decide +kernel
theorem dX4_noteRound_5 : decode cX4_noteRound 5 = .ok (.if_icmp .ge 24, 3) := by decide +kernel
theorem dX4_noteRound_8 : decode cX4_noteRound 8 = .ok (.iload_n 1, 1) := by decide +kernel
theorem dX4_noteRound_9 : decode cX4_noteRound 9 = .ok (.iload_n 3, 1) := by decide +kernel
theorem dX4_noteRound_10 : decode cX4_noteRound 10 = .ok (.invokestatic 76, 3) := by decide +kernel
theorem dX4_noteRound_13 : decode cX4_noteRound 13 = .ok (.ifCond .eq 10, 3) := by decide +kernel
theorem dX4_noteRound_16 : decode cX4_noteRound 16 = .ok (.aload_n 0, 1) := by decide +kernel
theorem dX4_noteRound_17 : decode cX4_noteRound 17 = .ok (.getfield 9, 3) := by decide +kernel
theorem dX4_noteRound_20 : decode cX4_noteRound 20 = .ok (.iload_n 3, 1) := by decide +kernel
theorem dX4_noteRound_21 : decode cX4_noteRound 21 = .ok (.iload_n 2, 1) := by decide +kernel
theorem dX4_noteRound_22 : decode cX4_noteRound 22 = .ok (.iastore, 1) := by decide +kernel
theorem dX4_noteRound_23 : decode cX4_noteRound 23 = .ok (.iinc 3 1, 3) := by decide +kernel
theorem dX4_noteRound_26 : decode cX4_noteRound 26 = .ok (.goto (-24), 3) := by decide +kernel
theorem dX4_noteRound_29 : decode cX4_noteRound 29 = .ok (.return_, 1) := by decide +kernel
theorem dX4_perform_0 : decode cX4_perform 0 = .ok (.aload_n 0, 1) := by decide +kernel
theorem dX4_perform_1 : decode cX4_perform 1 = .ok (.aload_n 1, 1) := by decide +kernel
theorem dX4_perform_2 : decode cX4_perform 2 = .ok (.iload_n 2, 1) := by decide +kernel
theorem dX4_perform_3 : decode cX4_perform 3 = .ok (.invokevirtual 86, 3) := by decide +kernel
theorem dX4_perform_6 : decode cX4_perform 6 = .ok (.istore_n 3, 1) := by decide +kernel
theorem dX4_perform_7 : decode cX4_perform 7 = .ok (.iconst 0, 1) := by decide +kernel
theorem dX4_perform_8 : decode cX4_perform 8 = .ok (.istore 4, 2) := by decide +kernel
theorem dX4_perform_10 : decode cX4_perform 10 = .ok (.iload 4, 2) := by decide +kernel
theorem dX4_perform_12 : decode cX4_perform 12 = .ok (.aload_n 1, 1) := by decide +kernel
theorem dX4_perform_13 : decode cX4_perform 13 = .ok (.getfield 18, 3) := by decide +kernel
theorem dX4_perform_16 : decode cX4_perform 16 = .ok (.if_icmp .ge 64, 3) := by decide +kernel
theorem dX4_perform_19 : decode cX4_perform 19 = .ok (.aload_n 1, 1) := by decide +kernel
theorem dX4_perform_20 : decode cX4_perform 20 = .ok (.iload 4, 2) := by decide +kernel
theorem dX4_perform_22 : decode cX4_perform 22 = .ok (.aload_n 1, 1) := by decide +kernel
theorem dX4_perform_23 : decode cX4_perform 23 = .ok (.getfield 40, 3) := by decide +kernel
theorem dX4_perform_26 : decode cX4_perform 26 = .ok (.iload_n 2, 1) := by decide +kernel
theorem dX4_perform_27 : decode cX4_perform 27 = .ok (.iaload, 1) := by decide +kernel
theorem dX4_perform_28 : decode cX4_perform 28 = .ok (.aload_n 1, 1) := by decide +kernel
theorem dX4_perform_29 : decode cX4_perform 29 = .ok (.getfield 43, 3) := by decide +kernel
theorem dX4_perform_32 : decode cX4_perform 32 = .ok (.iload_n 2, 1) := by decide +kernel
theorem dX4_perform_33 : decode cX4_perform 33 = .ok (.iaload, 1) := by decide +kernel
theorem dX4_perform_34 : decode cX4_perform 34 = .ok (.invokevirtual 24, 3) := by decide +kernel
theorem dX4_perform_37 : decode cX4_perform 37 = .ok (.istore 5, 2) := by decide +kernel
theorem dX4_perform_39 : decode cX4_perform 39 = .ok (.aload_n 0, 1) := by decide +kernel
theorem dX4_perform_40 : decode cX4_perform 40 = .ok (.getfield 15, 3) := by decide +kernel
theorem dX4_perform_43 : decode cX4_perform 43 = .ok (.iload 4, 2) := by decide +kernel
theorem dX4_perform_45 : decode cX4_perform 45 = .ok (.iload_n 3, 1) := by decide +kernel
theorem dX4_perform_46 : decode cX4_perform 46 = .ok (.iload 4, 2) := by decide +kernel
theorem dX4_perform_48 : decode cX4_perform 48 = .ok (.invokestatic 76, 3) := by decide +kernel
theorem dX4_perform_51 : decode cX4_perform 51 = .ok (.ifCond .eq 21, 3) := by decide +kernel
theorem dX4_perform_54 : decode cX4_perform 54 = .ok (.aload_n 0, 1) := by decide +kernel
theorem dX4_perform_55 : decode cX4_perform 55 = .ok (.aload_n 1, 1) := by decide +kernel
theorem dX4_perform_56 : decode cX4_perform 56 = .ok (.iload 4, 2) := by decide +kernel
theorem dX4_perform_58 : decode cX4_perform 58 = .ok (.aload_n 1, 1) := by decide +kernel
theorem dX4_perform_59 : decode cX4_perform 59 = .ok (.iload 4, 2) := by decide +kernel
theorem dX4_perform_61 : decode cX4_perform 61 = .ok (.iload 5, 2) := by decide +kernel
theorem dX4_perform_63 : decode cX4_perform 63 = .ok (.invokevirtual 90, 3) := by decide +kernel
theorem dX4_perform_66 : decode cX4_perform 66 = .ok (.invokevirtual 93, 3) := by decide +kernel
theorem dX4_perform_69 : decode cX4_perform 69 = .ok (.goto 4, 3) := by decide +kernel
theorem dX4_perform_72 : decode cX4_perform 72 = .ok (.iconst 0, 1) := by decide +kernel
theorem dX4_perform_73 : decode cX4_perform 73 = .ok (.iastore, 1) := by decide +kernel
theorem dX4_perform_74 : decode cX4_perform 74 = .ok (.iinc 4 1, 3) := by decide +kernel
theorem dX4_perform_77 : decode cX4_perform 77 = .ok (.goto (-67), 3) := by decide +kernel
theorem dX4_perform_80 : decode cX4_perform 80 = .ok (.iconst 0, 1) := by decide +kernel
theorem dX4_perform_81 : decode cX4_perform 81 = .ok (.istore 4, 2) := by decide +kernel
theorem dX4_perform_83 : decode cX4_perform 83 = .ok (.iload 4, 2) := by decide +kernel
theorem dX4_perform_85 : decode cX4_perform 85 = .ok (.aload_n 1, 1) := by decide +kernel
theorem dX4_perform_86 : decode cX4_perform 86 = .ok (.getfield 18, 3) := by decide +kernel
theorem dX4_perform_89 : decode cX4_perform 89 = .ok (.if_icmp .ge 51, 3) := by decide +kernel
theorem dX4_perform_92 : decode cX4_perform 92 = .ok (.iload_n 3, 1) := by decide +kernel
theorem dX4_perform_93 : decode cX4_perform 93 = .ok (.iload 4, 2) := by decide +kernel
theorem dX4_perform_95 : decode cX4_perform 95 = .ok (.invokestatic 76, 3) := by decide +kernel
theorem dX4_perform_98 : decode cX4_perform 98 = .ok (.ifCond .eq 7, 3) := by decide +kernel
theorem dX4_perform_101 : decode cX4_perform 101 = .ok (.iconst 1, 1) := by decide +kernel
theorem dX4_perform_102 : decode cX4_perform 102 = .ok (.goto 4, 3) := by decide +kernel
theorem dX4_perform_105 : decode cX4_perform 105 = .ok (.iconst (-1), 1) := by decide +kernel
theorem dX4_perform_106 : decode cX4_perform 106 = .ok (.istore 5, 2) := by decide +kernel
theorem dX4_perform_108 : decode cX4_perform 108 = .ok (.aload_n 1, 1) := by decide +kernel
theorem dX4_perform_109 : decode cX4_perform 109 = .ok (.getfield 80, 3) := by decide +kernel
theorem dX4_perform_112 : decode cX4_perform 112 = .ok (.iload 4, 2) := by decide +kernel
theorem dX4_perform_114 : decode cX4_perform 114 = .ok (.iconst 0, 1) := by decide +kernel
theorem dX4_perform_115 : decode cX4_perform 115 = .ok (.bipush 9, 2) := by decide +kernel
theorem dX4_perform_117 : decode cX4_perform 117 = .ok (.aload_n 1, 1) := by decide +kernel
theorem dX4_perform_118 : decode cX4_perform 118 = .ok (.getfield 80, 3) := by decide +kernel
theorem dX4_perform_121 : decode cX4_perform 121 = .ok (.iload 4, 2) := by decide +kernel
theorem dX4_perform_123 : decode cX4_perform 123 = .ok (.iaload, 1) := by decide +kernel
theorem dX4_perform_124 : decode cX4_perform 124 = .ok (.iload 5, 2) := by decide +kernel
theorem dX4_perform_126 : decode cX4_perform 126 = .ok (.iadd, 1) := by decide +kernel
theorem dX4_perform_127 : decode cX4_perform 127 = .ok (.invokestatic 96, 3) := by decide +kernel
theorem dX4_perform_130 : decode cX4_perform 130 = .ok (.invokestatic 101, 3) := by decide +kernel
theorem dX4_perform_133 : decode cX4_perform 133 = .ok (.iastore, 1) := by decide +kernel
theorem dX4_perform_134 : decode cX4_perform 134 = .ok (.iinc 4 1, 3) := by decide +kernel
theorem dX4_perform_137 : decode cX4_perform 137 = .ok (.goto (-54), 3) := by decide +kernel
theorem dX4_perform_140 : decode cX4_perform 140 = .ok (.aload_n 1, 1) := by decide +kernel
theorem dX4_perform_141 : decode cX4_perform 141 = .ok (.ldc 104, 2) := by decide +kernel
theorem dX4_perform_143 : decode cX4_perform 143 = .ok (.aload_n 1, 1) := by decide +kernel
theorem dX4_perform_144 : decode cX4_perform 144 = .ok (.getfield 105, 3) := by decide +kernel
theorem dX4_perform_147 : decode cX4_perform 147 = .ok (.iconst 1, 1) := by decide +kernel
theorem dX4_perform_148 : decode cX4_perform 148 = .ok (.iadd, 1) := by decide +kernel
theorem dX4_perform_149 : decode cX4_perform 149 = .ok (.invokestatic 96, 3) := by decide +kernel
theorem dX4_perform_152 : decode cX4_perform 152 = .ok (.putfield 105, 3) := by decide +kernel
theorem dX4_perform_155 : decode cX4_perform 155 = .ok (.iload_n 3, 1) := by decide +kernel
theorem dX4_perform_156 : decode cX4_perform 156 = .ok (.ireturn, 1) := by decide +kernel
theorem dX4_collect_0 : decode cX4_collect 0 = .ok (.iload_n 3, 1) := by decide +kernel
theorem dX4_collect_1 : decode cX4_collect 1 = .ok (.aload_n 1, 1) := by decide +kernel
theorem dX4_collect_2 : decode cX4_collect 2 = .ok (.getfield 31, 3) := by decide +kernel
theorem dX4_collect_5 : decode cX4_collect 5 = .ok (.iload_n 2, 1) := by decide +kernel
theorem dX4_collect_6 : decode cX4_collect 6 = .ok (.iaload, 1) := by decide +kernel
theorem dX4_collect_7 : decode cX4_collect 7 = .ok (.ldc 108, 2) := by decide +kernel
theorem dX4_collect_9 : decode cX4_collect 9 = .ok (.aload_n 1, 1) := by decide +kernel
theorem dX4_collect_10 : decode cX4_collect 10 = .ok (.getfield 109, 3) := by decide +kernel
theorem dX4_collect_13 : decode cX4_collect 13 = .ok (.isub, 1) := by decide +kernel
theorem dX4_collect_14 : decode cX4_collect 14 = .ok (.invokestatic 96, 3) := by decide +kernel
theorem dX4_collect_17 : decode cX4_collect 17 = .ok (.invokestatic 96, 3) := by decide +kernel
theorem dX4_collect_20 : decode cX4_collect 20 = .ok (.istore 4, 2) := by decide +kernel
theorem dX4_collect_22 : decode cX4_collect 22 = .ok (.aload_n 1, 1) := by decide +kernel
theorem dX4_collect_23 : decode cX4_collect 23 = .ok (.getfield 31, 3) := by decide +kernel
theorem dX4_collect_26 : decode cX4_collect 26 = .ok (.iload_n 2, 1) := by decide +kernel
theorem dX4_collect_27 : decode cX4_collect 27 = .ok (.dup2, 1) := by decide +kernel
theorem dX4_collect_28 : decode cX4_collect 28 = .ok (.iaload, 1) := by decide +kernel
theorem dX4_collect_29 : decode cX4_collect 29 = .ok (.iload 4, 2) := by decide +kernel
theorem dX4_collect_31 : decode cX4_collect 31 = .ok (.isub, 1) := by decide +kernel
theorem dX4_collect_32 : decode cX4_collect 32 = .ok (.iastore, 1) := by decide +kernel
theorem dX4_collect_33 : decode cX4_collect 33 = .ok (.aload_n 1, 1) := by decide +kernel
theorem dX4_collect_34 : decode cX4_collect 34 = .ok (.dup, 1) := by decide +kernel
theorem dX4_collect_35 : decode cX4_collect 35 = .ok (.getfield 109, 3) := by decide +kernel
theorem dX4_collect_38 : decode cX4_collect 38 = .ok (.iload 4, 2) := by decide +kernel
theorem dX4_collect_40 : decode cX4_collect 40 = .ok (.iadd, 1) := by decide +kernel
theorem dX4_collect_41 : decode cX4_collect 41 = .ok (.putfield 109, 3) := by decide +kernel
theorem dX4_collect_44 : decode cX4_collect 44 = .ok (.iload 4, 2) := by decide +kernel
theorem dX4_collect_46 : decode cX4_collect 46 = .ok (.ireturn, 1) := by decide +kernel
theorem dX4_performOften_0 : decode cX4_performOften 0 = .ok (.iconst 0, 1) := by decide +kernel
theorem dX4_performOften_1 : decode cX4_performOften 1 = .ok (.istore 4, 2) := by decide +kernel
theorem dX4_performOften_3 : decode cX4_performOften 3 = .ok (.iload 4, 2) := by decide +kernel
theorem dX4_performOften_5 : decode cX4_performOften 5 = .ok (.iload_n 3, 1) := by decide +kernel
theorem dX4_performOften_6 : decode cX4_performOften 6 = .ok (.if_icmp .ge 16, 3) := by decide +kernel
theorem dX4_performOften_9 : decode cX4_performOften 9 = .ok (.aload_n 0, 1) := by decide +kernel
theorem dX4_performOften_10 : decode cX4_performOften 10 = .ok (.aload_n 1, 1) := by decide +kernel
theorem dX4_performOften_11 : decode cX4_performOften 11 = .ok (.iload_n 2, 1) := by decide +kernel
theorem dX4_performOften_12 : decode cX4_performOften 12 = .ok (.invokevirtual 112, 3) := by decide +kernel
theorem dX4_performOften_15 : decode cX4_performOften 15 = .ok (.pop, 1) := by decide +kernel
theorem dX4_performOften_16 : decode cX4_performOften 16 = .ok (.iinc 4 1, 3) := by decide +kernel
theorem dX4_performOften_19 : decode cX4_performOften 19 = .ok (.goto (-16), 3) := by decide +kernel
theorem dX4_performOften_22 : decode cX4_performOften 22 = .ok (.aload_n 1, 1) := by decide +kernel
theorem dX4_performOften_23 : decode cX4_performOften 23 = .ok (.getfield 109, 3) := by decide +kernel
theorem dX4_performOften_26 : decode cX4_performOften 26 = .ok (.ireturn, 1) := by decide +kernel
theorem dJ6_bitCount_0f7a4_0 : decode cJ6_bitCount_0f7a4 0 = .ok (.iload_n 0, 1) := by decide +kernel
theorem dJ6_bitCount_0f7a4_1 : decode cJ6_bitCount_0f7a4 1 = .ok (.iload_n 0, 1) := by decide +kernel
theorem dJ6_bitCount_0f7a4_2 : decode cJ6_bitCount_0f7a4 2 = .ok (.iconst 1, 1) := by decide +kernel
theorem dJ6_bitCount_0f7a4_3 : decode cJ6_bitCount_0f7a4 3 = .ok (.iushr, 1) := by decide +kernel
theorem dJ6_bitCount_0f7a4_4 : decode cJ6_bitCount_0f7a4 4 = .ok (.ldc_w 265, 3) := by decide +kernel
theorem dJ6_bitCount_0f7a4_7 : decode cJ6_bitCount_0f7a4 7 = .ok (.iand, 1) := by decide +kernel
theorem dJ6_bitCount_0f7a4_8 : decode cJ6_bitCount_0f7a4 8 = .ok (.isub, 1) := by decide +kernel
theorem dJ6_bitCount_0f7a4_9 : decode cJ6_bitCount_0f7a4 9 = .ok (.istore_n 0, 1) := by decide +kernel
theorem dJ6_bitCount_0f7a4_10 : decode cJ6_bitCount_0f7a4 10 = .ok (.iload_n 0, 1) := by decide +kernel
theorem dJ6_bitCount_0f7a4_11 : decode cJ6_bitCount_0f7a4 11 = .ok (.ldc_w 266, 3) := by decide +kernel
theorem dJ6_bitCount_0f7a4_14 : decode cJ6_bitCount_0f7a4 14 = .ok (.iand, 1) := by decide +kernel
theorem dJ6_bitCount_0f7a4_15 : decode cJ6_bitCount_0f7a4 15 = .ok (.iload_n 0, 1) := by decide +kernel
theorem dJ6_bitCount_0f7a4_16 : decode cJ6_bitCount_0f7a4 16 = .ok (.iconst 2, 1) := by decide +kernel
theorem dJ6_bitCount_0f7a4_17 : decode cJ6_bitCount_0f7a4 17 = .ok (.iushr, 1) := by decide +kernel
theorem dJ6_bitCount_0f7a4_18 : decode cJ6_bitCount_0f7a4 18 = .ok (.ldc_w 266, 3) := by decide +kernel
theorem dJ6_bitCount_0f7a4_21 : decode cJ6_bitCount_0f7a4 21 = .ok (.iand, 1) := by decide +kernel
theorem dJ6_bitCount_0f7a4_22 : decode cJ6_bitCount_0f7a4 22 = .ok (.iadd, 1) := by decide +kernel
theorem dJ6_bitCount_0f7a4_23 : decode cJ6_bitCount_0f7a4 23 = .ok (.istore_n 0, 1) := by decide +kernel
theorem dJ6_bitCount_0f7a4_24 : decode cJ6_bitCount_0f7a4 24 = .ok (.iload_n 0, 1) := by decide +kernel
theorem dJ6_bitCount_0f7a4_25 : decode cJ6_bitCount_0f7a4 25 = .ok (.iload_n 0, 1) := by decide +kernel
theorem dJ6_bitCount_0f7a4_26 : decode cJ6_bitCount_0f7a4 26 = .ok (.iconst 4, 1) := by decide +kernel
theorem dJ6_bitCount_0f7a4_27 : decode cJ6_bitCount_0f7a4 27 = .ok (.iushr, 1) := by decide +kernel
theorem dJ6_bitCount_0f7a4_28 : decode cJ6_bitCount_0f7a4 28 = .ok (.iadd, 1) := by decide +kernel
theorem dJ6_bitCount_0f7a4_29 : decode cJ6_bitCount_0f7a4 29 = .ok (.ldc_w 267, 3) := by decide +kernel
theorem dJ6_bitCount_0f7a4_32 : decode cJ6_bitCount_0f7a4 32 = .ok (.iand, 1) := by decide +kernel
theorem dJ6_bitCount_0f7a4_33 : decode cJ6_bitCount_0f7a4 33 = .ok (.istore_n 0, 1) := by decide +kernel
theorem dJ6_bitCount_0f7a4_34 : decode cJ6_bitCount_0f7a4 34 = .ok (.iload_n 0, 1) := by decide +kernel
theorem dJ6_bitCount_0f7a4_35 : decode cJ6_bitCount_0f7a4 35 = .ok (.iload_n 0, 1) := by decide +kernel
theorem dJ6_bitCount_0f7a4_36 : decode cJ6_bitCount_0f7a4 36 = .ok (.bipush 8, 2) := by decide +kernel
theorem dJ6_bitCount_0f7a4_38 : decode cJ6_bitCount_0f7a4 38 = .ok (.iushr, 1) := by decide +kernel
theorem dJ6_bitCount_0f7a4_39 : decode cJ6_bitCount_0f7a4 39 = .ok (.iadd, 1) := by decide +kernel
theorem dJ6_bitCount_0f7a4_40 : decode cJ6_bitCount_0f7a4 40 = .ok (.istore_n 0, 1) := by decide +kernel
theorem dJ6_bitCount_0f7a4_41 : decode cJ6_bitCount_0f7a4 41 = .ok (.iload_n 0, 1) := by decide +kernel
theorem dJ6_bitCount_0f7a4_42 : decode cJ6_bitCount_0f7a4 42 = .ok (.iload_n 0, 1) := by decide +kernel
theorem dJ6_bitCount_0f7a4_43 : decode cJ6_bitCount_0f7a4 43 = .ok (.bipush 16, 2) := by decide +kernel
theorem dJ6_bitCount_0f7a4_45 : decode cJ6_bitCount_0f7a4 45 = .ok (.iushr, 1) := by decide +kernel
theorem dJ6_bitCount_0f7a4_46 : decode cJ6_bitCount_0f7a4 46 = .ok (.iadd, 1) := by decide +kernel
theorem dJ6_bitCount_0f7a4_47 : decode cJ6_bitCount_0f7a4 47 = .ok (.istore_n 0, 1) := by decide +kernel
theorem dJ6_bitCount_0f7a4_48 : decode cJ6_bitCount_0f7a4 48 = .ok (.iload_n 0, 1) := by decide +kernel
theorem dJ6_bitCount_0f7a4_49 : decode cJ6_bitCount_0f7a4 49 = .ok (.bipush 63, 2) := by decide +kernel
theorem dJ6_bitCount_0f7a4_51 : decode cJ6_bitCount_0f7a4 51 = .ok (.iand, 1) := by decide +kernel
theorem dJ6_bitCount_0f7a4_52 : decode cJ6_bitCount_0f7a4 52 = .ok (.ireturn, 1) := by decide +kernel
theorem dJ9_abs_0f7a4_0 : decode cJ9_abs_0f7a4 0 = .ok (.iload_n 0, 1) := by decide +kernel
theorem dJ9_abs_0f7a4_1 : decode cJ9_abs_0f7a4 1 = .ok (.ifCond .ge 8, 3) := by decide +kernel
theorem dJ9_abs_0f7a4_4 : decode cJ9_abs_0f7a4 4 = .ok (.iload_n 0, 1) := by decide +kernel
theorem dJ9_abs_0f7a4_5 : decode cJ9_abs_0f7a4 5 = .ok (.ineg, 1) := by decide +kernel
theorem dJ9_abs_0f7a4_6 : decode cJ9_abs_0f7a4 6 = .ok (.goto 4, 3) := by decide +kernel
theorem dJ9_abs_0f7a4_9 : decode cJ9_abs_0f7a4 9 = .ok (.iload_n 0, 1) := by decide +kernel
theorem dJ9_abs_0f7a4_10 : decode cJ9_abs_0f7a4 10 = .ok (.ireturn, 1) := by decide +kernel
theorem dJ9_max_7cf53_0 : decode cJ9_max_7cf53 0 = .ok (.iload_n 0, 1) := by decide +kernel
theorem dJ9_max_7cf53_1 : decode cJ9_max_7cf53 1 = .ok (.iload_n 1, 1) := by decide +kernel
theorem dJ9_max_7cf53_2 : decode cJ9_max_7cf53 2 = .ok (.if_icmp .lt 7, 3) := by decide +kernel
theorem dJ9_max_7cf53_5 : decode cJ9_max_7cf53 5 = .ok (.iload_n 0, 1) := by decide +kernel
theorem dJ9_max_7cf53_6 : decode cJ9_max_7cf53 6 = .ok (.goto 4, 3) := by decide +kernel
theorem dJ9_max_7cf53_9 : decode cJ9_max_7cf53 9 = .ok (.iload_n 1, 1) := by decide +kernel
theorem dJ9_max_7cf53_10 : decode cJ9_max_7cf53 10 = .ok (.ireturn, 1) := by decide +kernel
theorem dJ9_min_7cf53_0 : decode cJ9_min_7cf53 0 = .ok (.iload_n 0, 1) := by decide +kernel
theorem dJ9_min_7cf53_1 : decode cJ9_min_7cf53 1 = .ok (.iload_n 1, 1) := by decide +kernel
theorem dJ9_min_7cf53_2 : decode cJ9_min_7cf53 2 = .ok (.if_icmp .gt 7, 3) := by decide +kernel
theorem dJ9_min_7cf53_5 : decode cJ9_min_7cf53 5 = .ok (.iload_n 0, 1) := by decide +kernel
theorem dJ9_min_7cf53_6 : decode cJ9_min_7cf53 6 = .ok (.goto 4, 3) := by decide +kernel
theorem dJ9_min_7cf53_9 : decode cJ9_min_7cf53 9 = .ok (.iload_n 1, 1) := by decide +kernel
theorem dJ9_min_7cf53_10 : decode cJ9_min_7cf53 10 = .ok (.ireturn, 1) := by decide +kernel
theorem dJ0_length_8abf5_0 : decode cJ0_length_8abf5 0 = .ok (.aload_n 0, 1) := by decide +kernel
theorem dJ0_length_8abf5_1 : decode cJ0_length_8abf5 1 = .ok (.getfield 9, 3) := by decide +kernel
theorem dJ0_length_8abf5_4 : decode cJ0_length_8abf5 4 = .ok (.arraylength, 1) := by decide +kernel
theorem dJ0_length_8abf5_5 : decode cJ0_length_8abf5 5 = .ok (.aload_n 0, 1) := by decide +kernel
theorem dJ0_length_8abf5_6 : decode cJ0_length_8abf5 6 = .ok (.invokevirtual 335, 3) := by decide +kernel
theorem dJ0_length_8abf5_9 : decode cJ0_length_8abf5 9 = .ok (.ishr, 1) := by decide +kernel
theorem dJ0_length_8abf5_10 : decode cJ0_length_8abf5 10 = .ok (.ireturn, 1) := by decide +kernel
theorem dJ0_charAt_5068e_0 : decode cJ0_charAt_5068e 0 = .ok (.aload_n 0, 1) := by decide +kernel
theorem dJ0_charAt_5068e_1 : decode cJ0_charAt_5068e 1 = .ok (.invokevirtual 492, 3) := by decide +kernel
theorem dJ0_charAt_5068e_4 : decode cJ0_charAt_5068e 4 = .ok (.ifCond .eq 12, 3) := by decide +kernel
theorem dJ0_charAt_5068e_7 : decode cJ0_charAt_5068e 7 = .ok (.aload_n 0, 1) := by decide +kernel
theorem dJ0_charAt_5068e_8 : decode cJ0_charAt_5068e 8 = .ok (.getfield 9, 3) := by decide +kernel
theorem dJ0_charAt_5068e_11 : decode cJ0_charAt_5068e 11 = .ok (.iload_n 1, 1) := by decide +kernel
theorem dJ0_charAt_5068e_12 : decode cJ0_charAt_5068e 12 = .ok (.invokestatic 495, 3) := by decide +kernel
theorem dJ0_charAt_5068e_15 : decode cJ0_charAt_5068e 15 = .ok (.ireturn, 1) := by decide +kernel
theorem dJ0_charAt_5068e_16 : decode cJ0_charAt_5068e 16 = .ok (.aload_n 0, 1) := by decide +kernel
theorem dJ0_charAt_5068e_17 : decode cJ0_charAt_5068e 17 = .ok (.getfield 9, 3) := by decide +kernel
theorem dJ0_charAt_5068e_20 : decode cJ0_charAt_5068e 20 = .ok (.iload_n 1, 1) := by decide +kernel
theorem dJ0_charAt_5068e_21 : decode cJ0_charAt_5068e 21 = .ok (.invokestatic 498, 3) := by decide +kernel
theorem dJ0_charAt_5068e_24 : decode cJ0_charAt_5068e 24 = .ok (.ireturn, 1) := by decide +kernel
theorem dJ0_coder_7d493_0 : decode cJ0_coder_7d493 0 = .ok (.getstatic 38, 3) := by decide +kernel
theorem dJ0_coder_7d493_3 : decode cJ0_coder_7d493 3 = .ok (.ifCond .eq 10, 3) := by decide +kernel
theorem dJ0_coder_7d493_6 : decode cJ0_coder_7d493 6 = .ok (.aload_n 0, 1) := by decide +kernel
theorem dJ0_coder_7d493_7 : decode cJ0_coder_7d493 7 = .ok (.getfield 15, 3) := by decide +kernel
theorem dJ0_coder_7d493_10 : decode cJ0_coder_7d493 10 = .ok (.goto 4, 3) := by decide +kernel
theorem dJ0_coder_7d493_13 : decode cJ0_coder_7d493 13 = .ok (.iconst 1, 1) := by decide +kernel
theorem dJ0_coder_7d493_14 : decode cJ0_coder_7d493 14 = .ok (.ireturn, 1) := by decide +kernel
theorem dJ0_isLatin1_aae02_0 : decode cJ0_isLatin1_aae02 0 = .ok (.getstatic 38, 3) := by decide +kernel
theorem dJ0_isLatin1_aae02_3 : decode cJ0_isLatin1_aae02 3 = .ok (.ifCond .eq 14, 3) := by decide +kernel
theorem dJ0_isLatin1_aae02_6 : decode cJ0_isLatin1_aae02 6 = .ok (.aload_n 0, 1) := by decide +kernel
theorem dJ0_isLatin1_aae02_7 : decode cJ0_isLatin1_aae02 7 = .ok (.getfield 15, 3) := by decide +kernel
theorem dJ0_isLatin1_aae02_10 : decode cJ0_isLatin1_aae02 10 = .ok (.ifCond .ne 7, 3) := by decide +kernel
theorem dJ0_isLatin1_aae02_13 : decode cJ0_isLatin1_aae02 13 = .ok (.iconst 1, 1) := by decide +kernel
theorem dJ0_isLatin1_aae02_14 : decode cJ0_isLatin1_aae02 14 = .ok (.goto 4, 3) := by decide +kernel
theorem dJ0_isLatin1_aae02_17 : decode cJ0_isLatin1_aae02 17 = .ok (.iconst 0, 1) := by decide +kernel
theorem dJ0_isLatin1_aae02_18 : decode cJ0_isLatin1_aae02 18 = .ok (.ireturn, 1) := by decide +kernel
theorem dJ0_checkIndex_df160_0 : decode cJ0_checkIndex_df160 0 = .ok (.iload_n 0, 1) := by decide +kernel
theorem dJ0_checkIndex_df160_1 : decode cJ0_checkIndex_df160 1 = .ok (.iload_n 1, 1) := by decide +kernel
theorem dJ0_checkIndex_df160_2 : decode cJ0_checkIndex_df160 2 = .ok (.getstatic 1053, 3) := by decide +kernel
theorem dJ0_checkIndex_df160_5 : decode cJ0_checkIndex_df160 5 = .ok (.invokestatic 1059, 3) := by decide +kernel
theorem dJ0_checkIndex_df160_8 : decode cJ0_checkIndex_df160 8 = .ok (.pop, 1) := by decide +kernel
theorem dJ0_checkIndex_df160_9 : decode cJ0_checkIndex_df160 9 = .ok (.return_, 1) := by decide +kernel
theorem dJ1_charAt_3b067_0 : decode cJ1_charAt_3b067 0 = .ok (.iload_n 1, 1) := by decide +kernel
theorem dJ1_charAt_3b067_1 : decode cJ1_charAt_3b067 1 = .ok (.aload_n 0, 1) := by decide +kernel
theorem dJ1_charAt_3b067_2 : decode cJ1_charAt_3b067 2 = .ok (.arraylength, 1) := by decide +kernel
theorem dJ1_charAt_3b067_3 : decode cJ1_charAt_3b067 3 = .ok (.invokestatic 9, 3) := by decide +kernel
theorem dJ1_charAt_3b067_6 : decode cJ1_charAt_3b067 6 = .ok (.aload_n 0, 1) := by decide +kernel
theorem dJ1_charAt_3b067_7 : decode cJ1_charAt_3b067 7 = .ok (.iload_n 1, 1) := by decide +kernel
theorem dJ1_charAt_3b067_8 : decode cJ1_charAt_3b067 8 = .ok (.baload, 1) := by decide +kernel
theorem dJ1_charAt_3b067_9 : decode cJ1_charAt_3b067 9 = .ok (.sipush 255, 3) := by decide +kernel
theorem dJ1_charAt_3b067_12 : decode cJ1_charAt_3b067 12 = .ok (.iand, 1) := by decide +kernel
theorem dJ1_charAt_3b067_13 : decode cJ1_charAt_3b067 13 = .ok (.i2c, 1) := by decide +kernel
theorem dJ1_charAt_3b067_14 : decode cJ1_charAt_3b067 14 = .ok (.ireturn, 1) := by decide +kernel
theorem dJ3_checkIndex_8e157_0 : decode cJ3_checkIndex_8e157 0 = .ok (.iload_n 0, 1) := by decide +kernel
theorem dJ3_checkIndex_8e157_1 : decode cJ3_checkIndex_8e157 1 = .ok (.ifCond .lt 8, 3) := by decide +kernel
theorem dJ3_checkIndex_8e157_4 : decode cJ3_checkIndex_8e157 4 = .ok (.iload_n 0, 1) := by decide +kernel
theorem dJ3_checkIndex_8e157_5 : decode cJ3_checkIndex_8e157 5 = .ok (.iload_n 1, 1) := by decide +kernel
theorem dJ3_checkIndex_8e157_6 : decode cJ3_checkIndex_8e157 6 = .ok (.if_icmp .lt 10, 3) := by decide +kernel
theorem dJ3_checkIndex_8e157_9 : decode cJ3_checkIndex_8e157 9 = .ok (.aload_n 2, 1) := by decide +kernel
theorem dJ3_checkIndex_8e157_10 : decode cJ3_checkIndex_8e157 10 = .ok (.iload_n 0, 1) := by decide +kernel
theorem dJ3_checkIndex_8e157_11 : decode cJ3_checkIndex_8e157 11 = .ok (.iload_n 1, 1) := by decide +kernel
theorem dJ3_checkIndex_8e157_12 : decode cJ3_checkIndex_8e157 12 = .ok (.invokestatic 95, 3) := by decide +kernel
theorem dJ3_checkIndex_8e157_15 : decode cJ3_checkIndex_8e157 15 = .ok (.athrow, 1) := by decide +kernel
theorem dJ3_checkIndex_8e157_16 : decode cJ3_checkIndex_8e157 16 = .ok (.iload_n 0, 1) := by decide +kernel
theorem dJ3_checkIndex_8e157_17 : decode cJ3_checkIndex_8e157 17 = .ok (.ireturn, 1) := by decide +kernel
end
section
/-! words of the tables that every method may use -/
def okWord : Cond → Bool
  | .fieldLinkNest .. => true
  | .methodLinkNest .. => true
  | w => goodWord w
def TB : List Cond := lw_tbl.filter okWord
theorem warm_ok {s U : State} {args a' : Array Value} {w : Cond} (hk : okWord w = true) (hW : s.WarmedH U.vm) (h : w.before args s = true) : w.before a' U = true := by
  cases w
  case fieldLinkNest => exact va_Nw.use rfl (va_Nw.warmF hW (va_Nw.of rfl h))
  case methodLinkNest => exact va_Nw.use rfl (va_Nw.warmM hW (va_Nw.of rfl h))
  all_goals exact word_at hW (good_of_word hk) h
theorem tb_t {w : Cond} (i : Nat) (h : tables_1[i]? = some w) (hk : okWord w = true) : w ∈ TB := List.mem_filter.mpr ⟨List.mem_append_right _ (List.mem_of_getElem? h), hk⟩
theorem tb_s {w : Cond} (i : Nat) (h : (k2_sels lw_privs)[i]? = some w) (hk : okWord w = true) : w ∈ TB := List.mem_filter.mpr ⟨List.mem_append_left _ (List.mem_of_getElem? h), hk⟩
theorem tb_warm {s U : State} {args a' : Array Value} (h : ∀ w ∈ TB, w.before args s = true) (hW : s.WarmedH U.vm) : ∀ w ∈ TB, w.before a' U = true := fun w hw => warm_ok (List.mem_filter.mp hw).2 hW (h w hw)
/-! the memory: rows of ints -/
abbrev Mem : Type := Nat → Nat → Int32
def up2 (σ : Mem) (k i : Nat) (v : Int32) : Mem := fun q => if q = k then upd (σ k) i v else σ q
def upR (σ : Mem) (k : Nat) (f : Nat → Int32) : Mem := fun q => if q = k then f else σ q
theorem up2_R (σ : Mem) (k i : Nat) (v : Int32) : up2 σ k i v = upR σ k (upd (σ k) i v) := rfl
theorem upR_s {σ : Mem} {k : Nat} {f : Nat → Int32} : upR σ k f k = f := if_pos rfl
theorem upR_n {σ : Mem} {k q : Nat} {f : Nat → Int32} (h : q ≠ k) : upR σ k f q = σ q := if_neg h
/-- a cell's shape: a row (0 ints, 1 bytes, 2 references to cells base, base + 2, ..; its length; base), or an object (its class, its fields: none an int, some q a reference to cell q) -/
abbrev Shp : Type := (Nat × Nat × Nat) ⊕ (Nat × List (Option Nat))
def fv (ad : Nat → Nat) (row : Nat → Int32) (j : Nat) (f : Option Nat) : Value := match f with
  | none => .int (row j)
  | some q => .ref (ad q)
/-- the world's parameters: tables, the classes of int, byte and Sheet rows, the addresses, the least address that is ours, what else stands on the heap, the addresses of String constants and their rows, of ABOVE -/
abbrev WE : Type := va_G × (ClassId × ClassId × ClassId) × (Nat → Nat) × Nat × va_W × (Nat → Nat) × (Nat → Nat) × Nat
abbrev wD (w : WE) : va_G := w.1
abbrev wI (w : WE) : ClassId := w.2.1.1
abbrev wB (w : WE) : ClassId := w.2.1.2.1
abbrev wO (w : WE) : ClassId := w.2.1.2.2
abbrev wad (w : WE) : Nat → Nat := w.2.2.1
abbrev wa0 (w : WE) : Nat := w.2.2.2.1
abbrev wrest (w : WE) : va_W := w.2.2.2.2.1
abbrev wK (w : WE) : Nat → Nat := w.2.2.2.2.2.1
abbrev wV (w : WE) : Nat → Nat := w.2.2.2.2.2.2.1
abbrev wT (w : WE) : Nat := w.2.2.2.2.2.2.2
def ent (w : WE) (sh : Shp) (row : Nat → Int32) : va_E := match sh with
  | .inl (0, n, _) => .inl (wI w, n, .inl row)
  | .inl (1, n, _) => .inl (wB w, n, .inl row)
  | .inl (_ + 2, n, b) => .inl (wO w, n, .inr (.inr (.inr (.inr (fun j => some (wad w (b + 2 * j)))))))
  | .inr (ci, fs) => .inr (ci, fs.mapIdx (fv (wad w) row))
def wM (w : WE) (sh : List Shp) (σ : Mem) : va_W := sh.mapIdx (fun k s => (wad w k, ent w s (σ k)))
def Wl (w : WE) (sh : List Shp) (σ : Mem) : va_W := wM w sh σ ++ wrest w
def Wd (w : WE) (sh : List Shp) (σ : Mem) (H : Heap) : Prop := va_P (wD w) vwCl (Wl w sh σ) H
abbrev AA (w : WE) : Nat → Prop := fun q => wa0 w ≤ q
abbrev tysW (w : WE) : List (ClassId × FieldType) := [(wI w, .int), (wB w, .byte), (wO w, .object "LaughTax$Sheet")]
theorem wM_len (w : WE) (sh : List Shp) (σ : Mem) : (wM w sh σ).length = sh.length := List.length_mapIdx
theorem wM_at {w : WE} {sh : List Shp} {σ : Mem} {k : Nat} {s : Shp} (h : sh[k]? = some s) : (Wl w sh σ)[k]? = some (wad w k, ent w s (σ k)) := by
  have hk : k < sh.length := (List.getElem?_eq_some_iff.mp h).1
  rw [Wl, List.getElem?_append_left (by rw [wM_len]; exact hk), wM, List.getElem?_mapIdx, h]
  rfl
theorem wM_set {w : WE} {sh : List Shp} {σ : Mem} {k : Nat} {s : Shp} (h : sh[k]? = some s) {f : Nat → Int32} {e : va_E} (he : e = ent w s f) : (Wl w sh σ).set k (wad w k, e) = Wl w sh (upR σ k f) := by
  have hk : k < sh.length := (List.getElem?_eq_some_iff.mp h).1
  rw [Wl, List.set_append_left _ _ (by rw [wM_len]; exact hk), Wl]
  congr 1
  apply List.ext_getElem?
  intro i
  rw [List.getElem?_set, wM, wM, List.getElem?_mapIdx, List.getElem?_mapIdx, List.length_mapIdx]
  by_cases hi : k = i
  · subst hi
    rw [if_pos rfl, if_pos hk, h, he, upR_s]
    rfl
  · rw [if_neg hi, upR_n (Ne.symm hi)]
theorem fv_set {ad : Nat → Nat} {row : Nat → Int32} {fs : List (Option Nat)} {j : Nat} {v : Int32} (h : fs[j]? = some none) : (fs.mapIdx (fv ad row)).set j (.int v) = fs.mapIdx (fv ad (upd row j v)) := by
  have hj : j < fs.length := (List.getElem?_eq_some_iff.mp h).1
  apply List.ext_getElem?
  intro i
  rw [List.getElem?_set, List.getElem?_mapIdx, List.getElem?_mapIdx, List.length_mapIdx]
  by_cases hi : j = i
  · subst hi
    rw [if_pos rfl, if_pos hj, h]
    show _ = some (Value.int (upd row j v j))
    rw [pk_us]
  · rw [if_neg hi]
    cases hq : fs[i]? with
    | none => rfl
    | some o => cases o with
      | none => show some (Value.int (row i)) = some (Value.int (upd row j v i)); rw [pk_un (Ne.symm hi)]
      | some q => rfl
/-! String constants and statics: what stands on the heap before us -/
/-- a method's own world, whatever the memory holds -/
def OkW (w : WE) (sh : List Shp) : Prop := va_D (AA w) (Wl w sh (fun _ _ => 0))
theorem wM_D {w : WE} {sh : List Shp} {σ τ : Mem} {A : Nat → Prop} (h : va_D A (Wl w sh σ)) : va_D A (Wl w sh τ) := by
  have key : ∀ (k : Nat) (q : Nat × va_E), (Wl w sh τ)[k]? = some q → ∃ q0, (Wl w sh σ)[k]? = some q0 ∧ q0.1 = q.1 := by
    intro k q hk
    rw [Wl, List.getElem?_append, wM_len] at hk
    rw [Wl, List.getElem?_append, wM_len]
    by_cases hl : k < sh.length
    · rw [if_pos hl, wM, List.getElem?_mapIdx] at hk
      rw [if_pos hl, wM, List.getElem?_mapIdx]
      cases hs : sh[k]? with
      | none => rw [hs] at hk; cases hk
      | some s => rw [hs] at hk; cases hk; exact ⟨_, rfl, rfl⟩
    · rw [if_neg hl] at hk
      rw [if_neg hl]
      exact ⟨q, hk, rfl⟩
  refine ⟨fun i j x y hi hj hxy => ?_, fun k q hk => ?_⟩
  · obtain ⟨x0, h1, h2⟩ := key i x hi
    obtain ⟨y0, h3, h4⟩ := key j y hj
    exact h.1 i j x0 y0 h1 h3 (h2.trans (hxy.trans h4.symm))
  · obtain ⟨q0, h1, h2⟩ := key k q hk
    rw [← h2]
    exact h.2 k q0 h1
theorem OkW.D {w : WE} {sh : List Shp} (h : OkW w sh) (σ : Mem) : va_D (AA w) (Wl w sh σ) := wM_D h
end
section
/-! what stands on the heap before us: String constants, the row ABOVE, the JDK's statics -/
def abv (j : Nat) : Int32 := ([-1, 0, 0, 2, 3, 0, 1] : List Int32).getD j 0
def strs : List (List Int32) := [[104, 101, 97, 114, 101, 114], [115, 116, 114, 97, 105, 103, 104, 116], [103, 105, 103, 103, 108, 101, 114], [97, 117, 110, 116], [102, 111, 111, 108], [99, 104, 105, 108, 100], [105, 110, 115, 112, 101, 99, 116, 111, 114], [106, 111, 107, 101], [114, 97, 116, 101], [114, 101, 97, 99, 104], [111, 110], [116, 97, 115, 116, 101], [109, 111, 111, 100], [112, 117, 114, 115, 101], [59]]
def strL (i : Nat) : Nat := (strs.getD i []).length
def strC (i k : Nat) : Int32 := (strs.getD i []).getD k 0
def strTab : List (String × Nat × String × Nat) := [("LaughTax$Tape", 132, "hearer", 0), ("LaughTax$Tape", 134, "straight", 1), ("LaughTax$Tape", 136, "giggler", 2), ("LaughTax$Tape", 138, "aunt", 3), ("LaughTax$Tape", 140, "fool", 4), ("LaughTax$Tape", 142, "child", 5), ("LaughTax$Tape", 144, "inspector", 6), ("LaughTax$Tape", 71, "on", 10), ("LaughTax$Tape", 88, "taste", 11), ("LaughTax$Tape", 92, "mood", 12), ("LaughTax$Tape", 96, "purse", 13), ("LaughTax$Tape", 47, "joke", 7), ("LaughTax$Tape", 52, "rate", 8), ("LaughTax$Tape", 57, "reach", 9), ("LaughTaxModel", 257, "hearer", 0), ("LaughTaxModel", 259, "straight", 1), ("LaughTaxModel", 261, "giggler", 2), ("LaughTaxModel", 263, "aunt", 3), ("LaughTaxModel", 265, "fool", 4), ("LaughTaxModel", 267, "child", 5), ("LaughTaxModel", 269, "inspector", 6), ("LaughTaxModel", 277, "on", 10), ("LaughTaxModel", 283, "taste", 11), ("LaughTaxModel", 285, "mood", 12), ("LaughTaxModel", 287, "purse", 13), ("LaughTaxModel", 296, "joke", 7), ("LaughTaxModel", 301, "rate", 8), ("LaughTaxModel", 303, "reach", 9), ("LaughTaxModel", 308, ";", 14)]
def ExtS (w : WE) (U : State) (H : Heap) : Prop := ∀ i : Nat, i < 15 → va_O "java/lang/String" (wK w i) (AA w) U H ∧ va_OF "java/lang/String" "coder" "B" (.int 0) (wK w i) (AA w) U H ∧ va_OF "java/lang/String" "value" "[B" (.ref (wV w i)) (wK w i) (AA w) U H ∧ va_T .byte (wV w i) (strL i) (fun j => .int (strC i j)) (AA w) U H
def Ext (w : WE) (U : State) (H : Heap) : Prop :=
  (va_Z "LaughTax$Kinds" "ABOVE" "[I" (.ref (wT w)) (AA w) U H ∧ va_T .int (wT w) 7 (fun j => .int (abv j)) (AA w) U H) ∧ ExtS w U H ∧ (∀ q ∈ strTab, vk_R q.1 q.2.1 q.2.2.1 (wK w q.2.2.2) U) ∧ va_Z "java/lang/String" "COMPACT_STRINGS" "Z" (.int 1) (AA w) U H ∧ va_Zq "jdk/internal/util/Preconditions" "SIOOBE_FORMATTER" "Ljava/util/function/BiFunction;" (AA w) U H
theorem Ext.kept {w : WE} {U : State} {H H1 : Heap} (h : Ext w U H) (hq : ∀ a : Nat, a < H.size → ¬ AA w a → H1[a]? = H[a]?) : Ext w U H1 :=
  ⟨⟨h.1.1.kept hq, h.1.2.kept hq⟩, fun i hi => ⟨(h.2.1 i hi).1.kept hq, (h.2.1 i hi).2.1.kept hq, (h.2.1 i hi).2.2.1.kept hq, (h.2.1 i hi).2.2.2.kept hq⟩, h.2.2.1, h.2.2.2.1.kept hq, h.2.2.2.2.kept hq⟩
theorem Ext.warm {w : WE} {s U : State} {H : Heap} (hW : s.WarmedH U.vm) (h : Ext w s H) : Ext w U H :=
  ⟨⟨h.1.1.moved hW.alike, h.1.2.moved hW.alike⟩, fun i hi => ⟨(h.2.1 i hi).1.moved hW.alike, (h.2.1 i hi).2.1.moved hW.alike, (h.2.1 i hi).2.2.1.moved hW.alike, (h.2.1 i hi).2.2.2.moved hW.alike⟩, fun q hq => (h.2.2.1 q hq).warm hW, h.2.2.2.1.moved hW.alike, h.2.2.2.2.moved hW.alike⟩
theorem Ext.same {w : WE} {u U : State} {H : Heap} (hv : U.vm = u.vm) (h : Ext w u H) : Ext w U H := by
  have ha : u.vm.Alike U.vm := by rw [hv]; exact Vm.Alike.refl _
  exact ⟨⟨h.1.1.moved ha, h.1.2.moved ha⟩, fun i hi => ⟨(h.2.1 i hi).1.moved ha, (h.2.1 i hi).2.1.moved ha, (h.2.1 i hi).2.2.1.moved ha, (h.2.1 i hi).2.2.2.moved ha⟩, fun q hq => (h.2.2.1 q hq).same hv, h.2.2.2.1.moved ha, h.2.2.2.2.moved ha⟩

/-! locals by place -/
def lvl : Nat → List (Option Value) → List (Nat × Value)
  | _, [] => []
  | i, none :: t => lvl (i + 1) t
  | i, some v :: t => (i, v) :: lvl (i + 1) t
theorem lvl_mem : ∀ (lv : List (Option Value)) (i j : Nat) (v : Value), (j, v) ∈ lvl i lv ↔ i ≤ j ∧ lv[j - i]? = some (some v)
  | [], i, j, v => by simp [lvl]
  | none :: t, i, j, v => by
    rw [lvl, lvl_mem t (i + 1) j v]
    constructor
    · rintro ⟨h1, h2⟩
      refine ⟨by omega, ?_⟩
      rw [show j - i = (j - (i + 1)) + 1 by omega, List.getElem?_cons_succ]
      exact h2
    · rintro ⟨h1, h2⟩
      rcases Nat.eq_or_lt_of_le h1 with e | e
      · subst e
        rw [Nat.sub_self, List.getElem?_cons_zero] at h2
        cases h2
      · refine ⟨e, ?_⟩
        rw [show j - i = (j - (i + 1)) + 1 by omega, List.getElem?_cons_succ] at h2
        exact h2
  | some u :: t, i, j, v => by
    rw [lvl, List.mem_cons, lvl_mem t (i + 1) j v]
    constructor
    · rintro (h | ⟨h1, h2⟩)
      · cases h
        exact ⟨Nat.le_refl _, by rw [Nat.sub_self, List.getElem?_cons_zero]⟩
      · refine ⟨by omega, ?_⟩
        rw [show j - i = (j - (i + 1)) + 1 by omega, List.getElem?_cons_succ]
        exact h2
    · rintro ⟨h1, h2⟩
      rcases Nat.eq_or_lt_of_le h1 with e | e
      · subst e
        rw [Nat.sub_self, List.getElem?_cons_zero] at h2
        cases h2
        exact Or.inl rfl
      · refine Or.inr ⟨e, ?_⟩
        rw [show j - i = (j - (i + 1)) + 1 by omega, List.getElem?_cons_succ] at h2
        exact h2
def lvH (ls : Array Slot) (nL : Nat) (lv : List (Option Value)) : Prop := lv_has ls nL (lvl 0 lv)
theorem lvH.at {ls : Array Slot} {nL : Nat} {lv : List (Option Value)} (h : lvH ls nL lv) {i : Nat} {v : Value} (hi : lv[i]? = some (some v)) : ls[i]? = some (.val v) := h.2.2 (i, v) ((lvl_mem lv 0 i v).mpr ⟨Nat.zero_le _, hi⟩)
def lvNo (lv : List (Option Value)) : Nat → Bool
  | 0 => true
  | j + 1 => match lv[j]? with
    | some (some (.long _)) => false
    | some (some (.double _)) => false
    | _ => true
theorem lvNo_cat {lv : List (Option Value)} {i j : Nat} {v : Value} (h : lvNo lv i = true) (hj : j + 1 = i) (hv : lv[j]? = some (some v)) : (v.category == 2) = false := by
  subst hj
  simp only [lvNo, hv] at h
  cases v <;> first | rfl | (simp at h)
theorem lvH.set1 {ls : Array Slot} {nL : Nat} {lv : List (Option Value)} {i : Nat} {x : Value} (hn : lvNo lv i = true) (h : lv_has ls nL ((i, x) :: (lvl 0 lv).filter (fun q => !(q.1 == i) && !(q.1 + 1 == i && q.2.category == 2)))) : lvH ls nL (lv.set i (some x)) := by
  refine ⟨h.1, h.2.1, fun q hq => ?_⟩
  obtain ⟨j, v⟩ := q
  have hq2 := ((lvl_mem _ 0 j v).mp hq).2
  rw [Nat.sub_zero, List.getElem?_set] at hq2
  by_cases hj : i = j
  · subst hj
    rw [if_pos rfl] at hq2
    by_cases hl : i < lv.length
    · rw [if_pos hl] at hq2
      cases hq2
      exact h.2.2 _ List.mem_cons_self
    · rw [if_neg hl] at hq2
      cases hq2
  · rw [if_neg hj] at hq2
    refine h.2.2 (j, v) (List.mem_cons_of_mem _ (List.mem_filter.mpr ⟨(lvl_mem lv 0 j v).mpr ⟨Nat.zero_le _, hq2⟩, ?_⟩))
    have h1 : (j == i) = false := by simp; omega
    by_cases hc : j + 1 = i
    · have h2 := lvNo_cat hn hc hq2
      simp [h1, h2]
    · have h3 : (j + 1 == i) = false := by simp; omega
      simp [h1, h3]
theorem lvH.set2 {ls : Array Slot} {nL : Nat} {lv : List (Option Value)} {i : Nat} {x : Value} (hn : lvNo lv i = true) (h : lv_has ls nL ((i, x) :: (lvl 0 lv).filter (fun q => !(q.1 == i) && (!(q.1 == i + 1) && !(q.1 + 1 == i && q.2.category == 2))))) : lvH ls nL ((lv.set i (some x)).set (i + 1) none) := by
  refine ⟨h.1, h.2.1, fun q hq => ?_⟩
  obtain ⟨j, v⟩ := q
  have hq2 := ((lvl_mem _ 0 j v).mp hq).2
  rw [Nat.sub_zero, List.getElem?_set] at hq2
  by_cases hj1 : i + 1 = j
  · rw [if_pos hj1] at hq2
    split at hq2 <;> cases hq2
  rw [if_neg hj1, List.getElem?_set] at hq2
  by_cases hj : i = j
  · subst hj
    rw [if_pos rfl] at hq2
    by_cases hl : i < lv.length
    · rw [if_pos hl] at hq2
      cases hq2
      exact h.2.2 _ List.mem_cons_self
    · rw [if_neg hl] at hq2
      cases hq2
  · rw [if_neg hj] at hq2
    refine h.2.2 (j, v) (List.mem_cons_of_mem _ (List.mem_filter.mpr ⟨(lvl_mem lv 0 j v).mpr ⟨Nat.zero_le _, hq2⟩, ?_⟩))
    have h1 : (j == i) = false := by simp; omega
    have h4 : (j == i + 1) = false := by simp; omega
    by_cases hc : j + 1 = i
    · have h2 := lvNo_cat hn hc hq2
      simp [h1, h2, h4]
    · have h3 : (j + 1 == i) = false := by simp; omega
      simp [h1, h3, h4]
def lvMask : List Bool → List (Option Value) → List (Option Value)
  | b :: bs, v :: vs => (if b = true then v else none) :: lvMask bs vs
  | _, _ => []
theorem lvMask_at : ∀ (bs : List Bool) (lv : List (Option Value)) (j : Nat) (v : Value), (lvMask bs lv)[j]? = some (some v) → lv[j]? = some (some v)
  | [], lv, j, v, h => by cases lv <;> simp [lvMask] at h
  | b :: bs, [], j, v, h => by simp [lvMask] at h
  | b :: bs, u :: us, 0, v, h => by
    rw [lvMask, List.getElem?_cons_zero] at h
    rw [List.getElem?_cons_zero]
    cases b
    · simp at h
    · simpa using h
  | b :: bs, u :: us, j + 1, v, h => by
    rw [lvMask, List.getElem?_cons_succ] at h
    rw [List.getElem?_cons_succ]
    exact lvMask_at bs us j v h
theorem lvH.mask {ls : Array Slot} {nL : Nat} {lv : List (Option Value)} (bs : List Bool) (h : lvH ls nL lv) : lvH ls nL (lvMask bs lv) := by
  refine ⟨h.1, h.2.1, fun q hq => ?_⟩
  obtain ⟨j, v⟩ := q
  have hq2 := ((lvl_mem _ 0 j v).mp hq).2
  exact h.at (lvMask_at bs lv j v hq2)

/-! the judgement -/
abbrev MC : Type := Program × Launch × Env × Room × State × MethodId × Array Value × List Frame × Method × Code
abbrev mp (M : MC) : Program := M.1
abbrev ml (M : MC) : Launch := M.2.1
abbrev me (M : MC) : Env := M.2.2.1
abbrev mR (M : MC) : Room := M.2.2.2.1
abbrev mS (M : MC) : State := M.2.2.2.2.1
abbrev mm (M : MC) : MethodId := M.2.2.2.2.2.1
abbrev ma (M : MC) : Array Value := M.2.2.2.2.2.2.1
abbrev mb (M : MC) : List Frame := M.2.2.2.2.2.2.2.1
abbrev mt (M : MC) : Method := M.2.2.2.2.2.2.2.2.1
abbrev mc (M : MC) : Code := M.2.2.2.2.2.2.2.2.2
abbrev WM (M : MC) (H : Heap) (locs : List Loc) (Q : State → Prop) (g : JFrame) : Prop := W (mp M) (ml M) (me M) (mR M) (mS M) (mm M) (ma M) (mb M) (mt M) (mc M) H locs 0 0 Q g
def rmD (d : Nat) : Room := { frames := d, cells := 0, slots := 0, locals := 36 * d }
def Cx (M : MC) (w : WE) (sh : List Shp) (cc : ByteArray) (nL : Nat) (own : String) (ret : Option FieldType) (d : Nat) : Prop :=
  (mp M).tables.exec = Jvm.exec ∧ (mc M).code = cc ∧ (mc M).maxLocals = nL ∧ (mS M).vm.findClass own = some (mm M).cls ∧ (∀ x ∈ TB, x.before (ma M) (mS M) = true) ∧ va_K (wD w) vwCl (tysW w) (mS M) ∧ OkW w sh ∧ wa0 w ≤ (mS M).heap.size ∧ Ext w (mS M) (mS M).heap ∧ (mt M).sig.returnType = ret ∧ (mt M).locks = false ∧ mR M = rmD d
section
variable {M : MC} {w : WE} {sh : List Shp} {cc : ByteArray} {nL : Nat} {own : String} {ret : Option FieldType} {d : Nat}
theorem Cx.x (X : Cx M w sh cc nL own ret d) : (mp M).tables.exec = Jvm.exec := X.1
theorem Cx.b (X : Cx M w sh cc nL own ret d) : (mc M).code = cc := X.2.1
theorem Cx.ml (X : Cx M w sh cc nL own ret d) : (mc M).maxLocals = nL := X.2.2.1
theorem Cx.o (X : Cx M w sh cc nL own ret d) : (mS M).vm.findClass own = some (mm M).cls := X.2.2.2.1
theorem Cx.t (X : Cx M w sh cc nL own ret d) : ∀ x ∈ TB, x.before (ma M) (mS M) = true := X.2.2.2.2.1
theorem Cx.k (X : Cx M w sh cc nL own ret d) : va_K (wD w) vwCl (tysW w) (mS M) := X.2.2.2.2.2.1
theorem Cx.ok (X : Cx M w sh cc nL own ret d) : OkW w sh := X.2.2.2.2.2.2.1
theorem Cx.a0 (X : Cx M w sh cc nL own ret d) : wa0 w ≤ (mS M).heap.size := X.2.2.2.2.2.2.2.1
theorem Cx.e (X : Cx M w sh cc nL own ret d) : Ext w (mS M) (mS M).heap := X.2.2.2.2.2.2.2.2.1
theorem Cx.r (X : Cx M w sh cc nL own ret d) : (mt M).sig.returnType = ret := X.2.2.2.2.2.2.2.2.2.1
theorem Cx.lk (X : Cx M w sh cc nL own ret d) : (mt M).locks = false := X.2.2.2.2.2.2.2.2.2.2.1
theorem Cx.R (X : Cx M w sh cc nL own ret d) : mR M = rmD d := X.2.2.2.2.2.2.2.2.2.2.2
end
/-- a method's end: the answer and the memory -/
def QcM (w : WE) (sh : List Shp) (z : Option Value × Mem) : Array Value → State → Outcome → State → Prop := fun _ st oc t => oc = .returned z.1 ∧ Wd w sh z.2 t.heap ∧ va_F (AA w) st t
def St (M : MC) (w : WE) (sh : List Shp) (nL : Nat) (z : Option Value × Mem) (pc : Nat) (lv : List (Option Value)) (st : List Value) (σ : Mem) : Prop :=
  ∀ (ls : Array Slot) (H : Heap) (locs : List Loc), lvH ls nL lv → Wd w sh σ H → va_S (AA w) (mS M).heap H locs → WM M H locs (MQ (mb M) (QcM w sh z) (ma M) (mS M) 0 0 (AA w)) (F0 (mm M) pc ls st)
/-- from this place on the program computes b -/
def Cp (M : MC) (w : WE) (sh : List Shp) (nL : Nat) {α : Type} (ι : α → Option Value × Mem) (pc : Nat) (lv : List (Option Value)) (st : List Value) (σ : Mem) (b : Option α) : Prop := ∀ a, b = some a → St M w sh nL (ι a) pc lv st σ
def gd {α : Type} (c : Prop) [Decidable c] (b : Option α) : Option α := if c then b else none
def pb {α β : Type} (e : α) (f : α → β) : β := f e
def b2i (b : Bool) : Int32 := if b = true then 1 else 0
theorem gd_t {α : Type} {c : Prop} [Decidable c] {b : Option α} (h : c) : gd c b = b := if_pos h
section
variable {M : MC} {w : WE} {sh : List Shp} {cc : ByteArray} {nL : Nat} {own : String} {ret : Option FieldType} {d : Nat} {α : Type} {ι : α → Option Value × Mem} {pc : Nat} {lv : List (Option Value)} {st : List Value} {σ : Mem} {b b1 b2 : Option α}
theorem Cp.non : Cp M w sh nL ι pc lv st σ (none : Option α) := fun a h => by cases h
theorem Cp.grd {c : Prop} [Decidable c] (k : c → Cp M w sh nL ι pc lv st σ b) : Cp M w sh nL ι pc lv st σ (gd c b) := by
  unfold gd
  split
  · rename_i h; exact k h
  · exact Cp.non
theorem Cp.mask (bs : List Bool) (k : Cp M w sh nL ι pc (lvMask bs lv) st σ b) : Cp M w sh nL ι pc lv st σ b := fun a ha ls H locs hl hP hS => k a ha ls H locs (hl.mask bs) hP hS
theorem Cp.nameM {e : Mem} {f : Mem → Option α} (k : ∀ x, Cp M w sh nL ι pc lv st x (f x)) : Cp M w sh nL ι pc lv st e (pb e f) := k e
theorem Cp.eqB (h : b1 = b2) (k : Cp M w sh nL ι pc lv st σ b2) : Cp M w sh nL ι pc lv st σ b1 := h ▸ k

theorem Cp.iconst (X : Cx M w sh cc nL own ret d) {n : Int} {v : Int32} (hd : decode cc pc = .ok (.iconst n, 1)) (hv : Int32.ofInt n = v) (k : Cp M w sh nL ι (pc + 1) lv (.int v :: st) σ b) : Cp M w sh nL ι pc lv (st) σ b := fun a ha ls H locs hl hP hS => lv_iconst X.x X.b hd hv (k a ha ls H locs hl hP hS)
theorem Cp.bipush (X : Cx M w sh cc nL own ret d) {n : Int} {v : Int32} (hd : decode cc pc = .ok (.bipush n, 2)) (hv : (Int8.ofInt n).toInt32 = v) (k : Cp M w sh nL ι (pc + 2) lv (.int v :: st) σ b) : Cp M w sh nL ι pc lv (st) σ b := fun a ha ls H locs hl hP hS => lv_bipush X.x X.b hd hv (k a ha ls H locs hl hP hS)
theorem Cp.sipush (X : Cx M w sh cc nL own ret d) {n : Int} {v : Int32} (hd : decode cc pc = .ok (.sipush n, 3)) (hv : (Int16.ofInt n).toInt32 = v) (k : Cp M w sh nL ι (pc + 3) lv (.int v :: st) σ b) : Cp M w sh nL ι pc lv (st) σ b := fun a ha ls H locs hl hP hS => lv_sipush X.x X.b hd hv (k a ha ls H locs hl hP hS)
theorem Cp.lconst (X : Cx M w sh cc nL own ret d) {n : Fin 2} {v : Int64} (hd : decode cc pc = .ok (.lconst n, 1)) (hv : Int64.ofNat (n : Nat) = v) (k : Cp M w sh nL ι (pc + 1) lv (.long v :: st) σ b) : Cp M w sh nL ι pc lv (st) σ b := fun a ha ls H locs hl hP hS => lv_lconst X.x X.b hd hv (k a ha ls H locs hl hP hS)
theorem Cp.ldc (X : Cx M w sh cc nL own ret d) {index : Nat} {v : Int32} (hc : Cond.constant own index v ∈ TB) (hd : decode cc pc = .ok (.ldc index, 2)) (k : Cp M w sh nL ι (pc + 2) lv (.int v :: st) σ b) : Cp M w sh nL ι pc lv (st) σ b := fun a ha ls H locs hl hP hS => lv_ldc X.x X.b X.o (X.t _ hc) hd (k a ha ls H locs hl hP hS)
theorem Cp.ldcw (X : Cx M w sh cc nL own ret d) {index : Nat} {v : Int32} (hc : Cond.constant own index v ∈ TB) (hd : decode cc pc = .ok (.ldc_w index, 3)) (k : Cp M w sh nL ι (pc + 3) lv (.int v :: st) σ b) : Cp M w sh nL ι pc lv (st) σ b := fun a ha ls H locs hl hP hS => lv_ldcw X.x X.b X.o (X.t _ hc) hd (k a ha ls H locs hl hP hS)
theorem Cp.ldc2 (X : Cx M w sh cc nL own ret d) {index : Nat} {v : Int64} (hc : Cond.constantLong own index v ∈ TB) (hd : decode cc pc = .ok (.ldc2_w index, 3)) (k : Cp M w sh nL ι (pc + 3) lv (.long v :: st) σ b) : Cp M w sh nL ι pc lv (st) σ b := fun a ha ls H locs hl hP hS => lv_ldc2 X.x X.b X.o (X.t _ hc) hd (k a ha ls H locs hl hP hS)
theorem Cp.iload_n (X : Cx M w sh cc nL own ret d) {n : Fin 4} {i : Nat} {x : Int32} (hd : decode cc pc = .ok (.iload_n n, 1)) (hi : (n : Nat) = i) (hv : lv[i]? = some (some (.int x))) (k : Cp M w sh nL ι (pc + 1) lv (.int x :: st) σ b) : Cp M w sh nL ι pc lv (st) σ b := fun a ha ls H locs hl hP hS => lv_iload_n X.x X.b hd hi (hl.at hv) (k a ha ls H locs hl hP hS)
theorem Cp.iload (X : Cx M w sh cc nL own ret d) {i : Nat} {x : Int32} (hd : decode cc pc = .ok (.iload i, 2)) (hv : lv[i]? = some (some (.int x))) (k : Cp M w sh nL ι (pc + 2) lv (.int x :: st) σ b) : Cp M w sh nL ι pc lv (st) σ b := fun a ha ls H locs hl hP hS => lv_iload X.x X.b hd (hl.at hv) (k a ha ls H locs hl hP hS)
theorem Cp.lload_n (X : Cx M w sh cc nL own ret d) {n : Fin 4} {i : Nat} {x : Int64} (hd : decode cc pc = .ok (.lload_n n, 1)) (hi : (n : Nat) = i) (hv : lv[i]? = some (some (.long x))) (k : Cp M w sh nL ι (pc + 1) lv (.long x :: st) σ b) : Cp M w sh nL ι pc lv (st) σ b := fun a ha ls H locs hl hP hS => lv_lload_n X.x X.b hd hi (hl.at hv) (k a ha ls H locs hl hP hS)
theorem Cp.lload (X : Cx M w sh cc nL own ret d) {i : Nat} {x : Int64} (hd : decode cc pc = .ok (.lload i, 2)) (hv : lv[i]? = some (some (.long x))) (k : Cp M w sh nL ι (pc + 2) lv (.long x :: st) σ b) : Cp M w sh nL ι pc lv (st) σ b := fun a ha ls H locs hl hP hS => lv_lload X.x X.b hd (hl.at hv) (k a ha ls H locs hl hP hS)
theorem Cp.aload_n (X : Cx M w sh cc nL own ret d) {n : Fin 4} {i : Nat} {x : Nat} (hd : decode cc pc = .ok (.aload_n n, 1)) (hi : (n : Nat) = i) (hv : lv[i]? = some (some (.ref x))) (k : Cp M w sh nL ι (pc + 1) lv (.ref x :: st) σ b) : Cp M w sh nL ι pc lv (st) σ b := fun a ha ls H locs hl hP hS => lv_aload_n X.x X.b hd hi (hl.at hv) (k a ha ls H locs hl hP hS)
theorem Cp.aload (X : Cx M w sh cc nL own ret d) {i : Nat} {x : Nat} (hd : decode cc pc = .ok (.aload i, 2)) (hv : lv[i]? = some (some (.ref x))) (k : Cp M w sh nL ι (pc + 2) lv (.ref x :: st) σ b) : Cp M w sh nL ι pc lv (st) σ b := fun a ha ls H locs hl hP hS => lv_aload X.x X.b hd (hl.at hv) (k a ha ls H locs hl hP hS)
theorem Cp.istore_n (X : Cx M w sh cc nL own ret d) {n : Fin 4} {i : Nat} {x : Int32} (hd : decode cc pc = .ok (.istore_n n, 1)) (hi : (n : Nat) = i) (hn : i < nL) (hno : lvNo lv i = true) (k : Cp M w sh nL ι (pc + 1) (lv.set i (some (.int x))) st σ b) : Cp M w sh nL ι pc lv (.int x :: st) σ b := fun a ha ls H locs hl hP hS => lv_istore_n X.x X.b hd hi hl hn rfl (fun ls' h => k a ha ls' H locs (lvH.set1 hno h) hP hS)
theorem Cp.istore (X : Cx M w sh cc nL own ret d) {i : Nat} {x : Int32} (hd : decode cc pc = .ok (.istore i, 2)) (hn : i < nL) (hno : lvNo lv i = true) (k : Cp M w sh nL ι (pc + 2) (lv.set i (some (.int x))) st σ b) : Cp M w sh nL ι pc lv (.int x :: st) σ b := fun a ha ls H locs hl hP hS => lv_istore X.x X.b hd hl hn rfl (fun ls' h => k a ha ls' H locs (lvH.set1 hno h) hP hS)
theorem Cp.astore_n (X : Cx M w sh cc nL own ret d) {n : Fin 4} {i : Nat} {x : Nat} (hd : decode cc pc = .ok (.astore_n n, 1)) (hi : (n : Nat) = i) (hn : i < nL) (hno : lvNo lv i = true) (k : Cp M w sh nL ι (pc + 1) (lv.set i (some (.ref x))) st σ b) : Cp M w sh nL ι pc lv (.ref x :: st) σ b := fun a ha ls H locs hl hP hS => lv_astore_n X.x X.b hd hi hl hn rfl (fun ls' h => k a ha ls' H locs (lvH.set1 hno h) hP hS)
theorem Cp.astore (X : Cx M w sh cc nL own ret d) {i : Nat} {x : Nat} (hd : decode cc pc = .ok (.astore i, 2)) (hn : i < nL) (hno : lvNo lv i = true) (k : Cp M w sh nL ι (pc + 2) (lv.set i (some (.ref x))) st σ b) : Cp M w sh nL ι pc lv (.ref x :: st) σ b := fun a ha ls H locs hl hP hS => lv_astore X.x X.b hd hl hn rfl (fun ls' h => k a ha ls' H locs (lvH.set1 hno h) hP hS)
theorem Cp.lstore_n (X : Cx M w sh cc nL own ret d) {n : Fin 4} {i : Nat} {x : Int64} (hd : decode cc pc = .ok (.lstore_n n, 1)) (hi : (n : Nat) = i) (hn : i + 1 < nL) (hno : lvNo lv i = true) (k : Cp M w sh nL ι (pc + 1) ((lv.set i (some (.long x))).set (i + 1) none) st σ b) : Cp M w sh nL ι pc lv (.long x :: st) σ b := fun a ha ls H locs hl hP hS => lv_lstore_n X.x X.b hd hi hl hn rfl (fun ls' h => k a ha ls' H locs (lvH.set2 hno h) hP hS)
theorem Cp.lstore (X : Cx M w sh cc nL own ret d) {i : Nat} {x : Int64} (hd : decode cc pc = .ok (.lstore i, 2)) (hn : i + 1 < nL) (hno : lvNo lv i = true) (k : Cp M w sh nL ι (pc + 2) ((lv.set i (some (.long x))).set (i + 1) none) st σ b) : Cp M w sh nL ι pc lv (.long x :: st) σ b := fun a ha ls H locs hl hP hS => lv_lstore X.x X.b hd hl hn rfl (fun ls' h => k a ha ls' H locs (lvH.set2 hno h) hP hS)
theorem lvl_pos {lv : List (Option Value)} {i : Nat} {v : Value} (h : lv[i]? = some (some v)) : ∃ k : Nat, (lvl 0 lv)[k]? = some (i, v) := List.getElem?_of_mem ((lvl_mem lv 0 i v).mpr ⟨Nat.zero_le _, h⟩)
theorem Cp.iinc (X : Cx M w sh cc nL own ret d) {i : Nat} {n : Int} {x v : Int32} (hd : decode cc pc = .ok (.iinc i n, 3)) (hx : lv[i]? = some (some (.int x))) (hv : x + Int32.ofInt n = v) (hn : i < nL) (hno : lvNo lv i = true) (k : Cp M w sh nL ι (pc + 3) (lv.set i (some (.int v))) st σ b) : Cp M w sh nL ι pc lv st σ b := fun a ha ls H locs hl hP hS => by
  obtain ⟨kk, hk⟩ := lvl_pos hx
  exact lv_iinc X.x X.b hd hl hk hv hn rfl (fun ls' h => k a ha ls' H locs (lvH.set1 hno h) hP hS)
theorem Cp.iadd (X : Cx M w sh cc nL own ret d) {x y : Int32} (hd : decode cc pc = .ok (.iadd, 1)) (k : Cp M w sh nL ι (pc + 1) lv (.int (x + y) :: st) σ b) : Cp M w sh nL ι pc lv (.int y :: .int x :: st) σ b := fun a ha ls H locs hl hP hS => lv_iadd X.x X.b hd (k a ha ls H locs hl hP hS)
theorem Cp.isub (X : Cx M w sh cc nL own ret d) {x y : Int32} (hd : decode cc pc = .ok (.isub, 1)) (k : Cp M w sh nL ι (pc + 1) lv (.int (x - y) :: st) σ b) : Cp M w sh nL ι pc lv (.int y :: .int x :: st) σ b := fun a ha ls H locs hl hP hS => lv_isub X.x X.b hd (k a ha ls H locs hl hP hS)
theorem Cp.imul (X : Cx M w sh cc nL own ret d) {x y : Int32} (hd : decode cc pc = .ok (.imul, 1)) (k : Cp M w sh nL ι (pc + 1) lv (.int (x * y) :: st) σ b) : Cp M w sh nL ι pc lv (.int y :: .int x :: st) σ b := fun a ha ls H locs hl hP hS => lv_imul X.x X.b hd (k a ha ls H locs hl hP hS)
theorem Cp.iand (X : Cx M w sh cc nL own ret d) {x y : Int32} (hd : decode cc pc = .ok (.iand, 1)) (k : Cp M w sh nL ι (pc + 1) lv (.int (x &&& y) :: st) σ b) : Cp M w sh nL ι pc lv (.int y :: .int x :: st) σ b := fun a ha ls H locs hl hP hS => lv_iand X.x X.b hd (k a ha ls H locs hl hP hS)
theorem Cp.ior (X : Cx M w sh cc nL own ret d) {x y : Int32} (hd : decode cc pc = .ok (.ior, 1)) (k : Cp M w sh nL ι (pc + 1) lv (.int (x ||| y) :: st) σ b) : Cp M w sh nL ι pc lv (.int y :: .int x :: st) σ b := fun a ha ls H locs hl hP hS => lv_ior X.x X.b hd (k a ha ls H locs hl hP hS)
theorem Cp.ixor (X : Cx M w sh cc nL own ret d) {x y : Int32} (hd : decode cc pc = .ok (.ixor, 1)) (k : Cp M w sh nL ι (pc + 1) lv (.int (x ^^^ y) :: st) σ b) : Cp M w sh nL ι pc lv (.int y :: .int x :: st) σ b := fun a ha ls H locs hl hP hS => lv_ixor X.x X.b hd (k a ha ls H locs hl hP hS)
theorem Cp.ishl (X : Cx M w sh cc nL own ret d) {x y : Int32} (hd : decode cc pc = .ok (.ishl, 1)) (k : Cp M w sh nL ι (pc + 1) lv (.int (x <<< (y &&& 31)) :: st) σ b) : Cp M w sh nL ι pc lv (.int y :: .int x :: st) σ b := fun a ha ls H locs hl hP hS => lv_ishl X.x X.b hd (k a ha ls H locs hl hP hS)
theorem Cp.ishr (X : Cx M w sh cc nL own ret d) {x y : Int32} (hd : decode cc pc = .ok (.ishr, 1)) (k : Cp M w sh nL ι (pc + 1) lv (.int (x >>> (y &&& 31)) :: st) σ b) : Cp M w sh nL ι pc lv (.int y :: .int x :: st) σ b := fun a ha ls H locs hl hP hS => lv_ishr X.x X.b hd (k a ha ls H locs hl hP hS)
theorem Cp.iushr (X : Cx M w sh cc nL own ret d) {x y : Int32} (hd : decode cc pc = .ok (.iushr, 1)) (k : Cp M w sh nL ι (pc + 1) lv (.int ((x.toUInt32 >>> (y.toUInt32 &&& Int32.toUInt32 31)).toInt32) :: st) σ b) : Cp M w sh nL ι pc lv (.int y :: .int x :: st) σ b := fun a ha ls H locs hl hP hS => lv_iushr X.x X.b hd rfl (k a ha ls H locs hl hP hS)
theorem Cp.idiv (X : Cx M w sh cc nL own ret d) {x y : Int32} (hd : decode cc pc = .ok (.idiv, 1)) (hy : ¬ y = 0) (k : Cp M w sh nL ι (pc + 1) lv (.int (x / y) :: st) σ b) : Cp M w sh nL ι pc lv (.int y :: .int x :: st) σ b := fun a ha ls H locs hl hP hS => lv_idiv X.x X.b hd hy (k a ha ls H locs hl hP hS)
theorem Cp.irem (X : Cx M w sh cc nL own ret d) {x y : Int32} (hd : decode cc pc = .ok (.irem, 1)) (hy : ¬ y = 0) (k : Cp M w sh nL ι (pc + 1) lv (.int (x - x / y * y) :: st) σ b) : Cp M w sh nL ι pc lv (.int y :: .int x :: st) σ b := fun a ha ls H locs hl hP hS => lv_irem X.x X.b hd hy (k a ha ls H locs hl hP hS)
theorem Cp.ineg (X : Cx M w sh cc nL own ret d) {x : Int32} (hd : decode cc pc = .ok (.ineg, 1)) (k : Cp M w sh nL ι (pc + 1) lv (.int (-x) :: st) σ b) : Cp M w sh nL ι pc lv (.int x :: st) σ b := fun a ha ls H locs hl hP hS => lv_ineg X.x X.b hd (k a ha ls H locs hl hP hS)
theorem Cp.ladd (X : Cx M w sh cc nL own ret d) {x y : Int64} (hd : decode cc pc = .ok (.ladd, 1)) (k : Cp M w sh nL ι (pc + 1) lv (.long (x + y) :: st) σ b) : Cp M w sh nL ι pc lv (.long y :: .long x :: st) σ b := fun a ha ls H locs hl hP hS => lv_ladd X.x X.b hd (k a ha ls H locs hl hP hS)
theorem Cp.lmul (X : Cx M w sh cc nL own ret d) {x y : Int64} (hd : decode cc pc = .ok (.lmul, 1)) (k : Cp M w sh nL ι (pc + 1) lv (.long (x * y) :: st) σ b) : Cp M w sh nL ι pc lv (.long y :: .long x :: st) σ b := fun a ha ls H locs hl hP hS => lv_lmul X.x X.b hd (k a ha ls H locs hl hP hS)
theorem Cp.ldiv (X : Cx M w sh cc nL own ret d) {x y : Int64} (hd : decode cc pc = .ok (.ldiv, 1)) (hy : ¬ y = 0) (k : Cp M w sh nL ι (pc + 1) lv (.long (x / y) :: st) σ b) : Cp M w sh nL ι pc lv (.long y :: .long x :: st) σ b := fun a ha ls H locs hl hP hS => lv_ldiv X.x X.b hd hy (k a ha ls H locs hl hP hS)
theorem Cp.lrem (X : Cx M w sh cc nL own ret d) {x y : Int64} (hd : decode cc pc = .ok (.lrem, 1)) (hy : ¬ y = 0) (k : Cp M w sh nL ι (pc + 1) lv (.long (x - x / y * y) :: st) σ b) : Cp M w sh nL ι pc lv (.long y :: .long x :: st) σ b := fun a ha ls H locs hl hP hS => lv_lrem X.x X.b hd hy (k a ha ls H locs hl hP hS)
theorem Cp.lcmp (X : Cx M w sh cc nL own ret d) {x y : Int64} (hd : decode cc pc = .ok (.lcmp, 1)) (k : Cp M w sh nL ι (pc + 1) lv (.int (lg_cmp x y) :: st) σ b) : Cp M w sh nL ι pc lv (.long y :: .long x :: st) σ b := fun a ha ls H locs hl hP hS => W.lcmp X.x X.b hd (k a ha ls H locs hl hP hS)
theorem Cp.i2l (X : Cx M w sh cc nL own ret d) {x : Int32} (hd : decode cc pc = .ok (.i2l, 1)) (k : Cp M w sh nL ι (pc + 1) lv (.long x.toInt64 :: st) σ b) : Cp M w sh nL ι pc lv (.int x :: st) σ b := fun a ha ls H locs hl hP hS => lv_i2l X.x X.b hd rfl (k a ha ls H locs hl hP hS)
theorem Cp.i2b (X : Cx M w sh cc nL own ret d) {x : Int32} (hd : decode cc pc = .ok (.i2b, 1)) (k : Cp M w sh nL ι (pc + 1) lv (.int x.toInt8.toInt32 :: st) σ b) : Cp M w sh nL ι pc lv (.int x :: st) σ b := fun a ha ls H locs hl hP hS => lv_i2b X.x X.b hd rfl (k a ha ls H locs hl hP hS)
theorem Cp.i2s (X : Cx M w sh cc nL own ret d) {x : Int32} (hd : decode cc pc = .ok (.i2s, 1)) (k : Cp M w sh nL ι (pc + 1) lv (.int x.toInt16.toInt32 :: st) σ b) : Cp M w sh nL ι pc lv (.int x :: st) σ b := fun a ha ls H locs hl hP hS => lv_i2s X.x X.b hd rfl (k a ha ls H locs hl hP hS)
theorem Cp.dup (X : Cx M w sh cc nL own ret d) {v : Value} (hd : decode cc pc = .ok (.dup, 1)) (h1 : v.category = 1) (k : Cp M w sh nL ι (pc + 1) lv (v :: v :: st) σ b) : Cp M w sh nL ι pc lv (v :: st) σ b := fun a ha ls H locs hl hP hS => lv_dup X.x X.b hd h1 (k a ha ls H locs hl hP hS)
theorem Cp.pop (X : Cx M w sh cc nL own ret d) {v : Value} (hd : decode cc pc = .ok (.pop, 1)) (h1 : v.category = 1) (k : Cp M w sh nL ι (pc + 1) lv (st) σ b) : Cp M w sh nL ι pc lv (v :: st) σ b := fun a ha ls H locs hl hP hS => lv_pop X.x X.b hd h1 (k a ha ls H locs hl hP hS)
theorem Cp.dup2 (X : Cx M w sh cc nL own ret d) {v u : Value} (hd : decode cc pc = .ok (.dup2, 1)) (h1 : v.category = 1) (h2 : u.category = 1) (k : Cp M w sh nL ι (pc + 1) lv (v :: u :: v :: u :: st) σ b) : Cp M w sh nL ι pc lv (v :: u :: st) σ b := fun a ha ls H locs hl hP hS => lv_dup2_11 X.x X.b hd h1 h2 (k a ha ls H locs hl hP hS)
theorem Cp.dup_x1 (X : Cx M w sh cc nL own ret d) {v u : Value} (hd : decode cc pc = .ok (.dup_x1, 1)) (h1 : v.category = 1) (h2 : u.category = 1) (k : Cp M w sh nL ι (pc + 1) lv (v :: u :: v :: st) σ b) : Cp M w sh nL ι pc lv (v :: u :: st) σ b := fun a ha ls H locs hl hP hS => lv_dup_x1 X.x X.b hd h1 h2 (k a ha ls H locs hl hP hS)
theorem Cp.goto (X : Cx M w sh cc nL own ret d) {off : Int} (tgt : Nat) (hd : decode cc pc = .ok (.goto off, 3)) (ht : (pc : Int) + off = (tgt : Int)) (k : Cp M w sh nL ι tgt lv st σ b) : Cp M w sh nL ι pc lv st σ b := fun a ha ls H locs hl hP hS => lv_goto X.x X.b hd ht (k a ha ls H locs hl hP hS)
theorem Cp.if_eq (X : Cx M w sh cc nL own ret d) {x : Int32} {off : Int} (tgt : Nat) (hd : decode cc pc = .ok (.ifCond .eq off, 3)) (ht : (pc : Int) + off = (tgt : Int)) (kt : (x = 0) → Cp M w sh nL ι tgt lv st σ b1) (kf : ¬ (x = 0) → Cp M w sh nL ι (pc + 3) lv st σ b2) : Cp M w sh nL ι pc lv (.int x :: st) σ (if x = 0 then b1 else b2) := fun a ha ls H locs hl hP hS => lv_if_eq X.x X.b hd ht (fun h => kt h a ((if_pos h).symm.trans ha) ls H locs hl hP hS) (fun h => kf h a ((if_neg h).symm.trans ha) ls H locs hl hP hS)
theorem Cp.if_eqT (X : Cx M w sh cc nL own ret d) {x : Int32} {off : Int} {v1 v2 : α} (tgt : Nat) (hd : decode cc pc = .ok (.ifCond .eq off, 3)) (ht : (pc : Int) + off = (tgt : Int)) (kt : (x = 0) → Cp M w sh nL ι tgt lv st σ (some v1)) (kf : ¬ (x = 0) → Cp M w sh nL ι (pc + 3) lv st σ (some v2)) : Cp M w sh nL ι pc lv (.int x :: st) σ (some (if x = 0 then v1 else v2)) := by
  rw [show (some (if x = 0 then v1 else v2) : Option α) = if x = 0 then some v1 else some v2 by split <;> rfl]
  exact Cp.if_eq X tgt hd ht kt kf
theorem Cp.icmp_eq (X : Cx M w sh cc nL own ret d) {x y : Int32} {off : Int} (tgt : Nat) (hd : decode cc pc = .ok (.if_icmp .eq off, 3)) (ht : (pc : Int) + off = (tgt : Int)) (kt : (x = y) → Cp M w sh nL ι tgt lv st σ b1) (kf : ¬ (x = y) → Cp M w sh nL ι (pc + 3) lv st σ b2) : Cp M w sh nL ι pc lv (.int y :: .int x :: st) σ (if x = y then b1 else b2) := fun a ha ls H locs hl hP hS => lv_icmp_eq X.x X.b hd ht (fun h => kt h a ((if_pos h).symm.trans ha) ls H locs hl hP hS) (fun h => kf h a ((if_neg h).symm.trans ha) ls H locs hl hP hS)
theorem Cp.icmp_eqT (X : Cx M w sh cc nL own ret d) {x y : Int32} {off : Int} {v1 v2 : α} (tgt : Nat) (hd : decode cc pc = .ok (.if_icmp .eq off, 3)) (ht : (pc : Int) + off = (tgt : Int)) (kt : (x = y) → Cp M w sh nL ι tgt lv st σ (some v1)) (kf : ¬ (x = y) → Cp M w sh nL ι (pc + 3) lv st σ (some v2)) : Cp M w sh nL ι pc lv (.int y :: .int x :: st) σ (some (if x = y then v1 else v2)) := by
  rw [show (some (if x = y then v1 else v2) : Option α) = if x = y then some v1 else some v2 by split <;> rfl]
  exact Cp.icmp_eq X tgt hd ht kt kf
theorem Cp.if_lt (X : Cx M w sh cc nL own ret d) {x : Int32} {off : Int} (tgt : Nat) (hd : decode cc pc = .ok (.ifCond .lt off, 3)) (ht : (pc : Int) + off = (tgt : Int)) (kt : (x < 0) → Cp M w sh nL ι tgt lv st σ b1) (kf : ¬ (x < 0) → Cp M w sh nL ι (pc + 3) lv st σ b2) : Cp M w sh nL ι pc lv (.int x :: st) σ (if x < 0 then b1 else b2) := fun a ha ls H locs hl hP hS => lv_if_lt X.x X.b hd ht (fun h => kt h a ((if_pos h).symm.trans ha) ls H locs hl hP hS) (fun h => kf h a ((if_neg h).symm.trans ha) ls H locs hl hP hS)
theorem Cp.if_ltT (X : Cx M w sh cc nL own ret d) {x : Int32} {off : Int} {v1 v2 : α} (tgt : Nat) (hd : decode cc pc = .ok (.ifCond .lt off, 3)) (ht : (pc : Int) + off = (tgt : Int)) (kt : (x < 0) → Cp M w sh nL ι tgt lv st σ (some v1)) (kf : ¬ (x < 0) → Cp M w sh nL ι (pc + 3) lv st σ (some v2)) : Cp M w sh nL ι pc lv (.int x :: st) σ (some (if x < 0 then v1 else v2)) := by
  rw [show (some (if x < 0 then v1 else v2) : Option α) = if x < 0 then some v1 else some v2 by split <;> rfl]
  exact Cp.if_lt X tgt hd ht kt kf
theorem Cp.icmp_lt (X : Cx M w sh cc nL own ret d) {x y : Int32} {off : Int} (tgt : Nat) (hd : decode cc pc = .ok (.if_icmp .lt off, 3)) (ht : (pc : Int) + off = (tgt : Int)) (kt : (x < y) → Cp M w sh nL ι tgt lv st σ b1) (kf : ¬ (x < y) → Cp M w sh nL ι (pc + 3) lv st σ b2) : Cp M w sh nL ι pc lv (.int y :: .int x :: st) σ (if x < y then b1 else b2) := fun a ha ls H locs hl hP hS => lv_icmp_lt X.x X.b hd ht (fun h => kt h a ((if_pos h).symm.trans ha) ls H locs hl hP hS) (fun h => kf h a ((if_neg h).symm.trans ha) ls H locs hl hP hS)
theorem Cp.icmp_ltT (X : Cx M w sh cc nL own ret d) {x y : Int32} {off : Int} {v1 v2 : α} (tgt : Nat) (hd : decode cc pc = .ok (.if_icmp .lt off, 3)) (ht : (pc : Int) + off = (tgt : Int)) (kt : (x < y) → Cp M w sh nL ι tgt lv st σ (some v1)) (kf : ¬ (x < y) → Cp M w sh nL ι (pc + 3) lv st σ (some v2)) : Cp M w sh nL ι pc lv (.int y :: .int x :: st) σ (some (if x < y then v1 else v2)) := by
  rw [show (some (if x < y then v1 else v2) : Option α) = if x < y then some v1 else some v2 by split <;> rfl]
  exact Cp.icmp_lt X tgt hd ht kt kf
theorem Cp.if_ge (X : Cx M w sh cc nL own ret d) {x : Int32} {off : Int} (tgt : Nat) (hd : decode cc pc = .ok (.ifCond .ge off, 3)) (ht : (pc : Int) + off = (tgt : Int)) (kt : (0 ≤ x) → Cp M w sh nL ι tgt lv st σ b1) (kf : ¬ (0 ≤ x) → Cp M w sh nL ι (pc + 3) lv st σ b2) : Cp M w sh nL ι pc lv (.int x :: st) σ (if 0 ≤ x then b1 else b2) := fun a ha ls H locs hl hP hS => lv_if_ge X.x X.b hd ht (fun h => kt h a ((if_pos h).symm.trans ha) ls H locs hl hP hS) (fun h => kf h a ((if_neg h).symm.trans ha) ls H locs hl hP hS)
theorem Cp.if_geT (X : Cx M w sh cc nL own ret d) {x : Int32} {off : Int} {v1 v2 : α} (tgt : Nat) (hd : decode cc pc = .ok (.ifCond .ge off, 3)) (ht : (pc : Int) + off = (tgt : Int)) (kt : (0 ≤ x) → Cp M w sh nL ι tgt lv st σ (some v1)) (kf : ¬ (0 ≤ x) → Cp M w sh nL ι (pc + 3) lv st σ (some v2)) : Cp M w sh nL ι pc lv (.int x :: st) σ (some (if 0 ≤ x then v1 else v2)) := by
  rw [show (some (if 0 ≤ x then v1 else v2) : Option α) = if 0 ≤ x then some v1 else some v2 by split <;> rfl]
  exact Cp.if_ge X tgt hd ht kt kf
theorem Cp.icmp_ge (X : Cx M w sh cc nL own ret d) {x y : Int32} {off : Int} (tgt : Nat) (hd : decode cc pc = .ok (.if_icmp .ge off, 3)) (ht : (pc : Int) + off = (tgt : Int)) (kt : (y ≤ x) → Cp M w sh nL ι tgt lv st σ b1) (kf : ¬ (y ≤ x) → Cp M w sh nL ι (pc + 3) lv st σ b2) : Cp M w sh nL ι pc lv (.int y :: .int x :: st) σ (if y ≤ x then b1 else b2) := fun a ha ls H locs hl hP hS => lv_icmp_ge X.x X.b hd ht (fun h => kt h a ((if_pos h).symm.trans ha) ls H locs hl hP hS) (fun h => kf h a ((if_neg h).symm.trans ha) ls H locs hl hP hS)
theorem Cp.icmp_geT (X : Cx M w sh cc nL own ret d) {x y : Int32} {off : Int} {v1 v2 : α} (tgt : Nat) (hd : decode cc pc = .ok (.if_icmp .ge off, 3)) (ht : (pc : Int) + off = (tgt : Int)) (kt : (y ≤ x) → Cp M w sh nL ι tgt lv st σ (some v1)) (kf : ¬ (y ≤ x) → Cp M w sh nL ι (pc + 3) lv st σ (some v2)) : Cp M w sh nL ι pc lv (.int y :: .int x :: st) σ (some (if y ≤ x then v1 else v2)) := by
  rw [show (some (if y ≤ x then v1 else v2) : Option α) = if y ≤ x then some v1 else some v2 by split <;> rfl]
  exact Cp.icmp_ge X tgt hd ht kt kf
theorem Cp.if_gt (X : Cx M w sh cc nL own ret d) {x : Int32} {off : Int} (tgt : Nat) (hd : decode cc pc = .ok (.ifCond .gt off, 3)) (ht : (pc : Int) + off = (tgt : Int)) (kt : (0 < x) → Cp M w sh nL ι tgt lv st σ b1) (kf : ¬ (0 < x) → Cp M w sh nL ι (pc + 3) lv st σ b2) : Cp M w sh nL ι pc lv (.int x :: st) σ (if 0 < x then b1 else b2) := fun a ha ls H locs hl hP hS => lv_if_gt X.x X.b hd ht (fun h => kt h a ((if_pos h).symm.trans ha) ls H locs hl hP hS) (fun h => kf h a ((if_neg h).symm.trans ha) ls H locs hl hP hS)
theorem Cp.if_gtT (X : Cx M w sh cc nL own ret d) {x : Int32} {off : Int} {v1 v2 : α} (tgt : Nat) (hd : decode cc pc = .ok (.ifCond .gt off, 3)) (ht : (pc : Int) + off = (tgt : Int)) (kt : (0 < x) → Cp M w sh nL ι tgt lv st σ (some v1)) (kf : ¬ (0 < x) → Cp M w sh nL ι (pc + 3) lv st σ (some v2)) : Cp M w sh nL ι pc lv (.int x :: st) σ (some (if 0 < x then v1 else v2)) := by
  rw [show (some (if 0 < x then v1 else v2) : Option α) = if 0 < x then some v1 else some v2 by split <;> rfl]
  exact Cp.if_gt X tgt hd ht kt kf
theorem Cp.icmp_gt (X : Cx M w sh cc nL own ret d) {x y : Int32} {off : Int} (tgt : Nat) (hd : decode cc pc = .ok (.if_icmp .gt off, 3)) (ht : (pc : Int) + off = (tgt : Int)) (kt : (y < x) → Cp M w sh nL ι tgt lv st σ b1) (kf : ¬ (y < x) → Cp M w sh nL ι (pc + 3) lv st σ b2) : Cp M w sh nL ι pc lv (.int y :: .int x :: st) σ (if y < x then b1 else b2) := fun a ha ls H locs hl hP hS => lv_icmp_gt X.x X.b hd ht (fun h => kt h a ((if_pos h).symm.trans ha) ls H locs hl hP hS) (fun h => kf h a ((if_neg h).symm.trans ha) ls H locs hl hP hS)
theorem Cp.icmp_gtT (X : Cx M w sh cc nL own ret d) {x y : Int32} {off : Int} {v1 v2 : α} (tgt : Nat) (hd : decode cc pc = .ok (.if_icmp .gt off, 3)) (ht : (pc : Int) + off = (tgt : Int)) (kt : (y < x) → Cp M w sh nL ι tgt lv st σ (some v1)) (kf : ¬ (y < x) → Cp M w sh nL ι (pc + 3) lv st σ (some v2)) : Cp M w sh nL ι pc lv (.int y :: .int x :: st) σ (some (if y < x then v1 else v2)) := by
  rw [show (some (if y < x then v1 else v2) : Option α) = if y < x then some v1 else some v2 by split <;> rfl]
  exact Cp.icmp_gt X tgt hd ht kt kf
theorem Cp.if_le (X : Cx M w sh cc nL own ret d) {x : Int32} {off : Int} (tgt : Nat) (hd : decode cc pc = .ok (.ifCond .le off, 3)) (ht : (pc : Int) + off = (tgt : Int)) (kt : (x ≤ 0) → Cp M w sh nL ι tgt lv st σ b1) (kf : ¬ (x ≤ 0) → Cp M w sh nL ι (pc + 3) lv st σ b2) : Cp M w sh nL ι pc lv (.int x :: st) σ (if x ≤ 0 then b1 else b2) := fun a ha ls H locs hl hP hS => lv_if_le X.x X.b hd ht (fun h => kt h a ((if_pos h).symm.trans ha) ls H locs hl hP hS) (fun h => kf h a ((if_neg h).symm.trans ha) ls H locs hl hP hS)
theorem Cp.if_leT (X : Cx M w sh cc nL own ret d) {x : Int32} {off : Int} {v1 v2 : α} (tgt : Nat) (hd : decode cc pc = .ok (.ifCond .le off, 3)) (ht : (pc : Int) + off = (tgt : Int)) (kt : (x ≤ 0) → Cp M w sh nL ι tgt lv st σ (some v1)) (kf : ¬ (x ≤ 0) → Cp M w sh nL ι (pc + 3) lv st σ (some v2)) : Cp M w sh nL ι pc lv (.int x :: st) σ (some (if x ≤ 0 then v1 else v2)) := by
  rw [show (some (if x ≤ 0 then v1 else v2) : Option α) = if x ≤ 0 then some v1 else some v2 by split <;> rfl]
  exact Cp.if_le X tgt hd ht kt kf
theorem Cp.icmp_le (X : Cx M w sh cc nL own ret d) {x y : Int32} {off : Int} (tgt : Nat) (hd : decode cc pc = .ok (.if_icmp .le off, 3)) (ht : (pc : Int) + off = (tgt : Int)) (kt : (x ≤ y) → Cp M w sh nL ι tgt lv st σ b1) (kf : ¬ (x ≤ y) → Cp M w sh nL ι (pc + 3) lv st σ b2) : Cp M w sh nL ι pc lv (.int y :: .int x :: st) σ (if x ≤ y then b1 else b2) := fun a ha ls H locs hl hP hS => lv_icmp_le X.x X.b hd ht (fun h => kt h a ((if_pos h).symm.trans ha) ls H locs hl hP hS) (fun h => kf h a ((if_neg h).symm.trans ha) ls H locs hl hP hS)
theorem Cp.icmp_leT (X : Cx M w sh cc nL own ret d) {x y : Int32} {off : Int} {v1 v2 : α} (tgt : Nat) (hd : decode cc pc = .ok (.if_icmp .le off, 3)) (ht : (pc : Int) + off = (tgt : Int)) (kt : (x ≤ y) → Cp M w sh nL ι tgt lv st σ (some v1)) (kf : ¬ (x ≤ y) → Cp M w sh nL ι (pc + 3) lv st σ (some v2)) : Cp M w sh nL ι pc lv (.int y :: .int x :: st) σ (some (if x ≤ y then v1 else v2)) := by
  rw [show (some (if x ≤ y then v1 else v2) : Option α) = if x ≤ y then some v1 else some v2 by split <;> rfl]
  exact Cp.icmp_le X tgt hd ht kt kf
theorem Cp.if_ne (X : Cx M w sh cc nL own ret d) {x : Int32} {off : Int} (tgt : Nat) (hd : decode cc pc = .ok (.ifCond .ne off, 3)) (ht : (pc : Int) + off = (tgt : Int)) (kt : ¬ (x = 0) → Cp M w sh nL ι tgt lv st σ b2) (kf : (x = 0) → Cp M w sh nL ι (pc + 3) lv st σ b1) : Cp M w sh nL ι pc lv (.int x :: st) σ (if x = 0 then b1 else b2) := fun a ha ls H locs hl hP hS => lv_if_ne X.x X.b hd ht (fun h => kt h a ((if_neg h).symm.trans ha) ls H locs hl hP hS) (fun h => kf h a ((if_pos h).symm.trans ha) ls H locs hl hP hS)
theorem Cp.if_neT (X : Cx M w sh cc nL own ret d) {x : Int32} {off : Int} {v1 v2 : α} (tgt : Nat) (hd : decode cc pc = .ok (.ifCond .ne off, 3)) (ht : (pc : Int) + off = (tgt : Int)) (kt : ¬ (x = 0) → Cp M w sh nL ι tgt lv st σ (some v2)) (kf : (x = 0) → Cp M w sh nL ι (pc + 3) lv st σ (some v1)) : Cp M w sh nL ι pc lv (.int x :: st) σ (some (if x = 0 then v1 else v2)) := by
  rw [show (some (if x = 0 then v1 else v2) : Option α) = if x = 0 then some v1 else some v2 by split <;> rfl]
  exact Cp.if_ne X tgt hd ht kt kf
theorem Cp.icmp_ne (X : Cx M w sh cc nL own ret d) {x y : Int32} {off : Int} (tgt : Nat) (hd : decode cc pc = .ok (.if_icmp .ne off, 3)) (ht : (pc : Int) + off = (tgt : Int)) (kt : ¬ (x = y) → Cp M w sh nL ι tgt lv st σ b2) (kf : (x = y) → Cp M w sh nL ι (pc + 3) lv st σ b1) : Cp M w sh nL ι pc lv (.int y :: .int x :: st) σ (if x = y then b1 else b2) := fun a ha ls H locs hl hP hS => lv_icmp_ne X.x X.b hd ht (fun h => kt h a ((if_neg h).symm.trans ha) ls H locs hl hP hS) (fun h => kf h a ((if_pos h).symm.trans ha) ls H locs hl hP hS)
theorem Cp.icmp_neT (X : Cx M w sh cc nL own ret d) {x y : Int32} {off : Int} {v1 v2 : α} (tgt : Nat) (hd : decode cc pc = .ok (.if_icmp .ne off, 3)) (ht : (pc : Int) + off = (tgt : Int)) (kt : ¬ (x = y) → Cp M w sh nL ι tgt lv st σ (some v2)) (kf : (x = y) → Cp M w sh nL ι (pc + 3) lv st σ (some v1)) : Cp M w sh nL ι pc lv (.int y :: .int x :: st) σ (some (if x = y then v1 else v2)) := by
  rw [show (some (if x = y then v1 else v2) : Option α) = if x = y then some v1 else some v2 by split <;> rfl]
  exact Cp.icmp_ne X tgt hd ht kt kf
theorem Cp.if_eqB (X : Cx M w sh cc nL own ret d) {x : Bool} {off : Int} (tgt : Nat) (hd : decode cc pc = .ok (.ifCond .eq off, 3)) (ht : (pc : Int) + off = (tgt : Int)) (kt : x = false → Cp M w sh nL ι tgt lv st σ b2) (kf : x = true → Cp M w sh nL ι (pc + 3) lv st σ b1) : Cp M w sh nL ι pc lv (.int (b2i x) :: st) σ (if x = true then b1 else b2) := fun a ha ls H locs hl hP hS => by
  cases x
  · have ha : b2 = some a := ha
    exact lv_if_eq X.x X.b hd ht (fun h => kt rfl a ha ls H locs hl hP hS) (fun h => absurd rfl h)
  · have ha : b1 = some a := ha
    exact lv_if_eq X.x X.b hd ht (fun h => absurd h (by decide)) (fun h => kf rfl a ha ls H locs hl hP hS)
theorem Cp.if_eqBT (X : Cx M w sh cc nL own ret d) {x : Bool} {v1 v2 : α} {off : Int} (tgt : Nat) (hd : decode cc pc = .ok (.ifCond .eq off, 3)) (ht : (pc : Int) + off = (tgt : Int)) (kt : x = false → Cp M w sh nL ι tgt lv st σ (some v2)) (kf : x = true → Cp M w sh nL ι (pc + 3) lv st σ (some v1)) : Cp M w sh nL ι pc lv (.int (b2i x) :: st) σ (some (if x = true then v1 else v2)) := by
  rw [show (some (if x = true then v1 else v2) : Option α) = if x = true then some v1 else some v2 by split <;> rfl]
  exact Cp.if_eqB X tgt hd ht kt kf
theorem Cp.if_neB (X : Cx M w sh cc nL own ret d) {x : Bool} {off : Int} (tgt : Nat) (hd : decode cc pc = .ok (.ifCond .ne off, 3)) (ht : (pc : Int) + off = (tgt : Int)) (kt : x = true → Cp M w sh nL ι tgt lv st σ b1) (kf : x = false → Cp M w sh nL ι (pc + 3) lv st σ b2) : Cp M w sh nL ι pc lv (.int (b2i x) :: st) σ (if x = true then b1 else b2) := fun a ha ls H locs hl hP hS => by
  cases x
  · have ha : b2 = some a := ha
    exact lv_if_ne X.x X.b hd ht (fun h => absurd rfl h) (fun h => kf rfl a ha ls H locs hl hP hS)
  · have ha : b1 = some a := ha
    exact lv_if_ne X.x X.b hd ht (fun h => kt rfl a ha ls H locs hl hP hS) (fun h => absurd h (by decide))
theorem Cp.if_neBT (X : Cx M w sh cc nL own ret d) {x : Bool} {v1 v2 : α} {off : Int} (tgt : Nat) (hd : decode cc pc = .ok (.ifCond .ne off, 3)) (ht : (pc : Int) + off = (tgt : Int)) (kt : x = true → Cp M w sh nL ι tgt lv st σ (some v1)) (kf : x = false → Cp M w sh nL ι (pc + 3) lv st σ (some v2)) : Cp M w sh nL ι pc lv (.int (b2i x) :: st) σ (some (if x = true then v1 else v2)) := by
  rw [show (some (if x = true then v1 else v2) : Option α) = if x = true then some v1 else some v2 by split <;> rfl]
  exact Cp.if_neB X tgt hd ht kt kf
end
end
section
def ClOk (ci : Nat) (C : String) (T : u_T) (N : Nat) (ty0 : Nat → FieldType) : Prop := vwCl[ci]? = some (C, T, N) ∧ (∀ x ∈ u_ws C T N, x ∈ TB) ∧ (∀ k, k < N → parseFieldDescriptor (T k).2.2.1 = some (ty0 k)) ∧ (∀ a, a < N → ∀ b, b < N → a ≠ b → (T a).2.1 ≠ (T b).2.1)
def inB (i : Int32) (n : Nat) : Bool := decide (0 ≤ i) && decide (i.toNatClampNeg < n)
theorem inB_vp {i : Int32} {n : Nat} (h : inB i n = true) : vp_in i n := by
  simp only [inB, Bool.and_eq_true, decide_eq_true_eq] at h
  rintro (q | q)
  · exact absurd h.1 (Int32.not_le.mpr q)
  · omega
section
variable {M : MC} {w : WE} {sh : List Shp} {cc : ByteArray} {nL : Nat} {own : String} {ret : Option FieldType} {d : Nat} {α : Type} {ι : α → Option Value × Mem} {pc : Nat} {lv : List (Option Value)} {st : List Value} {σ : Mem} {b : Option α}

theorem Cp.getI (X : Cx M w sh cc nL own ret d) {ci : Nat} {C : String} {T : u_T} {N : Nat} {ty0 : Nat → FieldType} (hC : ClOk ci C T N ty0) {k : Nat} {fs : List (Option Nat)} (hs : sh[k]? = some (.inr (ci, fs))) {index : Nat} (j : Nat) (hj : j < N) (hl : Cond.fieldLink own index (T j).1 (T j).2.1 (T j).2.2.1 ∈ TB) (hf : fs[j]? = some none) (hd : decode cc pc = .ok (.getfield index, 3)) (kk : Cp M w sh nL ι (pc + 3) lv (.int (σ k j) :: st) σ b) : Cp M w sh nL ι pc lv (.ref (wad w k) :: st) σ b := fun a ha ls H locs hlv hP hS => va_get (ci := ci) (fs := fs.mapIdx (fv (wad w) (σ k))) X.x X.b X.t hC.2.1 X.o X.k hP k (wM_at hs) hC.1 j hj (X.t _ hl) (fun _ h => h) (by rw [List.getElem?_mapIdx, hf]; rfl) hd (kk a ha ls H locs hlv hP hS)
theorem Cp.getR (X : Cx M w sh cc nL own ret d) {ci : Nat} {C : String} {T : u_T} {N : Nat} {ty0 : Nat → FieldType} (hC : ClOk ci C T N ty0) {k q : Nat} {fs : List (Option Nat)} (hs : sh[k]? = some (.inr (ci, fs))) {index : Nat} (j : Nat) (hj : j < N) (hl : Cond.fieldLink own index (T j).1 (T j).2.1 (T j).2.2.1 ∈ TB) (hf : fs[j]? = some (some q)) (hd : decode cc pc = .ok (.getfield index, 3)) (kk : Cp M w sh nL ι (pc + 3) lv (.ref (wad w q) :: st) σ b) : Cp M w sh nL ι pc lv (.ref (wad w k) :: st) σ b := fun a ha ls H locs hlv hP hS => va_get (ci := ci) (fs := fs.mapIdx (fv (wad w) (σ k))) X.x X.b X.t hC.2.1 X.o X.k hP k (wM_at hs) hC.1 j hj (X.t _ hl) (fun _ h => h) (by rw [List.getElem?_mapIdx, hf]; rfl) hd (kk a ha ls H locs hlv hP hS)
theorem Cp.putV (X : Cx M w sh cc nL own ret d) {ci : Nat} {C : String} {T : u_T} {N : Nat} {ty0 : Nat → FieldType} (hC : ClOk ci C T N ty0) {k : Nat} {fs : List (Option Nat)} (hs : sh[k]? = some (.inr (ci, fs))) {index : Nat} (j : Nat) (hj : j < N) (hl : Cond.fieldLink own index (T j).1 (T j).2.1 (T j).2.2.1 ∈ TB) (hf : fs[j]? = some none) (hfin : (T j).2.2.2 = false) {ty : FieldType} (hty : parseFieldDescriptor (T j).2.2.1 = some ty) {v : Int32} (hn : narrow ty (.int v) = .int v) (hfit : fits ty (.int v) = true) (hd : decode cc pc = .ok (.putfield index, 3)) (kk : Cp M w sh nL ι (pc + 3) lv st (up2 σ k j v) b) : Cp M w sh nL ι pc lv (.int v :: .ref (wad w k) :: st) σ b := fun a ha ls H locs hlv hP hS => by
  refine va_put (ci := ci) (fs := fs.mapIdx (fv (wad w) (σ k))) X.x X.b X.t hC.2.1 ty0 hC.2.2.1 hC.2.2.2 X.o X.k hP (X.ok.D σ) hS k (wM_at hs) hC.1 j hj (X.t _ hl) (fun _ h => h) hfin hty hn hfit (by rw [List.length_mapIdx]; exact (List.getElem?_eq_some_iff.mp hf).1) hd (fun H1 locs1 hP1 _ hS1 => ?_)
  refine kk a ha ls H1 locs1 hlv ?_ hS1
  rw [wM_set (f := upd (σ k) j v) hs (by rw [fv_set hf]; rfl)] at hP1
  exact hP1
theorem Cp.putI (X : Cx M w sh cc nL own ret d) {ci : Nat} {C : String} {T : u_T} {N : Nat} {ty0 : Nat → FieldType} (hC : ClOk ci C T N ty0) {k : Nat} {fs : List (Option Nat)} (hs : sh[k]? = some (.inr (ci, fs))) {index : Nat} (j : Nat) (hj : j < N) (hl : Cond.fieldLink own index (T j).1 (T j).2.1 (T j).2.2.1 ∈ TB) (hf : fs[j]? = some none) (hfin : (T j).2.2.2 = false) (hty : parseFieldDescriptor (T j).2.2.1 = some .int) {v : Int32} (hd : decode cc pc = .ok (.putfield index, 3)) (kk : Cp M w sh nL ι (pc + 3) lv st (up2 σ k j v) b) : Cp M w sh nL ι pc lv (.int v :: .ref (wad w k) :: st) σ b := Cp.putV X hC hs j hj hl hf hfin hty rfl rfl hd kk
theorem Cp.putZ (X : Cx M w sh cc nL own ret d) {ci : Nat} {C : String} {T : u_T} {N : Nat} {ty0 : Nat → FieldType} (hC : ClOk ci C T N ty0) {k : Nat} {fs : List (Option Nat)} (hs : sh[k]? = some (.inr (ci, fs))) {index : Nat} (j : Nat) (hj : j < N) (hl : Cond.fieldLink own index (T j).1 (T j).2.1 (T j).2.2.1 ∈ TB) (hf : fs[j]? = some none) (hfin : (T j).2.2.2 = false) (hty : parseFieldDescriptor (T j).2.2.1 = some .boolean) {v : Int32} (hd : decode cc pc = .ok (.putfield index, 3)) (kk : Cp M w sh nL ι (pc + 3) lv st (up2 σ k j v) b) : Cp M w sh nL ι pc lv (.int v :: .ref (wad w k) :: st) σ (gd (v = 0 ∨ v = 1) b) := Cp.grd (fun h => by
  rcases h with rfl | rfl
  · exact Cp.putV X hC hs j hj hl hf hfin hty (by decide +kernel) (by decide +kernel) hd kk
  · exact Cp.putV X hC hs j hj hl hf hfin hty (by decide +kernel) (by decide +kernel) hd kk)
theorem Cp.putZc (X : Cx M w sh cc nL own ret d) {ci : Nat} {C : String} {T : u_T} {N : Nat} {ty0 : Nat → FieldType} (hC : ClOk ci C T N ty0) {k : Nat} {fs : List (Option Nat)} (hs : sh[k]? = some (.inr (ci, fs))) {index : Nat} (j : Nat) (hj : j < N) (hl : Cond.fieldLink own index (T j).1 (T j).2.1 (T j).2.2.1 ∈ TB) (hf : fs[j]? = some none) (hfin : (T j).2.2.2 = false) (hty : parseFieldDescriptor (T j).2.2.1 = some .boolean) {v : Int32} (hv : v = 0 ∨ v = 1) (hd : decode cc pc = .ok (.putfield index, 3)) (kk : Cp M w sh nL ι (pc + 3) lv st (up2 σ k j v) b) : Cp M w sh nL ι pc lv (.int v :: .ref (wad w k) :: st) σ b := by
  have h := Cp.putZ X hC hs j hj hl hf hfin hty hd kk
  rw [gd_t hv] at h
  exact h
theorem Cp.getIN (X : Cx M w sh cc nL own ret d) {ci : Nat} {C : String} {T : u_T} {N : Nat} {ty0 : Nat → FieldType} (hC : ClOk ci C T N ty0) {k : Nat} {fs : List (Option Nat)} (hs : sh[k]? = some (.inr (ci, fs))) {index : Nat} {host : String} (j : Nat) (hj : j < N) (hl : Cond.fieldLinkNest own index (T j).1 (T j).2.1 (T j).2.2.1 host ∈ TB) (hf : fs[j]? = some none) (hd : decode cc pc = .ok (.getfield index, 3)) (kk : Cp M w sh nL ι (pc + 3) lv (.int (σ k j) :: st) σ b) : Cp M w sh nL ι pc lv (.ref (wad w k) :: st) σ b := fun a ha ls H locs hlv hP hS => va_getN (ci := ci) (fs := fs.mapIdx (fv (wad w) (σ k))) X.x X.b X.t hC.2.1 X.o X.k hP k (wM_at hs) hC.1 j hj (X.t _ hl) (fun _ h => h) (by rw [List.getElem?_mapIdx, hf]; rfl) hd (kk a ha ls H locs hlv hP hS)
theorem Cp.getRN (X : Cx M w sh cc nL own ret d) {ci : Nat} {C : String} {T : u_T} {N : Nat} {ty0 : Nat → FieldType} (hC : ClOk ci C T N ty0) {k q : Nat} {fs : List (Option Nat)} (hs : sh[k]? = some (.inr (ci, fs))) {index : Nat} {host : String} (j : Nat) (hj : j < N) (hl : Cond.fieldLinkNest own index (T j).1 (T j).2.1 (T j).2.2.1 host ∈ TB) (hf : fs[j]? = some (some q)) (hd : decode cc pc = .ok (.getfield index, 3)) (kk : Cp M w sh nL ι (pc + 3) lv (.ref (wad w q) :: st) σ b) : Cp M w sh nL ι pc lv (.ref (wad w k) :: st) σ b := fun a ha ls H locs hlv hP hS => va_getN (ci := ci) (fs := fs.mapIdx (fv (wad w) (σ k))) X.x X.b X.t hC.2.1 X.o X.k hP k (wM_at hs) hC.1 j hj (X.t _ hl) (fun _ h => h) (by rw [List.getElem?_mapIdx, hf]; rfl) hd (kk a ha ls H locs hlv hP hS)
theorem Cp.putVN (X : Cx M w sh cc nL own ret d) {ci : Nat} {C : String} {T : u_T} {N : Nat} {ty0 : Nat → FieldType} (hC : ClOk ci C T N ty0) {k : Nat} {fs : List (Option Nat)} (hs : sh[k]? = some (.inr (ci, fs))) {index : Nat} {host : String} (j : Nat) (hj : j < N) (hl : Cond.fieldLinkNest own index (T j).1 (T j).2.1 (T j).2.2.1 host ∈ TB) (hf : fs[j]? = some none) (hfin : (T j).2.2.2 = false) {ty : FieldType} (hty : parseFieldDescriptor (T j).2.2.1 = some ty) {v : Int32} (hn : narrow ty (.int v) = .int v) (hfit : fits ty (.int v) = true) (hd : decode cc pc = .ok (.putfield index, 3)) (kk : Cp M w sh nL ι (pc + 3) lv st (up2 σ k j v) b) : Cp M w sh nL ι pc lv (.int v :: .ref (wad w k) :: st) σ b := fun a ha ls H locs hlv hP hS => by
  refine va_putN (ci := ci) (fs := fs.mapIdx (fv (wad w) (σ k))) X.x X.b X.t hC.2.1 ty0 hC.2.2.1 hC.2.2.2 X.o X.k hP (X.ok.D σ) hS k (wM_at hs) hC.1 j hj (X.t _ hl) (fun _ h => h) hfin hty hn hfit (by rw [List.length_mapIdx]; exact (List.getElem?_eq_some_iff.mp hf).1) hd (fun H1 locs1 hP1 _ hS1 => ?_)
  refine kk a ha ls H1 locs1 hlv ?_ hS1
  rw [wM_set (f := upd (σ k) j v) hs (by rw [fv_set hf]; rfl)] at hP1
  exact hP1
theorem Cp.putIN (X : Cx M w sh cc nL own ret d) {ci : Nat} {C : String} {T : u_T} {N : Nat} {ty0 : Nat → FieldType} (hC : ClOk ci C T N ty0) {k : Nat} {fs : List (Option Nat)} (hs : sh[k]? = some (.inr (ci, fs))) {index : Nat} {host : String} (j : Nat) (hj : j < N) (hl : Cond.fieldLinkNest own index (T j).1 (T j).2.1 (T j).2.2.1 host ∈ TB) (hf : fs[j]? = some none) (hfin : (T j).2.2.2 = false) (hty : parseFieldDescriptor (T j).2.2.1 = some .int) {v : Int32} (hd : decode cc pc = .ok (.putfield index, 3)) (kk : Cp M w sh nL ι (pc + 3) lv st (up2 σ k j v) b) : Cp M w sh nL ι pc lv (.int v :: .ref (wad w k) :: st) σ b := Cp.putVN X hC hs j hj hl hf hfin hty rfl rfl hd kk
theorem Cp.putZN (X : Cx M w sh cc nL own ret d) {ci : Nat} {C : String} {T : u_T} {N : Nat} {ty0 : Nat → FieldType} (hC : ClOk ci C T N ty0) {k : Nat} {fs : List (Option Nat)} (hs : sh[k]? = some (.inr (ci, fs))) {index : Nat} {host : String} (j : Nat) (hj : j < N) (hl : Cond.fieldLinkNest own index (T j).1 (T j).2.1 (T j).2.2.1 host ∈ TB) (hf : fs[j]? = some none) (hfin : (T j).2.2.2 = false) (hty : parseFieldDescriptor (T j).2.2.1 = some .boolean) {v : Int32} (hd : decode cc pc = .ok (.putfield index, 3)) (kk : Cp M w sh nL ι (pc + 3) lv st (up2 σ k j v) b) : Cp M w sh nL ι pc lv (.int v :: .ref (wad w k) :: st) σ (gd (v = 0 ∨ v = 1) b) := Cp.grd (fun h => by
  rcases h with rfl | rfl
  · exact Cp.putVN X hC hs j hj hl hf hfin hty (by decide +kernel) (by decide +kernel) hd kk
  · exact Cp.putVN X hC hs j hj hl hf hfin hty (by decide +kernel) (by decide +kernel) hd kk)
theorem Cp.putZcN (X : Cx M w sh cc nL own ret d) {ci : Nat} {C : String} {T : u_T} {N : Nat} {ty0 : Nat → FieldType} (hC : ClOk ci C T N ty0) {k : Nat} {fs : List (Option Nat)} (hs : sh[k]? = some (.inr (ci, fs))) {index : Nat} {host : String} (j : Nat) (hj : j < N) (hl : Cond.fieldLinkNest own index (T j).1 (T j).2.1 (T j).2.2.1 host ∈ TB) (hf : fs[j]? = some none) (hfin : (T j).2.2.2 = false) (hty : parseFieldDescriptor (T j).2.2.1 = some .boolean) {v : Int32} (hv : v = 0 ∨ v = 1) (hd : decode cc pc = .ok (.putfield index, 3)) (kk : Cp M w sh nL ι (pc + 3) lv st (up2 σ k j v) b) : Cp M w sh nL ι pc lv (.int v :: .ref (wad w k) :: st) σ b := by
  have h := Cp.putZN X hC hs j hj hl hf hfin hty hd kk
  rw [gd_t hv] at h
  exact h
theorem Cp.iald (X : Cx M w sh cc nL own ret d) {k n b0 : Nat} (hs : sh[k]? = some (.inl (0, n, b0))) {i : Int32} (hd : decode cc pc = .ok (.iaload, 1)) (kk : Cp M w sh nL ι (pc + 1) lv (.int (σ k i.toNatClampNeg) :: st) σ b) : Cp M w sh nL ι pc lv (.int i :: .ref (wad w k) :: st) σ (gd (inB i n = true) b) := Cp.grd (fun h a ha ls H locs hlv hP hS => va_iald (n := n) (f := σ k) X.x X.b X.k hP k 0 (wM_at hs) rfl (inB_vp h) hd (kk a ha ls H locs hlv hP hS))
theorem Cp.ialdc (X : Cx M w sh cc nL own ret d) {k n b0 : Nat} (hs : sh[k]? = some (.inl (0, n, b0))) {i : Int32} {j : Nat} (hi : inB i n = true) (hj : i.toNatClampNeg = j) (hd : decode cc pc = .ok (.iaload, 1)) (kk : Cp M w sh nL ι (pc + 1) lv (.int (σ k j) :: st) σ b) : Cp M w sh nL ι pc lv (.int i :: .ref (wad w k) :: st) σ b := by
  subst hj
  have h := Cp.iald X hs hd kk
  rw [gd_t hi] at h
  exact h
theorem Cp.bald (X : Cx M w sh cc nL own ret d) {k n b0 : Nat} (hs : sh[k]? = some (.inl (1, n, b0))) {i : Int32} (hd : decode cc pc = .ok (.baload, 1)) (kk : Cp M w sh nL ι (pc + 1) lv (.int (σ k i.toNatClampNeg) :: st) σ b) : Cp M w sh nL ι pc lv (.int i :: .ref (wad w k) :: st) σ (gd (inB i n = true) b) := Cp.grd (fun h a ha ls H locs hlv hP hS => va_bald (n := n) (f := σ k) X.x X.b X.k hP k 1 (wM_at hs) rfl (inB_vp h) hd (kk a ha ls H locs hlv hP hS))
theorem Cp.aald (X : Cx M w sh cc nL own ret d) {k n b0 : Nat} (hs : sh[k]? = some (.inl (2, n, b0))) {i : Int32} (hd : decode cc pc = .ok (.aaload, 1)) (kk : Cp M w sh nL ι (pc + 1) lv (.ref (wad w (b0 + 2 * i.toNatClampNeg)) :: st) σ b) : Cp M w sh nL ι pc lv (.int i :: .ref (wad w k) :: st) σ (gd (inB i n = true) b) := Cp.grd (fun h a ha ls H locs hlv hP hS => va_aldq (n := n) (f := fun j => some (wad w (b0 + 2 * j))) X.x X.b X.k hP k 2 (wM_at hs) rfl (inB_vp h) hd (kk a ha ls H locs hlv hP hS))
theorem Cp.iast (X : Cx M w sh cc nL own ret d) {k n b0 : Nat} (hs : sh[k]? = some (.inl (0, n, b0))) {i x : Int32} (hd : decode cc pc = .ok (.iastore, 1)) (kk : Cp M w sh nL ι (pc + 1) lv st (up2 σ k i.toNatClampNeg x) b) : Cp M w sh nL ι pc lv (.int x :: .int i :: .ref (wad w k) :: st) σ (gd (inB i n = true) b) := Cp.grd (fun h a ha ls H locs hlv hP hS => va_iast (n := n) (f := σ k) X.x X.b X.k hP (X.ok.D σ) hS k 0 (wM_at hs) rfl (inB_vp h) hd (fun H1 locs1 hP1 _ hS1 => kk a ha ls H1 locs1 hlv (by rw [wM_set (e := .inl (wI w, n, .inl (upd (σ k) i.toNatClampNeg x))) (f := upd (σ k) i.toNatClampNeg x) hs rfl] at hP1; exact hP1) hS1))
theorem Cp.iastc (X : Cx M w sh cc nL own ret d) {k n b0 : Nat} (hs : sh[k]? = some (.inl (0, n, b0))) {i x : Int32} {j : Nat} (hi : inB i n = true) (hj : i.toNatClampNeg = j) (hd : decode cc pc = .ok (.iastore, 1)) (kk : Cp M w sh nL ι (pc + 1) lv st (up2 σ k j x) b) : Cp M w sh nL ι pc lv (.int x :: .int i :: .ref (wad w k) :: st) σ b := by
  subst hj
  have h := Cp.iast X hs hd kk
  rw [gd_t hi] at h
  exact h
theorem Cp.bast (X : Cx M w sh cc nL own ret d) {k n b0 : Nat} (hs : sh[k]? = some (.inl (1, n, b0))) {i x : Int32} (hd : decode cc pc = .ok (.bastore, 1)) (kk : Cp M w sh nL ι (pc + 1) lv st (up2 σ k i.toNatClampNeg (vp_nar .byte x)) b) : Cp M w sh nL ι pc lv (.int x :: .int i :: .ref (wad w k) :: st) σ (gd (inB i n = true) b) := Cp.grd (fun h a ha ls H locs hlv hP hS => va_bast (n := n) (f := σ k) X.x X.b X.k hP (X.ok.D σ) hS k 1 (wM_at hs) rfl (inB_vp h) hd (fun H1 locs1 hP1 _ hS1 => kk a ha ls H1 locs1 hlv (by rw [wM_set (e := .inl (wB w, n, .inl (upd (σ k) i.toNatClampNeg (vp_nar .byte x)))) (f := upd (σ k) i.toNatClampNeg (vp_nar .byte x)) hs rfl] at hP1; exact hP1) hS1))
/-! returns -/
theorem Cp.iret (X : Cx M w sh cc nL own (some .int) d) {v : Int32} {a : α} (hd : decode cc pc = .ok (.ireturn, 1)) (hι : ι a = (some (.int v), σ)) : Cp M w sh nL ι pc lv [.int v] σ (some a) := fun a' ha ls H locs hlv hP hS => by
  cases ha
  rw [hι]
  exact W.iret X.x X.b X.r (fun t ht _ => ⟨rfl, by rw [ht]; exact hP, hS.F ht⟩) hS.2.2 hd X.lk
theorem Cp.zret {ty : FieldType} (X : Cx M w sh cc nL own (some ty) d) {v : Int32} {a : α} (hn : narrow ty (.int v) = .int v) (hd : decode cc pc = .ok (.ireturn, 1)) (hι : ι a = (some (.int v), σ)) : Cp M w sh nL ι pc lv [.int v] σ (some a) := fun a' ha ls H locs hlv hP hS => by
  cases ha
  rw [hι]
  exact W.zret X.x X.b X.r hn (fun t ht _ => ⟨rfl, by rw [ht]; exact hP, hS.F ht⟩) hS.2.2 hd X.lk
theorem nar_b2i (v : Bool) : narrow .boolean (.int (b2i v)) = .int (b2i v) := by cases v <;> decide +kernel
theorem Cp.bret (X : Cx M w sh cc nL own (some .boolean) d) {v : Bool} {a : α} (hd : decode cc pc = .ok (.ireturn, 1)) (hι : ι a = (some (.int (b2i v)), σ)) : Cp M w sh nL ι pc lv [.int (b2i v)] σ (some a) := Cp.zret X (nar_b2i v) hd hι
theorem Cp.lret (X : Cx M w sh cc nL own (some .long) d) {v : Int64} {a : α} (hd : decode cc pc = .ok (.lreturn, 1)) (hι : ι a = (some (.long v), σ)) : Cp M w sh nL ι pc lv [.long v] σ (some a) := fun a' ha ls H locs hlv hP hS => by
  cases ha
  rw [hι]
  exact W.lret X.x X.b X.r (fun t ht _ => ⟨rfl, by rw [ht]; exact hP, hS.F ht⟩) hS.2.2 hd X.lk
theorem Cp.vret (X : Cx M w sh cc nL own none d) {a : α} (hd : decode cc pc = .ok (.return_, 1)) (hι : ι a = (none, σ)) : Cp M w sh nL ι pc lv [] σ (some a) := fun a' ha ls H locs hlv hP hS => by
  cases ha
  rw [hι]
  exact W.vret X.x X.b X.r (fun t ht _ => ⟨rfl, by rw [ht]; exact hP, hS.F ht⟩) hS.2.2 hd X.lk
theorem Cp.aret {n : String} (X : Cx M w sh cc nL own (some (.object n)) d) {v : Nat} {a : α} (hd : decode cc pc = .ok (.areturn, 1)) (hι : ι a = (some (.ref v), σ)) : Cp M w sh nL ι pc lv [.ref v] σ (some a) := fun a' ha ls H locs hlv hP hS => by
  cases ha
  rw [hι]
  exact W.aret X.x X.b X.r (Or.inl ⟨_, rfl⟩) (Or.inr ⟨_, rfl⟩) (fun t ht _ => ⟨rfl, by rw [ht]; exact hP, hS.F ht⟩) hS.2.2 hd X.lk
end
/-! contracts and calls -/
def PcM (w : WE) (sh : List Shp) (σ : Mem) (U : State) : Prop := Wd w sh σ U.heap ∧ va_K (wD w) vwCl (tysW w) U ∧ wa0 w ≤ U.heap.size ∧ Ext w U U.heap
def Ctr (l : Launch) (w : WE) (sh : List Shp) (y : MethodName) (cc : ByteArray) (nL : Nat) (ret : Option FieldType) (d : Nat) (av : List Value) (σ : Mem) (z : Option Value × Mem) : Prop := Met l y (Cond.code y cc nL ret :: TB) (rmD d) (va_Pc av (PcM w sh σ)) (QcM w sh z) 0 0 (AA w)
theorem Ctr.of {l : Launch} {w : WE} {sh : List Shp} {y : MethodName} {cc : ByteArray} {nL : Nat} {ret : Option FieldType} {d : Nat} {av : List Value} {σ : Mem} {z : Option Value × Mem} (lv0 : List (Option Value)) (hy : plainName y.cls = true) (hok : OkW w sh) (hlv : lv_args 0 av = lvl 0 lv0) (hlen : (lg_sl av).length ≤ nL) (h : ∀ M : MC, ml M = l → Cx M w sh cc nL y.cls ret d → St M w sh nL z 0 lv0 [] σ) : Ctr l w sh y cc nL ret d av σ z := by
  refine Met.ofW (cc := cc) (maxL := nL) (ret := ret) hy rfl ?_
  intro p e s m args below meth c s₁ B hml hv
  obtain ⟨rfl, hP, hK, ha0, hE⟩ := hv
  have hts := atoms_spec (ws := Cond.code y cc nL ret :: TB) B.pre
  have hown : s.vm.findClass y.cls = some m.cls := findClass_of_methodNamed B.named
  have hl := lv_entry av (n := nL) hlen
  rw [lg_entry_eq]
  rw [hlv] at hl
  exact h (p, l, e, rmD d, s, m, av.toArray, below, meth, c) rfl ⟨B.exec, B.bytes, hml, hown, fun x hx => hts x (List.mem_cons_of_mem _ hx), hK, hok, ha0, hE, B.returns, B.notSynchronized, rfl⟩ _ s.heap [] hl hP va_S.rf
theorem PcM.blind {w : WE} {sh : List Shp} {σ : Mem} {av : List Value} : FrameBlind (va_Pc av (PcM w sh σ)) := fun a U g mk q => by
  obtain ⟨q0, qP, qK, q1, qE⟩ := q
  exact ⟨q0, qP, va_K.moved (u := U) (U := U.calling g mk a) (Vm.Alike.refl U.vm) qK, q1, Ext.same (u := U) (U := U.calling g mk a) rfl qE⟩
section
variable {M : MC} {w : WE} {sh : List Shp} {cc : ByteArray} {nL : Nat} {own : String} {ret : Option FieldType} {d : Nat} {σ : Mem}
theorem Cx.pre (X : Cx M w sh cc nL own ret d) {H : Heap} {locs : List Loc} (hP : Wd w sh σ H) (hS : va_S (AA w) (mS M).heap H locs) {av : List Value} : ∀ U : State, U.heap = H → (mS M).WarmedH U.vm → va_Pc av (PcM w sh σ) av.toArray U := fun U hU hW => by
  refine ⟨rfl, by rw [hU]; exact hP, va_K.moved hW.alike X.k, by rw [hU]; exact Nat.le_trans X.a0 hS.1, ?_⟩
  rw [hU]
  exact Ext.warm hW (X.e.kept hS.2.1)
/-- behind a call -/
theorem cqM (X : Cx M w sh cc nL own ret d) {H : Heap} {locs : List Loc} {pc : Nat} {ls : Array Slot} {st0 rest : List Value} {a : Array Value} {z : Option Value × Mem} {Q : State → Prop} (hr : va_Run (mp M) (ml M) (me M) (mR M) (mS M) (mm M) (ma M) (mb M) (mt M) (mc M) H locs 0 0 0 0 (F0 (mm M) pc ls st0) rest (QcM w sh z a) (AA w)) (hS : va_S (AA w) (mS M).heap H locs)
    (kk : ∀ (H1 : Heap) (locs1 : List Loc), Wd w sh z.2 H1 → va_S (AA w) (mS M).heap H1 locs1 → WM M H1 locs1 Q (F0 (mm M) (pc + 3) ls (z.1.toList ++ rest))) : WM M H locs Q (F0 (mm M) pc ls st0) := by
  intro T hT XT
  obtain ⟨v, st₀, t, T', L, h0, X', hL, e1, e2, ⟨hv, hP1, hz, hk⟩, stp⟩ := hr T hT XT
  cases hv
  rw [h0] at hz hk
  obtain ⟨t2, a1, b1⟩ := kk T'.heap (locs ++ L) (by rw [e1]; exact hP1)
    ⟨Nat.le_trans hS.1 (by rw [e1]; exact hz), fun q h1 h2 => by rw [e1, hk q (Nat.lt_of_lt_of_le h1 hS.1) h2]; exact hS.2.1 q h1 h2, fun q hq => by
      rcases List.mem_append.mp hq with h | h
      · exact hS.2.2 q h
      · exact hL q h⟩ T' rfl X'
  exact ⟨t2, stp t2 a1, b1⟩
end
/-- what a call needs of the callee -/
def CalB (y : MethodName) (cc' : ByteArray) (nL' : Nat) (ret' : Option FieldType) (n : Nat) : Prop := Cond.code y cc' nL' ret' ∈ TB ∧ Cond.initialized y.cls ∈ TB ∧ y.cls ≠ "java/lang/invoke/MethodHandle" ∧ y.cls ≠ "java/lang/invoke/VarHandle" ∧ (parseMethodDescriptor y.desc).map (fun d => d.parameters.length) = some n
def CalV (y : MethodName) (cc' : ByteArray) (nL' : Nat) (ret' : Option FieldType) (n : Nat) : Prop := CalB y cc' nL' ret' n ∧ Cond.instanceMethod y ∈ TB ∧ Cond.selects y.cls y y ∈ TB
def CalS (y : MethodName) (cc' : ByteArray) (nL' : Nat) (ret' : Option FieldType) (n : Nat) : Prop := CalB y cc' nL' ret' n ∧ Cond.static y ∈ TB
theorem CalB.len {y : MethodName} {cc' : ByteArray} {nL' : Nat} {ret' : Option FieldType} {n : Nat} (h : CalB y cc' nL' ret' n) : ∀ sig, parseMethodDescriptor y.desc = some sig → n = sig.parameters.length := fun sig hs => by
  have h2 := h.2.2.2.2
  rw [hs] at h2
  exact (Option.some.inj h2).symm
/-- room for a call -/
def fitR (d d' nL' : Nat) : Bool := decide (d' + 1 ≤ d) && decide (8 + (nL' + 11) + 36 * d' ≤ 36 * d)
theorem fitR_1 {d d' nL' : Nat} (h : fitR d d' nL' = true) : d' + 1 ≤ d ∧ 8 + (nL' + 11) + 36 * d' ≤ 36 * d := by simpa [fitR] using h
section
variable {M : MC} {w : WE} {sh : List Shp} {cc : ByteArray} {nL : Nat} {own : String} {ret : Option FieldType} {d : Nat} {σ : Mem} {y : MethodName} {cc' : ByteArray} {nL' : Nat} {ret' : Option FieldType} {d' : Nat} {z : Option Value × Mem} {Q : State → Prop} {pc n index : Nat} {ls : Array Slot} {H : Heap} {locs : List Loc} {rest : List Value}
theorem warmTB (X : Cx M w sh cc nL own ret d) (hc : Cond.code y cc' nL' ret' ∈ TB) : ∀ x ∈ (Cond.code y cc' nL' ret' :: TB), ∀ (a' : Array Value) (U : State), (mS M).WarmedH U.vm → x.before a' U = true := fun x hx a' U hW => by
  have hx2 : x ∈ TB := by
    rcases List.mem_cons.mp hx with rfl | h
    · exact hc
    · exact h
  exact tb_warm X.t hW x hx2
theorem runVM (X : Cx M w sh cc nL own ret d) {k ci : Nat} {q : vw_C} {fs : List (Option Nat)} {As : List Value} (hC : CalV y cc' nL' ret' n) (hk : Ctr (ml M) w sh y cc' nL' ret' d' (.ref (wad w k) :: As) σ z) (hs : sh[k]? = some (.inr (ci, fs))) (hq : vwCl[ci]? = some q) (hq1 : q.1 = y.cls) (hl : Cond.methodLink own index y ∈ TB) (hf : fitR d d' nL' = true) (hn : As.length = n) (hd : decode cc pc = .ok (.invokevirtual index, 3)) (hsum : (rest.map fun v => v.category).sum ≤ 8) (hlv : ls.size = nL) (hP : Wd w sh σ H) (hS : va_S (AA w) (mS M).heap H locs)
    (kk : ∀ (H1 : Heap) (locs1 : List Loc), Wd w sh z.2 H1 → va_S (AA w) (mS M).heap H1 locs1 → WM M H1 locs1 Q (F0 (mm M) (pc + 3) ls (z.1.toList ++ rest))) : WM M H locs Q (F0 (mm M) pc ls (As.reverse ++ .ref (wad w k) :: rest)) := by
  obtain ⟨r1, r2⟩ := fitR_1 hf
  refine cqM X (va_runV (C := y.cls) (As := As) (rest := rest) ⟨X.x, X.b, X.ml, X.o, X.t⟩ hk ⟨⟨rfl, rfl, by rw [X.R]; exact r1, by rw [X.R]; exact r2, warmTB X hC.1.1, List.mem_cons_self, X.t _ hC.1.1, X.t _ hC.1.2.1, ⟨hC.1.2.2.1, hC.1.2.2.2.1⟩, hC.1.len, X.t _ hl⟩, X.t _ hC.2.1, X.t _ hC.2.2⟩ ⟨PcM.blind, ?_, X.pre hP hS⟩ rfl hn hlv rfl (lv_room hsum) hd (by rw [X.R]; exact ⟨Nat.le_refl _, Nat.le_refl _⟩)) hS kk
  have h := va_recv X.k hP hq (wM_at (w := w) (σ := σ) hs)
  rw [hq1] at h
  exact h
theorem runSM (X : Cx M w sh cc nL own ret d) {As : List Value} (hC : CalS y cc' nL' ret' n) (hk : Ctr (ml M) w sh y cc' nL' ret' d' As σ z) (hl : Cond.methodLink own index y ∈ TB) (hf : fitR d d' nL' = true) (hn : As.length = n) (hd : decode cc pc = .ok (.invokestatic index, 3)) (hsum : (rest.map fun v => v.category).sum ≤ 8) (hlv : ls.size = nL) (hP : Wd w sh σ H) (hS : va_S (AA w) (mS M).heap H locs)
    (kk : ∀ (H1 : Heap) (locs1 : List Loc), Wd w sh z.2 H1 → va_S (AA w) (mS M).heap H1 locs1 → WM M H1 locs1 Q (F0 (mm M) (pc + 3) ls (z.1.toList ++ rest))) : WM M H locs Q (F0 (mm M) pc ls (As.reverse ++ rest)) := by
  obtain ⟨r1, r2⟩ := fitR_1 hf
  exact cqM X (va_runS (As := As) (rest := rest) ⟨X.x, X.b, X.ml, X.o, X.t⟩ hk ⟨⟨rfl, rfl, by rw [X.R]; exact r1, by rw [X.R]; exact r2, warmTB X hC.1.1, List.mem_cons_self, X.t _ hC.1.1, X.t _ hC.1.2.1, ⟨hC.1.2.2.1, hC.1.2.2.2.1⟩, hC.1.len, X.t _ hl⟩, X.t _ hC.2⟩ ⟨PcM.blind, X.pre hP hS⟩ rfl hn hlv rfl (lv_room hsum) hd (by rw [X.R]; exact ⟨Nat.le_refl _, Nat.le_refl _⟩)) hS kk
theorem runSNM (X : Cx M w sh cc nL own ret d) {host : String} {As : List Value} (hC : CalS y cc' nL' ret' n) (hk : Ctr (ml M) w sh y cc' nL' ret' d' As σ z) (hl : Cond.methodLinkNest own index y host ∈ TB) (hf : fitR d d' nL' = true) (hn : As.length = n) (hd : decode cc pc = .ok (.invokestatic index, 3)) (hsum : (rest.map fun v => v.category).sum ≤ 8) (hlv : ls.size = nL) (hP : Wd w sh σ H) (hS : va_S (AA w) (mS M).heap H locs)
    (kk : ∀ (H1 : Heap) (locs1 : List Loc), Wd w sh z.2 H1 → va_S (AA w) (mS M).heap H1 locs1 → WM M H1 locs1 Q (F0 (mm M) (pc + 3) ls (z.1.toList ++ rest))) : WM M H locs Q (F0 (mm M) pc ls (As.reverse ++ rest)) := by
  obtain ⟨r1, r2⟩ := fitR_1 hf
  exact cqM X (va_runSN (As := As) (rest := rest) ⟨X.x, X.b, X.ml, X.o, X.t⟩ hk ⟨⟨⟨rfl, rfl, by rw [X.R]; exact r1, by rw [X.R]; exact r2, warmTB X hC.1.1, List.mem_cons_self⟩, X.t _ hC.1.1, X.t _ hC.1.2.1, ⟨hC.1.2.2.1, hC.1.2.2.2.1⟩, hC.1.len, X.t _ hl⟩, X.t _ hC.2, trivial⟩ ⟨PcM.blind, X.pre hP hS⟩ rfl hn hlv rfl (lv_room hsum) hd (by rw [X.R]; exact ⟨Nat.le_refl _, Nat.le_refl _⟩)) hS kk
end
section
variable {M : MC} {w : WE} {sh : List Shp} {cc : ByteArray} {nL : Nat} {own : String} {ret : Option FieldType} {d : Nat} {α : Type} {ι : α → Option Value × Mem} {pc : Nat} {lv : List (Option Value)} {st : List Value} {σ : Mem} {b : Option α} {y : MethodName} {cc' : ByteArray} {nL' : Nat} {ret' : Option FieldType} {d' n index : Nat}
theorem Cp.cVI (X : Cx M w sh cc nL own ret d) {k ci : Nat} {q : vw_C} {fs : List (Option Nat)} (As : List Value) (hC : CalV y cc' nL' ret' n) {f : Option Int32} {g : Int32 → Option α} (hk : ∀ v, f = some v → Ctr (ml M) w sh y cc' nL' ret' d' (.ref (wad w k) :: As) σ ((fun v : Int32 => (some (.int v), σ)) v)) (hs : sh[k]? = some (.inr (ci, fs))) (hq : vwCl[ci]? = some q) (hq1 : q.1 = y.cls) (hl : Cond.methodLink own index y ∈ TB) (hf : fitR d d' nL' = true) (hn : As.length = n) (hd : decode cc pc = .ok (.invokevirtual index, 3)) (hsum : (st.map fun v => v.category).sum ≤ 8) (kk : ∀ v : Int32, Cp M w sh nL ι (pc + 3) lv (.int v :: st) σ (g v)) : Cp M w sh nL ι pc lv (As.reverse ++ .ref (wad w k) :: st) σ (f.bind g) := fun a ha ls H locs hlv hP hS => by
  obtain ⟨z0, h0, h1⟩ := Option.bind_eq_some_iff.mp ha
  exact runVM X hC (hk z0 h0) hs hq hq1 hl hf hn hd hsum hlv.1 hP hS (fun H1 locs1 hP1 hS1 => kk z0 a h1 ls H1 locs1 hlv hP1 hS1)
theorem Cp.cVB (X : Cx M w sh cc nL own ret d) {k ci : Nat} {q : vw_C} {fs : List (Option Nat)} (As : List Value) (hC : CalV y cc' nL' ret' n) {f : Option Bool} {g : Bool → Option α} (hk : ∀ v, f = some v → Ctr (ml M) w sh y cc' nL' ret' d' (.ref (wad w k) :: As) σ ((fun v : Bool => (some (.int (b2i v)), σ)) v)) (hs : sh[k]? = some (.inr (ci, fs))) (hq : vwCl[ci]? = some q) (hq1 : q.1 = y.cls) (hl : Cond.methodLink own index y ∈ TB) (hf : fitR d d' nL' = true) (hn : As.length = n) (hd : decode cc pc = .ok (.invokevirtual index, 3)) (hsum : (st.map fun v => v.category).sum ≤ 8) (kk : ∀ v : Bool, Cp M w sh nL ι (pc + 3) lv (.int (b2i v) :: st) σ (g v)) : Cp M w sh nL ι pc lv (As.reverse ++ .ref (wad w k) :: st) σ (f.bind g) := fun a ha ls H locs hlv hP hS => by
  obtain ⟨z0, h0, h1⟩ := Option.bind_eq_some_iff.mp ha
  exact runVM X hC (hk z0 h0) hs hq hq1 hl hf hn hd hsum hlv.1 hP hS (fun H1 locs1 hP1 hS1 => kk z0 a h1 ls H1 locs1 hlv hP1 hS1)
theorem Cp.cVL (X : Cx M w sh cc nL own ret d) {k ci : Nat} {q : vw_C} {fs : List (Option Nat)} (As : List Value) (hC : CalV y cc' nL' ret' n) {f : Option Int64} {g : Int64 → Option α} (hk : ∀ v, f = some v → Ctr (ml M) w sh y cc' nL' ret' d' (.ref (wad w k) :: As) σ ((fun v : Int64 => (some (.long v), σ)) v)) (hs : sh[k]? = some (.inr (ci, fs))) (hq : vwCl[ci]? = some q) (hq1 : q.1 = y.cls) (hl : Cond.methodLink own index y ∈ TB) (hf : fitR d d' nL' = true) (hn : As.length = n) (hd : decode cc pc = .ok (.invokevirtual index, 3)) (hsum : (st.map fun v => v.category).sum ≤ 8) (kk : ∀ v : Int64, Cp M w sh nL ι (pc + 3) lv (.long v :: st) σ (g v)) : Cp M w sh nL ι pc lv (As.reverse ++ .ref (wad w k) :: st) σ (f.bind g) := fun a ha ls H locs hlv hP hS => by
  obtain ⟨z0, h0, h1⟩ := Option.bind_eq_some_iff.mp ha
  exact runVM X hC (hk z0 h0) hs hq hq1 hl hf hn hd hsum hlv.1 hP hS (fun H1 locs1 hP1 hS1 => kk z0 a h1 ls H1 locs1 hlv hP1 hS1)
theorem Cp.cVIM (X : Cx M w sh cc nL own ret d) {k ci : Nat} {q : vw_C} {fs : List (Option Nat)} (As : List Value) (hC : CalV y cc' nL' ret' n) {f : Option (Int32 × Mem)} {g : Int32 × Mem → Option α} (hk : ∀ v, f = some v → Ctr (ml M) w sh y cc' nL' ret' d' (.ref (wad w k) :: As) σ ((fun v : Int32 × Mem => (some (.int v.1), v.2)) v)) (hs : sh[k]? = some (.inr (ci, fs))) (hq : vwCl[ci]? = some q) (hq1 : q.1 = y.cls) (hl : Cond.methodLink own index y ∈ TB) (hf : fitR d d' nL' = true) (hn : As.length = n) (hd : decode cc pc = .ok (.invokevirtual index, 3)) (hsum : (st.map fun v => v.category).sum ≤ 8) (kk : ∀ (v : Int32) (τ : Mem), Cp M w sh nL ι (pc + 3) lv (.int v :: st) τ (g (v, τ))) : Cp M w sh nL ι pc lv (As.reverse ++ .ref (wad w k) :: st) σ (f.bind g) := fun a ha ls H locs hlv hP hS => by
  obtain ⟨z0, h0, h1⟩ := Option.bind_eq_some_iff.mp ha
  exact runVM X hC (hk z0 h0) hs hq hq1 hl hf hn hd hsum hlv.1 hP hS (fun H1 locs1 hP1 hS1 => kk z0.1 z0.2 a h1 ls H1 locs1 hlv hP1 hS1)
theorem Cp.cVBM (X : Cx M w sh cc nL own ret d) {k ci : Nat} {q : vw_C} {fs : List (Option Nat)} (As : List Value) (hC : CalV y cc' nL' ret' n) {f : Option (Bool × Mem)} {g : Bool × Mem → Option α} (hk : ∀ v, f = some v → Ctr (ml M) w sh y cc' nL' ret' d' (.ref (wad w k) :: As) σ ((fun v : Bool × Mem => (some (.int (b2i v.1)), v.2)) v)) (hs : sh[k]? = some (.inr (ci, fs))) (hq : vwCl[ci]? = some q) (hq1 : q.1 = y.cls) (hl : Cond.methodLink own index y ∈ TB) (hf : fitR d d' nL' = true) (hn : As.length = n) (hd : decode cc pc = .ok (.invokevirtual index, 3)) (hsum : (st.map fun v => v.category).sum ≤ 8) (kk : ∀ (v : Bool) (τ : Mem), Cp M w sh nL ι (pc + 3) lv (.int (b2i v) :: st) τ (g (v, τ))) : Cp M w sh nL ι pc lv (As.reverse ++ .ref (wad w k) :: st) σ (f.bind g) := fun a ha ls H locs hlv hP hS => by
  obtain ⟨z0, h0, h1⟩ := Option.bind_eq_some_iff.mp ha
  exact runVM X hC (hk z0 h0) hs hq hq1 hl hf hn hd hsum hlv.1 hP hS (fun H1 locs1 hP1 hS1 => kk z0.1 z0.2 a h1 ls H1 locs1 hlv hP1 hS1)
theorem Cp.cVV (X : Cx M w sh cc nL own ret d) {k ci : Nat} {q : vw_C} {fs : List (Option Nat)} (As : List Value) (hC : CalV y cc' nL' ret' n) {f : Option Mem} {g : Mem → Option α} (hk : ∀ v, f = some v → Ctr (ml M) w sh y cc' nL' ret' d' (.ref (wad w k) :: As) σ ((fun τ : Mem => (none, τ)) v)) (hs : sh[k]? = some (.inr (ci, fs))) (hq : vwCl[ci]? = some q) (hq1 : q.1 = y.cls) (hl : Cond.methodLink own index y ∈ TB) (hf : fitR d d' nL' = true) (hn : As.length = n) (hd : decode cc pc = .ok (.invokevirtual index, 3)) (hsum : (st.map fun v => v.category).sum ≤ 8) (kk : ∀ τ : Mem, Cp M w sh nL ι (pc + 3) lv st τ (g τ)) : Cp M w sh nL ι pc lv (As.reverse ++ .ref (wad w k) :: st) σ (f.bind g) := fun a ha ls H locs hlv hP hS => by
  obtain ⟨z0, h0, h1⟩ := Option.bind_eq_some_iff.mp ha
  exact runVM X hC (hk z0 h0) hs hq hq1 hl hf hn hd hsum hlv.1 hP hS (fun H1 locs1 hP1 hS1 => kk z0 a h1 ls H1 locs1 hlv hP1 hS1)
theorem Cp.cVIT (X : Cx M w sh cc nL own ret d) {k ci : Nat} {q : vw_C} {fs : List (Option Nat)} (As : List Value) (hC : CalV y cc' nL' ret' n) {v : Int32} (hk : Ctr (ml M) w sh y cc' nL' ret' d' (.ref (wad w k) :: As) σ (some (.int v), σ)) (hs : sh[k]? = some (.inr (ci, fs))) (hq : vwCl[ci]? = some q) (hq1 : q.1 = y.cls) (hl : Cond.methodLink own index y ∈ TB) (hf : fitR d d' nL' = true) (hn : As.length = n) (hd : decode cc pc = .ok (.invokevirtual index, 3)) (hsum : (st.map fun v => v.category).sum ≤ 8) (kk : Cp M w sh nL ι (pc + 3) lv (.int v :: st) σ b) : Cp M w sh nL ι pc lv (As.reverse ++ .ref (wad w k) :: st) σ b := fun a ha ls H locs hlv hP hS => runVM X hC hk hs hq hq1 hl hf hn hd hsum hlv.1 hP hS (fun H1 locs1 hP1 hS1 => kk a ha ls H1 locs1 hlv hP1 hS1)
theorem Cp.cVBT (X : Cx M w sh cc nL own ret d) {k ci : Nat} {q : vw_C} {fs : List (Option Nat)} (As : List Value) (hC : CalV y cc' nL' ret' n) {v : Bool} (hk : Ctr (ml M) w sh y cc' nL' ret' d' (.ref (wad w k) :: As) σ (some (.int (b2i v)), σ)) (hs : sh[k]? = some (.inr (ci, fs))) (hq : vwCl[ci]? = some q) (hq1 : q.1 = y.cls) (hl : Cond.methodLink own index y ∈ TB) (hf : fitR d d' nL' = true) (hn : As.length = n) (hd : decode cc pc = .ok (.invokevirtual index, 3)) (hsum : (st.map fun v => v.category).sum ≤ 8) (kk : Cp M w sh nL ι (pc + 3) lv (.int (b2i v) :: st) σ b) : Cp M w sh nL ι pc lv (As.reverse ++ .ref (wad w k) :: st) σ b := fun a ha ls H locs hlv hP hS => runVM X hC hk hs hq hq1 hl hf hn hd hsum hlv.1 hP hS (fun H1 locs1 hP1 hS1 => kk a ha ls H1 locs1 hlv hP1 hS1)
theorem Cp.cVLT (X : Cx M w sh cc nL own ret d) {k ci : Nat} {q : vw_C} {fs : List (Option Nat)} (As : List Value) (hC : CalV y cc' nL' ret' n) {v : Int64} (hk : Ctr (ml M) w sh y cc' nL' ret' d' (.ref (wad w k) :: As) σ (some (.long v), σ)) (hs : sh[k]? = some (.inr (ci, fs))) (hq : vwCl[ci]? = some q) (hq1 : q.1 = y.cls) (hl : Cond.methodLink own index y ∈ TB) (hf : fitR d d' nL' = true) (hn : As.length = n) (hd : decode cc pc = .ok (.invokevirtual index, 3)) (hsum : (st.map fun v => v.category).sum ≤ 8) (kk : Cp M w sh nL ι (pc + 3) lv (.long v :: st) σ b) : Cp M w sh nL ι pc lv (As.reverse ++ .ref (wad w k) :: st) σ b := fun a ha ls H locs hlv hP hS => runVM X hC hk hs hq hq1 hl hf hn hd hsum hlv.1 hP hS (fun H1 locs1 hP1 hS1 => kk a ha ls H1 locs1 hlv hP1 hS1)
theorem Cp.cVRT (X : Cx M w sh cc nL own ret d) {k ci : Nat} {q : vw_C} {fs : List (Option Nat)} (As : List Value) (hC : CalV y cc' nL' ret' n) {v : Nat} (hk : Ctr (ml M) w sh y cc' nL' ret' d' (.ref (wad w k) :: As) σ (some (.ref v), σ)) (hs : sh[k]? = some (.inr (ci, fs))) (hq : vwCl[ci]? = some q) (hq1 : q.1 = y.cls) (hl : Cond.methodLink own index y ∈ TB) (hf : fitR d d' nL' = true) (hn : As.length = n) (hd : decode cc pc = .ok (.invokevirtual index, 3)) (hsum : (st.map fun v => v.category).sum ≤ 8) (kk : Cp M w sh nL ι (pc + 3) lv (.ref v :: st) σ b) : Cp M w sh nL ι pc lv (As.reverse ++ .ref (wad w k) :: st) σ b := fun a ha ls H locs hlv hP hS => runVM X hC hk hs hq hq1 hl hf hn hd hsum hlv.1 hP hS (fun H1 locs1 hP1 hS1 => kk a ha ls H1 locs1 hlv hP1 hS1)
theorem Cp.cVVT (X : Cx M w sh cc nL own ret d) {k ci : Nat} {q : vw_C} {fs : List (Option Nat)} (As : List Value) (hC : CalV y cc' nL' ret' n) {τ : Mem} (hk : Ctr (ml M) w sh y cc' nL' ret' d' (.ref (wad w k) :: As) σ (none, τ)) (hs : sh[k]? = some (.inr (ci, fs))) (hq : vwCl[ci]? = some q) (hq1 : q.1 = y.cls) (hl : Cond.methodLink own index y ∈ TB) (hf : fitR d d' nL' = true) (hn : As.length = n) (hd : decode cc pc = .ok (.invokevirtual index, 3)) (hsum : (st.map fun v => v.category).sum ≤ 8) (kk : Cp M w sh nL ι (pc + 3) lv st τ b) : Cp M w sh nL ι pc lv (As.reverse ++ .ref (wad w k) :: st) σ b := fun a ha ls H locs hlv hP hS => runVM X hC hk hs hq hq1 hl hf hn hd hsum hlv.1 hP hS (fun H1 locs1 hP1 hS1 => kk a ha ls H1 locs1 hlv hP1 hS1)
theorem Cp.cVIMT (X : Cx M w sh cc nL own ret d) {k ci : Nat} {q : vw_C} {fs : List (Option Nat)} (As : List Value) (hC : CalV y cc' nL' ret' n) {v : Int32} {τ : Mem} (hk : Ctr (ml M) w sh y cc' nL' ret' d' (.ref (wad w k) :: As) σ (some (.int v), τ)) (hs : sh[k]? = some (.inr (ci, fs))) (hq : vwCl[ci]? = some q) (hq1 : q.1 = y.cls) (hl : Cond.methodLink own index y ∈ TB) (hf : fitR d d' nL' = true) (hn : As.length = n) (hd : decode cc pc = .ok (.invokevirtual index, 3)) (hsum : (st.map fun v => v.category).sum ≤ 8) (kk : Cp M w sh nL ι (pc + 3) lv (.int v :: st) τ b) : Cp M w sh nL ι pc lv (As.reverse ++ .ref (wad w k) :: st) σ b := fun a ha ls H locs hlv hP hS => runVM X hC hk hs hq hq1 hl hf hn hd hsum hlv.1 hP hS (fun H1 locs1 hP1 hS1 => kk a ha ls H1 locs1 hlv hP1 hS1)
theorem Cp.cSI (X : Cx M w sh cc nL own ret d) (As : List Value) (hC : CalS y cc' nL' ret' n) {f : Option Int32} {g : Int32 → Option α} (hk : ∀ v, f = some v → Ctr (ml M) w sh y cc' nL' ret' d' As σ ((fun v : Int32 => (some (.int v), σ)) v)) (hl : Cond.methodLink own index y ∈ TB) (hf : fitR d d' nL' = true) (hn : As.length = n) (hd : decode cc pc = .ok (.invokestatic index, 3)) (hsum : (st.map fun v => v.category).sum ≤ 8) (kk : ∀ v : Int32, Cp M w sh nL ι (pc + 3) lv (.int v :: st) σ (g v)) : Cp M w sh nL ι pc lv (As.reverse ++ st) σ (f.bind g) := fun a ha ls H locs hlv hP hS => by
  obtain ⟨z0, h0, h1⟩ := Option.bind_eq_some_iff.mp ha
  exact runSM X hC (hk z0 h0) hl hf hn hd hsum hlv.1 hP hS (fun H1 locs1 hP1 hS1 => kk z0 a h1 ls H1 locs1 hlv hP1 hS1)
theorem Cp.cSB (X : Cx M w sh cc nL own ret d) (As : List Value) (hC : CalS y cc' nL' ret' n) {f : Option Bool} {g : Bool → Option α} (hk : ∀ v, f = some v → Ctr (ml M) w sh y cc' nL' ret' d' As σ ((fun v : Bool => (some (.int (b2i v)), σ)) v)) (hl : Cond.methodLink own index y ∈ TB) (hf : fitR d d' nL' = true) (hn : As.length = n) (hd : decode cc pc = .ok (.invokestatic index, 3)) (hsum : (st.map fun v => v.category).sum ≤ 8) (kk : ∀ v : Bool, Cp M w sh nL ι (pc + 3) lv (.int (b2i v) :: st) σ (g v)) : Cp M w sh nL ι pc lv (As.reverse ++ st) σ (f.bind g) := fun a ha ls H locs hlv hP hS => by
  obtain ⟨z0, h0, h1⟩ := Option.bind_eq_some_iff.mp ha
  exact runSM X hC (hk z0 h0) hl hf hn hd hsum hlv.1 hP hS (fun H1 locs1 hP1 hS1 => kk z0 a h1 ls H1 locs1 hlv hP1 hS1)
theorem Cp.cSL (X : Cx M w sh cc nL own ret d) (As : List Value) (hC : CalS y cc' nL' ret' n) {f : Option Int64} {g : Int64 → Option α} (hk : ∀ v, f = some v → Ctr (ml M) w sh y cc' nL' ret' d' As σ ((fun v : Int64 => (some (.long v), σ)) v)) (hl : Cond.methodLink own index y ∈ TB) (hf : fitR d d' nL' = true) (hn : As.length = n) (hd : decode cc pc = .ok (.invokestatic index, 3)) (hsum : (st.map fun v => v.category).sum ≤ 8) (kk : ∀ v : Int64, Cp M w sh nL ι (pc + 3) lv (.long v :: st) σ (g v)) : Cp M w sh nL ι pc lv (As.reverse ++ st) σ (f.bind g) := fun a ha ls H locs hlv hP hS => by
  obtain ⟨z0, h0, h1⟩ := Option.bind_eq_some_iff.mp ha
  exact runSM X hC (hk z0 h0) hl hf hn hd hsum hlv.1 hP hS (fun H1 locs1 hP1 hS1 => kk z0 a h1 ls H1 locs1 hlv hP1 hS1)
theorem Cp.cSIM (X : Cx M w sh cc nL own ret d) (As : List Value) (hC : CalS y cc' nL' ret' n) {f : Option (Int32 × Mem)} {g : Int32 × Mem → Option α} (hk : ∀ v, f = some v → Ctr (ml M) w sh y cc' nL' ret' d' As σ ((fun v : Int32 × Mem => (some (.int v.1), v.2)) v)) (hl : Cond.methodLink own index y ∈ TB) (hf : fitR d d' nL' = true) (hn : As.length = n) (hd : decode cc pc = .ok (.invokestatic index, 3)) (hsum : (st.map fun v => v.category).sum ≤ 8) (kk : ∀ (v : Int32) (τ : Mem), Cp M w sh nL ι (pc + 3) lv (.int v :: st) τ (g (v, τ))) : Cp M w sh nL ι pc lv (As.reverse ++ st) σ (f.bind g) := fun a ha ls H locs hlv hP hS => by
  obtain ⟨z0, h0, h1⟩ := Option.bind_eq_some_iff.mp ha
  exact runSM X hC (hk z0 h0) hl hf hn hd hsum hlv.1 hP hS (fun H1 locs1 hP1 hS1 => kk z0.1 z0.2 a h1 ls H1 locs1 hlv hP1 hS1)
theorem Cp.cSBM (X : Cx M w sh cc nL own ret d) (As : List Value) (hC : CalS y cc' nL' ret' n) {f : Option (Bool × Mem)} {g : Bool × Mem → Option α} (hk : ∀ v, f = some v → Ctr (ml M) w sh y cc' nL' ret' d' As σ ((fun v : Bool × Mem => (some (.int (b2i v.1)), v.2)) v)) (hl : Cond.methodLink own index y ∈ TB) (hf : fitR d d' nL' = true) (hn : As.length = n) (hd : decode cc pc = .ok (.invokestatic index, 3)) (hsum : (st.map fun v => v.category).sum ≤ 8) (kk : ∀ (v : Bool) (τ : Mem), Cp M w sh nL ι (pc + 3) lv (.int (b2i v) :: st) τ (g (v, τ))) : Cp M w sh nL ι pc lv (As.reverse ++ st) σ (f.bind g) := fun a ha ls H locs hlv hP hS => by
  obtain ⟨z0, h0, h1⟩ := Option.bind_eq_some_iff.mp ha
  exact runSM X hC (hk z0 h0) hl hf hn hd hsum hlv.1 hP hS (fun H1 locs1 hP1 hS1 => kk z0.1 z0.2 a h1 ls H1 locs1 hlv hP1 hS1)
theorem Cp.cSV (X : Cx M w sh cc nL own ret d) (As : List Value) (hC : CalS y cc' nL' ret' n) {f : Option Mem} {g : Mem → Option α} (hk : ∀ v, f = some v → Ctr (ml M) w sh y cc' nL' ret' d' As σ ((fun τ : Mem => (none, τ)) v)) (hl : Cond.methodLink own index y ∈ TB) (hf : fitR d d' nL' = true) (hn : As.length = n) (hd : decode cc pc = .ok (.invokestatic index, 3)) (hsum : (st.map fun v => v.category).sum ≤ 8) (kk : ∀ τ : Mem, Cp M w sh nL ι (pc + 3) lv st τ (g τ)) : Cp M w sh nL ι pc lv (As.reverse ++ st) σ (f.bind g) := fun a ha ls H locs hlv hP hS => by
  obtain ⟨z0, h0, h1⟩ := Option.bind_eq_some_iff.mp ha
  exact runSM X hC (hk z0 h0) hl hf hn hd hsum hlv.1 hP hS (fun H1 locs1 hP1 hS1 => kk z0 a h1 ls H1 locs1 hlv hP1 hS1)
theorem Cp.cSIT (X : Cx M w sh cc nL own ret d) (As : List Value) (hC : CalS y cc' nL' ret' n) {v : Int32} (hk : Ctr (ml M) w sh y cc' nL' ret' d' As σ (some (.int v), σ)) (hl : Cond.methodLink own index y ∈ TB) (hf : fitR d d' nL' = true) (hn : As.length = n) (hd : decode cc pc = .ok (.invokestatic index, 3)) (hsum : (st.map fun v => v.category).sum ≤ 8) (kk : Cp M w sh nL ι (pc + 3) lv (.int v :: st) σ b) : Cp M w sh nL ι pc lv (As.reverse ++ st) σ b := fun a ha ls H locs hlv hP hS => runSM X hC hk hl hf hn hd hsum hlv.1 hP hS (fun H1 locs1 hP1 hS1 => kk a ha ls H1 locs1 hlv hP1 hS1)
theorem Cp.cSBT (X : Cx M w sh cc nL own ret d) (As : List Value) (hC : CalS y cc' nL' ret' n) {v : Bool} (hk : Ctr (ml M) w sh y cc' nL' ret' d' As σ (some (.int (b2i v)), σ)) (hl : Cond.methodLink own index y ∈ TB) (hf : fitR d d' nL' = true) (hn : As.length = n) (hd : decode cc pc = .ok (.invokestatic index, 3)) (hsum : (st.map fun v => v.category).sum ≤ 8) (kk : Cp M w sh nL ι (pc + 3) lv (.int (b2i v) :: st) σ b) : Cp M w sh nL ι pc lv (As.reverse ++ st) σ b := fun a ha ls H locs hlv hP hS => runSM X hC hk hl hf hn hd hsum hlv.1 hP hS (fun H1 locs1 hP1 hS1 => kk a ha ls H1 locs1 hlv hP1 hS1)
theorem Cp.cSLT (X : Cx M w sh cc nL own ret d) (As : List Value) (hC : CalS y cc' nL' ret' n) {v : Int64} (hk : Ctr (ml M) w sh y cc' nL' ret' d' As σ (some (.long v), σ)) (hl : Cond.methodLink own index y ∈ TB) (hf : fitR d d' nL' = true) (hn : As.length = n) (hd : decode cc pc = .ok (.invokestatic index, 3)) (hsum : (st.map fun v => v.category).sum ≤ 8) (kk : Cp M w sh nL ι (pc + 3) lv (.long v :: st) σ b) : Cp M w sh nL ι pc lv (As.reverse ++ st) σ b := fun a ha ls H locs hlv hP hS => runSM X hC hk hl hf hn hd hsum hlv.1 hP hS (fun H1 locs1 hP1 hS1 => kk a ha ls H1 locs1 hlv hP1 hS1)
theorem Cp.cSRT (X : Cx M w sh cc nL own ret d) (As : List Value) (hC : CalS y cc' nL' ret' n) {v : Nat} (hk : Ctr (ml M) w sh y cc' nL' ret' d' As σ (some (.ref v), σ)) (hl : Cond.methodLink own index y ∈ TB) (hf : fitR d d' nL' = true) (hn : As.length = n) (hd : decode cc pc = .ok (.invokestatic index, 3)) (hsum : (st.map fun v => v.category).sum ≤ 8) (kk : Cp M w sh nL ι (pc + 3) lv (.ref v :: st) σ b) : Cp M w sh nL ι pc lv (As.reverse ++ st) σ b := fun a ha ls H locs hlv hP hS => runSM X hC hk hl hf hn hd hsum hlv.1 hP hS (fun H1 locs1 hP1 hS1 => kk a ha ls H1 locs1 hlv hP1 hS1)
theorem Cp.cSVT (X : Cx M w sh cc nL own ret d) (As : List Value) (hC : CalS y cc' nL' ret' n) {τ : Mem} (hk : Ctr (ml M) w sh y cc' nL' ret' d' As σ (none, τ)) (hl : Cond.methodLink own index y ∈ TB) (hf : fitR d d' nL' = true) (hn : As.length = n) (hd : decode cc pc = .ok (.invokestatic index, 3)) (hsum : (st.map fun v => v.category).sum ≤ 8) (kk : Cp M w sh nL ι (pc + 3) lv st τ b) : Cp M w sh nL ι pc lv (As.reverse ++ st) σ b := fun a ha ls H locs hlv hP hS => runSM X hC hk hl hf hn hd hsum hlv.1 hP hS (fun H1 locs1 hP1 hS1 => kk a ha ls H1 locs1 hlv hP1 hS1)
theorem Cp.cSIMT (X : Cx M w sh cc nL own ret d) (As : List Value) (hC : CalS y cc' nL' ret' n) {v : Int32} {τ : Mem} (hk : Ctr (ml M) w sh y cc' nL' ret' d' As σ (some (.int v), τ)) (hl : Cond.methodLink own index y ∈ TB) (hf : fitR d d' nL' = true) (hn : As.length = n) (hd : decode cc pc = .ok (.invokestatic index, 3)) (hsum : (st.map fun v => v.category).sum ≤ 8) (kk : Cp M w sh nL ι (pc + 3) lv (.int v :: st) τ b) : Cp M w sh nL ι pc lv (As.reverse ++ st) σ b := fun a ha ls H locs hlv hP hS => runSM X hC hk hl hf hn hd hsum hlv.1 hP hS (fun H1 locs1 hP1 hS1 => kk a ha ls H1 locs1 hlv hP1 hS1)
theorem Cp.cNI (X : Cx M w sh cc nL own ret d) {host : String} (As : List Value) (hC : CalS y cc' nL' ret' n) {f : Option Int32} {g : Int32 → Option α} (hk : ∀ v, f = some v → Ctr (ml M) w sh y cc' nL' ret' d' As σ ((fun v : Int32 => (some (.int v), σ)) v)) (hl : Cond.methodLinkNest own index y host ∈ TB) (hf : fitR d d' nL' = true) (hn : As.length = n) (hd : decode cc pc = .ok (.invokestatic index, 3)) (hsum : (st.map fun v => v.category).sum ≤ 8) (kk : ∀ v : Int32, Cp M w sh nL ι (pc + 3) lv (.int v :: st) σ (g v)) : Cp M w sh nL ι pc lv (As.reverse ++ st) σ (f.bind g) := fun a ha ls H locs hlv hP hS => by
  obtain ⟨z0, h0, h1⟩ := Option.bind_eq_some_iff.mp ha
  exact runSNM X hC (hk z0 h0) hl hf hn hd hsum hlv.1 hP hS (fun H1 locs1 hP1 hS1 => kk z0 a h1 ls H1 locs1 hlv hP1 hS1)
theorem Cp.cNB (X : Cx M w sh cc nL own ret d) {host : String} (As : List Value) (hC : CalS y cc' nL' ret' n) {f : Option Bool} {g : Bool → Option α} (hk : ∀ v, f = some v → Ctr (ml M) w sh y cc' nL' ret' d' As σ ((fun v : Bool => (some (.int (b2i v)), σ)) v)) (hl : Cond.methodLinkNest own index y host ∈ TB) (hf : fitR d d' nL' = true) (hn : As.length = n) (hd : decode cc pc = .ok (.invokestatic index, 3)) (hsum : (st.map fun v => v.category).sum ≤ 8) (kk : ∀ v : Bool, Cp M w sh nL ι (pc + 3) lv (.int (b2i v) :: st) σ (g v)) : Cp M w sh nL ι pc lv (As.reverse ++ st) σ (f.bind g) := fun a ha ls H locs hlv hP hS => by
  obtain ⟨z0, h0, h1⟩ := Option.bind_eq_some_iff.mp ha
  exact runSNM X hC (hk z0 h0) hl hf hn hd hsum hlv.1 hP hS (fun H1 locs1 hP1 hS1 => kk z0 a h1 ls H1 locs1 hlv hP1 hS1)
theorem Cp.cNL (X : Cx M w sh cc nL own ret d) {host : String} (As : List Value) (hC : CalS y cc' nL' ret' n) {f : Option Int64} {g : Int64 → Option α} (hk : ∀ v, f = some v → Ctr (ml M) w sh y cc' nL' ret' d' As σ ((fun v : Int64 => (some (.long v), σ)) v)) (hl : Cond.methodLinkNest own index y host ∈ TB) (hf : fitR d d' nL' = true) (hn : As.length = n) (hd : decode cc pc = .ok (.invokestatic index, 3)) (hsum : (st.map fun v => v.category).sum ≤ 8) (kk : ∀ v : Int64, Cp M w sh nL ι (pc + 3) lv (.long v :: st) σ (g v)) : Cp M w sh nL ι pc lv (As.reverse ++ st) σ (f.bind g) := fun a ha ls H locs hlv hP hS => by
  obtain ⟨z0, h0, h1⟩ := Option.bind_eq_some_iff.mp ha
  exact runSNM X hC (hk z0 h0) hl hf hn hd hsum hlv.1 hP hS (fun H1 locs1 hP1 hS1 => kk z0 a h1 ls H1 locs1 hlv hP1 hS1)
theorem Cp.cNIM (X : Cx M w sh cc nL own ret d) {host : String} (As : List Value) (hC : CalS y cc' nL' ret' n) {f : Option (Int32 × Mem)} {g : Int32 × Mem → Option α} (hk : ∀ v, f = some v → Ctr (ml M) w sh y cc' nL' ret' d' As σ ((fun v : Int32 × Mem => (some (.int v.1), v.2)) v)) (hl : Cond.methodLinkNest own index y host ∈ TB) (hf : fitR d d' nL' = true) (hn : As.length = n) (hd : decode cc pc = .ok (.invokestatic index, 3)) (hsum : (st.map fun v => v.category).sum ≤ 8) (kk : ∀ (v : Int32) (τ : Mem), Cp M w sh nL ι (pc + 3) lv (.int v :: st) τ (g (v, τ))) : Cp M w sh nL ι pc lv (As.reverse ++ st) σ (f.bind g) := fun a ha ls H locs hlv hP hS => by
  obtain ⟨z0, h0, h1⟩ := Option.bind_eq_some_iff.mp ha
  exact runSNM X hC (hk z0 h0) hl hf hn hd hsum hlv.1 hP hS (fun H1 locs1 hP1 hS1 => kk z0.1 z0.2 a h1 ls H1 locs1 hlv hP1 hS1)
theorem Cp.cNBM (X : Cx M w sh cc nL own ret d) {host : String} (As : List Value) (hC : CalS y cc' nL' ret' n) {f : Option (Bool × Mem)} {g : Bool × Mem → Option α} (hk : ∀ v, f = some v → Ctr (ml M) w sh y cc' nL' ret' d' As σ ((fun v : Bool × Mem => (some (.int (b2i v.1)), v.2)) v)) (hl : Cond.methodLinkNest own index y host ∈ TB) (hf : fitR d d' nL' = true) (hn : As.length = n) (hd : decode cc pc = .ok (.invokestatic index, 3)) (hsum : (st.map fun v => v.category).sum ≤ 8) (kk : ∀ (v : Bool) (τ : Mem), Cp M w sh nL ι (pc + 3) lv (.int (b2i v) :: st) τ (g (v, τ))) : Cp M w sh nL ι pc lv (As.reverse ++ st) σ (f.bind g) := fun a ha ls H locs hlv hP hS => by
  obtain ⟨z0, h0, h1⟩ := Option.bind_eq_some_iff.mp ha
  exact runSNM X hC (hk z0 h0) hl hf hn hd hsum hlv.1 hP hS (fun H1 locs1 hP1 hS1 => kk z0.1 z0.2 a h1 ls H1 locs1 hlv hP1 hS1)
theorem Cp.cNV (X : Cx M w sh cc nL own ret d) {host : String} (As : List Value) (hC : CalS y cc' nL' ret' n) {f : Option Mem} {g : Mem → Option α} (hk : ∀ v, f = some v → Ctr (ml M) w sh y cc' nL' ret' d' As σ ((fun τ : Mem => (none, τ)) v)) (hl : Cond.methodLinkNest own index y host ∈ TB) (hf : fitR d d' nL' = true) (hn : As.length = n) (hd : decode cc pc = .ok (.invokestatic index, 3)) (hsum : (st.map fun v => v.category).sum ≤ 8) (kk : ∀ τ : Mem, Cp M w sh nL ι (pc + 3) lv st τ (g τ)) : Cp M w sh nL ι pc lv (As.reverse ++ st) σ (f.bind g) := fun a ha ls H locs hlv hP hS => by
  obtain ⟨z0, h0, h1⟩ := Option.bind_eq_some_iff.mp ha
  exact runSNM X hC (hk z0 h0) hl hf hn hd hsum hlv.1 hP hS (fun H1 locs1 hP1 hS1 => kk z0 a h1 ls H1 locs1 hlv hP1 hS1)
theorem Cp.cNIT (X : Cx M w sh cc nL own ret d) {host : String} (As : List Value) (hC : CalS y cc' nL' ret' n) {v : Int32} (hk : Ctr (ml M) w sh y cc' nL' ret' d' As σ (some (.int v), σ)) (hl : Cond.methodLinkNest own index y host ∈ TB) (hf : fitR d d' nL' = true) (hn : As.length = n) (hd : decode cc pc = .ok (.invokestatic index, 3)) (hsum : (st.map fun v => v.category).sum ≤ 8) (kk : Cp M w sh nL ι (pc + 3) lv (.int v :: st) σ b) : Cp M w sh nL ι pc lv (As.reverse ++ st) σ b := fun a ha ls H locs hlv hP hS => runSNM X hC hk hl hf hn hd hsum hlv.1 hP hS (fun H1 locs1 hP1 hS1 => kk a ha ls H1 locs1 hlv hP1 hS1)
theorem Cp.cNBT (X : Cx M w sh cc nL own ret d) {host : String} (As : List Value) (hC : CalS y cc' nL' ret' n) {v : Bool} (hk : Ctr (ml M) w sh y cc' nL' ret' d' As σ (some (.int (b2i v)), σ)) (hl : Cond.methodLinkNest own index y host ∈ TB) (hf : fitR d d' nL' = true) (hn : As.length = n) (hd : decode cc pc = .ok (.invokestatic index, 3)) (hsum : (st.map fun v => v.category).sum ≤ 8) (kk : Cp M w sh nL ι (pc + 3) lv (.int (b2i v) :: st) σ b) : Cp M w sh nL ι pc lv (As.reverse ++ st) σ b := fun a ha ls H locs hlv hP hS => runSNM X hC hk hl hf hn hd hsum hlv.1 hP hS (fun H1 locs1 hP1 hS1 => kk a ha ls H1 locs1 hlv hP1 hS1)
theorem Cp.cNLT (X : Cx M w sh cc nL own ret d) {host : String} (As : List Value) (hC : CalS y cc' nL' ret' n) {v : Int64} (hk : Ctr (ml M) w sh y cc' nL' ret' d' As σ (some (.long v), σ)) (hl : Cond.methodLinkNest own index y host ∈ TB) (hf : fitR d d' nL' = true) (hn : As.length = n) (hd : decode cc pc = .ok (.invokestatic index, 3)) (hsum : (st.map fun v => v.category).sum ≤ 8) (kk : Cp M w sh nL ι (pc + 3) lv (.long v :: st) σ b) : Cp M w sh nL ι pc lv (As.reverse ++ st) σ b := fun a ha ls H locs hlv hP hS => runSNM X hC hk hl hf hn hd hsum hlv.1 hP hS (fun H1 locs1 hP1 hS1 => kk a ha ls H1 locs1 hlv hP1 hS1)
theorem Cp.cNRT (X : Cx M w sh cc nL own ret d) {host : String} (As : List Value) (hC : CalS y cc' nL' ret' n) {v : Nat} (hk : Ctr (ml M) w sh y cc' nL' ret' d' As σ (some (.ref v), σ)) (hl : Cond.methodLinkNest own index y host ∈ TB) (hf : fitR d d' nL' = true) (hn : As.length = n) (hd : decode cc pc = .ok (.invokestatic index, 3)) (hsum : (st.map fun v => v.category).sum ≤ 8) (kk : Cp M w sh nL ι (pc + 3) lv (.ref v :: st) σ b) : Cp M w sh nL ι pc lv (As.reverse ++ st) σ b := fun a ha ls H locs hlv hP hS => runSNM X hC hk hl hf hn hd hsum hlv.1 hP hS (fun H1 locs1 hP1 hS1 => kk a ha ls H1 locs1 hlv hP1 hS1)
theorem Cp.cNVT (X : Cx M w sh cc nL own ret d) {host : String} (As : List Value) (hC : CalS y cc' nL' ret' n) {τ : Mem} (hk : Ctr (ml M) w sh y cc' nL' ret' d' As σ (none, τ)) (hl : Cond.methodLinkNest own index y host ∈ TB) (hf : fitR d d' nL' = true) (hn : As.length = n) (hd : decode cc pc = .ok (.invokestatic index, 3)) (hsum : (st.map fun v => v.category).sum ≤ 8) (kk : Cp M w sh nL ι (pc + 3) lv st τ b) : Cp M w sh nL ι pc lv (As.reverse ++ st) σ b := fun a ha ls H locs hlv hP hS => runSNM X hC hk hl hf hn hd hsum hlv.1 hP hS (fun H1 locs1 hP1 hS1 => kk a ha ls H1 locs1 hlv hP1 hS1)
theorem Cp.cNIMT (X : Cx M w sh cc nL own ret d) {host : String} (As : List Value) (hC : CalS y cc' nL' ret' n) {v : Int32} {τ : Mem} (hk : Ctr (ml M) w sh y cc' nL' ret' d' As σ (some (.int v), τ)) (hl : Cond.methodLinkNest own index y host ∈ TB) (hf : fitR d d' nL' = true) (hn : As.length = n) (hd : decode cc pc = .ok (.invokestatic index, 3)) (hsum : (st.map fun v => v.category).sum ≤ 8) (kk : Cp M w sh nL ι (pc + 3) lv (.int v :: st) τ b) : Cp M w sh nL ι pc lv (As.reverse ++ st) σ b := fun a ha ls H locs hlv hP hS => runSNM X hC hk hl hf hn hd hsum hlv.1 hP hS (fun H1 locs1 hP1 hS1 => kk a ha ls H1 locs1 hlv hP1 hS1)
end
end
