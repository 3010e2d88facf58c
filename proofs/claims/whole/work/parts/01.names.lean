-- ===== PART A: goes FIRST, ahead of the names: the tables' words, and 'selects' of the private methods out of them =====
/-- a private method of a class that the tables say can be made, by its rows of tables_1 -/
def lw_okq (q : MethodName × Nat) : Prop := (q.1.cls ≠ "java/lang/invoke/MethodHandle" ∧ q.1.cls ≠ "java/lang/invoke/VarHandle") ∧ Cond.instantiable q.1.cls q.2 ∈ tables_1 ∧ Cond.privateMethod q.1 ∈ tables_1 ∧ Cond.instanceMethod q.1 ∈ tables_1
theorem lw_p0 : lw_okq (⟨"LaughTax", "found", "(I)I"⟩, 8) := ⟨⟨by decide +kernel, by decide +kernel⟩, List.mem_of_getElem? (i := 16) (by decide +kernel), List.mem_of_getElem? (i := 220) (by decide +kernel), List.mem_of_getElem? (i := 221) (by decide +kernel)⟩
theorem lw_p1 : lw_okq (⟨"LaughTax$Room", "renewNear", "()V"⟩, 16) := ⟨⟨by decide +kernel, by decide +kernel⟩, List.mem_of_getElem? (i := 24) (by decide +kernel), List.mem_of_getElem? (i := 229) (by decide +kernel), List.mem_of_getElem? (i := 230) (by decide +kernel)⟩
theorem lw_p2 : lw_okq (⟨"LaughTax", "hasPerson", "(I)Z"⟩, 8) := ⟨⟨by decide +kernel, by decide +kernel⟩, List.mem_of_getElem? (i := 16) (by decide +kernel), List.mem_of_getElem? (i := 240) (by decide +kernel), List.mem_of_getElem? (i := 241) (by decide +kernel)⟩
theorem lw_p3 : lw_okq (⟨"LaughTax", "moveTo", "(II)I"⟩, 8) := ⟨⟨by decide +kernel, by decide +kernel⟩, List.mem_of_getElem? (i := 16) (by decide +kernel), List.mem_of_getElem? (i := 269) (by decide +kernel), List.mem_of_getElem? (i := 270) (by decide +kernel)⟩
theorem lw_p4 : lw_okq (⟨"LaughTax", "hasJoke", "(I)Z"⟩, 8) := ⟨⟨by decide +kernel, by decide +kernel⟩, List.mem_of_getElem? (i := 16) (by decide +kernel), List.mem_of_getElem? (i := 295) (by decide +kernel), List.mem_of_getElem? (i := 296) (by decide +kernel)⟩
theorem lw_p5 : lw_okq (⟨"LaughTax$Telling", "noteRound", "(II)V"⟩, 3) := ⟨⟨by decide +kernel, by decide +kernel⟩, List.mem_of_getElem? (i := 112) (by decide +kernel), List.mem_of_getElem? (i := 355) (by decide +kernel), List.mem_of_getElem? (i := 356) (by decide +kernel)⟩
theorem lw_p6 : lw_okq (⟨"LaughTax$Telling", "catchersFrom", "(LLaughTax$Room;II)I"⟩, 3) := ⟨⟨by decide +kernel, by decide +kernel⟩, List.mem_of_getElem? (i := 112) (by decide +kernel), List.mem_of_getElem? (i := 362) (by decide +kernel), List.mem_of_getElem? (i := 363) (by decide +kernel)⟩
theorem lw_p7 : lw_okq (⟨"LaughTax$Telling", "collect", "(LLaughTax$Room;II)I"⟩, 3) := ⟨⟨by decide +kernel, by decide +kernel⟩, List.mem_of_getElem? (i := 112) (by decide +kernel), List.mem_of_getElem? (i := 369) (by decide +kernel), List.mem_of_getElem? (i := 370) (by decide +kernel)⟩
theorem lw_p8 : lw_okq (⟨"LaughTax", "laughingAt", "(II)I"⟩, 8) := ⟨⟨by decide +kernel, by decide +kernel⟩, List.mem_of_getElem? (i := 16) (by decide +kernel), List.mem_of_getElem? (i := 478) (by decide +kernel), List.mem_of_getElem? (i := 479) (by decide +kernel)⟩
theorem lw_p9 : lw_okq (⟨"LaughTax", "paymentsFinding", "(III)I"⟩, 8) := ⟨⟨by decide +kernel, by decide +kernel⟩, List.mem_of_getElem? (i := 16) (by decide +kernel), List.mem_of_getElem? (i := 494) (by decide +kernel), List.mem_of_getElem? (i := 495) (by decide +kernel)⟩
theorem lw_p10 : lw_okq (⟨"LaughTax", "sheetFinding", "(I)I"⟩, 8) := ⟨⟨by decide +kernel, by decide +kernel⟩, List.mem_of_getElem? (i := 16) (by decide +kernel), List.mem_of_getElem? (i := 498) (by decide +kernel), List.mem_of_getElem? (i := 499) (by decide +kernel)⟩
theorem lw_p11 : lw_okq (⟨"LaughTax", "fits", "(LLaughTax$Sheet;III)Z"⟩, 8) := ⟨⟨by decide +kernel, by decide +kernel⟩, List.mem_of_getElem? (i := 16) (by decide +kernel), List.mem_of_getElem? (i := 507) (by decide +kernel), List.mem_of_getElem? (i := 508) (by decide +kernel)⟩
theorem lw_p12 : lw_okq (⟨"LaughTax$Tape", "step", "()V"⟩, 7) := ⟨⟨by decide +kernel, by decide +kernel⟩, List.mem_of_getElem? (i := 131) (by decide +kernel), List.mem_of_getElem? (i := 573) (by decide +kernel), List.mem_of_getElem? (i := 574) (by decide +kernel)⟩
theorem lw_p13 : lw_okq (⟨"LaughTax$Tape", "readItem", "(LLaughTax$Room;)Z"⟩, 7) := ⟨⟨by decide +kernel, by decide +kernel⟩, List.mem_of_getElem? (i := 131) (by decide +kernel), List.mem_of_getElem? (i := 581) (by decide +kernel), List.mem_of_getElem? (i := 582) (by decide +kernel)⟩
theorem lw_p14 : lw_okq (⟨"LaughTax$Tape", "isWord", "(Ljava/lang/String;)Z"⟩, 7) := ⟨⟨by decide +kernel, by decide +kernel⟩, List.mem_of_getElem? (i := 131) (by decide +kernel), List.mem_of_getElem? (i := 595) (by decide +kernel), List.mem_of_getElem? (i := 596) (by decide +kernel)⟩
theorem lw_p15 : lw_okq (⟨"LaughTax$Tape", "readPerson", "(LLaughTax$Room;I)Z"⟩, 7) := ⟨⟨by decide +kernel, by decide +kernel⟩, List.mem_of_getElem? (i := 131) (by decide +kernel), List.mem_of_getElem? (i := 647) (by decide +kernel), List.mem_of_getElem? (i := 648) (by decide +kernel)⟩
def lw_privs_1 : List (MethodName × Nat) := [(⟨"LaughTax", "found", "(I)I"⟩, 8), (⟨"LaughTax$Room", "renewNear", "()V"⟩, 16), (⟨"LaughTax", "hasPerson", "(I)Z"⟩, 8), (⟨"LaughTax", "moveTo", "(II)I"⟩, 8), (⟨"LaughTax", "hasJoke", "(I)Z"⟩, 8), (⟨"LaughTax$Telling", "noteRound", "(II)V"⟩, 3), (⟨"LaughTax$Telling", "catchersFrom", "(LLaughTax$Room;II)I"⟩, 3), (⟨"LaughTax$Telling", "collect", "(LLaughTax$Room;II)I"⟩, 3), (⟨"LaughTax", "laughingAt", "(II)I"⟩, 8), (⟨"LaughTax", "paymentsFinding", "(III)I"⟩, 8), (⟨"LaughTax", "sheetFinding", "(I)I"⟩, 8), (⟨"LaughTax", "fits", "(LLaughTax$Sheet;III)Z"⟩, 8), (⟨"LaughTax$Tape", "step", "()V"⟩, 7), (⟨"LaughTax$Tape", "readItem", "(LLaughTax$Room;)Z"⟩, 7), (⟨"LaughTax$Tape", "isWord", "(Ljava/lang/String;)Z"⟩, 7), (⟨"LaughTax$Tape", "readPerson", "(LLaughTax$Room;I)Z"⟩, 7)]
theorem lw_r1 : ∀ q ∈ lw_privs_1, lw_okq q := List.forall_mem_cons.mpr ⟨lw_p0, List.forall_mem_cons.mpr ⟨lw_p1, List.forall_mem_cons.mpr ⟨lw_p2, List.forall_mem_cons.mpr ⟨lw_p3, List.forall_mem_cons.mpr ⟨lw_p4, List.forall_mem_cons.mpr ⟨lw_p5, List.forall_mem_cons.mpr ⟨lw_p6, List.forall_mem_cons.mpr ⟨lw_p7, List.forall_mem_cons.mpr ⟨lw_p8, List.forall_mem_cons.mpr ⟨lw_p9, List.forall_mem_cons.mpr ⟨lw_p10, List.forall_mem_cons.mpr ⟨lw_p11, List.forall_mem_cons.mpr ⟨lw_p12, List.forall_mem_cons.mpr ⟨lw_p13, List.forall_mem_cons.mpr ⟨lw_p14, List.forall_mem_cons.mpr ⟨lw_p15, fun _ h => absurd h List.not_mem_nil⟩⟩⟩⟩⟩⟩⟩⟩⟩⟩⟩⟩⟩⟩⟩⟩
theorem lw_p16 : lw_okq (⟨"LaughTax$Tape", "readPart", "(Ljava/lang/String;II)Z"⟩, 7) := ⟨⟨by decide +kernel, by decide +kernel⟩, List.mem_of_getElem? (i := 131) (by decide +kernel), List.mem_of_getElem? (i := 653) (by decide +kernel), List.mem_of_getElem? (i := 654) (by decide +kernel)⟩
theorem lw_p17 : lw_okq (⟨"LaughTax$Tape", "readNumber", "(II)Z"⟩, 7) := ⟨⟨by decide +kernel, by decide +kernel⟩, List.mem_of_getElem? (i := 131) (by decide +kernel), List.mem_of_getElem? (i := 657) (by decide +kernel), List.mem_of_getElem? (i := 658) (by decide +kernel)⟩
theorem lw_p18 : lw_okq (⟨"LaughTax$Tape", "readJoke", "(LLaughTax$Room;)Z"⟩, 7) := ⟨⟨by decide +kernel, by decide +kernel⟩, List.mem_of_getElem? (i := 131) (by decide +kernel), List.mem_of_getElem? (i := 667) (by decide +kernel), List.mem_of_getElem? (i := 668) (by decide +kernel)⟩
theorem lw_p19 : lw_okq (⟨"LaughTax$Tape", "readRate", "(LLaughTax$Room;)Z"⟩, 7) := ⟨⟨by decide +kernel, by decide +kernel⟩, List.mem_of_getElem? (i := 131) (by decide +kernel), List.mem_of_getElem? (i := 673) (by decide +kernel), List.mem_of_getElem? (i := 674) (by decide +kernel)⟩
theorem lw_p20 : lw_okq (⟨"LaughTax$Tape", "readReach", "(LLaughTax$Room;)Z"⟩, 7) := ⟨⟨by decide +kernel, by decide +kernel⟩, List.mem_of_getElem? (i := 131) (by decide +kernel), List.mem_of_getElem? (i := 678) (by decide +kernel), List.mem_of_getElem? (i := 679) (by decide +kernel)⟩
theorem lw_p21 : lw_okq (⟨"LaughTaxModel", "finds", "(I)I"⟩, 18) := ⟨⟨by decide +kernel, by decide +kernel⟩, List.mem_of_getElem? (i := 756) (by decide +kernel), List.mem_of_getElem? (i := 832) (by decide +kernel), List.mem_of_getElem? (i := 833) (by decide +kernel)⟩
theorem lw_p22 : lw_okq (⟨"LaughTaxModel", "adds", "(II)I"⟩, 18) := ⟨⟨by decide +kernel, by decide +kernel⟩, List.mem_of_getElem? (i := 756) (by decide +kernel), List.mem_of_getElem? (i := 837) (by decide +kernel), List.mem_of_getElem? (i := 838) (by decide +kernel)⟩
theorem lw_p23 : lw_okq (⟨"LaughTaxModel", "sets", "(III)V"⟩, 18) := ⟨⟨by decide +kernel, by decide +kernel⟩, List.mem_of_getElem? (i := 756) (by decide +kernel), List.mem_of_getElem? (i := 841) (by decide +kernel), List.mem_of_getElem? (i := 842) (by decide +kernel)⟩
theorem lw_p24 : lw_okq (⟨"LaughTaxModel", "isPerson", "(I)Z"⟩, 18) := ⟨⟨by decide +kernel, by decide +kernel⟩, List.mem_of_getElem? (i := 756) (by decide +kernel), List.mem_of_getElem? (i := 849) (by decide +kernel), List.mem_of_getElem? (i := 850) (by decide +kernel)⟩
theorem lw_p25 : lw_okq (⟨"LaughTaxModel", "bound", "(I)I"⟩, 18) := ⟨⟨by decide +kernel, by decide +kernel⟩, List.mem_of_getElem? (i := 756) (by decide +kernel), List.mem_of_getElem? (i := 854) (by decide +kernel), List.mem_of_getElem? (i := 855) (by decide +kernel)⟩
theorem lw_p26 : lw_okq (⟨"LaughTaxModel", "its", "(II)I"⟩, 18) := ⟨⟨by decide +kernel, by decide +kernel⟩, List.mem_of_getElem? (i := 756) (by decide +kernel), List.mem_of_getElem? (i := 858) (by decide +kernel), List.mem_of_getElem? (i := 859) (by decide +kernel)⟩
theorem lw_p27 : lw_okq (⟨"LaughTaxModel", "numberOf", "(I)I"⟩, 18) := ⟨⟨by decide +kernel, by decide +kernel⟩, List.mem_of_getElem? (i := 756) (by decide +kernel), List.mem_of_getElem? (i := 863) (by decide +kernel), List.mem_of_getElem? (i := 864) (by decide +kernel)⟩
theorem lw_p28 : lw_okq (⟨"LaughTaxModel", "near", "(I)I"⟩, 18) := ⟨⟨by decide +kernel, by decide +kernel⟩, List.mem_of_getElem? (i := 756) (by decide +kernel), List.mem_of_getElem? (i := 867) (by decide +kernel), List.mem_of_getElem? (i := 868) (by decide +kernel)⟩
theorem lw_p29 : lw_okq (⟨"LaughTaxModel", "becomes", "(II)I"⟩, 18) := ⟨⟨by decide +kernel, by decide +kernel⟩, List.mem_of_getElem? (i := 756) (by decide +kernel), List.mem_of_getElem? (i := 885) (by decide +kernel), List.mem_of_getElem? (i := 886) (by decide +kernel)⟩
theorem lw_p30 : lw_okq (⟨"LaughTaxModel", "addsJoke", "(II)I"⟩, 18) := ⟨⟨by decide +kernel, by decide +kernel⟩, List.mem_of_getElem? (i := 756) (by decide +kernel), List.mem_of_getElem? (i := 899) (by decide +kernel), List.mem_of_getElem? (i := 900) (by decide +kernel)⟩
theorem lw_p31 : lw_okq (⟨"LaughTaxModel", "isJoke", "(I)Z"⟩, 18) := ⟨⟨by decide +kernel, by decide +kernel⟩, List.mem_of_getElem? (i := 756) (by decide +kernel), List.mem_of_getElem? (i := 907) (by decide +kernel), List.mem_of_getElem? (i := 908) (by decide +kernel)⟩
def lw_privs_2 : List (MethodName × Nat) := [(⟨"LaughTax$Tape", "readPart", "(Ljava/lang/String;II)Z"⟩, 7), (⟨"LaughTax$Tape", "readNumber", "(II)Z"⟩, 7), (⟨"LaughTax$Tape", "readJoke", "(LLaughTax$Room;)Z"⟩, 7), (⟨"LaughTax$Tape", "readRate", "(LLaughTax$Room;)Z"⟩, 7), (⟨"LaughTax$Tape", "readReach", "(LLaughTax$Room;)Z"⟩, 7), (⟨"LaughTaxModel", "finds", "(I)I"⟩, 18), (⟨"LaughTaxModel", "adds", "(II)I"⟩, 18), (⟨"LaughTaxModel", "sets", "(III)V"⟩, 18), (⟨"LaughTaxModel", "isPerson", "(I)Z"⟩, 18), (⟨"LaughTaxModel", "bound", "(I)I"⟩, 18), (⟨"LaughTaxModel", "its", "(II)I"⟩, 18), (⟨"LaughTaxModel", "numberOf", "(I)I"⟩, 18), (⟨"LaughTaxModel", "near", "(I)I"⟩, 18), (⟨"LaughTaxModel", "becomes", "(II)I"⟩, 18), (⟨"LaughTaxModel", "addsJoke", "(II)I"⟩, 18), (⟨"LaughTaxModel", "isJoke", "(I)Z"⟩, 18)]
theorem lw_r2 : ∀ q ∈ lw_privs_2, lw_okq q := List.forall_mem_cons.mpr ⟨lw_p16, List.forall_mem_cons.mpr ⟨lw_p17, List.forall_mem_cons.mpr ⟨lw_p18, List.forall_mem_cons.mpr ⟨lw_p19, List.forall_mem_cons.mpr ⟨lw_p20, List.forall_mem_cons.mpr ⟨lw_p21, List.forall_mem_cons.mpr ⟨lw_p22, List.forall_mem_cons.mpr ⟨lw_p23, List.forall_mem_cons.mpr ⟨lw_p24, List.forall_mem_cons.mpr ⟨lw_p25, List.forall_mem_cons.mpr ⟨lw_p26, List.forall_mem_cons.mpr ⟨lw_p27, List.forall_mem_cons.mpr ⟨lw_p28, List.forall_mem_cons.mpr ⟨lw_p29, List.forall_mem_cons.mpr ⟨lw_p30, List.forall_mem_cons.mpr ⟨lw_p31, fun _ h => absurd h List.not_mem_nil⟩⟩⟩⟩⟩⟩⟩⟩⟩⟩⟩⟩⟩⟩⟩⟩
theorem lw_p32 : lw_okq (⟨"LaughTaxModel", "strong", "(III)I"⟩, 18) := ⟨⟨by decide +kernel, by decide +kernel⟩, List.mem_of_getElem? (i := 756) (by decide +kernel), List.mem_of_getElem? (i := 921) (by decide +kernel), List.mem_of_getElem? (i := 922) (by decide +kernel)⟩
theorem lw_p33 : lw_okq (⟨"LaughTaxModel", "seconds", "(III)I"⟩, 18) := ⟨⟨by decide +kernel, by decide +kernel⟩, List.mem_of_getElem? (i := 756) (by decide +kernel), List.mem_of_getElem? (i := 925) (by decide +kernel), List.mem_of_getElem? (i := 926) (by decide +kernel)⟩
theorem lw_p34 : lw_okq (⟨"LaughTaxModel", "due", "(III)I"⟩, 18) := ⟨⟨by decide +kernel, by decide +kernel⟩, List.mem_of_getElem? (i := 756) (by decide +kernel), List.mem_of_getElem? (i := 930) (by decide +kernel), List.mem_of_getElem? (i := 931) (by decide +kernel)⟩
theorem lw_p35 : lw_okq (⟨"LaughTaxModel", "tells", "(I)I"⟩, 18) := ⟨⟨by decide +kernel, by decide +kernel⟩, List.mem_of_getElem? (i := 756) (by decide +kernel), List.mem_of_getElem? (i := 939) (by decide +kernel), List.mem_of_getElem? (i := 940) (by decide +kernel)⟩
theorem lw_p36 : lw_okq (⟨"LaughTaxModel", "laughAt", "(II)I"⟩, 18) := ⟨⟨by decide +kernel, by decide +kernel⟩, List.mem_of_getElem? (i := 756) (by decide +kernel), List.mem_of_getElem? (i := 943) (by decide +kernel), List.mem_of_getElem? (i := 944) (by decide +kernel)⟩
theorem lw_p37 : lw_okq (⟨"LaughTaxModel", "byThemselves", "(II)I"⟩, 18) := ⟨⟨by decide +kernel, by decide +kernel⟩, List.mem_of_getElem? (i := 756) (by decide +kernel), List.mem_of_getElem? (i := 947) (by decide +kernel), List.mem_of_getElem? (i := 948) (by decide +kernel)⟩
theorem lw_p38 : lw_okq (⟨"LaughTaxModel", "everybody", "()I"⟩, 18) := ⟨⟨by decide +kernel, by decide +kernel⟩, List.mem_of_getElem? (i := 756) (by decide +kernel), List.mem_of_getElem? (i := 951) (by decide +kernel), List.mem_of_getElem? (i := 952) (by decide +kernel)⟩
theorem lw_p39 : lw_okq (⟨"LaughTaxModel", "caughtFrom", "(II)I"⟩, 18) := ⟨⟨by decide +kernel, by decide +kernel⟩, List.mem_of_getElem? (i := 756) (by decide +kernel), List.mem_of_getElem? (i := 955) (by decide +kernel), List.mem_of_getElem? (i := 956) (by decide +kernel)⟩
theorem lw_p40 : lw_okq (⟨"LaughTaxModel", "sumOf", "(I)I"⟩, 18) := ⟨⟨by decide +kernel, by decide +kernel⟩, List.mem_of_getElem? (i := 756) (by decide +kernel), List.mem_of_getElem? (i := 969) (by decide +kernel), List.mem_of_getElem? (i := 970) (by decide +kernel)⟩
theorem lw_p41 : lw_okq (⟨"LaughTaxModel", "poorest", "()I"⟩, 18) := ⟨⟨by decide +kernel, by decide +kernel⟩, List.mem_of_getElem? (i := 756) (by decide +kernel), List.mem_of_getElem? (i := 977) (by decide +kernel), List.mem_of_getElem? (i := 978) (by decide +kernel)⟩
theorem lw_p42 : lw_okq (⟨"LaughTaxModel", "laughAt", "(I)I"⟩, 18) := ⟨⟨by decide +kernel, by decide +kernel⟩, List.mem_of_getElem? (i := 756) (by decide +kernel), List.mem_of_getElem? (i := 985) (by decide +kernel), List.mem_of_getElem? (i := 986) (by decide +kernel)⟩
theorem lw_p43 : lw_okq (⟨"LaughTaxModel", "lends", "()V"⟩, 18) := ⟨⟨by decide +kernel, by decide +kernel⟩, List.mem_of_getElem? (i := 756) (by decide +kernel), List.mem_of_getElem? (i := 997) (by decide +kernel), List.mem_of_getElem? (i := 998) (by decide +kernel)⟩
theorem lw_p44 : lw_okq (⟨"LaughTaxModel", "laysBack", "()V"⟩, 18) := ⟨⟨by decide +kernel, by decide +kernel⟩, List.mem_of_getElem? (i := 756) (by decide +kernel), List.mem_of_getElem? (i := 1004) (by decide +kernel), List.mem_of_getElem? (i := 1005) (by decide +kernel)⟩
theorem lw_p45 : lw_okq (⟨"LaughTaxModel", "allPaid", "()I"⟩, 18) := ⟨⟨by decide +kernel, by decide +kernel⟩, List.mem_of_getElem? (i := 756) (by decide +kernel), List.mem_of_getElem? (i := 1008) (by decide +kernel), List.mem_of_getElem? (i := 1009) (by decide +kernel)⟩
theorem lw_p46 : lw_okq (⟨"LaughTaxModel", "orNone", "(I)I"⟩, 18) := ⟨⟨by decide +kernel, by decide +kernel⟩, List.mem_of_getElem? (i := 756) (by decide +kernel), List.mem_of_getElem? (i := 1020) (by decide +kernel), List.mem_of_getElem? (i := 1021) (by decide +kernel)⟩
theorem lw_p47 : lw_okq (⟨"LaughTaxModel", "leftWithout", "(II)I"⟩, 18) := ⟨⟨by decide +kernel, by decide +kernel⟩, List.mem_of_getElem? (i := 756) (by decide +kernel), List.mem_of_getElem? (i := 1045) (by decide +kernel), List.mem_of_getElem? (i := 1046) (by decide +kernel)⟩
def lw_privs_3 : List (MethodName × Nat) := [(⟨"LaughTaxModel", "strong", "(III)I"⟩, 18), (⟨"LaughTaxModel", "seconds", "(III)I"⟩, 18), (⟨"LaughTaxModel", "due", "(III)I"⟩, 18), (⟨"LaughTaxModel", "tells", "(I)I"⟩, 18), (⟨"LaughTaxModel", "laughAt", "(II)I"⟩, 18), (⟨"LaughTaxModel", "byThemselves", "(II)I"⟩, 18), (⟨"LaughTaxModel", "everybody", "()I"⟩, 18), (⟨"LaughTaxModel", "caughtFrom", "(II)I"⟩, 18), (⟨"LaughTaxModel", "sumOf", "(I)I"⟩, 18), (⟨"LaughTaxModel", "poorest", "()I"⟩, 18), (⟨"LaughTaxModel", "laughAt", "(I)I"⟩, 18), (⟨"LaughTaxModel", "lends", "()V"⟩, 18), (⟨"LaughTaxModel", "laysBack", "()V"⟩, 18), (⟨"LaughTaxModel", "allPaid", "()I"⟩, 18), (⟨"LaughTaxModel", "orNone", "(I)I"⟩, 18), (⟨"LaughTaxModel", "leftWithout", "(II)I"⟩, 18)]
theorem lw_r3 : ∀ q ∈ lw_privs_3, lw_okq q := List.forall_mem_cons.mpr ⟨lw_p32, List.forall_mem_cons.mpr ⟨lw_p33, List.forall_mem_cons.mpr ⟨lw_p34, List.forall_mem_cons.mpr ⟨lw_p35, List.forall_mem_cons.mpr ⟨lw_p36, List.forall_mem_cons.mpr ⟨lw_p37, List.forall_mem_cons.mpr ⟨lw_p38, List.forall_mem_cons.mpr ⟨lw_p39, List.forall_mem_cons.mpr ⟨lw_p40, List.forall_mem_cons.mpr ⟨lw_p41, List.forall_mem_cons.mpr ⟨lw_p42, List.forall_mem_cons.mpr ⟨lw_p43, List.forall_mem_cons.mpr ⟨lw_p44, List.forall_mem_cons.mpr ⟨lw_p45, List.forall_mem_cons.mpr ⟨lw_p46, List.forall_mem_cons.mpr ⟨lw_p47, fun _ h => absurd h List.not_mem_nil⟩⟩⟩⟩⟩⟩⟩⟩⟩⟩⟩⟩⟩⟩⟩⟩
theorem lw_p48 : lw_okq (⟨"LaughTaxModel", "lacksTastes", "(III)I"⟩, 18) := ⟨⟨by decide +kernel, by decide +kernel⟩, List.mem_of_getElem? (i := 756) (by decide +kernel), List.mem_of_getElem? (i := 1081) (by decide +kernel), List.mem_of_getElem? (i := 1082) (by decide +kernel)⟩
theorem lw_p49 : lw_okq (⟨"LaughTaxModel", "lacks", "(I)I"⟩, 18) := ⟨⟨by decide +kernel, by decide +kernel⟩, List.mem_of_getElem? (i := 756) (by decide +kernel), List.mem_of_getElem? (i := 1085) (by decide +kernel), List.mem_of_getElem? (i := 1086) (by decide +kernel)⟩
theorem lw_p50 : lw_okq (⟨"LaughTaxModel", "findTastes", "(III)I"⟩, 18) := ⟨⟨by decide +kernel, by decide +kernel⟩, List.mem_of_getElem? (i := 756) (by decide +kernel), List.mem_of_getElem? (i := 1093) (by decide +kernel), List.mem_of_getElem? (i := 1094) (by decide +kernel)⟩
theorem lw_p51 : lw_okq (⟨"LaughTaxModel", "paysSo", "(III)Z"⟩, 18) := ⟨⟨by decide +kernel, by decide +kernel⟩, List.mem_of_getElem? (i := 756) (by decide +kernel), List.mem_of_getElem? (i := 1097) (by decide +kernel), List.mem_of_getElem? (i := 1098) (by decide +kernel)⟩
theorem lw_p52 : lw_okq (⟨"LaughTaxModel", "draw", "()I"⟩, 18) := ⟨⟨by decide +kernel, by decide +kernel⟩, List.mem_of_getElem? (i := 756) (by decide +kernel), List.mem_of_getElem? (i := 1113) (by decide +kernel), List.mem_of_getElem? (i := 1114) (by decide +kernel)⟩
theorem lw_p53 : lw_okq (⟨"LaughTaxModel", "next", "()V"⟩, 18) := ⟨⟨by decide +kernel, by decide +kernel⟩, List.mem_of_getElem? (i := 756) (by decide +kernel), List.mem_of_getElem? (i := 1140) (by decide +kernel), List.mem_of_getElem? (i := 1141) (by decide +kernel)⟩
theorem lw_p54 : lw_okq (⟨"LaughTaxModel", "isByte", "(III)Z"⟩, 18) := ⟨⟨by decide +kernel, by decide +kernel⟩, List.mem_of_getElem? (i := 756) (by decide +kernel), List.mem_of_getElem? (i := 1144) (by decide +kernel), List.mem_of_getElem? (i := 1145) (by decide +kernel)⟩
theorem lw_p55 : lw_okq (⟨"LaughTaxModel", "item", "()V"⟩, 18) := ⟨⟨by decide +kernel, by decide +kernel⟩, List.mem_of_getElem? (i := 756) (by decide +kernel), List.mem_of_getElem? (i := 1148) (by decide +kernel), List.mem_of_getElem? (i := 1149) (by decide +kernel)⟩
theorem lw_p56 : lw_okq (⟨"LaughTaxModel", "kindHere", "()I"⟩, 18) := ⟨⟨by decide +kernel, by decide +kernel⟩, List.mem_of_getElem? (i := 756) (by decide +kernel), List.mem_of_getElem? (i := 1152) (by decide +kernel), List.mem_of_getElem? (i := 1153) (by decide +kernel)⟩
theorem lw_p57 : lw_okq (⟨"LaughTaxModel", "isWord", "(Ljava/lang/String;)Z"⟩, 18) := ⟨⟨by decide +kernel, by decide +kernel⟩, List.mem_of_getElem? (i := 756) (by decide +kernel), List.mem_of_getElem? (i := 1157) (by decide +kernel), List.mem_of_getElem? (i := 1158) (by decide +kernel)⟩
theorem lw_p58 : lw_okq (⟨"LaughTaxModel", "personTold", "(I)V"⟩, 18) := ⟨⟨by decide +kernel, by decide +kernel⟩, List.mem_of_getElem? (i := 756) (by decide +kernel), List.mem_of_getElem? (i := 1169) (by decide +kernel), List.mem_of_getElem? (i := 1170) (by decide +kernel)⟩
theorem lw_p59 : lw_okq (⟨"LaughTaxModel", "must", "(Z)V"⟩, 18) := ⟨⟨by decide +kernel, by decide +kernel⟩, List.mem_of_getElem? (i := 756) (by decide +kernel), List.mem_of_getElem? (i := 1173) (by decide +kernel), List.mem_of_getElem? (i := 1174) (by decide +kernel)⟩
theorem lw_p60 : lw_okq (⟨"LaughTaxModel", "partTold", "(ILjava/lang/String;II)V"⟩, 18) := ⟨⟨by decide +kernel, by decide +kernel⟩, List.mem_of_getElem? (i := 756) (by decide +kernel), List.mem_of_getElem? (i := 1178) (by decide +kernel), List.mem_of_getElem? (i := 1179) (by decide +kernel)⟩
theorem lw_p61 : lw_okq (⟨"LaughTaxModel", "takes", "(Ljava/lang/String;)Z"⟩, 18) := ⟨⟨by decide +kernel, by decide +kernel⟩, List.mem_of_getElem? (i := 756) (by decide +kernel), List.mem_of_getElem? (i := 1182) (by decide +kernel), List.mem_of_getElem? (i := 1183) (by decide +kernel)⟩
theorem lw_p62 : lw_okq (⟨"LaughTaxModel", "numberRead", "(II)I"⟩, 18) := ⟨⟨by decide +kernel, by decide +kernel⟩, List.mem_of_getElem? (i := 756) (by decide +kernel), List.mem_of_getElem? (i := 1186) (by decide +kernel), List.mem_of_getElem? (i := 1187) (by decide +kernel)⟩
theorem lw_p63 : lw_okq (⟨"LaughTaxModel", "jokeTold", "()V"⟩, 18) := ⟨⟨by decide +kernel, by decide +kernel⟩, List.mem_of_getElem? (i := 756) (by decide +kernel), List.mem_of_getElem? (i := 1194) (by decide +kernel), List.mem_of_getElem? (i := 1195) (by decide +kernel)⟩
def lw_privs_4 : List (MethodName × Nat) := [(⟨"LaughTaxModel", "lacksTastes", "(III)I"⟩, 18), (⟨"LaughTaxModel", "lacks", "(I)I"⟩, 18), (⟨"LaughTaxModel", "findTastes", "(III)I"⟩, 18), (⟨"LaughTaxModel", "paysSo", "(III)Z"⟩, 18), (⟨"LaughTaxModel", "draw", "()I"⟩, 18), (⟨"LaughTaxModel", "next", "()V"⟩, 18), (⟨"LaughTaxModel", "isByte", "(III)Z"⟩, 18), (⟨"LaughTaxModel", "item", "()V"⟩, 18), (⟨"LaughTaxModel", "kindHere", "()I"⟩, 18), (⟨"LaughTaxModel", "isWord", "(Ljava/lang/String;)Z"⟩, 18), (⟨"LaughTaxModel", "personTold", "(I)V"⟩, 18), (⟨"LaughTaxModel", "must", "(Z)V"⟩, 18), (⟨"LaughTaxModel", "partTold", "(ILjava/lang/String;II)V"⟩, 18), (⟨"LaughTaxModel", "takes", "(Ljava/lang/String;)Z"⟩, 18), (⟨"LaughTaxModel", "numberRead", "(II)I"⟩, 18), (⟨"LaughTaxModel", "jokeTold", "()V"⟩, 18)]
theorem lw_r4 : ∀ q ∈ lw_privs_4, lw_okq q := List.forall_mem_cons.mpr ⟨lw_p48, List.forall_mem_cons.mpr ⟨lw_p49, List.forall_mem_cons.mpr ⟨lw_p50, List.forall_mem_cons.mpr ⟨lw_p51, List.forall_mem_cons.mpr ⟨lw_p52, List.forall_mem_cons.mpr ⟨lw_p53, List.forall_mem_cons.mpr ⟨lw_p54, List.forall_mem_cons.mpr ⟨lw_p55, List.forall_mem_cons.mpr ⟨lw_p56, List.forall_mem_cons.mpr ⟨lw_p57, List.forall_mem_cons.mpr ⟨lw_p58, List.forall_mem_cons.mpr ⟨lw_p59, List.forall_mem_cons.mpr ⟨lw_p60, List.forall_mem_cons.mpr ⟨lw_p61, List.forall_mem_cons.mpr ⟨lw_p62, List.forall_mem_cons.mpr ⟨lw_p63, fun _ h => absurd h List.not_mem_nil⟩⟩⟩⟩⟩⟩⟩⟩⟩⟩⟩⟩⟩⟩⟩⟩
theorem lw_p64 : lw_okq (⟨"LaughTaxModel", "goesOn", "(II)Z"⟩, 18) := ⟨⟨by decide +kernel, by decide +kernel⟩, List.mem_of_getElem? (i := 756) (by decide +kernel), List.mem_of_getElem? (i := 1238) (by decide +kernel), List.mem_of_getElem? (i := 1239) (by decide +kernel)⟩
theorem lw_p65 : lw_okq (⟨"LaughTaxModel", "held", "()I"⟩, 18) := ⟨⟨by decide +kernel, by decide +kernel⟩, List.mem_of_getElem? (i := 756) (by decide +kernel), List.mem_of_getElem? (i := 1258) (by decide +kernel), List.mem_of_getElem? (i := 1259) (by decide +kernel)⟩
def lw_privs_5 : List (MethodName × Nat) := [(⟨"LaughTaxModel", "goesOn", "(II)Z"⟩, 18), (⟨"LaughTaxModel", "held", "()I"⟩, 18)]
theorem lw_r5 : ∀ q ∈ lw_privs_5, lw_okq q := List.forall_mem_cons.mpr ⟨lw_p64, List.forall_mem_cons.mpr ⟨lw_p65, fun _ h => absurd h List.not_mem_nil⟩⟩
def lw_privs : List (MethodName × Nat) := lw_privs_1 ++ (lw_privs_2 ++ (lw_privs_3 ++ (lw_privs_4 ++ (lw_privs_5))))
def lw_tbl : List Cond := k2_sels lw_privs ++ tables_1
theorem lw_privs_ok : ∀ q ∈ lw_privs, lw_okq q := by
  show ∀ q ∈ lw_privs_1 ++ (lw_privs_2 ++ (lw_privs_3 ++ (lw_privs_4 ++ (lw_privs_5)))), lw_okq q
  exact List.forall_mem_append.mpr ⟨lw_r1, List.forall_mem_append.mpr ⟨lw_r2, List.forall_mem_append.mpr ⟨lw_r3, List.forall_mem_append.mpr ⟨lw_r4, lw_r5⟩⟩⟩⟩

/-! ===== BEGIN words of one list among another's, by their places ===== -/
theorem goodIn_r {big : List Cond} (ws : List Cond) (ps : List Nat) (hp : ws = ps.filterMap (fun i => big[i]?)) (h : ws.all goodWord = true) : GoodIn big ws := by
  intro w hw
  have h1 := List.all_eq_true.mp h w hw
  rw [hp] at hw
  obtain ⟨i, -, hi⟩ := List.mem_filterMap.mp hw
  have hm : w ∈ big := by first | exact List.mem_of_getElem? hi | exact List.getElem?_mem hi
  exact ⟨hm, good_of_word h1⟩
theorem goodIn_app {big a b : List Cond} (ha : GoodIn big a) (hb : GoodIn big b) : GoodIn big (a ++ b) := fun w h => (List.mem_append.mp h).elim (ha w) (hb w)
theorem goodIn_ca {big a b : List Cond} {c : Cond} (ha : GoodIn big (c :: a)) (hb : GoodIn big b) : GoodIn big (c :: (a ++ b)) := fun w h => (List.mem_cons.mp h).elim (fun e => ha w (List.mem_cons.mpr (Or.inl e))) (fun h => (List.mem_append.mp h).elim (fun h => ha w (List.mem_cons.mpr (Or.inr h))) (hb w))
theorem goodIn_sub {big ws : List Cond} (hm : ∀ w ∈ ws, w ∈ big) (h : ws.all goodWord = true) : GoodIn big ws := fun w hw => ⟨hm w hw, good_of_word (List.all_eq_true.mp h w hw)⟩
/-! ===== END ===== -/

/-! ===== BEGIN printed: names, fields, word lists, decode rows ===== -/
def RX0 : String := "LaughTax$Kinds"
def TX0 : u_T := fun k => match k with
  | _ => ("", "", "", false)
def tyX0 : Nat → FieldType := fun k => match k with
  | _ => .int
abbrev wsX00 : List Cond := u_ws RX0 TX0 0
theorem nmX0 : ∀ a, a < 0 → ∀ b, b < 0 → a ≠ b → (TX0 a).2.1 ≠ (TX0 b).2.1 := by decide +kernel
theorem tyX0_ok : ∀ k, k < 0 → parseFieldDescriptor (TX0 k).2.2.1 = some (tyX0 k) := by decide +kernel
abbrev cX0_isA : ByteArray := prog_2_method_2_code
def yX0_isA : MethodName := ⟨RX0, "isA", "(II)Z"⟩
abbrev cX0_bound : ByteArray := prog_2_method_3_code
def yX0_bound : MethodName := ⟨RX0, "bound", "(II)I"⟩
abbrev cX0_number : ByteArray := prog_2_method_4_code
def yX0_number : MethodName := ⟨RX0, "number", "(II)I"⟩
abbrev cX0_seconds : ByteArray := prog_2_method_5_code
def yX0_seconds : MethodName := ⟨RX0, "seconds", "(II)I"⟩
def RX1 : String := "LaughTax$Room"
def TX1 : u_T := fun k => match k with
  | 0 => ("LaughTax$Room", "people", "I", false)
  | 1 => ("LaughTax$Room", "kind", "[I", true)
  | 2 => ("LaughTax$Room", "seat", "[I", true)
  | 3 => ("LaughTax$Room", "taste", "[I", true)
  | 4 => ("LaughTax$Room", "mood", "[I", true)
  | 5 => ("LaughTax$Room", "purse", "[I", true)
  | 6 => ("LaughTax$Room", "near", "[I", true)
  | 7 => ("LaughTax$Room", "jokes", "I", false)
  | 8 => ("LaughTax$Room", "topics", "[I", true)
  | 9 => ("LaughTax$Room", "fun", "[I", true)
  | 10 => ("LaughTax$Room", "rate", "I", false)
  | 11 => ("LaughTax$Room", "reach", "I", false)
  | 12 => ("LaughTax$Room", "treasury", "I", false)
  | 13 => ("LaughTax$Room", "told", "I", false)
  | 14 => ("LaughTax$Room", "z", "I", false)
  | _ => ("LaughTax$Room", "spots", "[I", true)
def tyX1 : Nat → FieldType := fun k => match k with
  | 0 => .int
  | 1 => .array .int
  | 2 => .array .int
  | 3 => .array .int
  | 4 => .array .int
  | 5 => .array .int
  | 6 => .array .int
  | 7 => .int
  | 8 => .array .int
  | 9 => .array .int
  | 10 => .int
  | 11 => .int
  | 12 => .int
  | 13 => .int
  | 14 => .int
  | _ => .array .int
abbrev wsX10 : List Cond := u_ws RX1 TX1 16
theorem nmX1 : ∀ a, a < 16 → ∀ b, b < 16 → a ≠ b → (TX1 a).2.1 ≠ (TX1 b).2.1 := by decide +kernel
theorem tyX1_ok : ∀ k, k < 16 → parseFieldDescriptor (TX1 k).2.2.1 = some (tyX1 k) := by decide +kernel
abbrev cX1_init : ByteArray := prog_3_method_1_code
def yX1_init : MethodName := ⟨RX1, "<init>", "()V"⟩
abbrev cX1_takeOver : ByteArray := prog_3_method_2_code
def yX1_takeOver : MethodName := ⟨RX1, "takeOver", "(LLaughTax$Room;)V"⟩
abbrev cX1_addPerson : ByteArray := prog_3_method_3_code
def yX1_addPerson : MethodName := ⟨RX1, "addPerson", "(II)I"⟩
abbrev cX1_addJoke : ByteArray := prog_3_method_4_code
def yX1_addJoke : MethodName := ⟨RX1, "addJoke", "(II)I"⟩
abbrev cX1_setSeat : ByteArray := prog_3_method_5_code
def yX1_setSeat : MethodName := ⟨RX1, "setSeat", "(II)V"⟩
abbrev cX1_setReach : ByteArray := prog_3_method_6_code
def yX1_setReach : MethodName := ⟨RX1, "setReach", "(I)V"⟩
abbrev cX1_renewNear : ByteArray := prog_3_method_7_code
def yX1_renewNear : MethodName := ⟨RX1, "renewNear", "()V"⟩
abbrev cX1_everybody : ByteArray := prog_3_method_8_code
def yX1_everybody : MethodName := ⟨RX1, "everybody", "()I"⟩
abbrev cX1_strengthFor : ByteArray := prog_3_method_9_code
def yX1_strengthFor : MethodName := ⟨RX1, "strengthFor", "(III)I"⟩
abbrev cX1_dueFrom : ByteArray := prog_3_method_10_code
def yX1_dueFrom : MethodName := ⟨RX1, "dueFrom", "(II)I"⟩
abbrev cX1_together : ByteArray := prog_3_method_11_code
def yX1_together : MethodName := ⟨RX1, "together", "([I)I"⟩
abbrev cX1_poorest : ByteArray := prog_3_method_12_code
def yX1_poorest : MethodName := ⟨RX1, "poorest", "()I"⟩
abbrev cX1_drawBelow : ByteArray := prog_3_method_13_code
def yX1_drawBelow : MethodName := ⟨RX1, "drawBelow", "(I)I"⟩
abbrev cX1_spotsHolding : ByteArray := prog_3_method_14_code
def yX1_spotsHolding : MethodName := ⟨RX1, "spotsHolding", "()I"⟩
def RX2 : String := "LaughTax$Sheet"
def TX2 : u_T := fun k => match k with
  | 0 => ("LaughTax$Sheet", "numbers", "[I", true)
  | 1 => ("LaughTax$Sheet", "bits", "I", false)
  | _ => ("LaughTax$Sheet", "length", "I", false)
def tyX2 : Nat → FieldType := fun k => match k with
  | 0 => .array .int
  | 1 => .int
  | _ => .int
abbrev wsX20 : List Cond := u_ws RX2 TX2 3
theorem nmX2 : ∀ a, a < 3 → ∀ b, b < 3 → a ≠ b → (TX2 a).2.1 ≠ (TX2 b).2.1 := by decide +kernel
theorem tyX2_ok : ∀ k, k < 3 → parseFieldDescriptor (TX2 k).2.2.1 = some (tyX2 k) := by decide +kernel
abbrev cX2_init : ByteArray := prog_4_method_1_code
def yX2_init : MethodName := ⟨RX2, "<init>", "()V"⟩
abbrev cX2_begin : ByteArray := prog_4_method_2_code
def yX2_begin : MethodName := ⟨RX2, "begin", "(II)V"⟩
abbrev cX2_isMissing : ByteArray := prog_4_method_3_code
def yX2_isMissing : MethodName := ⟨RX2, "isMissing", "()Z"⟩
abbrev cX2_put : ByteArray := prog_4_method_4_code
def yX2_put : MethodName := ⟨RX2, "put", "(II)V"⟩
abbrev cX2_has : ByteArray := prog_4_method_5_code
def yX2_has : MethodName := ⟨RX2, "has", "(II)Z"⟩
abbrev cX2_tells : ByteArray := prog_4_method_6_code
def yX2_tells : MethodName := ⟨RX2, "tells", "(II)Z"⟩
abbrev cX2_tellsFirst : ByteArray := prog_4_method_7_code
def yX2_tellsFirst : MethodName := ⟨RX2, "tellsFirst", "([II)Z"⟩
def RX3 : String := "LaughTax$Tape"
def TX3 : u_T := fun k => match k with
  | 0 => ("LaughTax$Tape", "bytes", "[B", true)
  | 1 => ("LaughTax$Tape", "length", "I", false)
  | 2 => ("LaughTax$Tape", "token", "I", false)
  | 3 => ("LaughTax$Tape", "start", "I", false)
  | 4 => ("LaughTax$Tape", "behind", "I", false)
  | 5 => ("LaughTax$Tape", "value", "I", false)
  | _ => ("LaughTax$Tape", "taken", "I", false)
def tyX3 : Nat → FieldType := fun k => match k with
  | 0 => .array .byte
  | 1 => .int
  | 2 => .int
  | 3 => .int
  | 4 => .int
  | 5 => .int
  | _ => .int
abbrev wsX30 : List Cond := u_ws RX3 TX3 7
theorem nmX3 : ∀ a, a < 7 → ∀ b, b < 7 → a ≠ b → (TX3 a).2.1 ≠ (TX3 b).2.1 := by decide +kernel
theorem tyX3_ok : ∀ k, k < 7 → parseFieldDescriptor (TX3 k).2.2.1 = some (tyX3 k) := by decide +kernel
abbrev cX3_init : ByteArray := prog_5_method_1_code
def yX3_init : MethodName := ⟨RX3, "<init>", "()V"⟩
abbrev cX3_put : ByteArray := prog_5_method_2_code
def yX3_put : MethodName := ⟨RX3, "put", "(B)V"⟩
abbrev cX3_readInto : ByteArray := prog_5_method_3_code
def yX3_readInto : MethodName := ⟨RX3, "readInto", "(LLaughTax$Room;)I"⟩
abbrev cX3_readItem : ByteArray := prog_5_method_4_code
def yX3_readItem : MethodName := ⟨RX3, "readItem", "(LLaughTax$Room;)Z"⟩
abbrev cX3_readPerson : ByteArray := prog_5_method_5_code
def yX3_readPerson : MethodName := ⟨RX3, "readPerson", "(LLaughTax$Room;I)Z"⟩
abbrev cX3_readJoke : ByteArray := prog_5_method_6_code
def yX3_readJoke : MethodName := ⟨RX3, "readJoke", "(LLaughTax$Room;)Z"⟩
abbrev cX3_readRate : ByteArray := prog_5_method_7_code
def yX3_readRate : MethodName := ⟨RX3, "readRate", "(LLaughTax$Room;)Z"⟩
abbrev cX3_readReach : ByteArray := prog_5_method_8_code
def yX3_readReach : MethodName := ⟨RX3, "readReach", "(LLaughTax$Room;)Z"⟩
abbrev cX3_readPart : ByteArray := prog_5_method_9_code
def yX3_readPart : MethodName := ⟨RX3, "readPart", "(Ljava/lang/String;II)Z"⟩
abbrev cX3_readNumber : ByteArray := prog_5_method_10_code
def yX3_readNumber : MethodName := ⟨RX3, "readNumber", "(II)Z"⟩
abbrev cX3_isWord : ByteArray := prog_5_method_11_code
def yX3_isWord : MethodName := ⟨RX3, "isWord", "(Ljava/lang/String;)Z"⟩
abbrev cX3_wordOf : ByteArray := prog_5_method_12_code
def yX3_wordOf : MethodName := ⟨RX3, "wordOf", "(I)Ljava/lang/String;"⟩
abbrev cX3_step : ByteArray := prog_5_method_13_code
def yX3_step : MethodName := ⟨RX3, "step", "()V"⟩
abbrev cX3_tokenOf : ByteArray := prog_5_method_14_code
def yX3_tokenOf : MethodName := ⟨RX3, "tokenOf", "(B)I"⟩
def RX4 : String := "LaughTax$Telling"
def TX4 : u_T := fun k => match k with
  | 0 => ("LaughTax$Telling", "roundOf", "[I", true)
  | 1 => ("LaughTax$Telling", "paid", "[I", true)
  | _ => ("LaughTax$Telling", "lastRound", "I", false)
def tyX4 : Nat → FieldType := fun k => match k with
  | 0 => .array .int
  | 1 => .array .int
  | _ => .int
abbrev wsX40 : List Cond := u_ws RX4 TX4 3
theorem nmX4 : ∀ a, a < 3 → ∀ b, b < 3 → a ≠ b → (TX4 a).2.1 ≠ (TX4 b).2.1 := by decide +kernel
theorem tyX4_ok : ∀ k, k < 3 → parseFieldDescriptor (TX4 k).2.2.1 = some (tyX4 k) := by decide +kernel
abbrev cX4_init : ByteArray := prog_6_method_1_code
def yX4_init : MethodName := ⟨RX4, "<init>", "()V"⟩
abbrev cX4_startersOf : ByteArray := prog_6_method_2_code
def yX4_startersOf : MethodName := ⟨RX4, "startersOf", "(LLaughTax$Room;II)I"⟩
abbrev cX4_laughersOf : ByteArray := prog_6_method_3_code
def yX4_laughersOf : MethodName := ⟨RX4, "laughersOf", "(LLaughTax$Room;I)I"⟩
abbrev cX4_spread : ByteArray := prog_6_method_4_code
def yX4_spread : MethodName := ⟨RX4, "spread", "(LLaughTax$Room;II)I"⟩
abbrev cX4_catchersFrom : ByteArray := prog_6_method_5_code
def yX4_catchersFrom : MethodName := ⟨RX4, "catchersFrom", "(LLaughTax$Room;II)I"⟩
abbrev cX4_noteRound : ByteArray := prog_6_method_6_code
def yX4_noteRound : MethodName := ⟨RX4, "noteRound", "(II)V"⟩
abbrev cX4_perform : ByteArray := prog_6_method_7_code
def yX4_perform : MethodName := ⟨RX4, "perform", "(LLaughTax$Room;I)I"⟩
abbrev cX4_collect : ByteArray := prog_6_method_8_code
def yX4_collect : MethodName := ⟨RX4, "collect", "(LLaughTax$Room;II)I"⟩
abbrev cX4_performOften : ByteArray := prog_6_method_9_code
def yX4_performOften : MethodName := ⟨RX4, "performOften", "(LLaughTax$Room;II)I"⟩
def RX5 : String := "LaughTax"
def TX5 : u_T := fun k => match k with
  | 0 => ("LaughTax", "live", "LLaughTax$Room;", true)
  | 1 => ("LaughTax", "trial", "LLaughTax$Room;", true)
  | 2 => ("LaughTax", "kept", "LLaughTax$Room;", true)
  | 3 => ("LaughTax", "keeps", "Z", false)
  | 4 => ("LaughTax", "telling", "LLaughTax$Telling;", true)
  | 5 => ("LaughTax", "tape", "LLaughTax$Tape;", true)
  | 6 => ("LaughTax", "sheets", "[LLaughTax$Sheet;", true)
  | _ => ("LaughTax", "findings", "[I", true)
def tyX5 : Nat → FieldType := fun k => match k with
  | 0 => .object "LaughTax$Room"
  | 1 => .object "LaughTax$Room"
  | 2 => .object "LaughTax$Room"
  | 3 => .boolean
  | 4 => .object "LaughTax$Telling"
  | 5 => .object "LaughTax$Tape"
  | 6 => .array (.object "LaughTax$Sheet")
  | _ => .array .int
abbrev wsX50 : List Cond := u_ws RX5 TX5 8
theorem nmX5 : ∀ a, a < 8 → ∀ b, b < 8 → a ≠ b → (TX5 a).2.1 ≠ (TX5 b).2.1 := by decide +kernel
theorem tyX5_ok : ∀ k, k < 8 → parseFieldDescriptor (TX5 k).2.2.1 = some (tyX5 k) := by decide +kernel
abbrev cX5_init : ByteArray := prog_1_method_1_code
def yX5_init : MethodName := ⟨RX5, "<init>", "()V"⟩
abbrev cX5_person : ByteArray := prog_1_method_2_code
def yX5_person : MethodName := ⟨RX5, "person", "(II)I"⟩
abbrev cX5_of : ByteArray := prog_1_method_3_code
def yX5_of : MethodName := ⟨RX5, "of", "(II)I"⟩
abbrev cX5_change : ByteArray := prog_1_method_4_code
def yX5_change : MethodName := ⟨RX5, "change", "(III)I"⟩
abbrev cX5_joke : ByteArray := prog_1_method_5_code
def yX5_joke : MethodName := ⟨RX5, "joke", "(II)I"⟩
abbrev cX5_jokeOf : ByteArray := prog_1_method_6_code
def yX5_jokeOf : MethodName := ⟨RX5, "jokeOf", "(II)I"⟩
abbrev cX5_law : ByteArray := prog_1_method_7_code
def yX5_law : MethodName := ⟨RX5, "law", "(II)I"⟩
abbrev cX5_strength : ByteArray := prog_1_method_8_code
def yX5_strength : MethodName := ⟨RX5, "strength", "(III)I"⟩
abbrev cX5_tell : ByteArray := prog_1_method_9_code
def yX5_tell : MethodName := ⟨RX5, "tell", "(I)I"⟩
abbrev cX5_evening : ByteArray := prog_1_method_10_code
def yX5_evening : MethodName := ⟨RX5, "evening", "(II)I"⟩
abbrev cX5_now : ByteArray := prog_1_method_11_code
def yX5_now : MethodName := ⟨RX5, "now", "(I)I"⟩
abbrev cX5_relief : ByteArray := prog_1_method_12_code
def yX5_relief : MethodName := ⟨RX5, "relief", "(I)I"⟩
abbrev cX5_laugh : ByteArray := prog_1_method_13_code
def yX5_laugh : MethodName := ⟨RX5, "laugh", "(II)I"⟩
abbrev cX5_rounds : ByteArray := prog_1_method_14_code
def yX5_rounds : MethodName := ⟨RX5, "rounds", "(I)I"⟩
abbrev cX5_raised : ByteArray := prog_1_method_15_code
def yX5_raised : MethodName := ⟨RX5, "raised", "(I)I"⟩
abbrev cX5_ahead : ByteArray := prog_1_method_16_code
def yX5_ahead : MethodName := ⟨RX5, "ahead", "(II)I"⟩
abbrev cX5_stale : ByteArray := prog_1_method_17_code
def yX5_stale : MethodName := ⟨RX5, "stale", "(I)I"⟩
abbrev cX5_broke : ByteArray := prog_1_method_18_code
def yX5_broke : MethodName := ⟨RX5, "broke", "(II)I"⟩
abbrev cX5_caught : ByteArray := prog_1_method_19_code
def yX5_caught : MethodName := ⟨RX5, "caught", "(I)I"⟩
abbrev cX5_starter : ByteArray := prog_1_method_20_code
def yX5_starter : MethodName := ⟨RX5, "starter", "()I"⟩
abbrev cX5_fewest : ByteArray := prog_1_method_21_code
def yX5_fewest : MethodName := ⟨RX5, "fewest", "()I"⟩
abbrev cX5_away : ByteArray := prog_1_method_22_code
def yX5_away : MethodName := ⟨RX5, "away", "(II)I"⟩
abbrev cX5_seatFor : ByteArray := prog_1_method_23_code
def yX5_seatFor : MethodName := ⟨RX5, "seatFor", "(II)I"⟩
abbrev cX5_kindFor : ByteArray := prog_1_method_24_code
def yX5_kindFor : MethodName := ⟨RX5, "kindFor", "(II)I"⟩
abbrev cX5_reachFor : ByteArray := prog_1_method_25_code
def yX5_reachFor : MethodName := ⟨RX5, "reachFor", "(I)I"⟩
abbrev cX5_rateFor : ByteArray := prog_1_method_26_code
def yX5_rateFor : MethodName := ⟨RX5, "rateFor", "(II)I"⟩
abbrev cX5_best : ByteArray := prog_1_method_27_code
def yX5_best : MethodName := ⟨RX5, "best", "(I)I"⟩
abbrev cX5_quiet : ByteArray := prog_1_method_28_code
def yX5_quiet : MethodName := ⟨RX5, "quiet", "(I)I"⟩
abbrev cX5_safe : ByteArray := prog_1_method_29_code
def yX5_safe : MethodName := ⟨RX5, "safe", "(I)I"⟩
abbrev cX5_tastes : ByteArray := prog_1_method_30_code
def yX5_tastes : MethodName := ⟨RX5, "tastes", "(III)I"⟩
abbrev cX5_taste : ByteArray := prog_1_method_31_code
def yX5_taste : MethodName := ⟨RX5, "taste", "(III)I"⟩
abbrev cX5_which : ByteArray := prog_1_method_32_code
def yX5_which : MethodName := ⟨RX5, "which", "(I)I"⟩
abbrev cX5_shows : ByteArray := prog_1_method_33_code
def yX5_shows : MethodName := ⟨RX5, "shows", "(I)I"⟩
abbrev cX5_odds : ByteArray := prog_1_method_34_code
def yX5_odds : MethodName := ⟨RX5, "odds", "(II)J"⟩
abbrev cX5_seed : ByteArray := prog_1_method_35_code
def yX5_seed : MethodName := ⟨RX5, "seed", "(I)I"⟩
abbrev cX5_feed : ByteArray := prog_1_method_36_code
def yX5_feed : MethodName := ⟨RX5, "feed", "(II)I"⟩
abbrev cX5_wipe : ByteArray := prog_1_method_37_code
def yX5_wipe : MethodName := ⟨RX5, "wipe", "()I"⟩
abbrev cX5_text : ByteArray := prog_1_method_38_code
def yX5_text : MethodName := ⟨RX5, "text", "()I"⟩
abbrev cX5_hold : ByteArray := prog_1_method_39_code
def yX5_hold : MethodName := ⟨RX5, "hold", "(II)I"⟩
abbrev cX5_as : ByteArray := prog_1_method_40_code
def yX5_as : MethodName := ⟨RX5, "as", "(II)I"⟩
abbrev cX5_sheet : ByteArray := prog_1_method_41_code
def yX5_sheet : MethodName := ⟨RX5, "sheet", "(III)I"⟩
abbrev cX5_write : ByteArray := prog_1_method_42_code
def yX5_write : MethodName := ⟨RX5, "write", "(III)I"⟩
abbrev cX5_copy : ByteArray := prog_1_method_43_code
def yX5_copy : MethodName := ⟨RX5, "copy", "(IIIII)I"⟩
abbrev cX5_load : ByteArray := prog_1_method_44_code
def yX5_load : MethodName := ⟨RX5, "load", "(I)I"⟩
abbrev cX5_judge : ByteArray := prog_1_method_45_code
def yX5_judge : MethodName := ⟨RX5, "judge", "(I)I"⟩
abbrev cX5_image : ByteArray := prog_1_method_46_code
def yX5_image : MethodName := ⟨RX5, "image", "()I"⟩
abbrev cX5_undo : ByteArray := prog_1_method_47_code
def yX5_undo : MethodName := ⟨RX5, "undo", "()I"⟩
abbrev cX5_tear : ByteArray := prog_1_method_48_code
def yX5_tear : MethodName := ⟨RX5, "tear", "()I"⟩
abbrev cX5_count : ByteArray := prog_1_method_49_code
def yX5_count : MethodName := ⟨RX5, "count", "(I)I"⟩
abbrev cX5_status : ByteArray := prog_1_method_50_code
def yX5_status : MethodName := ⟨RX5, "status", "(I)I"⟩
abbrev cX5_found : ByteArray := prog_1_method_51_code
def yX5_found : MethodName := ⟨RX5, "found", "(I)I"⟩
abbrev cX5_within : ByteArray := prog_1_method_52_code
def yX5_within : MethodName := ⟨RX5, "within", "(III)Z"⟩
abbrev cX5_isIn : ByteArray := prog_1_method_53_code
def yX5_isIn : MethodName := ⟨RX5, "isIn", "(II)Z"⟩
abbrev cX5_isSmaller : ByteArray := prog_1_method_54_code
def yX5_isSmaller : MethodName := ⟨RX5, "isSmaller", "(II)Z"⟩
abbrev cX5_isKind : ByteArray := prog_1_method_55_code
def yX5_isKind : MethodName := ⟨RX5, "isKind", "(I)Z"⟩
abbrev cX5_isSeat : ByteArray := prog_1_method_56_code
def yX5_isSeat : MethodName := ⟨RX5, "isSeat", "(I)Z"⟩
abbrev cX5_isTopics : ByteArray := prog_1_method_57_code
def yX5_isTopics : MethodName := ⟨RX5, "isTopics", "(I)Z"⟩
abbrev cX5_isFun : ByteArray := prog_1_method_58_code
def yX5_isFun : MethodName := ⟨RX5, "isFun", "(I)Z"⟩
abbrev cX5_hasPerson : ByteArray := prog_1_method_59_code
def yX5_hasPerson : MethodName := ⟨RX5, "hasPerson", "(I)Z"⟩
abbrev cX5_hasJoke : ByteArray := prog_1_method_60_code
def yX5_hasJoke : MethodName := ⟨RX5, "hasJoke", "(I)Z"⟩
abbrev cX5_canBecome : ByteArray := prog_1_method_61_code
def yX5_canBecome : MethodName := ⟨RX5, "canBecome", "(II)Z"⟩
abbrev cX5_replace : ByteArray := prog_1_method_62_code
def yX5_replace : MethodName := ⟨RX5, "replace", "([III)I"⟩
abbrev cX5_moveTo : ByteArray := prog_1_method_63_code
def yX5_moveTo : MethodName := ⟨RX5, "moveTo", "(II)I"⟩
abbrev cX5_laughingAt : ByteArray := prog_1_method_64_code
def yX5_laughingAt : MethodName := ⟨RX5, "laughingAt", "(II)I"⟩
abbrev cX5_sheetFinding : ByteArray := prog_1_method_65_code
def yX5_sheetFinding : MethodName := ⟨RX5, "sheetFinding", "(I)I"⟩
abbrev cX5_paymentsFinding : ByteArray := prog_1_method_66_code
def yX5_paymentsFinding : MethodName := ⟨RX5, "paymentsFinding", "(III)I"⟩
abbrev cX5_fits : ByteArray := prog_1_method_67_code
def yX5_fits : MethodName := ⟨RX5, "fits", "(LLaughTax$Sheet;III)Z"⟩
abbrev cX5_inLowestTerms : ByteArray := prog_1_method_68_code
def yX5_inLowestTerms : MethodName := ⟨RX5, "inLowestTerms", "(II)I"⟩
abbrev cX5_power : ByteArray := prog_1_method_69_code
def yX5_power : MethodName := ⟨RX5, "power", "(II)J"⟩
def RX6 : String := "LaughTaxModel"
def TX6 : u_T := fun k => match k with
  | 0 => ("LaughTaxModel", "s", "[I", true)
  | 1 => ("LaughTaxModel", "kept", "[I", true)
  | 2 => ("LaughTaxModel", "aside", "[I", true)
  | 3 => ("LaughTaxModel", "isKept", "Z", false)
  | 4 => ("LaughTaxModel", "found", "[I", true)
  | 5 => ("LaughTaxModel", "round", "[I", true)
  | 6 => ("LaughTaxModel", "rounds", "I", false)
  | 7 => ("LaughTaxModel", "paid", "[I", true)
  | 8 => ("LaughTaxModel", "leastTaste", "I", false)
  | 9 => ("LaughTaxModel", "tape", "[I", true)
  | 10 => ("LaughTaxModel", "taped", "I", false)
  | 11 => ("LaughTaxModel", "from", "I", false)
  | 12 => ("LaughTaxModel", "to", "I", false)
  | 13 => ("LaughTaxModel", "isWrong", "Z", false)
  | 14 => ("LaughTaxModel", "bitsOf", "[I", true)
  | 15 => ("LaughTaxModel", "sizeOf", "[I", true)
  | 16 => ("LaughTaxModel", "number", "[I", true)
  | _ => ("LaughTaxModel", "moved", "[I", true)
def tyX6 : Nat → FieldType := fun k => match k with
  | 0 => .array .int
  | 1 => .array .int
  | 2 => .array .int
  | 3 => .boolean
  | 4 => .array .int
  | 5 => .array .int
  | 6 => .int
  | 7 => .array .int
  | 8 => .int
  | 9 => .array .int
  | 10 => .int
  | 11 => .int
  | 12 => .int
  | 13 => .boolean
  | 14 => .array .int
  | 15 => .array .int
  | 16 => .array .int
  | _ => .array .int
abbrev wsX60 : List Cond := u_ws RX6 TX6 18
theorem nmX6 : ∀ a, a < 18 → ∀ b, b < 18 → a ≠ b → (TX6 a).2.1 ≠ (TX6 b).2.1 := by decide +kernel
theorem tyX6_ok : ∀ k, k < 18 → parseFieldDescriptor (TX6 k).2.2.1 = some (tyX6 k) := by decide +kernel
abbrev cX6_init : ByteArray := prog_8_method_1_code
def yX6_init : MethodName := ⟨RX6, "<init>", "()V"⟩
abbrev cX6_finds : ByteArray := prog_8_method_2_code
def yX6_finds : MethodName := ⟨RX6, "finds", "(I)I"⟩
abbrev cX6_in : ByteArray := prog_8_method_3_code
def yX6_in : MethodName := ⟨RX6, "in", "(JJJ)Z"⟩
abbrev cX6_become : ByteArray := prog_8_method_4_code
def yX6_become : MethodName := ⟨RX6, "become", "([I[I)V"⟩
abbrev cX6_lends : ByteArray := prog_8_method_5_code
def yX6_lends : MethodName := ⟨RX6, "lends", "()V"⟩
abbrev cX6_laysBack : ByteArray := prog_8_method_6_code
def yX6_laysBack : MethodName := ⟨RX6, "laysBack", "()V"⟩
abbrev cX6_isPerson : ByteArray := prog_8_method_7_code
def yX6_isPerson : MethodName := ⟨RX6, "isPerson", "(I)Z"⟩
abbrev cX6_isJoke : ByteArray := prog_8_method_8_code
def yX6_isJoke : MethodName := ⟨RX6, "isJoke", "(I)Z"⟩
abbrev cX6_isSeat : ByteArray := prog_8_method_9_code
def yX6_isSeat : MethodName := ⟨RX6, "isSeat", "(I)Z"⟩
abbrev cX6_isTopics : ByteArray := prog_8_method_10_code
def yX6_isTopics : MethodName := ⟨RX6, "isTopics", "(I)Z"⟩
abbrev cX6_isFun : ByteArray := prog_8_method_11_code
def yX6_isFun : MethodName := ⟨RX6, "isFun", "(I)Z"⟩
abbrev cX6_its : ByteArray := prog_8_method_12_code
def yX6_its : MethodName := ⟨RX6, "its", "(II)I"⟩
abbrev cX6_sets : ByteArray := prog_8_method_13_code
def yX6_sets : MethodName := ⟨RX6, "sets", "(III)V"⟩
abbrev cX6_becomes : ByteArray := prog_8_method_14_code
def yX6_becomes : MethodName := ⟨RX6, "becomes", "(II)I"⟩
abbrev cX6_ones : ByteArray := prog_8_method_15_code
def yX6_ones : MethodName := ⟨RX6, "ones", "(I)I"⟩
abbrev cX6_everybody : ByteArray := prog_8_method_16_code
def yX6_everybody : MethodName := ⟨RX6, "everybody", "()I"⟩
abbrev cX6_aboveOf : ByteArray := prog_8_method_17_code
def yX6_aboveOf : MethodName := ⟨RX6, "aboveOf", "(I)I"⟩
abbrev cX6_isUnder : ByteArray := prog_8_method_18_code
def yX6_isUnder : MethodName := ⟨RX6, "isUnder", "(II)Z"⟩
abbrev cX6_isKind : ByteArray := prog_8_method_19_code
def yX6_isKind : MethodName := ⟨RX6, "isKind", "(I)Z"⟩
abbrev cX6_bound : ByteArray := prog_8_method_20_code
def yX6_bound : MethodName := ⟨RX6, "bound", "(I)I"⟩
abbrev cX6_numberOf : ByteArray := prog_8_method_21_code
def yX6_numberOf : MethodName := ⟨RX6, "numberOf", "(I)I"⟩
abbrev cX6_near : ByteArray := prog_8_method_22_code
def yX6_near : MethodName := ⟨RX6, "near", "(I)I"⟩
abbrev cX6_strong : ByteArray := prog_8_method_23_code
def yX6_strong : MethodName := ⟨RX6, "strong", "(III)I"⟩
abbrev cX6_seconds : ByteArray := prog_8_method_24_code
def yX6_seconds : MethodName := ⟨RX6, "seconds", "(III)I"⟩
abbrev cX6_due : ByteArray := prog_8_method_25_code
def yX6_due : MethodName := ⟨RX6, "due", "(III)I"⟩
abbrev cX6_adds : ByteArray := prog_8_method_26_code
def yX6_adds : MethodName := ⟨RX6, "adds", "(II)I"⟩
abbrev cX6_person : ByteArray := prog_8_method_27_code
def yX6_person : MethodName := ⟨RX6, "person", "(II)I"⟩
abbrev cX6_of : ByteArray := prog_8_method_28_code
def yX6_of : MethodName := ⟨RX6, "of", "(II)I"⟩
abbrev cX6_mayBe : ByteArray := prog_8_method_29_code
def yX6_mayBe : MethodName := ⟨RX6, "mayBe", "(II)Z"⟩
abbrev cX6_change : ByteArray := prog_8_method_30_code
def yX6_change : MethodName := ⟨RX6, "change", "(III)I"⟩
abbrev cX6_addsJoke : ByteArray := prog_8_method_31_code
def yX6_addsJoke : MethodName := ⟨RX6, "addsJoke", "(II)I"⟩
abbrev cX6_joke : ByteArray := prog_8_method_32_code
def yX6_joke : MethodName := ⟨RX6, "joke", "(II)I"⟩
abbrev cX6_jokeOf : ByteArray := prog_8_method_33_code
def yX6_jokeOf : MethodName := ⟨RX6, "jokeOf", "(II)I"⟩
abbrev cX6_law : ByteArray := prog_8_method_34_code
def yX6_law : MethodName := ⟨RX6, "law", "(II)I"⟩
abbrev cX6_strength : ByteArray := prog_8_method_35_code
def yX6_strength : MethodName := ⟨RX6, "strength", "(III)I"⟩
abbrev cX6_caughtFrom : ByteArray := prog_8_method_36_code
def yX6_caughtFrom : MethodName := ⟨RX6, "caughtFrom", "(II)I"⟩
abbrev cX6_byThemselves : ByteArray := prog_8_method_37_code
def yX6_byThemselves : MethodName := ⟨RX6, "byThemselves", "(II)I"⟩
abbrev cX6_laughAt : ByteArray := prog_8_method_38_code
def yX6_laughAt : MethodName := ⟨RX6, "laughAt", "(II)I"⟩
abbrev cX6_laughAt_ : ByteArray := prog_8_method_39_code
def yX6_laughAt_ : MethodName := ⟨RX6, "laughAt", "(I)I"⟩
abbrev cX6_tells : ByteArray := prog_8_method_40_code
def yX6_tells : MethodName := ⟨RX6, "tells", "(I)I"⟩
abbrev cX6_allPaid : ByteArray := prog_8_method_41_code
def yX6_allPaid : MethodName := ⟨RX6, "allPaid", "()I"⟩
abbrev cX6_tell : ByteArray := prog_8_method_42_code
def yX6_tell : MethodName := ⟨RX6, "tell", "(I)I"⟩
abbrev cX6_evening : ByteArray := prog_8_method_43_code
def yX6_evening : MethodName := ⟨RX6, "evening", "(II)I"⟩
abbrev cX6_sumOf : ByteArray := prog_8_method_44_code
def yX6_sumOf : MethodName := ⟨RX6, "sumOf", "(I)I"⟩
abbrev cX6_now : ByteArray := prog_8_method_45_code
def yX6_now : MethodName := ⟨RX6, "now", "(I)I"⟩
abbrev cX6_poorest : ByteArray := prog_8_method_46_code
def yX6_poorest : MethodName := ⟨RX6, "poorest", "()I"⟩
abbrev cX6_relief : ByteArray := prog_8_method_47_code
def yX6_relief : MethodName := ⟨RX6, "relief", "(I)I"⟩
abbrev cX6_laugh : ByteArray := prog_8_method_48_code
def yX6_laugh : MethodName := ⟨RX6, "laugh", "(II)I"⟩
abbrev cX6_rounds : ByteArray := prog_8_method_49_code
def yX6_rounds : MethodName := ⟨RX6, "rounds", "(I)I"⟩
abbrev cX6_raised : ByteArray := prog_8_method_50_code
def yX6_raised : MethodName := ⟨RX6, "raised", "(I)I"⟩
abbrev cX6_ahead : ByteArray := prog_8_method_51_code
def yX6_ahead : MethodName := ⟨RX6, "ahead", "(II)I"⟩
abbrev cX6_orNone : ByteArray := prog_8_method_52_code
def yX6_orNone : MethodName := ⟨RX6, "orNone", "(I)I"⟩
abbrev cX6_stale : ByteArray := prog_8_method_53_code
def yX6_stale : MethodName := ⟨RX6, "stale", "(I)I"⟩
abbrev cX6_broke : ByteArray := prog_8_method_54_code
def yX6_broke : MethodName := ⟨RX6, "broke", "(II)I"⟩
abbrev cX6_caught : ByteArray := prog_8_method_55_code
def yX6_caught : MethodName := ⟨RX6, "caught", "(I)I"⟩
abbrev cX6_starter : ByteArray := prog_8_method_56_code
def yX6_starter : MethodName := ⟨RX6, "starter", "()I"⟩
abbrev cX6_fewest : ByteArray := prog_8_method_57_code
def yX6_fewest : MethodName := ⟨RX6, "fewest", "()I"⟩
abbrev cX6_leftWithout : ByteArray := prog_8_method_58_code
def yX6_leftWithout : MethodName := ⟨RX6, "leftWithout", "(II)I"⟩
abbrev cX6_away : ByteArray := prog_8_method_59_code
def yX6_away : MethodName := ⟨RX6, "away", "(II)I"⟩
abbrev cX6_seatFor : ByteArray := prog_8_method_60_code
def yX6_seatFor : MethodName := ⟨RX6, "seatFor", "(II)I"⟩
abbrev cX6_kindFor : ByteArray := prog_8_method_61_code
def yX6_kindFor : MethodName := ⟨RX6, "kindFor", "(II)I"⟩
abbrev cX6_reachFor : ByteArray := prog_8_method_62_code
def yX6_reachFor : MethodName := ⟨RX6, "reachFor", "(I)I"⟩
abbrev cX6_rateFor : ByteArray := prog_8_method_63_code
def yX6_rateFor : MethodName := ⟨RX6, "rateFor", "(II)I"⟩
abbrev cX6_best : ByteArray := prog_8_method_64_code
def yX6_best : MethodName := ⟨RX6, "best", "(I)I"⟩
abbrev cX6_quiet : ByteArray := prog_8_method_65_code
def yX6_quiet : MethodName := ⟨RX6, "quiet", "(I)I"⟩
abbrev cX6_safe : ByteArray := prog_8_method_66_code
def yX6_safe : MethodName := ⟨RX6, "safe", "(I)I"⟩
abbrev cX6_paysSo : ByteArray := prog_8_method_67_code
def yX6_paysSo : MethodName := ⟨RX6, "paysSo", "(III)Z"⟩
abbrev cX6_findTastes : ByteArray := prog_8_method_68_code
def yX6_findTastes : MethodName := ⟨RX6, "findTastes", "(III)I"⟩
abbrev cX6_lacksTastes : ByteArray := prog_8_method_69_code
def yX6_lacksTastes : MethodName := ⟨RX6, "lacksTastes", "(III)I"⟩
abbrev cX6_tastes : ByteArray := prog_8_method_70_code
def yX6_tastes : MethodName := ⟨RX6, "tastes", "(III)I"⟩
abbrev cX6_taste : ByteArray := prog_8_method_71_code
def yX6_taste : MethodName := ⟨RX6, "taste", "(III)I"⟩
abbrev cX6_which : ByteArray := prog_8_method_72_code
def yX6_which : MethodName := ⟨RX6, "which", "(I)I"⟩
abbrev cX6_draw : ByteArray := prog_8_method_73_code
def yX6_draw : MethodName := ⟨RX6, "draw", "()I"⟩
abbrev cX6_shows : ByteArray := prog_8_method_74_code
def yX6_shows : MethodName := ⟨RX6, "shows", "(I)I"⟩
abbrev cX6_odds : ByteArray := prog_8_method_75_code
def yX6_odds : MethodName := ⟨RX6, "odds", "(II)J"⟩
abbrev cX6_seed : ByteArray := prog_8_method_76_code
def yX6_seed : MethodName := ⟨RX6, "seed", "(I)I"⟩
abbrev cX6_feed : ByteArray := prog_8_method_77_code
def yX6_feed : MethodName := ⟨RX6, "feed", "(II)I"⟩
abbrev cX6_wipe : ByteArray := prog_8_method_78_code
def yX6_wipe : MethodName := ⟨RX6, "wipe", "()I"⟩
abbrev cX6_isByte : ByteArray := prog_8_method_79_code
def yX6_isByte : MethodName := ⟨RX6, "isByte", "(III)Z"⟩
abbrev cX6_next : ByteArray := prog_8_method_80_code
def yX6_next : MethodName := ⟨RX6, "next", "()V"⟩
abbrev cX6_isWord : ByteArray := prog_8_method_81_code
def yX6_isWord : MethodName := ⟨RX6, "isWord", "(Ljava/lang/String;)Z"⟩
abbrev cX6_must : ByteArray := prog_8_method_82_code
def yX6_must : MethodName := ⟨RX6, "must", "(Z)V"⟩
abbrev cX6_takes : ByteArray := prog_8_method_83_code
def yX6_takes : MethodName := ⟨RX6, "takes", "(Ljava/lang/String;)Z"⟩
abbrev cX6_numberRead : ByteArray := prog_8_method_84_code
def yX6_numberRead : MethodName := ⟨RX6, "numberRead", "(II)I"⟩
abbrev cX6_kindHere : ByteArray := prog_8_method_85_code
def yX6_kindHere : MethodName := ⟨RX6, "kindHere", "()I"⟩
abbrev cX6_partTold : ByteArray := prog_8_method_86_code
def yX6_partTold : MethodName := ⟨RX6, "partTold", "(ILjava/lang/String;II)V"⟩
abbrev cX6_personTold : ByteArray := prog_8_method_87_code
def yX6_personTold : MethodName := ⟨RX6, "personTold", "(I)V"⟩
abbrev cX6_jokeTold : ByteArray := prog_8_method_88_code
def yX6_jokeTold : MethodName := ⟨RX6, "jokeTold", "()V"⟩
abbrev cX6_item : ByteArray := prog_8_method_89_code
def yX6_item : MethodName := ⟨RX6, "item", "()V"⟩
abbrev cX6_text : ByteArray := prog_8_method_90_code
def yX6_text : MethodName := ⟨RX6, "text", "()I"⟩
abbrev cX6_isSpot : ByteArray := prog_8_method_91_code
def yX6_isSpot : MethodName := ⟨RX6, "isSpot", "(I)Z"⟩
abbrev cX6_hold : ByteArray := prog_8_method_92_code
def yX6_hold : MethodName := ⟨RX6, "hold", "(II)I"⟩
abbrev cX6_as : ByteArray := prog_8_method_93_code
def yX6_as : MethodName := ⟨RX6, "as", "(II)I"⟩
abbrev cX6_isSheet : ByteArray := prog_8_method_94_code
def yX6_isSheet : MethodName := ⟨RX6, "isSheet", "(I)Z"⟩
abbrev cX6_sheet : ByteArray := prog_8_method_95_code
def yX6_sheet : MethodName := ⟨RX6, "sheet", "(III)I"⟩
abbrev cX6_lacks : ByteArray := prog_8_method_96_code
def yX6_lacks : MethodName := ⟨RX6, "lacks", "(I)I"⟩
abbrev cX6_write : ByteArray := prog_8_method_97_code
def yX6_write : MethodName := ⟨RX6, "write", "(III)I"⟩
abbrev cX6_copy : ByteArray := prog_8_method_98_code
def yX6_copy : MethodName := ⟨RX6, "copy", "(IIIII)I"⟩
abbrev cX6_load : ByteArray := prog_8_method_99_code
def yX6_load : MethodName := ⟨RX6, "load", "(I)I"⟩
abbrev cX6_goesOn : ByteArray := prog_8_method_100_code
def yX6_goesOn : MethodName := ⟨RX6, "goesOn", "(II)Z"⟩
abbrev cX6_judge : ByteArray := prog_8_method_101_code
def yX6_judge : MethodName := ⟨RX6, "judge", "(I)I"⟩
abbrev cX6_image : ByteArray := prog_8_method_102_code
def yX6_image : MethodName := ⟨RX6, "image", "()I"⟩
abbrev cX6_undo : ByteArray := prog_8_method_103_code
def yX6_undo : MethodName := ⟨RX6, "undo", "()I"⟩
abbrev cX6_tear : ByteArray := prog_8_method_104_code
def yX6_tear : MethodName := ⟨RX6, "tear", "()I"⟩
abbrev cX6_held : ByteArray := prog_8_method_105_code
def yX6_held : MethodName := ⟨RX6, "held", "()I"⟩
abbrev cX6_count : ByteArray := prog_8_method_106_code
def yX6_count : MethodName := ⟨RX6, "count", "(I)I"⟩
abbrev cX6_status : ByteArray := prog_8_method_107_code
def yX6_status : MethodName := ⟨RX6, "status", "(I)I"⟩
def RJ6 : String := "java/lang/Integer"
def TJ6 : u_T := fun k => match k with
  | _ => ("", "", "", false)
def tyJ6 : Nat → FieldType := fun k => match k with
  | _ => .int
abbrev wsJ60 : List Cond := u_ws RJ6 TJ6 0
theorem nmJ6 : ∀ a, a < 0 → ∀ b, b < 0 → a ≠ b → (TJ6 a).2.1 ≠ (TJ6 b).2.1 := by decide +kernel
theorem tyJ6_ok : ∀ k, k < 0 → parseFieldDescriptor (TJ6 k).2.2.1 = some (tyJ6 k) := by decide +kernel
abbrev cJ6_bitCount_0f7a4 : ByteArray := prog_9_method_49_code
def yJ6_bitCount_0f7a4 : MethodName := ⟨RJ6, "bitCount", "(I)I"⟩
def RJ9 : String := "java/lang/Math"
def TJ9 : u_T := fun k => match k with
  | _ => ("", "", "", false)
def tyJ9 : Nat → FieldType := fun k => match k with
  | _ => .int
abbrev wsJ90 : List Cond := u_ws RJ9 TJ9 0
theorem nmJ9 : ∀ a, a < 0 → ∀ b, b < 0 → a ≠ b → (TJ9 a).2.1 ≠ (TJ9 b).2.1 := by decide +kernel
theorem tyJ9_ok : ∀ k, k < 0 → parseFieldDescriptor (TJ9 k).2.2.1 = some (tyJ9 k) := by decide +kernel
abbrev cJ9_abs_0f7a4 : ByteArray := prog_10_method_59_code
def yJ9_abs_0f7a4 : MethodName := ⟨RJ9, "abs", "(I)I"⟩
abbrev cJ9_max_7cf53 : ByteArray := prog_10_method_65_code
def yJ9_max_7cf53 : MethodName := ⟨RJ9, "max", "(II)I"⟩
abbrev cJ9_min_7cf53 : ByteArray := prog_10_method_69_code
def yJ9_min_7cf53 : MethodName := ⟨RJ9, "min", "(II)I"⟩
def RJ0 : String := "java/lang/String"
def TJ0 : u_T := fun k => match k with
  | _ => ("", "", "", false)
def tyJ0 : Nat → FieldType := fun k => match k with
  | _ => .int
abbrev wsJ00 : List Cond := u_ws RJ0 TJ0 0
theorem nmJ0 : ∀ a, a < 0 → ∀ b, b < 0 → a ≠ b → (TJ0 a).2.1 ≠ (TJ0 b).2.1 := by decide +kernel
theorem tyJ0_ok : ∀ k, k < 0 → parseFieldDescriptor (TJ0 k).2.2.1 = some (tyJ0 k) := by decide +kernel
abbrev cJ0_length_8abf5 : ByteArray := prog_11_method_54_code
def yJ0_length_8abf5 : MethodName := ⟨RJ0, "length", "()I"⟩
abbrev cJ0_charAt_5068e : ByteArray := prog_11_method_56_code
def yJ0_charAt_5068e : MethodName := ⟨RJ0, "charAt", "(I)C"⟩
abbrev cJ0_coder_7d493 : ByteArray := prog_11_method_152_code
def yJ0_coder_7d493 : MethodName := ⟨RJ0, "coder", "()B"⟩
abbrev cJ0_isLatin1_aae02 : ByteArray := prog_11_method_154_code
def yJ0_isLatin1_aae02 : MethodName := ⟨RJ0, "isLatin1", "()Z"⟩
abbrev cJ0_checkIndex_df160 : ByteArray := prog_11_method_155_code
def yJ0_checkIndex_df160 : MethodName := ⟨RJ0, "checkIndex", "(II)V"⟩
def RJ1 : String := "java/lang/StringLatin1"
def TJ1 : u_T := fun k => match k with
  | _ => ("", "", "", false)
def tyJ1 : Nat → FieldType := fun k => match k with
  | _ => .int
abbrev wsJ10 : List Cond := u_ws RJ1 TJ1 0
theorem nmJ1 : ∀ a, a < 0 → ∀ b, b < 0 → a ≠ b → (TJ1 a).2.1 ≠ (TJ1 b).2.1 := by decide +kernel
theorem tyJ1_ok : ∀ k, k < 0 → parseFieldDescriptor (TJ1 k).2.2.1 = some (tyJ1 k) := by decide +kernel
abbrev cJ1_charAt_3b067 : ByteArray := prog_12_method_2_code
def yJ1_charAt_3b067 : MethodName := ⟨RJ1, "charAt", "([BI)C"⟩
def RJ2 : String := "java/lang/StringUTF16"
def TJ2 : u_T := fun k => match k with
  | _ => ("", "", "", false)
def tyJ2 : Nat → FieldType := fun k => match k with
  | _ => .int
abbrev wsJ20 : List Cond := u_ws RJ2 TJ2 0
theorem nmJ2 : ∀ a, a < 0 → ∀ b, b < 0 → a ≠ b → (TJ2 a).2.1 ≠ (TJ2 b).2.1 := by decide +kernel
theorem tyJ2_ok : ∀ k, k < 0 → parseFieldDescriptor (TJ2 k).2.2.1 = some (tyJ2 k) := by decide +kernel
abbrev cJ2_getChar_3b067 : ByteArray := prog_13_method_5_code
def yJ2_getChar_3b067 : MethodName := ⟨RJ2, "getChar", "([BI)C"⟩
abbrev cJ2_length_9d52b : ByteArray := prog_13_method_6_code
def yJ2_length_9d52b : MethodName := ⟨RJ2, "length", "([B)I"⟩
abbrev cJ2_charAt_3b067 : ByteArray := prog_13_method_83_code
def yJ2_charAt_3b067 : MethodName := ⟨RJ2, "charAt", "([BI)C"⟩
abbrev cJ2_checkIndex_2214a : ByteArray := prog_13_method_91_code
def yJ2_checkIndex_2214a : MethodName := ⟨RJ2, "checkIndex", "(I[B)V"⟩
def RJ10 : String := "java/lang/System"
def TJ10 : u_T := fun k => match k with
  | _ => ("", "", "", false)
def tyJ10 : Nat → FieldType := fun k => match k with
  | _ => .int
abbrev wsJ100 : List Cond := u_ws RJ10 TJ10 0
theorem nmJ10 : ∀ a, a < 0 → ∀ b, b < 0 → a ≠ b → (TJ10 a).2.1 ≠ (TJ10 b).2.1 := by decide +kernel
theorem tyJ10_ok : ∀ k, k < 0 → parseFieldDescriptor (TJ10 k).2.2.1 = some (tyJ10 k) := by decide +kernel
def RJ3 : String := "jdk/internal/util/Preconditions"
def TJ3 : u_T := fun k => match k with
  | _ => ("", "", "", false)
def tyJ3 : Nat → FieldType := fun k => match k with
  | _ => .int
abbrev wsJ30 : List Cond := u_ws RJ3 TJ3 0
theorem nmJ3 : ∀ a, a < 0 → ∀ b, b < 0 → a ≠ b → (TJ3 a).2.1 ≠ (TJ3 b).2.1 := by decide +kernel
theorem tyJ3_ok : ∀ k, k < 0 → parseFieldDescriptor (TJ3 k).2.2.1 = some (tyJ3 k) := by decide +kernel
abbrev cJ3_checkIndex_8e157 : ByteArray := prog_15_method_11_code
def yJ3_checkIndex_8e157 : MethodName := ⟨RJ3, "checkIndex", "(IILjava/util/function/BiFunction;)I"⟩
def RL : String := "LaughTaxLaw"
abbrev cL_law : ByteArray := code
def yL_law : MethodName := ⟨RL, "law", "([I)Z"⟩
set_option maxRecDepth 20000 in
theorem inJ6 : ∀ w ∈ wsJ60, w ∈ lw_tbl := by decide +kernel
theorem inJ9 : ∀ w ∈ wsJ90, w ∈ lw_tbl := by decide +kernel
theorem inJ0 : ∀ w ∈ wsJ00, w ∈ lw_tbl := by decide +kernel
theorem inJ1 : ∀ w ∈ wsJ10, w ∈ lw_tbl := by decide +kernel
theorem inJ2 : ∀ w ∈ wsJ20, w ∈ lw_tbl := by decide +kernel
theorem inJ10 : ∀ w ∈ wsJ100, w ∈ lw_tbl := by decide +kernel
theorem inJ3 : ∀ w ∈ wsJ30, w ∈ lw_tbl := by decide +kernel
abbrev vwCl : List vw_C := [(RX1, TX1, 16), (RX2, TX2, 3), (RX3, TX3, 7), (RX4, TX4, 3), (RX5, TX5, 8), (RX6, TX6, 18)]
