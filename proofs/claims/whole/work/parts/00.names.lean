-- ===== PART A: goes FIRST, ahead of the names: the tables' words, and 'selects' of the private methods out of them =====
/-- a private method of a class that the tables say can be made, by its rows of tables_1 -/
def lw_okq (q : MethodName × Nat) : Prop := (q.1.cls ≠ "java/lang/invoke/MethodHandle" ∧ q.1.cls ≠ "java/lang/invoke/VarHandle") ∧ Cond.instantiable q.1.cls q.2 ∈ tables_1 ∧ Cond.privateMethod q.1 ∈ tables_1 ∧ Cond.instanceMethod q.1 ∈ tables_1
theorem lw_p0 : lw_okq (⟨"CityChords$Programme", "codeAfter", "(II)I"⟩, 4) := ⟨⟨by decide +kernel, by decide +kernel⟩, List.mem_of_getElem? (i := 376) (by decide +kernel), List.mem_of_getElem? (i := 385) (by decide +kernel), List.mem_of_getElem? (i := 386) (by decide +kernel)⟩
theorem lw_p1 : lw_okq (⟨"CityChords$Programme", "addWay", "(I)V"⟩, 4) := ⟨⟨by decide +kernel, by decide +kernel⟩, List.mem_of_getElem? (i := 376) (by decide +kernel), List.mem_of_getElem? (i := 395) (by decide +kernel), List.mem_of_getElem? (i := 396) (by decide +kernel)⟩
theorem lw_p2 : lw_okq (⟨"CityChords$Told", "write", "(I)V"⟩, 9) := ⟨⟨by decide +kernel, by decide +kernel⟩, List.mem_of_getElem? (i := 32) (by decide +kernel), List.mem_of_getElem? (i := 450) (by decide +kernel), List.mem_of_getElem? (i := 451) (by decide +kernel)⟩
theorem lw_p3 : lw_okq (⟨"CityChords$Told", "manyOf", "(I)I"⟩, 9) := ⟨⟨by decide +kernel, by decide +kernel⟩, List.mem_of_getElem? (i := 32) (by decide +kernel), List.mem_of_getElem? (i := 462) (by decide +kernel), List.mem_of_getElem? (i := 463) (by decide +kernel)⟩
theorem lw_p4 : lw_okq (⟨"CityChords$Reader", "read", "(I[BI)V"⟩, 11) := ⟨⟨by decide +kernel, by decide +kernel⟩, List.mem_of_getElem? (i := 194) (by decide +kernel), List.mem_of_getElem? (i := 466) (by decide +kernel), List.mem_of_getElem? (i := 467) (by decide +kernel)⟩
theorem lw_p5 : lw_okq (⟨"CityChords$City", "reset", "()V"⟩, 11) := ⟨⟨by decide +kernel, by decide +kernel⟩, List.mem_of_getElem? (i := 43) (by decide +kernel), List.mem_of_getElem? (i := 475) (by decide +kernel), List.mem_of_getElem? (i := 476) (by decide +kernel)⟩
theorem lw_p6 : lw_okq (⟨"CityChords$Trial", "reset", "()V"⟩, 3) := ⟨⟨by decide +kernel, by decide +kernel⟩, List.mem_of_getElem? (i := 140) (by decide +kernel), List.mem_of_getElem? (i := 480) (by decide +kernel), List.mem_of_getElem? (i := 481) (by decide +kernel)⟩
theorem lw_p7 : lw_okq (⟨"CityChords$Reader", "goOn", "()V"⟩, 11) := ⟨⟨by decide +kernel, by decide +kernel⟩, List.mem_of_getElem? (i := 194) (by decide +kernel), List.mem_of_getElem? (i := 484) (by decide +kernel), List.mem_of_getElem? (i := 485) (by decide +kernel)⟩
theorem lw_p8 : lw_okq (⟨"CityChords$Reader", "byteAt", "(I)I"⟩, 11) := ⟨⟨by decide +kernel, by decide +kernel⟩, List.mem_of_getElem? (i := 194) (by decide +kernel), List.mem_of_getElem? (i := 488) (by decide +kernel), List.mem_of_getElem? (i := 489) (by decide +kernel)⟩
theorem lw_p9 : lw_okq (⟨"CityChords$Reader", "readDigits", "()V"⟩, 11) := ⟨⟨by decide +kernel, by decide +kernel⟩, List.mem_of_getElem? (i := 194) (by decide +kernel), List.mem_of_getElem? (i := 501) (by decide +kernel), List.mem_of_getElem? (i := 502) (by decide +kernel)⟩
theorem lw_p10 : lw_okq (⟨"CityChords$Reader", "readCityLine", "()V"⟩, 11) := ⟨⟨by decide +kernel, by decide +kernel⟩, List.mem_of_getElem? (i := 194) (by decide +kernel), List.mem_of_getElem? (i := 505) (by decide +kernel), List.mem_of_getElem? (i := 506) (by decide +kernel)⟩
theorem lw_p11 : lw_okq (⟨"CityChords$Reader", "takeWord", "(Ljava/lang/String;)I"⟩, 11) := ⟨⟨by decide +kernel, by decide +kernel⟩, List.mem_of_getElem? (i := 194) (by decide +kernel), List.mem_of_getElem? (i := 510) (by decide +kernel), List.mem_of_getElem? (i := 511) (by decide +kernel)⟩
theorem lw_p12 : lw_okq (⟨"CityChords$Reader", "wordIn", "(Ljava/lang/String;)I"⟩, 11) := ⟨⟨by decide +kernel, by decide +kernel⟩, List.mem_of_getElem? (i := 194) (by decide +kernel), List.mem_of_getElem? (i := 514) (by decide +kernel), List.mem_of_getElem? (i := 515) (by decide +kernel)⟩
theorem lw_p13 : lw_okq (⟨"CityChords$Reader", "isToken", "(Ljava/lang/String;II)Z"⟩, 11) := ⟨⟨by decide +kernel, by decide +kernel⟩, List.mem_of_getElem? (i := 194) (by decide +kernel), List.mem_of_getElem? (i := 566) (by decide +kernel), List.mem_of_getElem? (i := 567) (by decide +kernel)⟩
theorem lw_p14 : lw_okq (⟨"CityChords$Reader", "stick", "()V"⟩, 11) := ⟨⟨by decide +kernel, by decide +kernel⟩, List.mem_of_getElem? (i := 194) (by decide +kernel), List.mem_of_getElem? (i := 570) (by decide +kernel), List.mem_of_getElem? (i := 571) (by decide +kernel)⟩
theorem lw_p15 : lw_okq (⟨"CityChords$Reader", "takeNumber", "(II)I"⟩, 11) := ⟨⟨by decide +kernel, by decide +kernel⟩, List.mem_of_getElem? (i := 194) (by decide +kernel), List.mem_of_getElem? (i := 574) (by decide +kernel), List.mem_of_getElem? (i := 575) (by decide +kernel)⟩
def lw_privs_1 : List (MethodName × Nat) := [(⟨"CityChords$Programme", "codeAfter", "(II)I"⟩, 4), (⟨"CityChords$Programme", "addWay", "(I)V"⟩, 4), (⟨"CityChords$Told", "write", "(I)V"⟩, 9), (⟨"CityChords$Told", "manyOf", "(I)I"⟩, 9), (⟨"CityChords$Reader", "read", "(I[BI)V"⟩, 11), (⟨"CityChords$City", "reset", "()V"⟩, 11), (⟨"CityChords$Trial", "reset", "()V"⟩, 3), (⟨"CityChords$Reader", "goOn", "()V"⟩, 11), (⟨"CityChords$Reader", "byteAt", "(I)I"⟩, 11), (⟨"CityChords$Reader", "readDigits", "()V"⟩, 11), (⟨"CityChords$Reader", "readCityLine", "()V"⟩, 11), (⟨"CityChords$Reader", "takeWord", "(Ljava/lang/String;)I"⟩, 11), (⟨"CityChords$Reader", "wordIn", "(Ljava/lang/String;)I"⟩, 11), (⟨"CityChords$Reader", "isToken", "(Ljava/lang/String;II)Z"⟩, 11), (⟨"CityChords$Reader", "stick", "()V"⟩, 11), (⟨"CityChords$Reader", "takeNumber", "(II)I"⟩, 11)]
theorem lw_r1 : ∀ q ∈ lw_privs_1, lw_okq q := List.forall_mem_cons.mpr ⟨lw_p0, List.forall_mem_cons.mpr ⟨lw_p1, List.forall_mem_cons.mpr ⟨lw_p2, List.forall_mem_cons.mpr ⟨lw_p3, List.forall_mem_cons.mpr ⟨lw_p4, List.forall_mem_cons.mpr ⟨lw_p5, List.forall_mem_cons.mpr ⟨lw_p6, List.forall_mem_cons.mpr ⟨lw_p7, List.forall_mem_cons.mpr ⟨lw_p8, List.forall_mem_cons.mpr ⟨lw_p9, List.forall_mem_cons.mpr ⟨lw_p10, List.forall_mem_cons.mpr ⟨lw_p11, List.forall_mem_cons.mpr ⟨lw_p12, List.forall_mem_cons.mpr ⟨lw_p13, List.forall_mem_cons.mpr ⟨lw_p14, List.forall_mem_cons.mpr ⟨lw_p15, fun _ h => absurd h List.not_mem_nil⟩⟩⟩⟩⟩⟩⟩⟩⟩⟩⟩⟩⟩⟩⟩⟩
theorem lw_p16 : lw_okq (⟨"CityChords$Reader", "note", "(II)V"⟩, 11) := ⟨⟨by decide +kernel, by decide +kernel⟩, List.mem_of_getElem? (i := 194) (by decide +kernel), List.mem_of_getElem? (i := 578) (by decide +kernel), List.mem_of_getElem? (i := 579) (by decide +kernel)⟩
theorem lw_p17 : lw_okq (⟨"CityChords$Reader", "readValue", "()V"⟩, 11) := ⟨⟨by decide +kernel, by decide +kernel⟩, List.mem_of_getElem? (i := 194) (by decide +kernel), List.mem_of_getElem? (i := 582) (by decide +kernel), List.mem_of_getElem? (i := 583) (by decide +kernel)⟩
theorem lw_p18 : lw_okq (⟨"CityChords$Reader", "readPlace", "(II)V"⟩, 11) := ⟨⟨by decide +kernel, by decide +kernel⟩, List.mem_of_getElem? (i := 194) (by decide +kernel), List.mem_of_getElem? (i := 587) (by decide +kernel), List.mem_of_getElem? (i := 588) (by decide +kernel)⟩
theorem lw_p19 : lw_okq (⟨"CityChords$City", "addPlayer", "(II)V"⟩, 11) := ⟨⟨by decide +kernel, by decide +kernel⟩, List.mem_of_getElem? (i := 43) (by decide +kernel), List.mem_of_getElem? (i := 594) (by decide +kernel), List.mem_of_getElem? (i := 595) (by decide +kernel)⟩
theorem lw_p20 : lw_okq (⟨"CityChords$City", "addPerson", "(II)V"⟩, 11) := ⟨⟨by decide +kernel, by decide +kernel⟩, List.mem_of_getElem? (i := 43) (by decide +kernel), List.mem_of_getElem? (i := 598) (by decide +kernel), List.mem_of_getElem? (i := 599) (by decide +kernel)⟩
theorem lw_p21 : lw_okq (⟨"CityChords$Reader", "readDeed", "()V"⟩, 11) := ⟨⟨by decide +kernel, by decide +kernel⟩, List.mem_of_getElem? (i := 194) (by decide +kernel), List.mem_of_getElem? (i := 605) (by decide +kernel), List.mem_of_getElem? (i := 606) (by decide +kernel)⟩
theorem lw_p22 : lw_okq (⟨"CityChords$Reader", "noteIfFull", "(II)V"⟩, 11) := ⟨⟨by decide +kernel, by decide +kernel⟩, List.mem_of_getElem? (i := 194) (by decide +kernel), List.mem_of_getElem? (i := 610) (by decide +kernel), List.mem_of_getElem? (i := 611) (by decide +kernel)⟩
theorem lw_p23 : lw_okq (⟨"CityChords$Rows", "add", "(III)V"⟩, 4) := ⟨⟨by decide +kernel, by decide +kernel⟩, List.mem_of_getElem? (i := 109) (by decide +kernel), List.mem_of_getElem? (i := 614) (by decide +kernel), List.mem_of_getElem? (i := 615) (by decide +kernel)⟩
theorem lw_p24 : lw_okq (⟨"CityChords$Reader", "readTrialLine", "()V"⟩, 11) := ⟨⟨by decide +kernel, by decide +kernel⟩, List.mem_of_getElem? (i := 194) (by decide +kernel), List.mem_of_getElem? (i := 618) (by decide +kernel), List.mem_of_getElem? (i := 619) (by decide +kernel)⟩
theorem lw_p25 : lw_okq (⟨"CityChords$Reader", "readFact", "()V"⟩, 11) := ⟨⟨by decide +kernel, by decide +kernel⟩, List.mem_of_getElem? (i := 194) (by decide +kernel), List.mem_of_getElem? (i := 623) (by decide +kernel), List.mem_of_getElem? (i := 624) (by decide +kernel)⟩
theorem lw_p26 : lw_okq (⟨"CityChords$Reader", "takeSemicolon", "()V"⟩, 11) := ⟨⟨by decide +kernel, by decide +kernel⟩, List.mem_of_getElem? (i := 194) (by decide +kernel), List.mem_of_getElem? (i := 628) (by decide +kernel), List.mem_of_getElem? (i := 629) (by decide +kernel)⟩
theorem lw_p27 : lw_okq (⟨"CityChords$Reader", "checkWhole", "(I)V"⟩, 11) := ⟨⟨by decide +kernel, by decide +kernel⟩, List.mem_of_getElem? (i := 194) (by decide +kernel), List.mem_of_getElem? (i := 632) (by decide +kernel), List.mem_of_getElem? (i := 633) (by decide +kernel)⟩
theorem lw_p28 : lw_okq (⟨"CityChords$City", "inhabited", "()J"⟩, 11) := ⟨⟨by decide +kernel, by decide +kernel⟩, List.mem_of_getElem? (i := 43) (by decide +kernel), List.mem_of_getElem? (i := 636) (by decide +kernel), List.mem_of_getElem? (i := 637) (by decide +kernel)⟩
theorem lw_p29 : lw_okq (⟨"CityChords$City", "inside", "()J"⟩, 11) := ⟨⟨by decide +kernel, by decide +kernel⟩, List.mem_of_getElem? (i := 43) (by decide +kernel), List.mem_of_getElem? (i := 641) (by decide +kernel), List.mem_of_getElem? (i := 642) (by decide +kernel)⟩
theorem lw_p30 : lw_okq (⟨"CityChords$Trial", "namesOneWhoIsNotThere", "()Z"⟩, 3) := ⟨⟨by decide +kernel, by decide +kernel⟩, List.mem_of_getElem? (i := 140) (by decide +kernel), List.mem_of_getElem? (i := 646) (by decide +kernel), List.mem_of_getElem? (i := 647) (by decide +kernel)⟩
theorem lw_p31 : lw_okq (⟨"CityChords$Told", "put", "(IILCityChords$Reader;)V"⟩, 9) := ⟨⟨by decide +kernel, by decide +kernel⟩, List.mem_of_getElem? (i := 32) (by decide +kernel), List.mem_of_getElem? (i := 650) (by decide +kernel), List.mem_of_getElem? (i := 651) (by decide +kernel)⟩
def lw_privs_2 : List (MethodName × Nat) := [(⟨"CityChords$Reader", "note", "(II)V"⟩, 11), (⟨"CityChords$Reader", "readValue", "()V"⟩, 11), (⟨"CityChords$Reader", "readPlace", "(II)V"⟩, 11), (⟨"CityChords$City", "addPlayer", "(II)V"⟩, 11), (⟨"CityChords$City", "addPerson", "(II)V"⟩, 11), (⟨"CityChords$Reader", "readDeed", "()V"⟩, 11), (⟨"CityChords$Reader", "noteIfFull", "(II)V"⟩, 11), (⟨"CityChords$Rows", "add", "(III)V"⟩, 4), (⟨"CityChords$Reader", "readTrialLine", "()V"⟩, 11), (⟨"CityChords$Reader", "readFact", "()V"⟩, 11), (⟨"CityChords$Reader", "takeSemicolon", "()V"⟩, 11), (⟨"CityChords$Reader", "checkWhole", "(I)V"⟩, 11), (⟨"CityChords$City", "inhabited", "()J"⟩, 11), (⟨"CityChords$City", "inside", "()J"⟩, 11), (⟨"CityChords$Trial", "namesOneWhoIsNotThere", "()Z"⟩, 3), (⟨"CityChords$Told", "put", "(IILCityChords$Reader;)V"⟩, 9)]
theorem lw_r2 : ∀ q ∈ lw_privs_2, lw_okq q := List.forall_mem_cons.mpr ⟨lw_p16, List.forall_mem_cons.mpr ⟨lw_p17, List.forall_mem_cons.mpr ⟨lw_p18, List.forall_mem_cons.mpr ⟨lw_p19, List.forall_mem_cons.mpr ⟨lw_p20, List.forall_mem_cons.mpr ⟨lw_p21, List.forall_mem_cons.mpr ⟨lw_p22, List.forall_mem_cons.mpr ⟨lw_p23, List.forall_mem_cons.mpr ⟨lw_p24, List.forall_mem_cons.mpr ⟨lw_p25, List.forall_mem_cons.mpr ⟨lw_p26, List.forall_mem_cons.mpr ⟨lw_p27, List.forall_mem_cons.mpr ⟨lw_p28, List.forall_mem_cons.mpr ⟨lw_p29, List.forall_mem_cons.mpr ⟨lw_p30, List.forall_mem_cons.mpr ⟨lw_p31, fun _ h => absurd h List.not_mem_nil⟩⟩⟩⟩⟩⟩⟩⟩⟩⟩⟩⟩⟩⟩⟩⟩
theorem lw_p32 : lw_okq (⟨"CityChords$City", "take", "(LCityChords$City;)V"⟩, 11) := ⟨⟨by decide +kernel, by decide +kernel⟩, List.mem_of_getElem? (i := 43) (by decide +kernel), List.mem_of_getElem? (i := 654) (by decide +kernel), List.mem_of_getElem? (i := 655) (by decide +kernel)⟩
theorem lw_p33 : lw_okq (⟨"CityChords$Rows", "take", "(LCityChords$Rows;)V"⟩, 4) := ⟨⟨by decide +kernel, by decide +kernel⟩, List.mem_of_getElem? (i := 109) (by decide +kernel), List.mem_of_getElem? (i := 659) (by decide +kernel), List.mem_of_getElem? (i := 660) (by decide +kernel)⟩
theorem lw_p34 : lw_okq (⟨"CityChords$Trial", "take", "(LCityChords$Trial;)V"⟩, 3) := ⟨⟨by decide +kernel, by decide +kernel⟩, List.mem_of_getElem? (i := 140) (by decide +kernel), List.mem_of_getElem? (i := 664) (by decide +kernel), List.mem_of_getElem? (i := 665) (by decide +kernel)⟩
theorem lw_p35 : lw_okq (⟨"CityChords$Told", "cityAt", "(I)LCityChords$City;"⟩, 9) := ⟨⟨by decide +kernel, by decide +kernel⟩, List.mem_of_getElem? (i := 32) (by decide +kernel), List.mem_of_getElem? (i := 678) (by decide +kernel), List.mem_of_getElem? (i := 679) (by decide +kernel)⟩
theorem lw_p36 : lw_okq (⟨"CityChords$Told", "hasOne", "(II)Z"⟩, 9) := ⟨⟨by decide +kernel, by decide +kernel⟩, List.mem_of_getElem? (i := 32) (by decide +kernel), List.mem_of_getElem? (i := 682) (by decide +kernel), List.mem_of_getElem? (i := 683) (by decide +kernel)⟩
theorem lw_p37 : lw_okq (⟨"CityChords$City", "tell", "(I)I"⟩, 11) := ⟨⟨by decide +kernel, by decide +kernel⟩, List.mem_of_getElem? (i := 43) (by decide +kernel), List.mem_of_getElem? (i := 686) (by decide +kernel), List.mem_of_getElem? (i := 687) (by decide +kernel)⟩
theorem lw_p38 : lw_okq (⟨"CityChords$City", "spotOf", "(I)I"⟩, 11) := ⟨⟨by decide +kernel, by decide +kernel⟩, List.mem_of_getElem? (i := 43) (by decide +kernel), List.mem_of_getElem? (i := 690) (by decide +kernel), List.mem_of_getElem? (i := 691) (by decide +kernel)⟩
theorem lw_p39 : lw_okq (⟨"CityChords$City", "tellOne", "(II)I"⟩, 11) := ⟨⟨by decide +kernel, by decide +kernel⟩, List.mem_of_getElem? (i := 43) (by decide +kernel), List.mem_of_getElem? (i := 699) (by decide +kernel), List.mem_of_getElem? (i := 700) (by decide +kernel)⟩
theorem lw_p40 : lw_okq (⟨"CityChords$City", "hasPlayer", "(I)Z"⟩, 11) := ⟨⟨by decide +kernel, by decide +kernel⟩, List.mem_of_getElem? (i := 43) (by decide +kernel), List.mem_of_getElem? (i := 703) (by decide +kernel), List.mem_of_getElem? (i := 704) (by decide +kernel)⟩
theorem lw_p41 : lw_okq (⟨"CityChords$City", "cellOf", "(I)I"⟩, 11) := ⟨⟨by decide +kernel, by decide +kernel⟩, List.mem_of_getElem? (i := 43) (by decide +kernel), List.mem_of_getElem? (i := 707) (by decide +kernel), List.mem_of_getElem? (i := 708) (by decide +kernel)⟩
theorem lw_p42 : lw_okq (⟨"CityChords$City", "hasPerson", "(I)Z"⟩, 11) := ⟨⟨by decide +kernel, by decide +kernel⟩, List.mem_of_getElem? (i := 43) (by decide +kernel), List.mem_of_getElem? (i := 711) (by decide +kernel), List.mem_of_getElem? (i := 712) (by decide +kernel)⟩
theorem lw_p43 : lw_okq (⟨"CityChords$Told", "nightAt", "(I)LCityChords$Rows;"⟩, 9) := ⟨⟨by decide +kernel, by decide +kernel⟩, List.mem_of_getElem? (i := 32) (by decide +kernel), List.mem_of_getElem? (i := 719) (by decide +kernel), List.mem_of_getElem? (i := 720) (by decide +kernel)⟩
theorem lw_p44 : lw_okq (⟨"CityChords$Rows", "tell", "(II)I"⟩, 4) := ⟨⟨by decide +kernel, by decide +kernel⟩, List.mem_of_getElem? (i := 109) (by decide +kernel), List.mem_of_getElem? (i := 723) (by decide +kernel), List.mem_of_getElem? (i := 724) (by decide +kernel)⟩
theorem lw_p45 : lw_okq (⟨"CityChords$Play", "playNight", "(LCityChords$City;LCityChords$Rows;I)I"⟩, 8) := ⟨⟨by decide +kernel, by decide +kernel⟩, List.mem_of_getElem? (i := 287) (by decide +kernel), List.mem_of_getElem? (i := 731) (by decide +kernel), List.mem_of_getElem? (i := 732) (by decide +kernel)⟩
theorem lw_p46 : lw_okq (⟨"CityChords$Play", "begin", "(LCityChords$City;)V"⟩, 8) := ⟨⟨by decide +kernel, by decide +kernel⟩, List.mem_of_getElem? (i := 287) (by decide +kernel), List.mem_of_getElem? (i := 735) (by decide +kernel), List.mem_of_getElem? (i := 736) (by decide +kernel)⟩
theorem lw_p47 : lw_okq (⟨"CityChords$Play", "act", "(LCityChords$City;III)Z"⟩, 8) := ⟨⟨by decide +kernel, by decide +kernel⟩, List.mem_of_getElem? (i := 287) (by decide +kernel), List.mem_of_getElem? (i := 741) (by decide +kernel), List.mem_of_getElem? (i := 742) (by decide +kernel)⟩
def lw_privs_3 : List (MethodName × Nat) := [(⟨"CityChords$City", "take", "(LCityChords$City;)V"⟩, 11), (⟨"CityChords$Rows", "take", "(LCityChords$Rows;)V"⟩, 4), (⟨"CityChords$Trial", "take", "(LCityChords$Trial;)V"⟩, 3), (⟨"CityChords$Told", "cityAt", "(I)LCityChords$City;"⟩, 9), (⟨"CityChords$Told", "hasOne", "(II)Z"⟩, 9), (⟨"CityChords$City", "tell", "(I)I"⟩, 11), (⟨"CityChords$City", "spotOf", "(I)I"⟩, 11), (⟨"CityChords$City", "tellOne", "(II)I"⟩, 11), (⟨"CityChords$City", "hasPlayer", "(I)Z"⟩, 11), (⟨"CityChords$City", "cellOf", "(I)I"⟩, 11), (⟨"CityChords$City", "hasPerson", "(I)Z"⟩, 11), (⟨"CityChords$Told", "nightAt", "(I)LCityChords$Rows;"⟩, 9), (⟨"CityChords$Rows", "tell", "(II)I"⟩, 4), (⟨"CityChords$Play", "playNight", "(LCityChords$City;LCityChords$Rows;I)I"⟩, 8), (⟨"CityChords$Play", "begin", "(LCityChords$City;)V"⟩, 8), (⟨"CityChords$Play", "act", "(LCityChords$City;III)Z"⟩, 8)]
theorem lw_r3 : ∀ q ∈ lw_privs_3, lw_okq q := List.forall_mem_cons.mpr ⟨lw_p32, List.forall_mem_cons.mpr ⟨lw_p33, List.forall_mem_cons.mpr ⟨lw_p34, List.forall_mem_cons.mpr ⟨lw_p35, List.forall_mem_cons.mpr ⟨lw_p36, List.forall_mem_cons.mpr ⟨lw_p37, List.forall_mem_cons.mpr ⟨lw_p38, List.forall_mem_cons.mpr ⟨lw_p39, List.forall_mem_cons.mpr ⟨lw_p40, List.forall_mem_cons.mpr ⟨lw_p41, List.forall_mem_cons.mpr ⟨lw_p42, List.forall_mem_cons.mpr ⟨lw_p43, List.forall_mem_cons.mpr ⟨lw_p44, List.forall_mem_cons.mpr ⟨lw_p45, List.forall_mem_cons.mpr ⟨lw_p46, List.forall_mem_cons.mpr ⟨lw_p47, fun _ h => absurd h List.not_mem_nil⟩⟩⟩⟩⟩⟩⟩⟩⟩⟩⟩⟩⟩⟩⟩⟩
theorem lw_p48 : lw_okq (⟨"CityChords$Play", "isFree", "(I)Z"⟩, 8) := ⟨⟨by decide +kernel, by decide +kernel⟩, List.mem_of_getElem? (i := 287) (by decide +kernel), List.mem_of_getElem? (i := 746) (by decide +kernel), List.mem_of_getElem? (i := 747) (by decide +kernel)⟩
theorem lw_p49 : lw_okq (⟨"CityChords$City", "open", "()J"⟩, 11) := ⟨⟨by decide +kernel, by decide +kernel⟩, List.mem_of_getElem? (i := 43) (by decide +kernel), List.mem_of_getElem? (i := 750) (by decide +kernel), List.mem_of_getElem? (i := 751) (by decide +kernel)⟩
theorem lw_p50 : lw_okq (⟨"CityChords$Play", "playCommand", "(LCityChords$City;III)V"⟩, 8) := ⟨⟨by decide +kernel, by decide +kernel⟩, List.mem_of_getElem? (i := 287) (by decide +kernel), List.mem_of_getElem? (i := 777) (by decide +kernel), List.mem_of_getElem? (i := 778) (by decide +kernel)⟩
theorem lw_p51 : lw_okq (⟨"CityChords$City", "rangeOf", "(I)I"⟩, 11) := ⟨⟨by decide +kernel, by decide +kernel⟩, List.mem_of_getElem? (i := 43) (by decide +kernel), List.mem_of_getElem? (i := 781) (by decide +kernel), List.mem_of_getElem? (i := 782) (by decide +kernel)⟩
theorem lw_p52 : lw_okq (⟨"CityChords$Sound", "heard", "(LCityChords$City;II)J"⟩, 1) := ⟨⟨by decide +kernel, by decide +kernel⟩, List.mem_of_getElem? (i := 246) (by decide +kernel), List.mem_of_getElem? (i := 787) (by decide +kernel), List.mem_of_getElem? (i := 788) (by decide +kernel)⟩
theorem lw_p53 : lw_okq (⟨"CityChords$Sound", "spread", "(LCityChords$City;JI)V"⟩, 1) := ⟨⟨by decide +kernel, by decide +kernel⟩, List.mem_of_getElem? (i := 246) (by decide +kernel), List.mem_of_getElem? (i := 793) (by decide +kernel), List.mem_of_getElem? (i := 794) (by decide +kernel)⟩
theorem lw_p54 : lw_okq (⟨"CityChords$Play", "obey", "(LCityChords$City;IIIJ)V"⟩, 8) := ⟨⟨by decide +kernel, by decide +kernel⟩, List.mem_of_getElem? (i := 287) (by decide +kernel), List.mem_of_getElem? (i := 803) (by decide +kernel), List.mem_of_getElem? (i := 804) (by decide +kernel)⟩
theorem lw_p55 : lw_okq (⟨"CityChords$Play", "tell", "(LCityChords$City;I)I"⟩, 8) := ⟨⟨by decide +kernel, by decide +kernel⟩, List.mem_of_getElem? (i := 287) (by decide +kernel), List.mem_of_getElem? (i := 811) (by decide +kernel), List.mem_of_getElem? (i := 812) (by decide +kernel)⟩
theorem lw_p56 : lw_okq (⟨"CityChords$Sound", "cost", "(LCityChords$City;II)I"⟩, 1) := ⟨⟨by decide +kernel, by decide +kernel⟩, List.mem_of_getElem? (i := 246) (by decide +kernel), List.mem_of_getElem? (i := 822) (by decide +kernel), List.mem_of_getElem? (i := 823) (by decide +kernel)⟩
theorem lw_p57 : lw_okq (⟨"CityChords$Ears", "listen", "(LCityChords$City;)V"⟩, 7) := ⟨⟨by decide +kernel, by decide +kernel⟩, List.mem_of_getElem? (i := 257) (by decide +kernel), List.mem_of_getElem? (i := 831) (by decide +kernel), List.mem_of_getElem? (i := 832) (by decide +kernel)⟩
theorem lw_p58 : lw_okq (⟨"CityChords$Ears", "fewestPlayers", "(LCityChords$City;)I"⟩, 7) := ⟨⟨by decide +kernel, by decide +kernel⟩, List.mem_of_getElem? (i := 257) (by decide +kernel), List.mem_of_getElem? (i := 839) (by decide +kernel), List.mem_of_getElem? (i := 840) (by decide +kernel)⟩
theorem lw_p59 : lw_okq (⟨"CityChords$Ears", "heardOfSet", "(LCityChords$City;I)J"⟩, 7) := ⟨⟨by decide +kernel, by decide +kernel⟩, List.mem_of_getElem? (i := 257) (by decide +kernel), List.mem_of_getElem? (i := 844) (by decide +kernel), List.mem_of_getElem? (i := 845) (by decide +kernel)⟩
theorem lw_p60 : lw_okq (⟨"CityChords$Ears", "bestPlaces", "(LCityChords$City;III)I"⟩, 7) := ⟨⟨by decide +kernel, by decide +kernel⟩, List.mem_of_getElem? (i := 257) (by decide +kernel), List.mem_of_getElem? (i := 860) (by decide +kernel), List.mem_of_getElem? (i := 861) (by decide +kernel)⟩
theorem lw_p61 : lw_okq (⟨"CityChords$Ears", "tryPlaces", "(JII)V"⟩, 7) := ⟨⟨by decide +kernel, by decide +kernel⟩, List.mem_of_getElem? (i := 257) (by decide +kernel), List.mem_of_getElem? (i := 865) (by decide +kernel), List.mem_of_getElem? (i := 866) (by decide +kernel)⟩
theorem lw_p62 : lw_okq (⟨"CityChords$Ears", "keepIfMore", "(III)V"⟩, 7) := ⟨⟨by decide +kernel, by decide +kernel⟩, List.mem_of_getElem? (i := 257) (by decide +kernel), List.mem_of_getElem? (i := 870) (by decide +kernel), List.mem_of_getElem? (i := 871) (by decide +kernel)⟩
theorem lw_p63 : lw_okq (⟨"CityChords$Hunt", "layWays", "(JJ)V"⟩, 6) := ⟨⟨by decide +kernel, by decide +kernel⟩, List.mem_of_getElem? (i := 351) (by decide +kernel), List.mem_of_getElem? (i := 882) (by decide +kernel), List.mem_of_getElem? (i := 883) (by decide +kernel)⟩
def lw_privs_4 : List (MethodName × Nat) := [(⟨"CityChords$Play", "isFree", "(I)Z"⟩, 8), (⟨"CityChords$City", "open", "()J"⟩, 11), (⟨"CityChords$Play", "playCommand", "(LCityChords$City;III)V"⟩, 8), (⟨"CityChords$City", "rangeOf", "(I)I"⟩, 11), (⟨"CityChords$Sound", "heard", "(LCityChords$City;II)J"⟩, 1), (⟨"CityChords$Sound", "spread", "(LCityChords$City;JI)V"⟩, 1), (⟨"CityChords$Play", "obey", "(LCityChords$City;IIIJ)V"⟩, 8), (⟨"CityChords$Play", "tell", "(LCityChords$City;I)I"⟩, 8), (⟨"CityChords$Sound", "cost", "(LCityChords$City;II)I"⟩, 1), (⟨"CityChords$Ears", "listen", "(LCityChords$City;)V"⟩, 7), (⟨"CityChords$Ears", "fewestPlayers", "(LCityChords$City;)I"⟩, 7), (⟨"CityChords$Ears", "heardOfSet", "(LCityChords$City;I)J"⟩, 7), (⟨"CityChords$Ears", "bestPlaces", "(LCityChords$City;III)I"⟩, 7), (⟨"CityChords$Ears", "tryPlaces", "(JII)V"⟩, 7), (⟨"CityChords$Ears", "keepIfMore", "(III)V"⟩, 7), (⟨"CityChords$Hunt", "layWays", "(JJ)V"⟩, 6)]
theorem lw_r4 : ∀ q ∈ lw_privs_4, lw_okq q := List.forall_mem_cons.mpr ⟨lw_p48, List.forall_mem_cons.mpr ⟨lw_p49, List.forall_mem_cons.mpr ⟨lw_p50, List.forall_mem_cons.mpr ⟨lw_p51, List.forall_mem_cons.mpr ⟨lw_p52, List.forall_mem_cons.mpr ⟨lw_p53, List.forall_mem_cons.mpr ⟨lw_p54, List.forall_mem_cons.mpr ⟨lw_p55, List.forall_mem_cons.mpr ⟨lw_p56, List.forall_mem_cons.mpr ⟨lw_p57, List.forall_mem_cons.mpr ⟨lw_p58, List.forall_mem_cons.mpr ⟨lw_p59, List.forall_mem_cons.mpr ⟨lw_p60, List.forall_mem_cons.mpr ⟨lw_p61, List.forall_mem_cons.mpr ⟨lw_p62, List.forall_mem_cons.mpr ⟨lw_p63, fun _ h => absurd h List.not_mem_nil⟩⟩⟩⟩⟩⟩⟩⟩⟩⟩⟩⟩⟩⟩⟩⟩
theorem lw_p64 : lw_okq (⟨"CityChords$Hunt", "fewestMarches", "(IIZ)I"⟩, 6) := ⟨⟨by decide +kernel, by decide +kernel⟩, List.mem_of_getElem? (i := 351) (by decide +kernel), List.mem_of_getElem? (i := 888) (by decide +kernel), List.mem_of_getElem? (i := 889) (by decide +kernel)⟩
theorem lw_p65 : lw_okq (⟨"CityChords$Hunt", "turnsToCatch", "(JII)I"⟩, 6) := ⟨⟨by decide +kernel, by decide +kernel⟩, List.mem_of_getElem? (i := 351) (by decide +kernel), List.mem_of_getElem? (i := 897) (by decide +kernel), List.mem_of_getElem? (i := 898) (by decide +kernel)⟩
theorem lw_p66 : lw_okq (⟨"CityChords$Hunt", "addTurn", "(J)Z"⟩, 6) := ⟨⟨by decide +kernel, by decide +kernel⟩, List.mem_of_getElem? (i := 351) (by decide +kernel), List.mem_of_getElem? (i := 902) (by decide +kernel), List.mem_of_getElem? (i := 903) (by decide +kernel)⟩
theorem lw_p67 : lw_okq (⟨"CityChords$Hunt", "heldAround", "(JI)J"⟩, 6) := ⟨⟨by decide +kernel, by decide +kernel⟩, List.mem_of_getElem? (i := 351) (by decide +kernel), List.mem_of_getElem? (i := 910) (by decide +kernel), List.mem_of_getElem? (i := 911) (by decide +kernel)⟩
theorem lw_p68 : lw_okq (⟨"CityChords$Programme", "plan", "([IIZ)V"⟩, 4) := ⟨⟨by decide +kernel, by decide +kernel⟩, List.mem_of_getElem? (i := 376) (by decide +kernel), List.mem_of_getElem? (i := 918) (by decide +kernel), List.mem_of_getElem? (i := 919) (by decide +kernel)⟩
theorem lw_p69 : lw_okq (⟨"CityChords$Programme", "bestOf", "([IIIIZ)I"⟩, 4) := ⟨⟨by decide +kernel, by decide +kernel⟩, List.mem_of_getElem? (i := 376) (by decide +kernel), List.mem_of_getElem? (i := 925) (by decide +kernel), List.mem_of_getElem? (i := 926) (by decide +kernel)⟩
theorem lw_p70 : lw_okq (⟨"CityChords$Programme", "brings", "([IIIIZ)I"⟩, 4) := ⟨⟨by decide +kernel, by decide +kernel⟩, List.mem_of_getElem? (i := 376) (by decide +kernel), List.mem_of_getElem? (i := 929) (by decide +kernel), List.mem_of_getElem? (i := 930) (by decide +kernel)⟩
theorem lw_p71 : lw_okq (⟨"CityChords$Programme", "mostOf", "(I)I"⟩, 4) := ⟨⟨by decide +kernel, by decide +kernel⟩, List.mem_of_getElem? (i := 376) (by decide +kernel), List.mem_of_getElem? (i := 933) (by decide +kernel), List.mem_of_getElem? (i := 934) (by decide +kernel)⟩
theorem lw_p72 : lw_okq (⟨"CityChords$Programme", "commandAt", "([III)I"⟩, 4) := ⟨⟨by decide +kernel, by decide +kernel⟩, List.mem_of_getElem? (i := 376) (by decide +kernel), List.mem_of_getElem? (i := 937) (by decide +kernel), List.mem_of_getElem? (i := 938) (by decide +kernel)⟩
theorem lw_p73 : lw_okq (⟨"CityChords$Programme", "firstBest", "([III)I"⟩, 4) := ⟨⟨by decide +kernel, by decide +kernel⟩, List.mem_of_getElem? (i := 376) (by decide +kernel), List.mem_of_getElem? (i := 941) (by decide +kernel), List.mem_of_getElem? (i := 942) (by decide +kernel)⟩
theorem lw_p74 : lw_okq (⟨"CityChords$City", "fairestColumn", "()I"⟩, 11) := ⟨⟨by decide +kernel, by decide +kernel⟩, List.mem_of_getElem? (i := 43) (by decide +kernel), List.mem_of_getElem? (i := 949) (by decide +kernel), List.mem_of_getElem? (i := 950) (by decide +kernel)⟩
theorem lw_p75 : lw_okq (⟨"CityChords$City", "peopleLeftOf", "(I)I"⟩, 11) := ⟨⟨by decide +kernel, by decide +kernel⟩, List.mem_of_getElem? (i := 43) (by decide +kernel), List.mem_of_getElem? (i := 953) (by decide +kernel), List.mem_of_getElem? (i := 954) (by decide +kernel)⟩
theorem lw_p76 : lw_okq (⟨"CityChords$City", "longestLine", "()I"⟩, 11) := ⟨⟨by decide +kernel, by decide +kernel⟩, List.mem_of_getElem? (i := 43) (by decide +kernel), List.mem_of_getElem? (i := 965) (by decide +kernel), List.mem_of_getElem? (i := 966) (by decide +kernel)⟩
theorem lw_p77 : lw_okq (⟨"CityChords$Told", "trialAt", "(I)LCityChords$Trial;"⟩, 9) := ⟨⟨by decide +kernel, by decide +kernel⟩, List.mem_of_getElem? (i := 32) (by decide +kernel), List.mem_of_getElem? (i := 974) (by decide +kernel), List.mem_of_getElem? (i := 975) (by decide +kernel)⟩
theorem lw_p78 : lw_okq (⟨"CityChords$Trial", "tell", "(I)I"⟩, 3) := ⟨⟨by decide +kernel, by decide +kernel⟩, List.mem_of_getElem? (i := 140) (by decide +kernel), List.mem_of_getElem? (i := 978) (by decide +kernel), List.mem_of_getElem? (i := 979) (by decide +kernel)⟩
theorem lw_p79 : lw_okq (⟨"CityChords$Trial", "judge", "(I[I)I"⟩, 3) := ⟨⟨by decide +kernel, by decide +kernel⟩, List.mem_of_getElem? (i := 140) (by decide +kernel), List.mem_of_getElem? (i := 987) (by decide +kernel), List.mem_of_getElem? (i := 988) (by decide +kernel)⟩
def lw_privs_5 : List (MethodName × Nat) := [(⟨"CityChords$Hunt", "fewestMarches", "(IIZ)I"⟩, 6), (⟨"CityChords$Hunt", "turnsToCatch", "(JII)I"⟩, 6), (⟨"CityChords$Hunt", "addTurn", "(J)Z"⟩, 6), (⟨"CityChords$Hunt", "heldAround", "(JI)J"⟩, 6), (⟨"CityChords$Programme", "plan", "([IIZ)V"⟩, 4), (⟨"CityChords$Programme", "bestOf", "([IIIIZ)I"⟩, 4), (⟨"CityChords$Programme", "brings", "([IIIIZ)I"⟩, 4), (⟨"CityChords$Programme", "mostOf", "(I)I"⟩, 4), (⟨"CityChords$Programme", "commandAt", "([III)I"⟩, 4), (⟨"CityChords$Programme", "firstBest", "([III)I"⟩, 4), (⟨"CityChords$City", "fairestColumn", "()I"⟩, 11), (⟨"CityChords$City", "peopleLeftOf", "(I)I"⟩, 11), (⟨"CityChords$City", "longestLine", "()I"⟩, 11), (⟨"CityChords$Told", "trialAt", "(I)LCityChords$Trial;"⟩, 9), (⟨"CityChords$Trial", "tell", "(I)I"⟩, 3), (⟨"CityChords$Trial", "judge", "(I[I)I"⟩, 3)]
theorem lw_r5 : ∀ q ∈ lw_privs_5, lw_okq q := List.forall_mem_cons.mpr ⟨lw_p64, List.forall_mem_cons.mpr ⟨lw_p65, List.forall_mem_cons.mpr ⟨lw_p66, List.forall_mem_cons.mpr ⟨lw_p67, List.forall_mem_cons.mpr ⟨lw_p68, List.forall_mem_cons.mpr ⟨lw_p69, List.forall_mem_cons.mpr ⟨lw_p70, List.forall_mem_cons.mpr ⟨lw_p71, List.forall_mem_cons.mpr ⟨lw_p72, List.forall_mem_cons.mpr ⟨lw_p73, List.forall_mem_cons.mpr ⟨lw_p74, List.forall_mem_cons.mpr ⟨lw_p75, List.forall_mem_cons.mpr ⟨lw_p76, List.forall_mem_cons.mpr ⟨lw_p77, List.forall_mem_cons.mpr ⟨lw_p78, List.forall_mem_cons.mpr ⟨lw_p79, fun _ h => absurd h List.not_mem_nil⟩⟩⟩⟩⟩⟩⟩⟩⟩⟩⟩⟩⟩⟩⟩⟩
theorem lw_p80 : lw_okq (⟨"CityChords$Trial", "leastBroken", "(Z)I"⟩, 3) := ⟨⟨by decide +kernel, by decide +kernel⟩, List.mem_of_getElem? (i := 140) (by decide +kernel), List.mem_of_getElem? (i := 991) (by decide +kernel), List.mem_of_getElem? (i := 992) (by decide +kernel)⟩
theorem lw_p81 : lw_okq (⟨"CityChords$Trial", "isAsMany", "(I)Z"⟩, 3) := ⟨⟨by decide +kernel, by decide +kernel⟩, List.mem_of_getElem? (i := 140) (by decide +kernel), List.mem_of_getElem? (i := 995) (by decide +kernel), List.mem_of_getElem? (i := 996) (by decide +kernel)⟩
theorem lw_p82 : lw_okq (⟨"CityChords$Trial", "wrongSayings", "(I)I"⟩, 3) := ⟨⟨by decide +kernel, by decide +kernel⟩, List.mem_of_getElem? (i := 140) (by decide +kernel), List.mem_of_getElem? (i := 1000) (by decide +kernel), List.mem_of_getElem? (i := 1001) (by decide +kernel)⟩
theorem lw_p83 : lw_okq (⟨"CityChords$Trial", "findFitting", "([I)I"⟩, 3) := ⟨⟨by decide +kernel, by decide +kernel⟩, List.mem_of_getElem? (i := 140) (by decide +kernel), List.mem_of_getElem? (i := 1004) (by decide +kernel), List.mem_of_getElem? (i := 1005) (by decide +kernel)⟩
theorem lw_p84 : lw_okq (⟨"CityChords$Trial", "inAll", "([II)I"⟩, 3) := ⟨⟨by decide +kernel, by decide +kernel⟩, List.mem_of_getElem? (i := 140) (by decide +kernel), List.mem_of_getElem? (i := 1008) (by decide +kernel), List.mem_of_getElem? (i := 1009) (by decide +kernel)⟩
theorem lw_p85 : lw_okq (⟨"CityChords$Trial", "inNone", "([II)I"⟩, 3) := ⟨⟨by decide +kernel, by decide +kernel⟩, List.mem_of_getElem? (i := 140) (by decide +kernel), List.mem_of_getElem? (i := 1012) (by decide +kernel), List.mem_of_getElem? (i := 1013) (by decide +kernel)⟩
theorem lw_p86 : lw_okq (⟨"CityChords$Trial", "bestQuestion", "([II)I"⟩, 3) := ⟨⟨by decide +kernel, by decide +kernel⟩, List.mem_of_getElem? (i := 140) (by decide +kernel), List.mem_of_getElem? (i := 1016) (by decide +kernel), List.mem_of_getElem? (i := 1017) (by decide +kernel)⟩
theorem lw_p87 : lw_okq (⟨"CityChords$Told", "sightAt", "(I)LCityChords$Rows;"⟩, 9) := ⟨⟨by decide +kernel, by decide +kernel⟩, List.mem_of_getElem? (i := 32) (by decide +kernel), List.mem_of_getElem? (i := 1028) (by decide +kernel), List.mem_of_getElem? (i := 1029) (by decide +kernel)⟩
theorem lw_p88 : lw_okq (⟨"CityChords$City", "holds", "(LCityChords$Rows;)Z"⟩, 11) := ⟨⟨by decide +kernel, by decide +kernel⟩, List.mem_of_getElem? (i := 43) (by decide +kernel), List.mem_of_getElem? (i := 1036) (by decide +kernel), List.mem_of_getElem? (i := 1037) (by decide +kernel)⟩
theorem lw_p89 : lw_okq (⟨"CityChords$Rows", "spotAtRow", "(I)I"⟩, 4) := ⟨⟨by decide +kernel, by decide +kernel⟩, List.mem_of_getElem? (i := 109) (by decide +kernel), List.mem_of_getElem? (i := 1040) (by decide +kernel), List.mem_of_getElem? (i := 1041) (by decide +kernel)⟩
theorem lw_p90 : lw_okq (⟨"CityChords$Ears", "whoPlayed", "(LCityChords$City;LCityChords$Rows;I)I"⟩, 7) := ⟨⟨by decide +kernel, by decide +kernel⟩, List.mem_of_getElem? (i := 257) (by decide +kernel), List.mem_of_getElem? (i := 1045) (by decide +kernel), List.mem_of_getElem? (i := 1046) (by decide +kernel)⟩
theorem lw_p91 : lw_okq (⟨"CityChords$Ears", "setsSeen", "(LCityChords$City;LCityChords$Rows;)J"⟩, 7) := ⟨⟨by decide +kernel, by decide +kernel⟩, List.mem_of_getElem? (i := 257) (by decide +kernel), List.mem_of_getElem? (i := 1049) (by decide +kernel), List.mem_of_getElem? (i := 1050) (by decide +kernel)⟩
theorem lw_p92 : lw_okq (⟨"CityChords$Ears", "agrees", "(ILCityChords$Rows;)Z"⟩, 7) := ⟨⟨by decide +kernel, by decide +kernel⟩, List.mem_of_getElem? (i := 257) (by decide +kernel), List.mem_of_getElem? (i := 1053) (by decide +kernel), List.mem_of_getElem? (i := 1054) (by decide +kernel)⟩
theorem lw_p93 : lw_okq (⟨"CityChords$Ears", "isLoud", "(II)Z"⟩, 7) := ⟨⟨by decide +kernel, by decide +kernel⟩, List.mem_of_getElem? (i := 257) (by decide +kernel), List.mem_of_getElem? (i := 1058) (by decide +kernel), List.mem_of_getElem? (i := 1059) (by decide +kernel)⟩
theorem lw_p94 : lw_okq (⟨"CityChords$Ears", "inAll", "(LCityChords$City;J)I"⟩, 7) := ⟨⟨by decide +kernel, by decide +kernel⟩, List.mem_of_getElem? (i := 257) (by decide +kernel), List.mem_of_getElem? (i := 1062) (by decide +kernel), List.mem_of_getElem? (i := 1063) (by decide +kernel)⟩
theorem lw_p95 : lw_okq (⟨"CityChords$Ears", "bestToListen", "(LCityChords$City;JI)I"⟩, 7) := ⟨⟨by decide +kernel, by decide +kernel⟩, List.mem_of_getElem? (i := 257) (by decide +kernel), List.mem_of_getElem? (i := 1066) (by decide +kernel), List.mem_of_getElem? (i := 1067) (by decide +kernel)⟩
def lw_privs_6 : List (MethodName × Nat) := [(⟨"CityChords$Trial", "leastBroken", "(Z)I"⟩, 3), (⟨"CityChords$Trial", "isAsMany", "(I)Z"⟩, 3), (⟨"CityChords$Trial", "wrongSayings", "(I)I"⟩, 3), (⟨"CityChords$Trial", "findFitting", "([I)I"⟩, 3), (⟨"CityChords$Trial", "inAll", "([II)I"⟩, 3), (⟨"CityChords$Trial", "inNone", "([II)I"⟩, 3), (⟨"CityChords$Trial", "bestQuestion", "([II)I"⟩, 3), (⟨"CityChords$Told", "sightAt", "(I)LCityChords$Rows;"⟩, 9), (⟨"CityChords$City", "holds", "(LCityChords$Rows;)Z"⟩, 11), (⟨"CityChords$Rows", "spotAtRow", "(I)I"⟩, 4), (⟨"CityChords$Ears", "whoPlayed", "(LCityChords$City;LCityChords$Rows;I)I"⟩, 7), (⟨"CityChords$Ears", "setsSeen", "(LCityChords$City;LCityChords$Rows;)J"⟩, 7), (⟨"CityChords$Ears", "agrees", "(ILCityChords$Rows;)Z"⟩, 7), (⟨"CityChords$Ears", "isLoud", "(II)Z"⟩, 7), (⟨"CityChords$Ears", "inAll", "(LCityChords$City;J)I"⟩, 7), (⟨"CityChords$Ears", "bestToListen", "(LCityChords$City;JI)I"⟩, 7)]
theorem lw_r6 : ∀ q ∈ lw_privs_6, lw_okq q := List.forall_mem_cons.mpr ⟨lw_p80, List.forall_mem_cons.mpr ⟨lw_p81, List.forall_mem_cons.mpr ⟨lw_p82, List.forall_mem_cons.mpr ⟨lw_p83, List.forall_mem_cons.mpr ⟨lw_p84, List.forall_mem_cons.mpr ⟨lw_p85, List.forall_mem_cons.mpr ⟨lw_p86, List.forall_mem_cons.mpr ⟨lw_p87, List.forall_mem_cons.mpr ⟨lw_p88, List.forall_mem_cons.mpr ⟨lw_p89, List.forall_mem_cons.mpr ⟨lw_p90, List.forall_mem_cons.mpr ⟨lw_p91, List.forall_mem_cons.mpr ⟨lw_p92, List.forall_mem_cons.mpr ⟨lw_p93, List.forall_mem_cons.mpr ⟨lw_p94, List.forall_mem_cons.mpr ⟨lw_p95, fun _ h => absurd h List.not_mem_nil⟩⟩⟩⟩⟩⟩⟩⟩⟩⟩⟩⟩⟩⟩⟩⟩
theorem lw_p96 : lw_okq (⟨"CityChords$Ears", "howManyLoud", "(JI)I"⟩, 7) := ⟨⟨by decide +kernel, by decide +kernel⟩, List.mem_of_getElem? (i := 257) (by decide +kernel), List.mem_of_getElem? (i := 1071) (by decide +kernel), List.mem_of_getElem? (i := 1072) (by decide +kernel)⟩
theorem lw_p97 : lw_okq (⟨"CityChords$Ears", "kthOf", "(JI)I"⟩, 7) := ⟨⟨by decide +kernel, by decide +kernel⟩, List.mem_of_getElem? (i := 257) (by decide +kernel), List.mem_of_getElem? (i := 1076) (by decide +kernel), List.mem_of_getElem? (i := 1077) (by decide +kernel)⟩
theorem lw_p98 : lw_okq (⟨"CityChords$Play", "playOneDrawn", "(LCityChords$City;I)I"⟩, 8) := ⟨⟨by decide +kernel, by decide +kernel⟩, List.mem_of_getElem? (i := 287) (by decide +kernel), List.mem_of_getElem? (i := 1086) (by decide +kernel), List.mem_of_getElem? (i := 1087) (by decide +kernel)⟩
theorem lw_p99 : lw_okq (⟨"CityChords$Streets", "fewestSteps", "(JII)I"⟩, 8) := ⟨⟨by decide +kernel, by decide +kernel⟩, List.mem_of_getElem? (i := 320) (by decide +kernel), List.mem_of_getElem? (i := 1101) (by decide +kernel), List.mem_of_getElem? (i := 1102) (by decide +kernel)⟩
theorem lw_p100 : lw_okq (⟨"CityChords$Streets", "parts", "(JZ)I"⟩, 8) := ⟨⟨by decide +kernel, by decide +kernel⟩, List.mem_of_getElem? (i := 320) (by decide +kernel), List.mem_of_getElem? (i := 1112) (by decide +kernel), List.mem_of_getElem? (i := 1113) (by decide +kernel)⟩
theorem lw_p101 : lw_okq (⟨"CityChords$Streets", "fewestWalls", "(JII)I"⟩, 8) := ⟨⟨by decide +kernel, by decide +kernel⟩, List.mem_of_getElem? (i := 320) (by decide +kernel), List.mem_of_getElem? (i := 1127) (by decide +kernel), List.mem_of_getElem? (i := 1128) (by decide +kernel)⟩
theorem lw_p102 : lw_okq (⟨"CityChords$Streets", "findWay", "(JII)Z"⟩, 8) := ⟨⟨by decide +kernel, by decide +kernel⟩, List.mem_of_getElem? (i := 320) (by decide +kernel), List.mem_of_getElem? (i := 1134) (by decide +kernel), List.mem_of_getElem? (i := 1135) (by decide +kernel)⟩
theorem lw_p103 : lw_okq (⟨"CityChords$Streets", "comeTo", "(II)V"⟩, 8) := ⟨⟨by decide +kernel, by decide +kernel⟩, List.mem_of_getElem? (i := 320) (by decide +kernel), List.mem_of_getElem? (i := 1139) (by decide +kernel), List.mem_of_getElem? (i := 1140) (by decide +kernel)⟩
theorem lw_p104 : lw_okq (⟨"CityChords$Streets", "layWay", "(II)V"⟩, 8) := ⟨⟨by decide +kernel, by decide +kernel⟩, List.mem_of_getElem? (i := 320) (by decide +kernel), List.mem_of_getElem? (i := 1145) (by decide +kernel), List.mem_of_getElem? (i := 1146) (by decide +kernel)⟩
theorem lw_p105 : lw_okq (⟨"CityChords$Ears", "loudest", "(LCityChords$City;Z)I"⟩, 7) := ⟨⟨by decide +kernel, by decide +kernel⟩, List.mem_of_getElem? (i := 257) (by decide +kernel), List.mem_of_getElem? (i := 1156) (by decide +kernel), List.mem_of_getElem? (i := 1157) (by decide +kernel)⟩
theorem lw_p106 : lw_okq (⟨"CityChords$Ears", "whoHearsNothing", "(LCityChords$City;)I"⟩, 7) := ⟨⟨by decide +kernel, by decide +kernel⟩, List.mem_of_getElem? (i := 257) (by decide +kernel), List.mem_of_getElem? (i := 1164) (by decide +kernel), List.mem_of_getElem? (i := 1165) (by decide +kernel)⟩
theorem lw_p107 : lw_okq (⟨"CityChords$Streets", "shortestVisit", "(LCityChords$City;I)I"⟩, 8) := ⟨⟨by decide +kernel, by decide +kernel⟩, List.mem_of_getElem? (i := 320) (by decide +kernel), List.mem_of_getElem? (i := 1172) (by decide +kernel), List.mem_of_getElem? (i := 1173) (by decide +kernel)⟩
theorem lw_p108 : lw_okq (⟨"CityChords$Streets", "measure", "(LCityChords$City;I)Z"⟩, 8) := ⟨⟨by decide +kernel, by decide +kernel⟩, List.mem_of_getElem? (i := 320) (by decide +kernel), List.mem_of_getElem? (i := 1176) (by decide +kernel), List.mem_of_getElem? (i := 1177) (by decide +kernel)⟩
theorem lw_p109 : lw_okq (⟨"CityChords$Streets", "shortestTo", "(III)I"⟩, 8) := ⟨⟨by decide +kernel, by decide +kernel⟩, List.mem_of_getElem? (i := 320) (by decide +kernel), List.mem_of_getElem? (i := 1183) (by decide +kernel), List.mem_of_getElem? (i := 1184) (by decide +kernel)⟩
theorem lw_p110 : lw_okq (⟨"CityChords$Told", "take", "(LCityChords$Told;)V"⟩, 9) := ⟨⟨by decide +kernel, by decide +kernel⟩, List.mem_of_getElem? (i := 32) (by decide +kernel), List.mem_of_getElem? (i := 1196) (by decide +kernel), List.mem_of_getElem? (i := 1197) (by decide +kernel)⟩
theorem lw_p111 : lw_okq (⟨"CityChordsModel", "four", "(I)V"⟩, 61) := ⟨⟨by decide +kernel, by decide +kernel⟩, List.mem_of_getElem? (i := 1205) (by decide +kernel), List.mem_of_getElem? (i := 1400) (by decide +kernel), List.mem_of_getElem? (i := 1401) (by decide +kernel)⟩
def lw_privs_7 : List (MethodName × Nat) := [(⟨"CityChords$Ears", "howManyLoud", "(JI)I"⟩, 7), (⟨"CityChords$Ears", "kthOf", "(JI)I"⟩, 7), (⟨"CityChords$Play", "playOneDrawn", "(LCityChords$City;I)I"⟩, 8), (⟨"CityChords$Streets", "fewestSteps", "(JII)I"⟩, 8), (⟨"CityChords$Streets", "parts", "(JZ)I"⟩, 8), (⟨"CityChords$Streets", "fewestWalls", "(JII)I"⟩, 8), (⟨"CityChords$Streets", "findWay", "(JII)Z"⟩, 8), (⟨"CityChords$Streets", "comeTo", "(II)V"⟩, 8), (⟨"CityChords$Streets", "layWay", "(II)V"⟩, 8), (⟨"CityChords$Ears", "loudest", "(LCityChords$City;Z)I"⟩, 7), (⟨"CityChords$Ears", "whoHearsNothing", "(LCityChords$City;)I"⟩, 7), (⟨"CityChords$Streets", "shortestVisit", "(LCityChords$City;I)I"⟩, 8), (⟨"CityChords$Streets", "measure", "(LCityChords$City;I)Z"⟩, 8), (⟨"CityChords$Streets", "shortestTo", "(III)I"⟩, 8), (⟨"CityChords$Told", "take", "(LCityChords$Told;)V"⟩, 9), (⟨"CityChordsModel", "four", "(I)V"⟩, 61)]
theorem lw_r7 : ∀ q ∈ lw_privs_7, lw_okq q := List.forall_mem_cons.mpr ⟨lw_p96, List.forall_mem_cons.mpr ⟨lw_p97, List.forall_mem_cons.mpr ⟨lw_p98, List.forall_mem_cons.mpr ⟨lw_p99, List.forall_mem_cons.mpr ⟨lw_p100, List.forall_mem_cons.mpr ⟨lw_p101, List.forall_mem_cons.mpr ⟨lw_p102, List.forall_mem_cons.mpr ⟨lw_p103, List.forall_mem_cons.mpr ⟨lw_p104, List.forall_mem_cons.mpr ⟨lw_p105, List.forall_mem_cons.mpr ⟨lw_p106, List.forall_mem_cons.mpr ⟨lw_p107, List.forall_mem_cons.mpr ⟨lw_p108, List.forall_mem_cons.mpr ⟨lw_p109, List.forall_mem_cons.mpr ⟨lw_p110, List.forall_mem_cons.mpr ⟨lw_p111, fun _ h => absurd h List.not_mem_nil⟩⟩⟩⟩⟩⟩⟩⟩⟩⟩⟩⟩⟩⟩⟩⟩
theorem lw_p112 : lw_okq (⟨"CityChordsModel", "is", "(II)Z"⟩, 61) := ⟨⟨by decide +kernel, by decide +kernel⟩, List.mem_of_getElem? (i := 1205) (by decide +kernel), List.mem_of_getElem? (i := 1415) (by decide +kernel), List.mem_of_getElem? (i := 1416) (by decide +kernel)⟩
theorem lw_p113 : lw_okq (⟨"CityChordsModel", "readText", "(I)Z"⟩, 61) := ⟨⟨by decide +kernel, by decide +kernel⟩, List.mem_of_getElem? (i := 1205) (by decide +kernel), List.mem_of_getElem? (i := 1419) (by decide +kernel), List.mem_of_getElem? (i := 1420) (by decide +kernel)⟩
theorem lw_p114 : lw_okq (⟨"CityChordsModel", "blank", "(I)V"⟩, 61) := ⟨⟨by decide +kernel, by decide +kernel⟩, List.mem_of_getElem? (i := 1205) (by decide +kernel), List.mem_of_getElem? (i := 1423) (by decide +kernel), List.mem_of_getElem? (i := 1424) (by decide +kernel)⟩
theorem lw_p115 : lw_okq (⟨"CityChordsModel", "token", "()V"⟩, 61) := ⟨⟨by decide +kernel, by decide +kernel⟩, List.mem_of_getElem? (i := 1205) (by decide +kernel), List.mem_of_getElem? (i := 1427) (by decide +kernel), List.mem_of_getElem? (i := 1428) (by decide +kernel)⟩
theorem lw_p116 : lw_okq (⟨"CityChordsModel", "see", "()I"⟩, 61) := ⟨⟨by decide +kernel, by decide +kernel⟩, List.mem_of_getElem? (i := 1205) (by decide +kernel), List.mem_of_getElem? (i := 1431) (by decide +kernel), List.mem_of_getElem? (i := 1432) (by decide +kernel)⟩
theorem lw_p117 : lw_okq (⟨"CityChordsModel", "lines", "(I)Z"⟩, 61) := ⟨⟨by decide +kernel, by decide +kernel⟩, List.mem_of_getElem? (i := 1205) (by decide +kernel), List.mem_of_getElem? (i := 1435) (by decide +kernel), List.mem_of_getElem? (i := 1436) (by decide +kernel)⟩
theorem lw_p118 : lw_okq (⟨"CityChordsModel", "lineOf", "(IJI)Z"⟩, 61) := ⟨⟨by decide +kernel, by decide +kernel⟩, List.mem_of_getElem? (i := 1205) (by decide +kernel), List.mem_of_getElem? (i := 1439) (by decide +kernel), List.mem_of_getElem? (i := 1440) (by decide +kernel)⟩
theorem lw_p119 : lw_okq (⟨"CityChordsModel", "cityLine", "(JI)Z"⟩, 61) := ⟨⟨by decide +kernel, by decide +kernel⟩, List.mem_of_getElem? (i := 1205) (by decide +kernel), List.mem_of_getElem? (i := 1443) (by decide +kernel), List.mem_of_getElem? (i := 1444) (by decide +kernel)⟩
theorem lw_p120 : lw_okq (⟨"CityChordsModel", "fails", "()Z"⟩, 61) := ⟨⟨by decide +kernel, by decide +kernel⟩, List.mem_of_getElem? (i := 1205) (by decide +kernel), List.mem_of_getElem? (i := 1465) (by decide +kernel), List.mem_of_getElem? (i := 1466) (by decide +kernel)⟩
theorem lw_p121 : lw_okq (⟨"CityChordsModel", "full", "(III)V"⟩, 61) := ⟨⟨by decide +kernel, by decide +kernel⟩, List.mem_of_getElem? (i := 1205) (by decide +kernel), List.mem_of_getElem? (i := 1469) (by decide +kernel), List.mem_of_getElem? (i := 1470) (by decide +kernel)⟩
theorem lw_p122 : lw_okq (⟨"CityChordsModel", "later", "(II)V"⟩, 61) := ⟨⟨by decide +kernel, by decide +kernel⟩, List.mem_of_getElem? (i := 1205) (by decide +kernel), List.mem_of_getElem? (i := 1473) (by decide +kernel), List.mem_of_getElem? (i := 1474) (by decide +kernel)⟩
theorem lw_p123 : lw_okq (⟨"CityChordsModel", "oneLine", "(III)Z"⟩, 61) := ⟨⟨by decide +kernel, by decide +kernel⟩, List.mem_of_getElem? (i := 1205) (by decide +kernel), List.mem_of_getElem? (i := 1477) (by decide +kernel), List.mem_of_getElem? (i := 1478) (by decide +kernel)⟩
theorem lw_p124 : lw_okq (⟨"CityChordsModel", "takeCell", "(I)Z"⟩, 61) := ⟨⟨by decide +kernel, by decide +kernel⟩, List.mem_of_getElem? (i := 1205) (by decide +kernel), List.mem_of_getElem? (i := 1481) (by decide +kernel), List.mem_of_getElem? (i := 1482) (by decide +kernel)⟩
theorem lw_p125 : lw_okq (⟨"CityChordsModel", "take", "(III)Z"⟩, 61) := ⟨⟨by decide +kernel, by decide +kernel⟩, List.mem_of_getElem? (i := 1205) (by decide +kernel), List.mem_of_getElem? (i := 1485) (by decide +kernel), List.mem_of_getElem? (i := 1486) (by decide +kernel)⟩
theorem lw_p126 : lw_okq (⟨"CityChordsModel", "sizeLine", "()Z"⟩, 61) := ⟨⟨by decide +kernel, by decide +kernel⟩, List.mem_of_getElem? (i := 1205) (by decide +kernel), List.mem_of_getElem? (i := 1492) (by decide +kernel), List.mem_of_getElem? (i := 1493) (by decide +kernel)⟩
theorem lw_p127 : lw_okq (⟨"CityChordsModel", "wallLine", "()Z"⟩, 61) := ⟨⟨by decide +kernel, by decide +kernel⟩, List.mem_of_getElem? (i := 1205) (by decide +kernel), List.mem_of_getElem? (i := 1496) (by decide +kernel), List.mem_of_getElem? (i := 1497) (by decide +kernel)⟩
def lw_privs_8 : List (MethodName × Nat) := [(⟨"CityChordsModel", "is", "(II)Z"⟩, 61), (⟨"CityChordsModel", "readText", "(I)Z"⟩, 61), (⟨"CityChordsModel", "blank", "(I)V"⟩, 61), (⟨"CityChordsModel", "token", "()V"⟩, 61), (⟨"CityChordsModel", "see", "()I"⟩, 61), (⟨"CityChordsModel", "lines", "(I)Z"⟩, 61), (⟨"CityChordsModel", "lineOf", "(IJI)Z"⟩, 61), (⟨"CityChordsModel", "cityLine", "(JI)Z"⟩, 61), (⟨"CityChordsModel", "fails", "()Z"⟩, 61), (⟨"CityChordsModel", "full", "(III)V"⟩, 61), (⟨"CityChordsModel", "later", "(II)V"⟩, 61), (⟨"CityChordsModel", "oneLine", "(III)Z"⟩, 61), (⟨"CityChordsModel", "takeCell", "(I)Z"⟩, 61), (⟨"CityChordsModel", "take", "(III)Z"⟩, 61), (⟨"CityChordsModel", "sizeLine", "()Z"⟩, 61), (⟨"CityChordsModel", "wallLine", "()Z"⟩, 61)]
theorem lw_r8 : ∀ q ∈ lw_privs_8, lw_okq q := List.forall_mem_cons.mpr ⟨lw_p112, List.forall_mem_cons.mpr ⟨lw_p113, List.forall_mem_cons.mpr ⟨lw_p114, List.forall_mem_cons.mpr ⟨lw_p115, List.forall_mem_cons.mpr ⟨lw_p116, List.forall_mem_cons.mpr ⟨lw_p117, List.forall_mem_cons.mpr ⟨lw_p118, List.forall_mem_cons.mpr ⟨lw_p119, List.forall_mem_cons.mpr ⟨lw_p120, List.forall_mem_cons.mpr ⟨lw_p121, List.forall_mem_cons.mpr ⟨lw_p122, List.forall_mem_cons.mpr ⟨lw_p123, List.forall_mem_cons.mpr ⟨lw_p124, List.forall_mem_cons.mpr ⟨lw_p125, List.forall_mem_cons.mpr ⟨lw_p126, List.forall_mem_cons.mpr ⟨lw_p127, fun _ h => absurd h List.not_mem_nil⟩⟩⟩⟩⟩⟩⟩⟩⟩⟩⟩⟩⟩⟩⟩⟩
theorem lw_p128 : lw_okq (⟨"CityChordsModel", "windLine", "()Z"⟩, 61) := ⟨⟨by decide +kernel, by decide +kernel⟩, List.mem_of_getElem? (i := 1205) (by decide +kernel), List.mem_of_getElem? (i := 1500) (by decide +kernel), List.mem_of_getElem? (i := 1501) (by decide +kernel)⟩
theorem lw_p129 : lw_okq (⟨"CityChordsModel", "valueLine", "()Z"⟩, 61) := ⟨⟨by decide +kernel, by decide +kernel⟩, List.mem_of_getElem? (i := 1205) (by decide +kernel), List.mem_of_getElem? (i := 1504) (by decide +kernel), List.mem_of_getElem? (i := 1505) (by decide +kernel)⟩
theorem lw_p130 : lw_okq (⟨"CityChordsModel", "nightLine", "(JI)Z"⟩, 61) := ⟨⟨by decide +kernel, by decide +kernel⟩, List.mem_of_getElem? (i := 1205) (by decide +kernel), List.mem_of_getElem? (i := 1515) (by decide +kernel), List.mem_of_getElem? (i := 1516) (by decide +kernel)⟩
theorem lw_p131 : lw_okq (⟨"CityChordsModel", "keep", "(III)V"⟩, 61) := ⟨⟨by decide +kernel, by decide +kernel⟩, List.mem_of_getElem? (i := 1205) (by decide +kernel), List.mem_of_getElem? (i := 1525) (by decide +kernel), List.mem_of_getElem? (i := 1526) (by decide +kernel)⟩
theorem lw_p132 : lw_okq (⟨"CityChordsModel", "trialLine", "(JI)Z"⟩, 61) := ⟨⟨by decide +kernel, by decide +kernel⟩, List.mem_of_getElem? (i := 1205) (by decide +kernel), List.mem_of_getElem? (i := 1529) (by decide +kernel), List.mem_of_getElem? (i := 1530) (by decide +kernel)⟩
theorem lw_p133 : lw_okq (⟨"CityChordsModel", "sightLine", "(JI)Z"⟩, 61) := ⟨⟨by decide +kernel, by decide +kernel⟩, List.mem_of_getElem? (i := 1205) (by decide +kernel), List.mem_of_getElem? (i := 1537) (by decide +kernel), List.mem_of_getElem? (i := 1538) (by decide +kernel)⟩
theorem lw_p134 : lw_okq (⟨"CityChordsModel", "atEnd", "(I)V"⟩, 61) := ⟨⟨by decide +kernel, by decide +kernel⟩, List.mem_of_getElem? (i := 1205) (by decide +kernel), List.mem_of_getElem? (i := 1543) (by decide +kernel), List.mem_of_getElem? (i := 1544) (by decide +kernel)⟩
theorem lw_p135 : lw_okq (⟨"CityChordsModel", "isWalled", "()Z"⟩, 61) := ⟨⟨by decide +kernel, by decide +kernel⟩, List.mem_of_getElem? (i := 1205) (by decide +kernel), List.mem_of_getElem? (i := 1547) (by decide +kernel), List.mem_of_getElem? (i := 1548) (by decide +kernel)⟩
theorem lw_p136 : lw_okq (⟨"CityChordsModel", "storeAll", "(II)V"⟩, 61) := ⟨⟨by decide +kernel, by decide +kernel⟩, List.mem_of_getElem? (i := 1205) (by decide +kernel), List.mem_of_getElem? (i := 1554) (by decide +kernel), List.mem_of_getElem? (i := 1555) (by decide +kernel)⟩
theorem lw_p137 : lw_okq (⟨"CityChordsModel", "store", "([III)V"⟩, 61) := ⟨⟨by decide +kernel, by decide +kernel⟩, List.mem_of_getElem? (i := 1205) (by decide +kernel), List.mem_of_getElem? (i := 1558) (by decide +kernel), List.mem_of_getElem? (i := 1559) (by decide +kernel)⟩
theorem lw_p138 : lw_okq (⟨"CityChordsModel", "hand", "(I)Z"⟩, 61) := ⟨⟨by decide +kernel, by decide +kernel⟩, List.mem_of_getElem? (i := 1205) (by decide +kernel), List.mem_of_getElem? (i := 1570) (by decide +kernel), List.mem_of_getElem? (i := 1571) (by decide +kernel)⟩
theorem lw_p139 : lw_okq (⟨"CityChordsModel", "of", "(I)I"⟩, 61) := ⟨⟨by decide +kernel, by decide +kernel⟩, List.mem_of_getElem? (i := 1205) (by decide +kernel), List.mem_of_getElem? (i := 1574) (by decide +kernel), List.mem_of_getElem? (i := 1575) (by decide +kernel)⟩
theorem lw_p140 : lw_okq (⟨"CityChordsModel", "isPlayer", "(I)Z"⟩, 61) := ⟨⟨by decide +kernel, by decide +kernel⟩, List.mem_of_getElem? (i := 1205) (by decide +kernel), List.mem_of_getElem? (i := 1578) (by decide +kernel), List.mem_of_getElem? (i := 1579) (by decide +kernel)⟩
theorem lw_p141 : lw_okq (⟨"CityChordsModel", "cellOf", "(II)I"⟩, 61) := ⟨⟨by decide +kernel, by decide +kernel⟩, List.mem_of_getElem? (i := 1205) (by decide +kernel), List.mem_of_getElem? (i := 1582) (by decide +kernel), List.mem_of_getElem? (i := 1583) (by decide +kernel)⟩
theorem lw_p142 : lw_okq (⟨"CityChordsModel", "isPerson", "(I)Z"⟩, 61) := ⟨⟨by decide +kernel, by decide +kernel⟩, List.mem_of_getElem? (i := 1205) (by decide +kernel), List.mem_of_getElem? (i := 1586) (by decide +kernel), List.mem_of_getElem? (i := 1587) (by decide +kernel)⟩
theorem lw_p143 : lw_okq (⟨"CityChordsModel", "isWall", "(I)Z"⟩, 61) := ⟨⟨by decide +kernel, by decide +kernel⟩, List.mem_of_getElem? (i := 1205) (by decide +kernel), List.mem_of_getElem? (i := 1590) (by decide +kernel), List.mem_of_getElem? (i := 1591) (by decide +kernel)⟩
def lw_privs_9 : List (MethodName × Nat) := [(⟨"CityChordsModel", "windLine", "()Z"⟩, 61), (⟨"CityChordsModel", "valueLine", "()Z"⟩, 61), (⟨"CityChordsModel", "nightLine", "(JI)Z"⟩, 61), (⟨"CityChordsModel", "keep", "(III)V"⟩, 61), (⟨"CityChordsModel", "trialLine", "(JI)Z"⟩, 61), (⟨"CityChordsModel", "sightLine", "(JI)Z"⟩, 61), (⟨"CityChordsModel", "atEnd", "(I)V"⟩, 61), (⟨"CityChordsModel", "isWalled", "()Z"⟩, 61), (⟨"CityChordsModel", "storeAll", "(II)V"⟩, 61), (⟨"CityChordsModel", "store", "([III)V"⟩, 61), (⟨"CityChordsModel", "hand", "(I)Z"⟩, 61), (⟨"CityChordsModel", "of", "(I)I"⟩, 61), (⟨"CityChordsModel", "isPlayer", "(I)Z"⟩, 61), (⟨"CityChordsModel", "cellOf", "(II)I"⟩, 61), (⟨"CityChordsModel", "isPerson", "(I)Z"⟩, 61), (⟨"CityChordsModel", "isWall", "(I)Z"⟩, 61)]
theorem lw_r9 : ∀ q ∈ lw_privs_9, lw_okq q := List.forall_mem_cons.mpr ⟨lw_p128, List.forall_mem_cons.mpr ⟨lw_p129, List.forall_mem_cons.mpr ⟨lw_p130, List.forall_mem_cons.mpr ⟨lw_p131, List.forall_mem_cons.mpr ⟨lw_p132, List.forall_mem_cons.mpr ⟨lw_p133, List.forall_mem_cons.mpr ⟨lw_p134, List.forall_mem_cons.mpr ⟨lw_p135, List.forall_mem_cons.mpr ⟨lw_p136, List.forall_mem_cons.mpr ⟨lw_p137, List.forall_mem_cons.mpr ⟨lw_p138, List.forall_mem_cons.mpr ⟨lw_p139, List.forall_mem_cons.mpr ⟨lw_p140, List.forall_mem_cons.mpr ⟨lw_p141, List.forall_mem_cons.mpr ⟨lw_p142, List.forall_mem_cons.mpr ⟨lw_p143, fun _ h => absurd h List.not_mem_nil⟩⟩⟩⟩⟩⟩⟩⟩⟩⟩⟩⟩⟩⟩⟩⟩
theorem lw_p144 : lw_okq (⟨"CityChordsModel", "hasNight", "(I)Z"⟩, 61) := ⟨⟨by decide +kernel, by decide +kernel⟩, List.mem_of_getElem? (i := 1205) (by decide +kernel), List.mem_of_getElem? (i := 1598) (by decide +kernel), List.mem_of_getElem? (i := 1599) (by decide +kernel)⟩
theorem lw_p145 : lw_okq (⟨"CityChordsModel", "deeds", "()I"⟩, 61) := ⟨⟨by decide +kernel, by decide +kernel⟩, List.mem_of_getElem? (i := 1205) (by decide +kernel), List.mem_of_getElem? (i := 1602) (by decide +kernel), List.mem_of_getElem? (i := 1603) (by decide +kernel)⟩
theorem lw_p146 : lw_okq (⟨"CityChordsModel", "deedOf", "(II)I"⟩, 61) := ⟨⟨by decide +kernel, by decide +kernel⟩, List.mem_of_getElem? (i := 1205) (by decide +kernel), List.mem_of_getElem? (i := 1606) (by decide +kernel), List.mem_of_getElem? (i := 1607) (by decide +kernel)⟩
theorem lw_p147 : lw_okq (⟨"CityChordsModel", "layAll", "(II)Z"⟩, 61) := ⟨⟨by decide +kernel, by decide +kernel⟩, List.mem_of_getElem? (i := 1205) (by decide +kernel), List.mem_of_getElem? (i := 1614) (by decide +kernel), List.mem_of_getElem? (i := 1615) (by decide +kernel)⟩
theorem lw_p148 : lw_okq (⟨"CityChordsModel", "play", "(I)I"⟩, 61) := ⟨⟨by decide +kernel, by decide +kernel⟩, List.mem_of_getElem? (i := 1205) (by decide +kernel), List.mem_of_getElem? (i := 1618) (by decide +kernel), List.mem_of_getElem? (i := 1619) (by decide +kernel)⟩
theorem lw_p149 : lw_okq (⟨"CityChordsModel", "begin", "()V"⟩, 61) := ⟨⟨by decide +kernel, by decide +kernel⟩, List.mem_of_getElem? (i := 1205) (by decide +kernel), List.mem_of_getElem? (i := 1622) (by decide +kernel), List.mem_of_getElem? (i := 1623) (by decide +kernel)⟩
theorem lw_p150 : lw_okq (⟨"CityChordsModel", "does", "(III)Z"⟩, 61) := ⟨⟨by decide +kernel, by decide +kernel⟩, List.mem_of_getElem? (i := 1205) (by decide +kernel), List.mem_of_getElem? (i := 1626) (by decide +kernel), List.mem_of_getElem? (i := 1627) (by decide +kernel)⟩
theorem lw_p151 : lw_okq (⟨"CityChordsModel", "isPlayed", "(III)Z"⟩, 61) := ⟨⟨by decide +kernel, by decide +kernel⟩, List.mem_of_getElem? (i := 1205) (by decide +kernel), List.mem_of_getElem? (i := 1630) (by decide +kernel), List.mem_of_getElem? (i := 1631) (by decide +kernel)⟩
theorem lw_p152 : lw_okq (⟨"CityChordsModel", "findCost", "(I)V"⟩, 61) := ⟨⟨by decide +kernel, by decide +kernel⟩, List.mem_of_getElem? (i := 1205) (by decide +kernel), List.mem_of_getElem? (i := 1634) (by decide +kernel), List.mem_of_getElem? (i := 1635) (by decide +kernel)⟩
theorem lw_p153 : lw_okq (⟨"CityChordsModel", "next", "(II)I"⟩, 61) := ⟨⟨by decide +kernel, by decide +kernel⟩, List.mem_of_getElem? (i := 1205) (by decide +kernel), List.mem_of_getElem? (i := 1639) (by decide +kernel), List.mem_of_getElem? (i := 1640) (by decide +kernel)⟩
theorem lw_p154 : lw_okq (⟨"CityChordsModel", "stepCost", "(II)I"⟩, 61) := ⟨⟨by decide +kernel, by decide +kernel⟩, List.mem_of_getElem? (i := 1205) (by decide +kernel), List.mem_of_getElem? (i := 1643) (by decide +kernel), List.mem_of_getElem? (i := 1644) (by decide +kernel)⟩
theorem lw_p155 : lw_okq (⟨"CityChordsModel", "obeys", "(III)V"⟩, 61) := ⟨⟨by decide +kernel, by decide +kernel⟩, List.mem_of_getElem? (i := 1205) (by decide +kernel), List.mem_of_getElem? (i := 1650) (by decide +kernel), List.mem_of_getElem? (i := 1651) (by decide +kernel)⟩
theorem lw_p156 : lw_okq (⟨"CityChordsModel", "marches", "(II)V"⟩, 61) := ⟨⟨by decide +kernel, by decide +kernel⟩, List.mem_of_getElem? (i := 1205) (by decide +kernel), List.mem_of_getElem? (i := 1654) (by decide +kernel), List.mem_of_getElem? (i := 1655) (by decide +kernel)⟩
theorem lw_p157 : lw_okq (⟨"CityChordsModel", "free", "(II)I"⟩, 61) := ⟨⟨by decide +kernel, by decide +kernel⟩, List.mem_of_getElem? (i := 1205) (by decide +kernel), List.mem_of_getElem? (i := 1658) (by decide +kernel), List.mem_of_getElem? (i := 1659) (by decide +kernel)⟩
theorem lw_p158 : lw_okq (⟨"CityChordsModel", "walks", "(II)Z"⟩, 61) := ⟨⟨by decide +kernel, by decide +kernel⟩, List.mem_of_getElem? (i := 1205) (by decide +kernel), List.mem_of_getElem? (i := 1662) (by decide +kernel), List.mem_of_getElem? (i := 1663) (by decide +kernel)⟩
theorem lw_p159 : lw_okq (⟨"CityChordsModel", "goes", "(II)Z"⟩, 61) := ⟨⟨by decide +kernel, by decide +kernel⟩, List.mem_of_getElem? (i := 1205) (by decide +kernel), List.mem_of_getElem? (i := 1666) (by decide +kernel), List.mem_of_getElem? (i := 1667) (by decide +kernel)⟩
def lw_privs_10 : List (MethodName × Nat) := [(⟨"CityChordsModel", "hasNight", "(I)Z"⟩, 61), (⟨"CityChordsModel", "deeds", "()I"⟩, 61), (⟨"CityChordsModel", "deedOf", "(II)I"⟩, 61), (⟨"CityChordsModel", "layAll", "(II)Z"⟩, 61), (⟨"CityChordsModel", "play", "(I)I"⟩, 61), (⟨"CityChordsModel", "begin", "()V"⟩, 61), (⟨"CityChordsModel", "does", "(III)Z"⟩, 61), (⟨"CityChordsModel", "isPlayed", "(III)Z"⟩, 61), (⟨"CityChordsModel", "findCost", "(I)V"⟩, 61), (⟨"CityChordsModel", "next", "(II)I"⟩, 61), (⟨"CityChordsModel", "stepCost", "(II)I"⟩, 61), (⟨"CityChordsModel", "obeys", "(III)V"⟩, 61), (⟨"CityChordsModel", "marches", "(II)V"⟩, 61), (⟨"CityChordsModel", "free", "(II)I"⟩, 61), (⟨"CityChordsModel", "walks", "(II)Z"⟩, 61), (⟨"CityChordsModel", "goes", "(II)Z"⟩, 61)]
theorem lw_r10 : ∀ q ∈ lw_privs_10, lw_okq q := List.forall_mem_cons.mpr ⟨lw_p144, List.forall_mem_cons.mpr ⟨lw_p145, List.forall_mem_cons.mpr ⟨lw_p146, List.forall_mem_cons.mpr ⟨lw_p147, List.forall_mem_cons.mpr ⟨lw_p148, List.forall_mem_cons.mpr ⟨lw_p149, List.forall_mem_cons.mpr ⟨lw_p150, List.forall_mem_cons.mpr ⟨lw_p151, List.forall_mem_cons.mpr ⟨lw_p152, List.forall_mem_cons.mpr ⟨lw_p153, List.forall_mem_cons.mpr ⟨lw_p154, List.forall_mem_cons.mpr ⟨lw_p155, List.forall_mem_cons.mpr ⟨lw_p156, List.forall_mem_cons.mpr ⟨lw_p157, List.forall_mem_cons.mpr ⟨lw_p158, List.forall_mem_cons.mpr ⟨lw_p159, fun _ h => absurd h List.not_mem_nil⟩⟩⟩⟩⟩⟩⟩⟩⟩⟩⟩⟩⟩⟩⟩⟩
theorem lw_p160 : lw_okq (⟨"CityChordsModel", "rests", "()Z"⟩, 61) := ⟨⟨by decide +kernel, by decide +kernel⟩, List.mem_of_getElem? (i := 1205) (by decide +kernel), List.mem_of_getElem? (i := 1670) (by decide +kernel), List.mem_of_getElem? (i := 1671) (by decide +kernel)⟩
theorem lw_p161 : lw_okq (⟨"CityChordsModel", "ofState", "(I)I"⟩, 61) := ⟨⟨by decide +kernel, by decide +kernel⟩, List.mem_of_getElem? (i := 1205) (by decide +kernel), List.mem_of_getElem? (i := 1678) (by decide +kernel), List.mem_of_getElem? (i := 1679) (by decide +kernel)⟩
theorem lw_p162 : lw_okq (⟨"CityChordsModel", "isCell", "(I)Z"⟩, 61) := ⟨⟨by decide +kernel, by decide +kernel⟩, List.mem_of_getElem? (i := 1205) (by decide +kernel), List.mem_of_getElem? (i := 1686) (by decide +kernel), List.mem_of_getElem? (i := 1687) (by decide +kernel)⟩
theorem lw_p163 : lw_okq (⟨"CityChordsModel", "findHeard", "()V"⟩, 61) := ⟨⟨by decide +kernel, by decide +kernel⟩, List.mem_of_getElem? (i := 1205) (by decide +kernel), List.mem_of_getElem? (i := 1694) (by decide +kernel), List.mem_of_getElem? (i := 1695) (by decide +kernel)⟩
theorem lw_p164 : lw_okq (⟨"CityChordsModel", "heardFrom", "(II)J"⟩, 61) := ⟨⟨by decide +kernel, by decide +kernel⟩, List.mem_of_getElem? (i := 1205) (by decide +kernel), List.mem_of_getElem? (i := 1698) (by decide +kernel), List.mem_of_getElem? (i := 1699) (by decide +kernel)⟩
theorem lw_p165 : lw_okq (⟨"CityChordsModel", "everybody", "()I"⟩, 61) := ⟨⟨by decide +kernel, by decide +kernel⟩, List.mem_of_getElem? (i := 1205) (by decide +kernel), List.mem_of_getElem? (i := 1702) (by decide +kernel), List.mem_of_getElem? (i := 1703) (by decide +kernel)⟩
theorem lw_p166 : lw_okq (⟨"CityChordsModel", "heardBy", "(I)J"⟩, 61) := ⟨⟨by decide +kernel, by decide +kernel⟩, List.mem_of_getElem? (i := 1205) (by decide +kernel), List.mem_of_getElem? (i := 1706) (by decide +kernel), List.mem_of_getElem? (i := 1707) (by decide +kernel)⟩
theorem lw_p167 : lw_okq (⟨"CityChordsModel", "open", "()J"⟩, 61) := ⟨⟨by decide +kernel, by decide +kernel⟩, List.mem_of_getElem? (i := 1205) (by decide +kernel), List.mem_of_getElem? (i := 1710) (by decide +kernel), List.mem_of_getElem? (i := 1711) (by decide +kernel)⟩
theorem lw_p168 : lw_okq (⟨"CityChordsModel", "findNew", "(II)I"⟩, 61) := ⟨⟨by decide +kernel, by decide +kernel⟩, List.mem_of_getElem? (i := 1205) (by decide +kernel), List.mem_of_getElem? (i := 1721) (by decide +kernel), List.mem_of_getElem? (i := 1722) (by decide +kernel)⟩
theorem lw_p169 : lw_okq (⟨"CityChordsModel", "findMarches", "(J)V"⟩, 61) := ⟨⟨by decide +kernel, by decide +kernel⟩, List.mem_of_getElem? (i := 1205) (by decide +kernel), List.mem_of_getElem? (i := 1733) (by decide +kernel), List.mem_of_getElem? (i := 1734) (by decide +kernel)⟩
theorem lw_p170 : lw_okq (⟨"CityChordsModel", "nextOf", "(IJI)I"⟩, 61) := ⟨⟨by decide +kernel, by decide +kernel⟩, List.mem_of_getElem? (i := 1205) (by decide +kernel), List.mem_of_getElem? (i := 1737) (by decide +kernel), List.mem_of_getElem? (i := 1738) (by decide +kernel)⟩
theorem lw_p171 : lw_okq (⟨"CityChordsModel", "marched", "(IJI)I"⟩, 61) := ⟨⟨by decide +kernel, by decide +kernel⟩, List.mem_of_getElem? (i := 1205) (by decide +kernel), List.mem_of_getElem? (i := 1741) (by decide +kernel), List.mem_of_getElem? (i := 1742) (by decide +kernel)⟩
theorem lw_p172 : lw_okq (⟨"CityChordsModel", "findChase", "()V"⟩, 61) := ⟨⟨by decide +kernel, by decide +kernel⟩, List.mem_of_getElem? (i := 1205) (by decide +kernel), List.mem_of_getElem? (i := 1752) (by decide +kernel), List.mem_of_getElem? (i := 1753) (by decide +kernel)⟩
theorem lw_p173 : lw_okq (⟨"CityChordsModel", "stay", "(II)I"⟩, 61) := ⟨⟨by decide +kernel, by decide +kernel⟩, List.mem_of_getElem? (i := 1205) (by decide +kernel), List.mem_of_getElem? (i := 1756) (by decide +kernel), List.mem_of_getElem? (i := 1757) (by decide +kernel)⟩
theorem lw_p174 : lw_okq (⟨"CityChordsModel", "sooner", "(II)I"⟩, 61) := ⟨⟨by decide +kernel, by decide +kernel⟩, List.mem_of_getElem? (i := 1205) (by decide +kernel), List.mem_of_getElem? (i := 1760) (by decide +kernel), List.mem_of_getElem? (i := 1761) (by decide +kernel)⟩
theorem lw_p175 : lw_okq (⟨"CityChordsModel", "findBrings", "(IZ)V"⟩, 61) := ⟨⟨by decide +kernel, by decide +kernel⟩, List.mem_of_getElem? (i := 1205) (by decide +kernel), List.mem_of_getElem? (i := 1771) (by decide +kernel), List.mem_of_getElem? (i := 1772) (by decide +kernel)⟩
def lw_privs_11 : List (MethodName × Nat) := [(⟨"CityChordsModel", "rests", "()Z"⟩, 61), (⟨"CityChordsModel", "ofState", "(I)I"⟩, 61), (⟨"CityChordsModel", "isCell", "(I)Z"⟩, 61), (⟨"CityChordsModel", "findHeard", "()V"⟩, 61), (⟨"CityChordsModel", "heardFrom", "(II)J"⟩, 61), (⟨"CityChordsModel", "everybody", "()I"⟩, 61), (⟨"CityChordsModel", "heardBy", "(I)J"⟩, 61), (⟨"CityChordsModel", "open", "()J"⟩, 61), (⟨"CityChordsModel", "findNew", "(II)I"⟩, 61), (⟨"CityChordsModel", "findMarches", "(J)V"⟩, 61), (⟨"CityChordsModel", "nextOf", "(IJI)I"⟩, 61), (⟨"CityChordsModel", "marched", "(IJI)I"⟩, 61), (⟨"CityChordsModel", "findChase", "()V"⟩, 61), (⟨"CityChordsModel", "stay", "(II)I"⟩, 61), (⟨"CityChordsModel", "sooner", "(II)I"⟩, 61), (⟨"CityChordsModel", "findBrings", "(IZ)V"⟩, 61)]
theorem lw_r11 : ∀ q ∈ lw_privs_11, lw_okq q := List.forall_mem_cons.mpr ⟨lw_p160, List.forall_mem_cons.mpr ⟨lw_p161, List.forall_mem_cons.mpr ⟨lw_p162, List.forall_mem_cons.mpr ⟨lw_p163, List.forall_mem_cons.mpr ⟨lw_p164, List.forall_mem_cons.mpr ⟨lw_p165, List.forall_mem_cons.mpr ⟨lw_p166, List.forall_mem_cons.mpr ⟨lw_p167, List.forall_mem_cons.mpr ⟨lw_p168, List.forall_mem_cons.mpr ⟨lw_p169, List.forall_mem_cons.mpr ⟨lw_p170, List.forall_mem_cons.mpr ⟨lw_p171, List.forall_mem_cons.mpr ⟨lw_p172, List.forall_mem_cons.mpr ⟨lw_p173, List.forall_mem_cons.mpr ⟨lw_p174, List.forall_mem_cons.mpr ⟨lw_p175, fun _ h => absurd h List.not_mem_nil⟩⟩⟩⟩⟩⟩⟩⟩⟩⟩⟩⟩⟩⟩⟩⟩
theorem lw_p176 : lw_okq (⟨"CityChordsModel", "gain", "(II)I"⟩, 61) := ⟨⟨by decide +kernel, by decide +kernel⟩, List.mem_of_getElem? (i := 1205) (by decide +kernel), List.mem_of_getElem? (i := 1775) (by decide +kernel), List.mem_of_getElem? (i := 1776) (by decide +kernel)⟩
theorem lw_p177 : lw_okq (⟨"CityChordsModel", "commandAt", "(II)I"⟩, 61) := ⟨⟨by decide +kernel, by decide +kernel⟩, List.mem_of_getElem? (i := 1205) (by decide +kernel), List.mem_of_getElem? (i := 1788) (by decide +kernel), List.mem_of_getElem? (i := 1789) (by decide +kernel)⟩
theorem lw_p178 : lw_okq (⟨"CityChordsModel", "onLeft", "(I)I"⟩, 61) := ⟨⟨by decide +kernel, by decide +kernel⟩, List.mem_of_getElem? (i := 1205) (by decide +kernel), List.mem_of_getElem? (i := 1796) (by decide +kernel), List.mem_of_getElem? (i := 1797) (by decide +kernel)⟩
theorem lw_p179 : lw_okq (⟨"CityChordsModel", "unlike", "(I)I"⟩, 61) := ⟨⟨by decide +kernel, by decide +kernel⟩, List.mem_of_getElem? (i := 1205) (by decide +kernel), List.mem_of_getElem? (i := 1800) (by decide +kernel), List.mem_of_getElem? (i := 1801) (by decide +kernel)⟩
theorem lw_p180 : lw_okq (⟨"CityChordsModel", "hasTrial", "(I)Z"⟩, 61) := ⟨⟨by decide +kernel, by decide +kernel⟩, List.mem_of_getElem? (i := 1205) (by decide +kernel), List.mem_of_getElem? (i := 1812) (by decide +kernel), List.mem_of_getElem? (i := 1813) (by decide +kernel)⟩
theorem lw_p181 : lw_okq (⟨"CityChordsModel", "trialOf", "(I)I"⟩, 61) := ⟨⟨by decide +kernel, by decide +kernel⟩, List.mem_of_getElem? (i := 1205) (by decide +kernel), List.mem_of_getElem? (i := 1816) (by decide +kernel), List.mem_of_getElem? (i := 1817) (by decide +kernel)⟩
theorem lw_p182 : lw_okq (⟨"CityChordsModel", "findFits", "()V"⟩, 61) := ⟨⟨by decide +kernel, by decide +kernel⟩, List.mem_of_getElem? (i := 1205) (by decide +kernel), List.mem_of_getElem? (i := 1824) (by decide +kernel), List.mem_of_getElem? (i := 1825) (by decide +kernel)⟩
theorem lw_p183 : lw_okq (⟨"CityChordsModel", "areMany", "(I)Z"⟩, 61) := ⟨⟨by decide +kernel, by decide +kernel⟩, List.mem_of_getElem? (i := 1205) (by decide +kernel), List.mem_of_getElem? (i := 1828) (by decide +kernel), List.mem_of_getElem? (i := 1829) (by decide +kernel)⟩
theorem lw_p184 : lw_okq (⟨"CityChordsModel", "against", "(I)I"⟩, 61) := ⟨⟨by decide +kernel, by decide +kernel⟩, List.mem_of_getElem? (i := 1205) (by decide +kernel), List.mem_of_getElem? (i := 1832) (by decide +kernel), List.mem_of_getElem? (i := 1833) (by decide +kernel)⟩
theorem lw_p185 : lw_okq (⟨"CityChordsModel", "common", "(Z)I"⟩, 61) := ⟨⟨by decide +kernel, by decide +kernel⟩, List.mem_of_getElem? (i := 1205) (by decide +kernel), List.mem_of_getElem? (i := 1836) (by decide +kernel), List.mem_of_getElem? (i := 1837) (by decide +kernel)⟩
theorem lw_p186 : lw_okq (⟨"CityChordsModel", "askOf", "()I"⟩, 61) := ⟨⟨by decide +kernel, by decide +kernel⟩, List.mem_of_getElem? (i := 1205) (by decide +kernel), List.mem_of_getElem? (i := 1840) (by decide +kernel), List.mem_of_getElem? (i := 1841) (by decide +kernel)⟩
theorem lw_p187 : lw_okq (⟨"CityChordsModel", "broken", "(Z)I"⟩, 61) := ⟨⟨by decide +kernel, by decide +kernel⟩, List.mem_of_getElem? (i := 1205) (by decide +kernel), List.mem_of_getElem? (i := 1844) (by decide +kernel), List.mem_of_getElem? (i := 1845) (by decide +kernel)⟩
theorem lw_p188 : lw_okq (⟨"CityChordsModel", "hasSight", "(I)Z"⟩, 61) := ⟨⟨by decide +kernel, by decide +kernel⟩, List.mem_of_getElem? (i := 1205) (by decide +kernel), List.mem_of_getElem? (i := 1852) (by decide +kernel), List.mem_of_getElem? (i := 1853) (by decide +kernel)⟩
theorem lw_p189 : lw_okq (⟨"CityChordsModel", "facts", "()I"⟩, 61) := ⟨⟨by decide +kernel, by decide +kernel⟩, List.mem_of_getElem? (i := 1205) (by decide +kernel), List.mem_of_getElem? (i := 1856) (by decide +kernel), List.mem_of_getElem? (i := 1857) (by decide +kernel)⟩
theorem lw_p190 : lw_okq (⟨"CityChordsModel", "factOf", "(II)I"⟩, 61) := ⟨⟨by decide +kernel, by decide +kernel⟩, List.mem_of_getElem? (i := 1205) (by decide +kernel), List.mem_of_getElem? (i := 1860) (by decide +kernel), List.mem_of_getElem? (i := 1861) (by decide +kernel)⟩
theorem lw_p191 : lw_okq (⟨"CityChordsModel", "laySight", "(II)Z"⟩, 61) := ⟨⟨by decide +kernel, by decide +kernel⟩, List.mem_of_getElem? (i := 1205) (by decide +kernel), List.mem_of_getElem? (i := 1868) (by decide +kernel), List.mem_of_getElem? (i := 1869) (by decide +kernel)⟩
def lw_privs_12 : List (MethodName × Nat) := [(⟨"CityChordsModel", "gain", "(II)I"⟩, 61), (⟨"CityChordsModel", "commandAt", "(II)I"⟩, 61), (⟨"CityChordsModel", "onLeft", "(I)I"⟩, 61), (⟨"CityChordsModel", "unlike", "(I)I"⟩, 61), (⟨"CityChordsModel", "hasTrial", "(I)Z"⟩, 61), (⟨"CityChordsModel", "trialOf", "(I)I"⟩, 61), (⟨"CityChordsModel", "findFits", "()V"⟩, 61), (⟨"CityChordsModel", "areMany", "(I)Z"⟩, 61), (⟨"CityChordsModel", "against", "(I)I"⟩, 61), (⟨"CityChordsModel", "common", "(Z)I"⟩, 61), (⟨"CityChordsModel", "askOf", "()I"⟩, 61), (⟨"CityChordsModel", "broken", "(Z)I"⟩, 61), (⟨"CityChordsModel", "hasSight", "(I)Z"⟩, 61), (⟨"CityChordsModel", "facts", "()I"⟩, 61), (⟨"CityChordsModel", "factOf", "(II)I"⟩, 61), (⟨"CityChordsModel", "laySight", "(II)Z"⟩, 61)]
theorem lw_r12 : ∀ q ∈ lw_privs_12, lw_okq q := List.forall_mem_cons.mpr ⟨lw_p176, List.forall_mem_cons.mpr ⟨lw_p177, List.forall_mem_cons.mpr ⟨lw_p178, List.forall_mem_cons.mpr ⟨lw_p179, List.forall_mem_cons.mpr ⟨lw_p180, List.forall_mem_cons.mpr ⟨lw_p181, List.forall_mem_cons.mpr ⟨lw_p182, List.forall_mem_cons.mpr ⟨lw_p183, List.forall_mem_cons.mpr ⟨lw_p184, List.forall_mem_cons.mpr ⟨lw_p185, List.forall_mem_cons.mpr ⟨lw_p186, List.forall_mem_cons.mpr ⟨lw_p187, List.forall_mem_cons.mpr ⟨lw_p188, List.forall_mem_cons.mpr ⟨lw_p189, List.forall_mem_cons.mpr ⟨lw_p190, List.forall_mem_cons.mpr ⟨lw_p191, fun _ h => absurd h List.not_mem_nil⟩⟩⟩⟩⟩⟩⟩⟩⟩⟩⟩⟩⟩⟩⟩⟩
theorem lw_p192 : lw_okq (⟨"CityChordsModel", "isSeen", "(I)Z"⟩, 61) := ⟨⟨by decide +kernel, by decide +kernel⟩, List.mem_of_getElem? (i := 1205) (by decide +kernel), List.mem_of_getElem? (i := 1872) (by decide +kernel), List.mem_of_getElem? (i := 1873) (by decide +kernel)⟩
theorem lw_p193 : lw_okq (⟨"CityChordsModel", "surely", "()I"⟩, 61) := ⟨⟨by decide +kernel, by decide +kernel⟩, List.mem_of_getElem? (i := 1205) (by decide +kernel), List.mem_of_getElem? (i := 1876) (by decide +kernel), List.mem_of_getElem? (i := 1877) (by decide +kernel)⟩
theorem lw_p194 : lw_okq (⟨"CityChordsModel", "listen", "()I"⟩, 61) := ⟨⟨by decide +kernel, by decide +kernel⟩, List.mem_of_getElem? (i := 1205) (by decide +kernel), List.mem_of_getElem? (i := 1880) (by decide +kernel), List.mem_of_getElem? (i := 1881) (by decide +kernel)⟩
theorem lw_p195 : lw_okq (⟨"CityChordsModel", "drawDeed", "()V"⟩, 61) := ⟨⟨by decide +kernel, by decide +kernel⟩, List.mem_of_getElem? (i := 1205) (by decide +kernel), List.mem_of_getElem? (i := 1888) (by decide +kernel), List.mem_of_getElem? (i := 1889) (by decide +kernel)⟩
theorem lw_p196 : lw_okq (⟨"CityChordsModel", "draw", "(I)I"⟩, 61) := ⟨⟨by decide +kernel, by decide +kernel⟩, List.mem_of_getElem? (i := 1205) (by decide +kernel), List.mem_of_getElem? (i := 1892) (by decide +kernel), List.mem_of_getElem? (i := 1893) (by decide +kernel)⟩
theorem lw_p197 : lw_okq (⟨"CityChordsModel", "findSoon", "(I)V"⟩, 61) := ⟨⟨by decide +kernel, by decide +kernel⟩, List.mem_of_getElem? (i := 1205) (by decide +kernel), List.mem_of_getElem? (i := 1901) (by decide +kernel), List.mem_of_getElem? (i := 1902) (by decide +kernel)⟩
theorem lw_p198 : lw_okq (⟨"CityChordsModel", "isNext", "(II)Z"⟩, 61) := ⟨⟨by decide +kernel, by decide +kernel⟩, List.mem_of_getElem? (i := 1205) (by decide +kernel), List.mem_of_getElem? (i := 1913) (by decide +kernel), List.mem_of_getElem? (i := 1914) (by decide +kernel)⟩
theorem lw_p199 : lw_okq (⟨"CityChordsModel", "layRoads", "(I)V"⟩, 61) := ⟨⟨by decide +kernel, by decide +kernel⟩, List.mem_of_getElem? (i := 1205) (by decide +kernel), List.mem_of_getElem? (i := 1917) (by decide +kernel), List.mem_of_getElem? (i := 1918) (by decide +kernel)⟩
theorem lw_p200 : lw_okq (⟨"CityChordsModel", "finds", "(II)Z"⟩, 61) := ⟨⟨by decide +kernel, by decide +kernel⟩, List.mem_of_getElem? (i := 1205) (by decide +kernel), List.mem_of_getElem? (i := 1921) (by decide +kernel), List.mem_of_getElem? (i := 1922) (by decide +kernel)⟩
theorem lw_p201 : lw_okq (⟨"CityChordsModel", "meets", "(II)V"⟩, 61) := ⟨⟨by decide +kernel, by decide +kernel⟩, List.mem_of_getElem? (i := 1205) (by decide +kernel), List.mem_of_getElem? (i := 1925) (by decide +kernel), List.mem_of_getElem? (i := 1926) (by decide +kernel)⟩
theorem lw_p202 : lw_okq (⟨"CityChordsModel", "goOut", "(II)V"⟩, 61) := ⟨⟨by decide +kernel, by decide +kernel⟩, List.mem_of_getElem? (i := 1205) (by decide +kernel), List.mem_of_getElem? (i := 1929) (by decide +kernel), List.mem_of_getElem? (i := 1930) (by decide +kernel)⟩
theorem lw_p203 : lw_okq (⟨"CityChordsModel", "goIn", "(II)V"⟩, 61) := ⟨⟨by decide +kernel, by decide +kernel⟩, List.mem_of_getElem? (i := 1205) (by decide +kernel), List.mem_of_getElem? (i := 1933) (by decide +kernel), List.mem_of_getElem? (i := 1934) (by decide +kernel)⟩
theorem lw_p204 : lw_okq (⟨"CityChordsModel", "lays", "(I)V"⟩, 61) := ⟨⟨by decide +kernel, by decide +kernel⟩, List.mem_of_getElem? (i := 1205) (by decide +kernel), List.mem_of_getElem? (i := 1937) (by decide +kernel), List.mem_of_getElem? (i := 1938) (by decide +kernel)⟩
theorem lw_p205 : lw_okq (⟨"CityChordsModel", "copyAll", "(II)V"⟩, 61) := ⟨⟨by decide +kernel, by decide +kernel⟩, List.mem_of_getElem? (i := 1205) (by decide +kernel), List.mem_of_getElem? (i := 1961) (by decide +kernel), List.mem_of_getElem? (i := 1962) (by decide +kernel)⟩
def lw_privs_13 : List (MethodName × Nat) := [(⟨"CityChordsModel", "isSeen", "(I)Z"⟩, 61), (⟨"CityChordsModel", "surely", "()I"⟩, 61), (⟨"CityChordsModel", "listen", "()I"⟩, 61), (⟨"CityChordsModel", "drawDeed", "()V"⟩, 61), (⟨"CityChordsModel", "draw", "(I)I"⟩, 61), (⟨"CityChordsModel", "findSoon", "(I)V"⟩, 61), (⟨"CityChordsModel", "isNext", "(II)Z"⟩, 61), (⟨"CityChordsModel", "layRoads", "(I)V"⟩, 61), (⟨"CityChordsModel", "finds", "(II)Z"⟩, 61), (⟨"CityChordsModel", "meets", "(II)V"⟩, 61), (⟨"CityChordsModel", "goOut", "(II)V"⟩, 61), (⟨"CityChordsModel", "goIn", "(II)V"⟩, 61), (⟨"CityChordsModel", "lays", "(I)V"⟩, 61), (⟨"CityChordsModel", "copyAll", "(II)V"⟩, 61)]
theorem lw_r13 : ∀ q ∈ lw_privs_13, lw_okq q := List.forall_mem_cons.mpr ⟨lw_p192, List.forall_mem_cons.mpr ⟨lw_p193, List.forall_mem_cons.mpr ⟨lw_p194, List.forall_mem_cons.mpr ⟨lw_p195, List.forall_mem_cons.mpr ⟨lw_p196, List.forall_mem_cons.mpr ⟨lw_p197, List.forall_mem_cons.mpr ⟨lw_p198, List.forall_mem_cons.mpr ⟨lw_p199, List.forall_mem_cons.mpr ⟨lw_p200, List.forall_mem_cons.mpr ⟨lw_p201, List.forall_mem_cons.mpr ⟨lw_p202, List.forall_mem_cons.mpr ⟨lw_p203, List.forall_mem_cons.mpr ⟨lw_p204, List.forall_mem_cons.mpr ⟨lw_p205, fun _ h => absurd h List.not_mem_nil⟩⟩⟩⟩⟩⟩⟩⟩⟩⟩⟩⟩⟩⟩
def lw_privs : List (MethodName × Nat) := lw_privs_1 ++ (lw_privs_2 ++ (lw_privs_3 ++ (lw_privs_4 ++ (lw_privs_5 ++ (lw_privs_6 ++ (lw_privs_7 ++ (lw_privs_8 ++ (lw_privs_9 ++ (lw_privs_10 ++ (lw_privs_11 ++ (lw_privs_12 ++ (lw_privs_13))))))))))))
def lw_tbl : List Cond := k2_sels lw_privs ++ tables_1
theorem lw_privs_ok : ∀ q ∈ lw_privs, lw_okq q := by
  show ∀ q ∈ lw_privs_1 ++ (lw_privs_2 ++ (lw_privs_3 ++ (lw_privs_4 ++ (lw_privs_5 ++ (lw_privs_6 ++ (lw_privs_7 ++ (lw_privs_8 ++ (lw_privs_9 ++ (lw_privs_10 ++ (lw_privs_11 ++ (lw_privs_12 ++ (lw_privs_13)))))))))))), lw_okq q
  exact List.forall_mem_append.mpr ⟨lw_r1, List.forall_mem_append.mpr ⟨lw_r2, List.forall_mem_append.mpr ⟨lw_r3, List.forall_mem_append.mpr ⟨lw_r4, List.forall_mem_append.mpr ⟨lw_r5, List.forall_mem_append.mpr ⟨lw_r6, List.forall_mem_append.mpr ⟨lw_r7, List.forall_mem_append.mpr ⟨lw_r8, List.forall_mem_append.mpr ⟨lw_r9, List.forall_mem_append.mpr ⟨lw_r10, List.forall_mem_append.mpr ⟨lw_r11, List.forall_mem_append.mpr ⟨lw_r12, lw_r13⟩⟩⟩⟩⟩⟩⟩⟩⟩⟩⟩⟩
-- ===== names =====
def RX0 : String := "CityChords$City"
def TX0 : u_T := fun k => match k with
  | 0 => ("CityChords$City", "wide", "I", false)
  | 1 => ("CityChords$City", "high", "I", false)
  | 2 => ("CityChords$City", "wind", "I", false)
  | 3 => ("CityChords$City", "walls", "J", false)
  | 4 => ("CityChords$City", "players", "I", false)
  | 5 => ("CityChords$City", "people", "I", false)
  | 6 => ("CityChords$City", "instrument", "[I", true)
  | 7 => ("CityChords$City", "playerSpot", "[I", true)
  | 8 => ("CityChords$City", "kind", "[I", true)
  | 9 => ("CityChords$City", "personSpot", "[I", true)
  | _ => ("CityChords$City", "value", "[I", true)
def tyX0 : Nat → FieldType := fun k => match k with
  | 0 => .int
  | 1 => .int
  | 2 => .int
  | 3 => .long
  | 4 => .int
  | 5 => .int
  | 6 => .array .int
  | 7 => .array .int
  | 8 => .array .int
  | 9 => .array .int
  | _ => .array .int
abbrev wsX00 : List Cond := u_ws RX0 TX0 11
theorem nmX0 : ∀ a, a < 11 → ∀ b, b < 11 → a ≠ b → (TX0 a).2.1 ≠ (TX0 b).2.1 := by decide +kernel
theorem tyX0_ok : ∀ k, k < 11 → parseFieldDescriptor (TX0 k).2.2.1 = some (tyX0 k) := by decide +kernel
abbrev cX0_init : ByteArray := prog_2_method_1_code
def yX0_init : MethodName := ⟨RX0, "<init>", "()V"⟩
abbrev cX0_reset : ByteArray := prog_2_method_2_code
def yX0_reset : MethodName := ⟨RX0, "reset", "()V"⟩
abbrev cX0_take : ByteArray := prog_2_method_3_code
def yX0_take : MethodName := ⟨RX0, "take", "(LCityChords$City;)V"⟩
abbrev cX0_addPlayer : ByteArray := prog_2_method_4_code
def yX0_addPlayer : MethodName := ⟨RX0, "addPlayer", "(II)V"⟩
abbrev cX0_addPerson : ByteArray := prog_2_method_5_code
def yX0_addPerson : MethodName := ⟨RX0, "addPerson", "(II)V"⟩
abbrev cX0_hasPlayer : ByteArray := prog_2_method_6_code
def yX0_hasPlayer : MethodName := ⟨RX0, "hasPlayer", "(I)Z"⟩
abbrev cX0_rangeOf : ByteArray := prog_2_method_7_code
def yX0_rangeOf : MethodName := ⟨RX0, "rangeOf", "(I)I"⟩
abbrev cX0_hasPerson : ByteArray := prog_2_method_8_code
def yX0_hasPerson : MethodName := ⟨RX0, "hasPerson", "(I)Z"⟩
abbrev cX0_inside : ByteArray := prog_2_method_9_code
def yX0_inside : MethodName := ⟨RX0, "inside", "()J"⟩
abbrev cX0_open : ByteArray := prog_2_method_10_code
def yX0_open : MethodName := ⟨RX0, "open", "()J"⟩
abbrev cX0_inhabited : ByteArray := prog_2_method_11_code
def yX0_inhabited : MethodName := ⟨RX0, "inhabited", "()J"⟩
abbrev cX0_spotOf : ByteArray := prog_2_method_12_code
def yX0_spotOf : MethodName := ⟨RX0, "spotOf", "(I)I"⟩
abbrev cX0_cellOf : ByteArray := prog_2_method_13_code
def yX0_cellOf : MethodName := ⟨RX0, "cellOf", "(I)I"⟩
abbrev cX0_holds : ByteArray := prog_2_method_14_code
def yX0_holds : MethodName := ⟨RX0, "holds", "(LCityChords$Rows;)Z"⟩
abbrev cX0_tell : ByteArray := prog_2_method_15_code
def yX0_tell : MethodName := ⟨RX0, "tell", "(I)I"⟩
abbrev cX0_tellOne : ByteArray := prog_2_method_16_code
def yX0_tellOne : MethodName := ⟨RX0, "tellOne", "(II)I"⟩
abbrev cX0_peopleLeftOf : ByteArray := prog_2_method_17_code
def yX0_peopleLeftOf : MethodName := ⟨RX0, "peopleLeftOf", "(I)I"⟩
abbrev cX0_fairestColumn : ByteArray := prog_2_method_18_code
def yX0_fairestColumn : MethodName := ⟨RX0, "fairestColumn", "()I"⟩
abbrev cX0_longestLine : ByteArray := prog_2_method_19_code
def yX0_longestLine : MethodName := ⟨RX0, "longestLine", "()I"⟩
def RX1 : String := "CityChords$Ears"
def TX1 : u_T := fun k => match k with
  | 0 => ("CityChords$Ears", "sound", "LCityChords$Sound;", true)
  | 1 => ("CityChords$Ears", "heardOf", "[J", true)
  | 2 => ("CityChords$Ears", "playersAt", "[I", true)
  | 3 => ("CityChords$Ears", "gain", "[J", true)
  | 4 => ("CityChords$Ears", "bestFirst", "I", false)
  | 5 => ("CityChords$Ears", "bestSecond", "I", false)
  | _ => ("CityChords$Ears", "bestMany", "I", false)
def tyX1 : Nat → FieldType := fun k => match k with
  | 0 => .object "CityChords$Sound"
  | 1 => .array .long
  | 2 => .array .int
  | 3 => .array .long
  | 4 => .int
  | 5 => .int
  | _ => .int
abbrev wsX10 : List Cond := u_ws RX1 TX1 7
theorem nmX1 : ∀ a, a < 7 → ∀ b, b < 7 → a ≠ b → (TX1 a).2.1 ≠ (TX1 b).2.1 := by decide +kernel
theorem tyX1_ok : ∀ k, k < 7 → parseFieldDescriptor (TX1 k).2.2.1 = some (tyX1 k) := by decide +kernel
abbrev cX1_init : ByteArray := prog_3_method_1_code
def yX1_init : MethodName := ⟨RX1, "<init>", "()V"⟩
abbrev cX1_listen : ByteArray := prog_3_method_2_code
def yX1_listen : MethodName := ⟨RX1, "listen", "(LCityChords$City;)V"⟩
abbrev cX1_heardOfSet : ByteArray := prog_3_method_3_code
def yX1_heardOfSet : MethodName := ⟨RX1, "heardOfSet", "(LCityChords$City;I)J"⟩
abbrev cX1_fewestPlayers : ByteArray := prog_3_method_4_code
def yX1_fewestPlayers : MethodName := ⟨RX1, "fewestPlayers", "(LCityChords$City;)I"⟩
abbrev cX1_bestPlaces : ByteArray := prog_3_method_5_code
def yX1_bestPlaces : MethodName := ⟨RX1, "bestPlaces", "(LCityChords$City;III)I"⟩
abbrev cX1_tryPlaces : ByteArray := prog_3_method_6_code
def yX1_tryPlaces : MethodName := ⟨RX1, "tryPlaces", "(JII)V"⟩
abbrev cX1_keepIfMore : ByteArray := prog_3_method_7_code
def yX1_keepIfMore : MethodName := ⟨RX1, "keepIfMore", "(III)V"⟩
abbrev cX1_loudest : ByteArray := prog_3_method_8_code
def yX1_loudest : MethodName := ⟨RX1, "loudest", "(LCityChords$City;Z)I"⟩
abbrev cX1_whoHearsNothing : ByteArray := prog_3_method_9_code
def yX1_whoHearsNothing : MethodName := ⟨RX1, "whoHearsNothing", "(LCityChords$City;)I"⟩
abbrev cX1_whoPlayed : ByteArray := prog_3_method_10_code
def yX1_whoPlayed : MethodName := ⟨RX1, "whoPlayed", "(LCityChords$City;LCityChords$Rows;I)I"⟩
abbrev cX1_setsSeen : ByteArray := prog_3_method_11_code
def yX1_setsSeen : MethodName := ⟨RX1, "setsSeen", "(LCityChords$City;LCityChords$Rows;)J"⟩
abbrev cX1_agrees : ByteArray := prog_3_method_12_code
def yX1_agrees : MethodName := ⟨RX1, "agrees", "(ILCityChords$Rows;)Z"⟩
abbrev cX1_isLoud : ByteArray := prog_3_method_13_code
def yX1_isLoud : MethodName := ⟨RX1, "isLoud", "(II)Z"⟩
abbrev cX1_inAll : ByteArray := prog_3_method_14_code
def yX1_inAll : MethodName := ⟨RX1, "inAll", "(LCityChords$City;J)I"⟩
abbrev cX1_kthOf : ByteArray := prog_3_method_15_code
def yX1_kthOf : MethodName := ⟨RX1, "kthOf", "(JI)I"⟩
abbrev cX1_bestToListen : ByteArray := prog_3_method_16_code
def yX1_bestToListen : MethodName := ⟨RX1, "bestToListen", "(LCityChords$City;JI)I"⟩
abbrev cX1_howManyLoud : ByteArray := prog_3_method_17_code
def yX1_howManyLoud : MethodName := ⟨RX1, "howManyLoud", "(JI)I"⟩
def RX2 : String := "CityChords$Hunt"
def TX2 : u_T := fun k => match k with
  | 0 => ("CityChords$Hunt", "queue", "[I", true)
  | 1 => ("CityChords$Hunt", "marches", "[I", true)
  | 2 => ("CityChords$Hunt", "opening", "[I", true)
  | 3 => ("CityChords$Hunt", "way", "[I", true)
  | 4 => ("CityChords$Hunt", "caught", "[J", true)
  | _ => ("CityChords$Hunt", "held", "[J", true)
def tyX2 : Nat → FieldType := fun k => match k with
  | 0 => .array .int
  | 1 => .array .int
  | 2 => .array .int
  | 3 => .array .int
  | 4 => .array .long
  | _ => .array .long
abbrev wsX20 : List Cond := u_ws RX2 TX2 6
theorem nmX2 : ∀ a, a < 6 → ∀ b, b < 6 → a ≠ b → (TX2 a).2.1 ≠ (TX2 b).2.1 := by decide +kernel
theorem tyX2_ok : ∀ k, k < 6 → parseFieldDescriptor (TX2 k).2.2.1 = some (tyX2 k) := by decide +kernel
abbrev cX2_init : ByteArray := prog_4_method_1_code
def yX2_init : MethodName := ⟨RX2, "<init>", "()V"⟩
abbrev cX2_layWays : ByteArray := prog_4_method_2_code
def yX2_layWays : MethodName := ⟨RX2, "layWays", "(JJ)V"⟩
abbrev cX2_fewestMarches : ByteArray := prog_4_method_3_code
def yX2_fewestMarches : MethodName := ⟨RX2, "fewestMarches", "(IIZ)I"⟩
abbrev cX2_turnsToCatch : ByteArray := prog_4_method_4_code
def yX2_turnsToCatch : MethodName := ⟨RX2, "turnsToCatch", "(JII)I"⟩
abbrev cX2_addTurn : ByteArray := prog_4_method_5_code
def yX2_addTurn : MethodName := ⟨RX2, "addTurn", "(J)Z"⟩
abbrev cX2_heldAround : ByteArray := prog_4_method_6_code
def yX2_heldAround : MethodName := ⟨RX2, "heldAround", "(JI)J"⟩
def RX3 : String := "CityChords$Play"
def TX3 : u_T := fun k => match k with
  | 0 => ("CityChords$Play", "sound", "LCityChords$Sound;", true)
  | 1 => ("CityChords$Play", "playerSpot", "[I", true)
  | 2 => ("CityChords$Play", "personSpot", "[I", true)
  | 3 => ("CityChords$Play", "heardLast", "[I", true)
  | 4 => ("CityChords$Play", "heardOften", "[I", true)
  | 5 => ("CityChords$Play", "standing", "I", false)
  | 6 => ("CityChords$Play", "toldOf", "I", false)
  | _ => ("CityChords$Play", "obeyed", "I", false)
def tyX3 : Nat → FieldType := fun k => match k with
  | 0 => .object "CityChords$Sound"
  | 1 => .array .int
  | 2 => .array .int
  | 3 => .array .int
  | 4 => .array .int
  | 5 => .int
  | 6 => .int
  | _ => .int
abbrev wsX30 : List Cond := u_ws RX3 TX3 8
theorem nmX3 : ∀ a, a < 8 → ∀ b, b < 8 → a ≠ b → (TX3 a).2.1 ≠ (TX3 b).2.1 := by decide +kernel
theorem tyX3_ok : ∀ k, k < 8 → parseFieldDescriptor (TX3 k).2.2.1 = some (tyX3 k) := by decide +kernel
abbrev cX3_init : ByteArray := prog_5_method_1_code
def yX3_init : MethodName := ⟨RX3, "<init>", "()V"⟩
abbrev cX3_begin : ByteArray := prog_5_method_2_code
def yX3_begin : MethodName := ⟨RX3, "begin", "(LCityChords$City;)V"⟩
abbrev cX3_playNight : ByteArray := prog_5_method_3_code
def yX3_playNight : MethodName := ⟨RX3, "playNight", "(LCityChords$City;LCityChords$Rows;I)I"⟩
abbrev cX3_playOneDrawn : ByteArray := prog_5_method_4_code
def yX3_playOneDrawn : MethodName := ⟨RX3, "playOneDrawn", "(LCityChords$City;I)I"⟩
abbrev cX3_nextSeed : ByteArray := prog_5_method_5_code
def yX3_nextSeed : MethodName := ⟨RX3, "nextSeed", "(I)I"⟩
abbrev cX3_drawnBelow : ByteArray := prog_5_method_6_code
def yX3_drawnBelow : MethodName := ⟨RX3, "drawnBelow", "(II)I"⟩
abbrev cX3_act : ByteArray := prog_5_method_7_code
def yX3_act : MethodName := ⟨RX3, "act", "(LCityChords$City;III)Z"⟩
abbrev cX3_isFree : ByteArray := prog_5_method_8_code
def yX3_isFree : MethodName := ⟨RX3, "isFree", "(I)Z"⟩
abbrev cX3_moveOn : ByteArray := prog_5_method_9_code
def yX3_moveOn : MethodName := ⟨RX3, "moveOn", "([IIIJ)Z"⟩
abbrev cX3_playCommand : ByteArray := prog_5_method_10_code
def yX3_playCommand : MethodName := ⟨RX3, "playCommand", "(LCityChords$City;III)V"⟩
abbrev cX3_obey : ByteArray := prog_5_method_11_code
def yX3_obey : MethodName := ⟨RX3, "obey", "(LCityChords$City;IIIJ)V"⟩
abbrev cX3_tell : ByteArray := prog_5_method_12_code
def yX3_tell : MethodName := ⟨RX3, "tell", "(LCityChords$City;I)I"⟩
def RX4 : String := "CityChords$Programme"
def TX4 : u_T := fun k => match k with
  | 0 => ("CityChords$Programme", "worn", "[I", true)
  | 1 => ("CityChords$Programme", "after", "[I", true)
  | 2 => ("CityChords$Programme", "most", "[I", true)
  | _ => ("CityChords$Programme", "ways", "I", false)
def tyX4 : Nat → FieldType := fun k => match k with
  | 0 => .array .int
  | 1 => .array .int
  | 2 => .array .int
  | _ => .int
abbrev wsX40 : List Cond := u_ws RX4 TX4 4
theorem nmX4 : ∀ a, a < 4 → ∀ b, b < 4 → a ≠ b → (TX4 a).2.1 ≠ (TX4 b).2.1 := by decide +kernel
theorem tyX4_ok : ∀ k, k < 4 → parseFieldDescriptor (TX4 k).2.2.1 = some (tyX4 k) := by decide +kernel
abbrev cX4_init : ByteArray := prog_6_method_1_code
def yX4_init : MethodName := ⟨RX4, "<init>", "()V"⟩
abbrev cX4_addWay : ByteArray := prog_6_method_2_code
def yX4_addWay : MethodName := ⟨RX4, "addWay", "(I)V"⟩
abbrev cX4_codeAfter : ByteArray := prog_6_method_3_code
def yX4_codeAfter : MethodName := ⟨RX4, "codeAfter", "(II)I"⟩
abbrev cX4_plan : ByteArray := prog_6_method_4_code
def yX4_plan : MethodName := ⟨RX4, "plan", "([IIZ)V"⟩
abbrev cX4_indexOf : ByteArray := prog_6_method_5_code
def yX4_indexOf : MethodName := ⟨RX4, "indexOf", "(III)I"⟩
abbrev cX4_bestOf : ByteArray := prog_6_method_6_code
def yX4_bestOf : MethodName := ⟨RX4, "bestOf", "([IIIIZ)I"⟩
abbrev cX4_brings : ByteArray := prog_6_method_7_code
def yX4_brings : MethodName := ⟨RX4, "brings", "([IIIIZ)I"⟩
abbrev cX4_mostOf : ByteArray := prog_6_method_8_code
def yX4_mostOf : MethodName := ⟨RX4, "mostOf", "(I)I"⟩
abbrev cX4_commandAt : ByteArray := prog_6_method_9_code
def yX4_commandAt : MethodName := ⟨RX4, "commandAt", "([III)I"⟩
abbrev cX4_firstBest : ByteArray := prog_6_method_10_code
def yX4_firstBest : MethodName := ⟨RX4, "firstBest", "([III)I"⟩
def RX5 : String := "CityChords$Reader"
def TX5 : u_T := fun k => match k with
  | 0 => ("CityChords$Reader", "tape", "[B", true)
  | 1 => ("CityChords$Reader", "length", "I", false)
  | 2 => ("CityChords$Reader", "start", "I", false)
  | 3 => ("CityChords$Reader", "behind", "I", false)
  | 4 => ("CityChords$Reader", "token", "I", false)
  | 5 => ("CityChords$Reader", "number", "I", false)
  | 6 => ("CityChords$Reader", "fault", "I", false)
  | 7 => ("CityChords$Reader", "place", "I", false)
  | 8 => ("CityChords$Reader", "city", "LCityChords$City;", true)
  | 9 => ("CityChords$Reader", "rows", "LCityChords$Rows;", true)
  | _ => ("CityChords$Reader", "trial", "LCityChords$Trial;", true)
def tyX5 : Nat → FieldType := fun k => match k with
  | 0 => .array .byte
  | 1 => .int
  | 2 => .int
  | 3 => .int
  | 4 => .int
  | 5 => .int
  | 6 => .int
  | 7 => .int
  | 8 => .object "CityChords$City"
  | 9 => .object "CityChords$Rows"
  | _ => .object "CityChords$Trial"
abbrev wsX50 : List Cond := u_ws RX5 TX5 11
theorem nmX5 : ∀ a, a < 11 → ∀ b, b < 11 → a ≠ b → (TX5 a).2.1 ≠ (TX5 b).2.1 := by decide +kernel
theorem tyX5_ok : ∀ k, k < 11 → parseFieldDescriptor (TX5 k).2.2.1 = some (tyX5 k) := by decide +kernel
abbrev cX5_init : ByteArray := prog_7_method_1_code
def yX5_init : MethodName := ⟨RX5, "<init>", "()V"⟩
abbrev cX5_read : ByteArray := prog_7_method_2_code
def yX5_read : MethodName := ⟨RX5, "read", "(I[BI)V"⟩
abbrev cX5_readCityLine : ByteArray := prog_7_method_3_code
def yX5_readCityLine : MethodName := ⟨RX5, "readCityLine", "()V"⟩
abbrev cX5_readValue : ByteArray := prog_7_method_4_code
def yX5_readValue : MethodName := ⟨RX5, "readValue", "()V"⟩
abbrev cX5_readPlace : ByteArray := prog_7_method_5_code
def yX5_readPlace : MethodName := ⟨RX5, "readPlace", "(II)V"⟩
abbrev cX5_readDeed : ByteArray := prog_7_method_6_code
def yX5_readDeed : MethodName := ⟨RX5, "readDeed", "()V"⟩
abbrev cX5_readTrialLine : ByteArray := prog_7_method_7_code
def yX5_readTrialLine : MethodName := ⟨RX5, "readTrialLine", "()V"⟩
abbrev cX5_readFact : ByteArray := prog_7_method_8_code
def yX5_readFact : MethodName := ⟨RX5, "readFact", "()V"⟩
abbrev cX5_noteIfFull : ByteArray := prog_7_method_9_code
def yX5_noteIfFull : MethodName := ⟨RX5, "noteIfFull", "(II)V"⟩
abbrev cX5_checkWhole : ByteArray := prog_7_method_10_code
def yX5_checkWhole : MethodName := ⟨RX5, "checkWhole", "(I)V"⟩
abbrev cX5_note : ByteArray := prog_7_method_11_code
def yX5_note : MethodName := ⟨RX5, "note", "(II)V"⟩
abbrev cX5_stick : ByteArray := prog_7_method_12_code
def yX5_stick : MethodName := ⟨RX5, "stick", "()V"⟩
abbrev cX5_takeWord : ByteArray := prog_7_method_13_code
def yX5_takeWord : MethodName := ⟨RX5, "takeWord", "(Ljava/lang/String;)I"⟩
abbrev cX5_wordIn : ByteArray := prog_7_method_14_code
def yX5_wordIn : MethodName := ⟨RX5, "wordIn", "(Ljava/lang/String;)I"⟩
abbrev cX5_isToken : ByteArray := prog_7_method_15_code
def yX5_isToken : MethodName := ⟨RX5, "isToken", "(Ljava/lang/String;II)Z"⟩
abbrev cX5_takeNumber : ByteArray := prog_7_method_16_code
def yX5_takeNumber : MethodName := ⟨RX5, "takeNumber", "(II)I"⟩
abbrev cX5_takeSemicolon : ByteArray := prog_7_method_17_code
def yX5_takeSemicolon : MethodName := ⟨RX5, "takeSemicolon", "()V"⟩
abbrev cX5_goOn : ByteArray := prog_7_method_18_code
def yX5_goOn : MethodName := ⟨RX5, "goOn", "()V"⟩
abbrev cX5_readDigits : ByteArray := prog_7_method_19_code
def yX5_readDigits : MethodName := ⟨RX5, "readDigits", "()V"⟩
abbrev cX5_byteAt : ByteArray := prog_7_method_20_code
def yX5_byteAt : MethodName := ⟨RX5, "byteAt", "(I)I"⟩
abbrev cX5_isBlank : ByteArray := prog_7_method_21_code
def yX5_isBlank : MethodName := ⟨RX5, "isBlank", "(I)Z"⟩
abbrev cX5_isLetter : ByteArray := prog_7_method_22_code
def yX5_isLetter : MethodName := ⟨RX5, "isLetter", "(I)Z"⟩
abbrev cX5_isDigit : ByteArray := prog_7_method_23_code
def yX5_isDigit : MethodName := ⟨RX5, "isDigit", "(I)Z"⟩
def RX6 : String := "CityChords$Rows"
def TX6 : u_T := fun k => match k with
  | 0 => ("CityChords$Rows", "kind", "[I", true)
  | 1 => ("CityChords$Rows", "first", "[I", true)
  | 2 => ("CityChords$Rows", "second", "[I", true)
  | _ => ("CityChords$Rows", "size", "I", false)
def tyX6 : Nat → FieldType := fun k => match k with
  | 0 => .array .int
  | 1 => .array .int
  | 2 => .array .int
  | _ => .int
abbrev wsX60 : List Cond := u_ws RX6 TX6 4
theorem nmX6 : ∀ a, a < 4 → ∀ b, b < 4 → a ≠ b → (TX6 a).2.1 ≠ (TX6 b).2.1 := by decide +kernel
theorem tyX6_ok : ∀ k, k < 4 → parseFieldDescriptor (TX6 k).2.2.1 = some (tyX6 k) := by decide +kernel
abbrev cX6_init : ByteArray := prog_8_method_1_code
def yX6_init : MethodName := ⟨RX6, "<init>", "()V"⟩
abbrev cX6_take : ByteArray := prog_8_method_2_code
def yX6_take : MethodName := ⟨RX6, "take", "(LCityChords$Rows;)V"⟩
abbrev cX6_add : ByteArray := prog_8_method_3_code
def yX6_add : MethodName := ⟨RX6, "add", "(III)V"⟩
abbrev cX6_spotAtRow : ByteArray := prog_8_method_4_code
def yX6_spotAtRow : MethodName := ⟨RX6, "spotAtRow", "(I)I"⟩
abbrev cX6_tell : ByteArray := prog_8_method_5_code
def yX6_tell : MethodName := ⟨RX6, "tell", "(II)I"⟩
def RX7 : String := "CityChords$Sound"
def TX7 : u_T := fun k => match k with
  | _ => ("CityChords$Sound", "within", "[J", true)
def tyX7 : Nat → FieldType := fun k => match k with
  | _ => .array .long
abbrev wsX70 : List Cond := u_ws RX7 TX7 1
theorem nmX7 : ∀ a, a < 1 → ∀ b, b < 1 → a ≠ b → (TX7 a).2.1 ≠ (TX7 b).2.1 := by decide +kernel
theorem tyX7_ok : ∀ k, k < 1 → parseFieldDescriptor (TX7 k).2.2.1 = some (tyX7 k) := by decide +kernel
abbrev cX7_init : ByteArray := prog_9_method_1_code
def yX7_init : MethodName := ⟨RX7, "<init>", "()V"⟩
abbrev cX7_heard : ByteArray := prog_9_method_2_code
def yX7_heard : MethodName := ⟨RX7, "heard", "(LCityChords$City;II)J"⟩
abbrev cX7_cost : ByteArray := prog_9_method_3_code
def yX7_cost : MethodName := ⟨RX7, "cost", "(LCityChords$City;II)I"⟩
abbrev cX7_spread : ByteArray := prog_9_method_4_code
def yX7_spread : MethodName := ⟨RX7, "spread", "(LCityChords$City;JI)V"⟩
def RX8 : String := "CityChords$Streets"
def TX8 : u_T := fun k => match k with
  | 0 => ("CityChords$Streets", "queue", "[I", true)
  | 1 => ("CityChords$Streets", "cameFrom", "[I", true)
  | 2 => ("CityChords$Streets", "flows", "[J", true)
  | 3 => ("CityChords$Streets", "through", "J", false)
  | 4 => ("CityChords$Streets", "waiting", "I", false)
  | 5 => ("CityChords$Streets", "stops", "[I", true)
  | 6 => ("CityChords$Streets", "apart", "[I", true)
  | _ => ("CityChords$Streets", "shortest", "[I", true)
def tyX8 : Nat → FieldType := fun k => match k with
  | 0 => .array .int
  | 1 => .array .int
  | 2 => .array .long
  | 3 => .long
  | 4 => .int
  | 5 => .array .int
  | 6 => .array .int
  | _ => .array .int
abbrev wsX80 : List Cond := u_ws RX8 TX8 8
theorem nmX8 : ∀ a, a < 8 → ∀ b, b < 8 → a ≠ b → (TX8 a).2.1 ≠ (TX8 b).2.1 := by decide +kernel
theorem tyX8_ok : ∀ k, k < 8 → parseFieldDescriptor (TX8 k).2.2.1 = some (tyX8 k) := by decide +kernel
abbrev cX8_init : ByteArray := prog_10_method_1_code
def yX8_init : MethodName := ⟨RX8, "<init>", "()V"⟩
abbrev cX8_fewestSteps : ByteArray := prog_10_method_2_code
def yX8_fewestSteps : MethodName := ⟨RX8, "fewestSteps", "(JII)I"⟩
abbrev cX8_allReached : ByteArray := prog_10_method_3_code
def yX8_allReached : MethodName := ⟨RX8, "allReached", "(JI)J"⟩
abbrev cX8_parts : ByteArray := prog_10_method_4_code
def yX8_parts : MethodName := ⟨RX8, "parts", "(JZ)I"⟩
abbrev cX8_fewestWalls : ByteArray := prog_10_method_5_code
def yX8_fewestWalls : MethodName := ⟨RX8, "fewestWalls", "(JII)I"⟩
abbrev cX8_findWay : ByteArray := prog_10_method_6_code
def yX8_findWay : MethodName := ⟨RX8, "findWay", "(JII)Z"⟩
abbrev cX8_comeTo : ByteArray := prog_10_method_7_code
def yX8_comeTo : MethodName := ⟨RX8, "comeTo", "(II)V"⟩
abbrev cX8_layWay : ByteArray := prog_10_method_8_code
def yX8_layWay : MethodName := ⟨RX8, "layWay", "(II)V"⟩
abbrev cX8_directionOf : ByteArray := prog_10_method_9_code
def yX8_directionOf : MethodName := ⟨RX8, "directionOf", "(II)I"⟩
abbrev cX8_shortestVisit : ByteArray := prog_10_method_10_code
def yX8_shortestVisit : MethodName := ⟨RX8, "shortestVisit", "(LCityChords$City;I)I"⟩
abbrev cX8_measure : ByteArray := prog_10_method_11_code
def yX8_measure : MethodName := ⟨RX8, "measure", "(LCityChords$City;I)Z"⟩
abbrev cX8_shortestTo : ByteArray := prog_10_method_12_code
def yX8_shortestTo : MethodName := ⟨RX8, "shortestTo", "(III)I"⟩
def RX9 : String := "CityChords$Told"
def TX9 : u_T := fun k => match k with
  | 0 => ("CityChords$Told", "tape", "[B", true)
  | 1 => ("CityChords$Told", "length", "I", false)
  | 2 => ("CityChords$Told", "fault", "I", false)
  | 3 => ("CityChords$Told", "place", "I", false)
  | 4 => ("CityChords$Told", "many", "[I", true)
  | 5 => ("CityChords$Told", "cities", "[LCityChords$City;", true)
  | 6 => ("CityChords$Told", "nights", "[LCityChords$Rows;", true)
  | 7 => ("CityChords$Told", "trials", "[LCityChords$Trial;", true)
  | _ => ("CityChords$Told", "sights", "[LCityChords$Rows;", true)
def tyX9 : Nat → FieldType := fun k => match k with
  | 0 => .array .byte
  | 1 => .int
  | 2 => .int
  | 3 => .int
  | 4 => .array .int
  | 5 => .array (.object "CityChords$City")
  | 6 => .array (.object "CityChords$Rows")
  | 7 => .array (.object "CityChords$Trial")
  | _ => .array (.object "CityChords$Rows")
abbrev wsX90 : List Cond := u_ws RX9 TX9 9
theorem nmX9 : ∀ a, a < 9 → ∀ b, b < 9 → a ≠ b → (TX9 a).2.1 ≠ (TX9 b).2.1 := by decide +kernel
theorem tyX9_ok : ∀ k, k < 9 → parseFieldDescriptor (TX9 k).2.2.1 = some (tyX9 k) := by decide +kernel
abbrev cX9_init : ByteArray := prog_11_method_1_code
def yX9_init : MethodName := ⟨RX9, "<init>", "()V"⟩
abbrev cX9_take : ByteArray := prog_11_method_2_code
def yX9_take : MethodName := ⟨RX9, "take", "(LCityChords$Told;)V"⟩
abbrev cX9_write : ByteArray := prog_11_method_3_code
def yX9_write : MethodName := ⟨RX9, "write", "(I)V"⟩
abbrev cX9_manyOf : ByteArray := prog_11_method_4_code
def yX9_manyOf : MethodName := ⟨RX9, "manyOf", "(I)I"⟩
abbrev cX9_hasOne : ByteArray := prog_11_method_5_code
def yX9_hasOne : MethodName := ⟨RX9, "hasOne", "(II)Z"⟩
abbrev cX9_cityAt : ByteArray := prog_11_method_6_code
def yX9_cityAt : MethodName := ⟨RX9, "cityAt", "(I)LCityChords$City;"⟩
abbrev cX9_nightAt : ByteArray := prog_11_method_7_code
def yX9_nightAt : MethodName := ⟨RX9, "nightAt", "(I)LCityChords$Rows;"⟩
abbrev cX9_trialAt : ByteArray := prog_11_method_8_code
def yX9_trialAt : MethodName := ⟨RX9, "trialAt", "(I)LCityChords$Trial;"⟩
abbrev cX9_sightAt : ByteArray := prog_11_method_9_code
def yX9_sightAt : MethodName := ⟨RX9, "sightAt", "(I)LCityChords$Rows;"⟩
abbrev cX9_put : ByteArray := prog_11_method_10_code
def yX9_put : MethodName := ⟨RX9, "put", "(IILCityChords$Reader;)V"⟩
def RX10 : String := "CityChords$Trial"
def TX10 : u_T := fun k => match k with
  | 0 => ("CityChords$Trial", "witnesses", "I", false)
  | 1 => ("CityChords$Trial", "thieves", "I", false)
  | _ => ("CityChords$Trial", "sayings", "LCityChords$Rows;", true)
def tyX10 : Nat → FieldType := fun k => match k with
  | 0 => .int
  | 1 => .int
  | _ => .object "CityChords$Rows"
abbrev wsX100 : List Cond := u_ws RX10 TX10 3
theorem nmX10 : ∀ a, a < 3 → ∀ b, b < 3 → a ≠ b → (TX10 a).2.1 ≠ (TX10 b).2.1 := by decide +kernel
theorem tyX10_ok : ∀ k, k < 3 → parseFieldDescriptor (TX10 k).2.2.1 = some (tyX10 k) := by decide +kernel
abbrev cX10_init : ByteArray := prog_12_method_1_code
def yX10_init : MethodName := ⟨RX10, "<init>", "()V"⟩
abbrev cX10_reset : ByteArray := prog_12_method_2_code
def yX10_reset : MethodName := ⟨RX10, "reset", "()V"⟩
abbrev cX10_take : ByteArray := prog_12_method_3_code
def yX10_take : MethodName := ⟨RX10, "take", "(LCityChords$Trial;)V"⟩
abbrev cX10_tell : ByteArray := prog_12_method_4_code
def yX10_tell : MethodName := ⟨RX10, "tell", "(I)I"⟩
abbrev cX10_namesOneWhoIsNotThere : ByteArray := prog_12_method_5_code
def yX10_namesOneWhoIsNotThere : MethodName := ⟨RX10, "namesOneWhoIsNotThere", "()Z"⟩
abbrev cX10_isAsMany : ByteArray := prog_12_method_6_code
def yX10_isAsMany : MethodName := ⟨RX10, "isAsMany", "(I)Z"⟩
abbrev cX10_wrongSayings : ByteArray := prog_12_method_7_code
def yX10_wrongSayings : MethodName := ⟨RX10, "wrongSayings", "(I)I"⟩
abbrev cX10_findFitting : ByteArray := prog_12_method_8_code
def yX10_findFitting : MethodName := ⟨RX10, "findFitting", "([I)I"⟩
abbrev cX10_judge : ByteArray := prog_12_method_9_code
def yX10_judge : MethodName := ⟨RX10, "judge", "(I[I)I"⟩
abbrev cX10_inAll : ByteArray := prog_12_method_10_code
def yX10_inAll : MethodName := ⟨RX10, "inAll", "([II)I"⟩
abbrev cX10_inNone : ByteArray := prog_12_method_11_code
def yX10_inNone : MethodName := ⟨RX10, "inNone", "([II)I"⟩
abbrev cX10_bestQuestion : ByteArray := prog_12_method_12_code
def yX10_bestQuestion : MethodName := ⟨RX10, "bestQuestion", "([II)I"⟩
abbrev cX10_saidBy : ByteArray := prog_12_method_13_code
def yX10_saidBy : MethodName := ⟨RX10, "saidBy", "([IIII)I"⟩
abbrev cX10_leastBroken : ByteArray := prog_12_method_14_code
def yX10_leastBroken : MethodName := ⟨RX10, "leastBroken", "(Z)I"⟩
def RX11 : String := "CityChords"
def TX11 : u_T := fun k => match k with
  | 0 => ("CityChords", "told", "LCityChords$Told;", true)
  | 1 => ("CityChords", "images", "[LCityChords$Told;", true)
  | 2 => ("CityChords", "taken", "[Z", true)
  | 3 => ("CityChords", "reader", "LCityChords$Reader;", true)
  | 4 => ("CityChords", "sound", "LCityChords$Sound;", true)
  | 5 => ("CityChords", "ears", "LCityChords$Ears;", true)
  | 6 => ("CityChords", "play", "LCityChords$Play;", true)
  | 7 => ("CityChords", "streets", "LCityChords$Streets;", true)
  | 8 => ("CityChords", "hunt", "LCityChords$Hunt;", true)
  | 9 => ("CityChords", "programme", "LCityChords$Programme;", true)
  | _ => ("CityChords", "fitting", "[I", true)
def tyX11 : Nat → FieldType := fun k => match k with
  | 0 => .object "CityChords$Told"
  | 1 => .array (.object "CityChords$Told")
  | 2 => .array .boolean
  | 3 => .object "CityChords$Reader"
  | 4 => .object "CityChords$Sound"
  | 5 => .object "CityChords$Ears"
  | 6 => .object "CityChords$Play"
  | 7 => .object "CityChords$Streets"
  | 8 => .object "CityChords$Hunt"
  | 9 => .object "CityChords$Programme"
  | _ => .array .int
abbrev wsX110 : List Cond := u_ws RX11 TX11 11
theorem nmX11 : ∀ a, a < 11 → ∀ b, b < 11 → a ≠ b → (TX11 a).2.1 ≠ (TX11 b).2.1 := by decide +kernel
theorem tyX11_ok : ∀ k, k < 11 → parseFieldDescriptor (TX11 k).2.2.1 = some (tyX11 k) := by decide +kernel
abbrev cX11_init : ByteArray := prog_1_method_1_code
def yX11_init : MethodName := ⟨RX11, "<init>", "()V"⟩
abbrev cX11_feed : ByteArray := prog_1_method_2_code
def yX11_feed : MethodName := ⟨RX11, "feed", "(IIIII)I"⟩
abbrev cX11_end : ByteArray := prog_1_method_3_code
def yX11_end : MethodName := ⟨RX11, "end", "(I)I"⟩
abbrev cX11_text : ByteArray := prog_1_method_4_code
def yX11_text : MethodName := ⟨RX11, "text", "(II)I"⟩
abbrev cX11_fault : ByteArray := prog_1_method_5_code
def yX11_fault : MethodName := ⟨RX11, "fault", "(I)I"⟩
abbrev cX11_city : ByteArray := prog_1_method_6_code
def yX11_city : MethodName := ⟨RX11, "city", "(II)I"⟩
abbrev cX11_deed : ByteArray := prog_1_method_7_code
def yX11_deed : MethodName := ⟨RX11, "deed", "(III)I"⟩
abbrev cX11_stop : ByteArray := prog_1_method_8_code
def yX11_stop : MethodName := ⟨RX11, "stop", "(II)I"⟩
abbrev cX11_state : ByteArray := prog_1_method_9_code
def yX11_state : MethodName := ⟨RX11, "state", "(IIII)I"⟩
abbrev cX11_hears : ByteArray := prog_1_method_10_code
def yX11_hears : MethodName := ⟨RX11, "hears", "(III)I"⟩
abbrev cX11_enough : ByteArray := prog_1_method_11_code
def yX11_enough : MethodName := ⟨RX11, "enough", "(I)I"⟩
abbrev cX11_fresh : ByteArray := prog_1_method_12_code
def yX11_fresh : MethodName := ⟨RX11, "fresh", "(IIII)I"⟩
abbrev cX11_gather : ByteArray := prog_1_method_13_code
def yX11_gather : MethodName := ⟨RX11, "gather", "(IIIIZ)I"⟩
abbrev cX11_chase : ByteArray := prog_1_method_14_code
def yX11_chase : MethodName := ⟨RX11, "chase", "(III)I"⟩
abbrev cX11_programme : ByteArray := prog_1_method_15_code
def yX11_programme : MethodName := ⟨RX11, "programme", "(III)I"⟩
abbrev cX11_part : ByteArray := prog_1_method_16_code
def yX11_part : MethodName := ⟨RX11, "part", "(IIZ)I"⟩
abbrev cX11_line : ByteArray := prog_1_method_17_code
def yX11_line : MethodName := ⟨RX11, "line", "(I)I"⟩
abbrev cX11_trial : ByteArray := prog_1_method_18_code
def yX11_trial : MethodName := ⟨RX11, "trial", "(II)I"⟩
abbrev cX11_thieves : ByteArray := prog_1_method_19_code
def yX11_thieves : MethodName := ⟨RX11, "thieves", "(II)I"⟩
abbrev cX11_fact : ByteArray := prog_1_method_20_code
def yX11_fact : MethodName := ⟨RX11, "fact", "(III)I"⟩
abbrev cX11_seen : ByteArray := prog_1_method_21_code
def yX11_seen : MethodName := ⟨RX11, "seen", "(III)I"⟩
abbrev cX11_drawn : ByteArray := prog_1_method_22_code
def yX11_drawn : MethodName := ⟨RX11, "drawn", "(IIII)I"⟩
abbrev cX11_steps : ByteArray := prog_1_method_23_code
def yX11_steps : MethodName := ⟨RX11, "steps", "(III)I"⟩
abbrev cX11_blocks : ByteArray := prog_1_method_24_code
def yX11_blocks : MethodName := ⟨RX11, "blocks", "(IZ)I"⟩
abbrev cX11_cordon : ByteArray := prog_1_method_25_code
def yX11_cordon : MethodName := ⟨RX11, "cordon", "(III)I"⟩
abbrev cX11_square : ByteArray := prog_1_method_26_code
def yX11_square : MethodName := ⟨RX11, "square", "(IZ)I"⟩
abbrev cX11_silent : ByteArray := prog_1_method_27_code
def yX11_silent : MethodName := ⟨RX11, "silent", "(I)I"⟩
abbrev cX11_round : ByteArray := prog_1_method_28_code
def yX11_round : MethodName := ⟨RX11, "round", "(II)I"⟩
abbrev cX11_count : ByteArray := prog_1_method_29_code
def yX11_count : MethodName := ⟨RX11, "count", "(I)I"⟩
abbrev cX11_image : ByteArray := prog_1_method_30_code
def yX11_image : MethodName := ⟨RX11, "image", "(I)Z"⟩
abbrev cX11_again : ByteArray := prog_1_method_31_code
def yX11_again : MethodName := ⟨RX11, "again", "(I)Z"⟩
abbrev cX11_spotAt : ByteArray := prog_1_method_32_code
def yX11_spotAt : MethodName := ⟨RX11, "spotAt", "(II)I"⟩
abbrev cX11_only : ByteArray := prog_1_method_33_code
def yX11_only : MethodName := ⟨RX11, "only", "(I)J"⟩
abbrev cX11_has : ByteArray := prog_1_method_34_code
def yX11_has : MethodName := ⟨RX11, "has", "(JI)Z"⟩
abbrev cX11_leastOf : ByteArray := prog_1_method_35_code
def yX11_leastOf : MethodName := ⟨RX11, "leastOf", "(J)I"⟩
abbrev cX11_moved : ByteArray := prog_1_method_36_code
def yX11_moved : MethodName := ⟨RX11, "moved", "(JI)J"⟩
abbrev cX11_nextSpot : ByteArray := prog_1_method_37_code
def yX11_nextSpot : MethodName := ⟨RX11, "nextSpot", "(IIJ)I"⟩
abbrev cX11_grown : ByteArray := prog_1_method_38_code
def yX11_grown : MethodName := ⟨RX11, "grown", "(JJ)J"⟩
abbrev cX11_contrary : ByteArray := prog_1_method_39_code
def yX11_contrary : MethodName := ⟨RX11, "contrary", "(I)I"⟩
def RX12 : String := "CityChordsModel"
def TX12 : u_T := fun k => match k with
  | 0 => ("CityChordsModel", "code", "I", false)
  | 1 => ("CityChordsModel", "tape", "[B", true)
  | 2 => ("CityChordsModel", "size", "[I", true)
  | 3 => ("CityChordsModel", "fault", "[I", true)
  | 4 => ("CityChordsModel", "faultPlace", "[I", true)
  | 5 => ("CityChordsModel", "many", "[I", true)
  | 6 => ("CityChordsModel", "cities", "[I", true)
  | 7 => ("CityChordsModel", "nights", "[I", true)
  | 8 => ("CityChordsModel", "trials", "[I", true)
  | 9 => ("CityChordsModel", "sights", "[I", true)
  | 10 => ("CityChordsModel", "reached", "I", false)
  | 11 => ("CityChordsModel", "length", "I", false)
  | 12 => ("CityChordsModel", "begins", "I", false)
  | 13 => ("CityChordsModel", "sort", "I", false)
  | 14 => ("CityChordsModel", "value", "I", false)
  | 15 => ("CityChordsModel", "word", "J", false)
  | 16 => ("CityChordsModel", "wrongAt", "I", false)
  | 17 => ("CityChordsModel", "laterFault", "I", false)
  | 18 => ("CityChordsModel", "laterPlace", "I", false)
  | 19 => ("CityChordsModel", "told", "[I", true)
  | 20 => ("CityChordsModel", "read", "[I", true)
  | 21 => ("CityChordsModel", "farColumn", "I", false)
  | 22 => ("CityChordsModel", "farRow", "I", false)
  | 23 => ("CityChordsModel", "farVoice", "I", false)
  | 24 => ("CityChordsModel", "good", "Z", false)
  | 25 => ("CityChordsModel", "city", "I", false)
  | 26 => ("CityChordsModel", "wide", "I", false)
  | 27 => ("CityChordsModel", "cells", "I", false)
  | 28 => ("CityChordsModel", "players", "I", false)
  | 29 => ("CityChordsModel", "people", "I", false)
  | 30 => ("CityChordsModel", "night", "I", false)
  | 31 => ("CityChordsModel", "cost", "[I", true)
  | 32 => ("CityChordsModel", "stands", "[I", true)
  | 33 => ("CityChordsModel", "last", "[I", true)
  | 34 => ("CityChordsModel", "often", "[I", true)
  | 35 => ("CityChordsModel", "plays", "[I", true)
  | 36 => ("CityChordsModel", "standing", "I", false)
  | 37 => ("CityChordsModel", "toldOf", "I", false)
  | 38 => ("CityChordsModel", "obeyed", "I", false)
  | 39 => ("CityChordsModel", "heard", "[J", true)
  | 40 => ("CityChordsModel", "fromAll", "[J", true)
  | 41 => ("CityChordsModel", "newOne", "I", false)
  | 42 => ("CityChordsModel", "newOther", "I", false)
  | 43 => ("CityChordsModel", "turns", "[I", true)
  | 44 => ("CityChordsModel", "after", "[I", true)
  | 45 => ("CityChordsModel", "brings", "[I", true)
  | 46 => ("CityChordsModel", "trial", "I", false)
  | 47 => ("CityChordsModel", "fitting", "[I", true)
  | 48 => ("CityChordsModel", "fits", "I", false)
  | 49 => ("CityChordsModel", "sight", "I", false)
  | 50 => ("CityChordsModel", "seed", "I", false)
  | 51 => ("CityChordsModel", "soon", "[I", true)
  | 52 => ("CityChordsModel", "onward", "[I", true)
  | 53 => ("CityChordsModel", "whence", "[I", true)
  | 54 => ("CityChordsModel", "met", "[I", true)
  | 55 => ("CityChordsModel", "queue", "[I", true)
  | 56 => ("CityChordsModel", "tail", "I", false)
  | 57 => ("CityChordsModel", "laid", "[Z", true)
  | 58 => ("CityChordsModel", "apart", "[I", true)
  | 59 => ("CityChordsModel", "rounds", "[I", true)
  | _ => ("CityChordsModel", "kept", "[Z", true)
def tyX12 : Nat → FieldType := fun k => match k with
  | 0 => .int
  | 1 => .array .byte
  | 2 => .array .int
  | 3 => .array .int
  | 4 => .array .int
  | 5 => .array .int
  | 6 => .array .int
  | 7 => .array .int
  | 8 => .array .int
  | 9 => .array .int
  | 10 => .int
  | 11 => .int
  | 12 => .int
  | 13 => .int
  | 14 => .int
  | 15 => .long
  | 16 => .int
  | 17 => .int
  | 18 => .int
  | 19 => .array .int
  | 20 => .array .int
  | 21 => .int
  | 22 => .int
  | 23 => .int
  | 24 => .boolean
  | 25 => .int
  | 26 => .int
  | 27 => .int
  | 28 => .int
  | 29 => .int
  | 30 => .int
  | 31 => .array .int
  | 32 => .array .int
  | 33 => .array .int
  | 34 => .array .int
  | 35 => .array .int
  | 36 => .int
  | 37 => .int
  | 38 => .int
  | 39 => .array .long
  | 40 => .array .long
  | 41 => .int
  | 42 => .int
  | 43 => .array .int
  | 44 => .array .int
  | 45 => .array .int
  | 46 => .int
  | 47 => .array .int
  | 48 => .int
  | 49 => .int
  | 50 => .int
  | 51 => .array .int
  | 52 => .array .int
  | 53 => .array .int
  | 54 => .array .int
  | 55 => .array .int
  | 56 => .int
  | 57 => .array .boolean
  | 58 => .array .int
  | 59 => .array .int
  | _ => .array .boolean
abbrev wsX120 : List Cond := u_ws RX12 TX12 61
theorem nmX12 : ∀ a, a < 61 → ∀ b, b < 61 → a ≠ b → (TX12 a).2.1 ≠ (TX12 b).2.1 := by decide +kernel
theorem tyX12_ok : ∀ k, k < 61 → parseFieldDescriptor (TX12 k).2.2.1 = some (tyX12 k) := by decide +kernel
abbrev cX12_init : ByteArray := prog_14_method_1_code
def yX12_init : MethodName := ⟨RX12, "<init>", "()V"⟩
abbrev cX12_in : ByteArray := prog_14_method_3_code
def yX12_in : MethodName := ⟨RX12, "in", "(III)Z"⟩
abbrev cX12_has : ByteArray := prog_14_method_4_code
def yX12_has : MethodName := ⟨RX12, "has", "(II)Z"⟩
abbrev cX12_greater : ByteArray := prog_14_method_5_code
def yX12_greater : MethodName := ⟨RX12, "greater", "(II)I"⟩
abbrev cX12_lesser : ByteArray := prog_14_method_6_code
def yX12_lesser : MethodName := ⟨RX12, "lesser", "(II)I"⟩
abbrev cX12_ones : ByteArray := prog_14_method_7_code
def yX12_ones : MethodName := ⟨RX12, "ones", "(I)I"⟩
abbrev cX12_copyRow : ByteArray := prog_14_method_8_code
def yX12_copyRow : MethodName := ⟨RX12, "copyRow", "([IIII)V"⟩
abbrev cX12_copyAll : ByteArray := prog_14_method_9_code
def yX12_copyAll : MethodName := ⟨RX12, "copyAll", "(II)V"⟩
abbrev cX12_is : ByteArray := prog_14_method_10_code
def yX12_is : MethodName := ⟨RX12, "is", "(II)Z"⟩
abbrev cX12_feed : ByteArray := prog_14_method_11_code
def yX12_feed : MethodName := ⟨RX12, "feed", "(IIIII)I"⟩
abbrev cX12_four : ByteArray := prog_14_method_12_code
def yX12_four : MethodName := ⟨RX12, "four", "(I)V"⟩
abbrev cX12_end : ByteArray := prog_14_method_13_code
def yX12_end : MethodName := ⟨RX12, "end", "(I)I"⟩
abbrev cX12_see : ByteArray := prog_14_method_14_code
def yX12_see : MethodName := ⟨RX12, "see", "()I"⟩
abbrev cX12_token : ByteArray := prog_14_method_15_code
def yX12_token : MethodName := ⟨RX12, "token", "()V"⟩
abbrev cX12_fails : ByteArray := prog_14_method_16_code
def yX12_fails : MethodName := ⟨RX12, "fails", "()Z"⟩
abbrev cX12_later : ByteArray := prog_14_method_17_code
def yX12_later : MethodName := ⟨RX12, "later", "(II)V"⟩
abbrev cX12_take : ByteArray := prog_14_method_18_code
def yX12_take : MethodName := ⟨RX12, "take", "(III)Z"⟩
abbrev cX12_takeCell : ByteArray := prog_14_method_19_code
def yX12_takeCell : MethodName := ⟨RX12, "takeCell", "(I)Z"⟩
abbrev cX12_full : ByteArray := prog_14_method_20_code
def yX12_full : MethodName := ⟨RX12, "full", "(III)V"⟩
abbrev cX12_tuneBy : ByteArray := prog_14_method_21_code
def yX12_tuneBy : MethodName := ⟨RX12, "tuneBy", "(J)I"⟩
abbrev cX12_kindBy : ByteArray := prog_14_method_22_code
def yX12_kindBy : MethodName := ⟨RX12, "kindBy", "(J)I"⟩
abbrev cX12_commandBy : ByteArray := prog_14_method_23_code
def yX12_commandBy : MethodName := ⟨RX12, "commandBy", "(J)I"⟩
abbrev cX12_oneLine : ByteArray := prog_14_method_24_code
def yX12_oneLine : MethodName := ⟨RX12, "oneLine", "(III)Z"⟩
abbrev cX12_valueLine : ByteArray := prog_14_method_25_code
def yX12_valueLine : MethodName := ⟨RX12, "valueLine", "()Z"⟩
abbrev cX12_sizeLine : ByteArray := prog_14_method_26_code
def yX12_sizeLine : MethodName := ⟨RX12, "sizeLine", "()Z"⟩
abbrev cX12_wallLine : ByteArray := prog_14_method_27_code
def yX12_wallLine : MethodName := ⟨RX12, "wallLine", "()Z"⟩
abbrev cX12_windLine : ByteArray := prog_14_method_28_code
def yX12_windLine : MethodName := ⟨RX12, "windLine", "()Z"⟩
abbrev cX12_cityLine : ByteArray := prog_14_method_29_code
def yX12_cityLine : MethodName := ⟨RX12, "cityLine", "(JI)Z"⟩
abbrev cX12_keep : ByteArray := prog_14_method_30_code
def yX12_keep : MethodName := ⟨RX12, "keep", "(III)V"⟩
abbrev cX12_deedBy : ByteArray := prog_14_method_31_code
def yX12_deedBy : MethodName := ⟨RX12, "deedBy", "(J)I"⟩
abbrev cX12_nightLine : ByteArray := prog_14_method_32_code
def yX12_nightLine : MethodName := ⟨RX12, "nightLine", "(JI)Z"⟩
abbrev cX12_trialLine : ByteArray := prog_14_method_33_code
def yX12_trialLine : MethodName := ⟨RX12, "trialLine", "(JI)Z"⟩
abbrev cX12_sightLine : ByteArray := prog_14_method_34_code
def yX12_sightLine : MethodName := ⟨RX12, "sightLine", "(JI)Z"⟩
abbrev cX12_lineOf : ByteArray := prog_14_method_35_code
def yX12_lineOf : MethodName := ⟨RX12, "lineOf", "(IJI)Z"⟩
abbrev cX12_lines : ByteArray := prog_14_method_36_code
def yX12_lines : MethodName := ⟨RX12, "lines", "(I)Z"⟩
abbrev cX12_blank : ByteArray := prog_14_method_37_code
def yX12_blank : MethodName := ⟨RX12, "blank", "(I)V"⟩
abbrev cX12_isWalled : ByteArray := prog_14_method_38_code
def yX12_isWalled : MethodName := ⟨RX12, "isWalled", "()Z"⟩
abbrev cX12_atEnd : ByteArray := prog_14_method_39_code
def yX12_atEnd : MethodName := ⟨RX12, "atEnd", "(I)V"⟩
abbrev cX12_readText : ByteArray := prog_14_method_40_code
def yX12_readText : MethodName := ⟨RX12, "readText", "(I)Z"⟩
abbrev cX12_store : ByteArray := prog_14_method_41_code
def yX12_store : MethodName := ⟨RX12, "store", "([III)V"⟩
abbrev cX12_storeAll : ByteArray := prog_14_method_42_code
def yX12_storeAll : MethodName := ⟨RX12, "storeAll", "(II)V"⟩
abbrev cX12_text : ByteArray := prog_14_method_43_code
def yX12_text : MethodName := ⟨RX12, "text", "(II)I"⟩
abbrev cX12_fault : ByteArray := prog_14_method_44_code
def yX12_fault : MethodName := ⟨RX12, "fault", "(I)I"⟩
abbrev cX12_of : ByteArray := prog_14_method_45_code
def yX12_of : MethodName := ⟨RX12, "of", "(I)I"⟩
abbrev cX12_hand : ByteArray := prog_14_method_46_code
def yX12_hand : MethodName := ⟨RX12, "hand", "(I)Z"⟩
abbrev cX12_isCell : ByteArray := prog_14_method_47_code
def yX12_isCell : MethodName := ⟨RX12, "isCell", "(I)Z"⟩
abbrev cX12_isWall : ByteArray := prog_14_method_48_code
def yX12_isWall : MethodName := ⟨RX12, "isWall", "(I)Z"⟩
abbrev cX12_isPlayer : ByteArray := prog_14_method_49_code
def yX12_isPlayer : MethodName := ⟨RX12, "isPlayer", "(I)Z"⟩
abbrev cX12_isPerson : ByteArray := prog_14_method_50_code
def yX12_isPerson : MethodName := ⟨RX12, "isPerson", "(I)Z"⟩
abbrev cX12_cellOf : ByteArray := prog_14_method_51_code
def yX12_cellOf : MethodName := ⟨RX12, "cellOf", "(II)I"⟩
abbrev cX12_next : ByteArray := prog_14_method_52_code
def yX12_next : MethodName := ⟨RX12, "next", "(II)I"⟩
abbrev cX12_free : ByteArray := prog_14_method_53_code
def yX12_free : MethodName := ⟨RX12, "free", "(II)I"⟩
abbrev cX12_city : ByteArray := prog_14_method_54_code
def yX12_city : MethodName := ⟨RX12, "city", "(II)I"⟩
abbrev cX12_deeds : ByteArray := prog_14_method_55_code
def yX12_deeds : MethodName := ⟨RX12, "deeds", "()I"⟩
abbrev cX12_deedOf : ByteArray := prog_14_method_56_code
def yX12_deedOf : MethodName := ⟨RX12, "deedOf", "(II)I"⟩
abbrev cX12_hasNight : ByteArray := prog_14_method_57_code
def yX12_hasNight : MethodName := ⟨RX12, "hasNight", "(I)Z"⟩
abbrev cX12_deed : ByteArray := prog_14_method_58_code
def yX12_deed : MethodName := ⟨RX12, "deed", "(III)I"⟩
abbrev cX12_stepCost : ByteArray := prog_14_method_59_code
def yX12_stepCost : MethodName := ⟨RX12, "stepCost", "(II)I"⟩
abbrev cX12_findCost : ByteArray := prog_14_method_60_code
def yX12_findCost : MethodName := ⟨RX12, "findCost", "(I)V"⟩
abbrev cX12_range : ByteArray := prog_14_method_61_code
def yX12_range : MethodName := ⟨RX12, "range", "(I)I"⟩
abbrev cX12_begin : ByteArray := prog_14_method_62_code
def yX12_begin : MethodName := ⟨RX12, "begin", "()V"⟩
abbrev cX12_marches : ByteArray := prog_14_method_63_code
def yX12_marches : MethodName := ⟨RX12, "marches", "(II)V"⟩
abbrev cX12_obeys : ByteArray := prog_14_method_64_code
def yX12_obeys : MethodName := ⟨RX12, "obeys", "(III)V"⟩
abbrev cX12_isPlayed : ByteArray := prog_14_method_65_code
def yX12_isPlayed : MethodName := ⟨RX12, "isPlayed", "(III)Z"⟩
abbrev cX12_walks : ByteArray := prog_14_method_66_code
def yX12_walks : MethodName := ⟨RX12, "walks", "(II)Z"⟩
abbrev cX12_goes : ByteArray := prog_14_method_67_code
def yX12_goes : MethodName := ⟨RX12, "goes", "(II)Z"⟩
abbrev cX12_rests : ByteArray := prog_14_method_68_code
def yX12_rests : MethodName := ⟨RX12, "rests", "()Z"⟩
abbrev cX12_does : ByteArray := prog_14_method_69_code
def yX12_does : MethodName := ⟨RX12, "does", "(III)Z"⟩
abbrev cX12_play : ByteArray := prog_14_method_70_code
def yX12_play : MethodName := ⟨RX12, "play", "(I)I"⟩
abbrev cX12_layAll : ByteArray := prog_14_method_71_code
def yX12_layAll : MethodName := ⟨RX12, "layAll", "(II)Z"⟩
abbrev cX12_stop : ByteArray := prog_14_method_72_code
def yX12_stop : MethodName := ⟨RX12, "stop", "(II)I"⟩
abbrev cX12_ofState : ByteArray := prog_14_method_73_code
def yX12_ofState : MethodName := ⟨RX12, "ofState", "(I)I"⟩
abbrev cX12_state : ByteArray := prog_14_method_74_code
def yX12_state : MethodName := ⟨RX12, "state", "(IIII)I"⟩
abbrev cX12_hears : ByteArray := prog_14_method_75_code
def yX12_hears : MethodName := ⟨RX12, "hears", "(III)I"⟩
abbrev cX12_heardFrom : ByteArray := prog_14_method_76_code
def yX12_heardFrom : MethodName := ⟨RX12, "heardFrom", "(II)J"⟩
abbrev cX12_isIn : ByteArray := prog_14_method_77_code
def yX12_isIn : MethodName := ⟨RX12, "isIn", "(JI)Z"⟩
abbrev cX12_size : ByteArray := prog_14_method_78_code
def yX12_size : MethodName := ⟨RX12, "size", "(J)I"⟩
abbrev cX12_open : ByteArray := prog_14_method_79_code
def yX12_open : MethodName := ⟨RX12, "open", "()J"⟩
abbrev cX12_findHeard : ByteArray := prog_14_method_80_code
def yX12_findHeard : MethodName := ⟨RX12, "findHeard", "()V"⟩
abbrev cX12_heardBy : ByteArray := prog_14_method_81_code
def yX12_heardBy : MethodName := ⟨RX12, "heardBy", "(I)J"⟩
abbrev cX12_everybody : ByteArray := prog_14_method_82_code
def yX12_everybody : MethodName := ⟨RX12, "everybody", "()I"⟩
abbrev cX12_enough : ByteArray := prog_14_method_83_code
def yX12_enough : MethodName := ⟨RX12, "enough", "(I)I"⟩
abbrev cX12_findNew : ByteArray := prog_14_method_84_code
def yX12_findNew : MethodName := ⟨RX12, "findNew", "(II)I"⟩
abbrev cX12_fresh : ByteArray := prog_14_method_85_code
def yX12_fresh : MethodName := ⟨RX12, "fresh", "(IIII)I"⟩
abbrev cX12_marched : ByteArray := prog_14_method_86_code
def yX12_marched : MethodName := ⟨RX12, "marched", "(IJI)I"⟩
abbrev cX12_nextOf : ByteArray := prog_14_method_87_code
def yX12_nextOf : MethodName := ⟨RX12, "nextOf", "(IJI)I"⟩
abbrev cX12_findMarches : ByteArray := prog_14_method_88_code
def yX12_findMarches : MethodName := ⟨RX12, "findMarches", "(J)V"⟩
abbrev cX12_gather : ByteArray := prog_14_method_89_code
def yX12_gather : MethodName := ⟨RX12, "gather", "(IIIIZ)I"⟩
abbrev cX12_stay : ByteArray := prog_14_method_90_code
def yX12_stay : MethodName := ⟨RX12, "stay", "(II)I"⟩
abbrev cX12_sooner : ByteArray := prog_14_method_91_code
def yX12_sooner : MethodName := ⟨RX12, "sooner", "(II)I"⟩
abbrev cX12_findChase : ByteArray := prog_14_method_92_code
def yX12_findChase : MethodName := ⟨RX12, "findChase", "()V"⟩
abbrev cX12_chase : ByteArray := prog_14_method_93_code
def yX12_chase : MethodName := ⟨RX12, "chase", "(III)I"⟩
abbrev cX12_wornOf : ByteArray := prog_14_method_94_code
def yX12_wornOf : MethodName := ⟨RX12, "wornOf", "(II)I"⟩
abbrev cX12_wears : ByteArray := prog_14_method_95_code
def yX12_wears : MethodName := ⟨RX12, "wears", "(II)I"⟩
abbrev cX12_gain : ByteArray := prog_14_method_96_code
def yX12_gain : MethodName := ⟨RX12, "gain", "(II)I"⟩
abbrev cX12_cell : ByteArray := prog_14_method_97_code
def yX12_cell : MethodName := ⟨RX12, "cell", "(III)I"⟩
abbrev cX12_findBrings : ByteArray := prog_14_method_98_code
def yX12_findBrings : MethodName := ⟨RX12, "findBrings", "(IZ)V"⟩
abbrev cX12_commandAt : ByteArray := prog_14_method_99_code
def yX12_commandAt : MethodName := ⟨RX12, "commandAt", "(II)I"⟩
abbrev cX12_programme : ByteArray := prog_14_method_100_code
def yX12_programme : MethodName := ⟨RX12, "programme", "(III)I"⟩
abbrev cX12_onLeft : ByteArray := prog_14_method_101_code
def yX12_onLeft : MethodName := ⟨RX12, "onLeft", "(I)I"⟩
abbrev cX12_unlike : ByteArray := prog_14_method_102_code
def yX12_unlike : MethodName := ⟨RX12, "unlike", "(I)I"⟩
abbrev cX12_part : ByteArray := prog_14_method_103_code
def yX12_part : MethodName := ⟨RX12, "part", "(IIZ)I"⟩
abbrev cX12_line : ByteArray := prog_14_method_104_code
def yX12_line : MethodName := ⟨RX12, "line", "(I)I"⟩
abbrev cX12_trialOf : ByteArray := prog_14_method_105_code
def yX12_trialOf : MethodName := ⟨RX12, "trialOf", "(I)I"⟩
abbrev cX12_hasTrial : ByteArray := prog_14_method_106_code
def yX12_hasTrial : MethodName := ⟨RX12, "hasTrial", "(I)Z"⟩
abbrev cX12_trial : ByteArray := prog_14_method_107_code
def yX12_trial : MethodName := ⟨RX12, "trial", "(II)I"⟩
abbrev cX12_areMany : ByteArray := prog_14_method_108_code
def yX12_areMany : MethodName := ⟨RX12, "areMany", "(I)Z"⟩
abbrev cX12_against : ByteArray := prog_14_method_109_code
def yX12_against : MethodName := ⟨RX12, "against", "(I)I"⟩
abbrev cX12_findFits : ByteArray := prog_14_method_110_code
def yX12_findFits : MethodName := ⟨RX12, "findFits", "()V"⟩
abbrev cX12_askOf : ByteArray := prog_14_method_111_code
def yX12_askOf : MethodName := ⟨RX12, "askOf", "()I"⟩
abbrev cX12_broken : ByteArray := prog_14_method_112_code
def yX12_broken : MethodName := ⟨RX12, "broken", "(Z)I"⟩
abbrev cX12_common : ByteArray := prog_14_method_113_code
def yX12_common : MethodName := ⟨RX12, "common", "(Z)I"⟩
abbrev cX12_thieves : ByteArray := prog_14_method_114_code
def yX12_thieves : MethodName := ⟨RX12, "thieves", "(II)I"⟩
abbrev cX12_facts : ByteArray := prog_14_method_115_code
def yX12_facts : MethodName := ⟨RX12, "facts", "()I"⟩
abbrev cX12_factOf : ByteArray := prog_14_method_116_code
def yX12_factOf : MethodName := ⟨RX12, "factOf", "(II)I"⟩
abbrev cX12_hasSight : ByteArray := prog_14_method_117_code
def yX12_hasSight : MethodName := ⟨RX12, "hasSight", "(I)Z"⟩
abbrev cX12_fact : ByteArray := prog_14_method_118_code
def yX12_fact : MethodName := ⟨RX12, "fact", "(III)I"⟩
abbrev cX12_laySight : ByteArray := prog_14_method_119_code
def yX12_laySight : MethodName := ⟨RX12, "laySight", "(II)Z"⟩
abbrev cX12_isSeen : ByteArray := prog_14_method_120_code
def yX12_isSeen : MethodName := ⟨RX12, "isSeen", "(I)Z"⟩
abbrev cX12_listen : ByteArray := prog_14_method_121_code
def yX12_listen : MethodName := ⟨RX12, "listen", "()I"⟩
abbrev cX12_surely : ByteArray := prog_14_method_122_code
def yX12_surely : MethodName := ⟨RX12, "surely", "()I"⟩
abbrev cX12_seen : ByteArray := prog_14_method_123_code
def yX12_seen : MethodName := ⟨RX12, "seen", "(III)I"⟩
abbrev cX12_draw : ByteArray := prog_14_method_124_code
def yX12_draw : MethodName := ⟨RX12, "draw", "(I)I"⟩
abbrev cX12_drawDeed : ByteArray := prog_14_method_125_code
def yX12_drawDeed : MethodName := ⟨RX12, "drawDeed", "()V"⟩
abbrev cX12_drawn : ByteArray := prog_14_method_126_code
def yX12_drawn : MethodName := ⟨RX12, "drawn", "(IIII)I"⟩
abbrev cX12_findSoon : ByteArray := prog_14_method_127_code
def yX12_findSoon : MethodName := ⟨RX12, "findSoon", "(I)V"⟩
abbrev cX12_steps : ByteArray := prog_14_method_128_code
def yX12_steps : MethodName := ⟨RX12, "steps", "(III)I"⟩
abbrev cX12_blocks : ByteArray := prog_14_method_129_code
def yX12_blocks : MethodName := ⟨RX12, "blocks", "(IZ)I"⟩
abbrev cX12_meets : ByteArray := prog_14_method_130_code
def yX12_meets : MethodName := ⟨RX12, "meets", "(II)V"⟩
abbrev cX12_goOut : ByteArray := prog_14_method_131_code
def yX12_goOut : MethodName := ⟨RX12, "goOut", "(II)V"⟩
abbrev cX12_goIn : ByteArray := prog_14_method_132_code
def yX12_goIn : MethodName := ⟨RX12, "goIn", "(II)V"⟩
abbrev cX12_finds : ByteArray := prog_14_method_133_code
def yX12_finds : MethodName := ⟨RX12, "finds", "(II)Z"⟩
abbrev cX12_lays : ByteArray := prog_14_method_134_code
def yX12_lays : MethodName := ⟨RX12, "lays", "(I)V"⟩
abbrev cX12_layRoads : ByteArray := prog_14_method_135_code
def yX12_layRoads : MethodName := ⟨RX12, "layRoads", "(I)V"⟩
abbrev cX12_isNext : ByteArray := prog_14_method_136_code
def yX12_isNext : MethodName := ⟨RX12, "isNext", "(II)Z"⟩
abbrev cX12_cordon : ByteArray := prog_14_method_137_code
def yX12_cordon : MethodName := ⟨RX12, "cordon", "(III)I"⟩
abbrev cX12_square : ByteArray := prog_14_method_138_code
def yX12_square : MethodName := ⟨RX12, "square", "(IZ)I"⟩
abbrev cX12_silent : ByteArray := prog_14_method_139_code
def yX12_silent : MethodName := ⟨RX12, "silent", "(I)I"⟩
abbrev cX12_round : ByteArray := prog_14_method_140_code
def yX12_round : MethodName := ⟨RX12, "round", "(II)I"⟩
abbrev cX12_count : ByteArray := prog_14_method_141_code
def yX12_count : MethodName := ⟨RX12, "count", "(I)I"⟩
abbrev cX12_image : ByteArray := prog_14_method_142_code
def yX12_image : MethodName := ⟨RX12, "image", "(I)Z"⟩
abbrev cX12_again : ByteArray := prog_14_method_143_code
def yX12_again : MethodName := ⟨RX12, "again", "(I)Z"⟩
def RJx145de : String := "java/io/Serializable"
def TJx145de : u_T := fun k => match k with
  | _ => ("", "", "", false)
def tyJx145de : Nat → FieldType := fun k => match k with
  | _ => .int
abbrev wsJx145de0 : List Cond := u_ws RJx145de TJx145de 0
theorem nmJx145de : ∀ a, a < 0 → ∀ b, b < 0 → a ≠ b → (TJx145de a).2.1 ≠ (TJx145de b).2.1 := by decide +kernel
theorem tyJx145de_ok : ∀ k, k < 0 → parseFieldDescriptor (TJx145de k).2.2.1 = some (tyJx145de k) := by decide +kernel
def RJx9f9b0 : String := "java/lang/CharSequence"
def TJx9f9b0 : u_T := fun k => match k with
  | _ => ("", "", "", false)
def tyJx9f9b0 : Nat → FieldType := fun k => match k with
  | _ => .int
abbrev wsJx9f9b00 : List Cond := u_ws RJx9f9b0 TJx9f9b0 0
theorem nmJx9f9b0 : ∀ a, a < 0 → ∀ b, b < 0 → a ≠ b → (TJx9f9b0 a).2.1 ≠ (TJx9f9b0 b).2.1 := by decide +kernel
theorem tyJx9f9b0_ok : ∀ k, k < 0 → parseFieldDescriptor (TJx9f9b0 k).2.2.1 = some (tyJx9f9b0 k) := by decide +kernel
def RJxb160c : String := "java/lang/Comparable"
def TJxb160c : u_T := fun k => match k with
  | _ => ("", "", "", false)
def tyJxb160c : Nat → FieldType := fun k => match k with
  | _ => .int
abbrev wsJxb160c0 : List Cond := u_ws RJxb160c TJxb160c 0
theorem nmJxb160c : ∀ a, a < 0 → ∀ b, b < 0 → a ≠ b → (TJxb160c a).2.1 ≠ (TJxb160c b).2.1 := by decide +kernel
theorem tyJxb160c_ok : ∀ k, k < 0 → parseFieldDescriptor (TJxb160c k).2.2.1 = some (tyJxb160c k) := by decide +kernel
def RJ6 : String := "java/lang/Integer"
def TJ6 : u_T := fun k => match k with
  | _ => ("", "", "", false)
def tyJ6 : Nat → FieldType := fun k => match k with
  | _ => .int
abbrev wsJ60 : List Cond := u_ws RJ6 TJ6 0
theorem nmJ6 : ∀ a, a < 0 → ∀ b, b < 0 → a ≠ b → (TJ6 a).2.1 ≠ (TJ6 b).2.1 := by decide +kernel
theorem tyJ6_ok : ∀ k, k < 0 → parseFieldDescriptor (TJ6 k).2.2.1 = some (tyJ6 k) := by decide +kernel
abbrev cJ6_bitCount_0f7a4 : ByteArray := prog_15_method_49_code
def yJ6_bitCount_0f7a4 : MethodName := ⟨RJ6, "bitCount", "(I)I"⟩
def RJ13 : String := "java/lang/Long"
def TJ13 : u_T := fun k => match k with
  | _ => ("", "", "", false)
def tyJ13 : Nat → FieldType := fun k => match k with
  | _ => .int
abbrev wsJ130 : List Cond := u_ws RJ13 TJ13 0
theorem nmJ13 : ∀ a, a < 0 → ∀ b, b < 0 → a ≠ b → (TJ13 a).2.1 ≠ (TJ13 b).2.1 := by decide +kernel
theorem tyJ13_ok : ∀ k, k < 0 → parseFieldDescriptor (TJ13 k).2.2.1 = some (tyJ13 k) := by decide +kernel
abbrev cJ13_bitCount_95d88 : ByteArray := prog_16_method_50_code
def yJ13_bitCount_95d88 : MethodName := ⟨RJ13, "bitCount", "(J)I"⟩
def RJ9 : String := "java/lang/Math"
def TJ9 : u_T := fun k => match k with
  | _ => ("", "", "", false)
def tyJ9 : Nat → FieldType := fun k => match k with
  | _ => .int
abbrev wsJ90 : List Cond := u_ws RJ9 TJ9 0
theorem nmJ9 : ∀ a, a < 0 → ∀ b, b < 0 → a ≠ b → (TJ9 a).2.1 ≠ (TJ9 b).2.1 := by decide +kernel
theorem tyJ9_ok : ∀ k, k < 0 → parseFieldDescriptor (TJ9 k).2.2.1 = some (tyJ9 k) := by decide +kernel
abbrev cJ9_abs_0f7a4 : ByteArray := prog_17_method_59_code
def yJ9_abs_0f7a4 : MethodName := ⟨RJ9, "abs", "(I)I"⟩
abbrev cJ9_max_7cf53 : ByteArray := prog_17_method_65_code
def yJ9_max_7cf53 : MethodName := ⟨RJ9, "max", "(II)I"⟩
abbrev cJ9_min_7cf53 : ByteArray := prog_17_method_69_code
def yJ9_min_7cf53 : MethodName := ⟨RJ9, "min", "(II)I"⟩
def RJ0 : String := "java/lang/String"
def TJ0 : u_T := fun k => match k with
  | _ => ("", "", "", false)
def tyJ0 : Nat → FieldType := fun k => match k with
  | _ => .int
abbrev wsJ00 : List Cond := u_ws RJ0 TJ0 0
theorem nmJ0 : ∀ a, a < 0 → ∀ b, b < 0 → a ≠ b → (TJ0 a).2.1 ≠ (TJ0 b).2.1 := by decide +kernel
theorem tyJ0_ok : ∀ k, k < 0 → parseFieldDescriptor (TJ0 k).2.2.1 = some (tyJ0 k) := by decide +kernel
abbrev cJ0_length_8abf5 : ByteArray := prog_18_method_54_code
def yJ0_length_8abf5 : MethodName := ⟨RJ0, "length", "()I"⟩
abbrev cJ0_charAt_5068e : ByteArray := prog_18_method_56_code
def yJ0_charAt_5068e : MethodName := ⟨RJ0, "charAt", "(I)C"⟩
abbrev cJ0_coder_7d493 : ByteArray := prog_18_method_152_code
def yJ0_coder_7d493 : MethodName := ⟨RJ0, "coder", "()B"⟩
abbrev cJ0_isLatin1_aae02 : ByteArray := prog_18_method_154_code
def yJ0_isLatin1_aae02 : MethodName := ⟨RJ0, "isLatin1", "()Z"⟩
abbrev cJ0_checkIndex_df160 : ByteArray := prog_18_method_155_code
def yJ0_checkIndex_df160 : MethodName := ⟨RJ0, "checkIndex", "(II)V"⟩
def RJ1 : String := "java/lang/StringLatin1"
def TJ1 : u_T := fun k => match k with
  | _ => ("", "", "", false)
def tyJ1 : Nat → FieldType := fun k => match k with
  | _ => .int
abbrev wsJ10 : List Cond := u_ws RJ1 TJ1 0
theorem nmJ1 : ∀ a, a < 0 → ∀ b, b < 0 → a ≠ b → (TJ1 a).2.1 ≠ (TJ1 b).2.1 := by decide +kernel
theorem tyJ1_ok : ∀ k, k < 0 → parseFieldDescriptor (TJ1 k).2.2.1 = some (tyJ1 k) := by decide +kernel
abbrev cJ1_charAt_3b067 : ByteArray := prog_19_method_2_code
def yJ1_charAt_3b067 : MethodName := ⟨RJ1, "charAt", "([BI)C"⟩
def RJ2 : String := "java/lang/StringUTF16"
def TJ2 : u_T := fun k => match k with
  | _ => ("", "", "", false)
def tyJ2 : Nat → FieldType := fun k => match k with
  | _ => .int
abbrev wsJ20 : List Cond := u_ws RJ2 TJ2 0
theorem nmJ2 : ∀ a, a < 0 → ∀ b, b < 0 → a ≠ b → (TJ2 a).2.1 ≠ (TJ2 b).2.1 := by decide +kernel
theorem tyJ2_ok : ∀ k, k < 0 → parseFieldDescriptor (TJ2 k).2.2.1 = some (tyJ2 k) := by decide +kernel
abbrev cJ2_getChar_3b067 : ByteArray := prog_20_method_5_code
def yJ2_getChar_3b067 : MethodName := ⟨RJ2, "getChar", "([BI)C"⟩
abbrev cJ2_length_9d52b : ByteArray := prog_20_method_6_code
def yJ2_length_9d52b : MethodName := ⟨RJ2, "length", "([B)I"⟩
abbrev cJ2_charAt_3b067 : ByteArray := prog_20_method_83_code
def yJ2_charAt_3b067 : MethodName := ⟨RJ2, "charAt", "([BI)C"⟩
abbrev cJ2_checkIndex_2214a : ByteArray := prog_20_method_91_code
def yJ2_checkIndex_2214a : MethodName := ⟨RJ2, "checkIndex", "(I[B)V"⟩
def RJ10 : String := "java/lang/System"
def TJ10 : u_T := fun k => match k with
  | _ => ("", "", "", false)
def tyJ10 : Nat → FieldType := fun k => match k with
  | _ => .int
abbrev wsJ100 : List Cond := u_ws RJ10 TJ10 0
theorem nmJ10 : ∀ a, a < 0 → ∀ b, b < 0 → a ≠ b → (TJ10 a).2.1 ≠ (TJ10 b).2.1 := by decide +kernel
theorem tyJ10_ok : ∀ k, k < 0 → parseFieldDescriptor (TJ10 k).2.2.1 = some (tyJ10 k) := by decide +kernel
def RJxfd54e : String := "java/lang/constant/Constable"
def TJxfd54e : u_T := fun k => match k with
  | _ => ("", "", "", false)
def tyJxfd54e : Nat → FieldType := fun k => match k with
  | _ => .int
abbrev wsJxfd54e0 : List Cond := u_ws RJxfd54e TJxfd54e 0
theorem nmJxfd54e : ∀ a, a < 0 → ∀ b, b < 0 → a ≠ b → (TJxfd54e a).2.1 ≠ (TJxfd54e b).2.1 := by decide +kernel
theorem tyJxfd54e_ok : ∀ k, k < 0 → parseFieldDescriptor (TJxfd54e k).2.2.1 = some (tyJxfd54e k) := by decide +kernel
def RJx3cf43 : String := "java/lang/constant/ConstantDesc"
def TJx3cf43 : u_T := fun k => match k with
  | _ => ("", "", "", false)
def tyJx3cf43 : Nat → FieldType := fun k => match k with
  | _ => .int
abbrev wsJx3cf430 : List Cond := u_ws RJx3cf43 TJx3cf43 0
theorem nmJx3cf43 : ∀ a, a < 0 → ∀ b, b < 0 → a ≠ b → (TJx3cf43 a).2.1 ≠ (TJx3cf43 b).2.1 := by decide +kernel
theorem tyJx3cf43_ok : ∀ k, k < 0 → parseFieldDescriptor (TJx3cf43 k).2.2.1 = some (tyJx3cf43 k) := by decide +kernel
def RJ7 : String := "java/util/Arrays"
def TJ7 : u_T := fun k => match k with
  | _ => ("", "", "", false)
def tyJ7 : Nat → FieldType := fun k => match k with
  | _ => .int
abbrev wsJ70 : List Cond := u_ws RJ7 TJ7 0
theorem nmJ7 : ∀ a, a < 0 → ∀ b, b < 0 → a ≠ b → (TJ7 a).2.1 ≠ (TJ7 b).2.1 := by decide +kernel
theorem tyJ7_ok : ∀ k, k < 0 → parseFieldDescriptor (TJ7 k).2.2.1 = some (tyJ7 k) := by decide +kernel
abbrev cJ7_fill_d0a16 : ByteArray := prog_22_method_101_code
def yJ7_fill_d0a16 : MethodName := ⟨RJ7, "fill", "([JJ)V"⟩
abbrev cJ7_fill_53178 : ByteArray := prog_22_method_103_code
def yJ7_fill_53178 : MethodName := ⟨RJ7, "fill", "([II)V"⟩
def RJ3 : String := "jdk/internal/util/Preconditions"
def TJ3 : u_T := fun k => match k with
  | _ => ("", "", "", false)
def tyJ3 : Nat → FieldType := fun k => match k with
  | _ => .int
abbrev wsJ30 : List Cond := u_ws RJ3 TJ3 0
theorem nmJ3 : ∀ a, a < 0 → ∀ b, b < 0 → a ≠ b → (TJ3 a).2.1 ≠ (TJ3 b).2.1 := by decide +kernel
theorem tyJ3_ok : ∀ k, k < 0 → parseFieldDescriptor (TJ3 k).2.2.1 = some (tyJ3 k) := by decide +kernel
abbrev cJ3_checkIndex_8e157 : ByteArray := prog_23_method_11_code
def yJ3_checkIndex_8e157 : MethodName := ⟨RJ3, "checkIndex", "(IILjava/util/function/BiFunction;)I"⟩
def RL : String := "CityChordsLaw"
abbrev cL_law : ByteArray := code
def yL_law : MethodName := ⟨RL, "law", "([I)Z"⟩
