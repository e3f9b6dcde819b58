section
-- ===== PART A: goes FIRST, ahead of the names: the tables' words, and 'selects' of the private methods out of them =====
/-- a private method of a class that the tables say can be made, by its rows of tables_1 -/
def lw_okq (q : MethodName × Nat) : Prop := (q.1.cls ≠ "java/lang/invoke/MethodHandle" ∧ q.1.cls ≠ "java/lang/invoke/VarHandle") ∧ Cond.instantiable q.1.cls q.2 ∈ tables_1 ∧ Cond.privateMethod q.1 ∈ tables_1 ∧ Cond.instanceMethod q.1 ∈ tables_1
theorem lw_p0 : lw_okq (⟨"MessageBank", "busyBits", "()I"⟩, 8) := ⟨⟨by decide +kernel, by decide +kernel⟩, List.mem_of_getElem? (i := 26) (by decide +kernel), List.mem_of_getElem? (i := 230) (by decide +kernel), List.mem_of_getElem? (i := 231) (by decide +kernel)⟩
theorem lw_p1 : lw_okq (⟨"java/lang/Throwable", "fillInStackTrace", "(I)Ljava/lang/Throwable;"⟩, 6) := ⟨⟨by decide +kernel, by decide +kernel⟩, List.mem_of_getElem? (i := 282) (by decide +kernel), List.mem_of_getElem? (i := 280) (by decide +kernel), List.mem_of_getElem? (i := 281) (by decide +kernel)⟩
theorem lw_p2 : lw_okq (⟨"MessageBank", "requireBox", "(I)V"⟩, 8) := ⟨⟨by decide +kernel, by decide +kernel⟩, List.mem_of_getElem? (i := 26) (by decide +kernel), List.mem_of_getElem? (i := 336) (by decide +kernel), List.mem_of_getElem? (i := 337) (by decide +kernel)⟩
theorem lw_p3 : lw_okq (⟨"MessageBank", "requireLine", "(I)V"⟩, 8) := ⟨⟨by decide +kernel, by decide +kernel⟩, List.mem_of_getElem? (i := 26) (by decide +kernel), List.mem_of_getElem? (i := 356) (by decide +kernel), List.mem_of_getElem? (i := 357) (by decide +kernel)⟩
theorem lw_p4 : lw_okq (⟨"MessageBank", "hasRoomForMessage", "()Z"⟩, 8) := ⟨⟨by decide +kernel, by decide +kernel⟩, List.mem_of_getElem? (i := 26) (by decide +kernel), List.mem_of_getElem? (i := 363) (by decide +kernel), List.mem_of_getElem? (i := 364) (by decide +kernel)⟩
theorem lw_p5 : lw_okq (⟨"MessageBank$Line", "forgetGuess", "()V"⟩, 10) := ⟨⟨by decide +kernel, by decide +kernel⟩, List.mem_of_getElem? (i := 119) (by decide +kernel), List.mem_of_getElem? (i := 376) (by decide +kernel), List.mem_of_getElem? (i := 377) (by decide +kernel)⟩
theorem lw_p6 : lw_okq (⟨"MessageBank", "busyLine", "(I)LMessageBank$Line;"⟩, 8) := ⟨⟨by decide +kernel, by decide +kernel⟩, List.mem_of_getElem? (i := 26) (by decide +kernel), List.mem_of_getElem? (i := 387) (by decide +kernel), List.mem_of_getElem? (i := 388) (by decide +kernel)⟩
theorem lw_p7 : lw_okq (⟨"MessageBank", "takeFrame", "(LMessageBank$Line;)V"⟩, 8) := ⟨⟨by decide +kernel, by decide +kernel⟩, List.mem_of_getElem? (i := 26) (by decide +kernel), List.mem_of_getElem? (i := 405) (by decide +kernel), List.mem_of_getElem? (i := 406) (by decide +kernel)⟩
theorem lw_p8 : lw_okq (⟨"MessageBank", "gapPrice", "(I)I"⟩, 8) := ⟨⟨by decide +kernel, by decide +kernel⟩, List.mem_of_getElem? (i := 26) (by decide +kernel), List.mem_of_getElem? (i := 413) (by decide +kernel), List.mem_of_getElem? (i := 414) (by decide +kernel)⟩
theorem lw_p9 : lw_okq (⟨"MessageBank", "fits", "(LMessageBank$Line;ZI)Z"⟩, 8) := ⟨⟨by decide +kernel, by decide +kernel⟩, List.mem_of_getElem? (i := 26) (by decide +kernel), List.mem_of_getElem? (i := 417) (by decide +kernel), List.mem_of_getElem? (i := 418) (by decide +kernel)⟩
theorem lw_p10 : lw_okq (⟨"MessageBank", "isWithinQuota", "(II)Z"⟩, 8) := ⟨⟨by decide +kernel, by decide +kernel⟩, List.mem_of_getElem? (i := 26) (by decide +kernel), List.mem_of_getElem? (i := 429) (by decide +kernel), List.mem_of_getElem? (i := 430) (by decide +kernel)⟩
theorem lw_p11 : lw_okq (⟨"MessageBank", "usedBy", "(I)I"⟩, 8) := ⟨⟨by decide +kernel, by decide +kernel⟩, List.mem_of_getElem? (i := 26) (by decide +kernel), List.mem_of_getElem? (i := 433) (by decide +kernel), List.mem_of_getElem? (i := 434) (by decide +kernel)⟩
theorem lw_p12 : lw_okq (⟨"MessageBank$Recording", "dropLastBlock", "()V"⟩, 5) := ⟨⟨by decide +kernel, by decide +kernel⟩, List.mem_of_getElem? (i := 125) (by decide +kernel), List.mem_of_getElem? (i := 463) (by decide +kernel), List.mem_of_getElem? (i := 464) (by decide +kernel)⟩
theorem lw_p13 : lw_okq (⟨"MessageBank", "codeFrame", "(LMessageBank$Line;)V"⟩, 8) := ⟨⟨by decide +kernel, by decide +kernel⟩, List.mem_of_getElem? (i := 26) (by decide +kernel), List.mem_of_getElem? (i := 475) (by decide +kernel), List.mem_of_getElem? (i := 476) (by decide +kernel)⟩
theorem lw_p14 : lw_okq (⟨"MessageBank$Line", "tell", "(II)V"⟩, 10) := ⟨⟨by decide +kernel, by decide +kernel⟩, List.mem_of_getElem? (i := 119) (by decide +kernel), List.mem_of_getElem? (i := 487) (by decide +kernel), List.mem_of_getElem? (i := 488) (by decide +kernel)⟩
theorem lw_p15 : lw_okq (⟨"MessageBank", "addMessage", "(ILMessageBank$Recording;LMessageBank$Recording;)I"⟩, 8) := ⟨⟨by decide +kernel, by decide +kernel⟩, List.mem_of_getElem? (i := 26) (by decide +kernel), List.mem_of_getElem? (i := 509) (by decide +kernel), List.mem_of_getElem? (i := 510) (by decide +kernel)⟩
def lw_privs_1 : List (MethodName × Nat) := [(⟨"MessageBank", "busyBits", "()I"⟩, 8), (⟨"java/lang/Throwable", "fillInStackTrace", "(I)Ljava/lang/Throwable;"⟩, 6), (⟨"MessageBank", "requireBox", "(I)V"⟩, 8), (⟨"MessageBank", "requireLine", "(I)V"⟩, 8), (⟨"MessageBank", "hasRoomForMessage", "()Z"⟩, 8), (⟨"MessageBank$Line", "forgetGuess", "()V"⟩, 10), (⟨"MessageBank", "busyLine", "(I)LMessageBank$Line;"⟩, 8), (⟨"MessageBank", "takeFrame", "(LMessageBank$Line;)V"⟩, 8), (⟨"MessageBank", "gapPrice", "(I)I"⟩, 8), (⟨"MessageBank", "fits", "(LMessageBank$Line;ZI)Z"⟩, 8), (⟨"MessageBank", "isWithinQuota", "(II)Z"⟩, 8), (⟨"MessageBank", "usedBy", "(I)I"⟩, 8), (⟨"MessageBank$Recording", "dropLastBlock", "()V"⟩, 5), (⟨"MessageBank", "codeFrame", "(LMessageBank$Line;)V"⟩, 8), (⟨"MessageBank$Line", "tell", "(II)V"⟩, 10), (⟨"MessageBank", "addMessage", "(ILMessageBank$Recording;LMessageBank$Recording;)I"⟩, 8)]
theorem lw_r1 : ∀ q ∈ lw_privs_1, lw_okq q := List.forall_mem_cons.mpr ⟨lw_p0, List.forall_mem_cons.mpr ⟨lw_p1, List.forall_mem_cons.mpr ⟨lw_p2, List.forall_mem_cons.mpr ⟨lw_p3, List.forall_mem_cons.mpr ⟨lw_p4, List.forall_mem_cons.mpr ⟨lw_p5, List.forall_mem_cons.mpr ⟨lw_p6, List.forall_mem_cons.mpr ⟨lw_p7, List.forall_mem_cons.mpr ⟨lw_p8, List.forall_mem_cons.mpr ⟨lw_p9, List.forall_mem_cons.mpr ⟨lw_p10, List.forall_mem_cons.mpr ⟨lw_p11, List.forall_mem_cons.mpr ⟨lw_p12, List.forall_mem_cons.mpr ⟨lw_p13, List.forall_mem_cons.mpr ⟨lw_p14, List.forall_mem_cons.mpr ⟨lw_p15, fun _ h => absurd h List.not_mem_nil⟩⟩⟩⟩⟩⟩⟩⟩⟩⟩⟩⟩⟩⟩⟩⟩
theorem lw_p16 : lw_okq (⟨"java/util/ArrayList", "add", "(Ljava/lang/Object;[Ljava/lang/Object;I)V"⟩, 3) := ⟨⟨by decide +kernel, by decide +kernel⟩, List.mem_of_getElem? (i := 78) (by decide +kernel), List.mem_of_getElem? (i := 543) (by decide +kernel), List.mem_of_getElem? (i := 544) (by decide +kernel)⟩
theorem lw_p17 : lw_okq (⟨"java/util/ArrayList", "grow", "()[Ljava/lang/Object;"⟩, 3) := ⟨⟨by decide +kernel, by decide +kernel⟩, List.mem_of_getElem? (i := 78) (by decide +kernel), List.mem_of_getElem? (i := 547) (by decide +kernel), List.mem_of_getElem? (i := 548) (by decide +kernel)⟩
theorem lw_p18 : lw_okq (⟨"java/util/ArrayList", "grow", "(I)[Ljava/lang/Object;"⟩, 3) := ⟨⟨by decide +kernel, by decide +kernel⟩, List.mem_of_getElem? (i := 78) (by decide +kernel), List.mem_of_getElem? (i := 551) (by decide +kernel), List.mem_of_getElem? (i := 552) (by decide +kernel)⟩
theorem lw_p19 : lw_okq (⟨"MessageBank", "hold", "(LMessageBank$Recording;)V"⟩, 8) := ⟨⟨by decide +kernel, by decide +kernel⟩, List.mem_of_getElem? (i := 26) (by decide +kernel), List.mem_of_getElem? (i := 595) (by decide +kernel), List.mem_of_getElem? (i := 596) (by decide +kernel)⟩
theorem lw_p20 : lw_okq (⟨"MessageBank", "replaceOwn", "(LMessageBank$Box;ILMessageBank$Recording;)V"⟩, 8) := ⟨⟨by decide +kernel, by decide +kernel⟩, List.mem_of_getElem? (i := 26) (by decide +kernel), List.mem_of_getElem? (i := 599) (by decide +kernel), List.mem_of_getElem? (i := 600) (by decide +kernel)⟩
theorem lw_p21 : lw_okq (⟨"MessageBank", "release", "(LMessageBank$Recording;)I"⟩, 8) := ⟨⟨by decide +kernel, by decide +kernel⟩, List.mem_of_getElem? (i := 26) (by decide +kernel), List.mem_of_getElem? (i := 603) (by decide +kernel), List.mem_of_getElem? (i := 604) (by decide +kernel)⟩
theorem lw_p22 : lw_okq (⟨"MessageBank", "requireList", "(I)V"⟩, 8) := ⟨⟨by decide +kernel, by decide +kernel⟩, List.mem_of_getElem? (i := 26) (by decide +kernel), List.mem_of_getElem? (i := 619) (by decide +kernel), List.mem_of_getElem? (i := 620) (by decide +kernel)⟩
theorem lw_p23 : lw_okq (⟨"MessageBank", "numberInList", "(III)I"⟩, 8) := ⟨⟨by decide +kernel, by decide +kernel⟩, List.mem_of_getElem? (i := 26) (by decide +kernel), List.mem_of_getElem? (i := 624) (by decide +kernel), List.mem_of_getElem? (i := 625) (by decide +kernel)⟩
theorem lw_p24 : lw_okq (⟨"MessageBank", "placeOf", "(I)I"⟩, 8) := ⟨⟨by decide +kernel, by decide +kernel⟩, List.mem_of_getElem? (i := 26) (by decide +kernel), List.mem_of_getElem? (i := 651) (by decide +kernel), List.mem_of_getElem? (i := 652) (by decide +kernel)⟩
theorem lw_p25 : lw_okq (⟨"java/util/ArrayList", "fastRemove", "([Ljava/lang/Object;I)V"⟩, 3) := ⟨⟨by decide +kernel, by decide +kernel⟩, List.mem_of_getElem? (i := 78) (by decide +kernel), List.mem_of_getElem? (i := 667) (by decide +kernel), List.mem_of_getElem? (i := 668) (by decide +kernel)⟩
theorem lw_p26 : lw_okq (⟨"MessageBank", "requireOwn", "(I)V"⟩, 8) := ⟨⟨by decide +kernel, by decide +kernel⟩, List.mem_of_getElem? (i := 26) (by decide +kernel), List.mem_of_getElem? (i := 720) (by decide +kernel), List.mem_of_getElem? (i := 721) (by decide +kernel)⟩
theorem lw_p27 : lw_okq (⟨"MessageBankModel", "isBox", "(I)Z"⟩, 32) := ⟨⟨by decide +kernel, by decide +kernel⟩, List.mem_of_getElem? (i := 777) (by decide +kernel), List.mem_of_getElem? (i := 896) (by decide +kernel), List.mem_of_getElem? (i := 897) (by decide +kernel)⟩
theorem lw_p28 : lw_okq (⟨"MessageBankModel", "isFull", "()Z"⟩, 32) := ⟨⟨by decide +kernel, by decide +kernel⟩, List.mem_of_getElem? (i := 777) (by decide +kernel), List.mem_of_getElem? (i := 900) (by decide +kernel), List.mem_of_getElem? (i := 901) (by decide +kernel)⟩
theorem lw_p29 : lw_okq (⟨"MessageBankModel", "frame", "(I)V"⟩, 32) := ⟨⟨by decide +kernel, by decide +kernel⟩, List.mem_of_getElem? (i := 777) (by decide +kernel), List.mem_of_getElem? (i := 908) (by decide +kernel), List.mem_of_getElem? (i := 909) (by decide +kernel)⟩
theorem lw_p30 : lw_okq (⟨"MessageBankModel", "growGap", "(I)V"⟩, 32) := ⟨⟨by decide +kernel, by decide +kernel⟩, List.mem_of_getElem? (i := 777) (by decide +kernel), List.mem_of_getElem? (i := 912) (by decide +kernel), List.mem_of_getElem? (i := 913) (by decide +kernel)⟩
theorem lw_p31 : lw_okq (⟨"MessageBankModel", "entryAt", "(II)I"⟩, 32) := ⟨⟨by decide +kernel, by decide +kernel⟩, List.mem_of_getElem? (i := 777) (by decide +kernel), List.mem_of_getElem? (i := 916) (by decide +kernel), List.mem_of_getElem? (i := 917) (by decide +kernel)⟩
def lw_privs_2 : List (MethodName × Nat) := [(⟨"java/util/ArrayList", "add", "(Ljava/lang/Object;[Ljava/lang/Object;I)V"⟩, 3), (⟨"java/util/ArrayList", "grow", "()[Ljava/lang/Object;"⟩, 3), (⟨"java/util/ArrayList", "grow", "(I)[Ljava/lang/Object;"⟩, 3), (⟨"MessageBank", "hold", "(LMessageBank$Recording;)V"⟩, 8), (⟨"MessageBank", "replaceOwn", "(LMessageBank$Box;ILMessageBank$Recording;)V"⟩, 8), (⟨"MessageBank", "release", "(LMessageBank$Recording;)I"⟩, 8), (⟨"MessageBank", "requireList", "(I)V"⟩, 8), (⟨"MessageBank", "numberInList", "(III)I"⟩, 8), (⟨"MessageBank", "placeOf", "(I)I"⟩, 8), (⟨"java/util/ArrayList", "fastRemove", "([Ljava/lang/Object;I)V"⟩, 3), (⟨"MessageBank", "requireOwn", "(I)V"⟩, 8), (⟨"MessageBankModel", "isBox", "(I)Z"⟩, 32), (⟨"MessageBankModel", "isFull", "()Z"⟩, 32), (⟨"MessageBankModel", "frame", "(I)V"⟩, 32), (⟨"MessageBankModel", "growGap", "(I)V"⟩, 32), (⟨"MessageBankModel", "entryAt", "(II)I"⟩, 32)]
theorem lw_r2 : ∀ q ∈ lw_privs_2, lw_okq q := List.forall_mem_cons.mpr ⟨lw_p16, List.forall_mem_cons.mpr ⟨lw_p17, List.forall_mem_cons.mpr ⟨lw_p18, List.forall_mem_cons.mpr ⟨lw_p19, List.forall_mem_cons.mpr ⟨lw_p20, List.forall_mem_cons.mpr ⟨lw_p21, List.forall_mem_cons.mpr ⟨lw_p22, List.forall_mem_cons.mpr ⟨lw_p23, List.forall_mem_cons.mpr ⟨lw_p24, List.forall_mem_cons.mpr ⟨lw_p25, List.forall_mem_cons.mpr ⟨lw_p26, List.forall_mem_cons.mpr ⟨lw_p27, List.forall_mem_cons.mpr ⟨lw_p28, List.forall_mem_cons.mpr ⟨lw_p29, List.forall_mem_cons.mpr ⟨lw_p30, List.forall_mem_cons.mpr ⟨lw_p31, fun _ h => absurd h List.not_mem_nil⟩⟩⟩⟩⟩⟩⟩⟩⟩⟩⟩⟩⟩⟩⟩⟩
theorem lw_p32 : lw_okq (⟨"MessageBankModel", "isPaid", "(II)Z"⟩, 32) := ⟨⟨by decide +kernel, by decide +kernel⟩, List.mem_of_getElem? (i := 777) (by decide +kernel), List.mem_of_getElem? (i := 923) (by decide +kernel), List.mem_of_getElem? (i := 924) (by decide +kernel)⟩
theorem lw_p33 : lw_okq (⟨"MessageBankModel", "usedBy", "(I)I"⟩, 32) := ⟨⟨by decide +kernel, by decide +kernel⟩, List.mem_of_getElem? (i := 777) (by decide +kernel), List.mem_of_getElem? (i := 927) (by decide +kernel), List.mem_of_getElem? (i := 928) (by decide +kernel)⟩
theorem lw_p34 : lw_okq (⟨"MessageBankModel", "cost", "(I)I"⟩, 32) := ⟨⟨by decide +kernel, by decide +kernel⟩, List.mem_of_getElem? (i := 777) (by decide +kernel), List.mem_of_getElem? (i := 931) (by decide +kernel), List.mem_of_getElem? (i := 932) (by decide +kernel)⟩
theorem lw_p35 : lw_okq (⟨"MessageBankModel", "dropLast", "(I)V"⟩, 32) := ⟨⟨by decide +kernel, by decide +kernel⟩, List.mem_of_getElem? (i := 777) (by decide +kernel), List.mem_of_getElem? (i := 935) (by decide +kernel), List.mem_of_getElem? (i := 936) (by decide +kernel)⟩
theorem lw_p36 : lw_okq (⟨"MessageBankModel", "codeFrame", "(I)V"⟩, 32) := ⟨⟨by decide +kernel, by decide +kernel⟩, List.mem_of_getElem? (i := 777) (by decide +kernel), List.mem_of_getElem? (i := 939) (by decide +kernel), List.mem_of_getElem? (i := 940) (by decide +kernel)⟩
theorem lw_p37 : lw_okq (⟨"MessageBankModel", "freeBlock", "()I"⟩, 32) := ⟨⟨by decide +kernel, by decide +kernel⟩, List.mem_of_getElem? (i := 777) (by decide +kernel), List.mem_of_getElem? (i := 943) (by decide +kernel), List.mem_of_getElem? (i := 944) (by decide +kernel)⟩
theorem lw_p38 : lw_okq (⟨"MessageBankModel", "code", "(I)I"⟩, 32) := ⟨⟨by decide +kernel, by decide +kernel⟩, List.mem_of_getElem? (i := 777) (by decide +kernel), List.mem_of_getElem? (i := 947) (by decide +kernel), List.mem_of_getElem? (i := 948) (by decide +kernel)⟩
theorem lw_p39 : lw_okq (⟨"MessageBankModel", "hear", "(I)V"⟩, 32) := ⟨⟨by decide +kernel, by decide +kernel⟩, List.mem_of_getElem? (i := 777) (by decide +kernel), List.mem_of_getElem? (i := 951) (by decide +kernel), List.mem_of_getElem? (i := 952) (by decide +kernel)⟩
theorem lw_p40 : lw_okq (⟨"MessageBankModel", "append", "(II)V"⟩, 32) := ⟨⟨by decide +kernel, by decide +kernel⟩, List.mem_of_getElem? (i := 777) (by decide +kernel), List.mem_of_getElem? (i := 955) (by decide +kernel), List.mem_of_getElem? (i := 956) (by decide +kernel)⟩
theorem lw_p41 : lw_okq (⟨"MessageBankModel", "add", "(III)I"⟩, 32) := ⟨⟨by decide +kernel, by decide +kernel⟩, List.mem_of_getElem? (i := 777) (by decide +kernel), List.mem_of_getElem? (i := 963) (by decide +kernel), List.mem_of_getElem? (i := 964) (by decide +kernel)⟩
theorem lw_p42 : lw_okq (⟨"MessageBankModel", "letGo", "(I)I"⟩, 32) := ⟨⟨by decide +kernel, by decide +kernel⟩, List.mem_of_getElem? (i := 777) (by decide +kernel), List.mem_of_getElem? (i := 967) (by decide +kernel), List.mem_of_getElem? (i := 968) (by decide +kernel)⟩
theorem lw_p43 : lw_okq (⟨"MessageBankModel", "release", "(I)I"⟩, 32) := ⟨⟨by decide +kernel, by decide +kernel⟩, List.mem_of_getElem? (i := 777) (by decide +kernel), List.mem_of_getElem? (i := 971) (by decide +kernel), List.mem_of_getElem? (i := 972) (by decide +kernel)⟩
theorem lw_p44 : lw_okq (⟨"MessageBankModel", "find", "(I)I"⟩, 32) := ⟨⟨by decide +kernel, by decide +kernel⟩, List.mem_of_getElem? (i := 777) (by decide +kernel), List.mem_of_getElem? (i := 983) (by decide +kernel), List.mem_of_getElem? (i := 984) (by decide +kernel)⟩
theorem lw_p45 : lw_okq (⟨"MessageBankModel", "frames", "(I)I"⟩, 32) := ⟨⟨by decide +kernel, by decide +kernel⟩, List.mem_of_getElem? (i := 777) (by decide +kernel), List.mem_of_getElem? (i := 999) (by decide +kernel), List.mem_of_getElem? (i := 1000) (by decide +kernel)⟩
theorem lw_p46 : lw_okq (⟨"MessageBankModel", "sound", "(II)I"⟩, 32) := ⟨⟨by decide +kernel, by decide +kernel⟩, List.mem_of_getElem? (i := 777) (by decide +kernel), List.mem_of_getElem? (i := 1007) (by decide +kernel), List.mem_of_getElem? (i := 1008) (by decide +kernel)⟩
theorem lw_p47 : lw_okq (⟨"MessageBankModel", "lastBlock", "()I"⟩, 32) := ⟨⟨by decide +kernel, by decide +kernel⟩, List.mem_of_getElem? (i := 777) (by decide +kernel), List.mem_of_getElem? (i := 1031) (by decide +kernel), List.mem_of_getElem? (i := 1032) (by decide +kernel)⟩
def lw_privs_3 : List (MethodName × Nat) := [(⟨"MessageBankModel", "isPaid", "(II)Z"⟩, 32), (⟨"MessageBankModel", "usedBy", "(I)I"⟩, 32), (⟨"MessageBankModel", "cost", "(I)I"⟩, 32), (⟨"MessageBankModel", "dropLast", "(I)V"⟩, 32), (⟨"MessageBankModel", "codeFrame", "(I)V"⟩, 32), (⟨"MessageBankModel", "freeBlock", "()I"⟩, 32), (⟨"MessageBankModel", "code", "(I)I"⟩, 32), (⟨"MessageBankModel", "hear", "(I)V"⟩, 32), (⟨"MessageBankModel", "append", "(II)V"⟩, 32), (⟨"MessageBankModel", "add", "(III)I"⟩, 32), (⟨"MessageBankModel", "letGo", "(I)I"⟩, 32), (⟨"MessageBankModel", "release", "(I)I"⟩, 32), (⟨"MessageBankModel", "find", "(I)I"⟩, 32), (⟨"MessageBankModel", "frames", "(I)I"⟩, 32), (⟨"MessageBankModel", "sound", "(II)I"⟩, 32), (⟨"MessageBankModel", "lastBlock", "()I"⟩, 32)]
theorem lw_r3 : ∀ q ∈ lw_privs_3, lw_okq q := List.forall_mem_cons.mpr ⟨lw_p32, List.forall_mem_cons.mpr ⟨lw_p33, List.forall_mem_cons.mpr ⟨lw_p34, List.forall_mem_cons.mpr ⟨lw_p35, List.forall_mem_cons.mpr ⟨lw_p36, List.forall_mem_cons.mpr ⟨lw_p37, List.forall_mem_cons.mpr ⟨lw_p38, List.forall_mem_cons.mpr ⟨lw_p39, List.forall_mem_cons.mpr ⟨lw_p40, List.forall_mem_cons.mpr ⟨lw_p41, List.forall_mem_cons.mpr ⟨lw_p42, List.forall_mem_cons.mpr ⟨lw_p43, List.forall_mem_cons.mpr ⟨lw_p44, List.forall_mem_cons.mpr ⟨lw_p45, List.forall_mem_cons.mpr ⟨lw_p46, List.forall_mem_cons.mpr ⟨lw_p47, fun _ h => absurd h List.not_mem_nil⟩⟩⟩⟩⟩⟩⟩⟩⟩⟩⟩⟩⟩⟩⟩⟩
theorem lw_p48 : lw_okq (⟨"MessageBankModel", "moveBlock", "(II)V"⟩, 32) := ⟨⟨by decide +kernel, by decide +kernel⟩, List.mem_of_getElem? (i := 777) (by decide +kernel), List.mem_of_getElem? (i := 1035) (by decide +kernel), List.mem_of_getElem? (i := 1036) (by decide +kernel)⟩
def lw_privs_4 : List (MethodName × Nat) := [(⟨"MessageBankModel", "moveBlock", "(II)V"⟩, 32)]
theorem lw_r4 : ∀ q ∈ lw_privs_4, lw_okq q := List.forall_mem_cons.mpr ⟨lw_p48, fun _ h => absurd h List.not_mem_nil⟩
def lw_privs : List (MethodName × Nat) := lw_privs_1 ++ (lw_privs_2 ++ (lw_privs_3 ++ (lw_privs_4)))
def lw_tbl : List Cond := k2_sels lw_privs ++ tables_1
theorem lw_privs_ok : ∀ q ∈ lw_privs, lw_okq q := by
  show ∀ q ∈ lw_privs_1 ++ (lw_privs_2 ++ (lw_privs_3 ++ (lw_privs_4))), lw_okq q
  exact List.forall_mem_append.mpr ⟨lw_r1, List.forall_mem_append.mpr ⟨lw_r2, List.forall_mem_append.mpr ⟨lw_r3, lw_r4⟩⟩⟩
-- ===== end of PART A; then your names; then what follows =====
end
section
/-! ===== BEGIN words of one list among another's, by their places ===== -/
theorem goodIn_r {big : List Cond} (ws : List Cond) (ps : List Nat) (hp : ws = ps.filterMap (fun i => big[i]?)) (h : ws.all goodWord = true) : GoodIn big ws := by
  intro w hw
  have h1 := List.all_eq_true.mp h w hw
  rw [hp] at hw
  obtain ⟨i, -, hi⟩ := List.mem_filterMap.mp hw
  have hm : w ∈ big := by first | exact List.mem_of_getElem? hi | exact List.getElem?_mem hi
  exact ⟨hm, good_of_word h1⟩
theorem goodIn_app {big a b : List Cond} (ha : GoodIn big a) (hb : GoodIn big b) : GoodIn big (a ++ b) := fun w h => (List.mem_append.mp h).elim (ha w) (hb w)
theorem goodIn_ca {big a b : List Cond} {c : Cond} (ha : GoodIn big (c :: a)) (hb : GoodIn big b) : GoodIn big (c :: (a ++ b)) := fun w h => (List.mem_cons.mp h).elim (fun e => ha w (List.mem_cons.mpr (Or.inl e))) (fun h => (List.mem_append.mp h).elim (fun h => ha w (List.mem_cons.mpr (Or.inr h))) (hb w))
theorem goodIn_sub {big ws : List Cond} (hm : ∀ w ∈ ws, w ∈ big) (h : ws.all goodWord = true) : GoodIn big ws := fun w hw => ⟨hm w hw, good_of_word (List.all_eq_true.mp h w hw)⟩
/-! ===== END ===== -/

/-! ===== BEGIN exceptions that leave a method, and their catching by the caller (launches without stack traces) ===== -/
section VXA
/-! The laws vx_back, vx_callV, vx_callS, vx_callSW, vx_throw0, vx_throwS follow proofs of the library, with one case more: JvmDerived/Free/Laws.lean (Back.of_free), Shelf42/LK1.lean (callV, callS), Shelf/KitTraced.lean (throwNew0V, throwNewS). -/
/-- where a method has thrown q: the class by its name, the cell, what was written, the world -/
def vx_T (XC : String → State → State → Prop) (st : State) (q : Addr) (t : State) (mc ms : Nat) (free : Addr → Prop) : Prop :=
  ∃ (E : String) (ce : Cell) (L : List Loc), XC E st t ∧ t.heap[q]? = some ce ∧ ce.vm = .none ∧ st.vm.findClass E = some ce.cls ∧ st.WarmedH t.vm ∧ st.sameButNew ({ t with vm := st.vm } : State) L mc ms ∧ ∀ z ∈ L, free z.base
def vx_Q (Qc : Array Value → State → Outcome → State → Prop) (XC : String → State → State → Prop) (mc ms : Nat) (free : Addr → Prop) : Array Value → State → Outcome → State → Prop := fun a st o t =>
  (Qc a st o t ∧ ∃ L, FrameEnd st o t L mc ms ∧ ∀ q ∈ L, free q.base) ∨ ∃ q, o = .threw q ∧ vx_T XC st q t mc ms free
/-- a callee that returns or throws -/
def vx_Met (l : Launch) (y : MethodName) (ws : List Cond) (rm : Room) (Pc : Array Value → State → Prop) (Qc : Array Value → State → Outcome → State → Prop) (XC : String → State → State → Prop) (mc ms : Nat) (free : Addr → Prop) : Prop :=
  MetFree l y (headSpec ws rm) Pc (fun _ _ _ _ _ => True) (vx_Q Qc XC mc ms free)
def vx_Post (XC : String → State → State → Prop) (mc ms : Nat) (free : Addr → Prop) : Pt → Array Value → Addr → Pt → Prop := fun A a q B =>
  ∃ (g : JFrame) (mk : MethodId) (t : State) (L : List Loc) (E : String) (ce : Cell), B.U.heap = t.heap ∧ B.U.vm = t.vm ∧ XC E (A.U.calling g mk a) t ∧ t.heap[q]? = some ce ∧ ce.vm = .none ∧ A.U.vm.findClass E = some ce.cls ∧ B.locs = A.locs ++ L ∧ (∀ z ∈ L, free z.base) ∧ B.cells = A.cells + mc ∧ B.slots = A.slots + ms
def vx_Back (l : Launch) (R : Room) (p : Program) (e : Env) (below : List Frame) (s : State) (sargs : Array Value) (y : MethodName) (len W9 : Nat)
    (Pre : Pt → Array Value → Prop) (Post : Pt → Array Value → Option Value → Pt → Prop) (PostX : Pt → Array Value → Addr → Pt → Prop) : Prop :=
  ∀ (m : MethodId) (meth : Method) (c : Code) (A : Pt) (g : JFrame) (ig : Instr) (mk : MethodId) (a : Array Value),
    Stand p l e R s m sargs below meth c A.U A.locs A.cells A.slots → g.method = m → g.locals.size = c.maxLocals → decode c.code g.pc = .ok (ig, len) →
    2 * g.monitorRoom + (g.stack.map fun v => v.category).sum ≤ W9 → A.U.methodNamed? y = some mk → Pre A a →
    (∃ (v : Option Value) (B : Pt), Stand p l e R s m sargs below meth c B.U B.locs B.cells B.slots ∧ Post A a v B ∧
      Steps p.tables e below (doInvoke e (A.U.setTop g) [] mk a).1 (B.U.setTop { g with pc := g.pc + len, stack := v.toList ++ g.stack })) ∨
    (∃ (q : Addr) (B : Pt), Stand p l e R s m sargs below meth c B.U B.locs B.cells B.slots ∧ PostX A a q B ∧
      Steps p.tables e below (doInvoke e (A.U.setTop g) [] mk a).1 ((B.U.setTop g).pushFrame (.throwing q)))
section Payer
variable {l : Launch} {R : Room} {p : Program} {e : Env} {below : List Frame} {s : State} {sargs : Array Value} {y : MethodName} {len W9 : Nat}
theorem vx_back {ws : List Cond} {rm : Room} {Pc : Array Value → State → Prop} {Qc : Array Value → State → Outcome → State → Prop} {XC : String → State → State → Prop} {mc ms : Nat} {free : Addr → Prop} {bytes : ByteArray} {maxL : Nat} {ret : Option FieldType}
    (hM : vx_Met l y ws rm Pc Qc XC mc ms free) (hblind : FrameBlind Pc) (hrc : rm.cells = mc) (hrs : rm.slots = ms)
    (hframes : rm.frames + 1 ≤ R.frames) (hlocals : W9 + (maxL + 11) + rm.locals ≤ R.locals)
    (hws : ∀ w ∈ ws, ∀ a' U, s.WarmedH U.vm → w.before a' U = true) (hcode : Cond.code y bytes maxL ret ∈ ws) (hinit : ∀ a' U, s.WarmedH U.vm → (Cond.initialized y.cls).before a' U = true) :
    vx_Back l R p e below s sargs y len W9 (PreOf R mc ms Pc) (PostOf Qc mc ms free) (vx_Post XC mc ms free) := by
  intro m meth c A g ig mk a X hg hsize hdg hW hn hp
  have h1 : (headSpec ws rm).pre.before a A.U = true := atoms_intro fun w hw => hws w hw _ _ X.warmed
  have h2 : (Cond.code y bytes maxL ret).before a A.U = true := hws _ hcode _ _ X.warmed
  have h3 : (Cond.initialized y.cls).before a A.U = true := hinit _ _ X.warmed
  have h4 : A.cells + (headSpec ws rm).room.cells ≤ R.cells := by rw [show (headSpec ws rm).room.cells = mc from hrc]; exact hp.1
  have h5 : A.slots + (headSpec ws rm).room.slots ≤ R.slots := by rw [show (headSpec ws rm).room.slots = ms from hrs]; exact hp.2.1
  have hPc : Pc a (A.U.calling g mk a) := hblind _ _ _ _ hp.2.2
  obtain ⟨U, Ls, c0, s0⟩ := A
  dsimp only [Pt.U, Pt.locs, Pt.cells, Pt.slots] at h1 h2 h3 h4 h5 X hn hPc ⊢
  obtain ⟨methY, cY, hmY, hcY, -, hlY, -, -, -, -⟩ := Cond.code_spec hn h2
  obtain ⟨kY, hkY, -⟩ := className_of_methodNamed hn
  have hinitY : kY.init = .initialized := Cond.initialized_spec (findClass_of_methodNamed hn) hkY h3
  have h : At U g.method c below := by rw [hg]; exact X.here
  have hlocals9 : W9 + (maxL + 11) + (headSpec ws rm).room.locals ≤ R.locals := hlocals
  have happ : (headSpec ws rm).appliesLoose y e.platform (U.calling g mk a) = true :=
    Spec.appliesLoose_calling (g := g) h hdg hn hkY hinitY
      (X.room_calling (g := g) (R' := (headSpec ws rm).room) hsize hmY hcY hframes (by rw [hlY]; omega) h4 h5) h1
  obtain ⟨mid, hmid⟩ := h.above
  have hfr : (U.setTop g).frames = (.java g :: mid) ++ below := by rw [State.frames_setTop' g h.top, hmid]; rfl
  obtain ⟨o, s₂, hsteps, -, hend, hq⟩ := Steps.callFree hM p X.admits X.cas X.clock (acts := []) hfr happ hPc trivial
  have hq' : vx_Q Qc XC mc ms free a (U.calling g mk a) o s₂ := hq
  rw [State.frames_setTop' g h.top] at hend
  obtain ⟨g₀, hg0⟩ := Option.isSome_iff_exists.mp h.top
  obtain ⟨r, hr⟩ := State.topJava?_eq_some.mp hg0
  have hr' : (({ U with heap := s₂.heap, slotsUsed := s₂.slotsUsed } : State).setVm s₂.vm).frames = .java g₀ :: r := hr
  rcases hq' with ⟨hqc, L, hfe, hL⟩ | ⟨q, rfl, E, ce, L, hx, hce, hcv, hcl, hW₂, hsm, hL⟩
  · obtain ⟨⟨v, rfl⟩, hW₂, e2, q2, q3, q4, q5, q6⟩ := id hfe
    have e3 : s₂ = ({ (U.calling g mk a).setFrames s₂.frames with heap := s₂.heap, slotsUsed := s₂.slotsUsed } : State).setVm s₂.vm := by
      have : s₂ = ({ s₂ with vm := (U.calling g mk a).vm } : State).setVm s₂.vm := rfl
      rw [e2] at this
      exact this
    obtain ⟨c₂, i₂, len₂, hc₂, hd₂, hf₂⟩ := hend
    have hW' : U.WarmedH s₂.vm := hW₂
    have hcc : c₂ = c := by
      have h1 : s₂.code? g.method = U.code? g.method := by
        rw [State.code?_eq, State.code?_eq, hW'.alike.method?]
      exact Option.some.inj (hc₂.symm.trans (h1.trans h.code))
    subst hcc
    have hlen : len₂ = len := by rw [hdg] at hd₂; cases hd₂; rfl
    subst hlen
    have hs₂ : s₂ = (({ U with heap := s₂.heap, slotsUsed := s₂.slotsUsed } : State).setVm s₂.vm).setTop { g with pc := g.pc + len₂, stack := v.toList ++ g.stack } := by
      refine e3.trans ?_
      rw [hf₂, State.calling_eq h.top, State.setFrames_setFrames, State.setTop_of_frames _ hr', hr]
      rfl
    have hsame : U.sameButNew ({ U with heap := s₂.heap, slotsUsed := s₂.slotsUsed } : State) L mc ms := by
      refine ⟨?_, q2, q3, q4, q5, q6⟩
      obtain ⟨t, ht, -⟩ := State.frames_cons hr
      show ({ U with heap := s₂.heap, slotsUsed := s₂.slotsUsed } : State) = { U.setFrames U.frames with heap := s₂.heap, slotsUsed := s₂.slotsUsed }
      rw [State.setFrames_self ht]
    subst hg
    refine Or.inl ⟨v, ⟨(({ U with heap := s₂.heap, slotsUsed := s₂.slotsUsed } : State).setVm s₂.vm), Ls ++ L, c0 + mc, s0 + ms⟩,
      ⟨X.admits, X.cas, X.clock, X.frames, X.room, X.hears, X.method, X.code, (X.here.setHeapUsed s₂.heap s₂.slotsUsed).setVm hW'.alike, X.tail, State.WarmedH.trans X.warmed hW', X.limits, X.bytes, X.same.trans (hsame.setVm s.vm)⟩,
      ⟨g, mk, s₂, L, rfl, rfl, hqc, rfl, hL, rfl, rfl⟩, ?_⟩
    show Steps p.tables e below _ ((({ U with heap := s₂.heap, slotsUsed := s₂.slotsUsed } : State).setVm s₂.vm).setTop { g with pc := g.pc + len₂, stack := v.toList ++ g.stack })
    rw [← hs₂]
    exact hsteps
  · obtain ⟨e2, q2, q3, q4, q5, q6⟩ := id hsm
    have e3 : s₂ = ({ (U.calling g mk a).setFrames s₂.frames with heap := s₂.heap, slotsUsed := s₂.slotsUsed } : State).setVm s₂.vm := by
      have : s₂ = ({ s₂ with vm := (U.calling g mk a).vm } : State).setVm s₂.vm := rfl
      rw [e2] at this
      exact this
    have hf₂ : s₂.frames = .throwing q :: .java g :: U.frames.tail := hend
    have hW' : U.WarmedH s₂.vm := hW₂
    have hs₂ : s₂ = ((({ U with heap := s₂.heap, slotsUsed := s₂.slotsUsed } : State).setVm s₂.vm).setTop g).pushFrame (.throwing q) := by
      refine e3.trans ?_
      rw [hf₂, State.calling_eq h.top, State.setFrames_setFrames, State.pushFrame, State.frames_setTop _ hr', State.setTop_of_frames _ hr', State.setFrames_setFrames, hr]
      rfl
    have hsame : U.sameButNew ({ U with heap := s₂.heap, slotsUsed := s₂.slotsUsed } : State) L mc ms := by
      refine ⟨?_, q2, q3, q4, q5, q6⟩
      obtain ⟨t, ht, -⟩ := State.frames_cons hr
      show ({ U with heap := s₂.heap, slotsUsed := s₂.slotsUsed } : State) = { U.setFrames U.frames with heap := s₂.heap, slotsUsed := s₂.slotsUsed }
      rw [State.setFrames_self ht]
    subst hg
    refine Or.inr ⟨q, ⟨(({ U with heap := s₂.heap, slotsUsed := s₂.slotsUsed } : State).setVm s₂.vm), Ls ++ L, c0 + mc, s0 + ms⟩,
      ⟨X.admits, X.cas, X.clock, X.frames, X.room, X.hears, X.method, X.code, (X.here.setHeapUsed s₂.heap s₂.slotsUsed).setVm hW'.alike, X.tail, State.WarmedH.trans X.warmed hW', X.limits, X.bytes, X.same.trans (hsame.setVm s.vm)⟩,
      ⟨g, mk, s₂, L, E, ce, rfl, rfl, hx, hce, hcv, hcl, rfl, hL, rfl, rfl⟩, ?_⟩
    show Steps p.tables e below _ (((({ U with heap := s₂.heap, slotsUsed := s₂.slotsUsed } : State).setVm s₂.vm).setTop g).pushFrame (.throwing q))
    rw [← hs₂]
    exact hsteps
end Payer
section Calls
variable {p : Program} {l : Launch} {e : Env} {R : Room} {s : State} {m : MethodId} {args : Array Value} {below : List Frame} {meth : Method} {c : Code} {T : State} {locs : List Loc} {cells slots : Nat}
theorem vx_callV (X : Stand p l e R s m args below meth c T locs cells slots) (hexec : p.tables.exec = Jvm.exec) {own C : String} {index : Nat} {y : MethodName} {bytes : ByteArray} {maxL : Nat} {ret : Option FieldType}
    (hown : s.vm.findClass own = some m.cls) (hlink : (Cond.methodLink own index y).before args s = true) (hinst : (Cond.instanceMethod y).before args s = true) (hsel : (Cond.selects C y y).before args s = true)
    (hcode : (Cond.code y bytes maxL ret).before args s = true) (hy : y.cls ≠ "java/lang/invoke/MethodHandle" ∧ y.cls ≠ "java/lang/invoke/VarHandle")
    {W9 : Nat} {Pre : Pt → Array Value → Prop} {Post : Pt → Array Value → Option Value → Pt → Prop} {PostX : Pt → Array Value → Addr → Pt → Prop} (hK : vx_Back l R p e below s args y 3 W9 Pre Post PostX)
    {b : Addr} {cellB : Cell} (hcell : T.heap[b]? = some cellB) (hobj : cellB.vm.isStatics = false) (hcls : s.vm.findClass C = some cellB.cls)
    {g : JFrame} (hg : g.method = m) (hsize : g.locals.size = c.maxLocals) {argsL rest : List Value} (hlen : ∀ sig, parseMethodDescriptor y.desc = some sig → argsL.length = sig.parameters.length)
    (hstack : g.stack = argsL.reverse ++ .ref b :: rest) (hW : 2 * g.monitorRoom + (rest.map fun v => v.category).sum ≤ W9) (hdg : decode c.code g.pc = .ok (.invokevirtual index, 3))
    (hpre : ∀ vm₁, s.WarmedH vm₁ → Pre ⟨T.setVm vm₁, locs, cells, slots⟩ (Value.ref b :: argsL).toArray) :
    (∃ (v : Option Value) (vm₁ : Vm) (B : Pt), s.WarmedH vm₁ ∧ Stand p l e R s m args below meth c B.U B.locs B.cells B.slots ∧ Post ⟨T.setVm vm₁, locs, cells, slots⟩ (Value.ref b :: argsL).toArray v B ∧
      ∀ target, Steps p.tables e below (B.U.setTop { g with pc := g.pc + 3, stack := v.toList ++ rest }) target → Steps p.tables e below (T.setTop g) target) ∨
    (∃ (q : Addr) (vm₁ : Vm) (B : Pt), s.WarmedH vm₁ ∧ Stand p l e R s m args below meth c B.U B.locs B.cells B.slots ∧ PostX ⟨T.setVm vm₁, locs, cells, slots⟩ (Value.ref b :: argsL).toArray q B ∧
      Steps p.tables e below (T.setTop g) ((B.U.setTop { g with stack := rest }).pushFrame (.throwing q))) := by
  obtain ⟨mk, methM, hnamed, hmethM, hstM, habM⟩ := Cond.instanceMethod_spec hinst
  obtain ⟨methM', cM, hmethM', -, -, -, -, -, -, hsigM⟩ := Cond.code_spec hnamed hcode
  cases hmethM.symm.trans hmethM'
  obtain ⟨c2, r2, m2, q1, q2, q3, q4, kP, hkP, hkPi⟩ := Cond.selects_spec hsel
  cases hcls.symm.trans q1
  cases (State.methodFound?_of_named hnamed hy).symm.trans q2
  cases hnamed.symm.trans q3
  have hselP : selectMethod e.platform s.vm cellB.cls mk = .method mk := by rw [Launch.admits_selectMethod X.admits]; exact q4
  obtain ⟨vm₁, X₁, hstep₁⟩ := X.invokevirtual hexec hown hlink hnamed hmethM hstM hkP hkPi hy (a := b) (cell := cellB) hcell
    (fun z h => by rw [h] at hobj; cases hobj) hselP hmethM habM hkP hkPi (g := g) hg (argsL := argsL) (rest := rest) (hlen _ hsigM) hstack hdg
  rcases hK m meth c ⟨T.setVm vm₁, locs, cells, slots⟩ { g with stack := rest } (.invokevirtual index) mk (Value.ref b :: argsL).toArray X₁ hg hsize hdg hW (X₁.named hnamed) (hpre vm₁ X₁.warmed) with ⟨v, B, X', hpost, hsteps⟩ | ⟨q, B, X', hpost, hsteps⟩
  · exact Or.inl ⟨v, vm₁, B, X₁.warmed, X', hpost, fun target h => hstep₁ _ fun acts => by rw [doInvoke_state]; exact hsteps.trans h⟩
  · exact Or.inr ⟨q, vm₁, B, X₁.warmed, X', hpost, hstep₁ _ fun acts => by rw [doInvoke_state]; exact hsteps⟩
theorem vx_callS (X : Stand p l e R s m args below meth c T locs cells slots) (hexec : p.tables.exec = Jvm.exec) {own : String} {index : Nat} {y : MethodName} {bytes : ByteArray} {maxL : Nat} {ret : Option FieldType}
    (hown : s.vm.findClass own = some m.cls) (hlink : (Cond.methodLink own index y).before args s = true) (hstat : (Cond.static y).before args s = true) (hinit : (Cond.initialized y.cls).before args s = true)
    (hcode : (Cond.code y bytes maxL ret).before args s = true) (hy : y.cls ≠ "java/lang/invoke/MethodHandle" ∧ y.cls ≠ "java/lang/invoke/VarHandle")
    {W9 : Nat} {Pre : Pt → Array Value → Prop} {Post : Pt → Array Value → Option Value → Pt → Prop} {PostX : Pt → Array Value → Addr → Pt → Prop} (hK : vx_Back l R p e below s args y 3 W9 Pre Post PostX)
    {g : JFrame} (hg : g.method = m) (hsize : g.locals.size = c.maxLocals) {argsL rest : List Value} (hlen : ∀ sig, parseMethodDescriptor y.desc = some sig → argsL.length = sig.parameters.length)
    (hstack : g.stack = argsL.reverse ++ rest) (hW : 2 * g.monitorRoom + (rest.map fun v => v.category).sum ≤ W9) (hdg : decode c.code g.pc = .ok (.invokestatic index, 3))
    (hpre : ∀ vm₁, s.WarmedH vm₁ → Pre ⟨T.setVm vm₁, locs, cells, slots⟩ argsL.toArray) :
    (∃ (v : Option Value) (vm₁ : Vm) (B : Pt), s.WarmedH vm₁ ∧ Stand p l e R s m args below meth c B.U B.locs B.cells B.slots ∧ Post ⟨T.setVm vm₁, locs, cells, slots⟩ argsL.toArray v B ∧
      ∀ target, Steps p.tables e below (B.U.setTop { g with pc := g.pc + 3, stack := v.toList ++ rest }) target → Steps p.tables e below (T.setTop g) target) ∨
    (∃ (q : Addr) (vm₁ : Vm) (B : Pt), s.WarmedH vm₁ ∧ Stand p l e R s m args below meth c B.U B.locs B.cells B.slots ∧ PostX ⟨T.setVm vm₁, locs, cells, slots⟩ argsL.toArray q B ∧
      Steps p.tables e below (T.setTop g) ((B.U.setTop { g with stack := rest }).pushFrame (.throwing q))) := by
  obtain ⟨mk, hnamed⟩ := Cond.code_named hcode
  obtain ⟨methM, cM, hmethM, -, -, -, -, -, -, hsigM⟩ := Cond.code_spec hnamed hcode
  have hstatic : methM.isStatic = true := Cond.static_spec hnamed hmethM hstat
  obtain ⟨kP, hkP, -⟩ := className_of_methodNamed hnamed
  have hinitP : kP.init = .initialized := Cond.initialized_spec (findClass_of_methodNamed hnamed) hkP hinit
  obtain ⟨vm₁, X₁, hstep₁⟩ := X.invokestatic hexec hown hlink hnamed hmethM hstatic hkP hinitP hy (g := g) hg (argsL := argsL) (rest := rest) (hlen _ hsigM) hstack hdg
  rcases hK m meth c ⟨T.setVm vm₁, locs, cells, slots⟩ { g with stack := rest } (.invokestatic index) mk argsL.toArray X₁ hg hsize hdg hW (X₁.named hnamed) (hpre vm₁ X₁.warmed) with ⟨v, B, X', hpost, hsteps⟩ | ⟨q, B, X', hpost, hsteps⟩
  · exact Or.inl ⟨v, vm₁, B, X₁.warmed, X', hpost, fun target h => hstep₁ _ fun acts => by rw [doInvoke_state]; exact hsteps.trans h⟩
  · exact Or.inr ⟨q, vm₁, B, X₁.warmed, X', hpost, hstep₁ _ fun acts => by rw [doInvoke_state]; exact hsteps⟩
end Calls
theorem vx_cls {s : State} {T : State} {vm₁ : Vm} {E : String} {k : ClassId} (hW : s.WarmedH vm₁) (h : (T.setVm vm₁).vm.findClass E = some k) : s.vm.findClass E = some k := by
  have h1 : vm₁.findClass E = some k := h
  rw [hW.alike.findClass] at h1
  exact h1
/-- the method's frame g, with q thrown over it -/
def vx_W (p : Program) (l : Launch) (e : Env) (R : Room) (s : State) (m : MethodId) (args : Array Value) (below : List Frame) (meth : Method) (c : Code) (H : Heap) (locs : List Loc) (cells slots : Nat) (Q : State → Prop) (g : JFrame) (q : Addr) : Prop :=
  ∀ T : State, T.heap = H → Stand p l e R s m args below meth c T locs cells slots → ∃ t, Steps p.tables e below ((T.setTop g).pushFrame (.throwing q)) t ∧ Q t
def vx_Run (p : Program) (l : Launch) (e : Env) (R : Room) (s : State) (m : MethodId) (args : Array Value) (below : List Frame) (meth : Method) (c : Code) (H : Heap) (locs : List Loc) (cells slots mc ms : Nat) (g : JFrame) (rest : List Value) (Qa : State → Outcome → State → Prop) (XC : String → State → State → Prop) (free : Addr → Prop) : Prop :=
  ∀ T : State, T.heap = H → Stand p l e R s m args below meth c T locs cells slots →
    (∃ (v : Option Value) (st₀ t T' : State) (L : List Loc), st₀.heap = H ∧ Stand p l e R s m args below meth c T' (locs ++ L) (cells + mc) (slots + ms) ∧ (∀ q ∈ L, free q.base) ∧ T'.heap = t.heap ∧ T'.vm = t.vm ∧ Qa st₀ (.returned v) t ∧
      Goes p e below T g T' { g with pc := g.pc + 3, stack := v.toList ++ rest }) ∨
    (∃ (q : Addr) (st₀ t T' : State) (L : List Loc) (E : String) (ce : Cell), st₀.heap = H ∧ Stand p l e R s m args below meth c T' (locs ++ L) (cells + mc) (slots + ms) ∧ (∀ z ∈ L, free z.base) ∧ T'.heap = t.heap ∧ T'.vm = t.vm ∧ XC E st₀ t ∧ t.heap[q]? = some ce ∧ ce.vm = .none ∧ s.vm.findClass E = some ce.cls ∧
      Steps p.tables e below (T.setTop g) ((T'.setTop { g with stack := rest }).pushFrame (.throwing q)))
def vx_X {S : Type} (px : S → Prop) (B : String → S → State → Prop) (A : Nat → Prop) : String → State → State → Prop := fun E st t => ∃ u : S, px u ∧ B E u t ∧ va_F A st t
section Runs
variable {p : Program} {l : Launch} {e : Env} {R : Room} {s : State} {m : MethodId} {args : Array Value} {below : List Frame} {meth : Method} {c : Code} {H : Heap} {locs : List Loc} {cells slots : Nat}
variable {y : MethodName} {bytes cc : ByteArray} {maxL nL mc ms n index : Nat} {ret : Option FieldType} {ws : List Cond} {rm : Room} {Pc : Array Value → State → Prop} {Qc : Array Value → State → Outcome → State → Prop} {XC : String → State → State → Prop} {free : Addr → Prop} {Ts : List Cond} {own C : String} {b : Addr} {As rest : List Value} {g : JFrame}
theorem vx_callBack (cb : CallB R s args own index y bytes maxL ret ws rm mc ms n) (hM : vx_Met l y ws rm Pc Qc XC mc ms free) (hbl : FrameBlind Pc) : vx_Back l R p e below s args y 3 8 (PreOf R mc ms Pc) (PostOf Qc mc ms free) (vx_Post XC mc ms free) := by
  obtain ⟨hrc, hrs, hfr, hlo, hws, hcw, -, hini, -⟩ := cb
  exact vx_back (bytes := bytes) (maxL := maxL) (ret := ret) hM hbl hrc hrs hfr hlo hws hcw (fun a' U hW => word_at hW (Or.inl (by first | rfl | simp [Cond.onTables, Cond.keeps, Cond.steady])) hini)
theorem vx_runV (S : CallFix p m c cc nL s args Ts own) (hM : vx_Met l y ws rm Pc Qc XC mc ms free) (cw : CallW R s args own C index y bytes maxL ret ws rm mc ms n) (hp : PreV s H C b Pc As)
    (hg : g.method = m) (hn : As.length = n) (hsize : g.locals.size = nL) (hstack : g.stack = As.reverse ++ .ref b :: rest) (hW : 2 * g.monitorRoom + (rest.map fun v => v.category).sum ≤ 8) (hdg : decode cc g.pc = .ok (.invokevirtual index, 3)) (hf : cells + mc ≤ R.cells ∧ slots + ms ≤ R.slots) :
    vx_Run p l e R s m args below meth c H locs cells slots mc ms g rest (Qc (Value.ref b :: As).toArray) XC free := by
  have hK : vx_Back l R p e below s args y 3 8 (PreOf R mc ms Pc) (PostOf Qc mc ms free) (vx_Post XC mc ms free) := vx_callBack cw.1 hM hp.1
  obtain ⟨⟨-, -, -, -, -, -, hcode, -, hy, hlen, hl⟩, hin, hse⟩ := cw
  obtain ⟨hx, hb, hml, ho, -⟩ := S
  obtain ⟨-, ⟨cellB, hcB, hoB, hclB⟩, hPc⟩ := hp
  intro T hT X
  rcases vx_callV X hx (C := C) (bytes := bytes) (maxL := maxL) (ret := ret) ho hl hin hse hcode hy hK (by rw [hT]; exact hcB) hoB hclB hg (hsize.trans hml.symm) (argsL := As) (rest := rest) (fun sig h => hn.trans (hlen sig h)) hstack hW (by rw [hb]; exact hdg)
    (fun vm₁ hW₁ => ⟨hf.1, hf.2, hPc (T.setVm vm₁) hT hW₁⟩) with ⟨v, vm₁, ⟨U', l2, c2, s2⟩, hW₁, X', ⟨g', mk, t, L, e1, e2, hq, h1, hL, h2, h3⟩, st⟩ | ⟨q, vm₁, ⟨U', l2, c2, s2⟩, hW₁, X', ⟨g', mk, t, L, E, ce, e1, e2, hq, hce, hcv, hcl, h1, hL, h2, h3⟩, st⟩
  · dsimp only [Pt.U, Pt.locs, Pt.cells, Pt.slots] at X' e1 e2 h1 h2 h3 st
    subst h1; subst h2; subst h3
    exact Or.inl ⟨v, (T.setVm vm₁).calling g' mk (Value.ref b :: As).toArray, t, U', L, hT, X', hL, e1, e2, hq, st⟩
  · dsimp only [Pt.U, Pt.locs, Pt.cells, Pt.slots] at X' e1 e2 h1 h2 h3 st hcl
    subst h1; subst h2; subst h3
    exact Or.inr ⟨q, (T.setVm vm₁).calling g' mk (Value.ref b :: As).toArray, t, U', L, E, ce, hT, X', hL, e1, e2, hq, hce, hcv, vx_cls hW₁ hcl, st⟩
theorem vx_runS (S : CallFix p m c cc nL s args Ts own) (hM : vx_Met l y ws rm Pc Qc XC mc ms free) (cw : CallB R s args own index y bytes maxL ret ws rm mc ms n ∧ (Cond.static y).before args s = true) (hp : PreS s H Pc As)
    (hg : g.method = m) (hn : As.length = n) (hsize : g.locals.size = nL) (hstack : g.stack = As.reverse ++ rest) (hW : 2 * g.monitorRoom + (rest.map fun v => v.category).sum ≤ 8) (hdg : decode cc g.pc = .ok (.invokestatic index, 3)) (hf : cells + mc ≤ R.cells ∧ slots + ms ≤ R.slots) :
    vx_Run p l e R s m args below meth c H locs cells slots mc ms g rest (Qc As.toArray) XC free := by
  have hK : vx_Back l R p e below s args y 3 8 (PreOf R mc ms Pc) (PostOf Qc mc ms free) (vx_Post XC mc ms free) := vx_callBack cw.1 hM hp.1
  obtain ⟨⟨-, -, -, -, -, -, hcode, hini, hy, hlen, hl⟩, hstt⟩ := cw
  obtain ⟨hx, hb, hml, ho, -⟩ := S
  intro T hT X
  rcases vx_callS X hx (bytes := bytes) (maxL := maxL) (ret := ret) ho hl hstt hini hcode hy hK hg (hsize.trans hml.symm) (argsL := As) (rest := rest) (fun sig h => hn.trans (hlen sig h)) hstack hW (by rw [hb]; exact hdg)
    (fun vm₁ hW₁ => ⟨hf.1, hf.2, hp.2 (T.setVm vm₁) hT hW₁⟩) with ⟨v, vm₁, ⟨U', l2, c2, s2⟩, hW₁, X', ⟨g', mk, t, L, e1, e2, hq, h1, hL, h2, h3⟩, st⟩ | ⟨q, vm₁, ⟨U', l2, c2, s2⟩, hW₁, X', ⟨g', mk, t, L, E, ce, e1, e2, hq, hce, hcv, hcl, h1, hL, h2, h3⟩, st⟩
  · dsimp only [Pt.U, Pt.locs, Pt.cells, Pt.slots] at X' e1 e2 h1 h2 h3 st
    subst h1; subst h2; subst h3
    exact Or.inl ⟨v, (T.setVm vm₁).calling g' mk As.toArray, t, U', L, hT, X', hL, e1, e2, hq, st⟩
  · dsimp only [Pt.U, Pt.locs, Pt.cells, Pt.slots] at X' e1 e2 h1 h2 h3 st hcl
    subst h1; subst h2; subst h3
    exact Or.inr ⟨q, (T.setVm vm₁).calling g' mk As.toArray, t, U', L, E, ce, hT, X', hL, e1, e2, hq, hce, hcv, vx_cls hW₁ hcl, st⟩
end Runs
section Rows
variable {p : Program} {l : Launch} {e : Env} {R : Room} {s : State} {m : MethodId} {args : Array Value} {below : List Frame} {meth : Method} {c : Code} {H : Heap} {locs : List Loc} {cells slots : Nat} {Q : State → Prop}
variable {mc ms : Nat} {free : Addr → Prop} {A0 A1 : Nat → Prop} {H0 : Heap} {a : Array Value} {pc : Nat} {ls : Array Slot} {st0 rest : List Value}
theorem vx_keep {st₀ t T' : State} {L : List Loc} (h0 : st₀.heap = H) (e1 : T'.heap = t.heap) (hS : va_S A0 H0 H locs) (hA : ∀ q, q < H.size → A1 q → A0 q) (hf : ∀ q, free q → A0 q) (hL : ∀ q ∈ L, free q.base) (hF : va_F A1 st₀ t) :
    H.size ≤ T'.heap.size ∧ (∀ q : Nat, q < H.size → ¬ A1 q → T'.heap[q]? = H[q]?) ∧ va_S A0 H0 T'.heap (locs ++ L) := by
  obtain ⟨hz, hk⟩ := hF
  rw [h0] at hz hk
  exact ⟨by rw [e1]; exact hz, fun q h1 h2 => by rw [e1]; exact hk q h1 h2,
    ⟨Nat.le_trans hS.1 (by rw [e1]; exact hz), fun q h1 h2 => by rw [e1, hk q (Nat.lt_of_lt_of_le h1 hS.1) (fun z => h2 (hA q (Nat.lt_of_lt_of_le h1 hS.1) z))]; exact hS.2.1 q h1 h2, fun q hq => by
      rcases List.mem_append.mp hq with h | h
      · exact hS.2.2 q h
      · exact hf _ (hL q h)⟩⟩
theorem vx_calli {S SX : Type} {post : Int32 → S → Prop} {px : SX → Prop} {B : S → State → Prop} {BX : String → SX → State → Prop} {AX : Nat → Prop} (hr : vx_Run p l e R s m args below meth c H locs cells slots mc ms (F0 m pc ls st0) rest (va_Qi post B A1 a) (vx_X px BX AX) free) (hS : va_S A0 H0 H locs) (hA : ∀ q, q < H.size → A1 q → A0 q) (hf : ∀ q, free q → A0 q) (hAX : ∀ q, q < H.size → AX q → A0 q)
    (kx : ∀ (E : String) (ce : Cell) (q9 : Addr) (u : SX) (t : State) (H1 : Heap) (locs1 : List Loc), t.heap = H1 → s.vm.Alike t.vm → px u → BX E u t → H.size ≤ H1.size → (∀ q : Nat, q < H.size → ¬ AX q → H1[q]? = H[q]?) → va_S A0 H0 H1 locs1 → H1[q9]? = some ce → ce.vm = .none → s.vm.findClass E = some ce.cls → vx_W p l e R s m args below meth c H1 locs1 (cells + mc) (slots + ms) Q (F0 m pc ls rest) q9)
    (kk : ∀ (r : Int32) (u : S) (t : State) (H1 : Heap) (locs1 : List Loc), t.heap = H1 → s.vm.Alike t.vm → post r u → B u t → H.size ≤ H1.size → (∀ q : Nat, q < H.size → ¬ A1 q → H1[q]? = H[q]?) → va_S A0 H0 H1 locs1 → W p l e R s m args below meth c H1 locs1 (cells + mc) (slots + ms) Q (F0 m (pc + 3) ls (.int r :: rest))) : W p l e R s m args below meth c H locs cells slots Q (F0 m pc ls st0) := by
  intro T hT X
  rcases hr T hT X with ⟨v, st₀, t, T', L, h0, X', hL, e1, e2, ⟨⟨r, u, hv, hp, hb⟩, hF⟩, st⟩ | ⟨q, st₀, t, T', L, E, ce, h0, X', hL, e1, e2, ⟨u, hp, hb, hF⟩, hce, hcv, hcl, st⟩
  · cases hv
    obtain ⟨k1, k2, k3⟩ := vx_keep h0 e1 hS hA hf hL hF
    obtain ⟨t2, a1, b1⟩ := kk r u t T'.heap (locs ++ L) e1.symm (by rw [← e2]; exact X'.warmed.alike) hp hb k1 k2 k3 T' rfl X'
    exact ⟨t2, st t2 a1, b1⟩
  · obtain ⟨k1, k2, k3⟩ := vx_keep h0 e1 hS hAX hf hL hF
    obtain ⟨t2, a1, b1⟩ := kx E ce q u t T'.heap (locs ++ L) e1.symm (by rw [← e2]; exact X'.warmed.alike) hp hb k1 k2 k3 (by rw [e1]; exact hce) hcv hcl T' rfl X'
    exact ⟨t2, st.trans a1, b1⟩
theorem vx_calll {S SX : Type} {post : Int64 → S → Prop} {px : SX → Prop} {B : S → State → Prop} {BX : String → SX → State → Prop} {AX : Nat → Prop} (hr : vx_Run p l e R s m args below meth c H locs cells slots mc ms (F0 m pc ls st0) rest (va_Ql post B A1 a) (vx_X px BX AX) free) (hS : va_S A0 H0 H locs) (hA : ∀ q, q < H.size → A1 q → A0 q) (hf : ∀ q, free q → A0 q) (hAX : ∀ q, q < H.size → AX q → A0 q)
    (kx : ∀ (E : String) (ce : Cell) (q9 : Addr) (u : SX) (t : State) (H1 : Heap) (locs1 : List Loc), t.heap = H1 → s.vm.Alike t.vm → px u → BX E u t → H.size ≤ H1.size → (∀ q : Nat, q < H.size → ¬ AX q → H1[q]? = H[q]?) → va_S A0 H0 H1 locs1 → H1[q9]? = some ce → ce.vm = .none → s.vm.findClass E = some ce.cls → vx_W p l e R s m args below meth c H1 locs1 (cells + mc) (slots + ms) Q (F0 m pc ls rest) q9)
    (kk : ∀ (r : Int64) (u : S) (t : State) (H1 : Heap) (locs1 : List Loc), t.heap = H1 → s.vm.Alike t.vm → post r u → B u t → H.size ≤ H1.size → (∀ q : Nat, q < H.size → ¬ A1 q → H1[q]? = H[q]?) → va_S A0 H0 H1 locs1 → W p l e R s m args below meth c H1 locs1 (cells + mc) (slots + ms) Q (F0 m (pc + 3) ls (.long r :: rest))) : W p l e R s m args below meth c H locs cells slots Q (F0 m pc ls st0) := by
  intro T hT X
  rcases hr T hT X with ⟨v, st₀, t, T', L, h0, X', hL, e1, e2, ⟨⟨r, u, hv, hp, hb⟩, hF⟩, st⟩ | ⟨q, st₀, t, T', L, E, ce, h0, X', hL, e1, e2, ⟨u, hp, hb, hF⟩, hce, hcv, hcl, st⟩
  · cases hv
    obtain ⟨k1, k2, k3⟩ := vx_keep h0 e1 hS hA hf hL hF
    obtain ⟨t2, a1, b1⟩ := kk r u t T'.heap (locs ++ L) e1.symm (by rw [← e2]; exact X'.warmed.alike) hp hb k1 k2 k3 T' rfl X'
    exact ⟨t2, st t2 a1, b1⟩
  · obtain ⟨k1, k2, k3⟩ := vx_keep h0 e1 hS hAX hf hL hF
    obtain ⟨t2, a1, b1⟩ := kx E ce q u t T'.heap (locs ++ L) e1.symm (by rw [← e2]; exact X'.warmed.alike) hp hb k1 k2 k3 (by rw [e1]; exact hce) hcv hcl T' rfl X'
    exact ⟨t2, st.trans a1, b1⟩
theorem vx_callf {S SX : Type} {post : UInt32 → S → Prop} {px : SX → Prop} {B : S → State → Prop} {BX : String → SX → State → Prop} {AX : Nat → Prop} (hr : vx_Run p l e R s m args below meth c H locs cells slots mc ms (F0 m pc ls st0) rest (va_Qf post B A1 a) (vx_X px BX AX) free) (hS : va_S A0 H0 H locs) (hA : ∀ q, q < H.size → A1 q → A0 q) (hf : ∀ q, free q → A0 q) (hAX : ∀ q, q < H.size → AX q → A0 q)
    (kx : ∀ (E : String) (ce : Cell) (q9 : Addr) (u : SX) (t : State) (H1 : Heap) (locs1 : List Loc), t.heap = H1 → s.vm.Alike t.vm → px u → BX E u t → H.size ≤ H1.size → (∀ q : Nat, q < H.size → ¬ AX q → H1[q]? = H[q]?) → va_S A0 H0 H1 locs1 → H1[q9]? = some ce → ce.vm = .none → s.vm.findClass E = some ce.cls → vx_W p l e R s m args below meth c H1 locs1 (cells + mc) (slots + ms) Q (F0 m pc ls rest) q9)
    (kk : ∀ (r : UInt32) (u : S) (t : State) (H1 : Heap) (locs1 : List Loc), t.heap = H1 → s.vm.Alike t.vm → post r u → B u t → H.size ≤ H1.size → (∀ q : Nat, q < H.size → ¬ A1 q → H1[q]? = H[q]?) → va_S A0 H0 H1 locs1 → W p l e R s m args below meth c H1 locs1 (cells + mc) (slots + ms) Q (F0 m (pc + 3) ls (.float r :: rest))) : W p l e R s m args below meth c H locs cells slots Q (F0 m pc ls st0) := by
  intro T hT X
  rcases hr T hT X with ⟨v, st₀, t, T', L, h0, X', hL, e1, e2, ⟨⟨r, u, hv, hp, hb⟩, hF⟩, st⟩ | ⟨q, st₀, t, T', L, E, ce, h0, X', hL, e1, e2, ⟨u, hp, hb, hF⟩, hce, hcv, hcl, st⟩
  · cases hv
    obtain ⟨k1, k2, k3⟩ := vx_keep h0 e1 hS hA hf hL hF
    obtain ⟨t2, a1, b1⟩ := kk r u t T'.heap (locs ++ L) e1.symm (by rw [← e2]; exact X'.warmed.alike) hp hb k1 k2 k3 T' rfl X'
    exact ⟨t2, st t2 a1, b1⟩
  · obtain ⟨k1, k2, k3⟩ := vx_keep h0 e1 hS hAX hf hL hF
    obtain ⟨t2, a1, b1⟩ := kx E ce q u t T'.heap (locs ++ L) e1.symm (by rw [← e2]; exact X'.warmed.alike) hp hb k1 k2 k3 (by rw [e1]; exact hce) hcv hcl T' rfl X'
    exact ⟨t2, st.trans a1, b1⟩
theorem vx_calld {S SX : Type} {post : UInt64 → S → Prop} {px : SX → Prop} {B : S → State → Prop} {BX : String → SX → State → Prop} {AX : Nat → Prop} (hr : vx_Run p l e R s m args below meth c H locs cells slots mc ms (F0 m pc ls st0) rest (va_Qd post B A1 a) (vx_X px BX AX) free) (hS : va_S A0 H0 H locs) (hA : ∀ q, q < H.size → A1 q → A0 q) (hf : ∀ q, free q → A0 q) (hAX : ∀ q, q < H.size → AX q → A0 q)
    (kx : ∀ (E : String) (ce : Cell) (q9 : Addr) (u : SX) (t : State) (H1 : Heap) (locs1 : List Loc), t.heap = H1 → s.vm.Alike t.vm → px u → BX E u t → H.size ≤ H1.size → (∀ q : Nat, q < H.size → ¬ AX q → H1[q]? = H[q]?) → va_S A0 H0 H1 locs1 → H1[q9]? = some ce → ce.vm = .none → s.vm.findClass E = some ce.cls → vx_W p l e R s m args below meth c H1 locs1 (cells + mc) (slots + ms) Q (F0 m pc ls rest) q9)
    (kk : ∀ (r : UInt64) (u : S) (t : State) (H1 : Heap) (locs1 : List Loc), t.heap = H1 → s.vm.Alike t.vm → post r u → B u t → H.size ≤ H1.size → (∀ q : Nat, q < H.size → ¬ A1 q → H1[q]? = H[q]?) → va_S A0 H0 H1 locs1 → W p l e R s m args below meth c H1 locs1 (cells + mc) (slots + ms) Q (F0 m (pc + 3) ls (.double r :: rest))) : W p l e R s m args below meth c H locs cells slots Q (F0 m pc ls st0) := by
  intro T hT X
  rcases hr T hT X with ⟨v, st₀, t, T', L, h0, X', hL, e1, e2, ⟨⟨r, u, hv, hp, hb⟩, hF⟩, st⟩ | ⟨q, st₀, t, T', L, E, ce, h0, X', hL, e1, e2, ⟨u, hp, hb, hF⟩, hce, hcv, hcl, st⟩
  · cases hv
    obtain ⟨k1, k2, k3⟩ := vx_keep h0 e1 hS hA hf hL hF
    obtain ⟨t2, a1, b1⟩ := kk r u t T'.heap (locs ++ L) e1.symm (by rw [← e2]; exact X'.warmed.alike) hp hb k1 k2 k3 T' rfl X'
    exact ⟨t2, st t2 a1, b1⟩
  · obtain ⟨k1, k2, k3⟩ := vx_keep h0 e1 hS hAX hf hL hF
    obtain ⟨t2, a1, b1⟩ := kx E ce q u t T'.heap (locs ++ L) e1.symm (by rw [← e2]; exact X'.warmed.alike) hp hb k1 k2 k3 (by rw [e1]; exact hce) hcv hcl T' rfl X'
    exact ⟨t2, st.trans a1, b1⟩
theorem vx_callv {S SX : Type} {post : S → Prop} {px : SX → Prop} {B : S → State → Prop} {BX : String → SX → State → Prop} {AX : Nat → Prop} (hr : vx_Run p l e R s m args below meth c H locs cells slots mc ms (F0 m pc ls st0) rest (va_Qv post B A1 a) (vx_X px BX AX) free) (hS : va_S A0 H0 H locs) (hA : ∀ q, q < H.size → A1 q → A0 q) (hf : ∀ q, free q → A0 q) (hAX : ∀ q, q < H.size → AX q → A0 q)
    (kx : ∀ (E : String) (ce : Cell) (q9 : Addr) (u : SX) (t : State) (H1 : Heap) (locs1 : List Loc), t.heap = H1 → s.vm.Alike t.vm → px u → BX E u t → H.size ≤ H1.size → (∀ q : Nat, q < H.size → ¬ AX q → H1[q]? = H[q]?) → va_S A0 H0 H1 locs1 → H1[q9]? = some ce → ce.vm = .none → s.vm.findClass E = some ce.cls → vx_W p l e R s m args below meth c H1 locs1 (cells + mc) (slots + ms) Q (F0 m pc ls rest) q9)
    (kk : ∀ (u : S) (t : State) (H1 : Heap) (locs1 : List Loc), t.heap = H1 → s.vm.Alike t.vm → post u → B u t → H.size ≤ H1.size → (∀ q : Nat, q < H.size → ¬ A1 q → H1[q]? = H[q]?) → va_S A0 H0 H1 locs1 → W p l e R s m args below meth c H1 locs1 (cells + mc) (slots + ms) Q (F0 m (pc + 3) ls (rest))) : W p l e R s m args below meth c H locs cells slots Q (F0 m pc ls st0) := by
  intro T hT X
  rcases hr T hT X with ⟨v, st₀, t, T', L, h0, X', hL, e1, e2, ⟨⟨u, hv, hp, hb⟩, hF⟩, st⟩ | ⟨q, st₀, t, T', L, E, ce, h0, X', hL, e1, e2, ⟨u, hp, hb, hF⟩, hce, hcv, hcl, st⟩
  · cases hv
    obtain ⟨k1, k2, k3⟩ := vx_keep h0 e1 hS hA hf hL hF
    obtain ⟨t2, a1, b1⟩ := kk u t T'.heap (locs ++ L) e1.symm (by rw [← e2]; exact X'.warmed.alike) hp hb k1 k2 k3 T' rfl X'
    exact ⟨t2, st t2 a1, b1⟩
  · obtain ⟨k1, k2, k3⟩ := vx_keep h0 e1 hS hAX hf hL hF
    obtain ⟨t2, a1, b1⟩ := kx E ce q u t T'.heap (locs ++ L) e1.symm (by rw [← e2]; exact X'.warmed.alike) hp hb k1 k2 k3 (by rw [e1]; exact hce) hcv hcl T' rfl X'
    exact ⟨t2, st.trans a1, b1⟩
/-- caught by the row x of this method's table; the rows ahead don't take it -/
theorem vx_catch {own name : String} {E : String} {ce : Cell} {q : Addr} (hown : s.vm.findClass own = some m.cls) (pre : List ExceptionTableEntry) (x : ExceptionTableEntry) (suf : List ExceptionTableEntry) (hsplit : c.exceptionTable.toList = pre ++ x :: suf)
    (hpass : ∀ z ∈ pre, covers z pc = false ∨ (z.catchType ≠ 0 ∧ ∃ nm : String, (Cond.classLink own z.catchType nm).before args s = true ∧ va_Nc E nm s)) (hx : covers x pc = true) (h0 : x.catchType ≠ 0)
    (hlink : (Cond.classLink own x.catchType name).before args s = true) (hcast : (Cond.castable E name).before args s = true) (hcell : H[q]? = some ce) (hv : ce.vm = .none) (hcl : s.vm.findClass E = some ce.cls)
    (kk : W p l e R s m args below meth c H locs cells slots Q (F0 m x.handlerPc ls [.ref q])) : vx_W p l e R s m args below meth c H locs cells slots Q (F0 m pc ls rest) q := by
  intro T hT X
  have hpl : e.platform.magicAccessors = ({} : Platform).magicAccessors := by rw [X.admits.platform]
  obtain ⟨c3, c4, hc3, hc4, hasg⟩ := Cond.castable_spec hcast
  cases Option.some.inj (hc3.symm.trans hcl)
  obtain ⟨c5, hc5, hcl5⟩ := Cond.classLink_spec hown hlink e.platform hpl
  cases Option.some.inj (hc4.symm.trans hc5)
  obtain ⟨vm', X', st⟩ := X.thenCaughtThrough q (g := F0 m pc ls rest) rfl (Steps.refl _) (by rw [hT]; exact hcell) (by rw [hv]; rfl) (by obtain ⟨k9, h9, -⟩ := Vm.findClass_spec hcl; exact ⟨k9, h9⟩) pre x suf hsplit
    (fun z hz => by
      rcases hpass z hz with h | ⟨hz0, nm, hl1, hn1⟩
      · exact Or.inl h
      · obtain ⟨c6, hc6, hcl6⟩ := Cond.classLink_spec hown hl1 e.platform hpl
        obtain ⟨a8, b8, h1, h2, h3⟩ := hn1
        cases Option.some.inj (h1.symm.trans hcl)
        cases Option.some.inj (h2.symm.trans hc6)
        exact Or.inr ⟨hz0, _, hcl6, h3⟩) hx (Or.inr ⟨h0, c4, hcl5, hasg⟩)
  obtain ⟨t, a1, b1⟩ := kk (T.setVm vm') hT X'
  exact ⟨t, st.trans a1, b1⟩
end Rows
section Ends
variable {p : Program} {l : Launch} {e : Env} {R : Room} {s : State} {m : MethodId} {args : Array Value} {below : List Frame} {meth : Method} {c : Code} {H : Heap} {locs : List Loc} {cells slots : Nat} {Q : State → Prop}
variable {mc ms : Nat} {free : Addr → Prop} {A0 A1 : Nat → Prop} {H0 : Heap} {a : Array Value} {ls : Array Slot} {st0 rest : List Value}
variable {Qc : Array Value → State → Outcome → State → Prop} {XC : String → State → State → Prop}
/-- what a body that may throw owes at its end -/
def vx_MQ (below : List Frame) (Qc : Array Value → State → Outcome → State → Prop) (XC : String → State → State → Prop) (a : Array Value) (s : State) (mc ms : Nat) (free : Addr → Prop) : State → Prop := fun t =>
  ∃ o, t.status = .running ∧ Ended t below o ∧ vx_Q Qc XC mc ms free a s o t
theorem vx_ret {g : JFrame} {mc ms : Nat} (k : W p l e R s m args below meth c H locs cells slots (MQ below Qc args s mc ms free) g) : W p l e R s m args below meth c H locs cells slots (vx_MQ below Qc XC args s mc ms free) g := by
  intro T hT X
  obtain ⟨t, a1, o, b1, b2, b3, b4⟩ := k T hT X
  exact ⟨t, a1, o, b1, b2, Or.inl ⟨b3, b4⟩⟩
/-- not caught here: it goes on to the caller -/
theorem vx_widen {g : JFrame} {q : Addr} {k n : Nat} (h1 : cells ≤ k) (h2 : slots ≤ n) (kk : vx_W p l e R s m args below meth c H locs k n Q g q) : vx_W p l e R s m args below meth c H locs cells slots Q g q := fun T hT X => kk T hT (stand_widen X h1 h2)
theorem vx_out {pc : Nat} {E : String} {ce : Cell} {q : Addr} {mc ms : Nat} (hout : ∀ x ∈ c.exceptionTable.toList, covers x pc = false) (hlocks : meth.locks = false) (hcell : H[q]? = some ce) (hv : ce.vm = .none) (hcl : s.vm.findClass E = some ce.cls)
    (hx : ∀ t : State, t.heap = H → s.vm.Alike t.vm → XC E s t) (hf : ∀ z ∈ locs, free z.base) (hc : cells ≤ mc) (hs : slots ≤ ms) :
    vx_W p l e R s m args below meth c H locs cells slots (vx_MQ below Qc XC args s mc ms free) (F0 m pc ls rest) q := by
  intro T hT X
  obtain ⟨st1, hrun, hend, hW, hsm⟩ := X.leaveThrown q (g := F0 m pc ls rest) rfl rfl rfl hout hlocks
  have hcell9 : (T.setFrames (.throwing q :: below)).heap[q]? = some ce := by
    show T.heap[q]? = some ce
    rw [hT]; exact hcell
  exact ⟨_, st1, .threw q, hrun, hend, Or.inr ⟨q, rfl, E, ce, locs, hx _ hT hW.alike, hcell9, hv, hcl, hW, hsm.mono hc hs, hf⟩⟩
theorem vx_frame {U : State} {k n : Nat} (h : s.sameButNew ({ U with vm := s.vm } : State) locs k n) : s.heap.size ≤ U.heap.size ∧ ∀ q : Nat, q < s.heap.size → (∀ z ∈ locs, z.base ≠ q) → U.heap[q]? = s.heap[q]? := by
  obtain ⟨-, h2, -, -, -, h6⟩ := h
  refine ⟨h2, fun q hq hz => ?_⟩
  obtain ⟨c9, e1, e2, e3, e4⟩ := h6 q _ (Array.getElem?_eq_getElem hq)
  have hs : c9.slots = (s.heap[q]).slots := Array.ext_getElem? fun i => e4 i fun hm => hz _ hm rfl
  have h9 : c9 = s.heap[q] := by
    rw [hs] at e2
    exact e2
  have e5 : U.heap[q]? = some c9 := e1
  rw [e5, h9, Array.getElem?_eq_getElem hq]
/-- the words of a throw but the four that speak of the heap -/
def vx_no (w : Cond) : Bool := decide (w ≠ .isRef (.static Bundle.tN "UNASSIGNED_STACK" Bundle.steD)) && decide (w ≠ .isRef (.static Bundle.tN "SUPPRESSED_SENTINEL" Bundle.listD)) && decide (w ≠ .laysStatic Bundle.tN "UNASSIGNED_STACK" Bundle.steD) && decide (w ≠ .laysStatic Bundle.tN "SUPPRESSED_SENTINEL" Bundle.listD)
def vx_at0 (own : String) (ic : Nat) (X : String) (names : List String) : List Cond := (Bundle.ownAtoms0 own ic X names).filter vx_no
def vx_atS (own : String) (ic : Nat) (X : String) (names : List String) : List Cond := (Bundle.ownAtoms own ic X names).filter vx_no
/-- a word that the tables alone decide, or a good one -/
def vx_ot (w : Cond) : Bool := w.onTables || goodWord w
theorem vx_ot_at {args a' : Array Value} {s U : State} {w : Cond} (hW : s.WarmedH U.vm) (hvm : s.vm = U.vm) (hg : vx_ot w = true) (h : w.before args s = true) : w.before a' U = true := by
  simp only [vx_ot, Bool.or_eq_true] at hg
  rcases hg with hg | hg
  · exact va_tabs hg hvm h
  · exact word_at hW (good_of_word hg) h
/-- a list's words: the good ones out of the method's own list, the others by premises of their own -/
theorem vx_hat {args : Array Value} {s : State} {L B : List Cond} (h1 : ∀ w ∈ L.filter goodWord, w.before args s = true) (h2 : ∀ w ∈ L.filter (fun w => !goodWord w), w ∈ B) (h3 : ∀ w ∈ B, w.before args s = true) : ∀ w ∈ L, w.before args s = true := by
  intro w hw
  by_cases g : goodWord w = true
  · exact h1 w (List.mem_filter.mpr ⟨hw, g⟩)
  · refine h3 w (h2 w (List.mem_filter.mpr ⟨hw, ?_⟩))
    show (!goodWord w) = true
    cases hgw : goodWord w
    · rfl
    · exact absurd hgw g
theorem vx_c {args : Array Value} {s : State} {w : Cond} {B : List Cond} (h : w.before args s = true) (t : ∀ w ∈ B, w.before args s = true) : ∀ w' ∈ w :: B, w'.before args s = true := fun w' h' => (List.mem_cons.mp h').elim (fun e => by rw [e]; exact h) (t w')
theorem vx_n {args : Array Value} {s : State} : ∀ w ∈ ([] : List Cond), w.before args s = true := fun _ h => nomatch h
theorem vx_own {args : Array Value} {s : State} {L : List Cond} (h1 : ∀ w ∈ L.filter vx_no, w.before args s = true)
    (hU : (Cond.isRef (.static Bundle.tN "UNASSIGNED_STACK" Bundle.steD)).before args s = true) (hN : (Cond.isRef (.static Bundle.tN "SUPPRESSED_SENTINEL" Bundle.listD)).before args s = true)
    (lU : (Cond.laysStatic Bundle.tN "UNASSIGNED_STACK" Bundle.steD).before args s = true) (lN : (Cond.laysStatic Bundle.tN "SUPPRESSED_SENTINEL" Bundle.listD).before args s = true) : ∀ w ∈ L, w.before args s = true := by
  intro w hw
  by_cases e1 : w = .isRef (.static Bundle.tN "UNASSIGNED_STACK" Bundle.steD)
  · rw [e1]; exact hU
  · by_cases e2 : w = .isRef (.static Bundle.tN "SUPPRESSED_SENTINEL" Bundle.listD)
    · rw [e2]; exact hN
    · by_cases e3 : w = .laysStatic Bundle.tN "UNASSIGNED_STACK" Bundle.steD
      · rw [e3]; exact lU
      · by_cases e4 : w = .laysStatic Bundle.tN "SUPPRESSED_SENTINEL" Bundle.listD
        · rw [e4]; exact lN
        · exact h1 w (List.mem_filter.mpr ⟨hw, by unfold vx_no; rw [decide_eq_true e1, decide_eq_true e2, decide_eq_true e3, decide_eq_true e4]; rfl⟩)
/-- where a static field lies, its class's statics cell in H -/
def vx_L (C n d : String) (A : Nat → Prop) (U : State) (H : Heap) : Prop := ∃ (c : ClassId) (k : Class) (i : Nat) (f : Field) (a : Nat) (cell : Cell), U.vm.findClass C = some c ∧ U.fieldFound? C n d = some (c, k, i, f) ∧ f.isStatic = true ∧ k.statics = some a ∧ H[a]? = some cell ∧ cell.vm.isStatics = true ∧ cell.cls = c ∧ f.slot < cell.slots.size ∧ k.staticTypes[f.slot]? = some f.type ∧ ¬ A a
theorem vx_L.moved {C n d : String} {A : Nat → Prop} {u U : State} {H : Heap} (hvm : u.vm.Alike U.vm) (h : vx_L C n d A u H) : vx_L C n d A U H := by
  obtain ⟨c, k, i, f, a, cell, h1, h2, h3, h4, h5, h6, h7, h8, h9, h10⟩ := h
  obtain ⟨k', hi', he⟩ := State.fieldFound?_setVm hvm h2
  exact ⟨c, k', i, f, a, cell, by rw [hvm.findClass]; exact h1, hi', h3, by rw [he]; exact h4, h5, h6, h7, h8, by rw [he]; exact h9, h10⟩
theorem vx_L.kept {C n d : String} {A : Nat → Prop} {U : State} {H H1 : Heap} (h : vx_L C n d A U H) (hq : ∀ a : Nat, a < H.size → ¬ A a → H1[a]? = H[a]?) : vx_L C n d A U H1 := by
  obtain ⟨c, k, i, f, a, cell, h1, h2, h3, h4, h5, h6, h7, h8, h9, h10⟩ := h
  exact ⟨c, k, i, f, a, cell, h1, h2, h3, h4, by rw [hq a (Array.getElem?_eq_some_iff.mp h5).1 h10]; exact h5, h6, h7, h8, h9, h10⟩
theorem vx_L.narrow {C n d : String} {A B : Nat → Prop} {U : State} {H : Heap} (h : vx_L C n d A U H) (hAB : ∀ q, B q → A q) : vx_L C n d B U H := by
  obtain ⟨c, k, i, f, a, cell, h1, h2, h3, h4, h5, h6, h7, h8, h9, h10⟩ := h
  exact ⟨c, k, i, f, a, cell, h1, h2, h3, h4, h5, h6, h7, h8, h9, fun z => h10 (hAB _ z)⟩
theorem vx_L.word {C n d : String} {A : Nat → Prop} {s : State} {args : Array Value} (h : vx_L C n d A s s.heap) : (Cond.laysStatic C n d).before args s = true := by
  obtain ⟨c, k, i, f, a, cell, h1, h2, h3, h4, h5, h6, h7, h8, h9, -⟩ := h
  show (Cond.laysStatic C n d).holds args s none s [] = true
  exact Cond.laysStatic_of h1 h2 h3 h4 h5 h6 h7 h8 h9
/-- .. and what it holds: null or some reference -/
def vx_Zq (C n d : String) (A : Nat → Prop) (U : State) (H : Heap) : Prop := va_Zq C n d A U H ∧ vx_L C n d A U H
theorem vx_Zq.moved {C n d : String} {A : Nat → Prop} {u U : State} {H : Heap} (hvm : u.vm.Alike U.vm) (h : vx_Zq C n d A u H) : vx_Zq C n d A U H := ⟨va_Zq.moved hvm h.1, vx_L.moved hvm h.2⟩
theorem vx_Zq.kept {C n d : String} {A : Nat → Prop} {U : State} {H H1 : Heap} (h : vx_Zq C n d A U H) (hq : ∀ a : Nat, a < H.size → ¬ A a → H1[a]? = H[a]?) : vx_Zq C n d A U H1 := ⟨va_Zq.kept h.1 hq, vx_L.kept h.2 hq⟩
theorem vx_Zq.narrow {C n d : String} {A B : Nat → Prop} {U : State} {H : Heap} (h : vx_Zq C n d A U H) (hAB : ∀ q, B q → A q) : vx_Zq C n d B U H := ⟨va_Zq.narrow h.1 hAB, vx_L.narrow h.2 hAB⟩
theorem vx_Zqof {args : Array Value} {s : State} {C n d : String} {A : Nat → Prop} (hl : (Cond.laysStatic C n d).before args s = true) (hini : (Cond.initialized C).before args s = true) (h : (Cond.isRef (.static C n d)).before args s = true) (hA : ∀ a : Nat, a < s.heap.size → ¬ A a) : vx_Zq C n d A s s.heap := by
  refine ⟨va_Zqof hl hini h hA, ?_⟩
  obtain ⟨c, k, i, f, a, cell, h1, h2, h3, h4, h5, h6, h7, h8, h9⟩ := Cond.laysStatic_spec hl
  exact ⟨c, k, i, f, a, cell, h1, h2, h3, h4, h5, h6, h7, h8, h9, hA a (Array.getElem?_eq_some_iff.mp h5).1⟩
theorem vx_isRef {C n d : String} {v : Value} {A : Nat → Prop} {s : State} {args : Array Value} (h : va_Z C n d v A s s.heap) (hv : v.isRef = true) : (Cond.isRef (.static C n d)).before args s = true := by
  obtain ⟨cf, kf, fi, f, a, cell, h1, h2, h3, h4, h5, h6, h7, -⟩ := h
  have he : (Term.static C n d).eval args s none [] s = some v := by
    simp [Term.eval, State.fieldNamed?, h1, h2, h4, h5, h6, h7]
  simp only [Cond.before, Cond.holds, Cond.value, he]
  cases v <;> simp_all [Value.isRef]
theorem vx_isRefq {C n d : String} {A : Nat → Prop} {s : State} {args : Array Value} (h : va_Zq C n d A s s.heap) : (Cond.isRef (.static C n d)).before args s = true := by
  rcases h with h | ⟨t, h⟩
  · exact vx_isRef h rfl
  · exact vx_isRef h rfl
/-- the same frame, seen from here: as if the method were called anew in this heap -/
theorem vx_rebase {T : State} (X : Stand p l e R s m args below meth c T locs cells slots) {R' : Room} (hf : R'.frames ≤ R.frames) (hl : R'.locals ≤ R.locals) (hc : cells + R'.cells ≤ R.cells) (hs : slots + R'.slots ≤ R.slots) :
    Stand p l e R' ((T.setVm s.vm).setFrames (.invoking m args :: below)) m args below meth c T [] 0 0 := by
  have htop : (T.setVm s.vm).topJava?.isSome := X.here.top
  have hF : ((T.setVm s.vm).setFrames (.invoking m args :: below)).frames = .invoking m args :: below := State.frames_setFrames _ (State.cur_lt_of_top htop)
  obtain ⟨g₀, hg0⟩ := Option.isSome_iff_exists.mp htop
  obtain ⟨r, hr⟩ := State.topJava?_eq_some.mp hg0
  have hl9 : e.platform.stackLimits (T.setVm s.vm).me = e.platform.stackLimits s.me := X.limits
  have hb9 : (T.setVm s.vm).me.stackBytes = s.me.stackBytes := X.bytes
  refine ⟨X.admits, X.cas, X.clock, hF, ?_, X.hears, X.method, X.code, X.here, X.tail, X.warmed, ?_, ?_, ?_⟩
  · have h := X.room
    have hU : ((T.setVm s.vm).setFrames (.invoking m args :: below)).localsInUse = s.localsInUse := by
      rw [State.localsInUse_invoking hF (meth := meth) (c := c) X.method X.code, State.localsInUse_invoking X.frames X.method X.code]
    simp only [State.hasRoom, Bool.and_eq_true, decide_eq_true_eq] at h ⊢
    obtain ⟨⟨⟨⟨h1, h2, h3, h4, h5, h6⟩, h7⟩, h8⟩, h9⟩ := h
    rw [X.frames, List.length_cons] at h2 h3
    have q1 := X.heapSize
    have q2 := X.used
    simp only [hF, hU, List.length_cons, State.stackLimits_setFrames, State.stackBytes_setFrames, hl9, hb9]
    refine ⟨⟨⟨⟨by omega, by omega, by omega, by omega, by omega, h6⟩, ?_⟩, ?_⟩, X.book⟩
    · show T.heap.size + R'.cells ≤ e.platform.maxCells
      omega
    · show T.slotsUsed + R'.slots ≤ e.platform.maxSlots
      omega
  · rw [State.stackLimits_setFrames]; rfl
  · rw [State.stackBytes_setFrames]; rfl
  · refine ⟨?_, Nat.le_refl _, Nat.le_refl _, ?_, ?_, fun a c9 h9 => ⟨c9, h9, rfl, rfl, fun _ _ => rfl⟩⟩
    · obtain ⟨t, ht, -⟩ := State.frames_cons hr
      show T.setVm s.vm = { ((T.setVm s.vm).setFrames (.invoking m args :: below)).setFrames (T.setVm s.vm).frames with heap := T.heap, slotsUsed := T.slotsUsed }
      rw [State.setFrames_setFrames, State.setFrames_self ht]
      rfl
    · show T.slotsUsed = T.slotsUsed + ((T.heap.toList.drop T.heap.size).map (·.slots.size)).sum
      rw [List.drop_eq_nil_of_le (Nat.le_of_eq Array.length_toList)]
      rfl
    · show ((T.heap.toList.drop T.heap.size).map (·.slots.size)).sum ≤ 0
      rw [List.drop_eq_nil_of_le (Nat.le_of_eq Array.length_toList)]
      exact Nat.le_refl _
/-- 'throw new E()': new; dup; invokespecial; athrow -/
theorem vx_throw0 {cc : ByteArray} {pc : Nat} (hexec : p.tables.exec = Jvm.exec) (hb : c.code = cc) (hl : l.stackTraces = false) {own cls : String} {names : List String} {ik ic mc ms : Nat} {A : Nat → Prop}
    (hown : s.vm.findClass own = some m.cls) (hcls : Bundle.fit cls = true) (hnames : ∀ n ∈ names, Bundle.fit n = true)
    (hk : (Cond.classLink own ik cls).before args s = true) (hini : (Cond.initialized cls).before args s = true) (hat : ∀ w ∈ vx_at0 own ic cls names, w.before args s = true)
    (hgood : ∀ w ∈ Cond.classLink own ik cls :: Cond.initialized cls :: vx_at0 own ic cls names, vx_ot w = true)
    (hU : vx_Zq Bundle.tN "UNASSIGNED_STACK" Bundle.steD A s s.heap) (hN : vx_Zq Bundle.tN "SUPPRESSED_SENTINEL" Bundle.listD A s s.heap) (hS : va_S A s.heap H locs) (hsize : ls.size = c.maxLocals)
    (d0 : decode cc pc = .ok (.new ik, 3)) (d3 : decode cc (pc + 3) = .ok (.dup, 1)) (d4 : decode cc (pc + 4) = .ok (.invokespecial ic, 3)) (d7 : decode cc (pc + 7) = .ok (.athrow, 1))
    (hout : ∀ x ∈ c.exceptionTable.toList, covers x (pc + 7) = false)
    (hRframes : names.length + 3 < R.frames) (hRlocals : (rest.map fun v => v.category).sum + (13 * (names.length + 1) + 42) ≤ R.locals) (hRcells : cells + 1 ≤ R.cells) (hRslots : slots + 6 ≤ R.slots) (hlocks : meth.locks = false)
    (hx : ∀ t : State, s.vm.Alike t.vm → H.size ≤ t.heap.size → (∀ q : Nat, q < H.size → t.heap[q]? = H[q]?) → XC cls s t)
    (hf : ∀ z ∈ locs, free z.base) (hc : cells + 1 ≤ mc) (hs : slots + 6 ≤ ms) :
    W p l e R s m args below meth c H locs cells slots (vx_MQ below Qc XC args s mc ms free) (F0 m pc ls rest) := by
  intro T hT X
  have htr : e.platform.stackTraces = false := (show e.platform.stackTraces = l.stackTraces by rw [X.admits.platform]).trans hl
  have Y := vx_rebase X (R' := { frames := R.frames, locals := R.locals, cells := 1, slots := 6 }) (Nat.le_refl _) (Nat.le_refl _) hRcells hRslots
  obtain ⟨s', hA⟩ : ∃ z, z = (T.setVm s.vm).setFrames (.invoking m args :: below) := ⟨_, rfl⟩
  rw [← hA] at Y
  have hvm : s'.vm = s.vm := by rw [hA]; rfl
  have hhp : s'.heap = H := by rw [hA]; exact hT
  have hW0 : s.WarmedH s'.vm := by rw [hvm]; exact State.WarmedH.refl s
  have hat' : ∀ w ∈ vx_at0 own ic cls names, w.before args s' = true := fun w hw => vx_ot_at hW0 hvm.symm (hgood w (List.mem_cons_of_mem _ (List.mem_cons_of_mem _ hw))) (hat w hw)
  have hk' : (Cond.classLink own ik cls).before args s' = true := vx_ot_at hW0 hvm.symm (hgood _ List.mem_cons_self) hk
  have hini' : (Cond.initialized cls).before args s' = true := vx_ot_at hW0 hvm.symm (hgood _ (List.mem_cons_of_mem _ List.mem_cons_self)) hini
  have hU' : vx_Zq Bundle.tN "UNASSIGNED_STACK" Bundle.steD A s' s'.heap := by rw [hhp]; exact vx_Zq.moved hW0.alike (hU.kept hS.2.1)
  have hN' : vx_Zq Bundle.tN "SUPPRESSED_SENTINEL" Bundle.listD A s' s'.heap := by rw [hhp]; exact vx_Zq.moved hW0.alike (hN.kept hS.2.1)
  have h : ∀ w ∈ Bundle.ownAtoms0 own ic cls names, w.before args s' = true := vx_own hat' (vx_isRefq hU'.1) (vx_isRefq hN'.1) hU'.2.word hN'.2.word
  have hown' : s'.vm.findClass own = some m.cls := by rw [hvm]; exact hown
  have hins : (Cond.instantiable cls 6).before args s' = true := h _ (by simp [Bundle.ownAtoms0])
  obtain ⟨vm₁, cX, kX, hfX, hkX, -, -, X₁, st1⟩ := Y.newCold hexec (own := own) (C := cls) (index := ik) (n := 6) hown' hk' hins hini'
    (g := F0 m pc ls rest) rfl (by rw [hb]; exact d0) (Nat.le_refl _) (Nat.le_refl _)
  generalize hT1 : (T.setVm vm₁).pushCell { cls := cX, slots := kX.instanceTypes.map defaultValue, vm := .none } = T1 at X₁ st1
  have hcat : (Value.ref T.heap.size).category = 1 := rfl
  have hcellA : T1.heap[T.heap.size]? = some (freshCell cX kX) := by rw [← hT1]; exact State.heap_pushCell_size _ _
  have d3' : decode c.code (pc + 3) = .ok (.dup, 1) := by rw [hb]; exact d3
  obtain ⟨U, hsteps, hrun, hend, hW, hsame, ce, hce, hO⟩ := X₁.ctorThrow0 hexec htr (own := own) (cls := cls) (names := names) (ic := ic) hown' hcls hnames h (fun x hx => nomatch hx) hfX hkX hcellA (by rw [hhp, hT]; exact Nat.le_refl _)
    (g := { method := m, pc := pc + 4, locals := ls, stack := .ref T.heap.size :: .ref T.heap.size :: rest, locked := none }) rfl hsize rfl rfl (rest := rest) rfl
    (by rw [hb]; exact d4) (by rw [hb]; exact d7) hout hRframes (by simp only [List.map_cons, List.sum_cons, hcat]; omega) hlocks
  obtain ⟨f1, f2⟩ := vx_frame hsame
  rw [hhp] at f1 f2
  have hWs : s.WarmedH U.vm := State.WarmedH.trans hW0 hW
  have hcl : s.vm.findClass cls = some ce.cls := by
    have h9 := hO.cls
    rw [hvm] at h9
    exact h9
  have hall : s.sameButNew ({ U with vm := s.vm } : State) locs mc ms := by
    subst hA
    obtain ⟨e1, e2⟩ := hsame
    rw [State.setFrames_setFrames] at e1
    have h2 : (T.setVm s.vm).sameButNew ({ U with vm := s.vm } : State) [] (0 + 1) (0 + 6) := ⟨e1, e2⟩
    have h3 := X.same.trans h2
    rw [List.append_nil] at h3
    exact h3.mono hc hs
  refine ⟨U, ?_, .threw T.heap.size, hrun, hend, Or.inr ⟨T.heap.size, rfl, cls, ce, locs, hx U hWs.alike f1 (fun q hq => f2 q hq (fun z hz => nomatch hz)), hce, hO.vm, hcl, hWs, hall, hf⟩⟩
  refine st1 _ ?_
  show Steps p.tables e below (T1.setTop { method := m, pc := pc + 3, locals := ls, stack := .ref T.heap.size :: rest, locked := none }) _
  jvm_step X₁.here [X₁.here.top, hexec, d3', Value.category]
  exact hsteps
/-- 'throw new E("text")': new; dup; ldc; invokespecial; athrow -/
theorem vx_throwS {cc : ByteArray} {pc : Nat} (hexec : p.tables.exec = Jvm.exec) (hb : c.code = cc) (hl : l.stackTraces = false) {own cls text : String} {names : List String} {ik is ic mc ms sa : Nat} {A : Nat → Prop}
    (hown : s.vm.findClass own = some m.cls) (hcls : Bundle.fit cls = true) (hnames : ∀ n ∈ names, Bundle.fit n = true)
    (hk : (Cond.classLink own ik cls).before args s = true) (hini : (Cond.initialized cls).before args s = true) (hstr : vk_R own is text sa s) (hat : ∀ w ∈ vx_atS own ic cls names, w.before args s = true)
    (hgood : ∀ w ∈ Cond.classLink own ik cls :: Cond.initialized cls :: vx_atS own ic cls names, vx_ot w = true)
    (hU : vx_Zq Bundle.tN "UNASSIGNED_STACK" Bundle.steD A s s.heap) (hN : vx_Zq Bundle.tN "SUPPRESSED_SENTINEL" Bundle.listD A s s.heap) (hS : va_S A s.heap H locs) (hsize : ls.size = c.maxLocals)
    (d0 : decode cc pc = .ok (.new ik, 3)) (d3 : decode cc (pc + 3) = .ok (.dup, 1)) (d4 : decode cc (pc + 4) = .ok (.ldc is, 2)) (d6 : decode cc (pc + 6) = .ok (.invokespecial ic, 3)) (d9 : decode cc (pc + 9) = .ok (.athrow, 1))
    (hout : ∀ x ∈ c.exceptionTable.toList, covers x (pc + 9) = false)
    (hRframes : names.length + 3 < R.frames) (hRlocals : (rest.map fun v => v.category).sum + (13 * (names.length + 1) + 43) ≤ R.locals) (hRcells : cells + 1 ≤ R.cells) (hRslots : slots + 6 ≤ R.slots) (hlocks : meth.locks = false)
    (hx : ∀ t : State, s.vm.Alike t.vm → H.size ≤ t.heap.size → (∀ q : Nat, q < H.size → t.heap[q]? = H[q]?) → XC cls s t)
    (hf : ∀ z ∈ locs, free z.base) (hc : cells + 1 ≤ mc) (hs : slots + 6 ≤ ms) :
    W p l e R s m args below meth c H locs cells slots (vx_MQ below Qc XC args s mc ms free) (F0 m pc ls rest) := by
  intro T hT X
  have htr : e.platform.stackTraces = false := (show e.platform.stackTraces = l.stackTraces by rw [X.admits.platform]).trans hl
  have Y := vx_rebase X (R' := { frames := R.frames, locals := R.locals, cells := 1, slots := 6 }) (Nat.le_refl _) (Nat.le_refl _) hRcells hRslots
  obtain ⟨s', hA⟩ : ∃ z, z = (T.setVm s.vm).setFrames (.invoking m args :: below) := ⟨_, rfl⟩
  rw [← hA] at Y
  have hvm : s'.vm = s.vm := by rw [hA]; rfl
  have hhp : s'.heap = H := by rw [hA]; exact hT
  have hW0 : s.WarmedH s'.vm := by rw [hvm]; exact State.WarmedH.refl s
  have hat' : ∀ w ∈ vx_atS own ic cls names, w.before args s' = true := fun w hw => vx_ot_at hW0 hvm.symm (hgood w (List.mem_cons_of_mem _ (List.mem_cons_of_mem _ hw))) (hat w hw)
  have hk' : (Cond.classLink own ik cls).before args s' = true := vx_ot_at hW0 hvm.symm (hgood _ List.mem_cons_self) hk
  have hini' : (Cond.initialized cls).before args s' = true := vx_ot_at hW0 hvm.symm (hgood _ (List.mem_cons_of_mem _ List.mem_cons_self)) hini
  have hU' : vx_Zq Bundle.tN "UNASSIGNED_STACK" Bundle.steD A s' s'.heap := by rw [hhp]; exact vx_Zq.moved hW0.alike (hU.kept hS.2.1)
  have hN' : vx_Zq Bundle.tN "SUPPRESSED_SENTINEL" Bundle.listD A s' s'.heap := by rw [hhp]; exact vx_Zq.moved hW0.alike (hN.kept hS.2.1)
  have h : ∀ w ∈ Bundle.ownAtoms own ic cls names, w.before args s' = true := vx_own hat' (vx_isRefq hU'.1) (vx_isRefq hN'.1) hU'.2.word hN'.2.word
  have hown' : s'.vm.findClass own = some m.cls := by rw [hvm]; exact hown
  have hins : (Cond.instantiable cls 6).before args s' = true := h _ (by simp [Bundle.ownAtoms])
  obtain ⟨vm₁, cX, kX, hfX, hkX, -, -, X₁, st1⟩ := Y.newCold hexec (own := own) (C := cls) (index := ik) (n := 6) hown' hk' hins hini'
    (g := F0 m pc ls rest) rfl (by rw [hb]; exact d0) (Nat.le_refl _) (Nat.le_refl _)
  generalize hT1 : (T.setVm vm₁).pushCell { cls := cX, slots := kX.instanceTypes.map defaultValue, vm := .none } = T1 at X₁ st1
  have hcat : (Value.ref T.heap.size).category = 1 := rfl
  have hcellA : T1.heap[T.heap.size]? = some (freshCell cX kX) := by rw [← hT1]; exact State.heap_pushCell_size _ _
  have d3' : decode c.code (pc + 3) = .ok (.dup, 1) := by rw [hb]; exact d3
  have d4' : decode c.code (pc + 4) = .ok (.ldc is, 2) := by rw [hb]; exact d4
  have hstr' : vk_R own is text sa s' := vk_R.warm hW0 hstr
  obtain ⟨U, hsteps, hrun, hend, hW, hsame, ce, hce, hO⟩ := X₁.ctorThrowS hexec htr (own := own) (cls := cls) (names := names) (ic := ic) hown' hcls hnames h (fun x hx => nomatch hx) hfX hkX hcellA (by rw [hhp, hT]; exact Nat.le_refl _) (msg := .ref sa) rfl
    (g := { method := m, pc := pc + 6, locals := ls, stack := .ref sa :: .ref T.heap.size :: .ref T.heap.size :: rest, locked := none }) rfl hsize rfl rfl (rest := rest) rfl
    (by rw [hb]; exact d6) (by rw [hb]; exact d9) hout hRframes (by simp only [List.map_cons, List.sum_cons, hcat]; omega) hlocks
  obtain ⟨f1, f2⟩ := vx_frame hsame
  rw [hhp] at f1 f2
  have hWs : s.WarmedH U.vm := State.WarmedH.trans hW0 hW
  have hcl : s.vm.findClass cls = some ce.cls := by
    have h9 := hO.cls
    rw [hvm] at h9
    exact h9
  have hall : s.sameButNew ({ U with vm := s.vm } : State) locs mc ms := by
    subst hA
    obtain ⟨e1, e2⟩ := hsame
    rw [State.setFrames_setFrames] at e1
    have h2 : (T.setVm s.vm).sameButNew ({ U with vm := s.vm } : State) [] (0 + 1) (0 + 6) := ⟨e1, e2⟩
    have h3 := X.same.trans h2
    rw [List.append_nil] at h3
    exact h3.mono hc hs
  refine ⟨U, ?_, .threw T.heap.size, hrun, hend, Or.inr ⟨T.heap.size, rfl, cls, ce, locs, hx U hWs.alike f1 (fun q hq => f2 q hq (fun z hz => nomatch hz)), hce, hO.vm, hcl, hWs, hall, hf⟩⟩
  refine st1 _ ?_
  show Steps p.tables e below (T1.setTop { method := m, pc := pc + 3, locals := ls, stack := .ref T.heap.size :: rest, locked := none }) _
  jvm_step X₁.here [X₁.here.top, hexec, d3', Value.category]
  exact X₁.ldcString hexec (own := own) (text := text) (index := is) (a := sa) hown' hstr'.1 hstr'.2
    (g := { method := m, pc := pc + 4, locals := ls, stack := .ref T.heap.size :: .ref T.heap.size :: rest, locked := none }) rfl d4' _ hsteps
/-- 'throw new E("text")', the text by a wide index -/
theorem vx_throwSW {cc : ByteArray} {pc : Nat} (hexec : p.tables.exec = Jvm.exec) (hb : c.code = cc) (hl : l.stackTraces = false) {own cls text : String} {names : List String} {ik is ic mc ms sa : Nat} {A : Nat → Prop}
    (hown : s.vm.findClass own = some m.cls) (hcls : Bundle.fit cls = true) (hnames : ∀ n ∈ names, Bundle.fit n = true)
    (hk : (Cond.classLink own ik cls).before args s = true) (hini : (Cond.initialized cls).before args s = true) (hstr : vk_R own is text sa s) (hat : ∀ w ∈ vx_atS own ic cls names, w.before args s = true)
    (hgood : ∀ w ∈ Cond.classLink own ik cls :: Cond.initialized cls :: vx_atS own ic cls names, vx_ot w = true)
    (hU : vx_Zq Bundle.tN "UNASSIGNED_STACK" Bundle.steD A s s.heap) (hN : vx_Zq Bundle.tN "SUPPRESSED_SENTINEL" Bundle.listD A s s.heap) (hS : va_S A s.heap H locs) (hsize : ls.size = c.maxLocals)
    (d0 : decode cc pc = .ok (.new ik, 3)) (d3 : decode cc (pc + 3) = .ok (.dup, 1)) (d4 : decode cc (pc + 4) = .ok (.ldc_w is, 3)) (d7 : decode cc (pc + 7) = .ok (.invokespecial ic, 3)) (d10 : decode cc (pc + 10) = .ok (.athrow, 1))
    (hout : ∀ x ∈ c.exceptionTable.toList, covers x (pc + 10) = false)
    (hRframes : names.length + 3 < R.frames) (hRlocals : (rest.map fun v => v.category).sum + (13 * (names.length + 1) + 43) ≤ R.locals) (hRcells : cells + 1 ≤ R.cells) (hRslots : slots + 6 ≤ R.slots) (hlocks : meth.locks = false)
    (hx : ∀ t : State, s.vm.Alike t.vm → H.size ≤ t.heap.size → (∀ q : Nat, q < H.size → t.heap[q]? = H[q]?) → XC cls s t)
    (hf : ∀ z ∈ locs, free z.base) (hc : cells + 1 ≤ mc) (hs : slots + 6 ≤ ms) :
    W p l e R s m args below meth c H locs cells slots (vx_MQ below Qc XC args s mc ms free) (F0 m pc ls rest) := by
  intro T hT X
  have htr : e.platform.stackTraces = false := (show e.platform.stackTraces = l.stackTraces by rw [X.admits.platform]).trans hl
  have Y := vx_rebase X (R' := { frames := R.frames, locals := R.locals, cells := 1, slots := 6 }) (Nat.le_refl _) (Nat.le_refl _) hRcells hRslots
  obtain ⟨s', hA⟩ : ∃ z, z = (T.setVm s.vm).setFrames (.invoking m args :: below) := ⟨_, rfl⟩
  rw [← hA] at Y
  have hvm : s'.vm = s.vm := by rw [hA]; rfl
  have hhp : s'.heap = H := by rw [hA]; exact hT
  have hW0 : s.WarmedH s'.vm := by rw [hvm]; exact State.WarmedH.refl s
  have hat' : ∀ w ∈ vx_atS own ic cls names, w.before args s' = true := fun w hw => vx_ot_at hW0 hvm.symm (hgood w (List.mem_cons_of_mem _ (List.mem_cons_of_mem _ hw))) (hat w hw)
  have hk' : (Cond.classLink own ik cls).before args s' = true := vx_ot_at hW0 hvm.symm (hgood _ List.mem_cons_self) hk
  have hini' : (Cond.initialized cls).before args s' = true := vx_ot_at hW0 hvm.symm (hgood _ (List.mem_cons_of_mem _ List.mem_cons_self)) hini
  have hU' : vx_Zq Bundle.tN "UNASSIGNED_STACK" Bundle.steD A s' s'.heap := by rw [hhp]; exact vx_Zq.moved hW0.alike (hU.kept hS.2.1)
  have hN' : vx_Zq Bundle.tN "SUPPRESSED_SENTINEL" Bundle.listD A s' s'.heap := by rw [hhp]; exact vx_Zq.moved hW0.alike (hN.kept hS.2.1)
  have h : ∀ w ∈ Bundle.ownAtoms own ic cls names, w.before args s' = true := vx_own hat' (vx_isRefq hU'.1) (vx_isRefq hN'.1) hU'.2.word hN'.2.word
  have hown' : s'.vm.findClass own = some m.cls := by rw [hvm]; exact hown
  have hins : (Cond.instantiable cls 6).before args s' = true := h _ (by simp [Bundle.ownAtoms])
  obtain ⟨vm₁, cX, kX, hfX, hkX, -, -, X₁, st1⟩ := Y.newCold hexec (own := own) (C := cls) (index := ik) (n := 6) hown' hk' hins hini'
    (g := F0 m pc ls rest) rfl (by rw [hb]; exact d0) (Nat.le_refl _) (Nat.le_refl _)
  generalize hT1 : (T.setVm vm₁).pushCell { cls := cX, slots := kX.instanceTypes.map defaultValue, vm := .none } = T1 at X₁ st1
  have hcat : (Value.ref T.heap.size).category = 1 := rfl
  have hcellA : T1.heap[T.heap.size]? = some (freshCell cX kX) := by rw [← hT1]; exact State.heap_pushCell_size _ _
  have d3' : decode c.code (pc + 3) = .ok (.dup, 1) := by rw [hb]; exact d3
  have d4' : decode c.code (pc + 4) = .ok (.ldc_w is, 3) := by rw [hb]; exact d4
  have hstr' : vk_R own is text sa s' := vk_R.warm hW0 hstr
  obtain ⟨U, hsteps, hrun, hend, hW, hsame, ce, hce, hO⟩ := X₁.ctorThrowS hexec htr (own := own) (cls := cls) (names := names) (ic := ic) hown' hcls hnames h (fun x hx => nomatch hx) hfX hkX hcellA (by rw [hhp, hT]; exact Nat.le_refl _) (msg := .ref sa) rfl
    (g := { method := m, pc := pc + 7, locals := ls, stack := .ref sa :: .ref T.heap.size :: .ref T.heap.size :: rest, locked := none }) rfl hsize rfl rfl (rest := rest) rfl
    (by rw [hb]; exact d7) (by rw [hb]; exact d10) hout hRframes (by simp only [List.map_cons, List.sum_cons, hcat]; omega) hlocks
  obtain ⟨f1, f2⟩ := vx_frame hsame
  rw [hhp] at f1 f2
  have hWs : s.WarmedH U.vm := State.WarmedH.trans hW0 hW
  have hcl : s.vm.findClass cls = some ce.cls := by
    have h9 := hO.cls
    rw [hvm] at h9
    exact h9
  have hall : s.sameButNew ({ U with vm := s.vm } : State) locs mc ms := by
    subst hA
    obtain ⟨e1, e2⟩ := hsame
    rw [State.setFrames_setFrames] at e1
    have h2 : (T.setVm s.vm).sameButNew ({ U with vm := s.vm } : State) [] (0 + 1) (0 + 6) := ⟨e1, e2⟩
    have h3 := X.same.trans h2
    rw [List.append_nil] at h3
    exact h3.mono hc hs
  refine ⟨U, ?_, .threw T.heap.size, hrun, hend, Or.inr ⟨T.heap.size, rfl, cls, ce, locs, hx U hWs.alike f1 (fun q hq => f2 q hq (fun z hz => nomatch hz)), hce, hO.vm, hcl, hWs, hall, hf⟩⟩
  refine st1 _ ?_
  show Steps p.tables e below (T1.setTop { method := m, pc := pc + 3, locals := ls, stack := .ref T.heap.size :: rest, locked := none }) _
  jvm_step X₁.here [X₁.here.top, hexec, d3', Value.category]
  exact X₁.ldcStringW hexec (own := own) (text := text) (index := is) (a := sa) hown' hstr'.1 hstr'.2
    (g := { method := m, pc := pc + 4, locals := ls, stack := .ref T.heap.size :: .ref T.heap.size :: rest, locked := none }) rfl d4' _ hsteps
end Ends
section Bodies
variable {l : Launch}
theorem vx_ofW {y : MethodName} {ws ws' : List Cond} {rm : Room} {Pc : Array Value → State → Prop} {Qc : Array Value → State → Outcome → State → Prop} {XC : String → State → State → Prop} {mc ms : Nat} {free : Addr → Prop} {cc : ByteArray} {maxL : Nat} {ret : Option FieldType}
    (hy : plainName y.cls = true) (hw : ws = Cond.code y cc maxL ret :: ws')
    (body : ∀ p e s m args below meth c s₁, BodyLoose p l y (headSpec ws rm) cc maxL ret e s m args below meth c s₁ → c.maxLocals = maxL → (∀ x ∈ c.exceptionTable.toList, False) → Pc args s →
      W p l e (headSpec ws rm).room s m args below meth c s.heap [] 0 0 (vx_MQ below Qc XC args s mc ms free) (entryFrame m args maxL)) : vx_Met l y ws rm Pc Qc XC mc ms free := by
  refine MetFree.of_bodyS (code := cc) (maxLocals := maxL) (ret := ret) hy ?_ ?_
  · intro args s m h hn
    obtain ⟨meth, c, h1, h2, h3, h4, h5, h6, -, -⟩ := Cond.code_spec hn (atoms_spec (ws := ws) h _ (by rw [hw]; exact List.mem_cons_self))
    exact ⟨meth, c, h1, h2, h3, h4, h5, h6⟩
  · intro p e s m args below meth c s₁ B hml hP _
    have hh0 : s₁.heap = s.heap := by rw [B.state]; rfl
    have ht : ∀ x ∈ c.exceptionTable.toList, False := by
      obtain ⟨meth9, c9, h1, h2, -, -, -, -, h7, -⟩ := Cond.code_spec B.named (atoms_spec (ws := ws) B.pre _ (by rw [hw]; exact List.mem_cons_self))
      cases Option.some.inj (h1.symm.trans B.method)
      cases Option.some.inj (h2.symm.trans (Stand.of_body B).code)
      intro x hx
      rw [Array.isEmpty_iff.mp h7] at hx
      cases hx
    obtain ⟨t, a1, o, b1, b2, b3⟩ := body p e s m args below meth c s₁ B hml ht hP s₁ hh0 (Stand.of_body B)
    exact ⟨t, o, a1, b1, b2, b3⟩
/-- the table of a body with handlers -/
theorem vx_table {p : Program} {x y : MethodName} {S : Spec} {cc bytes : ByteArray} {maxL maxL' : Nat} {ret ret' : Option FieldType} {e : Env} {s s₁ : State} {m : MethodId} {args : Array Value} {below : List Frame} {meth : Method} {c : Code} {hh : List (Nat × Nat × Nat × Nat)}
    (B : BodyLoose p l y S cc maxL ret e s m args below meth c s₁) (h : (Cond.codeWith y bytes maxL' ret' hh).before args s = true) : c.exceptionTable.toList = tableOf hh := by
  obtain ⟨m9, meth9, c9, hn9, h1, h2, -, -, h6, -⟩ := Cond.codeWith_spec h
  cases Option.some.inj (hn9.symm.trans B.named)
  cases Option.some.inj (h1.symm.trans B.method)
  cases Option.some.inj (h2.symm.trans (Stand.of_body B).code)
  rw [← h6, table_eq]
end Bodies
end VXA
/-! ===== END ===== -/
/-! ===== BEGIN a static call of a method with an exception table ===== -/
section VXS
variable {p : Program} {l : Launch} {e : Env} {R : Room} {s : State} {m : MethodId} {args : Array Value} {below : List Frame} {meth : Method} {c : Code} {T : State} {H : Heap} {locs : List Loc} {cells slots : Nat}
abbrev vx_CSW (R : Room) (s : State) (args : Array Value) (own : String) (index : Nat) (y : MethodName) (bytes : ByteArray) (maxL : Nat) (ret : Option FieldType) (hh : List (Nat × Nat × Nat × Nat)) (ws : List Cond) (rm : Room) (mc ms n : Nat) : Prop :=
  (rm.cells = mc ∧ rm.slots = ms ∧ rm.frames + 1 ≤ R.frames ∧ 8 + (maxL + 11) + rm.locals ≤ R.locals ∧ (∀ w ∈ ws, ∀ (a' : Array Value) (U : State), s.WarmedH U.vm → w.before a' U = true) ∧ Cond.codeWith y bytes maxL ret hh ∈ ws) ∧
  (Cond.codeWith y bytes maxL ret hh).before args s = true ∧ (Cond.initialized y.cls).before args s = true ∧ (y.cls ≠ "java/lang/invoke/MethodHandle" ∧ y.cls ≠ "java/lang/invoke/VarHandle") ∧
  (∀ sig, parseMethodDescriptor y.desc = some sig → n = sig.parameters.length) ∧ (Cond.methodLink own index y).before args s = true ∧ (Cond.static y).before args s = true
theorem vx_cwSW {own : String} {index maxL mc ms : Nat} {y : MethodName} {bytes : ByteArray} {ret : Option FieldType} {hh : List (Nat × Nat × Nat × Nat)} {Ts ws ws' : List Cond} {rm : Room} (n : Nat) (ht : ∀ w ∈ Ts, w.before args s = true) (hT : GoodIn Ts (va_wsS own index y ws)) (hw : ws = Cond.codeWith y bytes maxL ret hh :: ws') (hrc : rm.cells = mc) (hrs : rm.slots = ms)
    (hd : y.cls ≠ "java/lang/invoke/MethodHandle" ∧ y.cls ≠ "java/lang/invoke/VarHandle" ∧ (parseMethodDescriptor y.desc).map (fun d => d.parameters.length) = some n) (hR : rm.frames + 1 ≤ R.frames ∧ 8 + (maxL + 11) + rm.locals ≤ R.locals) :
    vx_CSW R s args own index y bytes maxL ret hh ws rm mc ms n := by
  have ok : ∀ w ∈ va_wsS own index y ws, w.before args s = true := fun w h => ht w (hT w h).1
  have hG : GoodIn Ts ws := fun w h => hT w (by unfold va_wsS; exact List.mem_append_right _ h)
  have hc : Cond.codeWith y bytes maxL ret hh ∈ ws := by rw [hw]; exact List.mem_cons_self
  refine ⟨⟨hrc, hrs, hR.1, hR.2, pay_in ht hG, hc⟩, ht _ (hG _ hc).1, ok _ (by simp [va_wsS]), ⟨hd.1, hd.2.1⟩, fun sig h => ?_, ok _ (by simp [va_wsS]), ok _ (by simp [va_wsS])⟩
  have h2 := hd.2.2
  rw [h] at h2
  exact (Option.some.inj h2).symm
theorem vx_callSW (X : Stand p l e R s m args below meth c T locs cells slots) (hexec : p.tables.exec = Jvm.exec) {own : String} {index : Nat} {y : MethodName} {bytes : ByteArray} {maxL : Nat} {ret : Option FieldType} {hh : List (Nat × Nat × Nat × Nat)}
    (hown : s.vm.findClass own = some m.cls) (hlink : (Cond.methodLink own index y).before args s = true) (hstat : (Cond.static y).before args s = true) (hinit : (Cond.initialized y.cls).before args s = true)
    (hcode : (Cond.codeWith y bytes maxL ret hh).before args s = true) (hy : y.cls ≠ "java/lang/invoke/MethodHandle" ∧ y.cls ≠ "java/lang/invoke/VarHandle")
    {W9 : Nat} {Pre : Pt → Array Value → Prop} {Post : Pt → Array Value → Option Value → Pt → Prop} (hK : Back l R p e below s args y 3 W9 Pre Post)
    {g : JFrame} (hg : g.method = m) (hsize : g.locals.size = c.maxLocals) {argsL rest : List Value} (hlen : ∀ sig, parseMethodDescriptor y.desc = some sig → argsL.length = sig.parameters.length)
    (hstack : g.stack = argsL.reverse ++ rest) (hW : 2 * g.monitorRoom + (rest.map fun v => v.category).sum ≤ W9) (hdg : decode c.code g.pc = .ok (.invokestatic index, 3))
    (hpre : ∀ vm₁, s.WarmedH vm₁ → Pre ⟨T.setVm vm₁, locs, cells, slots⟩ argsL.toArray) :
    ∃ (v : Option Value) (vm₁ : Vm) (B : Pt), s.WarmedH vm₁ ∧ Stand p l e R s m args below meth c B.U B.locs B.cells B.slots ∧ Post ⟨T.setVm vm₁, locs, cells, slots⟩ argsL.toArray v B ∧
      ∀ target, Steps p.tables e below (B.U.setTop { g with pc := g.pc + 3, stack := v.toList ++ rest }) target → Steps p.tables e below (T.setTop g) target := by
  obtain ⟨mk, methM, cM, hnamed, hmethM, -, -, -, -, -, -, hsigM⟩ := Cond.codeWith_spec hcode
  have hstatic : methM.isStatic = true := Cond.static_spec hnamed hmethM hstat
  obtain ⟨kP, hkP, -⟩ := className_of_methodNamed hnamed
  have hinitP : kP.init = .initialized := Cond.initialized_spec (findClass_of_methodNamed hnamed) hkP hinit
  obtain ⟨vm₁, X₁, hstep₁⟩ := X.invokestatic hexec hown hlink hnamed hmethM hstatic hkP hinitP hy (g := g) hg (argsL := argsL) (rest := rest) (hlen _ hsigM) hstack hdg
  obtain ⟨v, B, X', hpost, hsteps⟩ := hK m meth c ⟨T.setVm vm₁, locs, cells, slots⟩ { g with stack := rest } (.invokestatic index) mk argsL.toArray X₁ hg hsize hdg hW (X₁.named hnamed) (hpre vm₁ X₁.warmed)
  exact ⟨v, vm₁, B, X₁.warmed, X', hpost, fun target h => hstep₁ _ fun acts => by rw [doInvoke_state]; exact hsteps.trans h⟩
theorem vx_runSW {y : MethodName} {bytes cc : ByteArray} {maxL nL mc ms n index : Nat} {ret : Option FieldType} {hh : List (Nat × Nat × Nat × Nat)} {ws : List Cond} {rm : Room} {Pc : Array Value → State → Prop} {Qc : Array Value → State → Outcome → State → Prop} {free : Addr → Prop} {Ts : List Cond} {own : String} {As rest : List Value} {g : JFrame}
    (S : CallFix p m c cc nL s args Ts own) (hM : Met l y ws rm Pc Qc mc ms free) (cw : vx_CSW R s args own index y bytes maxL ret hh ws rm mc ms n) (hp : PreS s H Pc As)
    (hg : g.method = m) (hn : As.length = n) (hsize : g.locals.size = nL) (hstack : g.stack = As.reverse ++ rest) (hW : 2 * g.monitorRoom + (rest.map fun v => v.category).sum ≤ 8) (hdg : decode cc g.pc = .ok (.invokestatic index, 3)) (hf : cells + mc ≤ R.cells ∧ slots + ms ≤ R.slots) :
    va_Run p l e R s m args below meth c H locs cells slots mc ms g rest (Qc As.toArray) (free) := by
  obtain ⟨⟨hrc, hrs, hfr, hlo, hws, hcw⟩, hcode, hini, hy, hlen, hl, hstt⟩ := cw
  have hK : Back l R p e below s args y 3 8 (PreOf R mc ms Pc) (PostOf Qc mc ms free) := va_backW (hh := hh) (bytes := bytes) (maxL := maxL) (ret := ret) hM hp.1 hrc hrs hfr hlo hws hcw (fun a' U hW => word_at hW (Or.inl (by first | rfl | simp [Cond.onTables, Cond.keeps, Cond.steady])) hini)
  obtain ⟨hx, hb, hml, ho, -⟩ := S
  intro T hT X
  obtain ⟨v, vm₁, ⟨U', l2, c2, s2⟩, hW₁, X', ⟨g', mk, t, L, e1, e2, hq, h1, hL, h2, h3⟩, st⟩ := vx_callSW X hx (hh := hh) (bytes := bytes) (maxL := maxL) (ret := ret) ho hl hstt hini hcode hy hK hg (hsize.trans hml.symm) (argsL := As) (rest := rest) (fun sig h => hn.trans (hlen sig h)) hstack hW (by rw [hb]; exact hdg)
    (fun vm₁ hW₁ => ⟨hf.1, hf.2, hp.2 (T.setVm vm₁) hT hW₁⟩)
  dsimp only [Pt.U, Pt.locs, Pt.cells, Pt.slots] at X' e1 e2 h1 h2 h3 st
  subst h1; subst h2; subst h3
  exact ⟨v, (T.setVm vm₁).calling g' mk As.toArray, t, U', L, hT, X', hL, e1, e2, hq, st⟩
/-- not caught here, past rows that name other classes: it goes on to the caller -/
theorem vx_outP {p : Program} {l : Launch} {e : Env} {R : Room} {s : State} {m : MethodId} {args : Array Value} {below : List Frame} {meth : Method} {c : Code} {H : Heap} {locs : List Loc} {cells slots : Nat} {free : Addr → Prop} {ls : Array Slot} {rest : List Value} {Qc : Array Value → State → Outcome → State → Prop} {XC : String → State → State → Prop}
    {pc : Nat} {own E : String} {ce : Cell} {q : Addr} {mc ms : Nat} (hown : s.vm.findClass own = some m.cls) (hlocks : meth.locks = false)
    (hpass : ∀ z ∈ c.exceptionTable.toList, covers z pc = false ∨ (z.catchType ≠ 0 ∧ ∃ nm : String, (Cond.classLink own z.catchType nm).before args s = true ∧ va_Nc E nm s)) (hcell : H[q]? = some ce) (hv : ce.vm = .none) (hcl : s.vm.findClass E = some ce.cls)
    (hx : ∀ t : State, t.heap = H → s.vm.Alike t.vm → XC E s t) (hf : ∀ z ∈ locs, free z.base) (hc : cells ≤ mc) (hs : slots ≤ ms) :
    vx_W p l e R s m args below meth c H locs cells slots (vx_MQ below Qc XC args s mc ms free) (F0 m pc ls rest) q := by
  intro T hT X
  have hpl : e.platform.magicAccessors = ({} : Platform).magicAccessors := by rw [X.admits.platform]
  obtain ⟨vm', hW', X', st⟩ := X.outThrough hlocks q (g := F0 m pc ls rest) rfl rfl rfl (cell := ce) (by rw [hT]; exact hcell) (by rw [hv]; rfl)
    (by obtain ⟨k9, h9, -⟩ := Vm.findClass_spec hcl; exact ⟨k9, h9⟩) (fun z hz => by
      rcases hpass z hz with h | ⟨hz0, nm, hl1, hn1⟩
      · exact Or.inl h
      · obtain ⟨c6, hc6, hcl6⟩ := Cond.classLink_spec hown hl1 e.platform hpl
        obtain ⟨a8, b8, h1, h2, h3⟩ := hn1
        cases Option.some.inj (h1.symm.trans hcl)
        cases Option.some.inj (h2.symm.trans hc6)
        exact Or.inr ⟨hz0, _, hcl6, h3⟩)
  obtain ⟨g₀, hfr⟩ := X'.frames_eq
  have hcell9 : ((T.setVm vm').setFrames (.throwing q :: below)).heap[q]? = some ce := by
    show T.heap[q]? = some ce
    rw [hT]; exact hcell
  have hend : Ended ((T.setVm vm').setFrames (.throwing q :: below)) below (.threw q) := State.frames_setFrames _ (State.cur_lt_of_frames hfr)
  refine ⟨(T.setVm vm').setFrames (.throwing q :: below), ?_, .threw q, X'.here.running, hend, Or.inr ⟨q, rfl, E, ce, locs, hx _ hT (X'.ends _).1.alike, hcell9, hv, hcl, (X'.ends _).1, (X'.ends _).2.mono hc hs, hf⟩⟩
  rw [X.pushThrowing_eq]
  exact st
/-- a thing of a world lies in the heap -/
theorem vx_lt {D : va_G} {cl : List vw_C} {ws : va_W} {H1 : Heap} (h : va_P D cl ws H1) {k : Nat} {q : Nat × va_E} (hk : ws[k]? = some q) : q.1 < H1.size := (h k q hk).lt
end VXS
/-! ===== END ===== -/
/-! ===== BEGIN methods with a table of their own: called by a name, returning or throwing ===== -/
section VXH
/-! vx_backW, vx_callVX, vx_callSX, vx_callVW, vx_runVW, vx_runVX, vx_runSX, vx_ofWH follow the same proofs as their sisters above (Free/Laws.lean, Shelf42/LK1.lean); vx_outP calls Shelf42/NT130.lean (outThrough). -/
section
variable {l : Launch} {R : Room} {p : Program} {e : Env} {below : List Frame} {s : State} {sargs : Array Value} {y : MethodName} {len W9 : Nat}
theorem vx_backW {ws : List Cond} {rm : Room} {Pc : Array Value → State → Prop} {Qc : Array Value → State → Outcome → State → Prop} {XC : String → State → State → Prop} {mc ms : Nat} {free : Addr → Prop} {bytes : ByteArray} {maxL : Nat} {ret : Option FieldType} {hh : List (Nat × Nat × Nat × Nat)}
    (hM : vx_Met l y ws rm Pc Qc XC mc ms free) (hblind : FrameBlind Pc) (hrc : rm.cells = mc) (hrs : rm.slots = ms)
    (hframes : rm.frames + 1 ≤ R.frames) (hlocals : W9 + (maxL + 11) + rm.locals ≤ R.locals)
    (hws : ∀ w ∈ ws, ∀ a' U, s.WarmedH U.vm → w.before a' U = true) (hcode : Cond.codeWith y bytes maxL ret hh ∈ ws) (hinit : ∀ a' U, s.WarmedH U.vm → (Cond.initialized y.cls).before a' U = true) :
    vx_Back l R p e below s sargs y len W9 (PreOf R mc ms Pc) (PostOf Qc mc ms free) (vx_Post XC mc ms free) := by
  intro m meth c A g ig mk a X hg hsize hdg hW hn hp
  have h1 : (headSpec ws rm).pre.before a A.U = true := atoms_intro fun w hw => hws w hw _ _ X.warmed
  have h2 : (Cond.codeWith y bytes maxL ret hh).before a A.U = true := hws _ hcode _ _ X.warmed
  have h3 : (Cond.initialized y.cls).before a A.U = true := hinit _ _ X.warmed
  have h4 : A.cells + (headSpec ws rm).room.cells ≤ R.cells := by rw [show (headSpec ws rm).room.cells = mc from hrc]; exact hp.1
  have h5 : A.slots + (headSpec ws rm).room.slots ≤ R.slots := by rw [show (headSpec ws rm).room.slots = ms from hrs]; exact hp.2.1
  have hPc : Pc a (A.U.calling g mk a) := hblind _ _ _ _ hp.2.2
  obtain ⟨U, Ls, c0, s0⟩ := A
  dsimp only [Pt.U, Pt.locs, Pt.cells, Pt.slots] at h1 h2 h3 h4 h5 X hn hPc ⊢
  obtain ⟨m9, methY, cY, hn9, hmY, hcY, -, hlY, -⟩ := Cond.codeWith_spec h2
  cases Option.some.inj (hn9.symm.trans hn)
  obtain ⟨kY, hkY, -⟩ := className_of_methodNamed hn
  have hinitY : kY.init = .initialized := Cond.initialized_spec (findClass_of_methodNamed hn) hkY h3
  have h : At U g.method c below := by rw [hg]; exact X.here
  have hlocals9 : W9 + (maxL + 11) + (headSpec ws rm).room.locals ≤ R.locals := hlocals
  have happ : (headSpec ws rm).appliesLoose y e.platform (U.calling g mk a) = true :=
    Spec.appliesLoose_calling (g := g) h hdg hn hkY hinitY
      (X.room_calling (g := g) (R' := (headSpec ws rm).room) hsize hmY hcY hframes (by rw [hlY]; omega) h4 h5) h1
  obtain ⟨mid, hmid⟩ := h.above
  have hfr : (U.setTop g).frames = (.java g :: mid) ++ below := by rw [State.frames_setTop' g h.top, hmid]; rfl
  obtain ⟨o, s₂, hsteps, -, hend, hq⟩ := Steps.callFree hM p X.admits X.cas X.clock (acts := []) hfr happ hPc trivial
  have hq' : vx_Q Qc XC mc ms free a (U.calling g mk a) o s₂ := hq
  rw [State.frames_setTop' g h.top] at hend
  obtain ⟨g₀, hg0⟩ := Option.isSome_iff_exists.mp h.top
  obtain ⟨r, hr⟩ := State.topJava?_eq_some.mp hg0
  have hr' : (({ U with heap := s₂.heap, slotsUsed := s₂.slotsUsed } : State).setVm s₂.vm).frames = .java g₀ :: r := hr
  rcases hq' with ⟨hqc, L, hfe, hL⟩ | ⟨q, rfl, E, ce, L, hx, hce, hcv, hcl, hW₂, hsm, hL⟩
  · obtain ⟨⟨v, rfl⟩, hW₂, e2, q2, q3, q4, q5, q6⟩ := id hfe
    have e3 : s₂ = ({ (U.calling g mk a).setFrames s₂.frames with heap := s₂.heap, slotsUsed := s₂.slotsUsed } : State).setVm s₂.vm := by
      have : s₂ = ({ s₂ with vm := (U.calling g mk a).vm } : State).setVm s₂.vm := rfl
      rw [e2] at this
      exact this
    obtain ⟨c₂, i₂, len₂, hc₂, hd₂, hf₂⟩ := hend
    have hW' : U.WarmedH s₂.vm := hW₂
    have hcc : c₂ = c := by
      have h1 : s₂.code? g.method = U.code? g.method := by
        rw [State.code?_eq, State.code?_eq, hW'.alike.method?]
      exact Option.some.inj (hc₂.symm.trans (h1.trans h.code))
    subst hcc
    have hlen : len₂ = len := by rw [hdg] at hd₂; cases hd₂; rfl
    subst hlen
    have hs₂ : s₂ = (({ U with heap := s₂.heap, slotsUsed := s₂.slotsUsed } : State).setVm s₂.vm).setTop { g with pc := g.pc + len₂, stack := v.toList ++ g.stack } := by
      refine e3.trans ?_
      rw [hf₂, State.calling_eq h.top, State.setFrames_setFrames, State.setTop_of_frames _ hr', hr]
      rfl
    have hsame : U.sameButNew ({ U with heap := s₂.heap, slotsUsed := s₂.slotsUsed } : State) L mc ms := by
      refine ⟨?_, q2, q3, q4, q5, q6⟩
      obtain ⟨t, ht, -⟩ := State.frames_cons hr
      show ({ U with heap := s₂.heap, slotsUsed := s₂.slotsUsed } : State) = { U.setFrames U.frames with heap := s₂.heap, slotsUsed := s₂.slotsUsed }
      rw [State.setFrames_self ht]
    subst hg
    refine Or.inl ⟨v, ⟨(({ U with heap := s₂.heap, slotsUsed := s₂.slotsUsed } : State).setVm s₂.vm), Ls ++ L, c0 + mc, s0 + ms⟩,
      ⟨X.admits, X.cas, X.clock, X.frames, X.room, X.hears, X.method, X.code, (X.here.setHeapUsed s₂.heap s₂.slotsUsed).setVm hW'.alike, X.tail, State.WarmedH.trans X.warmed hW', X.limits, X.bytes, X.same.trans (hsame.setVm s.vm)⟩,
      ⟨g, mk, s₂, L, rfl, rfl, hqc, rfl, hL, rfl, rfl⟩, ?_⟩
    show Steps p.tables e below _ ((({ U with heap := s₂.heap, slotsUsed := s₂.slotsUsed } : State).setVm s₂.vm).setTop { g with pc := g.pc + len₂, stack := v.toList ++ g.stack })
    rw [← hs₂]
    exact hsteps
  · obtain ⟨e2, q2, q3, q4, q5, q6⟩ := id hsm
    have e3 : s₂ = ({ (U.calling g mk a).setFrames s₂.frames with heap := s₂.heap, slotsUsed := s₂.slotsUsed } : State).setVm s₂.vm := by
      have : s₂ = ({ s₂ with vm := (U.calling g mk a).vm } : State).setVm s₂.vm := rfl
      rw [e2] at this
      exact this
    have hf₂ : s₂.frames = .throwing q :: .java g :: U.frames.tail := hend
    have hW' : U.WarmedH s₂.vm := hW₂
    have hs₂ : s₂ = ((({ U with heap := s₂.heap, slotsUsed := s₂.slotsUsed } : State).setVm s₂.vm).setTop g).pushFrame (.throwing q) := by
      refine e3.trans ?_
      rw [hf₂, State.calling_eq h.top, State.setFrames_setFrames, State.pushFrame, State.frames_setTop _ hr', State.setTop_of_frames _ hr', State.setFrames_setFrames, hr]
      rfl
    have hsame : U.sameButNew ({ U with heap := s₂.heap, slotsUsed := s₂.slotsUsed } : State) L mc ms := by
      refine ⟨?_, q2, q3, q4, q5, q6⟩
      obtain ⟨t, ht, -⟩ := State.frames_cons hr
      show ({ U with heap := s₂.heap, slotsUsed := s₂.slotsUsed } : State) = { U.setFrames U.frames with heap := s₂.heap, slotsUsed := s₂.slotsUsed }
      rw [State.setFrames_self ht]
    subst hg
    refine Or.inr ⟨q, ⟨(({ U with heap := s₂.heap, slotsUsed := s₂.slotsUsed } : State).setVm s₂.vm), Ls ++ L, c0 + mc, s0 + ms⟩,
      ⟨X.admits, X.cas, X.clock, X.frames, X.room, X.hears, X.method, X.code, (X.here.setHeapUsed s₂.heap s₂.slotsUsed).setVm hW'.alike, X.tail, State.WarmedH.trans X.warmed hW', X.limits, X.bytes, X.same.trans (hsame.setVm s.vm)⟩,
      ⟨g, mk, s₂, L, E, ce, rfl, rfl, hx, hce, hcv, hcl, rfl, hL, rfl, rfl⟩, ?_⟩
    show Steps p.tables e below _ (((({ U with heap := s₂.heap, slotsUsed := s₂.slotsUsed } : State).setVm s₂.vm).setTop g).pushFrame (.throwing q))
    rw [← hs₂]
    exact hsteps
end
variable {p : Program} {l : Launch} {e : Env} {R : Room} {s : State} {m : MethodId} {args : Array Value} {below : List Frame} {meth : Method} {c : Code} {T : State} {H : Heap} {locs : List Loc} {cells slots : Nat}
theorem vx_callVX (X : Stand p l e R s m args below meth c T locs cells slots) (hexec : p.tables.exec = Jvm.exec) {own C : String} {index : Nat} {y : MethodName} {bytes : ByteArray} {maxL : Nat} {ret : Option FieldType} {hh : List (Nat × Nat × Nat × Nat)}
    (hown : s.vm.findClass own = some m.cls) (hlink : (Cond.methodLink own index y).before args s = true) (hinst : (Cond.instanceMethod y).before args s = true) (hsel : (Cond.selects C y y).before args s = true)
    (hcode : (Cond.codeWith y bytes maxL ret hh).before args s = true) (hy : y.cls ≠ "java/lang/invoke/MethodHandle" ∧ y.cls ≠ "java/lang/invoke/VarHandle")
    {W9 : Nat} {Pre : Pt → Array Value → Prop} {Post : Pt → Array Value → Option Value → Pt → Prop} {PostX : Pt → Array Value → Addr → Pt → Prop} (hK : vx_Back l R p e below s args y 3 W9 Pre Post PostX)
    {b : Addr} {cellB : Cell} (hcell : T.heap[b]? = some cellB) (hobj : cellB.vm.isStatics = false) (hcls : s.vm.findClass C = some cellB.cls)
    {g : JFrame} (hg : g.method = m) (hsize : g.locals.size = c.maxLocals) {argsL rest : List Value} (hlen : ∀ sig, parseMethodDescriptor y.desc = some sig → argsL.length = sig.parameters.length)
    (hstack : g.stack = argsL.reverse ++ .ref b :: rest) (hW : 2 * g.monitorRoom + (rest.map fun v => v.category).sum ≤ W9) (hdg : decode c.code g.pc = .ok (.invokevirtual index, 3))
    (hpre : ∀ vm₁, s.WarmedH vm₁ → Pre ⟨T.setVm vm₁, locs, cells, slots⟩ (Value.ref b :: argsL).toArray) :
    (∃ (v : Option Value) (vm₁ : Vm) (B : Pt), s.WarmedH vm₁ ∧ Stand p l e R s m args below meth c B.U B.locs B.cells B.slots ∧ Post ⟨T.setVm vm₁, locs, cells, slots⟩ (Value.ref b :: argsL).toArray v B ∧
      ∀ target, Steps p.tables e below (B.U.setTop { g with pc := g.pc + 3, stack := v.toList ++ rest }) target → Steps p.tables e below (T.setTop g) target) ∨
    (∃ (q : Addr) (vm₁ : Vm) (B : Pt), s.WarmedH vm₁ ∧ Stand p l e R s m args below meth c B.U B.locs B.cells B.slots ∧ PostX ⟨T.setVm vm₁, locs, cells, slots⟩ (Value.ref b :: argsL).toArray q B ∧
      Steps p.tables e below (T.setTop g) ((B.U.setTop { g with stack := rest }).pushFrame (.throwing q))) := by
  obtain ⟨mk, methM, hnamed, hmethM, hstM, habM⟩ := Cond.instanceMethod_spec hinst
  obtain ⟨m8, methM', cM, hn8, hmethM', -, -, -, -, -, -, hsigM⟩ := Cond.codeWith_spec hcode
  cases Option.some.inj (hn8.symm.trans hnamed)
  cases hmethM.symm.trans hmethM'
  obtain ⟨c2, r2, m2, q1, q2, q3, q4, kP, hkP, hkPi⟩ := Cond.selects_spec hsel
  cases hcls.symm.trans q1
  cases (State.methodFound?_of_named hnamed hy).symm.trans q2
  cases hnamed.symm.trans q3
  have hselP : selectMethod e.platform s.vm cellB.cls mk = .method mk := by rw [Launch.admits_selectMethod X.admits]; exact q4
  obtain ⟨vm₁, X₁, hstep₁⟩ := X.invokevirtual hexec hown hlink hnamed hmethM hstM hkP hkPi hy (a := b) (cell := cellB) hcell
    (fun z h => by rw [h] at hobj; cases hobj) hselP hmethM habM hkP hkPi (g := g) hg (argsL := argsL) (rest := rest) (hlen _ hsigM) hstack hdg
  rcases hK m meth c ⟨T.setVm vm₁, locs, cells, slots⟩ { g with stack := rest } (.invokevirtual index) mk (Value.ref b :: argsL).toArray X₁ hg hsize hdg hW (X₁.named hnamed) (hpre vm₁ X₁.warmed) with ⟨v, B, X', hpost, hsteps⟩ | ⟨q, B, X', hpost, hsteps⟩
  · exact Or.inl ⟨v, vm₁, B, X₁.warmed, X', hpost, fun target h => hstep₁ _ fun acts => by rw [doInvoke_state]; exact hsteps.trans h⟩
  · exact Or.inr ⟨q, vm₁, B, X₁.warmed, X', hpost, hstep₁ _ fun acts => by rw [doInvoke_state]; exact hsteps⟩
theorem vx_callSX (X : Stand p l e R s m args below meth c T locs cells slots) (hexec : p.tables.exec = Jvm.exec) {own : String} {index : Nat} {y : MethodName} {bytes : ByteArray} {maxL : Nat} {ret : Option FieldType} {hh : List (Nat × Nat × Nat × Nat)}
    (hown : s.vm.findClass own = some m.cls) (hlink : (Cond.methodLink own index y).before args s = true) (hstat : (Cond.static y).before args s = true) (hinit : (Cond.initialized y.cls).before args s = true)
    (hcode : (Cond.codeWith y bytes maxL ret hh).before args s = true) (hy : y.cls ≠ "java/lang/invoke/MethodHandle" ∧ y.cls ≠ "java/lang/invoke/VarHandle")
    {W9 : Nat} {Pre : Pt → Array Value → Prop} {Post : Pt → Array Value → Option Value → Pt → Prop} {PostX : Pt → Array Value → Addr → Pt → Prop} (hK : vx_Back l R p e below s args y 3 W9 Pre Post PostX)
    {g : JFrame} (hg : g.method = m) (hsize : g.locals.size = c.maxLocals) {argsL rest : List Value} (hlen : ∀ sig, parseMethodDescriptor y.desc = some sig → argsL.length = sig.parameters.length)
    (hstack : g.stack = argsL.reverse ++ rest) (hW : 2 * g.monitorRoom + (rest.map fun v => v.category).sum ≤ W9) (hdg : decode c.code g.pc = .ok (.invokestatic index, 3))
    (hpre : ∀ vm₁, s.WarmedH vm₁ → Pre ⟨T.setVm vm₁, locs, cells, slots⟩ argsL.toArray) :
    (∃ (v : Option Value) (vm₁ : Vm) (B : Pt), s.WarmedH vm₁ ∧ Stand p l e R s m args below meth c B.U B.locs B.cells B.slots ∧ Post ⟨T.setVm vm₁, locs, cells, slots⟩ argsL.toArray v B ∧
      ∀ target, Steps p.tables e below (B.U.setTop { g with pc := g.pc + 3, stack := v.toList ++ rest }) target → Steps p.tables e below (T.setTop g) target) ∨
    (∃ (q : Addr) (vm₁ : Vm) (B : Pt), s.WarmedH vm₁ ∧ Stand p l e R s m args below meth c B.U B.locs B.cells B.slots ∧ PostX ⟨T.setVm vm₁, locs, cells, slots⟩ argsL.toArray q B ∧
      Steps p.tables e below (T.setTop g) ((B.U.setTop { g with stack := rest }).pushFrame (.throwing q))) := by
  obtain ⟨mk, methM, cM, hnamed, hmethM, -, -, -, -, -, -, hsigM⟩ := Cond.codeWith_spec hcode
  have hstatic : methM.isStatic = true := Cond.static_spec hnamed hmethM hstat
  obtain ⟨kP, hkP, -⟩ := className_of_methodNamed hnamed
  have hinitP : kP.init = .initialized := Cond.initialized_spec (findClass_of_methodNamed hnamed) hkP hinit
  obtain ⟨vm₁, X₁, hstep₁⟩ := X.invokestatic hexec hown hlink hnamed hmethM hstatic hkP hinitP hy (g := g) hg (argsL := argsL) (rest := rest) (hlen _ hsigM) hstack hdg
  rcases hK m meth c ⟨T.setVm vm₁, locs, cells, slots⟩ { g with stack := rest } (.invokestatic index) mk argsL.toArray X₁ hg hsize hdg hW (X₁.named hnamed) (hpre vm₁ X₁.warmed) with ⟨v, B, X', hpost, hsteps⟩ | ⟨q, B, X', hpost, hsteps⟩
  · exact Or.inl ⟨v, vm₁, B, X₁.warmed, X', hpost, fun target h => hstep₁ _ fun acts => by rw [doInvoke_state]; exact hsteps.trans h⟩
  · exact Or.inr ⟨q, vm₁, B, X₁.warmed, X', hpost, hstep₁ _ fun acts => by rw [doInvoke_state]; exact hsteps⟩
theorem vx_callVW (X : Stand p l e R s m args below meth c T locs cells slots) (hexec : p.tables.exec = Jvm.exec) {own C : String} {index : Nat} {y : MethodName} {bytes : ByteArray} {maxL : Nat} {ret : Option FieldType} {hh : List (Nat × Nat × Nat × Nat)}
    (hown : s.vm.findClass own = some m.cls) (hlink : (Cond.methodLink own index y).before args s = true) (hinst : (Cond.instanceMethod y).before args s = true) (hsel : (Cond.selects C y y).before args s = true)
    (hcode : (Cond.codeWith y bytes maxL ret hh).before args s = true) (hy : y.cls ≠ "java/lang/invoke/MethodHandle" ∧ y.cls ≠ "java/lang/invoke/VarHandle")
    {W9 : Nat} {Pre : Pt → Array Value → Prop} {Post : Pt → Array Value → Option Value → Pt → Prop} (hK : Back l R p e below s args y 3 W9 Pre Post)
    {b : Addr} {cellB : Cell} (hcell : T.heap[b]? = some cellB) (hobj : cellB.vm.isStatics = false) (hcls : s.vm.findClass C = some cellB.cls)
    {g : JFrame} (hg : g.method = m) (hsize : g.locals.size = c.maxLocals) {argsL rest : List Value} (hlen : ∀ sig, parseMethodDescriptor y.desc = some sig → argsL.length = sig.parameters.length)
    (hstack : g.stack = argsL.reverse ++ .ref b :: rest) (hW : 2 * g.monitorRoom + (rest.map fun v => v.category).sum ≤ W9) (hdg : decode c.code g.pc = .ok (.invokevirtual index, 3))
    (hpre : ∀ vm₁, s.WarmedH vm₁ → Pre ⟨T.setVm vm₁, locs, cells, slots⟩ (Value.ref b :: argsL).toArray) :
    ∃ (v : Option Value) (vm₁ : Vm) (B : Pt), s.WarmedH vm₁ ∧ Stand p l e R s m args below meth c B.U B.locs B.cells B.slots ∧ Post ⟨T.setVm vm₁, locs, cells, slots⟩ (Value.ref b :: argsL).toArray v B ∧
      ∀ target, Steps p.tables e below (B.U.setTop { g with pc := g.pc + 3, stack := v.toList ++ rest }) target → Steps p.tables e below (T.setTop g) target := by
  obtain ⟨mk, methM, hnamed, hmethM, hstM, habM⟩ := Cond.instanceMethod_spec hinst
  obtain ⟨m8, methM', cM, hn8, hmethM', -, -, -, -, -, -, hsigM⟩ := Cond.codeWith_spec hcode
  cases Option.some.inj (hn8.symm.trans hnamed)
  cases hmethM.symm.trans hmethM'
  obtain ⟨c2, r2, m2, q1, q2, q3, q4, kP, hkP, hkPi⟩ := Cond.selects_spec hsel
  cases hcls.symm.trans q1
  cases (State.methodFound?_of_named hnamed hy).symm.trans q2
  cases hnamed.symm.trans q3
  have hselP : selectMethod e.platform s.vm cellB.cls mk = .method mk := by rw [Launch.admits_selectMethod X.admits]; exact q4
  obtain ⟨vm₁, X₁, hstep₁⟩ := X.invokevirtual hexec hown hlink hnamed hmethM hstM hkP hkPi hy (a := b) (cell := cellB) hcell
    (fun z h => by rw [h] at hobj; cases hobj) hselP hmethM habM hkP hkPi (g := g) hg (argsL := argsL) (rest := rest) (hlen _ hsigM) hstack hdg
  obtain ⟨v, B, X', hpost, hsteps⟩ := hK m meth c ⟨T.setVm vm₁, locs, cells, slots⟩ { g with stack := rest } (.invokevirtual index) mk (Value.ref b :: argsL).toArray X₁ hg hsize hdg hW (X₁.named hnamed) (hpre vm₁ X₁.warmed)
  exact ⟨v, vm₁, B, X₁.warmed, X', hpost, fun target h => hstep₁ _ fun acts => by rw [doInvoke_state]; exact hsteps.trans h⟩
abbrev vx_CVW (R : Room) (s : State) (args : Array Value) (own C : String) (index : Nat) (y : MethodName) (bytes : ByteArray) (maxL : Nat) (ret : Option FieldType) (hh : List (Nat × Nat × Nat × Nat)) (ws : List Cond) (rm : Room) (mc ms n : Nat) : Prop :=
  (rm.cells = mc ∧ rm.slots = ms ∧ rm.frames + 1 ≤ R.frames ∧ 8 + (maxL + 11) + rm.locals ≤ R.locals ∧ (∀ w ∈ ws, ∀ (a' : Array Value) (U : State), s.WarmedH U.vm → w.before a' U = true) ∧ Cond.codeWith y bytes maxL ret hh ∈ ws) ∧
  (Cond.codeWith y bytes maxL ret hh).before args s = true ∧ (Cond.initialized y.cls).before args s = true ∧ (y.cls ≠ "java/lang/invoke/MethodHandle" ∧ y.cls ≠ "java/lang/invoke/VarHandle") ∧
  (∀ sig, parseMethodDescriptor y.desc = some sig → n = sig.parameters.length) ∧ (Cond.methodLink own index y).before args s = true ∧ (Cond.instanceMethod y).before args s = true ∧ (Cond.selects C y y).before args s = true
theorem vx_cwVW {own C : String} {index maxL mc ms : Nat} {y : MethodName} {bytes : ByteArray} {ret : Option FieldType} {hh : List (Nat × Nat × Nat × Nat)} {Ts ws ws' : List Cond} {rm : Room} (n : Nat) (ht : ∀ w ∈ Ts, w.before args s = true) (hT : GoodIn Ts (wsV own index C y ws)) (hw : ws = Cond.codeWith y bytes maxL ret hh :: ws') (hrc : rm.cells = mc) (hrs : rm.slots = ms)
    (hd : y.cls = C ∧ y.cls ≠ "java/lang/invoke/MethodHandle" ∧ y.cls ≠ "java/lang/invoke/VarHandle" ∧ (parseMethodDescriptor y.desc).map (fun d => d.parameters.length) = some n) (hR : rm.frames + 1 ≤ R.frames ∧ 8 + (maxL + 11) + rm.locals ≤ R.locals) :
    vx_CVW R s args own C index y bytes maxL ret hh ws rm mc ms n := by
  obtain ⟨hC, hd⟩ := hd
  subst hC
  have ok : ∀ w ∈ wsV own index y.cls y ws, w.before args s = true := fun w h => ht w (hT w h).1
  have hG : GoodIn Ts ws := fun w h => hT w (by unfold wsV; exact List.mem_append_right _ h)
  have hc : Cond.codeWith y bytes maxL ret hh ∈ ws := by rw [hw]; exact List.mem_cons_self
  refine ⟨⟨hrc, hrs, hR.1, hR.2, pay_in ht hG, hc⟩, ht _ (hG _ hc).1, ok _ (by simp [wsV]), ⟨hd.1, hd.2.1⟩, fun sig h => ?_, ok _ (by simp [wsV]), ok _ (by simp [wsV]), ok _ (by simp [wsV])⟩
  have h2 := hd.2.2
  rw [h] at h2
  exact (Option.some.inj h2).symm
theorem vx_runVW {y : MethodName} {bytes cc : ByteArray} {maxL nL mc ms n index : Nat} {ret : Option FieldType} {hh : List (Nat × Nat × Nat × Nat)} {ws : List Cond} {rm : Room} {Pc : Array Value → State → Prop} {Qc : Array Value → State → Outcome → State → Prop} {free : Addr → Prop} {Ts : List Cond} {own C : String} {b : Addr} {As rest : List Value} {g : JFrame}
    (S : CallFix p m c cc nL s args Ts own) (hM : Met l y ws rm Pc Qc mc ms free) (cw : vx_CVW R s args own C index y bytes maxL ret hh ws rm mc ms n) (hp : PreV s H C b Pc As)
    (hg : g.method = m) (hn : As.length = n) (hsize : g.locals.size = nL) (hstack : g.stack = As.reverse ++ .ref b :: rest) (hW : 2 * g.monitorRoom + (rest.map fun v => v.category).sum ≤ 8) (hdg : decode cc g.pc = .ok (.invokevirtual index, 3)) (hf : cells + mc ≤ R.cells ∧ slots + ms ≤ R.slots) :
    va_Run p l e R s m args below meth c H locs cells slots mc ms g rest (Qc (Value.ref b :: As).toArray) free := by
  obtain ⟨⟨hrc, hrs, hfr, hlo, hws, hcw⟩, hcode, hini, hy, hlen, hl, hin, hse⟩ := cw
  have hK : Back l R p e below s args y 3 8 (PreOf R mc ms Pc) (PostOf Qc mc ms free) := va_backW (hh := hh) (bytes := bytes) (maxL := maxL) (ret := ret) hM hp.1 hrc hrs hfr hlo hws hcw (fun a' U hW => word_at hW (Or.inl (by first | rfl | simp [Cond.onTables, Cond.keeps, Cond.steady])) hini)
  obtain ⟨hx, hb, hml, ho, -⟩ := S
  obtain ⟨-, ⟨cellB, hcB, hoB, hclB⟩, hPc⟩ := hp
  intro T hT X
  obtain ⟨v, vm₁, ⟨U', l2, c2, s2⟩, hW₁, X', ⟨g', mk, t, L, e1, e2, hq, h1, hL, h2, h3⟩, st⟩ := vx_callVW X hx (C := C) (hh := hh) (bytes := bytes) (maxL := maxL) (ret := ret) ho hl hin hse hcode hy hK (by rw [hT]; exact hcB) hoB hclB hg (hsize.trans hml.symm) (argsL := As) (rest := rest) (fun sig h => hn.trans (hlen sig h)) hstack hW (by rw [hb]; exact hdg)
    (fun vm₁ hW₁ => ⟨hf.1, hf.2, hPc (T.setVm vm₁) hT hW₁⟩)
  dsimp only [Pt.U, Pt.locs, Pt.cells, Pt.slots] at X' e1 e2 h1 h2 h3 st
  subst h1; subst h2; subst h3
  exact ⟨v, (T.setVm vm₁).calling g' mk (Value.ref b :: As).toArray, t, U', L, hT, X', hL, e1, e2, hq, st⟩
section
variable {y : MethodName} {bytes cc : ByteArray} {maxL nL mc ms n index : Nat} {ret : Option FieldType} {ws : List Cond} {rm : Room} {Pc : Array Value → State → Prop} {Qc : Array Value → State → Outcome → State → Prop} {XC : String → State → State → Prop} {free : Addr → Prop} {Ts : List Cond} {own C : String} {b : Addr} {As rest : List Value} {g : JFrame}
theorem vx_runVX {hh : List (Nat × Nat × Nat × Nat)} (S : CallFix p m c cc nL s args Ts own) (hM : vx_Met l y ws rm Pc Qc XC mc ms free) (cw : vx_CVW R s args own C index y bytes maxL ret hh ws rm mc ms n) (hp : PreV s H C b Pc As)
    (hg : g.method = m) (hn : As.length = n) (hsize : g.locals.size = nL) (hstack : g.stack = As.reverse ++ .ref b :: rest) (hW : 2 * g.monitorRoom + (rest.map fun v => v.category).sum ≤ 8) (hdg : decode cc g.pc = .ok (.invokevirtual index, 3)) (hf : cells + mc ≤ R.cells ∧ slots + ms ≤ R.slots) :
    vx_Run p l e R s m args below meth c H locs cells slots mc ms g rest (Qc (Value.ref b :: As).toArray) XC free := by
  obtain ⟨⟨hrc, hrs, hfr, hlo, hws, hcw⟩, hcode, hini, hy, hlen, hl, hin, hse⟩ := cw
  have hK : vx_Back l R p e below s args y 3 8 (PreOf R mc ms Pc) (PostOf Qc mc ms free) (vx_Post XC mc ms free) := vx_backW (hh := hh) (bytes := bytes) (maxL := maxL) (ret := ret) hM hp.1 hrc hrs hfr hlo hws hcw (fun a' U hW => word_at hW (Or.inl (by first | rfl | simp [Cond.onTables, Cond.keeps, Cond.steady])) hini)
  obtain ⟨hx, hb, hml, ho, -⟩ := S
  obtain ⟨-, ⟨cellB, hcB, hoB, hclB⟩, hPc⟩ := hp
  intro T hT X
  rcases vx_callVX X hx (C := C) (hh := hh) (bytes := bytes) (maxL := maxL) (ret := ret) ho hl hin hse hcode hy hK (by rw [hT]; exact hcB) hoB hclB hg (hsize.trans hml.symm) (argsL := As) (rest := rest) (fun sig h => hn.trans (hlen sig h)) hstack hW (by rw [hb]; exact hdg)
    (fun vm₁ hW₁ => ⟨hf.1, hf.2, hPc (T.setVm vm₁) hT hW₁⟩) with ⟨v, vm₁, ⟨U', l2, c2, s2⟩, hW₁, X', ⟨g', mk, t, L, e1, e2, hq, h1, hL, h2, h3⟩, st⟩ | ⟨q, vm₁, ⟨U', l2, c2, s2⟩, hW₁, X', ⟨g', mk, t, L, E, ce, e1, e2, hq, hce, hcv, hcl, h1, hL, h2, h3⟩, st⟩
  · dsimp only [Pt.U, Pt.locs, Pt.cells, Pt.slots] at X' e1 e2 h1 h2 h3 st
    subst h1; subst h2; subst h3
    exact Or.inl ⟨v, (T.setVm vm₁).calling g' mk (Value.ref b :: As).toArray, t, U', L, hT, X', hL, e1, e2, hq, st⟩
  · dsimp only [Pt.U, Pt.locs, Pt.cells, Pt.slots] at X' e1 e2 h1 h2 h3 st hcl
    subst h1; subst h2; subst h3
    exact Or.inr ⟨q, (T.setVm vm₁).calling g' mk (Value.ref b :: As).toArray, t, U', L, E, ce, hT, X', hL, e1, e2, hq, hce, hcv, vx_cls hW₁ hcl, st⟩
theorem vx_runSX {hh : List (Nat × Nat × Nat × Nat)} (S : CallFix p m c cc nL s args Ts own) (hM : vx_Met l y ws rm Pc Qc XC mc ms free) (cw : vx_CSW R s args own index y bytes maxL ret hh ws rm mc ms n) (hp : PreS s H Pc As)
    (hg : g.method = m) (hn : As.length = n) (hsize : g.locals.size = nL) (hstack : g.stack = As.reverse ++ rest) (hW : 2 * g.monitorRoom + (rest.map fun v => v.category).sum ≤ 8) (hdg : decode cc g.pc = .ok (.invokestatic index, 3)) (hf : cells + mc ≤ R.cells ∧ slots + ms ≤ R.slots) :
    vx_Run p l e R s m args below meth c H locs cells slots mc ms g rest (Qc As.toArray) XC free := by
  obtain ⟨⟨hrc, hrs, hfr, hlo, hws, hcw⟩, hcode, hini, hy, hlen, hl, hstt⟩ := cw
  have hK : vx_Back l R p e below s args y 3 8 (PreOf R mc ms Pc) (PostOf Qc mc ms free) (vx_Post XC mc ms free) := vx_backW (hh := hh) (bytes := bytes) (maxL := maxL) (ret := ret) hM hp.1 hrc hrs hfr hlo hws hcw (fun a' U hW => word_at hW (Or.inl (by first | rfl | simp [Cond.onTables, Cond.keeps, Cond.steady])) hini)
  obtain ⟨hx, hb, hml, ho, -⟩ := S
  intro T hT X
  rcases vx_callSX X hx (hh := hh) (bytes := bytes) (maxL := maxL) (ret := ret) ho hl hstt hini hcode hy hK hg (hsize.trans hml.symm) (argsL := As) (rest := rest) (fun sig h => hn.trans (hlen sig h)) hstack hW (by rw [hb]; exact hdg)
    (fun vm₁ hW₁ => ⟨hf.1, hf.2, hp.2 (T.setVm vm₁) hT hW₁⟩) with ⟨v, vm₁, ⟨U', l2, c2, s2⟩, hW₁, X', ⟨g', mk, t, L, e1, e2, hq, h1, hL, h2, h3⟩, st⟩ | ⟨q, vm₁, ⟨U', l2, c2, s2⟩, hW₁, X', ⟨g', mk, t, L, E, ce, e1, e2, hq, hce, hcv, hcl, h1, hL, h2, h3⟩, st⟩
  · dsimp only [Pt.U, Pt.locs, Pt.cells, Pt.slots] at X' e1 e2 h1 h2 h3 st
    subst h1; subst h2; subst h3
    exact Or.inl ⟨v, (T.setVm vm₁).calling g' mk As.toArray, t, U', L, hT, X', hL, e1, e2, hq, st⟩
  · dsimp only [Pt.U, Pt.locs, Pt.cells, Pt.slots] at X' e1 e2 h1 h2 h3 st hcl
    subst h1; subst h2; subst h3
    exact Or.inr ⟨q, (T.setVm vm₁).calling g' mk As.toArray, t, U', L, E, ce, hT, X', hL, e1, e2, hq, hce, hcv, vx_cls hW₁ hcl, st⟩
end
end VXH
theorem vx_ofWH {l : Launch} {y : MethodName} {ws ws' : List Cond} {rm : Room} {Pc : Array Value → State → Prop} {Qc : Array Value → State → Outcome → State → Prop} {XC : String → State → State → Prop} {mc ms : Nat} {free : Addr → Prop} {cc : ByteArray} {maxL : Nat} {ret : Option FieldType} {hh : List (Nat × Nat × Nat × Nat)}
    (hy : plainName y.cls = true) (hw : ws = Cond.codeWith y cc maxL ret hh :: ws')
    (body : ∀ p e s m args below meth c s₁, BodyLoose p l y (headSpec ws rm) cc maxL ret e s m args below meth c s₁ → c.maxLocals = maxL → Pc args s →
      W p l e (headSpec ws rm).room s m args below meth c s.heap [] 0 0 (vx_MQ below Qc XC args s mc ms free) (entryFrame m args maxL)) : vx_Met l y ws rm Pc Qc XC mc ms free := by
  refine MetFree.of_bodyS (code := cc) (maxLocals := maxL) (ret := ret) hy ?_ ?_
  · intro args s m h hn
    obtain ⟨m9, meth, c, hn9, h1, h2, h3, h4, -, h5, h6, -⟩ := Cond.codeWith_spec (atoms_spec (ws := ws) h _ (by rw [hw]; exact List.mem_cons_self))
    cases hn.symm.trans hn9
    exact ⟨meth, c, h1, h2, h3, h4, h5, h6⟩
  · intro p e s m args below meth c s₁ B hml hP _
    have hh0 : s₁.heap = s.heap := by rw [B.state]; rfl
    obtain ⟨t, a1, o, b1, b2, b3⟩ := body p e s m args below meth c s₁ B hml hP s₁ hh0 (Stand.of_body B)
    exact ⟨t, o, a1, b1, b2, b3⟩
/-! ===== END ===== -/
end
section
def RX0 : String := "MessageBank$Block"
def TX0 : u_T := fun k => match k with
  | 0 => ("MessageBank$Block", "gapFrames", "[I", true)
  | 1 => ("MessageBank$Block", "sounds", "[I", true)
  | 2 => ("MessageBank$Block", "count", "I", false)
  | _ => ("MessageBank$Block", "after", "LMessageBank$Block;", false)
def tyX0 : Nat → FieldType := fun k => match k with
  | 0 => .array .int
  | 1 => .array .int
  | 2 => .int
  | _ => .object "MessageBank$Block"
abbrev wsX00 : List Cond := u_ws RX0 TX0 4
theorem nmX0 : ∀ a, a < 4 → ∀ b, b < 4 → a ≠ b → (TX0 a).2.1 ≠ (TX0 b).2.1 := by decide +kernel
theorem tyX0_ok : ∀ k, k < 4 → parseFieldDescriptor (TX0 k).2.2.1 = some (tyX0 k) := by decide +kernel
abbrev cX0_init : ByteArray := prog_2_method_1_code
def yX0_init : MethodName := ⟨RX0, "<init>", "()V"⟩
abbrev cX0_samplesAt : ByteArray := prog_2_method_2_code
def yX0_samplesAt : MethodName := ⟨RX0, "samplesAt", "(I)I"⟩
abbrev cX0_soundAt : ByteArray := prog_2_method_3_code
def yX0_soundAt : MethodName := ⟨RX0, "soundAt", "(II)I"⟩
def RX1 : String := "MessageBank$Box"
def TX1 : u_T := fun k => match k with
  | 0 => ("MessageBank$Box", "own", "[LMessageBank$Recording;", true)
  | _ => ("MessageBank$Box", "limit", "I", false)
def tyX1 : Nat → FieldType := fun k => match k with
  | 0 => .array (.object "MessageBank$Recording")
  | _ => .int
abbrev wsX10 : List Cond := u_ws RX1 TX1 2
theorem nmX1 : ∀ a, a < 2 → ∀ b, b < 2 → a ≠ b → (TX1 a).2.1 ≠ (TX1 b).2.1 := by decide +kernel
theorem tyX1_ok : ∀ k, k < 2 → parseFieldDescriptor (TX1 k).2.2.1 = some (tyX1 k) := by decide +kernel
abbrev cX1_init : ByteArray := prog_3_method_1_code
def yX1_init : MethodName := ⟨RX1, "<init>", "()V"⟩
def RX2 : String := "MessageBank$Line"
def TX2 : u_T := fun k => match k with
  | 0 => ("MessageBank$Line", "frame", "[I", true)
  | 1 => ("MessageBank$Line", "filled", "I", false)
  | 2 => ("MessageBank$Line", "busy", "Z", false)
  | 3 => ("MessageBank$Line", "ended", "Z", false)
  | 4 => ("MessageBank$Line", "box", "I", false)
  | 5 => ("MessageBank$Line", "kind", "I", false)
  | 6 => ("MessageBank$Line", "recording", "LMessageBank$Recording;", false)
  | 7 => ("MessageBank$Line", "quietFrames", "I", false)
  | 8 => ("MessageBank$Line", "guess", "I", false)
  | _ => ("MessageBank$Line", "index", "I", false)
def tyX2 : Nat → FieldType := fun k => match k with
  | 0 => .array .int
  | 1 => .int
  | 2 => .boolean
  | 3 => .boolean
  | 4 => .int
  | 5 => .int
  | 6 => .object "MessageBank$Recording"
  | 7 => .int
  | 8 => .int
  | _ => .int
abbrev wsX20 : List Cond := u_ws RX2 TX2 10
theorem nmX2 : ∀ a, a < 10 → ∀ b, b < 10 → a ≠ b → (TX2 a).2.1 ≠ (TX2 b).2.1 := by decide +kernel
theorem tyX2_ok : ∀ k, k < 10 → parseFieldDescriptor (TX2 k).2.2.1 = some (tyX2 k) := by decide +kernel
abbrev cX2_init : ByteArray := prog_4_method_1_code
def yX2_init : MethodName := ⟨RX2, "<init>", "()V"⟩
abbrev cX2_begin : ByteArray := prog_4_method_2_code
def yX2_begin : MethodName := ⟨RX2, "begin", "(II)V"⟩
abbrev cX2_speaksMessage : ByteArray := prog_4_method_3_code
def yX2_speaksMessage : MethodName := ⟨RX2, "speaksMessage", "()Z"⟩
abbrev cX2_addToFrame : ByteArray := prog_4_method_4_code
def yX2_addToFrame : MethodName := ⟨RX2, "addToFrame", "(I)V"⟩
abbrev cX2_fillFrame : ByteArray := prog_4_method_5_code
def yX2_fillFrame : MethodName := ⟨RX2, "fillFrame", "()V"⟩
abbrev cX2_isFrameQuiet : ByteArray := prog_4_method_6_code
def yX2_isFrameQuiet : MethodName := ⟨RX2, "isFrameQuiet", "()Z"⟩
abbrev cX2_lengthenGap : ByteArray := prog_4_method_7_code
def yX2_lengthenGap : MethodName := ⟨RX2, "lengthenGap", "()V"⟩
abbrev cX2_codeInto : ByteArray := prog_4_method_8_code
def yX2_codeInto : MethodName := ⟨RX2, "codeInto", "(LMessageBank$Block;[I)V"⟩
abbrev cX2_forgetGuess : ByteArray := prog_4_method_9_code
def yX2_forgetGuess : MethodName := ⟨RX2, "forgetGuess", "()V"⟩
abbrev cX2_tell : ByteArray := prog_4_method_10_code
def yX2_tell : MethodName := ⟨RX2, "tell", "(II)V"⟩
def RX3 : String := "MessageBank$Message"
def TX3 : u_T := fun k => match k with
  | 0 => ("MessageBank$Message", "number", "I", true)
  | 1 => ("MessageBank$Message", "box", "I", true)
  | 2 => ("MessageBank$Message", "recording", "LMessageBank$Recording;", true)
  | 3 => ("MessageBank$Message", "preface", "LMessageBank$Recording;", true)
  | _ => ("MessageBank$Message", "list", "I", false)
def tyX3 : Nat → FieldType := fun k => match k with
  | 0 => .int
  | 1 => .int
  | 2 => .object "MessageBank$Recording"
  | 3 => .object "MessageBank$Recording"
  | _ => .int
abbrev wsX30 : List Cond := u_ws RX3 TX3 5
theorem nmX3 : ∀ a, a < 5 → ∀ b, b < 5 → a ≠ b → (TX3 a).2.1 ≠ (TX3 b).2.1 := by decide +kernel
theorem tyX3_ok : ∀ k, k < 5 → parseFieldDescriptor (TX3 k).2.2.1 = some (tyX3 k) := by decide +kernel
abbrev cX3_init : ByteArray := prog_5_method_1_code
def yX3_init : MethodName := ⟨RX3, "<init>", "(IILMessageBank$Recording;LMessageBank$Recording;)V"⟩
def RX4 : String := "MessageBank$Recording"
def TX4 : u_T := fun k => match k with
  | 0 => ("MessageBank$Recording", "first", "LMessageBank$Block;", false)
  | 1 => ("MessageBank$Recording", "last", "LMessageBank$Block;", false)
  | 2 => ("MessageBank$Recording", "samples", "I", false)
  | 3 => ("MessageBank$Recording", "cost", "I", false)
  | _ => ("MessageBank$Recording", "holders", "I", false)
def tyX4 : Nat → FieldType := fun k => match k with
  | 0 => .object "MessageBank$Block"
  | 1 => .object "MessageBank$Block"
  | 2 => .int
  | 3 => .int
  | _ => .int
abbrev wsX40 : List Cond := u_ws RX4 TX4 5
theorem nmX4 : ∀ a, a < 5 → ∀ b, b < 5 → a ≠ b → (TX4 a).2.1 ≠ (TX4 b).2.1 := by decide +kernel
theorem tyX4_ok : ∀ k, k < 5 → parseFieldDescriptor (TX4 k).2.2.1 = some (tyX4 k) := by decide +kernel
abbrev cX4_init : ByteArray := prog_6_method_1_code
def yX4_init : MethodName := ⟨RX4, "<init>", "()V"⟩
abbrev cX4_isBlank : ByteArray := prog_6_method_2_code
def yX4_isBlank : MethodName := ⟨RX4, "isBlank", "()Z"⟩
abbrev cX4_needsBlock : ByteArray := prog_6_method_3_code
def yX4_needsBlock : MethodName := ⟨RX4, "needsBlock", "()Z"⟩
abbrev cX4_addBlock : ByteArray := prog_6_method_4_code
def yX4_addBlock : MethodName := ⟨RX4, "addBlock", "(LMessageBank$Block;)V"⟩
abbrev cX4_dropLastEntry : ByteArray := prog_6_method_5_code
def yX4_dropLastEntry : MethodName := ⟨RX4, "dropLastEntry", "()V"⟩
abbrev cX4_dropLastBlock : ByteArray := prog_6_method_6_code
def yX4_dropLastBlock : MethodName := ⟨RX4, "dropLastBlock", "()V"⟩
abbrev cX4_makeLastEntryGap : ByteArray := prog_6_method_7_code
def yX4_makeLastEntryGap : MethodName := ⟨RX4, "makeLastEntryGap", "()V"⟩
abbrev cX4_lengthenLastEntry : ByteArray := prog_6_method_8_code
def yX4_lengthenLastEntry : MethodName := ⟨RX4, "lengthenLastEntry", "()V"⟩
abbrev cX4_soundAt : ByteArray := prog_6_method_9_code
def yX4_soundAt : MethodName := ⟨RX4, "soundAt", "(I)I"⟩
abbrev cX4_freeBlocks : ByteArray := prog_6_method_10_code
def yX4_freeBlocks : MethodName := ⟨RX4, "freeBlocks", "()I"⟩
def RX5 : String := "MessageBank$Store"
def TX5 : u_T := fun k => match k with
  | _ => ("MessageBank$Store", "blocks", "[LMessageBank$Block;", true)
def tyX5 : Nat → FieldType := fun k => match k with
  | _ => .array (.object "MessageBank$Block")
abbrev wsX50 : List Cond := u_ws RX5 TX5 1
theorem nmX5 : ∀ a, a < 1 → ∀ b, b < 1 → a ≠ b → (TX5 a).2.1 ≠ (TX5 b).2.1 := by decide +kernel
theorem tyX5_ok : ∀ k, k < 1 → parseFieldDescriptor (TX5 k).2.2.1 = some (tyX5 k) := by decide +kernel
abbrev cX5_init : ByteArray := prog_7_method_1_code
def yX5_init : MethodName := ⟨RX5, "<init>", "()V"⟩
abbrev cX5_leastFree : ByteArray := prog_7_method_2_code
def yX5_leastFree : MethodName := ⟨RX5, "leastFree", "()I"⟩
abbrev cX5_greatestUsed : ByteArray := prog_7_method_3_code
def yX5_greatestUsed : MethodName := ⟨RX5, "greatestUsed", "()I"⟩
abbrev cX5_countFree : ByteArray := prog_7_method_4_code
def yX5_countFree : MethodName := ⟨RX5, "countFree", "()I"⟩
abbrev cX5_moveGreatest : ByteArray := prog_7_method_5_code
def yX5_moveGreatest : MethodName := ⟨RX5, "moveGreatest", "()Z"⟩
def RX6 : String := "MessageBank"
def TX6 : u_T := fun k => match k with
  | 0 => ("MessageBank", "steps", "[I", true)
  | 1 => ("MessageBank", "store", "LMessageBank$Store;", true)
  | 2 => ("MessageBank", "boxes", "[LMessageBank$Box;", true)
  | 3 => ("MessageBank", "lines", "[LMessageBank$Line;", true)
  | 4 => ("MessageBank", "messages", "Ljava/util/ArrayList;", true)
  | 5 => ("MessageBank", "boxCount", "I", false)
  | 6 => ("MessageBank", "messagesMade", "I", false)
  | _ => ("MessageBank", "recordingsHeld", "I", false)
def tyX6 : Nat → FieldType := fun k => match k with
  | 0 => .array .int
  | 1 => .object "MessageBank$Store"
  | 2 => .array (.object "MessageBank$Box")
  | 3 => .array (.object "MessageBank$Line")
  | 4 => .object "java/util/ArrayList"
  | 5 => .int
  | 6 => .int
  | _ => .int
abbrev wsX60 : List Cond := u_ws RX6 TX6 8
theorem nmX6 : ∀ a, a < 8 → ∀ b, b < 8 → a ≠ b → (TX6 a).2.1 ≠ (TX6 b).2.1 := by decide +kernel
theorem tyX6_ok : ∀ k, k < 8 → parseFieldDescriptor (TX6 k).2.2.1 = some (tyX6 k) := by decide +kernel
abbrev cX6_init : ByteArray := prog_1_method_1_code
def yX6_init : MethodName := ⟨RX6, "<init>", "()V"⟩
abbrev cX6_box : ByteArray := prog_1_method_2_code
def yX6_box : MethodName := ⟨RX6, "box", "(I)I"⟩
abbrev cX6_call : ByteArray := prog_1_method_3_code
def yX6_call : MethodName := ⟨RX6, "call", "(III)V"⟩
abbrev cX6_sample : ByteArray := prog_1_method_4_code
def yX6_sample : MethodName := ⟨RX6, "sample", "(II)Z"⟩
abbrev cX6_hang : ByteArray := prog_1_method_5_code
def yX6_hang : MethodName := ⟨RX6, "hang", "(I)I"⟩
abbrev cX6_next : ByteArray := prog_1_method_6_code
def yX6_next : MethodName := ⟨RX6, "next", "(III)I"⟩
abbrev cX6_mark : ByteArray := prog_1_method_7_code
def yX6_mark : MethodName := ⟨RX6, "mark", "(II)I"⟩
abbrev cX6_erase : ByteArray := prog_1_method_8_code
def yX6_erase : MethodName := ⟨RX6, "erase", "(I)I"⟩
abbrev cX6_forward : ByteArray := prog_1_method_9_code
def yX6_forward : MethodName := ⟨RX6, "forward", "(II)I"⟩
abbrev cX6_duration : ByteArray := prog_1_method_10_code
def yX6_duration : MethodName := ⟨RX6, "duration", "(I)I"⟩
abbrev cX6_play : ByteArray := prog_1_method_11_code
def yX6_play : MethodName := ⟨RX6, "play", "(II)I"⟩
abbrev cX6_length : ByteArray := prog_1_method_12_code
def yX6_length : MethodName := ⟨RX6, "length", "(II)I"⟩
abbrev cX6_greeting : ByteArray := prog_1_method_13_code
def yX6_greeting : MethodName := ⟨RX6, "greeting", "(III)I"⟩
abbrev cX6_used : ByteArray := prog_1_method_14_code
def yX6_used : MethodName := ⟨RX6, "used", "(I)I"⟩
abbrev cX6_quota : ByteArray := prog_1_method_15_code
def yX6_quota : MethodName := ⟨RX6, "quota", "(I)I"⟩
abbrev cX6_pack : ByteArray := prog_1_method_16_code
def yX6_pack : MethodName := ⟨RX6, "pack", "(I)I"⟩
abbrev cX6_block : ByteArray := prog_1_method_17_code
def yX6_block : MethodName := ⟨RX6, "block", "(I)I"⟩
abbrev cX6_step : ByteArray := prog_1_method_18_code
def yX6_step : MethodName := ⟨RX6, "step", "(I)I"⟩
abbrev cX6_total : ByteArray := prog_1_method_19_code
def yX6_total : MethodName := ⟨RX6, "total", "(I)I"⟩
abbrev cX6_requireBox : ByteArray := prog_1_method_20_code
def yX6_requireBox : MethodName := ⟨RX6, "requireBox", "(I)V"⟩
abbrev cX6_requireLine : ByteArray := prog_1_method_21_code
def yX6_requireLine : MethodName := ⟨RX6, "requireLine", "(I)V"⟩
abbrev cX6_requireList : ByteArray := prog_1_method_22_code
def yX6_requireList : MethodName := ⟨RX6, "requireList", "(I)V"⟩
abbrev cX6_requireOwn : ByteArray := prog_1_method_23_code
def yX6_requireOwn : MethodName := ⟨RX6, "requireOwn", "(I)V"⟩
abbrev cX6_busyLine : ByteArray := prog_1_method_24_code
def yX6_busyLine : MethodName := ⟨RX6, "busyLine", "(I)LMessageBank$Line;"⟩
abbrev cX6_placeOf : ByteArray := prog_1_method_25_code
def yX6_placeOf : MethodName := ⟨RX6, "placeOf", "(I)I"⟩
abbrev cX6_numberInList : ByteArray := prog_1_method_26_code
def yX6_numberInList : MethodName := ⟨RX6, "numberInList", "(III)I"⟩
abbrev cX6_hasRoomForMessage : ByteArray := prog_1_method_27_code
def yX6_hasRoomForMessage : MethodName := ⟨RX6, "hasRoomForMessage", "()Z"⟩
abbrev cX6_usedBy : ByteArray := prog_1_method_28_code
def yX6_usedBy : MethodName := ⟨RX6, "usedBy", "(I)I"⟩
abbrev cX6_isWithinQuota : ByteArray := prog_1_method_29_code
def yX6_isWithinQuota : MethodName := ⟨RX6, "isWithinQuota", "(II)Z"⟩
abbrev cX6_busyBits : ByteArray := prog_1_method_30_code
def yX6_busyBits : MethodName := ⟨RX6, "busyBits", "()I"⟩
abbrev cX6_addMessage : ByteArray := prog_1_method_31_code
def yX6_addMessage : MethodName := ⟨RX6, "addMessage", "(ILMessageBank$Recording;LMessageBank$Recording;)I"⟩
abbrev cX6_replaceOwn : ByteArray := prog_1_method_32_code
def yX6_replaceOwn : MethodName := ⟨RX6, "replaceOwn", "(LMessageBank$Box;ILMessageBank$Recording;)V"⟩
abbrev cX6_hold : ByteArray := prog_1_method_33_code
def yX6_hold : MethodName := ⟨RX6, "hold", "(LMessageBank$Recording;)V"⟩
abbrev cX6_release : ByteArray := prog_1_method_34_code
def yX6_release : MethodName := ⟨RX6, "release", "(LMessageBank$Recording;)I"⟩
abbrev cX6_takeFrame : ByteArray := prog_1_method_35_code
def yX6_takeFrame : MethodName := ⟨RX6, "takeFrame", "(LMessageBank$Line;)V"⟩
abbrev cX6_gapPrice : ByteArray := prog_1_method_36_code
def yX6_gapPrice : MethodName := ⟨RX6, "gapPrice", "(I)I"⟩
abbrev cX6_fits : ByteArray := prog_1_method_37_code
def yX6_fits : MethodName := ⟨RX6, "fits", "(LMessageBank$Line;ZI)Z"⟩
abbrev cX6_codeFrame : ByteArray := prog_1_method_38_code
def yX6_codeFrame : MethodName := ⟨RX6, "codeFrame", "(LMessageBank$Line;)V"⟩
abbrev cX6_costOf : ByteArray := prog_1_method_39_code
def yX6_costOf : MethodName := ⟨RX6, "costOf", "(LMessageBank$Recording;)I"⟩
abbrev cX6_samplesOf : ByteArray := prog_1_method_40_code
def yX6_samplesOf : MethodName := ⟨RX6, "samplesOf", "(LMessageBank$Recording;)I"⟩
abbrev cX6_soundOf : ByteArray := prog_1_method_41_code
def yX6_soundOf : MethodName := ⟨RX6, "soundOf", "(LMessageBank$Recording;I)I"⟩
abbrev cX6_between : ByteArray := prog_1_method_42_code
def yX6_between : MethodName := ⟨RX6, "between", "(III)I"⟩
def RX7 : String := "MessageBankModel"
def TX7 : u_T := fun k => match k with
  | 0 => ("MessageBankModel", "thrown", "I", false)
  | 1 => ("MessageBankModel", "steps", "[I", true)
  | 2 => ("MessageBankModel", "counts", "[I", true)
  | 3 => ("MessageBankModel", "nexts", "[I", true)
  | 4 => ("MessageBankModel", "gaps", "[I", true)
  | 5 => ("MessageBankModel", "codes", "[I", true)
  | 6 => ("MessageBankModel", "users", "[I", true)
  | 7 => ("MessageBankModel", "open", "[Z", true)
  | 8 => ("MessageBankModel", "firsts", "[I", true)
  | 9 => ("MessageBankModel", "sizes", "[I", true)
  | 10 => ("MessageBankModel", "boxes", "I", false)
  | 11 => ("MessageBankModel", "quotas", "[I", true)
  | 12 => ("MessageBankModel", "spoken", "[I", true)
  | 13 => ("MessageBankModel", "messages", "I", false)
  | 14 => ("MessageBankModel", "made", "I", false)
  | 15 => ("MessageBankModel", "numbers", "[I", true)
  | 16 => ("MessageBankModel", "boxOf", "[I", true)
  | 17 => ("MessageBankModel", "lists", "[I", true)
  | 18 => ("MessageBankModel", "records", "[I", true)
  | 19 => ("MessageBankModel", "prefaces", "[I", true)
  | 20 => ("MessageBankModel", "busy", "[Z", true)
  | 21 => ("MessageBankModel", "lineBox", "[I", true)
  | 22 => ("MessageBankModel", "lineKind", "[I", true)
  | 23 => ("MessageBankModel", "lineRecord", "[I", true)
  | 24 => ("MessageBankModel", "ended", "[Z", true)
  | 25 => ("MessageBankModel", "taken", "[I", true)
  | 26 => ("MessageBankModel", "samples", "[I", true)
  | 27 => ("MessageBankModel", "quiet", "[I", true)
  | 28 => ("MessageBankModel", "guesses", "[I", true)
  | 29 => ("MessageBankModel", "indexes", "[I", true)
  | 30 => ("MessageBankModel", "guess", "I", false)
  | _ => ("MessageBankModel", "index", "I", false)
def tyX7 : Nat → FieldType := fun k => match k with
  | 0 => .int
  | 1 => .array .int
  | 2 => .array .int
  | 3 => .array .int
  | 4 => .array .int
  | 5 => .array .int
  | 6 => .array .int
  | 7 => .array .boolean
  | 8 => .array .int
  | 9 => .array .int
  | 10 => .int
  | 11 => .array .int
  | 12 => .array .int
  | 13 => .int
  | 14 => .int
  | 15 => .array .int
  | 16 => .array .int
  | 17 => .array .int
  | 18 => .array .int
  | 19 => .array .int
  | 20 => .array .boolean
  | 21 => .array .int
  | 22 => .array .int
  | 23 => .array .int
  | 24 => .array .boolean
  | 25 => .array .int
  | 26 => .array .int
  | 27 => .array .int
  | 28 => .array .int
  | 29 => .array .int
  | 30 => .int
  | _ => .int
abbrev wsX70 : List Cond := u_ws RX7 TX7 32
theorem nmX7 : ∀ a, a < 32 → ∀ b, b < 32 → a ≠ b → (TX7 a).2.1 ≠ (TX7 b).2.1 := by decide +kernel
theorem tyX7_ok : ∀ k, k < 32 → parseFieldDescriptor (TX7 k).2.2.1 = some (tyX7 k) := by decide +kernel
abbrev cX7_init : ByteArray := prog_9_method_1_code
def yX7_init : MethodName := ⟨RX7, "<init>", "()V"⟩
abbrev cX7_thrown : ByteArray := prog_9_method_2_code
def yX7_thrown : MethodName := ⟨RX7, "thrown", "()I"⟩
abbrev cX7_hear : ByteArray := prog_9_method_3_code
def yX7_hear : MethodName := ⟨RX7, "hear", "(I)V"⟩
abbrev cX7_code : ByteArray := prog_9_method_4_code
def yX7_code : MethodName := ⟨RX7, "code", "(I)I"⟩
abbrev cX7_freeBlock : ByteArray := prog_9_method_5_code
def yX7_freeBlock : MethodName := ⟨RX7, "freeBlock", "()I"⟩
abbrev cX7_entryAt : ByteArray := prog_9_method_6_code
def yX7_entryAt : MethodName := ⟨RX7, "entryAt", "(II)I"⟩
abbrev cX7_append : ByteArray := prog_9_method_7_code
def yX7_append : MethodName := ⟨RX7, "append", "(II)V"⟩
abbrev cX7_dropLast : ByteArray := prog_9_method_8_code
def yX7_dropLast : MethodName := ⟨RX7, "dropLast", "(I)V"⟩
abbrev cX7_release : ByteArray := prog_9_method_9_code
def yX7_release : MethodName := ⟨RX7, "release", "(I)I"⟩
abbrev cX7_letGo : ByteArray := prog_9_method_10_code
def yX7_letGo : MethodName := ⟨RX7, "letGo", "(I)I"⟩
abbrev cX7_costOfGap : ByteArray := prog_9_method_11_code
def yX7_costOfGap : MethodName := ⟨RX7, "costOfGap", "(I)I"⟩
abbrev cX7_cost : ByteArray := prog_9_method_12_code
def yX7_cost : MethodName := ⟨RX7, "cost", "(I)I"⟩
abbrev cX7_frames : ByteArray := prog_9_method_13_code
def yX7_frames : MethodName := ⟨RX7, "frames", "(I)I"⟩
abbrev cX7_sound : ByteArray := prog_9_method_14_code
def yX7_sound : MethodName := ⟨RX7, "sound", "(II)I"⟩
abbrev cX7_isBox : ByteArray := prog_9_method_15_code
def yX7_isBox : MethodName := ⟨RX7, "isBox", "(I)Z"⟩
abbrev cX7_usedBy : ByteArray := prog_9_method_16_code
def yX7_usedBy : MethodName := ⟨RX7, "usedBy", "(I)I"⟩
abbrev cX7_isFull : ByteArray := prog_9_method_17_code
def yX7_isFull : MethodName := ⟨RX7, "isFull", "()Z"⟩
abbrev cX7_box : ByteArray := prog_9_method_18_code
def yX7_box : MethodName := ⟨RX7, "box", "(I)I"⟩
abbrev cX7_isLine : ByteArray := prog_9_method_19_code
def yX7_isLine : MethodName := ⟨RX7, "isLine", "(I)Z"⟩
abbrev cX7_call : ByteArray := prog_9_method_20_code
def yX7_call : MethodName := ⟨RX7, "call", "(III)V"⟩
abbrev cX7_isPaid : ByteArray := prog_9_method_21_code
def yX7_isPaid : MethodName := ⟨RX7, "isPaid", "(II)Z"⟩
abbrev cX7_codeFrame : ByteArray := prog_9_method_22_code
def yX7_codeFrame : MethodName := ⟨RX7, "codeFrame", "(I)V"⟩
abbrev cX7_growGap : ByteArray := prog_9_method_23_code
def yX7_growGap : MethodName := ⟨RX7, "growGap", "(I)V"⟩
abbrev cX7_frame : ByteArray := prog_9_method_24_code
def yX7_frame : MethodName := ⟨RX7, "frame", "(I)V"⟩
abbrev cX7_sample : ByteArray := prog_9_method_25_code
def yX7_sample : MethodName := ⟨RX7, "sample", "(II)Z"⟩
abbrev cX7_hang : ByteArray := prog_9_method_26_code
def yX7_hang : MethodName := ⟨RX7, "hang", "(I)I"⟩
abbrev cX7_add : ByteArray := prog_9_method_27_code
def yX7_add : MethodName := ⟨RX7, "add", "(III)I"⟩
abbrev cX7_find : ByteArray := prog_9_method_28_code
def yX7_find : MethodName := ⟨RX7, "find", "(I)I"⟩
abbrev cX7_next : ByteArray := prog_9_method_29_code
def yX7_next : MethodName := ⟨RX7, "next", "(III)I"⟩
abbrev cX7_mark : ByteArray := prog_9_method_30_code
def yX7_mark : MethodName := ⟨RX7, "mark", "(II)I"⟩
abbrev cX7_erase : ByteArray := prog_9_method_31_code
def yX7_erase : MethodName := ⟨RX7, "erase", "(I)I"⟩
abbrev cX7_forward : ByteArray := prog_9_method_32_code
def yX7_forward : MethodName := ⟨RX7, "forward", "(II)I"⟩
abbrev cX7_duration : ByteArray := prog_9_method_33_code
def yX7_duration : MethodName := ⟨RX7, "duration", "(I)I"⟩
abbrev cX7_play : ByteArray := prog_9_method_34_code
def yX7_play : MethodName := ⟨RX7, "play", "(II)I"⟩
abbrev cX7_length : ByteArray := prog_9_method_35_code
def yX7_length : MethodName := ⟨RX7, "length", "(II)I"⟩
abbrev cX7_greeting : ByteArray := prog_9_method_36_code
def yX7_greeting : MethodName := ⟨RX7, "greeting", "(III)I"⟩
abbrev cX7_used : ByteArray := prog_9_method_37_code
def yX7_used : MethodName := ⟨RX7, "used", "(I)I"⟩
abbrev cX7_quota : ByteArray := prog_9_method_38_code
def yX7_quota : MethodName := ⟨RX7, "quota", "(I)I"⟩
abbrev cX7_lastBlock : ByteArray := prog_9_method_39_code
def yX7_lastBlock : MethodName := ⟨RX7, "lastBlock", "()I"⟩
abbrev cX7_moveBlock : ByteArray := prog_9_method_40_code
def yX7_moveBlock : MethodName := ⟨RX7, "moveBlock", "(II)V"⟩
abbrev cX7_pack : ByteArray := prog_9_method_41_code
def yX7_pack : MethodName := ⟨RX7, "pack", "(I)I"⟩
abbrev cX7_block : ByteArray := prog_9_method_42_code
def yX7_block : MethodName := ⟨RX7, "block", "(I)I"⟩
abbrev cX7_step : ByteArray := prog_9_method_43_code
def yX7_step : MethodName := ⟨RX7, "step", "(I)I"⟩
abbrev cX7_total : ByteArray := prog_9_method_44_code
def yX7_total : MethodName := ⟨RX7, "total", "(I)I"⟩
def RJx145de : String := "java/io/Serializable"
def TJx145de : u_T := fun k => match k with
  | _ => ("", "", "", false)
def tyJx145de : Nat → FieldType := fun k => match k with
  | _ => .int
abbrev wsJx145de0 : List Cond := u_ws RJx145de TJx145de 0
theorem nmJx145de : ∀ a, a < 0 → ∀ b, b < 0 → a ≠ b → (TJx145de a).2.1 ≠ (TJx145de b).2.1 := by decide +kernel
theorem tyJx145de_ok : ∀ k, k < 0 → parseFieldDescriptor (TJx145de k).2.2.1 = some (tyJx145de k) := by decide +kernel
def RJx8e188 : String := "java/lang/Cloneable"
def TJx8e188 : u_T := fun k => match k with
  | _ => ("", "", "", false)
def tyJx8e188 : Nat → FieldType := fun k => match k with
  | _ => .int
abbrev wsJx8e1880 : List Cond := u_ws RJx8e188 TJx8e188 0
theorem nmJx8e188 : ∀ a, a < 0 → ∀ b, b < 0 → a ≠ b → (TJx8e188 a).2.1 ≠ (TJx8e188 b).2.1 := by decide +kernel
theorem tyJx8e188_ok : ∀ k, k < 0 → parseFieldDescriptor (TJx8e188 k).2.2.1 = some (tyJx8e188 k) := by decide +kernel
def RJxab1ab : String := "java/lang/Iterable"
def TJxab1ab : u_T := fun k => match k with
  | _ => ("", "", "", false)
def tyJxab1ab : Nat → FieldType := fun k => match k with
  | _ => .int
abbrev wsJxab1ab0 : List Cond := u_ws RJxab1ab TJxab1ab 0
theorem nmJxab1ab : ∀ a, a < 0 → ∀ b, b < 0 → a ≠ b → (TJxab1ab a).2.1 ≠ (TJxab1ab b).2.1 := by decide +kernel
theorem tyJxab1ab_ok : ∀ k, k < 0 → parseFieldDescriptor (TJxab1ab k).2.2.1 = some (tyJxab1ab k) := by decide +kernel
def RJ9 : String := "java/lang/Math"
def TJ9 : u_T := fun k => match k with
  | _ => ("", "", "", false)
def tyJ9 : Nat → FieldType := fun k => match k with
  | _ => .int
abbrev wsJ90 : List Cond := u_ws RJ9 TJ9 0
theorem nmJ9 : ∀ a, a < 0 → ∀ b, b < 0 → a ≠ b → (TJ9 a).2.1 ≠ (TJ9 b).2.1 := by decide +kernel
theorem tyJ9_ok : ∀ k, k < 0 → parseFieldDescriptor (TJ9 k).2.2.1 = some (tyJ9 k) := by decide +kernel
abbrev cJ9_max_7cf53 : ByteArray := prog_17_method_65_code
def yJ9_max_7cf53 : MethodName := ⟨RJ9, "max", "(II)I"⟩
abbrev cJ9_min_7cf53 : ByteArray := prog_17_method_69_code
def yJ9_min_7cf53 : MethodName := ⟨RJ9, "min", "(II)I"⟩
def RJ0 : String := "java/lang/String"
def TJ0 : u_T := fun k => match k with
  | _ => ("", "", "", false)
def tyJ0 : Nat → FieldType := fun k => match k with
  | _ => .int
abbrev wsJ00 : List Cond := u_ws RJ0 TJ0 0
theorem nmJ0 : ∀ a, a < 0 → ∀ b, b < 0 → a ≠ b → (TJ0 a).2.1 ≠ (TJ0 b).2.1 := by decide +kernel
theorem tyJ0_ok : ∀ k, k < 0 → parseFieldDescriptor (TJ0 k).2.2.1 = some (tyJ0 k) := by decide +kernel
def RJ10 : String := "java/lang/System"
def TJ10 : u_T := fun k => match k with
  | _ => ("", "", "", false)
def tyJ10 : Nat → FieldType := fun k => match k with
  | _ => .int
abbrev wsJ100 : List Cond := u_ws RJ10 TJ10 0
theorem nmJ10 : ∀ a, a < 0 → ∀ b, b < 0 → a ≠ b → (TJ10 a).2.1 ≠ (TJ10 b).2.1 := by decide +kernel
theorem tyJ10_ok : ∀ k, k < 0 → parseFieldDescriptor (TJ10 k).2.2.1 = some (tyJ10 k) := by decide +kernel
def RJxa1e45 : String := "java/util/AbstractCollection"
def TJxa1e45 : u_T := fun k => match k with
  | _ => ("", "", "", false)
def tyJxa1e45 : Nat → FieldType := fun k => match k with
  | _ => .int
abbrev wsJxa1e450 : List Cond := u_ws RJxa1e45 TJxa1e45 0
theorem nmJxa1e45 : ∀ a, a < 0 → ∀ b, b < 0 → a ≠ b → (TJxa1e45 a).2.1 ≠ (TJxa1e45 b).2.1 := by decide +kernel
theorem tyJxa1e45_ok : ∀ k, k < 0 → parseFieldDescriptor (TJxa1e45 k).2.2.1 = some (tyJxa1e45 k) := by decide +kernel
abbrev cJxa1e45_init_da8c8 : ByteArray := prog_22_method_1_code
def yJxa1e45_init_da8c8 : MethodName := ⟨RJxa1e45, "<init>", "()V"⟩
def RJxc12de : String := "java/util/AbstractList"
def TJxc12de : u_T := fun k => match k with
  | _ => ("", "", "", false)
def tyJxc12de : Nat → FieldType := fun k => match k with
  | _ => .int
abbrev wsJxc12de0 : List Cond := u_ws RJxc12de TJxc12de 0
theorem nmJxc12de : ∀ a, a < 0 → ∀ b, b < 0 → a ≠ b → (TJxc12de a).2.1 ≠ (TJxc12de b).2.1 := by decide +kernel
theorem tyJxc12de_ok : ∀ k, k < 0 → parseFieldDescriptor (TJxc12de k).2.2.1 = some (tyJxc12de k) := by decide +kernel
abbrev cJxc12de_init_da8c8 : ByteArray := prog_23_method_1_code
def yJxc12de_init_da8c8 : MethodName := ⟨RJxc12de, "<init>", "()V"⟩
def RJx4a65c : String := "java/util/ArrayList"
def TJx4a65c : u_T := fun k => match k with
  | 0 => ("java/util/AbstractList", "modCount", "I", false)
  | 1 => ("java/util/ArrayList", "elementData", "[Ljava/lang/Object;", false)
  | _ => ("java/util/ArrayList", "size", "I", false)
def tyJx4a65c : Nat → FieldType := fun k => match k with
  | 0 => .int
  | 1 => .array (.object "java/lang/Object")
  | _ => .int
abbrev wsJx4a65c0 : List Cond := u_ws RJx4a65c TJx4a65c 3
theorem nmJx4a65c : ∀ a, a < 3 → ∀ b, b < 3 → a ≠ b → (TJx4a65c a).2.1 ≠ (TJx4a65c b).2.1 := by decide +kernel
theorem tyJx4a65c_ok : ∀ k, k < 3 → parseFieldDescriptor (TJx4a65c k).2.2.1 = some (tyJx4a65c k) := by decide +kernel
abbrev cJx4a65c_init_da8c8 : ByteArray := prog_24_method_2_code
def yJx4a65c_init_da8c8 : MethodName := ⟨RJx4a65c, "<init>", "()V"⟩
abbrev cJx4a65c_grow_92f84 : ByteArray := prog_24_method_6_code
def yJx4a65c_grow_92f84 : MethodName := ⟨RJx4a65c, "grow", "(I)[Ljava/lang/Object;"⟩
abbrev cJx4a65c_grow_d5877 : ByteArray := prog_24_method_7_code
def yJx4a65c_grow_d5877 : MethodName := ⟨RJx4a65c, "grow", "()[Ljava/lang/Object;"⟩
abbrev cJx4a65c_size_8abf5 : ByteArray := prog_24_method_8_code
def yJx4a65c_size_8abf5 : MethodName := ⟨RJx4a65c, "size", "()I"⟩
abbrev cJx4a65c_elementData_915e3 : ByteArray := prog_24_method_18_code
def yJx4a65c_elementData_915e3 : MethodName := ⟨RJx4a65c, "elementData", "(I)Ljava/lang/Object;"⟩
abbrev cJx4a65c_get_915e3 : ByteArray := prog_24_method_20_code
def yJx4a65c_get_915e3 : MethodName := ⟨RJx4a65c, "get", "(I)Ljava/lang/Object;"⟩
abbrev cJx4a65c_add_72be8 : ByteArray := prog_24_method_24_code
def yJx4a65c_add_72be8 : MethodName := ⟨RJx4a65c, "add", "(Ljava/lang/Object;[Ljava/lang/Object;I)V"⟩
abbrev cJx4a65c_add_9ea2d : ByteArray := prog_24_method_25_code
def yJx4a65c_add_9ea2d : MethodName := ⟨RJx4a65c, "add", "(Ljava/lang/Object;)Z"⟩
abbrev cJx4a65c_remove_915e3 : ByteArray := prog_24_method_29_code
def yJx4a65c_remove_915e3 : MethodName := ⟨RJx4a65c, "remove", "(I)Ljava/lang/Object;"⟩
abbrev cJx4a65c_fastRemove_b59b0 : ByteArray := prog_24_method_39_code
def yJx4a65c_fastRemove_b59b0 : MethodName := ⟨RJx4a65c, "fastRemove", "([Ljava/lang/Object;I)V"⟩
def RJ7 : String := "java/util/Arrays"
def TJ7 : u_T := fun k => match k with
  | _ => ("", "", "", false)
def tyJ7 : Nat → FieldType := fun k => match k with
  | _ => .int
abbrev wsJ70 : List Cond := u_ws RJ7 TJ7 0
theorem nmJ7 : ∀ a, a < 0 → ∀ b, b < 0 → a ≠ b → (TJ7 a).2.1 ≠ (TJ7 b).2.1 := by decide +kernel
theorem tyJ7_ok : ∀ k, k < 0 → parseFieldDescriptor (TJ7 k).2.2.1 = some (tyJ7 k) := by decide +kernel
abbrev cJ7_copyOf_1904c : ByteArray := prog_25_method_119_code
def yJ7_copyOf_1904c : MethodName := ⟨RJ7, "copyOf", "([Ljava/lang/Object;I)[Ljava/lang/Object;"⟩
abbrev cJ7_copyOf_6403c : ByteArray := prog_25_method_120_code
def yJ7_copyOf_6403c : MethodName := ⟨RJ7, "copyOf", "([Ljava/lang/Object;ILjava/lang/Class;)[Ljava/lang/Object;"⟩
def RJx5ef63 : String := "java/util/Collection"
def TJx5ef63 : u_T := fun k => match k with
  | _ => ("", "", "", false)
def tyJx5ef63 : Nat → FieldType := fun k => match k with
  | _ => .int
abbrev wsJx5ef630 : List Cond := u_ws RJx5ef63 TJx5ef63 0
theorem nmJx5ef63 : ∀ a, a < 0 → ∀ b, b < 0 → a ≠ b → (TJx5ef63 a).2.1 ≠ (TJx5ef63 b).2.1 := by decide +kernel
theorem tyJx5ef63_ok : ∀ k, k < 0 → parseFieldDescriptor (TJx5ef63 k).2.2.1 = some (tyJx5ef63 k) := by decide +kernel
def RJxbd725 : String := "java/util/List"
def TJxbd725 : u_T := fun k => match k with
  | _ => ("", "", "", false)
def tyJxbd725 : Nat → FieldType := fun k => match k with
  | _ => .int
abbrev wsJxbd7250 : List Cond := u_ws RJxbd725 TJxbd725 0
theorem nmJxbd725 : ∀ a, a < 0 → ∀ b, b < 0 → a ≠ b → (TJxbd725 a).2.1 ≠ (TJxbd725 b).2.1 := by decide +kernel
theorem tyJxbd725_ok : ∀ k, k < 0 → parseFieldDescriptor (TJxbd725 k).2.2.1 = some (tyJxbd725 k) := by decide +kernel
def RJ15 : String := "java/util/Objects"
def TJ15 : u_T := fun k => match k with
  | _ => ("", "", "", false)
def tyJ15 : Nat → FieldType := fun k => match k with
  | _ => .int
abbrev wsJ150 : List Cond := u_ws RJ15 TJ15 0
theorem nmJ15 : ∀ a, a < 0 → ∀ b, b < 0 → a ≠ b → (TJ15 a).2.1 ≠ (TJ15 b).2.1 := by decide +kernel
theorem tyJ15_ok : ∀ k, k < 0 → parseFieldDescriptor (TJ15 k).2.2.1 = some (tyJ15 k) := by decide +kernel
abbrev cJ15_checkIndex_7cf53 : ByteArray := prog_29_method_17_code
def yJ15_checkIndex_7cf53 : MethodName := ⟨RJ15, "checkIndex", "(II)I"⟩
def RJxf0a74 : String := "java/util/RandomAccess"
def TJxf0a74 : u_T := fun k => match k with
  | _ => ("", "", "", false)
def tyJxf0a74 : Nat → FieldType := fun k => match k with
  | _ => .int
abbrev wsJxf0a740 : List Cond := u_ws RJxf0a74 TJxf0a74 0
theorem nmJxf0a74 : ∀ a, a < 0 → ∀ b, b < 0 → a ≠ b → (TJxf0a74 a).2.1 ≠ (TJxf0a74 b).2.1 := by decide +kernel
theorem tyJxf0a74_ok : ∀ k, k < 0 → parseFieldDescriptor (TJxf0a74 k).2.2.1 = some (tyJxf0a74 k) := by decide +kernel
def RJxa66e6 : String := "java/util/SequencedCollection"
def TJxa66e6 : u_T := fun k => match k with
  | _ => ("", "", "", false)
def tyJxa66e6 : Nat → FieldType := fun k => match k with
  | _ => .int
abbrev wsJxa66e60 : List Cond := u_ws RJxa66e6 TJxa66e6 0
theorem nmJxa66e6 : ∀ a, a < 0 → ∀ b, b < 0 → a ≠ b → (TJxa66e6 a).2.1 ≠ (TJxa66e6 b).2.1 := by decide +kernel
theorem tyJxa66e6_ok : ∀ k, k < 0 → parseFieldDescriptor (TJxa66e6 k).2.2.1 = some (tyJxa66e6 k) := by decide +kernel
def RJ8 : String := "jdk/internal/util/ArraysSupport"
def TJ8 : u_T := fun k => match k with
  | _ => ("", "", "", false)
def tyJ8 : Nat → FieldType := fun k => match k with
  | _ => .int
abbrev wsJ80 : List Cond := u_ws RJ8 TJ8 0
theorem nmJ8 : ∀ a, a < 0 → ∀ b, b < 0 → a ≠ b → (TJ8 a).2.1 ≠ (TJ8 b).2.1 := by decide +kernel
theorem tyJ8_ok : ∀ k, k < 0 → parseFieldDescriptor (TJ8 k).2.2.1 = some (tyJ8 k) := by decide +kernel
abbrev cJ8_newLength_cabcc : ByteArray := prog_32_method_27_code
def yJ8_newLength_cabcc : MethodName := ⟨RJ8, "newLength", "(III)I"⟩
abbrev cJ8_hugeLength_7cf53 : ByteArray := prog_32_method_28_code
def yJ8_hugeLength_7cf53 : MethodName := ⟨RJ8, "hugeLength", "(II)I"⟩
def RJ3 : String := "jdk/internal/util/Preconditions"
def TJ3 : u_T := fun k => match k with
  | _ => ("", "", "", false)
def tyJ3 : Nat → FieldType := fun k => match k with
  | _ => .int
abbrev wsJ30 : List Cond := u_ws RJ3 TJ3 0
theorem nmJ3 : ∀ a, a < 0 → ∀ b, b < 0 → a ≠ b → (TJ3 a).2.1 ≠ (TJ3 b).2.1 := by decide +kernel
theorem tyJ3_ok : ∀ k, k < 0 → parseFieldDescriptor (TJ3 k).2.2.1 = some (tyJ3 k) := by decide +kernel
abbrev cJ3_checkIndex_8e157 : ByteArray := prog_33_method_11_code
def yJ3_checkIndex_8e157 : MethodName := ⟨RJ3, "checkIndex", "(IILjava/util/function/BiFunction;)I"⟩
def RL : String := "MessageBankLaw"
abbrev cL_box : ByteArray := method_3_code
def yL_box : MethodName := ⟨RL, "box", "(LMessageBank;I[J)I"⟩
abbrev cL_call : ByteArray := method_4_code
def yL_call : MethodName := ⟨RL, "call", "(LMessageBank;III)I"⟩
abbrev cL_sample : ByteArray := method_5_code
def yL_sample : MethodName := ⟨RL, "sample", "(LMessageBank;II[J)I"⟩
abbrev cL_hang : ByteArray := method_6_code
def yL_hang : MethodName := ⟨RL, "hang", "(LMessageBank;I[J)I"⟩
abbrev cL_next : ByteArray := method_7_code
def yL_next : MethodName := ⟨RL, "next", "(LMessageBank;III[J)I"⟩
abbrev cL_mark : ByteArray := method_8_code
def yL_mark : MethodName := ⟨RL, "mark", "(LMessageBank;II[J)I"⟩
abbrev cL_erase : ByteArray := method_9_code
def yL_erase : MethodName := ⟨RL, "erase", "(LMessageBank;I[J)I"⟩
abbrev cL_forward : ByteArray := method_10_code
def yL_forward : MethodName := ⟨RL, "forward", "(LMessageBank;II[J)I"⟩
abbrev cL_duration : ByteArray := method_11_code
def yL_duration : MethodName := ⟨RL, "duration", "(LMessageBank;I[J)I"⟩
abbrev cL_play : ByteArray := method_12_code
def yL_play : MethodName := ⟨RL, "play", "(LMessageBank;II[J)I"⟩
abbrev cL_length : ByteArray := method_13_code
def yL_length : MethodName := ⟨RL, "length", "(LMessageBank;II[J)I"⟩
abbrev cL_greeting : ByteArray := method_14_code
def yL_greeting : MethodName := ⟨RL, "greeting", "(LMessageBank;III[J)I"⟩
abbrev cL_used : ByteArray := method_15_code
def yL_used : MethodName := ⟨RL, "used", "(LMessageBank;I[J)I"⟩
abbrev cL_quota : ByteArray := method_16_code
def yL_quota : MethodName := ⟨RL, "quota", "(LMessageBank;I[J)I"⟩
abbrev cL_pack : ByteArray := method_17_code
def yL_pack : MethodName := ⟨RL, "pack", "(LMessageBank;I[J)I"⟩
abbrev cL_block : ByteArray := method_18_code
def yL_block : MethodName := ⟨RL, "block", "(LMessageBank;I[J)I"⟩
abbrev cL_step : ByteArray := method_19_code
def yL_step : MethodName := ⟨RL, "step", "(LMessageBank;I[J)I"⟩
abbrev cL_law : ByteArray := code
def yL_law : MethodName := ⟨RL, "law", "([I)Z"⟩
abbrev vwCl : List vw_C := [(RJx4a65c, TJx4a65c, 3), (RX0, TX0, 4), (RX1, TX1, 2), (RX2, TX2, 10), (RX3, TX3, 5), (RX4, TX4, 5), (RX5, TX5, 1), (RX6, TX6, 8), (RX7, TX7, 32)]
end
section
/-! The judgement z_V: at pc with locals lv and operand stack st, in any heap that holds the world u, the machine comes to Q. Rows: one an instruction. -/
def z_V (A : Nat → Prop) {σ : Type} (hp : σ → Heap → Prop) (p : Program) (l : Launch) (e : Env) (R : Room) (s : State) (m : MethodId) (args : Array Value) (below : List Frame) (meth : Method) (c : Code) (nL : Nat) (Q : State → Prop) (k n : Nat) (u : σ) (pc : Nat) (lv : List (Nat × Value)) (st : List Value) : Prop :=
  ∀ (H : Heap) (locs : List Loc) (ls : Array Slot), hp u H → va_S A s.heap H locs → lv_has ls nL lv → W p l e R s m args below meth c H locs k n Q (F0 m pc ls st)
/-- the words that every method takes: the tables' good ones -/
def z_T : List Cond := lw_tbl.filter goodWord
theorem z_Tin {w : Cond} {i : Nat} (h : lw_tbl[i]? = some w) (g : goodWord w = true) : w ∈ z_T := List.mem_filter.mpr ⟨List.mem_of_getElem? h, g⟩
theorem z_Tgood {w : Cond} (h : w ∈ z_T) : (w.onTables && w.keeps) = true ∨ ∃ ty, w = .arrayClass ty := good_of_word (List.mem_filter.mp h).2
theorem z_rfc (r : Option Nat) : (va_rf r).category = 1 := by cases r <;> rfl
theorem z_goV {own C : String} {idx : Nat} {y : MethodName} {b : ByteArray} {nl : Nat} {ret : Option FieldType} (h1 : Cond.methodLink own idx y ∈ z_T) (h2 : Cond.instanceMethod y ∈ z_T) (h3 : Cond.selects C y y ∈ z_T) (h4 : Cond.initialized C ∈ z_T) (h5 : Cond.code y b nl ret ∈ z_T) : GoodIn z_T (wsV own idx C y (Cond.code y b nl ret :: z_T)) := by
  intro w hw
  simp only [wsV, List.cons_append, List.nil_append, List.mem_cons] at hw
  have hm : w ∈ z_T := by
    rcases hw with h | h | h | h | h | h
    · rw [h]; exact h1
    · rw [h]; exact h2
    · rw [h]; exact h3
    · rw [h]; exact h4
    · rw [h]; exact h5
    · exact h
  exact ⟨hm, z_Tgood hm⟩
theorem z_goS {own : String} {idx : Nat} {y : MethodName} {b : ByteArray} {nl : Nat} {ret : Option FieldType} (h1 : Cond.methodLink own idx y ∈ z_T) (h2 : Cond.static y ∈ z_T) (h4 : Cond.initialized y.cls ∈ z_T) (h5 : Cond.code y b nl ret ∈ z_T) : GoodIn z_T (va_wsS own idx y (Cond.code y b nl ret :: z_T)) := by
  intro w hw
  simp only [va_wsS, List.cons_append, List.nil_append, List.mem_cons] at hw
  have hm : w ∈ z_T := by
    rcases hw with h | h | h | h | h
    · rw [h]; exact h1
    · rw [h]; exact h2
    · rw [h]; exact h4
    · rw [h]; exact h5
    · exact h
  exact ⟨hm, z_Tgood hm⟩
theorem z_goI {y : MethodName} {b : ByteArray} {nl : Nat} {ret : Option FieldType} (h5 : Cond.code y b nl ret ∈ z_T) : GoodIn z_T (Cond.code y b nl ret :: z_T) := by
  intro w hw
  have hm : w ∈ z_T := by
    rcases List.mem_cons.mp hw with h | h
    · rw [h]; exact h5
    · exact h
  exact ⟨hm, z_Tgood hm⟩
/-- the room on the stack below a call's arguments -/
def z_sm (st : List Value) : Nat := (st.map fun v => v.category).sum
theorem z_s0 : z_sm [] ≤ 0 := Nat.le_refl 0
theorem z_s1 {st : List Value} {b : Nat} {x : Int32} (h : z_sm st ≤ b) : z_sm (.int x :: st) ≤ b + 1 := by
  show (Value.int x).category + z_sm st ≤ b + 1
  have : (Value.int x).category = 1 := rfl
  omega
theorem z_sq {st : List Value} {b : Nat} {r : Option Nat} (h : z_sm st ≤ b) : z_sm (va_rf r :: st) ≤ b + 1 := by
  show (va_rf r).category + z_sm st ≤ b + 1
  have := z_rfc r
  omega
theorem z_sr {st : List Value} {b : Nat} {r : Nat} (h : z_sm st ≤ b) : z_sm (.ref r :: st) ≤ b + 1 := z_sq (r := some r) h
section ZV
variable {p : Program} {l : Launch} {e : Env} {R : Room} {s : State} {m : MethodId} {args : Array Value} {below : List Frame} {meth : Method} {c : Code} {Q : State → Prop} {cc : ByteArray} {nL : Nat} {own : String} {A : Nat → Prop} {σ : Type} {hp : σ → Heap → Prop} {k n : Nat} {u : σ} {pc : Nat} {lv : List (Nat × Value)} {st : List Value}
theorem z_iconst (S : CallFix p m c cc nL s args z_T own) {n0 : Int} {v : Int32} (hdg : decode cc pc = .ok (.iconst n0, 1)) (hv : Int32.ofInt n0 = v) (kk : z_V A hp p l e R s m args below meth c nL Q k n u (pc + 1) lv (.int v :: st)) : z_V A hp p l e R s m args below meth c nL Q k n u pc lv st := fun H locs ls h1 h2 h3 => lv_iconst S.1 S.2.1 hdg hv (kk H locs ls h1 h2 h3)
theorem z_bipush (S : CallFix p m c cc nL s args z_T own) {n0 : Int} {v : Int32} (hdg : decode cc pc = .ok (.bipush n0, 2)) (hv : (Int8.ofInt n0).toInt32 = v) (kk : z_V A hp p l e R s m args below meth c nL Q k n u (pc + 2) lv (.int v :: st)) : z_V A hp p l e R s m args below meth c nL Q k n u pc lv st := fun H locs ls h1 h2 h3 => lv_bipush S.1 S.2.1 hdg hv (kk H locs ls h1 h2 h3)
theorem z_sipush (S : CallFix p m c cc nL s args z_T own) {n0 : Int} {v : Int32} (hdg : decode cc pc = .ok (.sipush n0, 3)) (hv : (Int16.ofInt n0).toInt32 = v) (kk : z_V A hp p l e R s m args below meth c nL Q k n u (pc + 3) lv (.int v :: st)) : z_V A hp p l e R s m args below meth c nL Q k n u pc lv st := fun H locs ls h1 h2 h3 => lv_sipush S.1 S.2.1 hdg hv (kk H locs ls h1 h2 h3)
theorem z_iload_n (S : CallFix p m c cc nL s args z_T own) {k0 : Fin 4} {i : Nat} {x : Int32} (pl : Nat) (hdg : decode cc pc = .ok (.iload_n k0, 1)) (hi : (k0 : Nat) = i) (hl : lv[pl]? = some (i, .int x)) (kk : z_V A hp p l e R s m args below meth c nL Q k n u (pc + 1) lv (.int x :: st)) : z_V A hp p l e R s m args below meth c nL Q k n u pc lv st := fun H locs ls h1 h2 h3 => lv_iload_n S.1 S.2.1 hdg hi (lv_at h3 pl hl) (kk H locs ls h1 h2 h3)
theorem z_iload (S : CallFix p m c cc nL s args z_T own) {i : Nat} {x : Int32} (pl : Nat) (hdg : decode cc pc = .ok (.iload i, 2)) (hl : lv[pl]? = some (i, .int x)) (kk : z_V A hp p l e R s m args below meth c nL Q k n u (pc + 2) lv (.int x :: st)) : z_V A hp p l e R s m args below meth c nL Q k n u pc lv st := fun H locs ls h1 h2 h3 => lv_iload S.1 S.2.1 hdg (lv_at h3 pl hl) (kk H locs ls h1 h2 h3)
theorem z_aload_n (S : CallFix p m c cc nL s args z_T own) {k0 : Fin 4} {i : Nat} {x : Option Nat} (pl : Nat) (hdg : decode cc pc = .ok (.aload_n k0, 1)) (hi : (k0 : Nat) = i) (hl : lv[pl]? = some (i, va_rf x)) (kk : z_V A hp p l e R s m args below meth c nL Q k n u (pc + 1) lv (va_rf x :: st)) : z_V A hp p l e R s m args below meth c nL Q k n u pc lv st := fun H locs ls h1 h2 h3 => by
  cases x with
  | none => exact lv_aload_nN S.1 S.2.1 hdg hi (lv_at h3 pl hl) (kk H locs ls h1 h2 h3)
  | some a => exact lv_aload_n S.1 S.2.1 hdg hi (lv_at h3 pl hl) (kk H locs ls h1 h2 h3)
theorem z_aload (S : CallFix p m c cc nL s args z_T own) {i : Nat} {x : Option Nat} (pl : Nat) (hdg : decode cc pc = .ok (.aload i, 2)) (hl : lv[pl]? = some (i, va_rf x)) (kk : z_V A hp p l e R s m args below meth c nL Q k n u (pc + 2) lv (va_rf x :: st)) : z_V A hp p l e R s m args below meth c nL Q k n u pc lv st := fun H locs ls h1 h2 h3 => by
  cases x with
  | none => exact lv_aloadN S.1 S.2.1 hdg (lv_at h3 pl hl) (kk H locs ls h1 h2 h3)
  | some a => exact lv_aload S.1 S.2.1 hdg (lv_at h3 pl hl) (kk H locs ls h1 h2 h3)
theorem z_istore_n (S : CallFix p m c cc nL s args z_T own) {k0 : Fin 4} {i : Nat} {x : Int32} (lv' : List (Nat × Value)) (hdg : decode cc pc = .ok (.istore_n k0, 1)) (hi : (k0 : Nat) = i) (hn : i < nL) (hl : (i, Value.int x) :: lv.filter (fun q => !(q.1 == i) && !(q.1 + 1 == i && q.2.category == 2)) = lv') (kk : z_V A hp p l e R s m args below meth c nL Q k n u (pc + 1) lv' st) : z_V A hp p l e R s m args below meth c nL Q k n u pc lv (.int x :: st) := fun H locs ls h1 h2 h3 => lv_istore_n S.1 S.2.1 hdg hi h3 hn hl (fun ls' h4 => kk H locs ls' h1 h2 h4)
theorem z_istore (S : CallFix p m c cc nL s args z_T own) {i : Nat} {x : Int32} (lv' : List (Nat × Value)) (hdg : decode cc pc = .ok (.istore i, 2)) (hn : i < nL) (hl : (i, Value.int x) :: lv.filter (fun q => !(q.1 == i) && !(q.1 + 1 == i && q.2.category == 2)) = lv') (kk : z_V A hp p l e R s m args below meth c nL Q k n u (pc + 2) lv' st) : z_V A hp p l e R s m args below meth c nL Q k n u pc lv (.int x :: st) := fun H locs ls h1 h2 h3 => lv_istore S.1 S.2.1 hdg h3 hn hl (fun ls' h4 => kk H locs ls' h1 h2 h4)
theorem z_astore_n (S : CallFix p m c cc nL s args z_T own) {k0 : Fin 4} {i : Nat} {x : Option Nat} (lv' : List (Nat × Value)) (hdg : decode cc pc = .ok (.astore_n k0, 1)) (hi : (k0 : Nat) = i) (hn : i < nL) (hl : (i, va_rf x) :: lv.filter (fun q => !(q.1 == i) && !(q.1 + 1 == i && q.2.category == 2)) = lv') (kk : z_V A hp p l e R s m args below meth c nL Q k n u (pc + 1) lv' st) : z_V A hp p l e R s m args below meth c nL Q k n u pc lv (va_rf x :: st) := fun H locs ls h1 h2 h3 => by
  cases x with
  | none => exact lv_astore_nN S.1 S.2.1 hdg hi h3 hn hl (fun ls' h4 => kk H locs ls' h1 h2 h4)
  | some a => exact lv_astore_n S.1 S.2.1 hdg hi h3 hn hl (fun ls' h4 => kk H locs ls' h1 h2 h4)
theorem z_astore (S : CallFix p m c cc nL s args z_T own) {i : Nat} {x : Option Nat} (lv' : List (Nat × Value)) (hdg : decode cc pc = .ok (.astore i, 2)) (hn : i < nL) (hl : (i, va_rf x) :: lv.filter (fun q => !(q.1 == i) && !(q.1 + 1 == i && q.2.category == 2)) = lv') (kk : z_V A hp p l e R s m args below meth c nL Q k n u (pc + 2) lv' st) : z_V A hp p l e R s m args below meth c nL Q k n u pc lv (va_rf x :: st) := fun H locs ls h1 h2 h3 => by
  cases x with
  | none => exact lv_astoreN S.1 S.2.1 hdg h3 hn hl (fun ls' h4 => kk H locs ls' h1 h2 h4)
  | some a => exact lv_astore S.1 S.2.1 hdg h3 hn hl (fun ls' h4 => kk H locs ls' h1 h2 h4)
theorem z_iinc (S : CallFix p m c cc nL s args z_T own) {i pl : Nat} {n0 : Int} {x v : Int32} (lv' : List (Nat × Value)) (hdg : decode cc pc = .ok (.iinc i n0, 3)) (hk : lv[pl]? = some (i, .int x)) (hv : x + Int32.ofInt n0 = v) (hn : i < nL) (hl : (i, Value.int v) :: lv.filter (fun q => !(q.1 == i) && !(q.1 + 1 == i && q.2.category == 2)) = lv') (kk : z_V A hp p l e R s m args below meth c nL Q k n u (pc + 3) lv' st) : z_V A hp p l e R s m args below meth c nL Q k n u pc lv st := fun H locs ls h1 h2 h3 => lv_iinc S.1 S.2.1 hdg h3 hk hv hn hl (fun ls' h4 => kk H locs ls' h1 h2 h4)
theorem z_iadd (S : CallFix p m c cc nL s args z_T own) {x y : Int32} (hdg : decode cc pc = .ok (.iadd, 1)) (kk : z_V A hp p l e R s m args below meth c nL Q k n u (pc + 1) lv (.int (x + y) :: st)) : z_V A hp p l e R s m args below meth c nL Q k n u pc lv (.int y :: .int x :: st) := fun H locs ls h1 h2 h3 => lv_iadd S.1 S.2.1 hdg (kk H locs ls h1 h2 h3)
theorem z_isub (S : CallFix p m c cc nL s args z_T own) {x y : Int32} (hdg : decode cc pc = .ok (.isub, 1)) (kk : z_V A hp p l e R s m args below meth c nL Q k n u (pc + 1) lv (.int (x - y) :: st)) : z_V A hp p l e R s m args below meth c nL Q k n u pc lv (.int y :: .int x :: st) := fun H locs ls h1 h2 h3 => lv_isub S.1 S.2.1 hdg (kk H locs ls h1 h2 h3)
theorem z_imul (S : CallFix p m c cc nL s args z_T own) {x y : Int32} (hdg : decode cc pc = .ok (.imul, 1)) (kk : z_V A hp p l e R s m args below meth c nL Q k n u (pc + 1) lv (.int (x * y) :: st)) : z_V A hp p l e R s m args below meth c nL Q k n u pc lv (.int y :: .int x :: st) := fun H locs ls h1 h2 h3 => lv_imul S.1 S.2.1 hdg (kk H locs ls h1 h2 h3)
theorem z_iand (S : CallFix p m c cc nL s args z_T own) {x y : Int32} (hdg : decode cc pc = .ok (.iand, 1)) (kk : z_V A hp p l e R s m args below meth c nL Q k n u (pc + 1) lv (.int (x &&& y) :: st)) : z_V A hp p l e R s m args below meth c nL Q k n u pc lv (.int y :: .int x :: st) := fun H locs ls h1 h2 h3 => lv_iand S.1 S.2.1 hdg (kk H locs ls h1 h2 h3)
theorem z_ior (S : CallFix p m c cc nL s args z_T own) {x y : Int32} (hdg : decode cc pc = .ok (.ior, 1)) (kk : z_V A hp p l e R s m args below meth c nL Q k n u (pc + 1) lv (.int (x ||| y) :: st)) : z_V A hp p l e R s m args below meth c nL Q k n u pc lv (.int y :: .int x :: st) := fun H locs ls h1 h2 h3 => lv_ior S.1 S.2.1 hdg (kk H locs ls h1 h2 h3)
theorem z_ishl (S : CallFix p m c cc nL s args z_T own) {x y : Int32} (hdg : decode cc pc = .ok (.ishl, 1)) (kk : z_V A hp p l e R s m args below meth c nL Q k n u (pc + 1) lv (.int (x <<< (y &&& 31)) :: st)) : z_V A hp p l e R s m args below meth c nL Q k n u pc lv (.int y :: .int x :: st) := fun H locs ls h1 h2 h3 => lv_ishl S.1 S.2.1 hdg (kk H locs ls h1 h2 h3)
theorem z_ishr (S : CallFix p m c cc nL s args z_T own) {x y : Int32} (hdg : decode cc pc = .ok (.ishr, 1)) (kk : z_V A hp p l e R s m args below meth c nL Q k n u (pc + 1) lv (.int (x >>> (y &&& 31)) :: st)) : z_V A hp p l e R s m args below meth c nL Q k n u pc lv (.int y :: .int x :: st) := fun H locs ls h1 h2 h3 => lv_ishr S.1 S.2.1 hdg (kk H locs ls h1 h2 h3)
theorem z_idiv (S : CallFix p m c cc nL s args z_T own) {x y : Int32} (hdg : decode cc pc = .ok (.idiv, 1)) (hne : ¬ y = 0) (kk : z_V A hp p l e R s m args below meth c nL Q k n u (pc + 1) lv (.int (x / y) :: st)) : z_V A hp p l e R s m args below meth c nL Q k n u pc lv (.int y :: .int x :: st) := fun H locs ls h1 h2 h3 => lv_idiv S.1 S.2.1 hdg hne (kk H locs ls h1 h2 h3)
theorem z_irem (S : CallFix p m c cc nL s args z_T own) {x y : Int32} (hdg : decode cc pc = .ok (.irem, 1)) (hne : ¬ y = 0) (kk : z_V A hp p l e R s m args below meth c nL Q k n u (pc + 1) lv (.int (x - x / y * y) :: st)) : z_V A hp p l e R s m args below meth c nL Q k n u pc lv (.int y :: .int x :: st) := fun H locs ls h1 h2 h3 => lv_irem S.1 S.2.1 hdg hne (kk H locs ls h1 h2 h3)
theorem z_ineg (S : CallFix p m c cc nL s args z_T own) {x : Int32} (hdg : decode cc pc = .ok (.ineg, 1)) (kk : z_V A hp p l e R s m args below meth c nL Q k n u (pc + 1) lv (.int (-x) :: st)) : z_V A hp p l e R s m args below meth c nL Q k n u pc lv (.int x :: st) := fun H locs ls h1 h2 h3 => lv_ineg S.1 S.2.1 hdg (kk H locs ls h1 h2 h3)
theorem z_i2l (S : CallFix p m c cc nL s args z_T own) {x : Int32} (hdg : decode cc pc = .ok (.i2l, 1)) (kk : z_V A hp p l e R s m args below meth c nL Q k n u (pc + 1) lv (.long x.toInt64 :: st)) : z_V A hp p l e R s m args below meth c nL Q k n u pc lv (.int x :: st) := fun H locs ls h1 h2 h3 => lv_i2l S.1 S.2.1 hdg rfl (kk H locs ls h1 h2 h3)
theorem z_lconst (S : CallFix p m c cc nL s args z_T own) {n0 : Fin 2} {v : Int64} (hdg : decode cc pc = .ok (.lconst n0, 1)) (hv : Int64.ofNat (n0 : Nat) = v) (kk : z_V A hp p l e R s m args below meth c nL Q k n u (pc + 1) lv (.long v :: st)) : z_V A hp p l e R s m args below meth c nL Q k n u pc lv st := fun H locs ls h1 h2 h3 => lv_lconst S.1 S.2.1 hdg hv (kk H locs ls h1 h2 h3)
theorem z_dup (S : CallFix p m c cc nL s args z_T own) {va : Value} (hdg : decode cc pc = .ok (.dup, 1)) (hva : va.category = 1) (kk : z_V A hp p l e R s m args below meth c nL Q k n u (pc + 1) lv (va :: va :: st)) : z_V A hp p l e R s m args below meth c nL Q k n u pc lv (va :: st) := fun H locs ls h1 h2 h3 => lv_dup S.1 S.2.1 hdg hva (kk H locs ls h1 h2 h3)
theorem z_pop (S : CallFix p m c cc nL s args z_T own) {va : Value} (hdg : decode cc pc = .ok (.pop, 1)) (hva : va.category = 1) (kk : z_V A hp p l e R s m args below meth c nL Q k n u (pc + 1) lv st) : z_V A hp p l e R s m args below meth c nL Q k n u pc lv (va :: st) := fun H locs ls h1 h2 h3 => lv_pop S.1 S.2.1 hdg hva (kk H locs ls h1 h2 h3)
theorem z_dup_x1 (S : CallFix p m c cc nL s args z_T own) {va vb : Value} (hdg : decode cc pc = .ok (.dup_x1, 1)) (hva : va.category = 1) (hvb : vb.category = 1) (kk : z_V A hp p l e R s m args below meth c nL Q k n u (pc + 1) lv (va :: vb :: va :: st)) : z_V A hp p l e R s m args below meth c nL Q k n u pc lv (va :: vb :: st) := fun H locs ls h1 h2 h3 => lv_dup_x1 S.1 S.2.1 hdg hva hvb (kk H locs ls h1 h2 h3)
theorem z_dup2 (S : CallFix p m c cc nL s args z_T own) {va vb : Value} (hdg : decode cc pc = .ok (.dup2, 1)) (hva : va.category = 1) (hvb : vb.category = 1) (kk : z_V A hp p l e R s m args below meth c nL Q k n u (pc + 1) lv (va :: vb :: va :: vb :: st)) : z_V A hp p l e R s m args below meth c nL Q k n u pc lv (va :: vb :: st) := fun H locs ls h1 h2 h3 => lv_dup2_11 S.1 S.2.1 hdg hva hvb (kk H locs ls h1 h2 h3)
theorem z_null (S : CallFix p m c cc nL s args z_T own) (hdg : decode cc pc = .ok (.aconst_null, 1)) (kk : z_V A hp p l e R s m args below meth c nL Q k n u (pc + 1) lv (va_rf none :: st)) : z_V A hp p l e R s m args below meth c nL Q k n u pc lv st := fun H locs ls h1 h2 h3 => lv_null S.1 S.2.1 hdg (kk H locs ls h1 h2 h3)
theorem z_goto (S : CallFix p m c cc nL s args z_T own) {off : Int} (tgt : Nat) (hdg : decode cc pc = .ok (.goto off, 3)) (ht : (pc : Int) + off = (tgt : Int)) (kk : z_V A hp p l e R s m args below meth c nL Q k n u tgt lv st) : z_V A hp p l e R s m args below meth c nL Q k n u pc lv st := fun H locs ls h1 h2 h3 => lv_goto S.1 S.2.1 hdg ht (kk H locs ls h1 h2 h3)
theorem z_if_eq (S : CallFix p m c cc nL s args z_T own) {x : Int32} {off : Int} (tgt : Nat) (hdg : decode cc pc = .ok (.ifCond .eq off, 3)) (ht : (pc : Int) + off = (tgt : Int)) (kt : x = 0 → z_V A hp p l e R s m args below meth c nL Q k n u tgt lv st) (kf : ¬ x = 0 → z_V A hp p l e R s m args below meth c nL Q k n u (pc + 3) lv st) : z_V A hp p l e R s m args below meth c nL Q k n u pc lv (.int x :: st) := fun H locs ls h1 h2 h3 => lv_if_eq S.1 S.2.1 hdg ht (fun q => kt q H locs ls h1 h2 h3) (fun q => kf q H locs ls h1 h2 h3)
theorem z_if_ne (S : CallFix p m c cc nL s args z_T own) {x : Int32} {off : Int} (tgt : Nat) (hdg : decode cc pc = .ok (.ifCond .ne off, 3)) (ht : (pc : Int) + off = (tgt : Int)) (kt : ¬ x = 0 → z_V A hp p l e R s m args below meth c nL Q k n u tgt lv st) (kf : x = 0 → z_V A hp p l e R s m args below meth c nL Q k n u (pc + 3) lv st) : z_V A hp p l e R s m args below meth c nL Q k n u pc lv (.int x :: st) := fun H locs ls h1 h2 h3 => lv_if_ne S.1 S.2.1 hdg ht (fun q => kt q H locs ls h1 h2 h3) (fun q => kf q H locs ls h1 h2 h3)
theorem z_if_lt (S : CallFix p m c cc nL s args z_T own) {x : Int32} {off : Int} (tgt : Nat) (hdg : decode cc pc = .ok (.ifCond .lt off, 3)) (ht : (pc : Int) + off = (tgt : Int)) (kt : x < 0 → z_V A hp p l e R s m args below meth c nL Q k n u tgt lv st) (kf : ¬ x < 0 → z_V A hp p l e R s m args below meth c nL Q k n u (pc + 3) lv st) : z_V A hp p l e R s m args below meth c nL Q k n u pc lv (.int x :: st) := fun H locs ls h1 h2 h3 => lv_if_lt S.1 S.2.1 hdg ht (fun q => kt q H locs ls h1 h2 h3) (fun q => kf q H locs ls h1 h2 h3)
theorem z_if_ge (S : CallFix p m c cc nL s args z_T own) {x : Int32} {off : Int} (tgt : Nat) (hdg : decode cc pc = .ok (.ifCond .ge off, 3)) (ht : (pc : Int) + off = (tgt : Int)) (kt : 0 ≤ x → z_V A hp p l e R s m args below meth c nL Q k n u tgt lv st) (kf : ¬ 0 ≤ x → z_V A hp p l e R s m args below meth c nL Q k n u (pc + 3) lv st) : z_V A hp p l e R s m args below meth c nL Q k n u pc lv (.int x :: st) := fun H locs ls h1 h2 h3 => lv_if_ge S.1 S.2.1 hdg ht (fun q => kt q H locs ls h1 h2 h3) (fun q => kf q H locs ls h1 h2 h3)
theorem z_if_gt (S : CallFix p m c cc nL s args z_T own) {x : Int32} {off : Int} (tgt : Nat) (hdg : decode cc pc = .ok (.ifCond .gt off, 3)) (ht : (pc : Int) + off = (tgt : Int)) (kt : 0 < x → z_V A hp p l e R s m args below meth c nL Q k n u tgt lv st) (kf : ¬ 0 < x → z_V A hp p l e R s m args below meth c nL Q k n u (pc + 3) lv st) : z_V A hp p l e R s m args below meth c nL Q k n u pc lv (.int x :: st) := fun H locs ls h1 h2 h3 => lv_if_gt S.1 S.2.1 hdg ht (fun q => kt q H locs ls h1 h2 h3) (fun q => kf q H locs ls h1 h2 h3)
theorem z_if_le (S : CallFix p m c cc nL s args z_T own) {x : Int32} {off : Int} (tgt : Nat) (hdg : decode cc pc = .ok (.ifCond .le off, 3)) (ht : (pc : Int) + off = (tgt : Int)) (kt : x ≤ 0 → z_V A hp p l e R s m args below meth c nL Q k n u tgt lv st) (kf : ¬ x ≤ 0 → z_V A hp p l e R s m args below meth c nL Q k n u (pc + 3) lv st) : z_V A hp p l e R s m args below meth c nL Q k n u pc lv (.int x :: st) := fun H locs ls h1 h2 h3 => lv_if_le S.1 S.2.1 hdg ht (fun q => kt q H locs ls h1 h2 h3) (fun q => kf q H locs ls h1 h2 h3)
theorem z_icmp_eq (S : CallFix p m c cc nL s args z_T own) {x y : Int32} {off : Int} (tgt : Nat) (hdg : decode cc pc = .ok (.if_icmp .eq off, 3)) (ht : (pc : Int) + off = (tgt : Int)) (kt : x = y → z_V A hp p l e R s m args below meth c nL Q k n u tgt lv st) (kf : ¬ x = y → z_V A hp p l e R s m args below meth c nL Q k n u (pc + 3) lv st) : z_V A hp p l e R s m args below meth c nL Q k n u pc lv (.int y :: .int x :: st) := fun H locs ls h1 h2 h3 => lv_icmp_eq S.1 S.2.1 hdg ht (fun q => kt q H locs ls h1 h2 h3) (fun q => kf q H locs ls h1 h2 h3)
theorem z_icmp_ne (S : CallFix p m c cc nL s args z_T own) {x y : Int32} {off : Int} (tgt : Nat) (hdg : decode cc pc = .ok (.if_icmp .ne off, 3)) (ht : (pc : Int) + off = (tgt : Int)) (kt : ¬ x = y → z_V A hp p l e R s m args below meth c nL Q k n u tgt lv st) (kf : x = y → z_V A hp p l e R s m args below meth c nL Q k n u (pc + 3) lv st) : z_V A hp p l e R s m args below meth c nL Q k n u pc lv (.int y :: .int x :: st) := fun H locs ls h1 h2 h3 => lv_icmp_ne S.1 S.2.1 hdg ht (fun q => kt q H locs ls h1 h2 h3) (fun q => kf q H locs ls h1 h2 h3)
theorem z_icmp_lt (S : CallFix p m c cc nL s args z_T own) {x y : Int32} {off : Int} (tgt : Nat) (hdg : decode cc pc = .ok (.if_icmp .lt off, 3)) (ht : (pc : Int) + off = (tgt : Int)) (kt : x < y → z_V A hp p l e R s m args below meth c nL Q k n u tgt lv st) (kf : ¬ x < y → z_V A hp p l e R s m args below meth c nL Q k n u (pc + 3) lv st) : z_V A hp p l e R s m args below meth c nL Q k n u pc lv (.int y :: .int x :: st) := fun H locs ls h1 h2 h3 => lv_icmp_lt S.1 S.2.1 hdg ht (fun q => kt q H locs ls h1 h2 h3) (fun q => kf q H locs ls h1 h2 h3)
theorem z_icmp_ge (S : CallFix p m c cc nL s args z_T own) {x y : Int32} {off : Int} (tgt : Nat) (hdg : decode cc pc = .ok (.if_icmp .ge off, 3)) (ht : (pc : Int) + off = (tgt : Int)) (kt : y ≤ x → z_V A hp p l e R s m args below meth c nL Q k n u tgt lv st) (kf : ¬ y ≤ x → z_V A hp p l e R s m args below meth c nL Q k n u (pc + 3) lv st) : z_V A hp p l e R s m args below meth c nL Q k n u pc lv (.int y :: .int x :: st) := fun H locs ls h1 h2 h3 => lv_icmp_ge S.1 S.2.1 hdg ht (fun q => kt q H locs ls h1 h2 h3) (fun q => kf q H locs ls h1 h2 h3)
theorem z_icmp_gt (S : CallFix p m c cc nL s args z_T own) {x y : Int32} {off : Int} (tgt : Nat) (hdg : decode cc pc = .ok (.if_icmp .gt off, 3)) (ht : (pc : Int) + off = (tgt : Int)) (kt : y < x → z_V A hp p l e R s m args below meth c nL Q k n u tgt lv st) (kf : ¬ y < x → z_V A hp p l e R s m args below meth c nL Q k n u (pc + 3) lv st) : z_V A hp p l e R s m args below meth c nL Q k n u pc lv (.int y :: .int x :: st) := fun H locs ls h1 h2 h3 => lv_icmp_gt S.1 S.2.1 hdg ht (fun q => kt q H locs ls h1 h2 h3) (fun q => kf q H locs ls h1 h2 h3)
theorem z_icmp_le (S : CallFix p m c cc nL s args z_T own) {x y : Int32} {off : Int} (tgt : Nat) (hdg : decode cc pc = .ok (.if_icmp .le off, 3)) (ht : (pc : Int) + off = (tgt : Int)) (kt : x ≤ y → z_V A hp p l e R s m args below meth c nL Q k n u tgt lv st) (kf : ¬ x ≤ y → z_V A hp p l e R s m args below meth c nL Q k n u (pc + 3) lv st) : z_V A hp p l e R s m args below meth c nL Q k n u pc lv (.int y :: .int x :: st) := fun H locs ls h1 h2 h3 => lv_icmp_le S.1 S.2.1 hdg ht (fun q => kt q H locs ls h1 h2 h3) (fun q => kf q H locs ls h1 h2 h3)
theorem z_acmp_eq (S : CallFix p m c cc nL s args z_T own) {rx ry : Option Nat} {off : Int} (tgt : Nat) (hdg : decode cc pc = .ok (.if_acmp .eq off, 3)) (ht : (pc : Int) + off = (tgt : Int)) (kt : rx = ry → z_V A hp p l e R s m args below meth c nL Q k n u tgt lv st) (kf : ¬ rx = ry → z_V A hp p l e R s m args below meth c nL Q k n u (pc + 3) lv st) : z_V A hp p l e R s m args below meth c nL Q k n u pc lv (va_rf ry :: va_rf rx :: st) := fun H locs ls h1 h2 h3 => lv_acmp_eq S.1 S.2.1 hdg ht (fun q => kt q H locs ls h1 h2 h3) (fun q => kf q H locs ls h1 h2 h3)
theorem z_acmp_ne (S : CallFix p m c cc nL s args z_T own) {rx ry : Option Nat} {off : Int} (tgt : Nat) (hdg : decode cc pc = .ok (.if_acmp .ne off, 3)) (ht : (pc : Int) + off = (tgt : Int)) (kt : ¬ rx = ry → z_V A hp p l e R s m args below meth c nL Q k n u tgt lv st) (kf : rx = ry → z_V A hp p l e R s m args below meth c nL Q k n u (pc + 3) lv st) : z_V A hp p l e R s m args below meth c nL Q k n u pc lv (va_rf ry :: va_rf rx :: st) := fun H locs ls h1 h2 h3 => lv_acmp_ne S.1 S.2.1 hdg ht (fun q => kt q H locs ls h1 h2 h3) (fun q => kf q H locs ls h1 h2 h3)
theorem z_ifnull (S : CallFix p m c cc nL s args z_T own) {r : Option Nat} {off : Int} (tgt : Nat) (hdg : decode cc pc = .ok (.ifnull off, 3)) (ht : (pc : Int) + off = (tgt : Int)) (kt : r = none → z_V A hp p l e R s m args below meth c nL Q k n u tgt lv st) (kf : ¬ r = none → z_V A hp p l e R s m args below meth c nL Q k n u (pc + 3) lv st) : z_V A hp p l e R s m args below meth c nL Q k n u pc lv (va_rf r :: st) := fun H locs ls h1 h2 h3 => by
  cases r with
  | none => exact lv_ifnullN S.1 S.2.1 hdg ht (kt rfl H locs ls h1 h2 h3)
  | some a => exact lv_ifnull S.1 S.2.1 hdg (kf (fun q => by cases q) H locs ls h1 h2 h3)
theorem z_ifnonnull (S : CallFix p m c cc nL s args z_T own) {r : Option Nat} {off : Int} (tgt : Nat) (hdg : decode cc pc = .ok (.ifnonnull off, 3)) (ht : (pc : Int) + off = (tgt : Int)) (kt : ¬ r = none → z_V A hp p l e R s m args below meth c nL Q k n u tgt lv st) (kf : r = none → z_V A hp p l e R s m args below meth c nL Q k n u (pc + 3) lv st) : z_V A hp p l e R s m args below meth c nL Q k n u pc lv (va_rf r :: st) := fun H locs ls h1 h2 h3 => by
  cases r with
  | none => exact lv_ifnonnullN S.1 S.2.1 hdg (kf rfl H locs ls h1 h2 h3)
  | some a => exact lv_ifnonnull S.1 S.2.1 hdg ht (kt (fun q => by cases q) H locs ls h1 h2 h3)
/-- a reference that is known -/
theorem z_rf {r : Option Nat} {a : Nat} (h : r = some a) (kk : z_V A hp p l e R s m args below meth c nL Q k n u pc lv (.ref a :: st)) : z_V A hp p l e R s m args below meth c nL Q k n u pc lv (va_rf r :: st) := by subst h; exact kk
theorem z_st {st' : List Value} (h : st = st') (kk : z_V A hp p l e R s m args below meth c nL Q k n u pc lv st') : z_V A hp p l e R s m args below meth c nL Q k n u pc lv st := by subst h; exact kk
theorem z_lv {lv' : List (Nat × Value)} (is : List Nat) (h : lv_pick lv is = lv') (kk : z_V A hp p l e R s m args below meth c nL Q k n u pc lv' st) : z_V A hp p l e R s m args below meth c nL Q k n u pc lv st := fun H locs ls h1 h2 h3 => kk H locs ls h1 h2 (lv_sub h3 is h)
theorem z_widen {k' n' : Nat} (h1 : k ≤ k') (h2 : n ≤ n') (kk : z_V A hp p l e R s m args below meth c nL Q k' n' u pc lv st) : z_V A hp p l e R s m args below meth c nL Q k n u pc lv st := fun H locs ls a b d => W.widen h1 h2 (kk H locs ls a b d)
end ZV
end
section
theorem z_inX7 : ∀ w ∈ wsX70, w ∈ lw_tbl := by decide +kernel
theorem z_goodX7 : ∀ w ∈ wsX70, goodWord w = true := by decide +kernel
/-! Contracts over a world: E is what holds of the state aside from the world's cells, hp the world. -/
def z_Eok (E : State → Prop) (A : Nat → Prop) : Prop := (∀ (U : State) (g : JFrame) (mk : MethodId) (a : Array Value), E U → E (U.calling g mk a)) ∧ ∀ (s U : State) (H : Heap) (locs : List Loc), E s → va_S A s.heap H locs → U.heap = H → s.WarmedH U.vm → E U
def z_Mi {σ : Type} (l : Launch) (y : MethodName) (ws : List Cond) (rm : Room) (avs : List Value) (E : State → Prop) (hp : σ → Heap → Prop) (u : σ) (post : Int32 → σ → Prop) (mc ms : Nat) (A : Nat → Prop) : Prop := Met l y ws rm (va_Pc avs (fun U => E U ∧ hp u U.heap)) (va_Qi post (fun (u' : σ) t => hp u' t.heap) A) mc ms A
def z_Mv {σ : Type} (l : Launch) (y : MethodName) (ws : List Cond) (rm : Room) (avs : List Value) (E : State → Prop) (hp : σ → Heap → Prop) (u : σ) (post : σ → Prop) (mc ms : Nat) (A : Nat → Prop) : Prop := Met l y ws rm (va_Pc avs (fun U => E U ∧ hp u U.heap)) (va_Qv post (fun (u' : σ) t => hp u' t.heap) A) mc ms A
def z_Mq {σ : Type} (l : Launch) (y : MethodName) (ws : List Cond) (rm : Room) (avs : List Value) (E : State → Prop) (hp : σ → Heap → Prop) (u : σ) (post : Option Nat → σ → Prop) (mc ms : Nat) (A : Nat → Prop) : Prop := Met l y ws rm (va_Pc avs (fun U => E U ∧ hp u U.heap)) (va_Qq post (fun (u' : σ) t => hp u' t.heap) A) mc ms A
theorem z_met {σ : Type} {l : Launch} {y : MethodName} {cc : ByteArray} {nL : Nat} {ret : Option FieldType} {rm : Room} {avs : List Value} {E : State → Prop} {hp : σ → Heap → Prop} {u : σ} {Qc : Array Value → State → Outcome → State → Prop} {mc ms : Nat} {A : Nat → Prop} (hy : plainName y.cls = true) (hsz : (lg_sl avs).length ≤ nL)
    (body : ∀ p e s m args below meth c, CallFix p m c cc nL s args z_T y.cls → meth.locks = false → meth.sig.returnType = ret → meth.name = y.name → E s → z_V A hp p l e rm s m args below meth c nL (MQ below Qc args s mc ms A) 0 0 u 0 (lv_args 0 avs) []) : Met l y (Cond.code y cc nL ret :: z_T) rm (va_Pc avs (fun U => E U ∧ hp u U.heap)) Qc mc ms A := by
  refine Met.ofW (cc := cc) (maxL := nL) (ret := ret) hy rfl ?_
  intro p e s m args below meth c s₁ B hml hv
  obtain ⟨rfl, hE, hh⟩ := hv
  have hts := atoms_spec (ws := Cond.code y cc nL ret :: z_T) B.pre
  have hV := body p e s m avs.toArray below meth c ⟨B.exec, B.bytes, hml, findClass_of_methodNamed B.named, fun w hw => hts w (List.mem_cons_of_mem _ hw)⟩ B.notSynchronized B.returns (name_of_methodNamed B.named B.method).1 hE
  have hl := lv_entry avs (n := nL) hsz
  rw [lg_entry_eq]
  exact hV s.heap [] _ hh va_S.rf hl
section ZC
variable {p : Program} {l : Launch} {e : Env} {R : Room} {s : State} {m : MethodId} {args : Array Value} {below : List Frame} {meth : Method} {c : Code} {Q : State → Prop} {cc : ByteArray} {nL : Nat} {own : String} {A : Nat → Prop} {σ : Type} {hp : σ → Heap → Prop} {k n : Nat} {u : σ} {pc : Nat} {lv : List (Nat × Value)} {st : List Value}
theorem z_iret {post : Int32 → σ → Prop} {mc ms : Nat} {v : Int32} (S : CallFix p m c cc nL s args z_T own) (hr : meth.sig.returnType = some .int) (hlk : meth.locks = false) (hdg : decode cc pc = .ok (.ireturn, 1)) (hk : k ≤ mc) (hn : n ≤ ms) (h0 : post v u) : z_V A hp p l e R s m args below meth c nL (MQ below (va_Qi post (fun (u' : σ) t => hp u' t.heap) A) args s mc ms A) k n u pc lv [.int v] := fun H locs ls h1 h2 h3 =>
  W.widen hk hn (W.iret S.1 S.2.1 hr (fun t ht hW => ⟨⟨v, u, rfl, h0, by show hp u t.heap; rw [ht]; exact h1⟩, h2.F ht⟩) h2.2.2 hdg hlk)
theorem z_zret {post : Int32 → σ → Prop} {mc ms : Nat} {v : Int32} (S : CallFix p m c cc nL s args z_T own) (hr : meth.sig.returnType = some .boolean) (hlk : meth.locks = false) (hdg : decode cc pc = .ok (.ireturn, 1)) (hk : k ≤ mc) (hn : n ≤ ms) (hb : narrow .boolean (.int v) = .int v) (h0 : post v u) : z_V A hp p l e R s m args below meth c nL (MQ below (va_Qi post (fun (u' : σ) t => hp u' t.heap) A) args s mc ms A) k n u pc lv [.int v] := fun H locs ls h1 h2 h3 =>
  W.widen hk hn (W.zret S.1 S.2.1 hr hb (fun t ht hW => ⟨⟨v, u, rfl, h0, by show hp u t.heap; rw [ht]; exact h1⟩, h2.F ht⟩) h2.2.2 hdg hlk)
theorem z_vret {post : σ → Prop} {mc ms : Nat} (S : CallFix p m c cc nL s args z_T own) (hr : meth.sig.returnType = none) (hlk : meth.locks = false) (hdg : decode cc pc = .ok (.return_, 1)) (hk : k ≤ mc) (hn : n ≤ ms) (h0 : post u) : z_V A hp p l e R s m args below meth c nL (MQ below (va_Qv post (fun (u' : σ) t => hp u' t.heap) A) args s mc ms A) k n u pc lv [] := fun H locs ls h1 h2 h3 =>
  W.widen hk hn (W.vret S.1 S.2.1 hr (fun t ht hW => ⟨⟨u, rfl, h0, by show hp u t.heap; rw [ht]; exact h1⟩, h2.F ht⟩) h2.2.2 hdg hlk)
theorem z_aret {post : Option Nat → σ → Prop} {mc ms : Nat} {v : Option Nat} {rt : FieldType} (S : CallFix p m c cc nL s args z_T own) (hr : meth.sig.returnType = some rt) (hrt : (∃ n, rt = .object n) ∨ ∃ t, rt = .array t) (hlk : meth.locks = false) (hdg : decode cc pc = .ok (.areturn, 1)) (hk : k ≤ mc) (hn : n ≤ ms) (h0 : post v u) : z_V A hp p l e R s m args below meth c nL (MQ below (va_Qq post (fun (u' : σ) t => hp u' t.heap) A) args s mc ms A) k n u pc lv [va_rf v] := fun H locs ls h1 h2 h3 =>
  W.widen hk hn (W.aret S.1 S.2.1 hr hrt (va_rf_or v) (fun t ht hW => ⟨⟨v, u, rfl, h0, by show hp u t.heap; rw [ht]; exact h1⟩, h2.F ht⟩) h2.2.2 hdg hlk)
theorem z_top {x : Int32} (kk : ∀ y : Int32, y = x → z_V A hp p l e R s m args below meth c nL Q k n u pc lv (.int y :: st)) : z_V A hp p l e R s m args below meth c nL Q k n u pc lv (.int x :: st) := kk x rfl
theorem z_blind {E : State → Prop} {hp' : σ → Heap → Prop} {avs : List Value} (hEo : z_Eok E A) : FrameBlind (va_Pc avs (fun U => E U ∧ hp' u U.heap)) := fun a U g mk q => ⟨q.1, hEo.1 U g mk a q.2.1, q.2.2⟩
theorem z_room {st st0 : List Value} {ls : Array Slot} (h : z_sm st ≤ 8) : 2 * (F0 m pc ls st0).monitorRoom + (st.map fun v => v.category).sum ≤ 8 := by
  show 2 * 0 + z_sm st ≤ 8
  omega

theorem z_callVi {E : State → Prop} {hp' : σ → Heap → Prop} {post : Int32 → σ → Prop} {y : MethodName} {b : Nat} {bytes : ByteArray} {maxL N mc ms index : Nat} {ret : Option FieldType} {rm : Room} {C : String} {As st0 : List Value} (S : CallFix p m c cc nL s args z_T own) (hEo : z_Eok E A) (hEs : E s) (hM : z_Mi l y (Cond.code y bytes maxL ret :: z_T) rm (.ref b :: As) E hp' u post mc ms A) (g : GoodIn z_T (wsV own index C y (Cond.code y bytes maxL ret :: z_T))) (hd : y.cls = C ∧ y.cls ≠ "java/lang/invoke/MethodHandle" ∧ y.cls ≠ "java/lang/invoke/VarHandle" ∧ (parseMethodDescriptor y.desc).map (fun d => d.parameters.length) = some N) (hR : rm.frames + 1 ≤ R.frames ∧ 8 + (maxL + 11) + rm.locals ≤ R.locals) (hrc : rm.cells = mc) (hrs : rm.slots = ms) (hrv : ∀ H : Heap, hp u H → ∃ cell : Cell, H[b]? = some cell ∧ cell.vm.isStatics = false ∧ s.vm.findClass C = some cell.cls) (hin : ∀ H : Heap, hp u H → hp' u H) (hout : ∀ (H H1 : Heap) (u' : σ), hp u H → hp' u' H1 → hp u' H1) (hn : As.length = N) (hsm : z_sm st ≤ 8) (hdg : decode cc pc = .ok (.invokevirtual index, 3)) (hf : k + mc ≤ R.cells ∧ n + ms ≤ R.slots) (hst : st0 = As.reverse ++ .ref b :: st)
    (kk : ∀ r u', post r u' → z_V A hp p l e R s m args below meth c nL Q (k + mc) (n + ms) u' (pc + 3) lv (.int r :: st)) : z_V A hp p l e R s m args below meth c nL Q k n u pc lv st0 := fun H locs ls h1 h2 h3 => by
  subst hst
  exact va_calli (va_runV (As := As) (rest := st) S hM (cwV N S.2.2.2.2 g rfl hrc hrs hd hR) ⟨z_blind hEo, hrv H h1, fun U hU hW => ⟨rfl, hEo.2 s U H locs hEs h2 hU hW, by rw [hU]; exact hin H h1⟩⟩ rfl hn h3.1 rfl (z_room hsm) hdg hf) h2 (fun q _ h => h) (fun q h => h) (fun r u' t H1 locs1 ht hvm hw hB hz1 hk1 hS => kk r u' hw H1 locs1 ls (hout H H1 u' h1 (by rw [← ht]; exact hB)) hS h3)
theorem z_callVv {E : State → Prop} {hp' : σ → Heap → Prop} {post : σ → Prop} {y : MethodName} {b : Nat} {bytes : ByteArray} {maxL N mc ms index : Nat} {ret : Option FieldType} {rm : Room} {C : String} {As st0 : List Value} (S : CallFix p m c cc nL s args z_T own) (hEo : z_Eok E A) (hEs : E s) (hM : z_Mv l y (Cond.code y bytes maxL ret :: z_T) rm (.ref b :: As) E hp' u post mc ms A) (g : GoodIn z_T (wsV own index C y (Cond.code y bytes maxL ret :: z_T))) (hd : y.cls = C ∧ y.cls ≠ "java/lang/invoke/MethodHandle" ∧ y.cls ≠ "java/lang/invoke/VarHandle" ∧ (parseMethodDescriptor y.desc).map (fun d => d.parameters.length) = some N) (hR : rm.frames + 1 ≤ R.frames ∧ 8 + (maxL + 11) + rm.locals ≤ R.locals) (hrc : rm.cells = mc) (hrs : rm.slots = ms) (hrv : ∀ H : Heap, hp u H → ∃ cell : Cell, H[b]? = some cell ∧ cell.vm.isStatics = false ∧ s.vm.findClass C = some cell.cls) (hin : ∀ H : Heap, hp u H → hp' u H) (hout : ∀ (H H1 : Heap) (u' : σ), hp u H → hp' u' H1 → hp u' H1) (hn : As.length = N) (hsm : z_sm st ≤ 8) (hdg : decode cc pc = .ok (.invokevirtual index, 3)) (hf : k + mc ≤ R.cells ∧ n + ms ≤ R.slots) (hst : st0 = As.reverse ++ .ref b :: st)
    (kk : ∀ u', post u' → z_V A hp p l e R s m args below meth c nL Q (k + mc) (n + ms) u' (pc + 3) lv st) : z_V A hp p l e R s m args below meth c nL Q k n u pc lv st0 := fun H locs ls h1 h2 h3 => by
  subst hst
  exact va_callv (va_runV (As := As) (rest := st) S hM (cwV N S.2.2.2.2 g rfl hrc hrs hd hR) ⟨z_blind hEo, hrv H h1, fun U hU hW => ⟨rfl, hEo.2 s U H locs hEs h2 hU hW, by rw [hU]; exact hin H h1⟩⟩ rfl hn h3.1 rfl (z_room hsm) hdg hf) h2 (fun q _ h => h) (fun q h => h) (fun u' t H1 locs1 ht hvm hw hB hz1 hk1 hS => kk u' hw H1 locs1 ls (hout H H1 u' h1 (by rw [← ht]; exact hB)) hS h3)
theorem z_callVq {E : State → Prop} {hp' : σ → Heap → Prop} {post : Option Nat → σ → Prop} {y : MethodName} {b : Nat} {bytes : ByteArray} {maxL N mc ms index : Nat} {ret : Option FieldType} {rm : Room} {C : String} {As st0 : List Value} (S : CallFix p m c cc nL s args z_T own) (hEo : z_Eok E A) (hEs : E s) (hM : z_Mq l y (Cond.code y bytes maxL ret :: z_T) rm (.ref b :: As) E hp' u post mc ms A) (g : GoodIn z_T (wsV own index C y (Cond.code y bytes maxL ret :: z_T))) (hd : y.cls = C ∧ y.cls ≠ "java/lang/invoke/MethodHandle" ∧ y.cls ≠ "java/lang/invoke/VarHandle" ∧ (parseMethodDescriptor y.desc).map (fun d => d.parameters.length) = some N) (hR : rm.frames + 1 ≤ R.frames ∧ 8 + (maxL + 11) + rm.locals ≤ R.locals) (hrc : rm.cells = mc) (hrs : rm.slots = ms) (hrv : ∀ H : Heap, hp u H → ∃ cell : Cell, H[b]? = some cell ∧ cell.vm.isStatics = false ∧ s.vm.findClass C = some cell.cls) (hin : ∀ H : Heap, hp u H → hp' u H) (hout : ∀ (H H1 : Heap) (u' : σ), hp u H → hp' u' H1 → hp u' H1) (hn : As.length = N) (hsm : z_sm st ≤ 8) (hdg : decode cc pc = .ok (.invokevirtual index, 3)) (hf : k + mc ≤ R.cells ∧ n + ms ≤ R.slots) (hst : st0 = As.reverse ++ .ref b :: st)
    (kk : ∀ r u', post r u' → z_V A hp p l e R s m args below meth c nL Q (k + mc) (n + ms) u' (pc + 3) lv (va_rf r :: st)) : z_V A hp p l e R s m args below meth c nL Q k n u pc lv st0 := fun H locs ls h1 h2 h3 => by
  subst hst
  exact va_callq (va_runV (As := As) (rest := st) S hM (cwV N S.2.2.2.2 g rfl hrc hrs hd hR) ⟨z_blind hEo, hrv H h1, fun U hU hW => ⟨rfl, hEo.2 s U H locs hEs h2 hU hW, by rw [hU]; exact hin H h1⟩⟩ rfl hn h3.1 rfl (z_room hsm) hdg hf) h2 (fun q _ h => h) (fun q h => h) (fun r u' t H1 locs1 ht hvm hw hB hz1 hk1 hS => kk r u' hw H1 locs1 ls (hout H H1 u' h1 (by rw [← ht]; exact hB)) hS h3)
theorem z_callSi {E : State → Prop} {hp' : σ → Heap → Prop} {post : Int32 → σ → Prop} {y : MethodName} {bytes : ByteArray} {maxL N mc ms index : Nat} {ret : Option FieldType} {rm : Room} {As st0 : List Value} (S : CallFix p m c cc nL s args z_T own) (hEo : z_Eok E A) (hEs : E s) (hM : z_Mi l y (Cond.code y bytes maxL ret :: z_T) rm As E hp' u post mc ms A) (g : GoodIn z_T (va_wsS own index y (Cond.code y bytes maxL ret :: z_T))) (hd : y.cls ≠ "java/lang/invoke/MethodHandle" ∧ y.cls ≠ "java/lang/invoke/VarHandle" ∧ (parseMethodDescriptor y.desc).map (fun d => d.parameters.length) = some N) (hR : rm.frames + 1 ≤ R.frames ∧ 8 + (maxL + 11) + rm.locals ≤ R.locals) (hrc : rm.cells = mc) (hrs : rm.slots = ms) (hin : ∀ H : Heap, hp u H → hp' u H) (hout : ∀ (H H1 : Heap) (u' : σ), hp u H → hp' u' H1 → hp u' H1) (hn : As.length = N) (hsm : z_sm st ≤ 8) (hdg : decode cc pc = .ok (.invokestatic index, 3)) (hf : k + mc ≤ R.cells ∧ n + ms ≤ R.slots) (hst : st0 = As.reverse ++ st)
    (kk : ∀ r u', post r u' → z_V A hp p l e R s m args below meth c nL Q (k + mc) (n + ms) u' (pc + 3) lv (.int r :: st)) : z_V A hp p l e R s m args below meth c nL Q k n u pc lv st0 := fun H locs ls h1 h2 h3 => by
  subst hst
  exact va_calli (va_runS (As := As) (rest := st) S hM (va_cwS N S.2.2.2.2 g rfl hrc hrs hd hR) ⟨z_blind hEo, fun U hU hW => ⟨rfl, hEo.2 s U H locs hEs h2 hU hW, by rw [hU]; exact hin H h1⟩⟩ rfl hn h3.1 rfl (z_room hsm) hdg hf) h2 (fun q _ h => h) (fun q h => h) (fun r u' t H1 locs1 ht hvm hw hB hz1 hk1 hS => kk r u' hw H1 locs1 ls (hout H H1 u' h1 (by rw [← ht]; exact hB)) hS h3)
theorem z_callSv {E : State → Prop} {hp' : σ → Heap → Prop} {post : σ → Prop} {y : MethodName} {bytes : ByteArray} {maxL N mc ms index : Nat} {ret : Option FieldType} {rm : Room} {As st0 : List Value} (S : CallFix p m c cc nL s args z_T own) (hEo : z_Eok E A) (hEs : E s) (hM : z_Mv l y (Cond.code y bytes maxL ret :: z_T) rm As E hp' u post mc ms A) (g : GoodIn z_T (va_wsS own index y (Cond.code y bytes maxL ret :: z_T))) (hd : y.cls ≠ "java/lang/invoke/MethodHandle" ∧ y.cls ≠ "java/lang/invoke/VarHandle" ∧ (parseMethodDescriptor y.desc).map (fun d => d.parameters.length) = some N) (hR : rm.frames + 1 ≤ R.frames ∧ 8 + (maxL + 11) + rm.locals ≤ R.locals) (hrc : rm.cells = mc) (hrs : rm.slots = ms) (hin : ∀ H : Heap, hp u H → hp' u H) (hout : ∀ (H H1 : Heap) (u' : σ), hp u H → hp' u' H1 → hp u' H1) (hn : As.length = N) (hsm : z_sm st ≤ 8) (hdg : decode cc pc = .ok (.invokestatic index, 3)) (hf : k + mc ≤ R.cells ∧ n + ms ≤ R.slots) (hst : st0 = As.reverse ++ st)
    (kk : ∀ u', post u' → z_V A hp p l e R s m args below meth c nL Q (k + mc) (n + ms) u' (pc + 3) lv st) : z_V A hp p l e R s m args below meth c nL Q k n u pc lv st0 := fun H locs ls h1 h2 h3 => by
  subst hst
  exact va_callv (va_runS (As := As) (rest := st) S hM (va_cwS N S.2.2.2.2 g rfl hrc hrs hd hR) ⟨z_blind hEo, fun U hU hW => ⟨rfl, hEo.2 s U H locs hEs h2 hU hW, by rw [hU]; exact hin H h1⟩⟩ rfl hn h3.1 rfl (z_room hsm) hdg hf) h2 (fun q _ h => h) (fun q h => h) (fun u' t H1 locs1 ht hvm hw hB hz1 hk1 hS => kk u' hw H1 locs1 ls (hout H H1 u' h1 (by rw [← ht]; exact hB)) hS h3)
theorem z_callSq {E : State → Prop} {hp' : σ → Heap → Prop} {post : Option Nat → σ → Prop} {y : MethodName} {bytes : ByteArray} {maxL N mc ms index : Nat} {ret : Option FieldType} {rm : Room} {As st0 : List Value} (S : CallFix p m c cc nL s args z_T own) (hEo : z_Eok E A) (hEs : E s) (hM : z_Mq l y (Cond.code y bytes maxL ret :: z_T) rm As E hp' u post mc ms A) (g : GoodIn z_T (va_wsS own index y (Cond.code y bytes maxL ret :: z_T))) (hd : y.cls ≠ "java/lang/invoke/MethodHandle" ∧ y.cls ≠ "java/lang/invoke/VarHandle" ∧ (parseMethodDescriptor y.desc).map (fun d => d.parameters.length) = some N) (hR : rm.frames + 1 ≤ R.frames ∧ 8 + (maxL + 11) + rm.locals ≤ R.locals) (hrc : rm.cells = mc) (hrs : rm.slots = ms) (hin : ∀ H : Heap, hp u H → hp' u H) (hout : ∀ (H H1 : Heap) (u' : σ), hp u H → hp' u' H1 → hp u' H1) (hn : As.length = N) (hsm : z_sm st ≤ 8) (hdg : decode cc pc = .ok (.invokestatic index, 3)) (hf : k + mc ≤ R.cells ∧ n + ms ≤ R.slots) (hst : st0 = As.reverse ++ st)
    (kk : ∀ r u', post r u' → z_V A hp p l e R s m args below meth c nL Q (k + mc) (n + ms) u' (pc + 3) lv (va_rf r :: st)) : z_V A hp p l e R s m args below meth c nL Q k n u pc lv st0 := fun H locs ls h1 h2 h3 => by
  subst hst
  exact va_callq (va_runS (As := As) (rest := st) S hM (va_cwS N S.2.2.2.2 g rfl hrc hrs hd hR) ⟨z_blind hEo, fun U hU hW => ⟨rfl, hEo.2 s U H locs hEs h2 hU hW, by rw [hU]; exact hin H h1⟩⟩ rfl hn h3.1 rfl (z_room hsm) hdg hf) h2 (fun q _ h => h) (fun q h => h) (fun r u' t H1 locs1 ht hvm hw hB hz1 hk1 hS => kk r u' hw H1 locs1 ls (hout H H1 u' h1 (by rw [← ht]; exact hB)) hS h3)
theorem z_callIv {E : State → Prop} {hp' : σ → Heap → Prop} {post : σ → Prop} {y : MethodName} {b : Nat} {bytes : ByteArray} {maxL N mc ms index : Nat}  {rm : Room} {As st0 : List Value} (S : CallFix p m c cc nL s args z_T own) (hEo : z_Eok E A) (hEs : E s) (hM : z_Mv l y (Cond.code y bytes maxL none :: z_T) rm (.ref b :: As) E hp' u post mc ms A) (g : GoodIn z_T (Cond.code y bytes maxL none :: z_T)) (hini : Cond.initialized y.cls ∈ z_T) (hlk : Cond.methodLink own index y ∈ z_T) (hins : Cond.instanceMethod y ∈ z_T) (hy1 : y.name = "<init>") (hd : y.cls ≠ "java/lang/invoke/MethodHandle" ∧ y.cls ≠ "java/lang/invoke/VarHandle" ∧ (parseMethodDescriptor y.desc).map (fun d => d.parameters.length) = some N) (hR : rm.frames + 1 ≤ R.frames ∧ 8 + (maxL + 11) + rm.locals ≤ R.locals) (hrc : rm.cells = mc) (hrs : rm.slots = ms) (hin : ∀ H : Heap, hp u H → hp' u H) (hout : ∀ (H H1 : Heap) (u' : σ), hp u H → hp' u' H1 → hp u' H1) (hn : As.length = N) (hsm : z_sm st ≤ 8) (hdg : decode cc pc = .ok (.invokespecial index, 3)) (hf : k + mc ≤ R.cells ∧ n + ms ≤ R.slots) (hst : st0 = As.reverse ++ .ref b :: st)
    (kk : ∀ u', post u' → z_V A hp p l e R s m args below meth c nL Q (k + mc) (n + ms) u' (pc + 3) lv st) : z_V A hp p l e R s m args below meth c nL Q k n u pc lv st0 := fun H locs ls h1 h2 h3 => by
  subst hst
  exact va_callv (va_runI (As := As) (rest := st) S hM (cwI N S.2.2.2.2 g rfl hrc hrs (S.2.2.2.2 _ hini) (S.2.2.2.2 _ hlk) (S.2.2.2.2 _ hins) hy1 hd hR) ⟨z_blind hEo, fun U hU hW => ⟨rfl, hEo.2 s U H locs hEs h2 hU hW, by rw [hU]; exact hin H h1⟩⟩ rfl hn h3.1 rfl (z_room hsm) hdg hf) h2 (fun q _ h => h) (fun q h => h) (fun u' t H1 locs1 ht hvm hw hB hz1 hk1 hS => kk u' hw H1 locs1 ls (hout H H1 u' h1 (by rw [← ht]; exact hB)) hS h3)
end ZC
/-! THE REFERENCE's world: one object o, its arrays at the cells ad k; M k j: entry j of the array of field k, a plain field's value is M k 0 -/
abbrev z_Md : Type := Nat → Nat → Int32
def z_mAr (k : Nat) : Bool := decide (k < 30) && decide (k ≠ 0) && decide (k ≠ 10) && decide (k ≠ 13) && decide (k ≠ 14)
def z_mLen : Nat → Nat
  | 1 => 49
  | 2 => 40
  | 3 => 40
  | 4 => 160
  | 5 => 160
  | 6 => 48
  | 7 => 48
  | 8 => 48
  | 9 => 48
  | 11 => 4
  | 12 => 12
  | 15 => 16
  | 16 => 16
  | 17 => 16
  | 18 => 16
  | 19 => 16
  | 20 => 3
  | 21 => 3
  | 22 => 3
  | 23 => 3
  | 24 => 3
  | 25 => 3
  | 26 => 24
  | 27 => 3
  | 28 => 3
  | 29 => 3
  | _ => 0
def z_mZ (k : Nat) : Nat := if k = 7 ∨ k = 20 ∨ k = 24 then 1 else 0
def z_tys (cy : Nat → ClassId) : List (ClassId × FieldType) := [(cy 0, .int), (cy 1, .boolean), (cy 2, .object "MessageBank$Block"), (cy 3, .object "MessageBank$Box"), (cy 4, .object "MessageBank$Line"), (cy 5, .object "MessageBank$Recording"), (cy 6, .object "java/lang/Object"), (cy 7, .long)]
def z_mF (ad : Nat → Nat) (M : z_Md) : List Value := [.int (M 0 0), .ref (ad 1), .ref (ad 2), .ref (ad 3), .ref (ad 4), .ref (ad 5), .ref (ad 6), .ref (ad 7), .ref (ad 8), .ref (ad 9), .int (M 10 0), .ref (ad 11), .ref (ad 12), .int (M 13 0), .int (M 14 0), .ref (ad 15), .ref (ad 16), .ref (ad 17), .ref (ad 18), .ref (ad 19), .ref (ad 20), .ref (ad 21), .ref (ad 22), .ref (ad 23), .ref (ad 24), .ref (ad 25), .ref (ad 26), .ref (ad 27), .ref (ad 28), .ref (ad 29), .int (M 30 0), .int (M 31 0)]
def z_up {α : Type} (F : Nat → Nat → α) (f a : Nat) (v : α) : Nat → Nat → α := fun f' a' => if f' = f ∧ a' = a then v else F f' a'
theorem z_up_s {α : Type} (F : Nat → Nat → α) (f a : Nat) (v : α) : z_up F f a v f a = v := by simp [z_up]
theorem z_up_f {α : Type} (F : Nat → Nat → α) {f f' : Nat} (a : Nat) (v : α) (h : f' ≠ f) : z_up F f a v f' = F f' := by funext a'; simp [z_up, h]
theorem z_up_a {α : Type} (F : Nat → Nat → α) (f : Nat) {a a' : Nat} (v : α) (f' : Nat) (h : a' ≠ a) : z_up F f a v f' a' = F f' a' := by simp [z_up, h]
theorem z_up_e {α : Type} (F : Nat → Nat → α) (f a : Nat) (v : α) (f' a' : Nat) : z_up F f a v f' a' = if f' = f ∧ a' = a then v else F f' a' := rfl
def z_hM (D : va_G) (cy : Nat → ClassId) (A : Nat → Prop) (o : Nat) (ad : Nat → Nat) (M : z_Md) (H : Heap) : Prop :=
  va_at D vwCl (o, .inr (8, z_mF ad M)) H ∧ (∀ k, z_mAr k = true → va_at D vwCl (ad k, .inl (cy (z_mZ k), z_mLen k, .inl (M k))) H) ∧ A o ∧ (∀ k, z_mAr k = true → A (ad k)) ∧ (∀ k, z_mAr k = true → ad k ≠ o) ∧ ∀ j k, z_mAr j = true → z_mAr k = true → ad j = ad k → j = k
def z_EM (D : va_G) (cy : Nat → ClassId) (U : State) : Prop := va_K D vwCl (z_tys cy) U
theorem z_EMok (D : va_G) (cy : Nat → ClassId) (A : Nat → Prop) : z_Eok (z_EM D cy) A := ⟨fun U g mk a h => va_K.moved (u := U) (U := U.calling g mk a) (Vm.Alike.refl U.vm) h, fun s U H locs h _ _ hW => va_K.moved hW.alike h⟩
theorem z_hM_put {D : va_G} {cy : Nat → ClassId} {A : Nat → Prop} {o : Nat} {ad : Nat → Nat} {M : z_Md} {H H1 : Heap} (h : z_hM D cy A o ad M H) {j i : Nat} {x : Int32} (hj : z_mAr j = true) (e : H1[ad j]? = some (vp_cell (cy (z_mZ j)) (z_mLen j, .inl (upd (M j) i x)))) (oq : ∀ q : Nat, q ≠ ad j → H1[q]? = H[q]?) : z_hM D cy A o ad (z_up M j i x) H1 := by
  obtain ⟨h1, h2, h3, h4, h5, h6⟩ := h
  have hf : z_mF ad (z_up M j i x) = z_mF ad M := by
    have g : ∀ q, z_mAr q = false → z_up M j i x q = M q := fun q hq => z_up_f M i x (fun z => by rw [z, hj] at hq; cases hq)
    simp only [z_mF, g 0 rfl, g 10 rfl, g 13 rfl, g 14 rfl, g 30 rfl, g 31 rfl]
  refine ⟨?_, fun k hk => ?_, h3, h4, h5, h6⟩
  · rw [hf]; exact h1.kept (oq o (Ne.symm (h5 j hj)))
  · by_cases hkj : k = j
    · subst hkj
      have hu : z_up M k i x k = upd (M k) i x := by
        funext a
        simp only [z_up, upd, true_and]
      show H1[ad k]? = some (vp_cell _ _)
      rw [hu]; exact e
    · rw [z_up_f M i x hkj]
      exact (h2 k hk).kept (oq (ad k) (fun z => hkj (h6 k j hk hj z)))
section ZM
variable {p : Program} {l : Launch} {e : Env} {R : Room} {s : State} {m : MethodId} {args : Array Value} {below : List Frame} {meth : Method} {c : Code} {Q : State → Prop} {cc : ByteArray} {nL : Nat} {own : String} {A : Nat → Prop} {k n : Nat} {pc : Nat} {lv : List (Nat × Value)} {st : List Value} {D : va_G} {cy : Nat → ClassId} {o : Nat} {ad : Nat → Nat} {M : z_Md}
theorem z_recvM {s : State} (hE : z_EM D cy s) : ∀ H : Heap, z_hM D cy A o ad M H → ∃ cell : Cell, H[o]? = some cell ∧ cell.vm.isStatics = false ∧ s.vm.findClass RX7 = some cell.cls := fun H h => va_recv (ws := [(o, .inr (8, z_mF ad M))]) (q0 := 0) (ci := 8) (q := (RX7, TX7, 32)) hE (fun k q hk => by
  match k, hk with
  | 0, hk => cases hk; exact h.1
  | k + 1, hk => simp at hk) rfl rfl
theorem z_wsM : ∀ w ∈ wsX70, w ∈ z_T := by
  intro w hw
  exact List.mem_filter.mpr ⟨z_inX7 w hw, z_goodX7 w hw⟩
theorem z_mget {index k0 : Nat} {v : Value} (S : CallFix p m c cc nL s args z_T RX7) (hE : z_EM D cy s) (hk : k0 < 32) (hlink : Cond.fieldLink RX7 index RX7 (TX7 k0).2.1 (TX7 k0).2.2.1 ∈ z_T) (hh : (TX7 k0).1 = RX7) (hv : (z_mF ad M)[k0]? = some v) (hdg : decode cc pc = .ok (.getfield index, 3)) (kk : z_V A (z_hM D cy A o ad) p l e R s m args below meth c nL Q k n M (pc + 3) lv (v :: st)) : z_V A (z_hM D cy A o ad) p l e R s m args below meth c nL Q k n M pc lv (.ref o :: st) := fun H locs ls h1 h2 h3 =>
  va_get (D := D) (cl := vwCl) (ws := [(o, .inr (8, z_mF ad M))]) (ci := 8) (v := v) (C := RX7) (T := TX7) (N := 32) (ref := RX7) S.1 S.2.1 S.2.2.2.2 z_wsM S.2.2.2.1 hE (fun k q hk => by
  match k, hk with
  | 0, hk => cases hk; exact h1.1
  | k + 1, hk => simp at hk) 0 rfl rfl k0 hk (S.2.2.2.2 _ hlink) (by rw [hh]; exact fun _ h => h) hv hdg (kk H locs ls h1 h2 h3)
theorem z_mput {index k0 : Nat} {x : Int32} (S : CallFix p m c cc nL s args z_T RX7) (hE : z_EM D cy s) (hk : k0 < 32) (hlink : Cond.fieldLink RX7 index RX7 (TX7 k0).2.1 (TX7 k0).2.2.1 ∈ z_T) (hh : (TX7 k0).1 = RX7) (hfin : (TX7 k0).2.2.2 = false) (hd : parseFieldDescriptor (TX7 k0).2.2.1 = some .int) (hF : (z_mF ad M).set k0 (.int x) = z_mF ad (z_up M k0 0 x)) (hA : z_mAr k0 = false) (hdg : decode cc pc = .ok (.putfield index, 3)) (kk : z_V A (z_hM D cy A o ad) p l e R s m args below meth c nL Q k n (z_up M k0 0 x) (pc + 3) lv st) : z_V A (z_hM D cy A o ad) p l e R s m args below meth c nL Q k n M pc lv (.int x :: .ref o :: st) := fun H locs ls h1 h2 h3 => by
  have hap := va_apart (own := RX7) S.2.2.2.2 z_wsM tyX7 tyX7_ok nmX7 hE (ci := 8) (C := RX7) (T := TX7) (N := 32) rfl
  obtain ⟨a1, a2, a3, a4, a5, a6⟩ := h1
  obtain ⟨r, q0, cell, q1, q2, q3, q4⟩ := a1
  have hr : r = (RX7, TX7, 32) := Option.some.inj (q0.symm.trans rfl)
  subst hr
  obtain ⟨hS, hfc, kC, hkC, hkind⟩ := hE.1 8 _ rfl
  obtain ⟨cf, kf, fi, f, hi, hsl⟩ := hS k0 hk
  have hlay := S.2.2.2.2 _ (z_wsM _ (u_in_lay hk))
  unfold u_lay at hlay
  rw [if_neg (by rw [hfin]; decide)] at hlay
  have hst := (u_facts hfc hkC (u_lays S.2.2.2.2 z_wsM hk) hi).1
  have h6 := u_store hfc hkC hkind hlay hi hd (v := .int x) rfl rfl
  refine W.putK S.1 S.2.1 (f := f) ⟨S.2.2.2.1, S.2.2.2.2 _ hlink, ⟨_, _, _, by rw [hh] at hi; exact hi⟩, hst⟩ (by rw [q2]; exact h6) q1 q3 (by rw [hsl]; exact k2_hasslot (q4 k0 hk)) rfl rfl hdg fun H' e1 e2 e3 => ?_
  rw [hsl] at e1 ⊢
  have hl : k0 < (z_mF ad M).length := hk
  refine kk H' _ ls ⟨?_, fun j hj => ?_, a3, a4, a5, a6⟩ (h2.put e2 e3 a3) h3
  · rw [← hF]
    exact ⟨_, rfl, t_OB.to (V := updV (vp_V (z_mF ad M)) k0 (.int x)) ⟨_, e1, q2, q3, t_set q4 hap hk (.int x)⟩ (fun j _ => vp_updV_set hl (.int x) j)⟩
  · rw [z_up_f M 0 x (fun z => by rw [z, hA] at hj; cases hj)]
    exact (a2 j hj).kept (e3 (ad j) (a5 j hj))
theorem z_mald {j : Nat} {i : Int32} (S : CallFix p m c cc nL s args z_T own) (hE : z_EM D cy s) (hj : z_mAr j = true) (hz : z_mZ j = 0) (hin : vp_in i (z_mLen j)) (hdg : decode cc pc = .ok (.iaload, 1)) (kk : z_V A (z_hM D cy A o ad) p l e R s m args below meth c nL Q k n M (pc + 1) lv (.int (M j i.toNatClampNeg) :: st)) : z_V A (z_hM D cy A o ad) p l e R s m args below meth c nL Q k n M pc lv (.int i :: .ref (ad j) :: st) := fun H locs ls h1 h2 h3 =>
  va_iald (D := D) (cl := vwCl) (ws := [(ad j, .inl (cy (z_mZ j), z_mLen j, .inl (M j)))]) S.1 S.2.1 hE (fun k q hk => by
  match k, hk with
  | 0, hk => cases hk; exact h1.2.1 j hj
  | k + 1, hk => simp at hk) 0 0 rfl (by rw [hz]; rfl) hin hdg (kk H locs ls h1 h2 h3)
theorem z_mzld {j : Nat} {i : Int32} (S : CallFix p m c cc nL s args z_T own) (hE : z_EM D cy s) (hj : z_mAr j = true) (hz : z_mZ j = 1) (hin : vp_in i (z_mLen j)) (hdg : decode cc pc = .ok (.baload, 1)) (kk : z_V A (z_hM D cy A o ad) p l e R s m args below meth c nL Q k n M (pc + 1) lv (.int (M j i.toNatClampNeg) :: st)) : z_V A (z_hM D cy A o ad) p l e R s m args below meth c nL Q k n M pc lv (.int i :: .ref (ad j) :: st) := fun H locs ls h1 h2 h3 =>
  va_zald (D := D) (cl := vwCl) (ws := [(ad j, .inl (cy (z_mZ j), z_mLen j, .inl (M j)))]) S.1 S.2.1 hE (fun k q hk => by
  match k, hk with
  | 0, hk => cases hk; exact h1.2.1 j hj
  | k + 1, hk => simp at hk) 0 1 rfl (by rw [hz]; rfl) hin hdg (kk H locs ls h1 h2 h3)
theorem z_mast {j : Nat} {i x : Int32} (S : CallFix p m c cc nL s args z_T own) (hE : z_EM D cy s) (hj : z_mAr j = true) (hz : z_mZ j = 0) (hin : vp_in i (z_mLen j)) (hdg : decode cc pc = .ok (.iastore, 1)) (kk : z_V A (z_hM D cy A o ad) p l e R s m args below meth c nL Q k n (z_up M j i.toNatClampNeg x) (pc + 1) lv st) : z_V A (z_hM D cy A o ad) p l e R s m args below meth c nL Q k n M pc lv (.int x :: .int i :: .ref (ad j) :: st) := fun H locs ls h1 h2 h3 => by
  have ha : va_at D vwCl (ad j, .inl (cy (z_mZ j), z_mLen j, .inl (M j))) H := h1.2.1 j hj
  have hty : (z_tys cy)[0]? = some (cy (z_mZ j), .int) := by rw [hz]; rfl
  refine W.iast S.1 S.2.1 ha ((hE.2 0 _ hty).1 (z_mLen j) (fun q => .int (M j q))) (fun q => by cases q) (by show ¬ (i < 0 ∨ (arrV _ _ _).slots.size ≤ _); rw [arrV_size]; exact hin) rfl rfl hdg fun H1 e z oq => ?_
  refine kk H1 _ ls (z_hM_put h1 hj ?_ oq) (h2.put z oq (h1.2.2.2.1 j hj)) h3
  rw [e, vp_cell_i, vp_cell_i, arrV_store]
  congr 2
  funext q
  by_cases hq : q = i.toNatClampNeg
  · subst hq
    simp [updV, upd]
  · simp [updV, upd, hq]
theorem z_mzst {j : Nat} {i x : Int32} (S : CallFix p m c cc nL s args z_T own) (hE : z_EM D cy s) (hj : z_mAr j = true) (hz : z_mZ j = 1) (hin : vp_in i (z_mLen j)) (hx : vp_nar .boolean x = x) (hdg : decode cc pc = .ok (.bastore, 1)) (kk : z_V A (z_hM D cy A o ad) p l e R s m args below meth c nL Q k n (z_up M j i.toNatClampNeg x) (pc + 1) lv st) : z_V A (z_hM D cy A o ad) p l e R s m args below meth c nL Q k n M pc lv (.int x :: .int i :: .ref (ad j) :: st) := fun H locs ls h1 h2 h3 => by
  have ha : va_at D vwCl (ad j, .inl (cy (z_mZ j), z_mLen j, .inl (M j))) H := h1.2.1 j hj
  have hty : (z_tys cy)[1]? = some (cy (z_mZ j), .boolean) := by rw [hz]; rfl
  refine W.zast S.1 S.2.1 ha ((hE.2 1 _ hty).1 (z_mLen j) (fun q => .int (M j q))) (fun q => by cases q) (by show ¬ (i < 0 ∨ (arrV _ _ _).slots.size ≤ _); rw [arrV_size]; exact hin) rfl rfl hdg fun H1 e z oq => ?_
  refine kk H1 _ ls (z_hM_put h1 hj ?_ oq) (h2.put z oq (h1.2.2.2.1 j hj)) h3
  have hx2 : narrow .boolean (.int x) = .int x := by
    rw [← hx]
    show narrow .boolean (.int (vp_nar .boolean x)) = .int (vp_nar .boolean x)
    rw [hx]
    have : vp_nar .boolean x = x := hx
    unfold vp_nar at this
    cases hq : narrow FieldType.boolean (.int x) <;> simp_all [narrow]
  rw [e, hx2, vp_cell_i, vp_cell_i, arrV_store]
  congr 2
  funext q
  by_cases hq : q = i.toNatClampNeg
  · subst hq
    simp [updV, upd]
  · simp [updV, upd, hq]
end ZM
end
section
theorem wd_27 : Cond.selects "MessageBankModel" yX7_isBox yX7_isBox ∈ z_T := z_Tin (i := 27) (by decide +kernel) (by decide +kernel)
theorem wd_28 : Cond.selects "MessageBankModel" yX7_isFull yX7_isFull ∈ z_T := z_Tin (i := 28) (by decide +kernel) (by decide +kernel)
theorem wd_29 : Cond.selects "MessageBankModel" yX7_frame yX7_frame ∈ z_T := z_Tin (i := 29) (by decide +kernel) (by decide +kernel)
theorem wd_30 : Cond.selects "MessageBankModel" yX7_growGap yX7_growGap ∈ z_T := z_Tin (i := 30) (by decide +kernel) (by decide +kernel)
theorem wd_31 : Cond.selects "MessageBankModel" yX7_entryAt yX7_entryAt ∈ z_T := z_Tin (i := 31) (by decide +kernel) (by decide +kernel)
theorem wd_32 : Cond.selects "MessageBankModel" yX7_isPaid yX7_isPaid ∈ z_T := z_Tin (i := 32) (by decide +kernel) (by decide +kernel)
theorem wd_33 : Cond.selects "MessageBankModel" yX7_usedBy yX7_usedBy ∈ z_T := z_Tin (i := 33) (by decide +kernel) (by decide +kernel)
theorem wd_34 : Cond.selects "MessageBankModel" yX7_cost yX7_cost ∈ z_T := z_Tin (i := 34) (by decide +kernel) (by decide +kernel)
theorem wd_35 : Cond.selects "MessageBankModel" yX7_dropLast yX7_dropLast ∈ z_T := z_Tin (i := 35) (by decide +kernel) (by decide +kernel)
theorem wd_36 : Cond.selects "MessageBankModel" yX7_codeFrame yX7_codeFrame ∈ z_T := z_Tin (i := 36) (by decide +kernel) (by decide +kernel)
theorem wd_37 : Cond.selects "MessageBankModel" yX7_freeBlock yX7_freeBlock ∈ z_T := z_Tin (i := 37) (by decide +kernel) (by decide +kernel)
theorem wd_38 : Cond.selects "MessageBankModel" yX7_code yX7_code ∈ z_T := z_Tin (i := 38) (by decide +kernel) (by decide +kernel)
theorem wd_39 : Cond.selects "MessageBankModel" yX7_hear yX7_hear ∈ z_T := z_Tin (i := 39) (by decide +kernel) (by decide +kernel)
theorem wd_40 : Cond.selects "MessageBankModel" yX7_append yX7_append ∈ z_T := z_Tin (i := 40) (by decide +kernel) (by decide +kernel)
theorem wd_41 : Cond.selects "MessageBankModel" yX7_add yX7_add ∈ z_T := z_Tin (i := 41) (by decide +kernel) (by decide +kernel)
theorem wd_42 : Cond.selects "MessageBankModel" yX7_letGo yX7_letGo ∈ z_T := z_Tin (i := 42) (by decide +kernel) (by decide +kernel)
theorem wd_43 : Cond.selects "MessageBankModel" yX7_release yX7_release ∈ z_T := z_Tin (i := 43) (by decide +kernel) (by decide +kernel)
theorem wd_44 : Cond.selects "MessageBankModel" yX7_find yX7_find ∈ z_T := z_Tin (i := 44) (by decide +kernel) (by decide +kernel)
theorem wd_45 : Cond.selects "MessageBankModel" yX7_frames yX7_frames ∈ z_T := z_Tin (i := 45) (by decide +kernel) (by decide +kernel)
theorem wd_46 : Cond.selects "MessageBankModel" yX7_sound yX7_sound ∈ z_T := z_Tin (i := 46) (by decide +kernel) (by decide +kernel)
theorem wd_47 : Cond.selects "MessageBankModel" yX7_lastBlock yX7_lastBlock ∈ z_T := z_Tin (i := 47) (by decide +kernel) (by decide +kernel)
theorem wd_48 : Cond.selects "MessageBankModel" yX7_moveBlock yX7_moveBlock ∈ z_T := z_Tin (i := 48) (by decide +kernel) (by decide +kernel)
theorem wd_59 : Cond.initialized "MessageBankModel" ∈ z_T := z_Tin (i := 59) (by decide +kernel) (by decide +kernel)
theorem wd_831 : Cond.fieldLink "MessageBankModel" 89 "MessageBankModel" "thrown" "I" ∈ z_T := z_Tin (i := 831) (by decide +kernel) (by decide +kernel)
theorem wd_832 : Cond.fieldLink "MessageBankModel" 7 "MessageBankModel" "steps" "[I" ∈ z_T := z_Tin (i := 832) (by decide +kernel) (by decide +kernel)
theorem wd_833 : Cond.fieldLink "MessageBankModel" 13 "MessageBankModel" "counts" "[I" ∈ z_T := z_Tin (i := 833) (by decide +kernel) (by decide +kernel)
theorem wd_834 : Cond.fieldLink "MessageBankModel" 16 "MessageBankModel" "nexts" "[I" ∈ z_T := z_Tin (i := 834) (by decide +kernel) (by decide +kernel)
theorem wd_835 : Cond.fieldLink "MessageBankModel" 19 "MessageBankModel" "gaps" "[I" ∈ z_T := z_Tin (i := 835) (by decide +kernel) (by decide +kernel)
theorem wd_836 : Cond.fieldLink "MessageBankModel" 22 "MessageBankModel" "codes" "[I" ∈ z_T := z_Tin (i := 836) (by decide +kernel) (by decide +kernel)
theorem wd_837 : Cond.fieldLink "MessageBankModel" 25 "MessageBankModel" "users" "[I" ∈ z_T := z_Tin (i := 837) (by decide +kernel) (by decide +kernel)
theorem wd_838 : Cond.fieldLink "MessageBankModel" 28 "MessageBankModel" "open" "[Z" ∈ z_T := z_Tin (i := 838) (by decide +kernel) (by decide +kernel)
theorem wd_839 : Cond.fieldLink "MessageBankModel" 32 "MessageBankModel" "firsts" "[I" ∈ z_T := z_Tin (i := 839) (by decide +kernel) (by decide +kernel)
theorem wd_840 : Cond.fieldLink "MessageBankModel" 35 "MessageBankModel" "sizes" "[I" ∈ z_T := z_Tin (i := 840) (by decide +kernel) (by decide +kernel)
theorem wd_841 : Cond.fieldLink "MessageBankModel" 118 "MessageBankModel" "boxes" "I" ∈ z_T := z_Tin (i := 841) (by decide +kernel) (by decide +kernel)
theorem wd_842 : Cond.fieldLink "MessageBankModel" 38 "MessageBankModel" "quotas" "[I" ∈ z_T := z_Tin (i := 842) (by decide +kernel) (by decide +kernel)
theorem wd_843 : Cond.fieldLink "MessageBankModel" 41 "MessageBankModel" "spoken" "[I" ∈ z_T := z_Tin (i := 843) (by decide +kernel) (by decide +kernel)
theorem wd_844 : Cond.fieldLink "MessageBankModel" 121 "MessageBankModel" "messages" "I" ∈ z_T := z_Tin (i := 844) (by decide +kernel) (by decide +kernel)
theorem wd_845 : Cond.fieldLink "MessageBankModel" 171 "MessageBankModel" "made" "I" ∈ z_T := z_Tin (i := 845) (by decide +kernel) (by decide +kernel)
theorem wd_846 : Cond.fieldLink "MessageBankModel" 44 "MessageBankModel" "numbers" "[I" ∈ z_T := z_Tin (i := 846) (by decide +kernel) (by decide +kernel)
theorem wd_847 : Cond.fieldLink "MessageBankModel" 47 "MessageBankModel" "boxOf" "[I" ∈ z_T := z_Tin (i := 847) (by decide +kernel) (by decide +kernel)
theorem wd_848 : Cond.fieldLink "MessageBankModel" 50 "MessageBankModel" "lists" "[I" ∈ z_T := z_Tin (i := 848) (by decide +kernel) (by decide +kernel)
theorem wd_849 : Cond.fieldLink "MessageBankModel" 53 "MessageBankModel" "records" "[I" ∈ z_T := z_Tin (i := 849) (by decide +kernel) (by decide +kernel)
theorem wd_850 : Cond.fieldLink "MessageBankModel" 56 "MessageBankModel" "prefaces" "[I" ∈ z_T := z_Tin (i := 850) (by decide +kernel) (by decide +kernel)
theorem wd_851 : Cond.fieldLink "MessageBankModel" 59 "MessageBankModel" "busy" "[Z" ∈ z_T := z_Tin (i := 851) (by decide +kernel) (by decide +kernel)
theorem wd_852 : Cond.fieldLink "MessageBankModel" 62 "MessageBankModel" "lineBox" "[I" ∈ z_T := z_Tin (i := 852) (by decide +kernel) (by decide +kernel)
theorem wd_853 : Cond.fieldLink "MessageBankModel" 65 "MessageBankModel" "lineKind" "[I" ∈ z_T := z_Tin (i := 853) (by decide +kernel) (by decide +kernel)
theorem wd_854 : Cond.fieldLink "MessageBankModel" 68 "MessageBankModel" "lineRecord" "[I" ∈ z_T := z_Tin (i := 854) (by decide +kernel) (by decide +kernel)
theorem wd_855 : Cond.fieldLink "MessageBankModel" 71 "MessageBankModel" "ended" "[Z" ∈ z_T := z_Tin (i := 855) (by decide +kernel) (by decide +kernel)
theorem wd_856 : Cond.fieldLink "MessageBankModel" 74 "MessageBankModel" "taken" "[I" ∈ z_T := z_Tin (i := 856) (by decide +kernel) (by decide +kernel)
theorem wd_857 : Cond.fieldLink "MessageBankModel" 77 "MessageBankModel" "samples" "[I" ∈ z_T := z_Tin (i := 857) (by decide +kernel) (by decide +kernel)
theorem wd_858 : Cond.fieldLink "MessageBankModel" 80 "MessageBankModel" "quiet" "[I" ∈ z_T := z_Tin (i := 858) (by decide +kernel) (by decide +kernel)
theorem wd_859 : Cond.fieldLink "MessageBankModel" 83 "MessageBankModel" "guesses" "[I" ∈ z_T := z_Tin (i := 859) (by decide +kernel) (by decide +kernel)
theorem wd_860 : Cond.fieldLink "MessageBankModel" 86 "MessageBankModel" "indexes" "[I" ∈ z_T := z_Tin (i := 860) (by decide +kernel) (by decide +kernel)
theorem wd_861 : Cond.fieldLink "MessageBankModel" 96 "MessageBankModel" "guess" "I" ∈ z_T := z_Tin (i := 861) (by decide +kernel) (by decide +kernel)
theorem wd_862 : Cond.fieldLink "MessageBankModel" 93 "MessageBankModel" "index" "I" ∈ z_T := z_Tin (i := 862) (by decide +kernel) (by decide +kernel)
theorem wd_941 : Cond.methodLink "MessageBankModel" 127 yX7_isLine ∈ z_T := z_Tin (i := 941) (by decide +kernel) (by decide +kernel)
theorem wd_942 : Cond.static yX7_isLine ∈ z_T := z_Tin (i := 942) (by decide +kernel) (by decide +kernel)
theorem wd_943 : Cond.code yX7_isLine cX7_isLine 1 (some .boolean) ∈ z_T := z_Tin (i := 943) (by decide +kernel) (by decide +kernel)
theorem wd_944 : Cond.methodLink "MessageBankModel" 131 yX7_isBox ∈ z_T := z_Tin (i := 944) (by decide +kernel) (by decide +kernel)
theorem wd_946 : Cond.instanceMethod yX7_isBox ∈ z_T := z_Tin (i := 946) (by decide +kernel) (by decide +kernel)
theorem wd_947 : Cond.code yX7_isBox cX7_isBox 2 (some .boolean) ∈ z_T := z_Tin (i := 947) (by decide +kernel) (by decide +kernel)
theorem wd_948 : Cond.methodLink "MessageBankModel" 134 yX7_isFull ∈ z_T := z_Tin (i := 948) (by decide +kernel) (by decide +kernel)
theorem wd_950 : Cond.instanceMethod yX7_isFull ∈ z_T := z_Tin (i := 950) (by decide +kernel) (by decide +kernel)
theorem wd_951 : Cond.code yX7_isFull cX7_isFull 3 (some .boolean) ∈ z_T := z_Tin (i := 951) (by decide +kernel) (by decide +kernel)
theorem wd_956 : Cond.methodLink "MessageBankModel" 161 yX7_frame ∈ z_T := z_Tin (i := 956) (by decide +kernel) (by decide +kernel)
theorem wd_958 : Cond.instanceMethod yX7_frame ∈ z_T := z_Tin (i := 958) (by decide +kernel) (by decide +kernel)
theorem wd_959 : Cond.code yX7_frame cX7_frame 5 none ∈ z_T := z_Tin (i := 959) (by decide +kernel) (by decide +kernel)
theorem wd_960 : Cond.methodLink "MessageBankModel" 155 yX7_growGap ∈ z_T := z_Tin (i := 960) (by decide +kernel) (by decide +kernel)
theorem wd_962 : Cond.instanceMethod yX7_growGap ∈ z_T := z_Tin (i := 962) (by decide +kernel) (by decide +kernel)
theorem wd_963 : Cond.code yX7_growGap cX7_growGap 6 none ∈ z_T := z_Tin (i := 963) (by decide +kernel) (by decide +kernel)
theorem wd_964 : Cond.methodLink "MessageBankModel" 107 yX7_entryAt ∈ z_T := z_Tin (i := 964) (by decide +kernel) (by decide +kernel)
theorem wd_966 : Cond.instanceMethod yX7_entryAt ∈ z_T := z_Tin (i := 966) (by decide +kernel) (by decide +kernel)
theorem wd_967 : Cond.code yX7_entryAt cX7_entryAt 5 (some .int) ∈ z_T := z_Tin (i := 967) (by decide +kernel) (by decide +kernel)
theorem wd_968 : Cond.methodLink "MessageBankModel" 115 yX7_costOfGap ∈ z_T := z_Tin (i := 968) (by decide +kernel) (by decide +kernel)
theorem wd_969 : Cond.static yX7_costOfGap ∈ z_T := z_Tin (i := 969) (by decide +kernel) (by decide +kernel)
theorem wd_970 : Cond.code yX7_costOfGap cX7_costOfGap 1 (some .int) ∈ z_T := z_Tin (i := 970) (by decide +kernel) (by decide +kernel)
theorem wd_971 : Cond.methodLink "MessageBankModel" 141 yX7_isPaid ∈ z_T := z_Tin (i := 971) (by decide +kernel) (by decide +kernel)
theorem wd_973 : Cond.instanceMethod yX7_isPaid ∈ z_T := z_Tin (i := 973) (by decide +kernel) (by decide +kernel)
theorem wd_974 : Cond.code yX7_isPaid cX7_isPaid 3 (some .boolean) ∈ z_T := z_Tin (i := 974) (by decide +kernel) (by decide +kernel)
theorem wd_975 : Cond.methodLink "MessageBankModel" 138 yX7_usedBy ∈ z_T := z_Tin (i := 975) (by decide +kernel) (by decide +kernel)
theorem wd_977 : Cond.instanceMethod yX7_usedBy ∈ z_T := z_Tin (i := 977) (by decide +kernel) (by decide +kernel)
theorem wd_978 : Cond.code yX7_usedBy cX7_usedBy 4 (some .int) ∈ z_T := z_Tin (i := 978) (by decide +kernel) (by decide +kernel)
theorem wd_979 : Cond.methodLink "MessageBankModel" 124 yX7_cost ∈ z_T := z_Tin (i := 979) (by decide +kernel) (by decide +kernel)
theorem wd_981 : Cond.instanceMethod yX7_cost ∈ z_T := z_Tin (i := 981) (by decide +kernel) (by decide +kernel)
theorem wd_982 : Cond.code yX7_cost cX7_cost 5 (some .int) ∈ z_T := z_Tin (i := 982) (by decide +kernel) (by decide +kernel)
theorem wd_983 : Cond.methodLink "MessageBankModel" 152 yX7_dropLast ∈ z_T := z_Tin (i := 983) (by decide +kernel) (by decide +kernel)
theorem wd_985 : Cond.instanceMethod yX7_dropLast ∈ z_T := z_Tin (i := 985) (by decide +kernel) (by decide +kernel)
theorem wd_986 : Cond.code yX7_dropLast cX7_dropLast 3 none ∈ z_T := z_Tin (i := 986) (by decide +kernel) (by decide +kernel)
theorem wd_987 : Cond.methodLink "MessageBankModel" 158 yX7_codeFrame ∈ z_T := z_Tin (i := 987) (by decide +kernel) (by decide +kernel)
theorem wd_989 : Cond.instanceMethod yX7_codeFrame ∈ z_T := z_Tin (i := 989) (by decide +kernel) (by decide +kernel)
theorem wd_990 : Cond.code yX7_codeFrame cX7_codeFrame 5 none ∈ z_T := z_Tin (i := 990) (by decide +kernel) (by decide +kernel)
theorem wd_991 : Cond.methodLink "MessageBankModel" 103 yX7_freeBlock ∈ z_T := z_Tin (i := 991) (by decide +kernel) (by decide +kernel)
theorem wd_993 : Cond.instanceMethod yX7_freeBlock ∈ z_T := z_Tin (i := 993) (by decide +kernel) (by decide +kernel)
theorem wd_994 : Cond.code yX7_freeBlock cX7_freeBlock 3 (some .int) ∈ z_T := z_Tin (i := 994) (by decide +kernel) (by decide +kernel)
theorem wd_995 : Cond.methodLink "MessageBankModel" 145 yX7_code ∈ z_T := z_Tin (i := 995) (by decide +kernel) (by decide +kernel)
theorem wd_997 : Cond.instanceMethod yX7_code ∈ z_T := z_Tin (i := 997) (by decide +kernel) (by decide +kernel)
theorem wd_998 : Cond.code yX7_code cX7_code 7 (some .int) ∈ z_T := z_Tin (i := 998) (by decide +kernel) (by decide +kernel)
theorem wd_999 : Cond.methodLink "MessageBankModel" 99 yX7_hear ∈ z_T := z_Tin (i := 999) (by decide +kernel) (by decide +kernel)
theorem wd_1001 : Cond.instanceMethod yX7_hear ∈ z_T := z_Tin (i := 1001) (by decide +kernel) (by decide +kernel)
theorem wd_1002 : Cond.code yX7_hear cX7_hear 7 none ∈ z_T := z_Tin (i := 1002) (by decide +kernel) (by decide +kernel)
theorem wd_1003 : Cond.methodLink "MessageBankModel" 148 yX7_append ∈ z_T := z_Tin (i := 1003) (by decide +kernel) (by decide +kernel)
theorem wd_1005 : Cond.instanceMethod yX7_append ∈ z_T := z_Tin (i := 1005) (by decide +kernel) (by decide +kernel)
theorem wd_1006 : Cond.code yX7_append cX7_append 5 none ∈ z_T := z_Tin (i := 1006) (by decide +kernel) (by decide +kernel)
theorem wd_1011 : Cond.methodLink "MessageBankModel" 164 yX7_add ∈ z_T := z_Tin (i := 1011) (by decide +kernel) (by decide +kernel)
theorem wd_1013 : Cond.instanceMethod yX7_add ∈ z_T := z_Tin (i := 1013) (by decide +kernel) (by decide +kernel)
theorem wd_1014 : Cond.code yX7_add cX7_add 4 (some .int) ∈ z_T := z_Tin (i := 1014) (by decide +kernel) (by decide +kernel)
theorem wd_1015 : Cond.methodLink "MessageBankModel" 168 yX7_letGo ∈ z_T := z_Tin (i := 1015) (by decide +kernel) (by decide +kernel)
theorem wd_1017 : Cond.instanceMethod yX7_letGo ∈ z_T := z_Tin (i := 1017) (by decide +kernel) (by decide +kernel)
theorem wd_1018 : Cond.code yX7_letGo cX7_letGo 2 (some .int) ∈ z_T := z_Tin (i := 1018) (by decide +kernel) (by decide +kernel)
theorem wd_1019 : Cond.methodLink "MessageBankModel" 111 yX7_release ∈ z_T := z_Tin (i := 1019) (by decide +kernel) (by decide +kernel)
theorem wd_1021 : Cond.instanceMethod yX7_release ∈ z_T := z_Tin (i := 1021) (by decide +kernel) (by decide +kernel)
theorem wd_1022 : Cond.code yX7_release cX7_release 5 (some .int) ∈ z_T := z_Tin (i := 1022) (by decide +kernel) (by decide +kernel)
theorem wd_1031 : Cond.methodLink "MessageBankModel" 174 yX7_find ∈ z_T := z_Tin (i := 1031) (by decide +kernel) (by decide +kernel)
theorem wd_1033 : Cond.instanceMethod yX7_find ∈ z_T := z_Tin (i := 1033) (by decide +kernel) (by decide +kernel)
theorem wd_1034 : Cond.code yX7_find cX7_find 4 (some .int) ∈ z_T := z_Tin (i := 1034) (by decide +kernel) (by decide +kernel)
theorem wd_1047 : Cond.methodLink "MessageBankModel" 177 yX7_frames ∈ z_T := z_Tin (i := 1047) (by decide +kernel) (by decide +kernel)
theorem wd_1049 : Cond.instanceMethod yX7_frames ∈ z_T := z_Tin (i := 1049) (by decide +kernel) (by decide +kernel)
theorem wd_1050 : Cond.code yX7_frames cX7_frames 5 (some .int) ∈ z_T := z_Tin (i := 1050) (by decide +kernel) (by decide +kernel)
theorem wd_1055 : Cond.methodLink "MessageBankModel" 180 yX7_sound ∈ z_T := z_Tin (i := 1055) (by decide +kernel) (by decide +kernel)
theorem wd_1057 : Cond.instanceMethod yX7_sound ∈ z_T := z_Tin (i := 1057) (by decide +kernel) (by decide +kernel)
theorem wd_1058 : Cond.code yX7_sound cX7_sound 7 (some .int) ∈ z_T := z_Tin (i := 1058) (by decide +kernel) (by decide +kernel)
theorem wd_1079 : Cond.methodLink "MessageBankModel" 183 yX7_lastBlock ∈ z_T := z_Tin (i := 1079) (by decide +kernel) (by decide +kernel)
theorem wd_1081 : Cond.instanceMethod yX7_lastBlock ∈ z_T := z_Tin (i := 1081) (by decide +kernel) (by decide +kernel)
theorem wd_1082 : Cond.code yX7_lastBlock cX7_lastBlock 3 (some .int) ∈ z_T := z_Tin (i := 1082) (by decide +kernel) (by decide +kernel)
theorem wd_1083 : Cond.methodLink "MessageBankModel" 186 yX7_moveBlock ∈ z_T := z_Tin (i := 1083) (by decide +kernel) (by decide +kernel)
theorem wd_1085 : Cond.instanceMethod yX7_moveBlock ∈ z_T := z_Tin (i := 1085) (by decide +kernel) (by decide +kernel)
theorem wd_1086 : Cond.code yX7_moveBlock cX7_moveBlock 4 none ∈ z_T := z_Tin (i := 1086) (by decide +kernel) (by decide +kernel)
theorem gS_X7_115 : GoodIn z_T (va_wsS RX7 115 yX7_costOfGap (Cond.code yX7_costOfGap cX7_costOfGap 1 (some .int) :: z_T)) := z_goS wd_968 wd_969 wd_59 wd_970
theorem gS_X7_127 : GoodIn z_T (va_wsS RX7 127 yX7_isLine (Cond.code yX7_isLine cX7_isLine 1 (some .boolean) :: z_T)) := z_goS wd_941 wd_942 wd_59 wd_943
theorem gV_X7_99 : GoodIn z_T (wsV RX7 99 RX7 yX7_hear (Cond.code yX7_hear cX7_hear 7 none :: z_T)) := z_goV wd_999 wd_1001 wd_39 wd_59 wd_1002
theorem gV_X7_103 : GoodIn z_T (wsV RX7 103 RX7 yX7_freeBlock (Cond.code yX7_freeBlock cX7_freeBlock 3 (some .int) :: z_T)) := z_goV wd_991 wd_993 wd_37 wd_59 wd_994
theorem gV_X7_107 : GoodIn z_T (wsV RX7 107 RX7 yX7_entryAt (Cond.code yX7_entryAt cX7_entryAt 5 (some .int) :: z_T)) := z_goV wd_964 wd_966 wd_31 wd_59 wd_967
theorem gV_X7_111 : GoodIn z_T (wsV RX7 111 RX7 yX7_release (Cond.code yX7_release cX7_release 5 (some .int) :: z_T)) := z_goV wd_1019 wd_1021 wd_43 wd_59 wd_1022
theorem gV_X7_124 : GoodIn z_T (wsV RX7 124 RX7 yX7_cost (Cond.code yX7_cost cX7_cost 5 (some .int) :: z_T)) := z_goV wd_979 wd_981 wd_34 wd_59 wd_982
theorem gV_X7_131 : GoodIn z_T (wsV RX7 131 RX7 yX7_isBox (Cond.code yX7_isBox cX7_isBox 2 (some .boolean) :: z_T)) := z_goV wd_944 wd_946 wd_27 wd_59 wd_947
theorem gV_X7_134 : GoodIn z_T (wsV RX7 134 RX7 yX7_isFull (Cond.code yX7_isFull cX7_isFull 3 (some .boolean) :: z_T)) := z_goV wd_948 wd_950 wd_28 wd_59 wd_951
theorem gV_X7_138 : GoodIn z_T (wsV RX7 138 RX7 yX7_usedBy (Cond.code yX7_usedBy cX7_usedBy 4 (some .int) :: z_T)) := z_goV wd_975 wd_977 wd_33 wd_59 wd_978
theorem gV_X7_141 : GoodIn z_T (wsV RX7 141 RX7 yX7_isPaid (Cond.code yX7_isPaid cX7_isPaid 3 (some .boolean) :: z_T)) := z_goV wd_971 wd_973 wd_32 wd_59 wd_974
theorem gV_X7_145 : GoodIn z_T (wsV RX7 145 RX7 yX7_code (Cond.code yX7_code cX7_code 7 (some .int) :: z_T)) := z_goV wd_995 wd_997 wd_38 wd_59 wd_998
theorem gV_X7_148 : GoodIn z_T (wsV RX7 148 RX7 yX7_append (Cond.code yX7_append cX7_append 5 none :: z_T)) := z_goV wd_1003 wd_1005 wd_40 wd_59 wd_1006
theorem gV_X7_152 : GoodIn z_T (wsV RX7 152 RX7 yX7_dropLast (Cond.code yX7_dropLast cX7_dropLast 3 none :: z_T)) := z_goV wd_983 wd_985 wd_35 wd_59 wd_986
theorem gV_X7_155 : GoodIn z_T (wsV RX7 155 RX7 yX7_growGap (Cond.code yX7_growGap cX7_growGap 6 none :: z_T)) := z_goV wd_960 wd_962 wd_30 wd_59 wd_963
theorem gV_X7_158 : GoodIn z_T (wsV RX7 158 RX7 yX7_codeFrame (Cond.code yX7_codeFrame cX7_codeFrame 5 none :: z_T)) := z_goV wd_987 wd_989 wd_36 wd_59 wd_990
theorem gV_X7_161 : GoodIn z_T (wsV RX7 161 RX7 yX7_frame (Cond.code yX7_frame cX7_frame 5 none :: z_T)) := z_goV wd_956 wd_958 wd_29 wd_59 wd_959
theorem gV_X7_164 : GoodIn z_T (wsV RX7 164 RX7 yX7_add (Cond.code yX7_add cX7_add 4 (some .int) :: z_T)) := z_goV wd_1011 wd_1013 wd_41 wd_59 wd_1014
theorem gV_X7_168 : GoodIn z_T (wsV RX7 168 RX7 yX7_letGo (Cond.code yX7_letGo cX7_letGo 2 (some .int) :: z_T)) := z_goV wd_1015 wd_1017 wd_42 wd_59 wd_1018
theorem gV_X7_174 : GoodIn z_T (wsV RX7 174 RX7 yX7_find (Cond.code yX7_find cX7_find 4 (some .int) :: z_T)) := z_goV wd_1031 wd_1033 wd_44 wd_59 wd_1034
theorem gV_X7_177 : GoodIn z_T (wsV RX7 177 RX7 yX7_frames (Cond.code yX7_frames cX7_frames 5 (some .int) :: z_T)) := z_goV wd_1047 wd_1049 wd_45 wd_59 wd_1050
theorem gV_X7_180 : GoodIn z_T (wsV RX7 180 RX7 yX7_sound (Cond.code yX7_sound cX7_sound 7 (some .int) :: z_T)) := z_goV wd_1055 wd_1057 wd_46 wd_59 wd_1058
theorem gV_X7_183 : GoodIn z_T (wsV RX7 183 RX7 yX7_lastBlock (Cond.code yX7_lastBlock cX7_lastBlock 3 (some .int) :: z_T)) := z_goV wd_1079 wd_1081 wd_47 wd_59 wd_1082
theorem gV_X7_186 : GoodIn z_T (wsV RX7 186 RX7 yX7_moveBlock (Cond.code yX7_moveBlock cX7_moveBlock 4 none :: z_T)) := z_goV wd_1083 wd_1085 wd_48 wd_59 wd_1086
theorem hdS_X7_costOfGap : yX7_costOfGap.cls ≠ "java/lang/invoke/MethodHandle" ∧ yX7_costOfGap.cls ≠ "java/lang/invoke/VarHandle" ∧ (parseMethodDescriptor yX7_costOfGap.desc).map (fun d => d.parameters.length) = some 1 := by decide +kernel
theorem hdS_X7_isLine : yX7_isLine.cls ≠ "java/lang/invoke/MethodHandle" ∧ yX7_isLine.cls ≠ "java/lang/invoke/VarHandle" ∧ (parseMethodDescriptor yX7_isLine.desc).map (fun d => d.parameters.length) = some 1 := by decide +kernel
theorem hdV_X7_add : yX7_add.cls = RX7 ∧ yX7_add.cls ≠ "java/lang/invoke/MethodHandle" ∧ yX7_add.cls ≠ "java/lang/invoke/VarHandle" ∧ (parseMethodDescriptor yX7_add.desc).map (fun d => d.parameters.length) = some 3 := by decide +kernel
theorem hdV_X7_append : yX7_append.cls = RX7 ∧ yX7_append.cls ≠ "java/lang/invoke/MethodHandle" ∧ yX7_append.cls ≠ "java/lang/invoke/VarHandle" ∧ (parseMethodDescriptor yX7_append.desc).map (fun d => d.parameters.length) = some 2 := by decide +kernel
theorem hdV_X7_code : yX7_code.cls = RX7 ∧ yX7_code.cls ≠ "java/lang/invoke/MethodHandle" ∧ yX7_code.cls ≠ "java/lang/invoke/VarHandle" ∧ (parseMethodDescriptor yX7_code.desc).map (fun d => d.parameters.length) = some 1 := by decide +kernel
theorem hdV_X7_codeFrame : yX7_codeFrame.cls = RX7 ∧ yX7_codeFrame.cls ≠ "java/lang/invoke/MethodHandle" ∧ yX7_codeFrame.cls ≠ "java/lang/invoke/VarHandle" ∧ (parseMethodDescriptor yX7_codeFrame.desc).map (fun d => d.parameters.length) = some 1 := by decide +kernel
theorem hdV_X7_cost : yX7_cost.cls = RX7 ∧ yX7_cost.cls ≠ "java/lang/invoke/MethodHandle" ∧ yX7_cost.cls ≠ "java/lang/invoke/VarHandle" ∧ (parseMethodDescriptor yX7_cost.desc).map (fun d => d.parameters.length) = some 1 := by decide +kernel
theorem hdV_X7_dropLast : yX7_dropLast.cls = RX7 ∧ yX7_dropLast.cls ≠ "java/lang/invoke/MethodHandle" ∧ yX7_dropLast.cls ≠ "java/lang/invoke/VarHandle" ∧ (parseMethodDescriptor yX7_dropLast.desc).map (fun d => d.parameters.length) = some 1 := by decide +kernel
theorem hdV_X7_entryAt : yX7_entryAt.cls = RX7 ∧ yX7_entryAt.cls ≠ "java/lang/invoke/MethodHandle" ∧ yX7_entryAt.cls ≠ "java/lang/invoke/VarHandle" ∧ (parseMethodDescriptor yX7_entryAt.desc).map (fun d => d.parameters.length) = some 2 := by decide +kernel
theorem hdV_X7_find : yX7_find.cls = RX7 ∧ yX7_find.cls ≠ "java/lang/invoke/MethodHandle" ∧ yX7_find.cls ≠ "java/lang/invoke/VarHandle" ∧ (parseMethodDescriptor yX7_find.desc).map (fun d => d.parameters.length) = some 1 := by decide +kernel
theorem hdV_X7_frame : yX7_frame.cls = RX7 ∧ yX7_frame.cls ≠ "java/lang/invoke/MethodHandle" ∧ yX7_frame.cls ≠ "java/lang/invoke/VarHandle" ∧ (parseMethodDescriptor yX7_frame.desc).map (fun d => d.parameters.length) = some 1 := by decide +kernel
theorem hdV_X7_frames : yX7_frames.cls = RX7 ∧ yX7_frames.cls ≠ "java/lang/invoke/MethodHandle" ∧ yX7_frames.cls ≠ "java/lang/invoke/VarHandle" ∧ (parseMethodDescriptor yX7_frames.desc).map (fun d => d.parameters.length) = some 1 := by decide +kernel
theorem hdV_X7_freeBlock : yX7_freeBlock.cls = RX7 ∧ yX7_freeBlock.cls ≠ "java/lang/invoke/MethodHandle" ∧ yX7_freeBlock.cls ≠ "java/lang/invoke/VarHandle" ∧ (parseMethodDescriptor yX7_freeBlock.desc).map (fun d => d.parameters.length) = some 0 := by decide +kernel
theorem hdV_X7_growGap : yX7_growGap.cls = RX7 ∧ yX7_growGap.cls ≠ "java/lang/invoke/MethodHandle" ∧ yX7_growGap.cls ≠ "java/lang/invoke/VarHandle" ∧ (parseMethodDescriptor yX7_growGap.desc).map (fun d => d.parameters.length) = some 1 := by decide +kernel
theorem hdV_X7_hear : yX7_hear.cls = RX7 ∧ yX7_hear.cls ≠ "java/lang/invoke/MethodHandle" ∧ yX7_hear.cls ≠ "java/lang/invoke/VarHandle" ∧ (parseMethodDescriptor yX7_hear.desc).map (fun d => d.parameters.length) = some 1 := by decide +kernel
theorem hdV_X7_isBox : yX7_isBox.cls = RX7 ∧ yX7_isBox.cls ≠ "java/lang/invoke/MethodHandle" ∧ yX7_isBox.cls ≠ "java/lang/invoke/VarHandle" ∧ (parseMethodDescriptor yX7_isBox.desc).map (fun d => d.parameters.length) = some 1 := by decide +kernel
theorem hdV_X7_isFull : yX7_isFull.cls = RX7 ∧ yX7_isFull.cls ≠ "java/lang/invoke/MethodHandle" ∧ yX7_isFull.cls ≠ "java/lang/invoke/VarHandle" ∧ (parseMethodDescriptor yX7_isFull.desc).map (fun d => d.parameters.length) = some 0 := by decide +kernel
theorem hdV_X7_isPaid : yX7_isPaid.cls = RX7 ∧ yX7_isPaid.cls ≠ "java/lang/invoke/MethodHandle" ∧ yX7_isPaid.cls ≠ "java/lang/invoke/VarHandle" ∧ (parseMethodDescriptor yX7_isPaid.desc).map (fun d => d.parameters.length) = some 2 := by decide +kernel
theorem hdV_X7_lastBlock : yX7_lastBlock.cls = RX7 ∧ yX7_lastBlock.cls ≠ "java/lang/invoke/MethodHandle" ∧ yX7_lastBlock.cls ≠ "java/lang/invoke/VarHandle" ∧ (parseMethodDescriptor yX7_lastBlock.desc).map (fun d => d.parameters.length) = some 0 := by decide +kernel
theorem hdV_X7_letGo : yX7_letGo.cls = RX7 ∧ yX7_letGo.cls ≠ "java/lang/invoke/MethodHandle" ∧ yX7_letGo.cls ≠ "java/lang/invoke/VarHandle" ∧ (parseMethodDescriptor yX7_letGo.desc).map (fun d => d.parameters.length) = some 1 := by decide +kernel
theorem hdV_X7_moveBlock : yX7_moveBlock.cls = RX7 ∧ yX7_moveBlock.cls ≠ "java/lang/invoke/MethodHandle" ∧ yX7_moveBlock.cls ≠ "java/lang/invoke/VarHandle" ∧ (parseMethodDescriptor yX7_moveBlock.desc).map (fun d => d.parameters.length) = some 2 := by decide +kernel
theorem hdV_X7_release : yX7_release.cls = RX7 ∧ yX7_release.cls ≠ "java/lang/invoke/MethodHandle" ∧ yX7_release.cls ≠ "java/lang/invoke/VarHandle" ∧ (parseMethodDescriptor yX7_release.desc).map (fun d => d.parameters.length) = some 1 := by decide +kernel
theorem hdV_X7_sound : yX7_sound.cls = RX7 ∧ yX7_sound.cls ≠ "java/lang/invoke/MethodHandle" ∧ yX7_sound.cls ≠ "java/lang/invoke/VarHandle" ∧ (parseMethodDescriptor yX7_sound.desc).map (fun d => d.parameters.length) = some 2 := by decide +kernel
theorem hdV_X7_usedBy : yX7_usedBy.cls = RX7 ∧ yX7_usedBy.cls ≠ "java/lang/invoke/MethodHandle" ∧ yX7_usedBy.cls ≠ "java/lang/invoke/VarHandle" ∧ (parseMethodDescriptor yX7_usedBy.desc).map (fun d => d.parameters.length) = some 1 := by decide +kernel
theorem zm_g_89 {p : Program} {l : Launch} {e : Env} {R : Room} {s : State} {m : MethodId} {args : Array Value} {below : List Frame} {meth : Method} {c : Code} {Q : State → Prop} {cc : ByteArray} {nL : Nat} {A : Nat → Prop} {k n : Nat} {pc : Nat} {lv : List (Nat × Value)} {st : List Value} {D : va_G} {cy : Nat → ClassId} {o : Nat} {ad : Nat → Nat} {M : z_Md} (S : CallFix p m c cc nL s args z_T RX7) (hE : z_EM D cy s) (hdg : decode cc pc = .ok (.getfield 89, 3)) (kk : z_V A (z_hM D cy A o ad) p l e R s m args below meth c nL Q k n M (pc + 3) lv (.int (M 0 0) :: st)) : z_V A (z_hM D cy A o ad) p l e R s m args below meth c nL Q k n M pc lv (.ref o :: st) := z_mget (k0 := 0) S hE (by decide) wd_831 rfl rfl hdg kk
theorem zm_g_7 {p : Program} {l : Launch} {e : Env} {R : Room} {s : State} {m : MethodId} {args : Array Value} {below : List Frame} {meth : Method} {c : Code} {Q : State → Prop} {cc : ByteArray} {nL : Nat} {A : Nat → Prop} {k n : Nat} {pc : Nat} {lv : List (Nat × Value)} {st : List Value} {D : va_G} {cy : Nat → ClassId} {o : Nat} {ad : Nat → Nat} {M : z_Md} (S : CallFix p m c cc nL s args z_T RX7) (hE : z_EM D cy s) (hdg : decode cc pc = .ok (.getfield 7, 3)) (kk : z_V A (z_hM D cy A o ad) p l e R s m args below meth c nL Q k n M (pc + 3) lv (.ref (ad 1) :: st)) : z_V A (z_hM D cy A o ad) p l e R s m args below meth c nL Q k n M pc lv (.ref o :: st) := z_mget (k0 := 1) S hE (by decide) wd_832 rfl rfl hdg kk
theorem zm_g_93 {p : Program} {l : Launch} {e : Env} {R : Room} {s : State} {m : MethodId} {args : Array Value} {below : List Frame} {meth : Method} {c : Code} {Q : State → Prop} {cc : ByteArray} {nL : Nat} {A : Nat → Prop} {k n : Nat} {pc : Nat} {lv : List (Nat × Value)} {st : List Value} {D : va_G} {cy : Nat → ClassId} {o : Nat} {ad : Nat → Nat} {M : z_Md} (S : CallFix p m c cc nL s args z_T RX7) (hE : z_EM D cy s) (hdg : decode cc pc = .ok (.getfield 93, 3)) (kk : z_V A (z_hM D cy A o ad) p l e R s m args below meth c nL Q k n M (pc + 3) lv (.int (M 31 0) :: st)) : z_V A (z_hM D cy A o ad) p l e R s m args below meth c nL Q k n M pc lv (.ref o :: st) := z_mget (k0 := 31) S hE (by decide) wd_862 rfl rfl hdg kk
theorem zm_g_96 {p : Program} {l : Launch} {e : Env} {R : Room} {s : State} {m : MethodId} {args : Array Value} {below : List Frame} {meth : Method} {c : Code} {Q : State → Prop} {cc : ByteArray} {nL : Nat} {A : Nat → Prop} {k n : Nat} {pc : Nat} {lv : List (Nat × Value)} {st : List Value} {D : va_G} {cy : Nat → ClassId} {o : Nat} {ad : Nat → Nat} {M : z_Md} (S : CallFix p m c cc nL s args z_T RX7) (hE : z_EM D cy s) (hdg : decode cc pc = .ok (.getfield 96, 3)) (kk : z_V A (z_hM D cy A o ad) p l e R s m args below meth c nL Q k n M (pc + 3) lv (.int (M 30 0) :: st)) : z_V A (z_hM D cy A o ad) p l e R s m args below meth c nL Q k n M pc lv (.ref o :: st) := z_mget (k0 := 30) S hE (by decide) wd_861 rfl rfl hdg kk
theorem zm_p_96 {p : Program} {l : Launch} {e : Env} {R : Room} {s : State} {m : MethodId} {args : Array Value} {below : List Frame} {meth : Method} {c : Code} {Q : State → Prop} {cc : ByteArray} {nL : Nat} {A : Nat → Prop} {k n : Nat} {pc : Nat} {lv : List (Nat × Value)} {st : List Value} {D : va_G} {cy : Nat → ClassId} {o : Nat} {ad : Nat → Nat} {M : z_Md} (S : CallFix p m c cc nL s args z_T RX7) (hE : z_EM D cy s) {x : Int32} (hdg : decode cc pc = .ok (.putfield 96, 3)) (kk : z_V A (z_hM D cy A o ad) p l e R s m args below meth c nL Q k n (z_up M 30 0 x) (pc + 3) lv st) : z_V A (z_hM D cy A o ad) p l e R s m args below meth c nL Q k n M pc lv (.int x :: .ref o :: st) := z_mput (k0 := 30) S hE (by decide) wd_861 rfl rfl rfl rfl rfl hdg kk
theorem zm_p_93 {p : Program} {l : Launch} {e : Env} {R : Room} {s : State} {m : MethodId} {args : Array Value} {below : List Frame} {meth : Method} {c : Code} {Q : State → Prop} {cc : ByteArray} {nL : Nat} {A : Nat → Prop} {k n : Nat} {pc : Nat} {lv : List (Nat × Value)} {st : List Value} {D : va_G} {cy : Nat → ClassId} {o : Nat} {ad : Nat → Nat} {M : z_Md} (S : CallFix p m c cc nL s args z_T RX7) (hE : z_EM D cy s) {x : Int32} (hdg : decode cc pc = .ok (.putfield 93, 3)) (kk : z_V A (z_hM D cy A o ad) p l e R s m args below meth c nL Q k n (z_up M 31 0 x) (pc + 3) lv st) : z_V A (z_hM D cy A o ad) p l e R s m args below meth c nL Q k n M pc lv (.int x :: .ref o :: st) := z_mput (k0 := 31) S hE (by decide) wd_862 rfl rfl rfl rfl rfl hdg kk
theorem zm_g_13 {p : Program} {l : Launch} {e : Env} {R : Room} {s : State} {m : MethodId} {args : Array Value} {below : List Frame} {meth : Method} {c : Code} {Q : State → Prop} {cc : ByteArray} {nL : Nat} {A : Nat → Prop} {k n : Nat} {pc : Nat} {lv : List (Nat × Value)} {st : List Value} {D : va_G} {cy : Nat → ClassId} {o : Nat} {ad : Nat → Nat} {M : z_Md} (S : CallFix p m c cc nL s args z_T RX7) (hE : z_EM D cy s) (hdg : decode cc pc = .ok (.getfield 13, 3)) (kk : z_V A (z_hM D cy A o ad) p l e R s m args below meth c nL Q k n M (pc + 3) lv (.ref (ad 2) :: st)) : z_V A (z_hM D cy A o ad) p l e R s m args below meth c nL Q k n M pc lv (.ref o :: st) := z_mget (k0 := 2) S hE (by decide) wd_833 rfl rfl hdg kk
theorem zm_g_32 {p : Program} {l : Launch} {e : Env} {R : Room} {s : State} {m : MethodId} {args : Array Value} {below : List Frame} {meth : Method} {c : Code} {Q : State → Prop} {cc : ByteArray} {nL : Nat} {A : Nat → Prop} {k n : Nat} {pc : Nat} {lv : List (Nat × Value)} {st : List Value} {D : va_G} {cy : Nat → ClassId} {o : Nat} {ad : Nat → Nat} {M : z_Md} (S : CallFix p m c cc nL s args z_T RX7) (hE : z_EM D cy s) (hdg : decode cc pc = .ok (.getfield 32, 3)) (kk : z_V A (z_hM D cy A o ad) p l e R s m args below meth c nL Q k n M (pc + 3) lv (.ref (ad 8) :: st)) : z_V A (z_hM D cy A o ad) p l e R s m args below meth c nL Q k n M pc lv (.ref o :: st) := z_mget (k0 := 8) S hE (by decide) wd_839 rfl rfl hdg kk
theorem zm_g_16 {p : Program} {l : Launch} {e : Env} {R : Room} {s : State} {m : MethodId} {args : Array Value} {below : List Frame} {meth : Method} {c : Code} {Q : State → Prop} {cc : ByteArray} {nL : Nat} {A : Nat → Prop} {k n : Nat} {pc : Nat} {lv : List (Nat × Value)} {st : List Value} {D : va_G} {cy : Nat → ClassId} {o : Nat} {ad : Nat → Nat} {M : z_Md} (S : CallFix p m c cc nL s args z_T RX7) (hE : z_EM D cy s) (hdg : decode cc pc = .ok (.getfield 16, 3)) (kk : z_V A (z_hM D cy A o ad) p l e R s m args below meth c nL Q k n M (pc + 3) lv (.ref (ad 3) :: st)) : z_V A (z_hM D cy A o ad) p l e R s m args below meth c nL Q k n M pc lv (.ref o :: st) := z_mget (k0 := 3) S hE (by decide) wd_834 rfl rfl hdg kk
theorem zm_g_35 {p : Program} {l : Launch} {e : Env} {R : Room} {s : State} {m : MethodId} {args : Array Value} {below : List Frame} {meth : Method} {c : Code} {Q : State → Prop} {cc : ByteArray} {nL : Nat} {A : Nat → Prop} {k n : Nat} {pc : Nat} {lv : List (Nat × Value)} {st : List Value} {D : va_G} {cy : Nat → ClassId} {o : Nat} {ad : Nat → Nat} {M : z_Md} (S : CallFix p m c cc nL s args z_T RX7) (hE : z_EM D cy s) (hdg : decode cc pc = .ok (.getfield 35, 3)) (kk : z_V A (z_hM D cy A o ad) p l e R s m args below meth c nL Q k n M (pc + 3) lv (.ref (ad 9) :: st)) : z_V A (z_hM D cy A o ad) p l e R s m args below meth c nL Q k n M pc lv (.ref o :: st) := z_mget (k0 := 9) S hE (by decide) wd_840 rfl rfl hdg kk
theorem zm_g_19 {p : Program} {l : Launch} {e : Env} {R : Room} {s : State} {m : MethodId} {args : Array Value} {below : List Frame} {meth : Method} {c : Code} {Q : State → Prop} {cc : ByteArray} {nL : Nat} {A : Nat → Prop} {k n : Nat} {pc : Nat} {lv : List (Nat × Value)} {st : List Value} {D : va_G} {cy : Nat → ClassId} {o : Nat} {ad : Nat → Nat} {M : z_Md} (S : CallFix p m c cc nL s args z_T RX7) (hE : z_EM D cy s) (hdg : decode cc pc = .ok (.getfield 19, 3)) (kk : z_V A (z_hM D cy A o ad) p l e R s m args below meth c nL Q k n M (pc + 3) lv (.ref (ad 4) :: st)) : z_V A (z_hM D cy A o ad) p l e R s m args below meth c nL Q k n M pc lv (.ref o :: st) := z_mget (k0 := 4) S hE (by decide) wd_835 rfl rfl hdg kk
theorem zm_g_22 {p : Program} {l : Launch} {e : Env} {R : Room} {s : State} {m : MethodId} {args : Array Value} {below : List Frame} {meth : Method} {c : Code} {Q : State → Prop} {cc : ByteArray} {nL : Nat} {A : Nat → Prop} {k n : Nat} {pc : Nat} {lv : List (Nat × Value)} {st : List Value} {D : va_G} {cy : Nat → ClassId} {o : Nat} {ad : Nat → Nat} {M : z_Md} (S : CallFix p m c cc nL s args z_T RX7) (hE : z_EM D cy s) (hdg : decode cc pc = .ok (.getfield 22, 3)) (kk : z_V A (z_hM D cy A o ad) p l e R s m args below meth c nL Q k n M (pc + 3) lv (.ref (ad 5) :: st)) : z_V A (z_hM D cy A o ad) p l e R s m args below meth c nL Q k n M pc lv (.ref o :: st) := z_mget (k0 := 5) S hE (by decide) wd_836 rfl rfl hdg kk
theorem zm_g_25 {p : Program} {l : Launch} {e : Env} {R : Room} {s : State} {m : MethodId} {args : Array Value} {below : List Frame} {meth : Method} {c : Code} {Q : State → Prop} {cc : ByteArray} {nL : Nat} {A : Nat → Prop} {k n : Nat} {pc : Nat} {lv : List (Nat × Value)} {st : List Value} {D : va_G} {cy : Nat → ClassId} {o : Nat} {ad : Nat → Nat} {M : z_Md} (S : CallFix p m c cc nL s args z_T RX7) (hE : z_EM D cy s) (hdg : decode cc pc = .ok (.getfield 25, 3)) (kk : z_V A (z_hM D cy A o ad) p l e R s m args below meth c nL Q k n M (pc + 3) lv (.ref (ad 6) :: st)) : z_V A (z_hM D cy A o ad) p l e R s m args below meth c nL Q k n M pc lv (.ref o :: st) := z_mget (k0 := 6) S hE (by decide) wd_837 rfl rfl hdg kk
theorem zm_g_118 {p : Program} {l : Launch} {e : Env} {R : Room} {s : State} {m : MethodId} {args : Array Value} {below : List Frame} {meth : Method} {c : Code} {Q : State → Prop} {cc : ByteArray} {nL : Nat} {A : Nat → Prop} {k n : Nat} {pc : Nat} {lv : List (Nat × Value)} {st : List Value} {D : va_G} {cy : Nat → ClassId} {o : Nat} {ad : Nat → Nat} {M : z_Md} (S : CallFix p m c cc nL s args z_T RX7) (hE : z_EM D cy s) (hdg : decode cc pc = .ok (.getfield 118, 3)) (kk : z_V A (z_hM D cy A o ad) p l e R s m args below meth c nL Q k n M (pc + 3) lv (.int (M 10 0) :: st)) : z_V A (z_hM D cy A o ad) p l e R s m args below meth c nL Q k n M pc lv (.ref o :: st) := z_mget (k0 := 10) S hE (by decide) wd_841 rfl rfl hdg kk
theorem zm_g_121 {p : Program} {l : Launch} {e : Env} {R : Room} {s : State} {m : MethodId} {args : Array Value} {below : List Frame} {meth : Method} {c : Code} {Q : State → Prop} {cc : ByteArray} {nL : Nat} {A : Nat → Prop} {k n : Nat} {pc : Nat} {lv : List (Nat × Value)} {st : List Value} {D : va_G} {cy : Nat → ClassId} {o : Nat} {ad : Nat → Nat} {M : z_Md} (S : CallFix p m c cc nL s args z_T RX7) (hE : z_EM D cy s) (hdg : decode cc pc = .ok (.getfield 121, 3)) (kk : z_V A (z_hM D cy A o ad) p l e R s m args below meth c nL Q k n M (pc + 3) lv (.int (M 13 0) :: st)) : z_V A (z_hM D cy A o ad) p l e R s m args below meth c nL Q k n M pc lv (.ref o :: st) := z_mget (k0 := 13) S hE (by decide) wd_844 rfl rfl hdg kk
theorem zm_g_47 {p : Program} {l : Launch} {e : Env} {R : Room} {s : State} {m : MethodId} {args : Array Value} {below : List Frame} {meth : Method} {c : Code} {Q : State → Prop} {cc : ByteArray} {nL : Nat} {A : Nat → Prop} {k n : Nat} {pc : Nat} {lv : List (Nat × Value)} {st : List Value} {D : va_G} {cy : Nat → ClassId} {o : Nat} {ad : Nat → Nat} {M : z_Md} (S : CallFix p m c cc nL s args z_T RX7) (hE : z_EM D cy s) (hdg : decode cc pc = .ok (.getfield 47, 3)) (kk : z_V A (z_hM D cy A o ad) p l e R s m args below meth c nL Q k n M (pc + 3) lv (.ref (ad 16) :: st)) : z_V A (z_hM D cy A o ad) p l e R s m args below meth c nL Q k n M pc lv (.ref o :: st) := z_mget (k0 := 16) S hE (by decide) wd_847 rfl rfl hdg kk
theorem zm_g_53 {p : Program} {l : Launch} {e : Env} {R : Room} {s : State} {m : MethodId} {args : Array Value} {below : List Frame} {meth : Method} {c : Code} {Q : State → Prop} {cc : ByteArray} {nL : Nat} {A : Nat → Prop} {k n : Nat} {pc : Nat} {lv : List (Nat × Value)} {st : List Value} {D : va_G} {cy : Nat → ClassId} {o : Nat} {ad : Nat → Nat} {M : z_Md} (S : CallFix p m c cc nL s args z_T RX7) (hE : z_EM D cy s) (hdg : decode cc pc = .ok (.getfield 53, 3)) (kk : z_V A (z_hM D cy A o ad) p l e R s m args below meth c nL Q k n M (pc + 3) lv (.ref (ad 18) :: st)) : z_V A (z_hM D cy A o ad) p l e R s m args below meth c nL Q k n M pc lv (.ref o :: st) := z_mget (k0 := 18) S hE (by decide) wd_849 rfl rfl hdg kk
theorem zm_g_56 {p : Program} {l : Launch} {e : Env} {R : Room} {s : State} {m : MethodId} {args : Array Value} {below : List Frame} {meth : Method} {c : Code} {Q : State → Prop} {cc : ByteArray} {nL : Nat} {A : Nat → Prop} {k n : Nat} {pc : Nat} {lv : List (Nat × Value)} {st : List Value} {D : va_G} {cy : Nat → ClassId} {o : Nat} {ad : Nat → Nat} {M : z_Md} (S : CallFix p m c cc nL s args z_T RX7) (hE : z_EM D cy s) (hdg : decode cc pc = .ok (.getfield 56, 3)) (kk : z_V A (z_hM D cy A o ad) p l e R s m args below meth c nL Q k n M (pc + 3) lv (.ref (ad 19) :: st)) : z_V A (z_hM D cy A o ad) p l e R s m args below meth c nL Q k n M pc lv (.ref o :: st) := z_mget (k0 := 19) S hE (by decide) wd_850 rfl rfl hdg kk
theorem zm_g_59 {p : Program} {l : Launch} {e : Env} {R : Room} {s : State} {m : MethodId} {args : Array Value} {below : List Frame} {meth : Method} {c : Code} {Q : State → Prop} {cc : ByteArray} {nL : Nat} {A : Nat → Prop} {k n : Nat} {pc : Nat} {lv : List (Nat × Value)} {st : List Value} {D : va_G} {cy : Nat → ClassId} {o : Nat} {ad : Nat → Nat} {M : z_Md} (S : CallFix p m c cc nL s args z_T RX7) (hE : z_EM D cy s) (hdg : decode cc pc = .ok (.getfield 59, 3)) (kk : z_V A (z_hM D cy A o ad) p l e R s m args below meth c nL Q k n M (pc + 3) lv (.ref (ad 20) :: st)) : z_V A (z_hM D cy A o ad) p l e R s m args below meth c nL Q k n M pc lv (.ref o :: st) := z_mget (k0 := 20) S hE (by decide) wd_851 rfl rfl hdg kk
theorem zm_g_65 {p : Program} {l : Launch} {e : Env} {R : Room} {s : State} {m : MethodId} {args : Array Value} {below : List Frame} {meth : Method} {c : Code} {Q : State → Prop} {cc : ByteArray} {nL : Nat} {A : Nat → Prop} {k n : Nat} {pc : Nat} {lv : List (Nat × Value)} {st : List Value} {D : va_G} {cy : Nat → ClassId} {o : Nat} {ad : Nat → Nat} {M : z_Md} (S : CallFix p m c cc nL s args z_T RX7) (hE : z_EM D cy s) (hdg : decode cc pc = .ok (.getfield 65, 3)) (kk : z_V A (z_hM D cy A o ad) p l e R s m args below meth c nL Q k n M (pc + 3) lv (.ref (ad 22) :: st)) : z_V A (z_hM D cy A o ad) p l e R s m args below meth c nL Q k n M pc lv (.ref o :: st) := z_mget (k0 := 22) S hE (by decide) wd_853 rfl rfl hdg kk
theorem zm_g_62 {p : Program} {l : Launch} {e : Env} {R : Room} {s : State} {m : MethodId} {args : Array Value} {below : List Frame} {meth : Method} {c : Code} {Q : State → Prop} {cc : ByteArray} {nL : Nat} {A : Nat → Prop} {k n : Nat} {pc : Nat} {lv : List (Nat × Value)} {st : List Value} {D : va_G} {cy : Nat → ClassId} {o : Nat} {ad : Nat → Nat} {M : z_Md} (S : CallFix p m c cc nL s args z_T RX7) (hE : z_EM D cy s) (hdg : decode cc pc = .ok (.getfield 62, 3)) (kk : z_V A (z_hM D cy A o ad) p l e R s m args below meth c nL Q k n M (pc + 3) lv (.ref (ad 21) :: st)) : z_V A (z_hM D cy A o ad) p l e R s m args below meth c nL Q k n M pc lv (.ref o :: st) := z_mget (k0 := 21) S hE (by decide) wd_852 rfl rfl hdg kk
theorem zm_g_68 {p : Program} {l : Launch} {e : Env} {R : Room} {s : State} {m : MethodId} {args : Array Value} {below : List Frame} {meth : Method} {c : Code} {Q : State → Prop} {cc : ByteArray} {nL : Nat} {A : Nat → Prop} {k n : Nat} {pc : Nat} {lv : List (Nat × Value)} {st : List Value} {D : va_G} {cy : Nat → ClassId} {o : Nat} {ad : Nat → Nat} {M : z_Md} (S : CallFix p m c cc nL s args z_T RX7) (hE : z_EM D cy s) (hdg : decode cc pc = .ok (.getfield 68, 3)) (kk : z_V A (z_hM D cy A o ad) p l e R s m args below meth c nL Q k n M (pc + 3) lv (.ref (ad 23) :: st)) : z_V A (z_hM D cy A o ad) p l e R s m args below meth c nL Q k n M pc lv (.ref o :: st) := z_mget (k0 := 23) S hE (by decide) wd_854 rfl rfl hdg kk
theorem zm_p_89 {p : Program} {l : Launch} {e : Env} {R : Room} {s : State} {m : MethodId} {args : Array Value} {below : List Frame} {meth : Method} {c : Code} {Q : State → Prop} {cc : ByteArray} {nL : Nat} {A : Nat → Prop} {k n : Nat} {pc : Nat} {lv : List (Nat × Value)} {st : List Value} {D : va_G} {cy : Nat → ClassId} {o : Nat} {ad : Nat → Nat} {M : z_Md} (S : CallFix p m c cc nL s args z_T RX7) (hE : z_EM D cy s) {x : Int32} (hdg : decode cc pc = .ok (.putfield 89, 3)) (kk : z_V A (z_hM D cy A o ad) p l e R s m args below meth c nL Q k n (z_up M 0 0 x) (pc + 3) lv st) : z_V A (z_hM D cy A o ad) p l e R s m args below meth c nL Q k n M pc lv (.int x :: .ref o :: st) := z_mput (k0 := 0) S hE (by decide) wd_831 rfl rfl rfl rfl rfl hdg kk
theorem zm_g_38 {p : Program} {l : Launch} {e : Env} {R : Room} {s : State} {m : MethodId} {args : Array Value} {below : List Frame} {meth : Method} {c : Code} {Q : State → Prop} {cc : ByteArray} {nL : Nat} {A : Nat → Prop} {k n : Nat} {pc : Nat} {lv : List (Nat × Value)} {st : List Value} {D : va_G} {cy : Nat → ClassId} {o : Nat} {ad : Nat → Nat} {M : z_Md} (S : CallFix p m c cc nL s args z_T RX7) (hE : z_EM D cy s) (hdg : decode cc pc = .ok (.getfield 38, 3)) (kk : z_V A (z_hM D cy A o ad) p l e R s m args below meth c nL Q k n M (pc + 3) lv (.ref (ad 11) :: st)) : z_V A (z_hM D cy A o ad) p l e R s m args below meth c nL Q k n M pc lv (.ref o :: st) := z_mget (k0 := 11) S hE (by decide) wd_842 rfl rfl hdg kk
theorem zm_p_118 {p : Program} {l : Launch} {e : Env} {R : Room} {s : State} {m : MethodId} {args : Array Value} {below : List Frame} {meth : Method} {c : Code} {Q : State → Prop} {cc : ByteArray} {nL : Nat} {A : Nat → Prop} {k n : Nat} {pc : Nat} {lv : List (Nat × Value)} {st : List Value} {D : va_G} {cy : Nat → ClassId} {o : Nat} {ad : Nat → Nat} {M : z_Md} (S : CallFix p m c cc nL s args z_T RX7) (hE : z_EM D cy s) {x : Int32} (hdg : decode cc pc = .ok (.putfield 118, 3)) (kk : z_V A (z_hM D cy A o ad) p l e R s m args below meth c nL Q k n (z_up M 10 0 x) (pc + 3) lv st) : z_V A (z_hM D cy A o ad) p l e R s m args below meth c nL Q k n M pc lv (.int x :: .ref o :: st) := z_mput (k0 := 10) S hE (by decide) wd_841 rfl rfl rfl rfl rfl hdg kk
theorem zm_g_28 {p : Program} {l : Launch} {e : Env} {R : Room} {s : State} {m : MethodId} {args : Array Value} {below : List Frame} {meth : Method} {c : Code} {Q : State → Prop} {cc : ByteArray} {nL : Nat} {A : Nat → Prop} {k n : Nat} {pc : Nat} {lv : List (Nat × Value)} {st : List Value} {D : va_G} {cy : Nat → ClassId} {o : Nat} {ad : Nat → Nat} {M : z_Md} (S : CallFix p m c cc nL s args z_T RX7) (hE : z_EM D cy s) (hdg : decode cc pc = .ok (.getfield 28, 3)) (kk : z_V A (z_hM D cy A o ad) p l e R s m args below meth c nL Q k n M (pc + 3) lv (.ref (ad 7) :: st)) : z_V A (z_hM D cy A o ad) p l e R s m args below meth c nL Q k n M pc lv (.ref o :: st) := z_mget (k0 := 7) S hE (by decide) wd_838 rfl rfl hdg kk
theorem zm_g_71 {p : Program} {l : Launch} {e : Env} {R : Room} {s : State} {m : MethodId} {args : Array Value} {below : List Frame} {meth : Method} {c : Code} {Q : State → Prop} {cc : ByteArray} {nL : Nat} {A : Nat → Prop} {k n : Nat} {pc : Nat} {lv : List (Nat × Value)} {st : List Value} {D : va_G} {cy : Nat → ClassId} {o : Nat} {ad : Nat → Nat} {M : z_Md} (S : CallFix p m c cc nL s args z_T RX7) (hE : z_EM D cy s) (hdg : decode cc pc = .ok (.getfield 71, 3)) (kk : z_V A (z_hM D cy A o ad) p l e R s m args below meth c nL Q k n M (pc + 3) lv (.ref (ad 24) :: st)) : z_V A (z_hM D cy A o ad) p l e R s m args below meth c nL Q k n M pc lv (.ref o :: st) := z_mget (k0 := 24) S hE (by decide) wd_855 rfl rfl hdg kk
theorem zm_g_74 {p : Program} {l : Launch} {e : Env} {R : Room} {s : State} {m : MethodId} {args : Array Value} {below : List Frame} {meth : Method} {c : Code} {Q : State → Prop} {cc : ByteArray} {nL : Nat} {A : Nat → Prop} {k n : Nat} {pc : Nat} {lv : List (Nat × Value)} {st : List Value} {D : va_G} {cy : Nat → ClassId} {o : Nat} {ad : Nat → Nat} {M : z_Md} (S : CallFix p m c cc nL s args z_T RX7) (hE : z_EM D cy s) (hdg : decode cc pc = .ok (.getfield 74, 3)) (kk : z_V A (z_hM D cy A o ad) p l e R s m args below meth c nL Q k n M (pc + 3) lv (.ref (ad 25) :: st)) : z_V A (z_hM D cy A o ad) p l e R s m args below meth c nL Q k n M pc lv (.ref o :: st) := z_mget (k0 := 25) S hE (by decide) wd_856 rfl rfl hdg kk
theorem zm_g_80 {p : Program} {l : Launch} {e : Env} {R : Room} {s : State} {m : MethodId} {args : Array Value} {below : List Frame} {meth : Method} {c : Code} {Q : State → Prop} {cc : ByteArray} {nL : Nat} {A : Nat → Prop} {k n : Nat} {pc : Nat} {lv : List (Nat × Value)} {st : List Value} {D : va_G} {cy : Nat → ClassId} {o : Nat} {ad : Nat → Nat} {M : z_Md} (S : CallFix p m c cc nL s args z_T RX7) (hE : z_EM D cy s) (hdg : decode cc pc = .ok (.getfield 80, 3)) (kk : z_V A (z_hM D cy A o ad) p l e R s m args below meth c nL Q k n M (pc + 3) lv (.ref (ad 27) :: st)) : z_V A (z_hM D cy A o ad) p l e R s m args below meth c nL Q k n M pc lv (.ref o :: st) := z_mget (k0 := 27) S hE (by decide) wd_858 rfl rfl hdg kk
theorem zm_g_83 {p : Program} {l : Launch} {e : Env} {R : Room} {s : State} {m : MethodId} {args : Array Value} {below : List Frame} {meth : Method} {c : Code} {Q : State → Prop} {cc : ByteArray} {nL : Nat} {A : Nat → Prop} {k n : Nat} {pc : Nat} {lv : List (Nat × Value)} {st : List Value} {D : va_G} {cy : Nat → ClassId} {o : Nat} {ad : Nat → Nat} {M : z_Md} (S : CallFix p m c cc nL s args z_T RX7) (hE : z_EM D cy s) (hdg : decode cc pc = .ok (.getfield 83, 3)) (kk : z_V A (z_hM D cy A o ad) p l e R s m args below meth c nL Q k n M (pc + 3) lv (.ref (ad 28) :: st)) : z_V A (z_hM D cy A o ad) p l e R s m args below meth c nL Q k n M pc lv (.ref o :: st) := z_mget (k0 := 28) S hE (by decide) wd_859 rfl rfl hdg kk
theorem zm_g_86 {p : Program} {l : Launch} {e : Env} {R : Room} {s : State} {m : MethodId} {args : Array Value} {below : List Frame} {meth : Method} {c : Code} {Q : State → Prop} {cc : ByteArray} {nL : Nat} {A : Nat → Prop} {k n : Nat} {pc : Nat} {lv : List (Nat × Value)} {st : List Value} {D : va_G} {cy : Nat → ClassId} {o : Nat} {ad : Nat → Nat} {M : z_Md} (S : CallFix p m c cc nL s args z_T RX7) (hE : z_EM D cy s) (hdg : decode cc pc = .ok (.getfield 86, 3)) (kk : z_V A (z_hM D cy A o ad) p l e R s m args below meth c nL Q k n M (pc + 3) lv (.ref (ad 29) :: st)) : z_V A (z_hM D cy A o ad) p l e R s m args below meth c nL Q k n M pc lv (.ref o :: st) := z_mget (k0 := 29) S hE (by decide) wd_860 rfl rfl hdg kk
theorem zm_g_77 {p : Program} {l : Launch} {e : Env} {R : Room} {s : State} {m : MethodId} {args : Array Value} {below : List Frame} {meth : Method} {c : Code} {Q : State → Prop} {cc : ByteArray} {nL : Nat} {A : Nat → Prop} {k n : Nat} {pc : Nat} {lv : List (Nat × Value)} {st : List Value} {D : va_G} {cy : Nat → ClassId} {o : Nat} {ad : Nat → Nat} {M : z_Md} (S : CallFix p m c cc nL s args z_T RX7) (hE : z_EM D cy s) (hdg : decode cc pc = .ok (.getfield 77, 3)) (kk : z_V A (z_hM D cy A o ad) p l e R s m args below meth c nL Q k n M (pc + 3) lv (.ref (ad 26) :: st)) : z_V A (z_hM D cy A o ad) p l e R s m args below meth c nL Q k n M pc lv (.ref o :: st) := z_mget (k0 := 26) S hE (by decide) wd_857 rfl rfl hdg kk
theorem zm_g_44 {p : Program} {l : Launch} {e : Env} {R : Room} {s : State} {m : MethodId} {args : Array Value} {below : List Frame} {meth : Method} {c : Code} {Q : State → Prop} {cc : ByteArray} {nL : Nat} {A : Nat → Prop} {k n : Nat} {pc : Nat} {lv : List (Nat × Value)} {st : List Value} {D : va_G} {cy : Nat → ClassId} {o : Nat} {ad : Nat → Nat} {M : z_Md} (S : CallFix p m c cc nL s args z_T RX7) (hE : z_EM D cy s) (hdg : decode cc pc = .ok (.getfield 44, 3)) (kk : z_V A (z_hM D cy A o ad) p l e R s m args below meth c nL Q k n M (pc + 3) lv (.ref (ad 15) :: st)) : z_V A (z_hM D cy A o ad) p l e R s m args below meth c nL Q k n M pc lv (.ref o :: st) := z_mget (k0 := 15) S hE (by decide) wd_846 rfl rfl hdg kk
theorem zm_g_171 {p : Program} {l : Launch} {e : Env} {R : Room} {s : State} {m : MethodId} {args : Array Value} {below : List Frame} {meth : Method} {c : Code} {Q : State → Prop} {cc : ByteArray} {nL : Nat} {A : Nat → Prop} {k n : Nat} {pc : Nat} {lv : List (Nat × Value)} {st : List Value} {D : va_G} {cy : Nat → ClassId} {o : Nat} {ad : Nat → Nat} {M : z_Md} (S : CallFix p m c cc nL s args z_T RX7) (hE : z_EM D cy s) (hdg : decode cc pc = .ok (.getfield 171, 3)) (kk : z_V A (z_hM D cy A o ad) p l e R s m args below meth c nL Q k n M (pc + 3) lv (.int (M 14 0) :: st)) : z_V A (z_hM D cy A o ad) p l e R s m args below meth c nL Q k n M pc lv (.ref o :: st) := z_mget (k0 := 14) S hE (by decide) wd_845 rfl rfl hdg kk
theorem zm_g_50 {p : Program} {l : Launch} {e : Env} {R : Room} {s : State} {m : MethodId} {args : Array Value} {below : List Frame} {meth : Method} {c : Code} {Q : State → Prop} {cc : ByteArray} {nL : Nat} {A : Nat → Prop} {k n : Nat} {pc : Nat} {lv : List (Nat × Value)} {st : List Value} {D : va_G} {cy : Nat → ClassId} {o : Nat} {ad : Nat → Nat} {M : z_Md} (S : CallFix p m c cc nL s args z_T RX7) (hE : z_EM D cy s) (hdg : decode cc pc = .ok (.getfield 50, 3)) (kk : z_V A (z_hM D cy A o ad) p l e R s m args below meth c nL Q k n M (pc + 3) lv (.ref (ad 17) :: st)) : z_V A (z_hM D cy A o ad) p l e R s m args below meth c nL Q k n M pc lv (.ref o :: st) := z_mget (k0 := 17) S hE (by decide) wd_848 rfl rfl hdg kk
theorem zm_p_121 {p : Program} {l : Launch} {e : Env} {R : Room} {s : State} {m : MethodId} {args : Array Value} {below : List Frame} {meth : Method} {c : Code} {Q : State → Prop} {cc : ByteArray} {nL : Nat} {A : Nat → Prop} {k n : Nat} {pc : Nat} {lv : List (Nat × Value)} {st : List Value} {D : va_G} {cy : Nat → ClassId} {o : Nat} {ad : Nat → Nat} {M : z_Md} (S : CallFix p m c cc nL s args z_T RX7) (hE : z_EM D cy s) {x : Int32} (hdg : decode cc pc = .ok (.putfield 121, 3)) (kk : z_V A (z_hM D cy A o ad) p l e R s m args below meth c nL Q k n (z_up M 13 0 x) (pc + 3) lv st) : z_V A (z_hM D cy A o ad) p l e R s m args below meth c nL Q k n M pc lv (.int x :: .ref o :: st) := z_mput (k0 := 13) S hE (by decide) wd_844 rfl rfl rfl rfl rfl hdg kk
theorem zm_p_171 {p : Program} {l : Launch} {e : Env} {R : Room} {s : State} {m : MethodId} {args : Array Value} {below : List Frame} {meth : Method} {c : Code} {Q : State → Prop} {cc : ByteArray} {nL : Nat} {A : Nat → Prop} {k n : Nat} {pc : Nat} {lv : List (Nat × Value)} {st : List Value} {D : va_G} {cy : Nat → ClassId} {o : Nat} {ad : Nat → Nat} {M : z_Md} (S : CallFix p m c cc nL s args z_T RX7) (hE : z_EM D cy s) {x : Int32} (hdg : decode cc pc = .ok (.putfield 171, 3)) (kk : z_V A (z_hM D cy A o ad) p l e R s m args below meth c nL Q k n (z_up M 14 0 x) (pc + 3) lv st) : z_V A (z_hM D cy A o ad) p l e R s m args below meth c nL Q k n M pc lv (.int x :: .ref o :: st) := z_mput (k0 := 14) S hE (by decide) wd_845 rfl rfl rfl rfl rfl hdg kk
theorem zm_g_41 {p : Program} {l : Launch} {e : Env} {R : Room} {s : State} {m : MethodId} {args : Array Value} {below : List Frame} {meth : Method} {c : Code} {Q : State → Prop} {cc : ByteArray} {nL : Nat} {A : Nat → Prop} {k n : Nat} {pc : Nat} {lv : List (Nat × Value)} {st : List Value} {D : va_G} {cy : Nat → ClassId} {o : Nat} {ad : Nat → Nat} {M : z_Md} (S : CallFix p m c cc nL s args z_T RX7) (hE : z_EM D cy s) (hdg : decode cc pc = .ok (.getfield 41, 3)) (kk : z_V A (z_hM D cy A o ad) p l e R s m args below meth c nL Q k n M (pc + 3) lv (.ref (ad 12) :: st)) : z_V A (z_hM D cy A o ad) p l e R s m args below meth c nL Q k n M pc lv (.ref o :: st) := z_mget (k0 := 12) S hE (by decide) wd_843 rfl rfl hdg kk
end
section
theorem dX7_add_0 : decode cX7_add 0 = .ok (.aload_n 0, 1) := by decide +kernel
theorem dX7_add_1 : decode cX7_add 1 = .ok (.getfield 44, 3) := by decide +kernel
theorem dX7_add_4 : decode cX7_add 4 = .ok (.aload_n 0, 1) := by decide +kernel
theorem dX7_add_5 : decode cX7_add 5 = .ok (.getfield 121, 3) := by decide +kernel
theorem dX7_add_8 : decode cX7_add 8 = .ok (.aload_n 0, 1) := by decide +kernel
theorem dX7_add_9 : decode cX7_add 9 = .ok (.getfield 171, 3) := by decide +kernel
theorem dX7_add_12 : decode cX7_add 12 = .ok (.iastore, 1) := by decide +kernel
theorem dX7_add_13 : decode cX7_add 13 = .ok (.aload_n 0, 1) := by decide +kernel
theorem dX7_add_14 : decode cX7_add 14 = .ok (.getfield 47, 3) := by decide +kernel
theorem dX7_add_17 : decode cX7_add 17 = .ok (.aload_n 0, 1) := by decide +kernel
theorem dX7_add_18 : decode cX7_add 18 = .ok (.getfield 121, 3) := by decide +kernel
theorem dX7_add_21 : decode cX7_add 21 = .ok (.iload_n 1, 1) := by decide +kernel
theorem dX7_add_22 : decode cX7_add 22 = .ok (.iastore, 1) := by decide +kernel
theorem dX7_add_23 : decode cX7_add 23 = .ok (.aload_n 0, 1) := by decide +kernel
theorem dX7_add_24 : decode cX7_add 24 = .ok (.getfield 50, 3) := by decide +kernel
theorem dX7_add_27 : decode cX7_add 27 = .ok (.aload_n 0, 1) := by decide +kernel
theorem dX7_add_28 : decode cX7_add 28 = .ok (.getfield 121, 3) := by decide +kernel
theorem dX7_add_31 : decode cX7_add 31 = .ok (.iconst 0, 1) := by decide +kernel
theorem dX7_add_32 : decode cX7_add 32 = .ok (.iastore, 1) := by decide +kernel
theorem dX7_add_33 : decode cX7_add 33 = .ok (.aload_n 0, 1) := by decide +kernel
theorem dX7_add_34 : decode cX7_add 34 = .ok (.getfield 53, 3) := by decide +kernel
theorem dX7_add_37 : decode cX7_add 37 = .ok (.aload_n 0, 1) := by decide +kernel
theorem dX7_add_38 : decode cX7_add 38 = .ok (.getfield 121, 3) := by decide +kernel
theorem dX7_add_41 : decode cX7_add 41 = .ok (.iload_n 2, 1) := by decide +kernel
theorem dX7_add_42 : decode cX7_add 42 = .ok (.iastore, 1) := by decide +kernel
theorem dX7_add_43 : decode cX7_add 43 = .ok (.aload_n 0, 1) := by decide +kernel
theorem dX7_add_44 : decode cX7_add 44 = .ok (.getfield 56, 3) := by decide +kernel
theorem dX7_add_47 : decode cX7_add 47 = .ok (.aload_n 0, 1) := by decide +kernel
theorem dX7_add_48 : decode cX7_add 48 = .ok (.getfield 121, 3) := by decide +kernel
theorem dX7_add_51 : decode cX7_add 51 = .ok (.iload_n 3, 1) := by decide +kernel
theorem dX7_add_52 : decode cX7_add 52 = .ok (.iastore, 1) := by decide +kernel
theorem dX7_add_53 : decode cX7_add 53 = .ok (.aload_n 0, 1) := by decide +kernel
theorem dX7_add_54 : decode cX7_add 54 = .ok (.dup, 1) := by decide +kernel
theorem dX7_add_55 : decode cX7_add 55 = .ok (.getfield 121, 3) := by decide +kernel
theorem dX7_add_58 : decode cX7_add 58 = .ok (.iconst 1, 1) := by decide +kernel
theorem dX7_add_59 : decode cX7_add 59 = .ok (.iadd, 1) := by decide +kernel
theorem dX7_add_60 : decode cX7_add 60 = .ok (.putfield 121, 3) := by decide +kernel
theorem dX7_add_63 : decode cX7_add 63 = .ok (.aload_n 0, 1) := by decide +kernel
theorem dX7_add_64 : decode cX7_add 64 = .ok (.dup, 1) := by decide +kernel
theorem dX7_add_65 : decode cX7_add 65 = .ok (.getfield 171, 3) := by decide +kernel
theorem dX7_add_68 : decode cX7_add 68 = .ok (.iconst 1, 1) := by decide +kernel
theorem dX7_add_69 : decode cX7_add 69 = .ok (.iadd, 1) := by decide +kernel
theorem dX7_add_70 : decode cX7_add 70 = .ok (.putfield 171, 3) := by decide +kernel
theorem dX7_add_73 : decode cX7_add 73 = .ok (.aload_n 0, 1) := by decide +kernel
theorem dX7_add_74 : decode cX7_add 74 = .ok (.getfield 171, 3) := by decide +kernel
theorem dX7_add_77 : decode cX7_add 77 = .ok (.iconst 1, 1) := by decide +kernel
theorem dX7_add_78 : decode cX7_add 78 = .ok (.isub, 1) := by decide +kernel
theorem dX7_add_79 : decode cX7_add 79 = .ok (.ireturn, 1) := by decide +kernel
theorem dX7_append_0 : decode cX7_append 0 = .ok (.aload_n 0, 1) := by decide +kernel
theorem dX7_append_1 : decode cX7_append 1 = .ok (.getfield 35, 3) := by decide +kernel
theorem dX7_append_4 : decode cX7_append 4 = .ok (.iload_n 1, 1) := by decide +kernel
theorem dX7_append_5 : decode cX7_append 5 = .ok (.iaload, 1) := by decide +kernel
theorem dX7_append_6 : decode cX7_append 6 = .ok (.istore_n 3, 1) := by decide +kernel
theorem dX7_append_7 : decode cX7_append 7 = .ok (.iload_n 3, 1) := by decide +kernel
theorem dX7_append_8 : decode cX7_append 8 = .ok (.iconst 4, 1) := by decide +kernel
theorem dX7_append_9 : decode cX7_append 9 = .ok (.irem, 1) := by decide +kernel
theorem dX7_append_10 : decode cX7_append 10 = .ok (.ifCond .ne 60, 3) := by decide +kernel
theorem dX7_append_13 : decode cX7_append 13 = .ok (.aload_n 0, 1) := by decide +kernel
theorem dX7_append_14 : decode cX7_append 14 = .ok (.invokevirtual 103, 3) := by decide +kernel
theorem dX7_append_17 : decode cX7_append 17 = .ok (.istore 4, 2) := by decide +kernel
theorem dX7_append_19 : decode cX7_append 19 = .ok (.aload_n 0, 1) := by decide +kernel
theorem dX7_append_20 : decode cX7_append 20 = .ok (.getfield 16, 3) := by decide +kernel
theorem dX7_append_23 : decode cX7_append 23 = .ok (.iload 4, 2) := by decide +kernel
theorem dX7_append_25 : decode cX7_append 25 = .ok (.iconst (-1), 1) := by decide +kernel
theorem dX7_append_26 : decode cX7_append 26 = .ok (.iastore, 1) := by decide +kernel
theorem dX7_append_27 : decode cX7_append 27 = .ok (.iload_n 3, 1) := by decide +kernel
theorem dX7_append_28 : decode cX7_append 28 = .ok (.ifCond .ne 14, 3) := by decide +kernel
theorem dX7_append_31 : decode cX7_append 31 = .ok (.aload_n 0, 1) := by decide +kernel
theorem dX7_append_32 : decode cX7_append 32 = .ok (.getfield 32, 3) := by decide +kernel
theorem dX7_append_35 : decode cX7_append 35 = .ok (.iload_n 1, 1) := by decide +kernel
theorem dX7_append_36 : decode cX7_append 36 = .ok (.iload 4, 2) := by decide +kernel
theorem dX7_append_38 : decode cX7_append 38 = .ok (.iastore, 1) := by decide +kernel
theorem dX7_append_39 : decode cX7_append 39 = .ok (.goto 20, 3) := by decide +kernel
theorem dX7_append_42 : decode cX7_append 42 = .ok (.aload_n 0, 1) := by decide +kernel
theorem dX7_append_43 : decode cX7_append 43 = .ok (.getfield 16, 3) := by decide +kernel
theorem dX7_append_46 : decode cX7_append 46 = .ok (.aload_n 0, 1) := by decide +kernel
theorem dX7_append_47 : decode cX7_append 47 = .ok (.iload_n 1, 1) := by decide +kernel
theorem dX7_append_48 : decode cX7_append 48 = .ok (.iload_n 3, 1) := by decide +kernel
theorem dX7_append_49 : decode cX7_append 49 = .ok (.iconst 1, 1) := by decide +kernel
theorem dX7_append_50 : decode cX7_append 50 = .ok (.isub, 1) := by decide +kernel
theorem dX7_append_51 : decode cX7_append 51 = .ok (.invokevirtual 107, 3) := by decide +kernel
theorem dX7_append_54 : decode cX7_append 54 = .ok (.iconst 4, 1) := by decide +kernel
theorem dX7_append_55 : decode cX7_append 55 = .ok (.idiv, 1) := by decide +kernel
theorem dX7_append_56 : decode cX7_append 56 = .ok (.iload 4, 2) := by decide +kernel
theorem dX7_append_58 : decode cX7_append 58 = .ok (.iastore, 1) := by decide +kernel
theorem dX7_append_59 : decode cX7_append 59 = .ok (.aload_n 0, 1) := by decide +kernel
theorem dX7_append_60 : decode cX7_append 60 = .ok (.getfield 13, 3) := by decide +kernel
theorem dX7_append_63 : decode cX7_append 63 = .ok (.iload 4, 2) := by decide +kernel
theorem dX7_append_65 : decode cX7_append 65 = .ok (.iconst 1, 1) := by decide +kernel
theorem dX7_append_66 : decode cX7_append 66 = .ok (.iastore, 1) := by decide +kernel
theorem dX7_append_67 : decode cX7_append 67 = .ok (.goto 22, 3) := by decide +kernel
theorem dX7_append_70 : decode cX7_append 70 = .ok (.aload_n 0, 1) := by decide +kernel
theorem dX7_append_71 : decode cX7_append 71 = .ok (.getfield 13, 3) := by decide +kernel
theorem dX7_append_74 : decode cX7_append 74 = .ok (.aload_n 0, 1) := by decide +kernel
theorem dX7_append_75 : decode cX7_append 75 = .ok (.iload_n 1, 1) := by decide +kernel
theorem dX7_append_76 : decode cX7_append 76 = .ok (.iload_n 3, 1) := by decide +kernel
theorem dX7_append_77 : decode cX7_append 77 = .ok (.iconst 1, 1) := by decide +kernel
theorem dX7_append_78 : decode cX7_append 78 = .ok (.isub, 1) := by decide +kernel
theorem dX7_append_79 : decode cX7_append 79 = .ok (.invokevirtual 107, 3) := by decide +kernel
theorem dX7_append_82 : decode cX7_append 82 = .ok (.iconst 4, 1) := by decide +kernel
theorem dX7_append_83 : decode cX7_append 83 = .ok (.idiv, 1) := by decide +kernel
theorem dX7_append_84 : decode cX7_append 84 = .ok (.dup2, 1) := by decide +kernel
theorem dX7_append_85 : decode cX7_append 85 = .ok (.iaload, 1) := by decide +kernel
theorem dX7_append_86 : decode cX7_append 86 = .ok (.iconst 1, 1) := by decide +kernel
theorem dX7_append_87 : decode cX7_append 87 = .ok (.iadd, 1) := by decide +kernel
theorem dX7_append_88 : decode cX7_append 88 = .ok (.iastore, 1) := by decide +kernel
theorem dX7_append_89 : decode cX7_append 89 = .ok (.aload_n 0, 1) := by decide +kernel
theorem dX7_append_90 : decode cX7_append 90 = .ok (.getfield 35, 3) := by decide +kernel
theorem dX7_append_93 : decode cX7_append 93 = .ok (.iload_n 1, 1) := by decide +kernel
theorem dX7_append_94 : decode cX7_append 94 = .ok (.dup2, 1) := by decide +kernel
theorem dX7_append_95 : decode cX7_append 95 = .ok (.iaload, 1) := by decide +kernel
theorem dX7_append_96 : decode cX7_append 96 = .ok (.iconst 1, 1) := by decide +kernel
theorem dX7_append_97 : decode cX7_append 97 = .ok (.iadd, 1) := by decide +kernel
theorem dX7_append_98 : decode cX7_append 98 = .ok (.iastore, 1) := by decide +kernel
theorem dX7_append_99 : decode cX7_append 99 = .ok (.aload_n 0, 1) := by decide +kernel
theorem dX7_append_100 : decode cX7_append 100 = .ok (.iload_n 1, 1) := by decide +kernel
theorem dX7_append_101 : decode cX7_append 101 = .ok (.iload_n 3, 1) := by decide +kernel
theorem dX7_append_102 : decode cX7_append 102 = .ok (.invokevirtual 107, 3) := by decide +kernel
theorem dX7_append_105 : decode cX7_append 105 = .ok (.istore 4, 2) := by decide +kernel
theorem dX7_append_107 : decode cX7_append 107 = .ok (.aload_n 0, 1) := by decide +kernel
theorem dX7_append_108 : decode cX7_append 108 = .ok (.getfield 19, 3) := by decide +kernel
theorem dX7_append_111 : decode cX7_append 111 = .ok (.iload 4, 2) := by decide +kernel
theorem dX7_append_113 : decode cX7_append 113 = .ok (.iconst 0, 1) := by decide +kernel
theorem dX7_append_114 : decode cX7_append 114 = .ok (.iastore, 1) := by decide +kernel
theorem dX7_append_115 : decode cX7_append 115 = .ok (.aload_n 0, 1) := by decide +kernel
theorem dX7_append_116 : decode cX7_append 116 = .ok (.getfield 22, 3) := by decide +kernel
theorem dX7_append_119 : decode cX7_append 119 = .ok (.iload 4, 2) := by decide +kernel
theorem dX7_append_121 : decode cX7_append 121 = .ok (.iload_n 2, 1) := by decide +kernel
theorem dX7_append_122 : decode cX7_append 122 = .ok (.iastore, 1) := by decide +kernel
theorem dX7_append_123 : decode cX7_append 123 = .ok (.return_, 1) := by decide +kernel
theorem dX7_block_0 : decode cX7_block 0 = .ok (.aload_n 0, 1) := by decide +kernel
theorem dX7_block_1 : decode cX7_block 1 = .ok (.iload_n 1, 1) := by decide +kernel
theorem dX7_block_2 : decode cX7_block 2 = .ok (.ifCond .lt 13, 3) := by decide +kernel
theorem dX7_block_5 : decode cX7_block 5 = .ok (.iload_n 1, 1) := by decide +kernel
theorem dX7_block_6 : decode cX7_block 6 = .ok (.bipush 40, 2) := by decide +kernel
theorem dX7_block_8 : decode cX7_block 8 = .ok (.if_icmp .ge 7, 3) := by decide +kernel
theorem dX7_block_11 : decode cX7_block 11 = .ok (.iconst 0, 1) := by decide +kernel
theorem dX7_block_12 : decode cX7_block 12 = .ok (.goto 4, 3) := by decide +kernel
theorem dX7_block_15 : decode cX7_block 15 = .ok (.iconst 1, 1) := by decide +kernel
theorem dX7_block_16 : decode cX7_block 16 = .ok (.putfield 89, 3) := by decide +kernel
theorem dX7_block_19 : decode cX7_block 19 = .ok (.aload_n 0, 1) := by decide +kernel
theorem dX7_block_20 : decode cX7_block 20 = .ok (.getfield 89, 3) := by decide +kernel
theorem dX7_block_23 : decode cX7_block 23 = .ok (.ifCond .le 7, 3) := by decide +kernel
theorem dX7_block_26 : decode cX7_block 26 = .ok (.iconst 0, 1) := by decide +kernel
theorem dX7_block_27 : decode cX7_block 27 = .ok (.goto 9, 3) := by decide +kernel
theorem dX7_block_30 : decode cX7_block 30 = .ok (.aload_n 0, 1) := by decide +kernel
theorem dX7_block_31 : decode cX7_block 31 = .ok (.getfield 13, 3) := by decide +kernel
theorem dX7_block_34 : decode cX7_block 34 = .ok (.iload_n 1, 1) := by decide +kernel
theorem dX7_block_35 : decode cX7_block 35 = .ok (.iaload, 1) := by decide +kernel
theorem dX7_block_36 : decode cX7_block 36 = .ok (.ireturn, 1) := by decide +kernel
theorem dX7_box_0 : decode cX7_box 0 = .ok (.aload_n 0, 1) := by decide +kernel
theorem dX7_box_1 : decode cX7_box 1 = .ok (.iload_n 1, 1) := by decide +kernel
theorem dX7_box_2 : decode cX7_box 2 = .ok (.ifCond .lt 10, 3) := by decide +kernel
theorem dX7_box_5 : decode cX7_box 5 = .ok (.iload_n 1, 1) := by decide +kernel
theorem dX7_box_6 : decode cX7_box 6 = .ok (.sipush 500, 3) := by decide +kernel
theorem dX7_box_9 : decode cX7_box 9 = .ok (.if_icmp .le 7, 3) := by decide +kernel
theorem dX7_box_12 : decode cX7_box 12 = .ok (.iconst 1, 1) := by decide +kernel
theorem dX7_box_13 : decode cX7_box 13 = .ok (.goto 16, 3) := by decide +kernel
theorem dX7_box_16 : decode cX7_box 16 = .ok (.aload_n 0, 1) := by decide +kernel
theorem dX7_box_17 : decode cX7_box 17 = .ok (.getfield 118, 3) := by decide +kernel
theorem dX7_box_20 : decode cX7_box 20 = .ok (.iconst 4, 1) := by decide +kernel
theorem dX7_box_21 : decode cX7_box 21 = .ok (.if_icmp .ne 7, 3) := by decide +kernel
theorem dX7_box_24 : decode cX7_box 24 = .ok (.iconst 2, 1) := by decide +kernel
theorem dX7_box_25 : decode cX7_box 25 = .ok (.goto 4, 3) := by decide +kernel
theorem dX7_box_28 : decode cX7_box 28 = .ok (.iconst 0, 1) := by decide +kernel
theorem dX7_box_29 : decode cX7_box 29 = .ok (.putfield 89, 3) := by decide +kernel
theorem dX7_box_32 : decode cX7_box 32 = .ok (.aload_n 0, 1) := by decide +kernel
theorem dX7_box_33 : decode cX7_box 33 = .ok (.getfield 89, 3) := by decide +kernel
theorem dX7_box_36 : decode cX7_box 36 = .ok (.ifCond .le 5, 3) := by decide +kernel
theorem dX7_box_39 : decode cX7_box 39 = .ok (.iconst 0, 1) := by decide +kernel
theorem dX7_box_40 : decode cX7_box 40 = .ok (.ireturn, 1) := by decide +kernel
theorem dX7_box_41 : decode cX7_box 41 = .ok (.aload_n 0, 1) := by decide +kernel
theorem dX7_box_42 : decode cX7_box 42 = .ok (.getfield 38, 3) := by decide +kernel
theorem dX7_box_45 : decode cX7_box 45 = .ok (.aload_n 0, 1) := by decide +kernel
theorem dX7_box_46 : decode cX7_box 46 = .ok (.getfield 118, 3) := by decide +kernel
theorem dX7_box_49 : decode cX7_box 49 = .ok (.iload_n 1, 1) := by decide +kernel
theorem dX7_box_50 : decode cX7_box 50 = .ok (.iastore, 1) := by decide +kernel
theorem dX7_box_51 : decode cX7_box 51 = .ok (.aload_n 0, 1) := by decide +kernel
theorem dX7_box_52 : decode cX7_box 52 = .ok (.dup, 1) := by decide +kernel
theorem dX7_box_53 : decode cX7_box 53 = .ok (.getfield 118, 3) := by decide +kernel
theorem dX7_box_56 : decode cX7_box 56 = .ok (.iconst 1, 1) := by decide +kernel
theorem dX7_box_57 : decode cX7_box 57 = .ok (.iadd, 1) := by decide +kernel
theorem dX7_box_58 : decode cX7_box 58 = .ok (.putfield 118, 3) := by decide +kernel
theorem dX7_box_61 : decode cX7_box 61 = .ok (.aload_n 0, 1) := by decide +kernel
theorem dX7_box_62 : decode cX7_box 62 = .ok (.getfield 118, 3) := by decide +kernel
theorem dX7_box_65 : decode cX7_box 65 = .ok (.iconst 1, 1) := by decide +kernel
theorem dX7_box_66 : decode cX7_box 66 = .ok (.isub, 1) := by decide +kernel
theorem dX7_box_67 : decode cX7_box 67 = .ok (.ireturn, 1) := by decide +kernel
theorem dX7_call_0 : decode cX7_call 0 = .ok (.iload_n 1, 1) := by decide +kernel
theorem dX7_call_1 : decode cX7_call 1 = .ok (.invokestatic 127, 3) := by decide +kernel
theorem dX7_call_4 : decode cX7_call 4 = .ok (.ifCond .eq 16, 3) := by decide +kernel
theorem dX7_call_7 : decode cX7_call 7 = .ok (.iload_n 3, 1) := by decide +kernel
theorem dX7_call_8 : decode cX7_call 8 = .ok (.ifCond .lt 12, 3) := by decide +kernel
theorem dX7_call_11 : decode cX7_call 11 = .ok (.iload_n 3, 1) := by decide +kernel
theorem dX7_call_12 : decode cX7_call 12 = .ok (.iconst 3, 1) := by decide +kernel
theorem dX7_call_13 : decode cX7_call 13 = .ok (.if_icmp .gt 7, 3) := by decide +kernel
theorem dX7_call_16 : decode cX7_call 16 = .ok (.iconst 1, 1) := by decide +kernel
theorem dX7_call_17 : decode cX7_call 17 = .ok (.goto 4, 3) := by decide +kernel
theorem dX7_call_20 : decode cX7_call 20 = .ok (.iconst 0, 1) := by decide +kernel
theorem dX7_call_21 : decode cX7_call 21 = .ok (.istore 4, 2) := by decide +kernel
theorem dX7_call_23 : decode cX7_call 23 = .ok (.aload_n 0, 1) := by decide +kernel
theorem dX7_call_24 : decode cX7_call 24 = .ok (.aload_n 0, 1) := by decide +kernel
theorem dX7_call_25 : decode cX7_call 25 = .ok (.iload_n 2, 1) := by decide +kernel
theorem dX7_call_26 : decode cX7_call 26 = .ok (.invokevirtual 131, 3) := by decide +kernel
theorem dX7_call_29 : decode cX7_call 29 = .ok (.ifCond .ne 7, 3) := by decide +kernel
theorem dX7_call_32 : decode cX7_call 32 = .ok (.iconst 1, 1) := by decide +kernel
theorem dX7_call_33 : decode cX7_call 33 = .ok (.goto 37, 3) := by decide +kernel
theorem dX7_call_36 : decode cX7_call 36 = .ok (.iload 4, 2) := by decide +kernel
theorem dX7_call_38 : decode cX7_call 38 = .ok (.ifCond .ne 7, 3) := by decide +kernel
theorem dX7_call_41 : decode cX7_call 41 = .ok (.iconst 2, 1) := by decide +kernel
theorem dX7_call_42 : decode cX7_call 42 = .ok (.goto 28, 3) := by decide +kernel
theorem dX7_call_45 : decode cX7_call 45 = .ok (.aload_n 0, 1) := by decide +kernel
theorem dX7_call_46 : decode cX7_call 46 = .ok (.getfield 59, 3) := by decide +kernel
theorem dX7_call_49 : decode cX7_call 49 = .ok (.iload_n 1, 1) := by decide +kernel
theorem dX7_call_50 : decode cX7_call 50 = .ok (.baload, 1) := by decide +kernel
theorem dX7_call_51 : decode cX7_call 51 = .ok (.ifCond .ne 14, 3) := by decide +kernel
theorem dX7_call_54 : decode cX7_call 54 = .ok (.iload_n 3, 1) := by decide +kernel
theorem dX7_call_55 : decode cX7_call 55 = .ok (.ifCond .ne 14, 3) := by decide +kernel
theorem dX7_call_58 : decode cX7_call 58 = .ok (.aload_n 0, 1) := by decide +kernel
theorem dX7_call_59 : decode cX7_call 59 = .ok (.invokevirtual 134, 3) := by decide +kernel
theorem dX7_call_62 : decode cX7_call 62 = .ok (.ifCond .eq 7, 3) := by decide +kernel
theorem dX7_call_65 : decode cX7_call 65 = .ok (.iconst 3, 1) := by decide +kernel
theorem dX7_call_66 : decode cX7_call 66 = .ok (.goto 4, 3) := by decide +kernel
theorem dX7_call_69 : decode cX7_call 69 = .ok (.iconst 0, 1) := by decide +kernel
theorem dX7_call_70 : decode cX7_call 70 = .ok (.putfield 89, 3) := by decide +kernel
theorem dX7_call_73 : decode cX7_call 73 = .ok (.aload_n 0, 1) := by decide +kernel
theorem dX7_call_74 : decode cX7_call 74 = .ok (.getfield 89, 3) := by decide +kernel
theorem dX7_call_77 : decode cX7_call 77 = .ok (.ifCond .le 4, 3) := by decide +kernel
theorem dX7_call_80 : decode cX7_call 80 = .ok (.return_, 1) := by decide +kernel
theorem dX7_call_81 : decode cX7_call 81 = .ok (.iconst 0, 1) := by decide +kernel
theorem dX7_call_82 : decode cX7_call 82 = .ok (.istore 5, 2) := by decide +kernel
theorem dX7_call_84 : decode cX7_call 84 = .ok (.aload_n 0, 1) := by decide +kernel
theorem dX7_call_85 : decode cX7_call 85 = .ok (.getfield 25, 3) := by decide +kernel
theorem dX7_call_88 : decode cX7_call 88 = .ok (.iload 5, 2) := by decide +kernel
theorem dX7_call_90 : decode cX7_call 90 = .ok (.iaload, 1) := by decide +kernel
theorem dX7_call_91 : decode cX7_call 91 = .ok (.ifCond .gt 13, 3) := by decide +kernel
theorem dX7_call_94 : decode cX7_call 94 = .ok (.aload_n 0, 1) := by decide +kernel
theorem dX7_call_95 : decode cX7_call 95 = .ok (.getfield 28, 3) := by decide +kernel
theorem dX7_call_98 : decode cX7_call 98 = .ok (.iload 5, 2) := by decide +kernel
theorem dX7_call_100 : decode cX7_call 100 = .ok (.baload, 1) := by decide +kernel
theorem dX7_call_101 : decode cX7_call 101 = .ok (.ifCond .eq 9, 3) := by decide +kernel
theorem dX7_call_104 : decode cX7_call 104 = .ok (.iinc 5 1, 3) := by decide +kernel
theorem dX7_call_107 : decode cX7_call 107 = .ok (.goto (-23), 3) := by decide +kernel
theorem dX7_call_110 : decode cX7_call 110 = .ok (.aload_n 0, 1) := by decide +kernel
theorem dX7_call_111 : decode cX7_call 111 = .ok (.getfield 28, 3) := by decide +kernel
theorem dX7_call_114 : decode cX7_call 114 = .ok (.iload 5, 2) := by decide +kernel
theorem dX7_call_116 : decode cX7_call 116 = .ok (.iconst 1, 1) := by decide +kernel
theorem dX7_call_117 : decode cX7_call 117 = .ok (.bastore, 1) := by decide +kernel
theorem dX7_call_118 : decode cX7_call 118 = .ok (.aload_n 0, 1) := by decide +kernel
theorem dX7_call_119 : decode cX7_call 119 = .ok (.getfield 35, 3) := by decide +kernel
theorem dX7_call_122 : decode cX7_call 122 = .ok (.iload 5, 2) := by decide +kernel
theorem dX7_call_124 : decode cX7_call 124 = .ok (.iconst 0, 1) := by decide +kernel
theorem dX7_call_125 : decode cX7_call 125 = .ok (.iastore, 1) := by decide +kernel
theorem dX7_call_126 : decode cX7_call 126 = .ok (.aload_n 0, 1) := by decide +kernel
theorem dX7_call_127 : decode cX7_call 127 = .ok (.getfield 59, 3) := by decide +kernel
theorem dX7_call_130 : decode cX7_call 130 = .ok (.iload_n 1, 1) := by decide +kernel
theorem dX7_call_131 : decode cX7_call 131 = .ok (.iconst 1, 1) := by decide +kernel
theorem dX7_call_132 : decode cX7_call 132 = .ok (.bastore, 1) := by decide +kernel
theorem dX7_call_133 : decode cX7_call 133 = .ok (.aload_n 0, 1) := by decide +kernel
theorem dX7_call_134 : decode cX7_call 134 = .ok (.getfield 62, 3) := by decide +kernel
theorem dX7_call_137 : decode cX7_call 137 = .ok (.iload_n 1, 1) := by decide +kernel
theorem dX7_call_138 : decode cX7_call 138 = .ok (.iload_n 2, 1) := by decide +kernel
theorem dX7_call_139 : decode cX7_call 139 = .ok (.iastore, 1) := by decide +kernel
theorem dX7_call_140 : decode cX7_call 140 = .ok (.aload_n 0, 1) := by decide +kernel
theorem dX7_call_141 : decode cX7_call 141 = .ok (.getfield 65, 3) := by decide +kernel
theorem dX7_call_144 : decode cX7_call 144 = .ok (.iload_n 1, 1) := by decide +kernel
theorem dX7_call_145 : decode cX7_call 145 = .ok (.iload_n 3, 1) := by decide +kernel
theorem dX7_call_146 : decode cX7_call 146 = .ok (.iastore, 1) := by decide +kernel
theorem dX7_call_147 : decode cX7_call 147 = .ok (.aload_n 0, 1) := by decide +kernel
theorem dX7_call_148 : decode cX7_call 148 = .ok (.getfield 68, 3) := by decide +kernel
theorem dX7_call_151 : decode cX7_call 151 = .ok (.iload_n 1, 1) := by decide +kernel
theorem dX7_call_152 : decode cX7_call 152 = .ok (.iload 5, 2) := by decide +kernel
theorem dX7_call_154 : decode cX7_call 154 = .ok (.iastore, 1) := by decide +kernel
theorem dX7_call_155 : decode cX7_call 155 = .ok (.aload_n 0, 1) := by decide +kernel
theorem dX7_call_156 : decode cX7_call 156 = .ok (.getfield 71, 3) := by decide +kernel
theorem dX7_call_159 : decode cX7_call 159 = .ok (.iload_n 1, 1) := by decide +kernel
theorem dX7_call_160 : decode cX7_call 160 = .ok (.iconst 0, 1) := by decide +kernel
theorem dX7_call_161 : decode cX7_call 161 = .ok (.bastore, 1) := by decide +kernel
theorem dX7_call_162 : decode cX7_call 162 = .ok (.aload_n 0, 1) := by decide +kernel
theorem dX7_call_163 : decode cX7_call 163 = .ok (.getfield 74, 3) := by decide +kernel
theorem dX7_call_166 : decode cX7_call 166 = .ok (.iload_n 1, 1) := by decide +kernel
theorem dX7_call_167 : decode cX7_call 167 = .ok (.iconst 0, 1) := by decide +kernel
theorem dX7_call_168 : decode cX7_call 168 = .ok (.iastore, 1) := by decide +kernel
theorem dX7_call_169 : decode cX7_call 169 = .ok (.aload_n 0, 1) := by decide +kernel
theorem dX7_call_170 : decode cX7_call 170 = .ok (.getfield 80, 3) := by decide +kernel
theorem dX7_call_173 : decode cX7_call 173 = .ok (.iload_n 1, 1) := by decide +kernel
theorem dX7_call_174 : decode cX7_call 174 = .ok (.iconst 0, 1) := by decide +kernel
theorem dX7_call_175 : decode cX7_call 175 = .ok (.iastore, 1) := by decide +kernel
theorem dX7_call_176 : decode cX7_call 176 = .ok (.aload_n 0, 1) := by decide +kernel
theorem dX7_call_177 : decode cX7_call 177 = .ok (.getfield 83, 3) := by decide +kernel
theorem dX7_call_180 : decode cX7_call 180 = .ok (.iload_n 1, 1) := by decide +kernel
theorem dX7_call_181 : decode cX7_call 181 = .ok (.iconst 0, 1) := by decide +kernel
theorem dX7_call_182 : decode cX7_call 182 = .ok (.iastore, 1) := by decide +kernel
theorem dX7_call_183 : decode cX7_call 183 = .ok (.aload_n 0, 1) := by decide +kernel
theorem dX7_call_184 : decode cX7_call 184 = .ok (.getfield 86, 3) := by decide +kernel
theorem dX7_call_187 : decode cX7_call 187 = .ok (.iload_n 1, 1) := by decide +kernel
theorem dX7_call_188 : decode cX7_call 188 = .ok (.iconst 0, 1) := by decide +kernel
theorem dX7_call_189 : decode cX7_call 189 = .ok (.iastore, 1) := by decide +kernel
theorem dX7_call_190 : decode cX7_call 190 = .ok (.return_, 1) := by decide +kernel
theorem dX7_code_0 : decode cX7_code 0 = .ok (.aload_n 0, 1) := by decide +kernel
theorem dX7_code_1 : decode cX7_code 1 = .ok (.getfield 7, 3) := by decide +kernel
theorem dX7_code_4 : decode cX7_code 4 = .ok (.aload_n 0, 1) := by decide +kernel
theorem dX7_code_5 : decode cX7_code 5 = .ok (.getfield 93, 3) := by decide +kernel
theorem dX7_code_8 : decode cX7_code 8 = .ok (.iaload, 1) := by decide +kernel
theorem dX7_code_9 : decode cX7_code 9 = .ok (.istore_n 2, 1) := by decide +kernel
theorem dX7_code_10 : decode cX7_code 10 = .ok (.iload_n 1, 1) := by decide +kernel
theorem dX7_code_11 : decode cX7_code 11 = .ok (.aload_n 0, 1) := by decide +kernel
theorem dX7_code_12 : decode cX7_code 12 = .ok (.getfield 96, 3) := by decide +kernel
theorem dX7_code_15 : decode cX7_code 15 = .ok (.isub, 1) := by decide +kernel
theorem dX7_code_16 : decode cX7_code 16 = .ok (.istore_n 3, 1) := by decide +kernel
theorem dX7_code_17 : decode cX7_code 17 = .ok (.iload_n 3, 1) := by decide +kernel
theorem dX7_code_18 : decode cX7_code 18 = .ok (.ifCond .ge 8, 3) := by decide +kernel
theorem dX7_code_21 : decode cX7_code 21 = .ok (.bipush 8, 2) := by decide +kernel
theorem dX7_code_23 : decode cX7_code 23 = .ok (.goto 4, 3) := by decide +kernel
theorem dX7_code_26 : decode cX7_code 26 = .ok (.iconst 0, 1) := by decide +kernel
theorem dX7_code_27 : decode cX7_code 27 = .ok (.istore 4, 2) := by decide +kernel
theorem dX7_code_29 : decode cX7_code 29 = .ok (.iload_n 3, 1) := by decide +kernel
theorem dX7_code_30 : decode cX7_code 30 = .ok (.ifCond .ge 8, 3) := by decide +kernel
theorem dX7_code_33 : decode cX7_code 33 = .ok (.iload_n 3, 1) := by decide +kernel
theorem dX7_code_34 : decode cX7_code 34 = .ok (.ineg, 1) := by decide +kernel
theorem dX7_code_35 : decode cX7_code 35 = .ok (.goto 4, 3) := by decide +kernel
theorem dX7_code_38 : decode cX7_code 38 = .ok (.iload_n 3, 1) := by decide +kernel
theorem dX7_code_39 : decode cX7_code 39 = .ok (.istore_n 3, 1) := by decide +kernel
theorem dX7_code_40 : decode cX7_code 40 = .ok (.iconst 0, 1) := by decide +kernel
theorem dX7_code_41 : decode cX7_code 41 = .ok (.istore 5, 2) := by decide +kernel
theorem dX7_code_43 : decode cX7_code 43 = .ok (.iload 5, 2) := by decide +kernel
theorem dX7_code_45 : decode cX7_code 45 = .ok (.iconst 3, 1) := by decide +kernel
theorem dX7_code_46 : decode cX7_code 46 = .ok (.if_icmp .ge 35, 3) := by decide +kernel
theorem dX7_code_49 : decode cX7_code 49 = .ok (.iload_n 2, 1) := by decide +kernel
theorem dX7_code_50 : decode cX7_code 50 = .ok (.iload 5, 2) := by decide +kernel
theorem dX7_code_52 : decode cX7_code 52 = .ok (.ishr, 1) := by decide +kernel
theorem dX7_code_53 : decode cX7_code 53 = .ok (.istore 6, 2) := by decide +kernel
theorem dX7_code_55 : decode cX7_code 55 = .ok (.iload_n 3, 1) := by decide +kernel
theorem dX7_code_56 : decode cX7_code 56 = .ok (.iload 6, 2) := by decide +kernel
theorem dX7_code_58 : decode cX7_code 58 = .ok (.if_icmp .lt 17, 3) := by decide +kernel
theorem dX7_code_61 : decode cX7_code 61 = .ok (.iload 4, 2) := by decide +kernel
theorem dX7_code_63 : decode cX7_code 63 = .ok (.iconst 4, 1) := by decide +kernel
theorem dX7_code_64 : decode cX7_code 64 = .ok (.iload 5, 2) := by decide +kernel
theorem dX7_code_66 : decode cX7_code 66 = .ok (.ishr, 1) := by decide +kernel
theorem dX7_code_67 : decode cX7_code 67 = .ok (.ior, 1) := by decide +kernel
theorem dX7_code_68 : decode cX7_code 68 = .ok (.istore 4, 2) := by decide +kernel
theorem dX7_code_70 : decode cX7_code 70 = .ok (.iload_n 3, 1) := by decide +kernel
theorem dX7_code_71 : decode cX7_code 71 = .ok (.iload 6, 2) := by decide +kernel
theorem dX7_code_73 : decode cX7_code 73 = .ok (.isub, 1) := by decide +kernel
theorem dX7_code_74 : decode cX7_code 74 = .ok (.istore_n 3, 1) := by decide +kernel
theorem dX7_code_75 : decode cX7_code 75 = .ok (.iinc 5 1, 3) := by decide +kernel
theorem dX7_code_78 : decode cX7_code 78 = .ok (.goto (-35), 3) := by decide +kernel
theorem dX7_code_81 : decode cX7_code 81 = .ok (.aload_n 0, 1) := by decide +kernel
theorem dX7_code_82 : decode cX7_code 82 = .ok (.iload 4, 2) := by decide +kernel
theorem dX7_code_84 : decode cX7_code 84 = .ok (.invokevirtual 99, 3) := by decide +kernel
theorem dX7_code_87 : decode cX7_code 87 = .ok (.iload 4, 2) := by decide +kernel
theorem dX7_code_89 : decode cX7_code 89 = .ok (.ireturn, 1) := by decide +kernel
theorem dX7_codeFrame_0 : decode cX7_codeFrame 0 = .ok (.aload_n 0, 1) := by decide +kernel
theorem dX7_codeFrame_1 : decode cX7_codeFrame 1 = .ok (.getfield 68, 3) := by decide +kernel
theorem dX7_codeFrame_4 : decode cX7_codeFrame 4 = .ok (.iload_n 1, 1) := by decide +kernel
theorem dX7_codeFrame_5 : decode cX7_codeFrame 5 = .ok (.iaload, 1) := by decide +kernel
theorem dX7_codeFrame_6 : decode cX7_codeFrame 6 = .ok (.istore_n 2, 1) := by decide +kernel
theorem dX7_codeFrame_7 : decode cX7_codeFrame 7 = .ok (.aload_n 0, 1) := by decide +kernel
theorem dX7_codeFrame_8 : decode cX7_codeFrame 8 = .ok (.getfield 35, 3) := by decide +kernel
theorem dX7_codeFrame_11 : decode cX7_codeFrame 11 = .ok (.iload_n 2, 1) := by decide +kernel
theorem dX7_codeFrame_12 : decode cX7_codeFrame 12 = .ok (.iaload, 1) := by decide +kernel
theorem dX7_codeFrame_13 : decode cX7_codeFrame 13 = .ok (.iconst 4, 1) := by decide +kernel
theorem dX7_codeFrame_14 : decode cX7_codeFrame 14 = .ok (.irem, 1) := by decide +kernel
theorem dX7_codeFrame_15 : decode cX7_codeFrame 15 = .ok (.ifCond .ne 10, 3) := by decide +kernel
theorem dX7_codeFrame_18 : decode cX7_codeFrame 18 = .ok (.aload_n 0, 1) := by decide +kernel
theorem dX7_codeFrame_19 : decode cX7_codeFrame 19 = .ok (.invokevirtual 103, 3) := by decide +kernel
theorem dX7_codeFrame_22 : decode cX7_codeFrame 22 = .ok (.ifCond .lt 12, 3) := by decide +kernel
theorem dX7_codeFrame_25 : decode cX7_codeFrame 25 = .ok (.aload_n 0, 1) := by decide +kernel
theorem dX7_codeFrame_26 : decode cX7_codeFrame 26 = .ok (.iload_n 1, 1) := by decide +kernel
theorem dX7_codeFrame_27 : decode cX7_codeFrame 27 = .ok (.iconst 1, 1) := by decide +kernel
theorem dX7_codeFrame_28 : decode cX7_codeFrame 28 = .ok (.invokevirtual 141, 3) := by decide +kernel
theorem dX7_codeFrame_31 : decode cX7_codeFrame 31 = .ok (.ifCond .ne 11, 3) := by decide +kernel
theorem dX7_codeFrame_34 : decode cX7_codeFrame 34 = .ok (.aload_n 0, 1) := by decide +kernel
theorem dX7_codeFrame_35 : decode cX7_codeFrame 35 = .ok (.getfield 71, 3) := by decide +kernel
theorem dX7_codeFrame_38 : decode cX7_codeFrame 38 = .ok (.iload_n 1, 1) := by decide +kernel
theorem dX7_codeFrame_39 : decode cX7_codeFrame 39 = .ok (.iconst 1, 1) := by decide +kernel
theorem dX7_codeFrame_40 : decode cX7_codeFrame 40 = .ok (.bastore, 1) := by decide +kernel
theorem dX7_codeFrame_41 : decode cX7_codeFrame 41 = .ok (.return_, 1) := by decide +kernel
theorem dX7_codeFrame_42 : decode cX7_codeFrame 42 = .ok (.aload_n 0, 1) := by decide +kernel
theorem dX7_codeFrame_43 : decode cX7_codeFrame 43 = .ok (.aload_n 0, 1) := by decide +kernel
theorem dX7_codeFrame_44 : decode cX7_codeFrame 44 = .ok (.getfield 83, 3) := by decide +kernel
theorem dX7_codeFrame_47 : decode cX7_codeFrame 47 = .ok (.iload_n 1, 1) := by decide +kernel
theorem dX7_codeFrame_48 : decode cX7_codeFrame 48 = .ok (.iaload, 1) := by decide +kernel
theorem dX7_codeFrame_49 : decode cX7_codeFrame 49 = .ok (.putfield 96, 3) := by decide +kernel
theorem dX7_codeFrame_52 : decode cX7_codeFrame 52 = .ok (.aload_n 0, 1) := by decide +kernel
theorem dX7_codeFrame_53 : decode cX7_codeFrame 53 = .ok (.aload_n 0, 1) := by decide +kernel
theorem dX7_codeFrame_54 : decode cX7_codeFrame 54 = .ok (.getfield 86, 3) := by decide +kernel
theorem dX7_codeFrame_57 : decode cX7_codeFrame 57 = .ok (.iload_n 1, 1) := by decide +kernel
theorem dX7_codeFrame_58 : decode cX7_codeFrame 58 = .ok (.iaload, 1) := by decide +kernel
theorem dX7_codeFrame_59 : decode cX7_codeFrame 59 = .ok (.putfield 93, 3) := by decide +kernel
theorem dX7_codeFrame_62 : decode cX7_codeFrame 62 = .ok (.iconst 0, 1) := by decide +kernel
theorem dX7_codeFrame_63 : decode cX7_codeFrame 63 = .ok (.istore_n 3, 1) := by decide +kernel
theorem dX7_codeFrame_64 : decode cX7_codeFrame 64 = .ok (.iconst 0, 1) := by decide +kernel
theorem dX7_codeFrame_65 : decode cX7_codeFrame 65 = .ok (.istore 4, 2) := by decide +kernel
theorem dX7_codeFrame_67 : decode cX7_codeFrame 67 = .ok (.iload 4, 2) := by decide +kernel
theorem dX7_codeFrame_69 : decode cX7_codeFrame 69 = .ok (.bipush 8, 2) := by decide +kernel
theorem dX7_codeFrame_71 : decode cX7_codeFrame 71 = .ok (.if_icmp .ge 33, 3) := by decide +kernel
theorem dX7_codeFrame_74 : decode cX7_codeFrame 74 = .ok (.iload_n 3, 1) := by decide +kernel
theorem dX7_codeFrame_75 : decode cX7_codeFrame 75 = .ok (.aload_n 0, 1) := by decide +kernel
theorem dX7_codeFrame_76 : decode cX7_codeFrame 76 = .ok (.aload_n 0, 1) := by decide +kernel
theorem dX7_codeFrame_77 : decode cX7_codeFrame 77 = .ok (.getfield 77, 3) := by decide +kernel
theorem dX7_codeFrame_80 : decode cX7_codeFrame 80 = .ok (.bipush 8, 2) := by decide +kernel
theorem dX7_codeFrame_82 : decode cX7_codeFrame 82 = .ok (.iload_n 1, 1) := by decide +kernel
theorem dX7_codeFrame_83 : decode cX7_codeFrame 83 = .ok (.imul, 1) := by decide +kernel
theorem dX7_codeFrame_84 : decode cX7_codeFrame 84 = .ok (.iload 4, 2) := by decide +kernel
theorem dX7_codeFrame_86 : decode cX7_codeFrame 86 = .ok (.iadd, 1) := by decide +kernel
theorem dX7_codeFrame_87 : decode cX7_codeFrame 87 = .ok (.iaload, 1) := by decide +kernel
theorem dX7_codeFrame_88 : decode cX7_codeFrame 88 = .ok (.invokevirtual 145, 3) := by decide +kernel
theorem dX7_codeFrame_91 : decode cX7_codeFrame 91 = .ok (.iconst 4, 1) := by decide +kernel
theorem dX7_codeFrame_92 : decode cX7_codeFrame 92 = .ok (.iload 4, 2) := by decide +kernel
theorem dX7_codeFrame_94 : decode cX7_codeFrame 94 = .ok (.imul, 1) := by decide +kernel
theorem dX7_codeFrame_95 : decode cX7_codeFrame 95 = .ok (.ishl, 1) := by decide +kernel
theorem dX7_codeFrame_96 : decode cX7_codeFrame 96 = .ok (.ior, 1) := by decide +kernel
theorem dX7_codeFrame_97 : decode cX7_codeFrame 97 = .ok (.istore_n 3, 1) := by decide +kernel
theorem dX7_codeFrame_98 : decode cX7_codeFrame 98 = .ok (.iinc 4 1, 3) := by decide +kernel
theorem dX7_codeFrame_101 : decode cX7_codeFrame 101 = .ok (.goto (-34), 3) := by decide +kernel
theorem dX7_codeFrame_104 : decode cX7_codeFrame 104 = .ok (.aload_n 0, 1) := by decide +kernel
theorem dX7_codeFrame_105 : decode cX7_codeFrame 105 = .ok (.iload_n 2, 1) := by decide +kernel
theorem dX7_codeFrame_106 : decode cX7_codeFrame 106 = .ok (.iload_n 3, 1) := by decide +kernel
theorem dX7_codeFrame_107 : decode cX7_codeFrame 107 = .ok (.invokevirtual 148, 3) := by decide +kernel
theorem dX7_codeFrame_110 : decode cX7_codeFrame 110 = .ok (.aload_n 0, 1) := by decide +kernel
theorem dX7_codeFrame_111 : decode cX7_codeFrame 111 = .ok (.getfield 83, 3) := by decide +kernel
theorem dX7_codeFrame_114 : decode cX7_codeFrame 114 = .ok (.iload_n 1, 1) := by decide +kernel
theorem dX7_codeFrame_115 : decode cX7_codeFrame 115 = .ok (.aload_n 0, 1) := by decide +kernel
theorem dX7_codeFrame_116 : decode cX7_codeFrame 116 = .ok (.getfield 96, 3) := by decide +kernel
theorem dX7_codeFrame_119 : decode cX7_codeFrame 119 = .ok (.iastore, 1) := by decide +kernel
theorem dX7_codeFrame_120 : decode cX7_codeFrame 120 = .ok (.aload_n 0, 1) := by decide +kernel
theorem dX7_codeFrame_121 : decode cX7_codeFrame 121 = .ok (.getfield 86, 3) := by decide +kernel
theorem dX7_codeFrame_124 : decode cX7_codeFrame 124 = .ok (.iload_n 1, 1) := by decide +kernel
theorem dX7_codeFrame_125 : decode cX7_codeFrame 125 = .ok (.aload_n 0, 1) := by decide +kernel
theorem dX7_codeFrame_126 : decode cX7_codeFrame 126 = .ok (.getfield 93, 3) := by decide +kernel
theorem dX7_codeFrame_129 : decode cX7_codeFrame 129 = .ok (.iastore, 1) := by decide +kernel
theorem dX7_codeFrame_130 : decode cX7_codeFrame 130 = .ok (.return_, 1) := by decide +kernel
theorem dX7_cost_0 : decode cX7_cost 0 = .ok (.iconst 0, 1) := by decide +kernel
theorem dX7_cost_1 : decode cX7_cost 1 = .ok (.istore_n 2, 1) := by decide +kernel
theorem dX7_cost_2 : decode cX7_cost 2 = .ok (.iconst 0, 1) := by decide +kernel
theorem dX7_cost_3 : decode cX7_cost 3 = .ok (.istore_n 3, 1) := by decide +kernel
theorem dX7_cost_4 : decode cX7_cost 4 = .ok (.iload_n 1, 1) := by decide +kernel
theorem dX7_cost_5 : decode cX7_cost 5 = .ok (.ifCond .lt 49, 3) := by decide +kernel
theorem dX7_cost_8 : decode cX7_cost 8 = .ok (.iload_n 3, 1) := by decide +kernel
theorem dX7_cost_9 : decode cX7_cost 9 = .ok (.aload_n 0, 1) := by decide +kernel
theorem dX7_cost_10 : decode cX7_cost 10 = .ok (.getfield 35, 3) := by decide +kernel
theorem dX7_cost_13 : decode cX7_cost 13 = .ok (.iload_n 1, 1) := by decide +kernel
theorem dX7_cost_14 : decode cX7_cost 14 = .ok (.iaload, 1) := by decide +kernel
theorem dX7_cost_15 : decode cX7_cost 15 = .ok (.if_icmp .ge 39, 3) := by decide +kernel
theorem dX7_cost_18 : decode cX7_cost 18 = .ok (.aload_n 0, 1) := by decide +kernel
theorem dX7_cost_19 : decode cX7_cost 19 = .ok (.getfield 19, 3) := by decide +kernel
theorem dX7_cost_22 : decode cX7_cost 22 = .ok (.aload_n 0, 1) := by decide +kernel
theorem dX7_cost_23 : decode cX7_cost 23 = .ok (.iload_n 1, 1) := by decide +kernel
theorem dX7_cost_24 : decode cX7_cost 24 = .ok (.iload_n 3, 1) := by decide +kernel
theorem dX7_cost_25 : decode cX7_cost 25 = .ok (.invokevirtual 107, 3) := by decide +kernel
theorem dX7_cost_28 : decode cX7_cost 28 = .ok (.iaload, 1) := by decide +kernel
theorem dX7_cost_29 : decode cX7_cost 29 = .ok (.istore 4, 2) := by decide +kernel
theorem dX7_cost_31 : decode cX7_cost 31 = .ok (.iload_n 2, 1) := by decide +kernel
theorem dX7_cost_32 : decode cX7_cost 32 = .ok (.iload 4, 2) := by decide +kernel
theorem dX7_cost_34 : decode cX7_cost 34 = .ok (.ifCond .ne 7, 3) := by decide +kernel
theorem dX7_cost_37 : decode cX7_cost 37 = .ok (.iconst 1, 1) := by decide +kernel
theorem dX7_cost_38 : decode cX7_cost 38 = .ok (.goto 8, 3) := by decide +kernel
theorem dX7_cost_41 : decode cX7_cost 41 = .ok (.iload 4, 2) := by decide +kernel
theorem dX7_cost_43 : decode cX7_cost 43 = .ok (.invokestatic 115, 3) := by decide +kernel
theorem dX7_cost_46 : decode cX7_cost 46 = .ok (.iadd, 1) := by decide +kernel
theorem dX7_cost_47 : decode cX7_cost 47 = .ok (.istore_n 2, 1) := by decide +kernel
theorem dX7_cost_48 : decode cX7_cost 48 = .ok (.iinc 3 1, 3) := by decide +kernel
theorem dX7_cost_51 : decode cX7_cost 51 = .ok (.goto (-47), 3) := by decide +kernel
theorem dX7_cost_54 : decode cX7_cost 54 = .ok (.iload_n 2, 1) := by decide +kernel
theorem dX7_cost_55 : decode cX7_cost 55 = .ok (.ireturn, 1) := by decide +kernel
theorem dX7_costOfGap_0 : decode cX7_costOfGap 0 = .ok (.iload_n 0, 1) := by decide +kernel
theorem dX7_costOfGap_1 : decode cX7_costOfGap 1 = .ok (.iconst 3, 1) := by decide +kernel
theorem dX7_costOfGap_2 : decode cX7_costOfGap 2 = .ok (.iadd, 1) := by decide +kernel
theorem dX7_costOfGap_3 : decode cX7_costOfGap 3 = .ok (.iconst 4, 1) := by decide +kernel
theorem dX7_costOfGap_4 : decode cX7_costOfGap 4 = .ok (.idiv, 1) := by decide +kernel
theorem dX7_costOfGap_5 : decode cX7_costOfGap 5 = .ok (.ireturn, 1) := by decide +kernel
theorem dX7_dropLast_0 : decode cX7_dropLast 0 = .ok (.aload_n 0, 1) := by decide +kernel
theorem dX7_dropLast_1 : decode cX7_dropLast 1 = .ok (.iload_n 1, 1) := by decide +kernel
theorem dX7_dropLast_2 : decode cX7_dropLast 2 = .ok (.aload_n 0, 1) := by decide +kernel
theorem dX7_dropLast_3 : decode cX7_dropLast 3 = .ok (.getfield 35, 3) := by decide +kernel
theorem dX7_dropLast_6 : decode cX7_dropLast 6 = .ok (.iload_n 1, 1) := by decide +kernel
theorem dX7_dropLast_7 : decode cX7_dropLast 7 = .ok (.iaload, 1) := by decide +kernel
theorem dX7_dropLast_8 : decode cX7_dropLast 8 = .ok (.iconst 1, 1) := by decide +kernel
theorem dX7_dropLast_9 : decode cX7_dropLast 9 = .ok (.isub, 1) := by decide +kernel
theorem dX7_dropLast_10 : decode cX7_dropLast 10 = .ok (.invokevirtual 107, 3) := by decide +kernel
theorem dX7_dropLast_13 : decode cX7_dropLast 13 = .ok (.iconst 4, 1) := by decide +kernel
theorem dX7_dropLast_14 : decode cX7_dropLast 14 = .ok (.idiv, 1) := by decide +kernel
theorem dX7_dropLast_15 : decode cX7_dropLast 15 = .ok (.istore_n 2, 1) := by decide +kernel
theorem dX7_dropLast_16 : decode cX7_dropLast 16 = .ok (.aload_n 0, 1) := by decide +kernel
theorem dX7_dropLast_17 : decode cX7_dropLast 17 = .ok (.getfield 35, 3) := by decide +kernel
theorem dX7_dropLast_20 : decode cX7_dropLast 20 = .ok (.iload_n 1, 1) := by decide +kernel
theorem dX7_dropLast_21 : decode cX7_dropLast 21 = .ok (.dup2, 1) := by decide +kernel
theorem dX7_dropLast_22 : decode cX7_dropLast 22 = .ok (.iaload, 1) := by decide +kernel
theorem dX7_dropLast_23 : decode cX7_dropLast 23 = .ok (.iconst 1, 1) := by decide +kernel
theorem dX7_dropLast_24 : decode cX7_dropLast 24 = .ok (.isub, 1) := by decide +kernel
theorem dX7_dropLast_25 : decode cX7_dropLast 25 = .ok (.iastore, 1) := by decide +kernel
theorem dX7_dropLast_26 : decode cX7_dropLast 26 = .ok (.aload_n 0, 1) := by decide +kernel
theorem dX7_dropLast_27 : decode cX7_dropLast 27 = .ok (.getfield 13, 3) := by decide +kernel
theorem dX7_dropLast_30 : decode cX7_dropLast 30 = .ok (.iload_n 2, 1) := by decide +kernel
theorem dX7_dropLast_31 : decode cX7_dropLast 31 = .ok (.dup2, 1) := by decide +kernel
theorem dX7_dropLast_32 : decode cX7_dropLast 32 = .ok (.iaload, 1) := by decide +kernel
theorem dX7_dropLast_33 : decode cX7_dropLast 33 = .ok (.iconst 1, 1) := by decide +kernel
theorem dX7_dropLast_34 : decode cX7_dropLast 34 = .ok (.isub, 1) := by decide +kernel
theorem dX7_dropLast_35 : decode cX7_dropLast 35 = .ok (.iastore, 1) := by decide +kernel
theorem dX7_dropLast_36 : decode cX7_dropLast 36 = .ok (.aload_n 0, 1) := by decide +kernel
theorem dX7_dropLast_37 : decode cX7_dropLast 37 = .ok (.getfield 13, 3) := by decide +kernel
theorem dX7_dropLast_40 : decode cX7_dropLast 40 = .ok (.iload_n 2, 1) := by decide +kernel
theorem dX7_dropLast_41 : decode cX7_dropLast 41 = .ok (.iaload, 1) := by decide +kernel
theorem dX7_dropLast_42 : decode cX7_dropLast 42 = .ok (.ifCond .ne 33, 3) := by decide +kernel
theorem dX7_dropLast_45 : decode cX7_dropLast 45 = .ok (.aload_n 0, 1) := by decide +kernel
theorem dX7_dropLast_46 : decode cX7_dropLast 46 = .ok (.getfield 35, 3) := by decide +kernel
theorem dX7_dropLast_49 : decode cX7_dropLast 49 = .ok (.iload_n 1, 1) := by decide +kernel
theorem dX7_dropLast_50 : decode cX7_dropLast 50 = .ok (.iaload, 1) := by decide +kernel
theorem dX7_dropLast_51 : decode cX7_dropLast 51 = .ok (.ifCond .le 24, 3) := by decide +kernel
theorem dX7_dropLast_54 : decode cX7_dropLast 54 = .ok (.aload_n 0, 1) := by decide +kernel
theorem dX7_dropLast_55 : decode cX7_dropLast 55 = .ok (.getfield 16, 3) := by decide +kernel
theorem dX7_dropLast_58 : decode cX7_dropLast 58 = .ok (.aload_n 0, 1) := by decide +kernel
theorem dX7_dropLast_59 : decode cX7_dropLast 59 = .ok (.iload_n 1, 1) := by decide +kernel
theorem dX7_dropLast_60 : decode cX7_dropLast 60 = .ok (.aload_n 0, 1) := by decide +kernel
theorem dX7_dropLast_61 : decode cX7_dropLast 61 = .ok (.getfield 35, 3) := by decide +kernel
theorem dX7_dropLast_64 : decode cX7_dropLast 64 = .ok (.iload_n 1, 1) := by decide +kernel
theorem dX7_dropLast_65 : decode cX7_dropLast 65 = .ok (.iaload, 1) := by decide +kernel
theorem dX7_dropLast_66 : decode cX7_dropLast 66 = .ok (.iconst 1, 1) := by decide +kernel
theorem dX7_dropLast_67 : decode cX7_dropLast 67 = .ok (.isub, 1) := by decide +kernel
theorem dX7_dropLast_68 : decode cX7_dropLast 68 = .ok (.invokevirtual 107, 3) := by decide +kernel
theorem dX7_dropLast_71 : decode cX7_dropLast 71 = .ok (.iconst 4, 1) := by decide +kernel
theorem dX7_dropLast_72 : decode cX7_dropLast 72 = .ok (.idiv, 1) := by decide +kernel
theorem dX7_dropLast_73 : decode cX7_dropLast 73 = .ok (.iconst (-1), 1) := by decide +kernel
theorem dX7_dropLast_74 : decode cX7_dropLast 74 = .ok (.iastore, 1) := by decide +kernel
theorem dX7_dropLast_75 : decode cX7_dropLast 75 = .ok (.return_, 1) := by decide +kernel
theorem dX7_duration_0 : decode cX7_duration 0 = .ok (.aload_n 0, 1) := by decide +kernel
theorem dX7_duration_1 : decode cX7_duration 1 = .ok (.iload_n 1, 1) := by decide +kernel
theorem dX7_duration_2 : decode cX7_duration 2 = .ok (.invokevirtual 174, 3) := by decide +kernel
theorem dX7_duration_5 : decode cX7_duration 5 = .ok (.istore_n 2, 1) := by decide +kernel
theorem dX7_duration_6 : decode cX7_duration 6 = .ok (.aload_n 0, 1) := by decide +kernel
theorem dX7_duration_7 : decode cX7_duration 7 = .ok (.iload_n 2, 1) := by decide +kernel
theorem dX7_duration_8 : decode cX7_duration 8 = .ok (.ifCond .ge 7, 3) := by decide +kernel
theorem dX7_duration_11 : decode cX7_duration 11 = .ok (.iconst 1, 1) := by decide +kernel
theorem dX7_duration_12 : decode cX7_duration 12 = .ok (.goto 4, 3) := by decide +kernel
theorem dX7_duration_15 : decode cX7_duration 15 = .ok (.iconst 0, 1) := by decide +kernel
theorem dX7_duration_16 : decode cX7_duration 16 = .ok (.putfield 89, 3) := by decide +kernel
theorem dX7_duration_19 : decode cX7_duration 19 = .ok (.iload_n 2, 1) := by decide +kernel
theorem dX7_duration_20 : decode cX7_duration 20 = .ok (.ifCond .ge 7, 3) := by decide +kernel
theorem dX7_duration_23 : decode cX7_duration 23 = .ok (.iconst 0, 1) := by decide +kernel
theorem dX7_duration_24 : decode cX7_duration 24 = .ok (.goto 27, 3) := by decide +kernel
theorem dX7_duration_27 : decode cX7_duration 27 = .ok (.bipush 8, 2) := by decide +kernel
theorem dX7_duration_29 : decode cX7_duration 29 = .ok (.aload_n 0, 1) := by decide +kernel
theorem dX7_duration_30 : decode cX7_duration 30 = .ok (.aload_n 0, 1) := by decide +kernel
theorem dX7_duration_31 : decode cX7_duration 31 = .ok (.getfield 53, 3) := by decide +kernel
theorem dX7_duration_34 : decode cX7_duration 34 = .ok (.iload_n 2, 1) := by decide +kernel
theorem dX7_duration_35 : decode cX7_duration 35 = .ok (.iaload, 1) := by decide +kernel
theorem dX7_duration_36 : decode cX7_duration 36 = .ok (.invokevirtual 177, 3) := by decide +kernel
theorem dX7_duration_39 : decode cX7_duration 39 = .ok (.aload_n 0, 1) := by decide +kernel
theorem dX7_duration_40 : decode cX7_duration 40 = .ok (.aload_n 0, 1) := by decide +kernel
theorem dX7_duration_41 : decode cX7_duration 41 = .ok (.getfield 56, 3) := by decide +kernel
theorem dX7_duration_44 : decode cX7_duration 44 = .ok (.iload_n 2, 1) := by decide +kernel
theorem dX7_duration_45 : decode cX7_duration 45 = .ok (.iaload, 1) := by decide +kernel
theorem dX7_duration_46 : decode cX7_duration 46 = .ok (.invokevirtual 177, 3) := by decide +kernel
theorem dX7_duration_49 : decode cX7_duration 49 = .ok (.iadd, 1) := by decide +kernel
theorem dX7_duration_50 : decode cX7_duration 50 = .ok (.imul, 1) := by decide +kernel
theorem dX7_duration_51 : decode cX7_duration 51 = .ok (.ireturn, 1) := by decide +kernel
theorem dX7_entryAt_0 : decode cX7_entryAt 0 = .ok (.aload_n 0, 1) := by decide +kernel
theorem dX7_entryAt_1 : decode cX7_entryAt 1 = .ok (.getfield 32, 3) := by decide +kernel
theorem dX7_entryAt_4 : decode cX7_entryAt 4 = .ok (.iload_n 1, 1) := by decide +kernel
theorem dX7_entryAt_5 : decode cX7_entryAt 5 = .ok (.iaload, 1) := by decide +kernel
theorem dX7_entryAt_6 : decode cX7_entryAt 6 = .ok (.istore_n 3, 1) := by decide +kernel
theorem dX7_entryAt_7 : decode cX7_entryAt 7 = .ok (.iconst 0, 1) := by decide +kernel
theorem dX7_entryAt_8 : decode cX7_entryAt 8 = .ok (.istore 4, 2) := by decide +kernel
theorem dX7_entryAt_10 : decode cX7_entryAt 10 = .ok (.iload 4, 2) := by decide +kernel
theorem dX7_entryAt_12 : decode cX7_entryAt 12 = .ok (.iload_n 2, 1) := by decide +kernel
theorem dX7_entryAt_13 : decode cX7_entryAt 13 = .ok (.iconst 4, 1) := by decide +kernel
theorem dX7_entryAt_14 : decode cX7_entryAt 14 = .ok (.idiv, 1) := by decide +kernel
theorem dX7_entryAt_15 : decode cX7_entryAt 15 = .ok (.if_icmp .ge 16, 3) := by decide +kernel
theorem dX7_entryAt_18 : decode cX7_entryAt 18 = .ok (.aload_n 0, 1) := by decide +kernel
theorem dX7_entryAt_19 : decode cX7_entryAt 19 = .ok (.getfield 16, 3) := by decide +kernel
theorem dX7_entryAt_22 : decode cX7_entryAt 22 = .ok (.iload_n 3, 1) := by decide +kernel
theorem dX7_entryAt_23 : decode cX7_entryAt 23 = .ok (.iaload, 1) := by decide +kernel
theorem dX7_entryAt_24 : decode cX7_entryAt 24 = .ok (.istore_n 3, 1) := by decide +kernel
theorem dX7_entryAt_25 : decode cX7_entryAt 25 = .ok (.iinc 4 1, 3) := by decide +kernel
theorem dX7_entryAt_28 : decode cX7_entryAt 28 = .ok (.goto (-18), 3) := by decide +kernel
theorem dX7_entryAt_31 : decode cX7_entryAt 31 = .ok (.iconst 4, 1) := by decide +kernel
theorem dX7_entryAt_32 : decode cX7_entryAt 32 = .ok (.iload_n 3, 1) := by decide +kernel
theorem dX7_entryAt_33 : decode cX7_entryAt 33 = .ok (.imul, 1) := by decide +kernel
theorem dX7_entryAt_34 : decode cX7_entryAt 34 = .ok (.iload_n 2, 1) := by decide +kernel
theorem dX7_entryAt_35 : decode cX7_entryAt 35 = .ok (.iconst 4, 1) := by decide +kernel
theorem dX7_entryAt_36 : decode cX7_entryAt 36 = .ok (.irem, 1) := by decide +kernel
theorem dX7_entryAt_37 : decode cX7_entryAt 37 = .ok (.iadd, 1) := by decide +kernel
theorem dX7_entryAt_38 : decode cX7_entryAt 38 = .ok (.ireturn, 1) := by decide +kernel
theorem dX7_erase_0 : decode cX7_erase 0 = .ok (.aload_n 0, 1) := by decide +kernel
theorem dX7_erase_1 : decode cX7_erase 1 = .ok (.iload_n 1, 1) := by decide +kernel
theorem dX7_erase_2 : decode cX7_erase 2 = .ok (.invokevirtual 174, 3) := by decide +kernel
theorem dX7_erase_5 : decode cX7_erase 5 = .ok (.istore_n 2, 1) := by decide +kernel
theorem dX7_erase_6 : decode cX7_erase 6 = .ok (.aload_n 0, 1) := by decide +kernel
theorem dX7_erase_7 : decode cX7_erase 7 = .ok (.iload_n 2, 1) := by decide +kernel
theorem dX7_erase_8 : decode cX7_erase 8 = .ok (.ifCond .ge 7, 3) := by decide +kernel
theorem dX7_erase_11 : decode cX7_erase 11 = .ok (.iconst 1, 1) := by decide +kernel
theorem dX7_erase_12 : decode cX7_erase 12 = .ok (.goto 4, 3) := by decide +kernel
theorem dX7_erase_15 : decode cX7_erase 15 = .ok (.iconst 0, 1) := by decide +kernel
theorem dX7_erase_16 : decode cX7_erase 16 = .ok (.putfield 89, 3) := by decide +kernel
theorem dX7_erase_19 : decode cX7_erase 19 = .ok (.aload_n 0, 1) := by decide +kernel
theorem dX7_erase_20 : decode cX7_erase 20 = .ok (.getfield 89, 3) := by decide +kernel
theorem dX7_erase_23 : decode cX7_erase 23 = .ok (.ifCond .le 5, 3) := by decide +kernel
theorem dX7_erase_26 : decode cX7_erase 26 = .ok (.iconst 0, 1) := by decide +kernel
theorem dX7_erase_27 : decode cX7_erase 27 = .ok (.ireturn, 1) := by decide +kernel
theorem dX7_erase_28 : decode cX7_erase 28 = .ok (.aload_n 0, 1) := by decide +kernel
theorem dX7_erase_29 : decode cX7_erase 29 = .ok (.aload_n 0, 1) := by decide +kernel
theorem dX7_erase_30 : decode cX7_erase 30 = .ok (.getfield 53, 3) := by decide +kernel
theorem dX7_erase_33 : decode cX7_erase 33 = .ok (.iload_n 2, 1) := by decide +kernel
theorem dX7_erase_34 : decode cX7_erase 34 = .ok (.iaload, 1) := by decide +kernel
theorem dX7_erase_35 : decode cX7_erase 35 = .ok (.invokevirtual 168, 3) := by decide +kernel
theorem dX7_erase_38 : decode cX7_erase 38 = .ok (.aload_n 0, 1) := by decide +kernel
theorem dX7_erase_39 : decode cX7_erase 39 = .ok (.aload_n 0, 1) := by decide +kernel
theorem dX7_erase_40 : decode cX7_erase 40 = .ok (.getfield 56, 3) := by decide +kernel
theorem dX7_erase_43 : decode cX7_erase 43 = .ok (.iload_n 2, 1) := by decide +kernel
theorem dX7_erase_44 : decode cX7_erase 44 = .ok (.iaload, 1) := by decide +kernel
theorem dX7_erase_45 : decode cX7_erase 45 = .ok (.invokevirtual 168, 3) := by decide +kernel
theorem dX7_erase_48 : decode cX7_erase 48 = .ok (.iadd, 1) := by decide +kernel
theorem dX7_erase_49 : decode cX7_erase 49 = .ok (.istore_n 3, 1) := by decide +kernel
theorem dX7_erase_50 : decode cX7_erase 50 = .ok (.aload_n 0, 1) := by decide +kernel
theorem dX7_erase_51 : decode cX7_erase 51 = .ok (.dup, 1) := by decide +kernel
theorem dX7_erase_52 : decode cX7_erase 52 = .ok (.getfield 121, 3) := by decide +kernel
theorem dX7_erase_55 : decode cX7_erase 55 = .ok (.iconst 1, 1) := by decide +kernel
theorem dX7_erase_56 : decode cX7_erase 56 = .ok (.isub, 1) := by decide +kernel
theorem dX7_erase_57 : decode cX7_erase 57 = .ok (.putfield 121, 3) := by decide +kernel
theorem dX7_erase_60 : decode cX7_erase 60 = .ok (.iload_n 2, 1) := by decide +kernel
theorem dX7_erase_61 : decode cX7_erase 61 = .ok (.istore 4, 2) := by decide +kernel
theorem dX7_erase_63 : decode cX7_erase 63 = .ok (.iload 4, 2) := by decide +kernel
theorem dX7_erase_65 : decode cX7_erase 65 = .ok (.aload_n 0, 1) := by decide +kernel
theorem dX7_erase_66 : decode cX7_erase 66 = .ok (.getfield 121, 3) := by decide +kernel
theorem dX7_erase_69 : decode cX7_erase 69 = .ok (.if_icmp .ge 89, 3) := by decide +kernel
theorem dX7_erase_72 : decode cX7_erase 72 = .ok (.aload_n 0, 1) := by decide +kernel
theorem dX7_erase_73 : decode cX7_erase 73 = .ok (.getfield 44, 3) := by decide +kernel
theorem dX7_erase_76 : decode cX7_erase 76 = .ok (.iload 4, 2) := by decide +kernel
theorem dX7_erase_78 : decode cX7_erase 78 = .ok (.aload_n 0, 1) := by decide +kernel
theorem dX7_erase_79 : decode cX7_erase 79 = .ok (.getfield 44, 3) := by decide +kernel
theorem dX7_erase_82 : decode cX7_erase 82 = .ok (.iload 4, 2) := by decide +kernel
theorem dX7_erase_84 : decode cX7_erase 84 = .ok (.iconst 1, 1) := by decide +kernel
theorem dX7_erase_85 : decode cX7_erase 85 = .ok (.iadd, 1) := by decide +kernel
theorem dX7_erase_86 : decode cX7_erase 86 = .ok (.iaload, 1) := by decide +kernel
theorem dX7_erase_87 : decode cX7_erase 87 = .ok (.iastore, 1) := by decide +kernel
theorem dX7_erase_88 : decode cX7_erase 88 = .ok (.aload_n 0, 1) := by decide +kernel
theorem dX7_erase_89 : decode cX7_erase 89 = .ok (.getfield 47, 3) := by decide +kernel
theorem dX7_erase_92 : decode cX7_erase 92 = .ok (.iload 4, 2) := by decide +kernel
theorem dX7_erase_94 : decode cX7_erase 94 = .ok (.aload_n 0, 1) := by decide +kernel
theorem dX7_erase_95 : decode cX7_erase 95 = .ok (.getfield 47, 3) := by decide +kernel
theorem dX7_erase_98 : decode cX7_erase 98 = .ok (.iload 4, 2) := by decide +kernel
theorem dX7_erase_100 : decode cX7_erase 100 = .ok (.iconst 1, 1) := by decide +kernel
theorem dX7_erase_101 : decode cX7_erase 101 = .ok (.iadd, 1) := by decide +kernel
theorem dX7_erase_102 : decode cX7_erase 102 = .ok (.iaload, 1) := by decide +kernel
theorem dX7_erase_103 : decode cX7_erase 103 = .ok (.iastore, 1) := by decide +kernel
theorem dX7_erase_104 : decode cX7_erase 104 = .ok (.aload_n 0, 1) := by decide +kernel
theorem dX7_erase_105 : decode cX7_erase 105 = .ok (.getfield 50, 3) := by decide +kernel
theorem dX7_erase_108 : decode cX7_erase 108 = .ok (.iload 4, 2) := by decide +kernel
theorem dX7_erase_110 : decode cX7_erase 110 = .ok (.aload_n 0, 1) := by decide +kernel
theorem dX7_erase_111 : decode cX7_erase 111 = .ok (.getfield 50, 3) := by decide +kernel
theorem dX7_erase_114 : decode cX7_erase 114 = .ok (.iload 4, 2) := by decide +kernel
theorem dX7_erase_116 : decode cX7_erase 116 = .ok (.iconst 1, 1) := by decide +kernel
theorem dX7_erase_117 : decode cX7_erase 117 = .ok (.iadd, 1) := by decide +kernel
theorem dX7_erase_118 : decode cX7_erase 118 = .ok (.iaload, 1) := by decide +kernel
theorem dX7_erase_119 : decode cX7_erase 119 = .ok (.iastore, 1) := by decide +kernel
theorem dX7_erase_120 : decode cX7_erase 120 = .ok (.aload_n 0, 1) := by decide +kernel
theorem dX7_erase_121 : decode cX7_erase 121 = .ok (.getfield 53, 3) := by decide +kernel
theorem dX7_erase_124 : decode cX7_erase 124 = .ok (.iload 4, 2) := by decide +kernel
theorem dX7_erase_126 : decode cX7_erase 126 = .ok (.aload_n 0, 1) := by decide +kernel
theorem dX7_erase_127 : decode cX7_erase 127 = .ok (.getfield 53, 3) := by decide +kernel
theorem dX7_erase_130 : decode cX7_erase 130 = .ok (.iload 4, 2) := by decide +kernel
theorem dX7_erase_132 : decode cX7_erase 132 = .ok (.iconst 1, 1) := by decide +kernel
theorem dX7_erase_133 : decode cX7_erase 133 = .ok (.iadd, 1) := by decide +kernel
theorem dX7_erase_134 : decode cX7_erase 134 = .ok (.iaload, 1) := by decide +kernel
theorem dX7_erase_135 : decode cX7_erase 135 = .ok (.iastore, 1) := by decide +kernel
theorem dX7_erase_136 : decode cX7_erase 136 = .ok (.aload_n 0, 1) := by decide +kernel
theorem dX7_erase_137 : decode cX7_erase 137 = .ok (.getfield 56, 3) := by decide +kernel
theorem dX7_erase_140 : decode cX7_erase 140 = .ok (.iload 4, 2) := by decide +kernel
theorem dX7_erase_142 : decode cX7_erase 142 = .ok (.aload_n 0, 1) := by decide +kernel
theorem dX7_erase_143 : decode cX7_erase 143 = .ok (.getfield 56, 3) := by decide +kernel
theorem dX7_erase_146 : decode cX7_erase 146 = .ok (.iload 4, 2) := by decide +kernel
theorem dX7_erase_148 : decode cX7_erase 148 = .ok (.iconst 1, 1) := by decide +kernel
theorem dX7_erase_149 : decode cX7_erase 149 = .ok (.iadd, 1) := by decide +kernel
theorem dX7_erase_150 : decode cX7_erase 150 = .ok (.iaload, 1) := by decide +kernel
theorem dX7_erase_151 : decode cX7_erase 151 = .ok (.iastore, 1) := by decide +kernel
theorem dX7_erase_152 : decode cX7_erase 152 = .ok (.iinc 4 1, 3) := by decide +kernel
theorem dX7_erase_155 : decode cX7_erase 155 = .ok (.goto (-92), 3) := by decide +kernel
theorem dX7_erase_158 : decode cX7_erase 158 = .ok (.iload_n 3, 1) := by decide +kernel
theorem dX7_erase_159 : decode cX7_erase 159 = .ok (.ireturn, 1) := by decide +kernel
theorem dX7_find_0 : decode cX7_find 0 = .ok (.iconst (-1), 1) := by decide +kernel
theorem dX7_find_1 : decode cX7_find 1 = .ok (.istore_n 2, 1) := by decide +kernel
theorem dX7_find_2 : decode cX7_find 2 = .ok (.iconst 0, 1) := by decide +kernel
theorem dX7_find_3 : decode cX7_find 3 = .ok (.istore_n 3, 1) := by decide +kernel
theorem dX7_find_4 : decode cX7_find 4 = .ok (.iload_n 3, 1) := by decide +kernel
theorem dX7_find_5 : decode cX7_find 5 = .ok (.aload_n 0, 1) := by decide +kernel
theorem dX7_find_6 : decode cX7_find 6 = .ok (.getfield 121, 3) := by decide +kernel
theorem dX7_find_9 : decode cX7_find 9 = .ok (.if_icmp .ge 25, 3) := by decide +kernel
theorem dX7_find_12 : decode cX7_find 12 = .ok (.aload_n 0, 1) := by decide +kernel
theorem dX7_find_13 : decode cX7_find 13 = .ok (.getfield 44, 3) := by decide +kernel
theorem dX7_find_16 : decode cX7_find 16 = .ok (.iload_n 3, 1) := by decide +kernel
theorem dX7_find_17 : decode cX7_find 17 = .ok (.iaload, 1) := by decide +kernel
theorem dX7_find_18 : decode cX7_find 18 = .ok (.iload_n 1, 1) := by decide +kernel
theorem dX7_find_19 : decode cX7_find 19 = .ok (.if_icmp .ne 7, 3) := by decide +kernel
theorem dX7_find_22 : decode cX7_find 22 = .ok (.iload_n 3, 1) := by decide +kernel
theorem dX7_find_23 : decode cX7_find 23 = .ok (.goto 4, 3) := by decide +kernel
theorem dX7_find_26 : decode cX7_find 26 = .ok (.iload_n 2, 1) := by decide +kernel
theorem dX7_find_27 : decode cX7_find 27 = .ok (.istore_n 2, 1) := by decide +kernel
theorem dX7_find_28 : decode cX7_find 28 = .ok (.iinc 3 1, 3) := by decide +kernel
theorem dX7_find_31 : decode cX7_find 31 = .ok (.goto (-27), 3) := by decide +kernel
theorem dX7_find_34 : decode cX7_find 34 = .ok (.iload_n 2, 1) := by decide +kernel
theorem dX7_find_35 : decode cX7_find 35 = .ok (.ireturn, 1) := by decide +kernel
theorem dX7_forward_0 : decode cX7_forward 0 = .ok (.aload_n 0, 1) := by decide +kernel
theorem dX7_forward_1 : decode cX7_forward 1 = .ok (.iload_n 1, 1) := by decide +kernel
theorem dX7_forward_2 : decode cX7_forward 2 = .ok (.invokevirtual 174, 3) := by decide +kernel
theorem dX7_forward_5 : decode cX7_forward 5 = .ok (.istore_n 3, 1) := by decide +kernel
theorem dX7_forward_6 : decode cX7_forward 6 = .ok (.aload_n 0, 1) := by decide +kernel
theorem dX7_forward_7 : decode cX7_forward 7 = .ok (.iload_n 3, 1) := by decide +kernel
theorem dX7_forward_8 : decode cX7_forward 8 = .ok (.ifCond .lt 11, 3) := by decide +kernel
theorem dX7_forward_11 : decode cX7_forward 11 = .ok (.aload_n 0, 1) := by decide +kernel
theorem dX7_forward_12 : decode cX7_forward 12 = .ok (.iload_n 2, 1) := by decide +kernel
theorem dX7_forward_13 : decode cX7_forward 13 = .ok (.invokevirtual 131, 3) := by decide +kernel
theorem dX7_forward_16 : decode cX7_forward 16 = .ok (.ifCond .ne 7, 3) := by decide +kernel
theorem dX7_forward_19 : decode cX7_forward 19 = .ok (.iconst 1, 1) := by decide +kernel
theorem dX7_forward_20 : decode cX7_forward 20 = .ok (.goto 4, 3) := by decide +kernel
theorem dX7_forward_23 : decode cX7_forward 23 = .ok (.iconst 0, 1) := by decide +kernel
theorem dX7_forward_24 : decode cX7_forward 24 = .ok (.putfield 89, 3) := by decide +kernel
theorem dX7_forward_27 : decode cX7_forward 27 = .ok (.aload_n 0, 1) := by decide +kernel
theorem dX7_forward_28 : decode cX7_forward 28 = .ok (.getfield 89, 3) := by decide +kernel
theorem dX7_forward_31 : decode cX7_forward 31 = .ok (.ifCond .le 5, 3) := by decide +kernel
theorem dX7_forward_34 : decode cX7_forward 34 = .ok (.iconst 0, 1) := by decide +kernel
theorem dX7_forward_35 : decode cX7_forward 35 = .ok (.ireturn, 1) := by decide +kernel
theorem dX7_forward_36 : decode cX7_forward 36 = .ok (.aload_n 0, 1) := by decide +kernel
theorem dX7_forward_37 : decode cX7_forward 37 = .ok (.getfield 41, 3) := by decide +kernel
theorem dX7_forward_40 : decode cX7_forward 40 = .ok (.iconst 3, 1) := by decide +kernel
theorem dX7_forward_41 : decode cX7_forward 41 = .ok (.aload_n 0, 1) := by decide +kernel
theorem dX7_forward_42 : decode cX7_forward 42 = .ok (.getfield 47, 3) := by decide +kernel
theorem dX7_forward_45 : decode cX7_forward 45 = .ok (.iload_n 3, 1) := by decide +kernel
theorem dX7_forward_46 : decode cX7_forward 46 = .ok (.iaload, 1) := by decide +kernel
theorem dX7_forward_47 : decode cX7_forward 47 = .ok (.imul, 1) := by decide +kernel
theorem dX7_forward_48 : decode cX7_forward 48 = .ok (.iconst 2, 1) := by decide +kernel
theorem dX7_forward_49 : decode cX7_forward 49 = .ok (.iadd, 1) := by decide +kernel
theorem dX7_forward_50 : decode cX7_forward 50 = .ok (.iaload, 1) := by decide +kernel
theorem dX7_forward_51 : decode cX7_forward 51 = .ok (.istore 4, 2) := by decide +kernel
theorem dX7_forward_53 : decode cX7_forward 53 = .ok (.aload_n 0, 1) := by decide +kernel
theorem dX7_forward_54 : decode cX7_forward 54 = .ok (.aload_n 0, 1) := by decide +kernel
theorem dX7_forward_55 : decode cX7_forward 55 = .ok (.getfield 53, 3) := by decide +kernel
theorem dX7_forward_58 : decode cX7_forward 58 = .ok (.iload_n 3, 1) := by decide +kernel
theorem dX7_forward_59 : decode cX7_forward 59 = .ok (.iaload, 1) := by decide +kernel
theorem dX7_forward_60 : decode cX7_forward 60 = .ok (.invokevirtual 124, 3) := by decide +kernel
theorem dX7_forward_63 : decode cX7_forward 63 = .ok (.aload_n 0, 1) := by decide +kernel
theorem dX7_forward_64 : decode cX7_forward 64 = .ok (.iload 4, 2) := by decide +kernel
theorem dX7_forward_66 : decode cX7_forward 66 = .ok (.invokevirtual 124, 3) := by decide +kernel
theorem dX7_forward_69 : decode cX7_forward 69 = .ok (.iadd, 1) := by decide +kernel
theorem dX7_forward_70 : decode cX7_forward 70 = .ok (.istore 5, 2) := by decide +kernel
theorem dX7_forward_72 : decode cX7_forward 72 = .ok (.aload_n 0, 1) := by decide +kernel
theorem dX7_forward_73 : decode cX7_forward 73 = .ok (.invokevirtual 134, 3) := by decide +kernel
theorem dX7_forward_76 : decode cX7_forward 76 = .ok (.ifCond .ne 20, 3) := by decide +kernel
theorem dX7_forward_79 : decode cX7_forward 79 = .ok (.aload_n 0, 1) := by decide +kernel
theorem dX7_forward_80 : decode cX7_forward 80 = .ok (.iload_n 2, 1) := by decide +kernel
theorem dX7_forward_81 : decode cX7_forward 81 = .ok (.invokevirtual 138, 3) := by decide +kernel
theorem dX7_forward_84 : decode cX7_forward 84 = .ok (.iload 5, 2) := by decide +kernel
theorem dX7_forward_86 : decode cX7_forward 86 = .ok (.iadd, 1) := by decide +kernel
theorem dX7_forward_87 : decode cX7_forward 87 = .ok (.aload_n 0, 1) := by decide +kernel
theorem dX7_forward_88 : decode cX7_forward 88 = .ok (.getfield 38, 3) := by decide +kernel
theorem dX7_forward_91 : decode cX7_forward 91 = .ok (.iload_n 2, 1) := by decide +kernel
theorem dX7_forward_92 : decode cX7_forward 92 = .ok (.iaload, 1) := by decide +kernel
theorem dX7_forward_93 : decode cX7_forward 93 = .ok (.if_icmp .le 10, 3) := by decide +kernel
theorem dX7_forward_96 : decode cX7_forward 96 = .ok (.aload_n 0, 1) := by decide +kernel
theorem dX7_forward_97 : decode cX7_forward 97 = .ok (.iconst 2, 1) := by decide +kernel
theorem dX7_forward_98 : decode cX7_forward 98 = .ok (.putfield 89, 3) := by decide +kernel
theorem dX7_forward_101 : decode cX7_forward 101 = .ok (.iconst 0, 1) := by decide +kernel
theorem dX7_forward_102 : decode cX7_forward 102 = .ok (.ireturn, 1) := by decide +kernel
theorem dX7_forward_103 : decode cX7_forward 103 = .ok (.aload_n 0, 1) := by decide +kernel
theorem dX7_forward_104 : decode cX7_forward 104 = .ok (.getfield 25, 3) := by decide +kernel
theorem dX7_forward_107 : decode cX7_forward 107 = .ok (.aload_n 0, 1) := by decide +kernel
theorem dX7_forward_108 : decode cX7_forward 108 = .ok (.getfield 53, 3) := by decide +kernel
theorem dX7_forward_111 : decode cX7_forward 111 = .ok (.iload_n 3, 1) := by decide +kernel
theorem dX7_forward_112 : decode cX7_forward 112 = .ok (.iaload, 1) := by decide +kernel
theorem dX7_forward_113 : decode cX7_forward 113 = .ok (.dup2, 1) := by decide +kernel
theorem dX7_forward_114 : decode cX7_forward 114 = .ok (.iaload, 1) := by decide +kernel
theorem dX7_forward_115 : decode cX7_forward 115 = .ok (.iconst 1, 1) := by decide +kernel
theorem dX7_forward_116 : decode cX7_forward 116 = .ok (.iadd, 1) := by decide +kernel
theorem dX7_forward_117 : decode cX7_forward 117 = .ok (.iastore, 1) := by decide +kernel
theorem dX7_forward_118 : decode cX7_forward 118 = .ok (.iload 4, 2) := by decide +kernel
theorem dX7_forward_120 : decode cX7_forward 120 = .ok (.ifCond .lt 14, 3) := by decide +kernel
theorem dX7_forward_123 : decode cX7_forward 123 = .ok (.aload_n 0, 1) := by decide +kernel
theorem dX7_forward_124 : decode cX7_forward 124 = .ok (.getfield 25, 3) := by decide +kernel
theorem dX7_forward_127 : decode cX7_forward 127 = .ok (.iload 4, 2) := by decide +kernel
theorem dX7_forward_129 : decode cX7_forward 129 = .ok (.dup2, 1) := by decide +kernel
theorem dX7_forward_130 : decode cX7_forward 130 = .ok (.iaload, 1) := by decide +kernel
theorem dX7_forward_131 : decode cX7_forward 131 = .ok (.iconst 1, 1) := by decide +kernel
theorem dX7_forward_132 : decode cX7_forward 132 = .ok (.iadd, 1) := by decide +kernel
theorem dX7_forward_133 : decode cX7_forward 133 = .ok (.iastore, 1) := by decide +kernel
theorem dX7_forward_134 : decode cX7_forward 134 = .ok (.aload_n 0, 1) := by decide +kernel
theorem dX7_forward_135 : decode cX7_forward 135 = .ok (.iload_n 2, 1) := by decide +kernel
theorem dX7_forward_136 : decode cX7_forward 136 = .ok (.aload_n 0, 1) := by decide +kernel
theorem dX7_forward_137 : decode cX7_forward 137 = .ok (.getfield 53, 3) := by decide +kernel
theorem dX7_forward_140 : decode cX7_forward 140 = .ok (.iload_n 3, 1) := by decide +kernel
theorem dX7_forward_141 : decode cX7_forward 141 = .ok (.iaload, 1) := by decide +kernel
theorem dX7_forward_142 : decode cX7_forward 142 = .ok (.iload 4, 2) := by decide +kernel
theorem dX7_forward_144 : decode cX7_forward 144 = .ok (.invokevirtual 164, 3) := by decide +kernel
theorem dX7_forward_147 : decode cX7_forward 147 = .ok (.ireturn, 1) := by decide +kernel
theorem dX7_frame_0 : decode cX7_frame 0 = .ok (.iconst 1, 1) := by decide +kernel
theorem dX7_frame_1 : decode cX7_frame 1 = .ok (.istore_n 2, 1) := by decide +kernel
theorem dX7_frame_2 : decode cX7_frame 2 = .ok (.iconst 0, 1) := by decide +kernel
theorem dX7_frame_3 : decode cX7_frame 3 = .ok (.istore_n 3, 1) := by decide +kernel
theorem dX7_frame_4 : decode cX7_frame 4 = .ok (.iload_n 3, 1) := by decide +kernel
theorem dX7_frame_5 : decode cX7_frame 5 = .ok (.bipush 8, 2) := by decide +kernel
theorem dX7_frame_7 : decode cX7_frame 7 = .ok (.if_icmp .ge 46, 3) := by decide +kernel
theorem dX7_frame_10 : decode cX7_frame 10 = .ok (.aload_n 0, 1) := by decide +kernel
theorem dX7_frame_11 : decode cX7_frame 11 = .ok (.getfield 77, 3) := by decide +kernel
theorem dX7_frame_14 : decode cX7_frame 14 = .ok (.bipush 8, 2) := by decide +kernel
theorem dX7_frame_16 : decode cX7_frame 16 = .ok (.iload_n 1, 1) := by decide +kernel
theorem dX7_frame_17 : decode cX7_frame 17 = .ok (.imul, 1) := by decide +kernel
theorem dX7_frame_18 : decode cX7_frame 18 = .ok (.iload_n 3, 1) := by decide +kernel
theorem dX7_frame_19 : decode cX7_frame 19 = .ok (.iadd, 1) := by decide +kernel
theorem dX7_frame_20 : decode cX7_frame 20 = .ok (.iaload, 1) := by decide +kernel
theorem dX7_frame_21 : decode cX7_frame 21 = .ok (.istore 4, 2) := by decide +kernel
theorem dX7_frame_23 : decode cX7_frame 23 = .ok (.iload_n 2, 1) := by decide +kernel
theorem dX7_frame_24 : decode cX7_frame 24 = .ok (.ifCond .eq 21, 3) := by decide +kernel
theorem dX7_frame_27 : decode cX7_frame 27 = .ok (.iload 4, 2) := by decide +kernel
theorem dX7_frame_29 : decode cX7_frame 29 = .ok (.bipush (-48), 2) := by decide +kernel
theorem dX7_frame_31 : decode cX7_frame 31 = .ok (.if_icmp .lt 14, 3) := by decide +kernel
theorem dX7_frame_34 : decode cX7_frame 34 = .ok (.iload 4, 2) := by decide +kernel
theorem dX7_frame_36 : decode cX7_frame 36 = .ok (.bipush 48, 2) := by decide +kernel
theorem dX7_frame_38 : decode cX7_frame 38 = .ok (.if_icmp .gt 7, 3) := by decide +kernel
theorem dX7_frame_41 : decode cX7_frame 41 = .ok (.iconst 1, 1) := by decide +kernel
theorem dX7_frame_42 : decode cX7_frame 42 = .ok (.goto 4, 3) := by decide +kernel
theorem dX7_frame_45 : decode cX7_frame 45 = .ok (.iconst 0, 1) := by decide +kernel
theorem dX7_frame_46 : decode cX7_frame 46 = .ok (.istore_n 2, 1) := by decide +kernel
theorem dX7_frame_47 : decode cX7_frame 47 = .ok (.iinc 3 1, 3) := by decide +kernel
theorem dX7_frame_50 : decode cX7_frame 50 = .ok (.goto (-46), 3) := by decide +kernel
theorem dX7_frame_53 : decode cX7_frame 53 = .ok (.iload_n 2, 1) := by decide +kernel
theorem dX7_frame_54 : decode cX7_frame 54 = .ok (.ifCond .eq 21, 3) := by decide +kernel
theorem dX7_frame_57 : decode cX7_frame 57 = .ok (.aload_n 0, 1) := by decide +kernel
theorem dX7_frame_58 : decode cX7_frame 58 = .ok (.getfield 80, 3) := by decide +kernel
theorem dX7_frame_61 : decode cX7_frame 61 = .ok (.iload_n 1, 1) := by decide +kernel
theorem dX7_frame_62 : decode cX7_frame 62 = .ok (.iaload, 1) := by decide +kernel
theorem dX7_frame_63 : decode cX7_frame 63 = .ok (.iconst 2, 1) := by decide +kernel
theorem dX7_frame_64 : decode cX7_frame 64 = .ok (.if_icmp .lt 11, 3) := by decide +kernel
theorem dX7_frame_67 : decode cX7_frame 67 = .ok (.aload_n 0, 1) := by decide +kernel
theorem dX7_frame_68 : decode cX7_frame 68 = .ok (.iload_n 1, 1) := by decide +kernel
theorem dX7_frame_69 : decode cX7_frame 69 = .ok (.invokevirtual 155, 3) := by decide +kernel
theorem dX7_frame_72 : decode cX7_frame 72 = .ok (.goto 8, 3) := by decide +kernel
theorem dX7_frame_75 : decode cX7_frame 75 = .ok (.aload_n 0, 1) := by decide +kernel
theorem dX7_frame_76 : decode cX7_frame 76 = .ok (.iload_n 1, 1) := by decide +kernel
theorem dX7_frame_77 : decode cX7_frame 77 = .ok (.invokevirtual 158, 3) := by decide +kernel
theorem dX7_frame_80 : decode cX7_frame 80 = .ok (.aload_n 0, 1) := by decide +kernel
theorem dX7_frame_81 : decode cX7_frame 81 = .ok (.getfield 80, 3) := by decide +kernel
theorem dX7_frame_84 : decode cX7_frame 84 = .ok (.iload_n 1, 1) := by decide +kernel
theorem dX7_frame_85 : decode cX7_frame 85 = .ok (.iaload, 1) := by decide +kernel
theorem dX7_frame_86 : decode cX7_frame 86 = .ok (.iconst 3, 1) := by decide +kernel
theorem dX7_frame_87 : decode cX7_frame 87 = .ok (.if_icmp .ge 14, 3) := by decide +kernel
theorem dX7_frame_90 : decode cX7_frame 90 = .ok (.aload_n 0, 1) := by decide +kernel
theorem dX7_frame_91 : decode cX7_frame 91 = .ok (.getfield 80, 3) := by decide +kernel
theorem dX7_frame_94 : decode cX7_frame 94 = .ok (.iload_n 1, 1) := by decide +kernel
theorem dX7_frame_95 : decode cX7_frame 95 = .ok (.iaload, 1) := by decide +kernel
theorem dX7_frame_96 : decode cX7_frame 96 = .ok (.iconst 1, 1) := by decide +kernel
theorem dX7_frame_97 : decode cX7_frame 97 = .ok (.iadd, 1) := by decide +kernel
theorem dX7_frame_98 : decode cX7_frame 98 = .ok (.goto 4, 3) := by decide +kernel
theorem dX7_frame_101 : decode cX7_frame 101 = .ok (.iconst 3, 1) := by decide +kernel
theorem dX7_frame_102 : decode cX7_frame 102 = .ok (.istore_n 3, 1) := by decide +kernel
theorem dX7_frame_103 : decode cX7_frame 103 = .ok (.aload_n 0, 1) := by decide +kernel
theorem dX7_frame_104 : decode cX7_frame 104 = .ok (.getfield 80, 3) := by decide +kernel
theorem dX7_frame_107 : decode cX7_frame 107 = .ok (.iload_n 1, 1) := by decide +kernel
theorem dX7_frame_108 : decode cX7_frame 108 = .ok (.iload_n 2, 1) := by decide +kernel
theorem dX7_frame_109 : decode cX7_frame 109 = .ok (.ifCond .eq 7, 3) := by decide +kernel
theorem dX7_frame_112 : decode cX7_frame 112 = .ok (.iload_n 3, 1) := by decide +kernel
theorem dX7_frame_113 : decode cX7_frame 113 = .ok (.goto 4, 3) := by decide +kernel
theorem dX7_frame_116 : decode cX7_frame 116 = .ok (.iconst 0, 1) := by decide +kernel
theorem dX7_frame_117 : decode cX7_frame 117 = .ok (.iastore, 1) := by decide +kernel
theorem dX7_frame_118 : decode cX7_frame 118 = .ok (.aload_n 0, 1) := by decide +kernel
theorem dX7_frame_119 : decode cX7_frame 119 = .ok (.getfield 74, 3) := by decide +kernel
theorem dX7_frame_122 : decode cX7_frame 122 = .ok (.iload_n 1, 1) := by decide +kernel
theorem dX7_frame_123 : decode cX7_frame 123 = .ok (.iconst 0, 1) := by decide +kernel
theorem dX7_frame_124 : decode cX7_frame 124 = .ok (.iastore, 1) := by decide +kernel
theorem dX7_frame_125 : decode cX7_frame 125 = .ok (.return_, 1) := by decide +kernel
theorem dX7_frames_0 : decode cX7_frames 0 = .ok (.iconst 0, 1) := by decide +kernel
theorem dX7_frames_1 : decode cX7_frames 1 = .ok (.istore_n 2, 1) := by decide +kernel
theorem dX7_frames_2 : decode cX7_frames 2 = .ok (.iconst 0, 1) := by decide +kernel
theorem dX7_frames_3 : decode cX7_frames 3 = .ok (.istore_n 3, 1) := by decide +kernel
theorem dX7_frames_4 : decode cX7_frames 4 = .ok (.iload_n 1, 1) := by decide +kernel
theorem dX7_frames_5 : decode cX7_frames 5 = .ok (.ifCond .lt 46, 3) := by decide +kernel
theorem dX7_frames_8 : decode cX7_frames 8 = .ok (.iload_n 3, 1) := by decide +kernel
theorem dX7_frames_9 : decode cX7_frames 9 = .ok (.aload_n 0, 1) := by decide +kernel
theorem dX7_frames_10 : decode cX7_frames 10 = .ok (.getfield 35, 3) := by decide +kernel
theorem dX7_frames_13 : decode cX7_frames 13 = .ok (.iload_n 1, 1) := by decide +kernel
theorem dX7_frames_14 : decode cX7_frames 14 = .ok (.iaload, 1) := by decide +kernel
theorem dX7_frames_15 : decode cX7_frames 15 = .ok (.if_icmp .ge 36, 3) := by decide +kernel
theorem dX7_frames_18 : decode cX7_frames 18 = .ok (.aload_n 0, 1) := by decide +kernel
theorem dX7_frames_19 : decode cX7_frames 19 = .ok (.getfield 19, 3) := by decide +kernel
theorem dX7_frames_22 : decode cX7_frames 22 = .ok (.aload_n 0, 1) := by decide +kernel
theorem dX7_frames_23 : decode cX7_frames 23 = .ok (.iload_n 1, 1) := by decide +kernel
theorem dX7_frames_24 : decode cX7_frames 24 = .ok (.iload_n 3, 1) := by decide +kernel
theorem dX7_frames_25 : decode cX7_frames 25 = .ok (.invokevirtual 107, 3) := by decide +kernel
theorem dX7_frames_28 : decode cX7_frames 28 = .ok (.iaload, 1) := by decide +kernel
theorem dX7_frames_29 : decode cX7_frames 29 = .ok (.istore 4, 2) := by decide +kernel
theorem dX7_frames_31 : decode cX7_frames 31 = .ok (.iload_n 2, 1) := by decide +kernel
theorem dX7_frames_32 : decode cX7_frames 32 = .ok (.iload 4, 2) := by decide +kernel
theorem dX7_frames_34 : decode cX7_frames 34 = .ok (.ifCond .ne 7, 3) := by decide +kernel
theorem dX7_frames_37 : decode cX7_frames 37 = .ok (.iconst 1, 1) := by decide +kernel
theorem dX7_frames_38 : decode cX7_frames 38 = .ok (.goto 5, 3) := by decide +kernel
theorem dX7_frames_41 : decode cX7_frames 41 = .ok (.iload 4, 2) := by decide +kernel
theorem dX7_frames_43 : decode cX7_frames 43 = .ok (.iadd, 1) := by decide +kernel
theorem dX7_frames_44 : decode cX7_frames 44 = .ok (.istore_n 2, 1) := by decide +kernel
theorem dX7_frames_45 : decode cX7_frames 45 = .ok (.iinc 3 1, 3) := by decide +kernel
theorem dX7_frames_48 : decode cX7_frames 48 = .ok (.goto (-44), 3) := by decide +kernel
theorem dX7_frames_51 : decode cX7_frames 51 = .ok (.iload_n 2, 1) := by decide +kernel
theorem dX7_frames_52 : decode cX7_frames 52 = .ok (.ireturn, 1) := by decide +kernel
theorem dX7_freeBlock_0 : decode cX7_freeBlock 0 = .ok (.iconst (-1), 1) := by decide +kernel
theorem dX7_freeBlock_1 : decode cX7_freeBlock 1 = .ok (.istore_n 1, 1) := by decide +kernel
theorem dX7_freeBlock_2 : decode cX7_freeBlock 2 = .ok (.bipush 39, 2) := by decide +kernel
theorem dX7_freeBlock_4 : decode cX7_freeBlock 4 = .ok (.istore_n 2, 1) := by decide +kernel
theorem dX7_freeBlock_5 : decode cX7_freeBlock 5 = .ok (.iload_n 2, 1) := by decide +kernel
theorem dX7_freeBlock_6 : decode cX7_freeBlock 6 = .ok (.ifCond .lt 24, 3) := by decide +kernel
theorem dX7_freeBlock_9 : decode cX7_freeBlock 9 = .ok (.aload_n 0, 1) := by decide +kernel
theorem dX7_freeBlock_10 : decode cX7_freeBlock 10 = .ok (.getfield 13, 3) := by decide +kernel
theorem dX7_freeBlock_13 : decode cX7_freeBlock 13 = .ok (.iload_n 2, 1) := by decide +kernel
theorem dX7_freeBlock_14 : decode cX7_freeBlock 14 = .ok (.iaload, 1) := by decide +kernel
theorem dX7_freeBlock_15 : decode cX7_freeBlock 15 = .ok (.ifCond .ne 7, 3) := by decide +kernel
theorem dX7_freeBlock_18 : decode cX7_freeBlock 18 = .ok (.iload_n 2, 1) := by decide +kernel
theorem dX7_freeBlock_19 : decode cX7_freeBlock 19 = .ok (.goto 4, 3) := by decide +kernel
theorem dX7_freeBlock_22 : decode cX7_freeBlock 22 = .ok (.iload_n 1, 1) := by decide +kernel
theorem dX7_freeBlock_23 : decode cX7_freeBlock 23 = .ok (.istore_n 1, 1) := by decide +kernel
theorem dX7_freeBlock_24 : decode cX7_freeBlock 24 = .ok (.iinc 2 (-1), 3) := by decide +kernel
theorem dX7_freeBlock_27 : decode cX7_freeBlock 27 = .ok (.goto (-22), 3) := by decide +kernel
theorem dX7_freeBlock_30 : decode cX7_freeBlock 30 = .ok (.iload_n 1, 1) := by decide +kernel
theorem dX7_freeBlock_31 : decode cX7_freeBlock 31 = .ok (.ireturn, 1) := by decide +kernel
theorem dX7_greeting_0 : decode cX7_greeting 0 = .ok (.aload_n 0, 1) := by decide +kernel
theorem dX7_greeting_1 : decode cX7_greeting 1 = .ok (.aload_n 0, 1) := by decide +kernel
theorem dX7_greeting_2 : decode cX7_greeting 2 = .ok (.iload_n 1, 1) := by decide +kernel
theorem dX7_greeting_3 : decode cX7_greeting 3 = .ok (.invokevirtual 131, 3) := by decide +kernel
theorem dX7_greeting_6 : decode cX7_greeting 6 = .ok (.ifCond .ne 7, 3) := by decide +kernel
theorem dX7_greeting_9 : decode cX7_greeting 9 = .ok (.iconst 1, 1) := by decide +kernel
theorem dX7_greeting_10 : decode cX7_greeting 10 = .ok (.goto 17, 3) := by decide +kernel
theorem dX7_greeting_13 : decode cX7_greeting 13 = .ok (.iload_n 2, 1) := by decide +kernel
theorem dX7_greeting_14 : decode cX7_greeting 14 = .ok (.ifCond .lt 8, 3) := by decide +kernel
theorem dX7_greeting_17 : decode cX7_greeting 17 = .ok (.iload_n 2, 1) := by decide +kernel
theorem dX7_greeting_18 : decode cX7_greeting 18 = .ok (.iconst 2, 1) := by decide +kernel
theorem dX7_greeting_19 : decode cX7_greeting 19 = .ok (.if_icmp .le 7, 3) := by decide +kernel
theorem dX7_greeting_22 : decode cX7_greeting 22 = .ok (.iconst 2, 1) := by decide +kernel
theorem dX7_greeting_23 : decode cX7_greeting 23 = .ok (.goto 4, 3) := by decide +kernel
theorem dX7_greeting_26 : decode cX7_greeting 26 = .ok (.iconst 0, 1) := by decide +kernel
theorem dX7_greeting_27 : decode cX7_greeting 27 = .ok (.putfield 89, 3) := by decide +kernel
theorem dX7_greeting_30 : decode cX7_greeting 30 = .ok (.aload_n 0, 1) := by decide +kernel
theorem dX7_greeting_31 : decode cX7_greeting 31 = .ok (.getfield 89, 3) := by decide +kernel
theorem dX7_greeting_34 : decode cX7_greeting 34 = .ok (.ifCond .le 5, 3) := by decide +kernel
theorem dX7_greeting_37 : decode cX7_greeting 37 = .ok (.iconst 0, 1) := by decide +kernel
theorem dX7_greeting_38 : decode cX7_greeting 38 = .ok (.ireturn, 1) := by decide +kernel
theorem dX7_greeting_39 : decode cX7_greeting 39 = .ok (.aload_n 0, 1) := by decide +kernel
theorem dX7_greeting_40 : decode cX7_greeting 40 = .ok (.getfield 41, 3) := by decide +kernel
theorem dX7_greeting_43 : decode cX7_greeting 43 = .ok (.iconst 3, 1) := by decide +kernel
theorem dX7_greeting_44 : decode cX7_greeting 44 = .ok (.iload_n 1, 1) := by decide +kernel
theorem dX7_greeting_45 : decode cX7_greeting 45 = .ok (.imul, 1) := by decide +kernel
theorem dX7_greeting_46 : decode cX7_greeting 46 = .ok (.iload_n 2, 1) := by decide +kernel
theorem dX7_greeting_47 : decode cX7_greeting 47 = .ok (.iadd, 1) := by decide +kernel
theorem dX7_greeting_48 : decode cX7_greeting 48 = .ok (.iaload, 1) := by decide +kernel
theorem dX7_greeting_49 : decode cX7_greeting 49 = .ok (.istore 4, 2) := by decide +kernel
theorem dX7_greeting_51 : decode cX7_greeting 51 = .ok (.aload_n 0, 1) := by decide +kernel
theorem dX7_greeting_52 : decode cX7_greeting 52 = .ok (.iload_n 3, 1) := by decide +kernel
theorem dX7_greeting_53 : decode cX7_greeting 53 = .ok (.ifCond .lt 16, 3) := by decide +kernel
theorem dX7_greeting_56 : decode cX7_greeting 56 = .ok (.iload_n 3, 1) := by decide +kernel
theorem dX7_greeting_57 : decode cX7_greeting 57 = .ok (.bipush 8, 2) := by decide +kernel
theorem dX7_greeting_59 : decode cX7_greeting 59 = .ok (.aload_n 0, 1) := by decide +kernel
theorem dX7_greeting_60 : decode cX7_greeting 60 = .ok (.iload 4, 2) := by decide +kernel
theorem dX7_greeting_62 : decode cX7_greeting 62 = .ok (.invokevirtual 177, 3) := by decide +kernel
theorem dX7_greeting_65 : decode cX7_greeting 65 = .ok (.imul, 1) := by decide +kernel
theorem dX7_greeting_66 : decode cX7_greeting 66 = .ok (.if_icmp .lt 7, 3) := by decide +kernel
theorem dX7_greeting_69 : decode cX7_greeting 69 = .ok (.iconst 3, 1) := by decide +kernel
theorem dX7_greeting_70 : decode cX7_greeting 70 = .ok (.goto 4, 3) := by decide +kernel
theorem dX7_greeting_73 : decode cX7_greeting 73 = .ok (.iconst 0, 1) := by decide +kernel
theorem dX7_greeting_74 : decode cX7_greeting 74 = .ok (.putfield 89, 3) := by decide +kernel
theorem dX7_greeting_77 : decode cX7_greeting 77 = .ok (.aload_n 0, 1) := by decide +kernel
theorem dX7_greeting_78 : decode cX7_greeting 78 = .ok (.getfield 89, 3) := by decide +kernel
theorem dX7_greeting_81 : decode cX7_greeting 81 = .ok (.ifCond .le 7, 3) := by decide +kernel
theorem dX7_greeting_84 : decode cX7_greeting 84 = .ok (.iconst 0, 1) := by decide +kernel
theorem dX7_greeting_85 : decode cX7_greeting 85 = .ok (.goto 10, 3) := by decide +kernel
theorem dX7_greeting_88 : decode cX7_greeting 88 = .ok (.aload_n 0, 1) := by decide +kernel
theorem dX7_greeting_89 : decode cX7_greeting 89 = .ok (.iload 4, 2) := by decide +kernel
theorem dX7_greeting_91 : decode cX7_greeting 91 = .ok (.iload_n 3, 1) := by decide +kernel
theorem dX7_greeting_92 : decode cX7_greeting 92 = .ok (.invokevirtual 180, 3) := by decide +kernel
theorem dX7_greeting_95 : decode cX7_greeting 95 = .ok (.ireturn, 1) := by decide +kernel
theorem dX7_growGap_0 : decode cX7_growGap 0 = .ok (.aload_n 0, 1) := by decide +kernel
theorem dX7_growGap_1 : decode cX7_growGap 1 = .ok (.getfield 68, 3) := by decide +kernel
theorem dX7_growGap_4 : decode cX7_growGap 4 = .ok (.iload_n 1, 1) := by decide +kernel
theorem dX7_growGap_5 : decode cX7_growGap 5 = .ok (.iaload, 1) := by decide +kernel
theorem dX7_growGap_6 : decode cX7_growGap 6 = .ok (.istore_n 2, 1) := by decide +kernel
theorem dX7_growGap_7 : decode cX7_growGap 7 = .ok (.aload_n 0, 1) := by decide +kernel
theorem dX7_growGap_8 : decode cX7_growGap 8 = .ok (.getfield 80, 3) := by decide +kernel
theorem dX7_growGap_11 : decode cX7_growGap 11 = .ok (.iload_n 1, 1) := by decide +kernel
theorem dX7_growGap_12 : decode cX7_growGap 12 = .ok (.iaload, 1) := by decide +kernel
theorem dX7_growGap_13 : decode cX7_growGap 13 = .ok (.iconst 2, 1) := by decide +kernel
theorem dX7_growGap_14 : decode cX7_growGap 14 = .ok (.if_icmp .ne 7, 3) := by decide +kernel
theorem dX7_growGap_17 : decode cX7_growGap 17 = .ok (.iconst 1, 1) := by decide +kernel
theorem dX7_growGap_18 : decode cX7_growGap 18 = .ok (.goto 4, 3) := by decide +kernel
theorem dX7_growGap_21 : decode cX7_growGap 21 = .ok (.iconst 0, 1) := by decide +kernel
theorem dX7_growGap_22 : decode cX7_growGap 22 = .ok (.istore_n 3, 1) := by decide +kernel
theorem dX7_growGap_23 : decode cX7_growGap 23 = .ok (.aload_n 0, 1) := by decide +kernel
theorem dX7_growGap_24 : decode cX7_growGap 24 = .ok (.iload_n 2, 1) := by decide +kernel
theorem dX7_growGap_25 : decode cX7_growGap 25 = .ok (.aload_n 0, 1) := by decide +kernel
theorem dX7_growGap_26 : decode cX7_growGap 26 = .ok (.getfield 35, 3) := by decide +kernel
theorem dX7_growGap_29 : decode cX7_growGap 29 = .ok (.iload_n 2, 1) := by decide +kernel
theorem dX7_growGap_30 : decode cX7_growGap 30 = .ok (.iaload, 1) := by decide +kernel
theorem dX7_growGap_31 : decode cX7_growGap 31 = .ok (.iload_n 3, 1) := by decide +kernel
theorem dX7_growGap_32 : decode cX7_growGap 32 = .ok (.ifCond .eq 7, 3) := by decide +kernel
theorem dX7_growGap_35 : decode cX7_growGap 35 = .ok (.iconst 2, 1) := by decide +kernel
theorem dX7_growGap_36 : decode cX7_growGap 36 = .ok (.goto 4, 3) := by decide +kernel
theorem dX7_growGap_39 : decode cX7_growGap 39 = .ok (.iconst 1, 1) := by decide +kernel
theorem dX7_growGap_40 : decode cX7_growGap 40 = .ok (.isub, 1) := by decide +kernel
theorem dX7_growGap_41 : decode cX7_growGap 41 = .ok (.invokevirtual 107, 3) := by decide +kernel
theorem dX7_growGap_44 : decode cX7_growGap 44 = .ok (.istore 4, 2) := by decide +kernel
theorem dX7_growGap_46 : decode cX7_growGap 46 = .ok (.iload_n 3, 1) := by decide +kernel
theorem dX7_growGap_47 : decode cX7_growGap 47 = .ok (.ifCond .eq 7, 3) := by decide +kernel
theorem dX7_growGap_50 : decode cX7_growGap 50 = .ok (.iconst 3, 1) := by decide +kernel
theorem dX7_growGap_51 : decode cX7_growGap 51 = .ok (.goto 12, 3) := by decide +kernel
theorem dX7_growGap_54 : decode cX7_growGap 54 = .ok (.aload_n 0, 1) := by decide +kernel
theorem dX7_growGap_55 : decode cX7_growGap 55 = .ok (.getfield 19, 3) := by decide +kernel
theorem dX7_growGap_58 : decode cX7_growGap 58 = .ok (.iload 4, 2) := by decide +kernel
theorem dX7_growGap_60 : decode cX7_growGap 60 = .ok (.iaload, 1) := by decide +kernel
theorem dX7_growGap_61 : decode cX7_growGap 61 = .ok (.iconst 1, 1) := by decide +kernel
theorem dX7_growGap_62 : decode cX7_growGap 62 = .ok (.iadd, 1) := by decide +kernel
theorem dX7_growGap_63 : decode cX7_growGap 63 = .ok (.istore 5, 2) := by decide +kernel
theorem dX7_growGap_65 : decode cX7_growGap 65 = .ok (.aload_n 0, 1) := by decide +kernel
theorem dX7_growGap_66 : decode cX7_growGap 66 = .ok (.iload_n 1, 1) := by decide +kernel
theorem dX7_growGap_67 : decode cX7_growGap 67 = .ok (.iload_n 3, 1) := by decide +kernel
theorem dX7_growGap_68 : decode cX7_growGap 68 = .ok (.ifCond .eq 7, 3) := by decide +kernel
theorem dX7_growGap_71 : decode cX7_growGap 71 = .ok (.iconst (-1), 1) := by decide +kernel
theorem dX7_growGap_72 : decode cX7_growGap 72 = .ok (.goto 19, 3) := by decide +kernel
theorem dX7_growGap_75 : decode cX7_growGap 75 = .ok (.iload 5, 2) := by decide +kernel
theorem dX7_growGap_77 : decode cX7_growGap 77 = .ok (.invokestatic 115, 3) := by decide +kernel
theorem dX7_growGap_80 : decode cX7_growGap 80 = .ok (.aload_n 0, 1) := by decide +kernel
theorem dX7_growGap_81 : decode cX7_growGap 81 = .ok (.getfield 19, 3) := by decide +kernel
theorem dX7_growGap_84 : decode cX7_growGap 84 = .ok (.iload 4, 2) := by decide +kernel
theorem dX7_growGap_86 : decode cX7_growGap 86 = .ok (.iaload, 1) := by decide +kernel
theorem dX7_growGap_87 : decode cX7_growGap 87 = .ok (.invokestatic 115, 3) := by decide +kernel
theorem dX7_growGap_90 : decode cX7_growGap 90 = .ok (.isub, 1) := by decide +kernel
theorem dX7_growGap_91 : decode cX7_growGap 91 = .ok (.invokevirtual 141, 3) := by decide +kernel
theorem dX7_growGap_94 : decode cX7_growGap 94 = .ok (.ifCond .ne 11, 3) := by decide +kernel
theorem dX7_growGap_97 : decode cX7_growGap 97 = .ok (.aload_n 0, 1) := by decide +kernel
theorem dX7_growGap_98 : decode cX7_growGap 98 = .ok (.getfield 71, 3) := by decide +kernel
theorem dX7_growGap_101 : decode cX7_growGap 101 = .ok (.iload_n 1, 1) := by decide +kernel
theorem dX7_growGap_102 : decode cX7_growGap 102 = .ok (.iconst 1, 1) := by decide +kernel
theorem dX7_growGap_103 : decode cX7_growGap 103 = .ok (.bastore, 1) := by decide +kernel
theorem dX7_growGap_104 : decode cX7_growGap 104 = .ok (.return_, 1) := by decide +kernel
theorem dX7_growGap_105 : decode cX7_growGap 105 = .ok (.aload_n 0, 1) := by decide +kernel
theorem dX7_growGap_106 : decode cX7_growGap 106 = .ok (.getfield 19, 3) := by decide +kernel
theorem dX7_growGap_109 : decode cX7_growGap 109 = .ok (.iload 4, 2) := by decide +kernel
theorem dX7_growGap_111 : decode cX7_growGap 111 = .ok (.iload 5, 2) := by decide +kernel
theorem dX7_growGap_113 : decode cX7_growGap 113 = .ok (.iastore, 1) := by decide +kernel
theorem dX7_growGap_114 : decode cX7_growGap 114 = .ok (.iload_n 3, 1) := by decide +kernel
theorem dX7_growGap_115 : decode cX7_growGap 115 = .ok (.ifCond .eq 8, 3) := by decide +kernel
theorem dX7_growGap_118 : decode cX7_growGap 118 = .ok (.aload_n 0, 1) := by decide +kernel
theorem dX7_growGap_119 : decode cX7_growGap 119 = .ok (.iload_n 2, 1) := by decide +kernel
theorem dX7_growGap_120 : decode cX7_growGap 120 = .ok (.invokevirtual 152, 3) := by decide +kernel
theorem dX7_growGap_123 : decode cX7_growGap 123 = .ok (.aload_n 0, 1) := by decide +kernel
theorem dX7_growGap_124 : decode cX7_growGap 124 = .ok (.getfield 83, 3) := by decide +kernel
theorem dX7_growGap_127 : decode cX7_growGap 127 = .ok (.iload_n 1, 1) := by decide +kernel
theorem dX7_growGap_128 : decode cX7_growGap 128 = .ok (.iconst 0, 1) := by decide +kernel
theorem dX7_growGap_129 : decode cX7_growGap 129 = .ok (.iastore, 1) := by decide +kernel
theorem dX7_growGap_130 : decode cX7_growGap 130 = .ok (.aload_n 0, 1) := by decide +kernel
theorem dX7_growGap_131 : decode cX7_growGap 131 = .ok (.getfield 86, 3) := by decide +kernel
theorem dX7_growGap_134 : decode cX7_growGap 134 = .ok (.iload_n 1, 1) := by decide +kernel
theorem dX7_growGap_135 : decode cX7_growGap 135 = .ok (.iconst 0, 1) := by decide +kernel
theorem dX7_growGap_136 : decode cX7_growGap 136 = .ok (.iastore, 1) := by decide +kernel
theorem dX7_growGap_137 : decode cX7_growGap 137 = .ok (.return_, 1) := by decide +kernel
theorem dX7_hang_0 : decode cX7_hang 0 = .ok (.aload_n 0, 1) := by decide +kernel
theorem dX7_hang_1 : decode cX7_hang 1 = .ok (.iload_n 1, 1) := by decide +kernel
theorem dX7_hang_2 : decode cX7_hang 2 = .ok (.invokestatic 127, 3) := by decide +kernel
theorem dX7_hang_5 : decode cX7_hang 5 = .ok (.ifCond .ne 7, 3) := by decide +kernel
theorem dX7_hang_8 : decode cX7_hang 8 = .ok (.iconst 1, 1) := by decide +kernel
theorem dX7_hang_9 : decode cX7_hang 9 = .ok (.goto 17, 3) := by decide +kernel
theorem dX7_hang_12 : decode cX7_hang 12 = .ok (.aload_n 0, 1) := by decide +kernel
theorem dX7_hang_13 : decode cX7_hang 13 = .ok (.getfield 59, 3) := by decide +kernel
theorem dX7_hang_16 : decode cX7_hang 16 = .ok (.iload_n 1, 1) := by decide +kernel
theorem dX7_hang_17 : decode cX7_hang 17 = .ok (.baload, 1) := by decide +kernel
theorem dX7_hang_18 : decode cX7_hang 18 = .ok (.ifCond .ne 7, 3) := by decide +kernel
theorem dX7_hang_21 : decode cX7_hang 21 = .ok (.iconst 2, 1) := by decide +kernel
theorem dX7_hang_22 : decode cX7_hang 22 = .ok (.goto 4, 3) := by decide +kernel
theorem dX7_hang_25 : decode cX7_hang 25 = .ok (.iconst 0, 1) := by decide +kernel
theorem dX7_hang_26 : decode cX7_hang 26 = .ok (.putfield 89, 3) := by decide +kernel
theorem dX7_hang_29 : decode cX7_hang 29 = .ok (.aload_n 0, 1) := by decide +kernel
theorem dX7_hang_30 : decode cX7_hang 30 = .ok (.getfield 89, 3) := by decide +kernel
theorem dX7_hang_33 : decode cX7_hang 33 = .ok (.ifCond .le 5, 3) := by decide +kernel
theorem dX7_hang_36 : decode cX7_hang 36 = .ok (.iconst 0, 1) := by decide +kernel
theorem dX7_hang_37 : decode cX7_hang 37 = .ok (.ireturn, 1) := by decide +kernel
theorem dX7_hang_38 : decode cX7_hang 38 = .ok (.aload_n 0, 1) := by decide +kernel
theorem dX7_hang_39 : decode cX7_hang 39 = .ok (.getfield 74, 3) := by decide +kernel
theorem dX7_hang_42 : decode cX7_hang 42 = .ok (.iload_n 1, 1) := by decide +kernel
theorem dX7_hang_43 : decode cX7_hang 43 = .ok (.iaload, 1) := by decide +kernel
theorem dX7_hang_44 : decode cX7_hang 44 = .ok (.ifCond .le 39, 3) := by decide +kernel
theorem dX7_hang_47 : decode cX7_hang 47 = .ok (.aload_n 0, 1) := by decide +kernel
theorem dX7_hang_48 : decode cX7_hang 48 = .ok (.getfield 74, 3) := by decide +kernel
theorem dX7_hang_51 : decode cX7_hang 51 = .ok (.iload_n 1, 1) := by decide +kernel
theorem dX7_hang_52 : decode cX7_hang 52 = .ok (.iaload, 1) := by decide +kernel
theorem dX7_hang_53 : decode cX7_hang 53 = .ok (.istore_n 2, 1) := by decide +kernel
theorem dX7_hang_54 : decode cX7_hang 54 = .ok (.iload_n 2, 1) := by decide +kernel
theorem dX7_hang_55 : decode cX7_hang 55 = .ok (.bipush 8, 2) := by decide +kernel
theorem dX7_hang_57 : decode cX7_hang 57 = .ok (.if_icmp .ge 21, 3) := by decide +kernel
theorem dX7_hang_60 : decode cX7_hang 60 = .ok (.aload_n 0, 1) := by decide +kernel
theorem dX7_hang_61 : decode cX7_hang 61 = .ok (.getfield 77, 3) := by decide +kernel
theorem dX7_hang_64 : decode cX7_hang 64 = .ok (.bipush 8, 2) := by decide +kernel
theorem dX7_hang_66 : decode cX7_hang 66 = .ok (.iload_n 1, 1) := by decide +kernel
theorem dX7_hang_67 : decode cX7_hang 67 = .ok (.imul, 1) := by decide +kernel
theorem dX7_hang_68 : decode cX7_hang 68 = .ok (.iload_n 2, 1) := by decide +kernel
theorem dX7_hang_69 : decode cX7_hang 69 = .ok (.iadd, 1) := by decide +kernel
theorem dX7_hang_70 : decode cX7_hang 70 = .ok (.iconst 0, 1) := by decide +kernel
theorem dX7_hang_71 : decode cX7_hang 71 = .ok (.iastore, 1) := by decide +kernel
theorem dX7_hang_72 : decode cX7_hang 72 = .ok (.iinc 2 1, 3) := by decide +kernel
theorem dX7_hang_75 : decode cX7_hang 75 = .ok (.goto (-21), 3) := by decide +kernel
theorem dX7_hang_78 : decode cX7_hang 78 = .ok (.aload_n 0, 1) := by decide +kernel
theorem dX7_hang_79 : decode cX7_hang 79 = .ok (.iload_n 1, 1) := by decide +kernel
theorem dX7_hang_80 : decode cX7_hang 80 = .ok (.invokevirtual 161, 3) := by decide +kernel
theorem dX7_hang_83 : decode cX7_hang 83 = .ok (.aload_n 0, 1) := by decide +kernel
theorem dX7_hang_84 : decode cX7_hang 84 = .ok (.getfield 68, 3) := by decide +kernel
theorem dX7_hang_87 : decode cX7_hang 87 = .ok (.iload_n 1, 1) := by decide +kernel
theorem dX7_hang_88 : decode cX7_hang 88 = .ok (.iaload, 1) := by decide +kernel
theorem dX7_hang_89 : decode cX7_hang 89 = .ok (.istore_n 2, 1) := by decide +kernel
theorem dX7_hang_90 : decode cX7_hang 90 = .ok (.aload_n 0, 1) := by decide +kernel
theorem dX7_hang_91 : decode cX7_hang 91 = .ok (.getfield 59, 3) := by decide +kernel
theorem dX7_hang_94 : decode cX7_hang 94 = .ok (.iload_n 1, 1) := by decide +kernel
theorem dX7_hang_95 : decode cX7_hang 95 = .ok (.iconst 0, 1) := by decide +kernel
theorem dX7_hang_96 : decode cX7_hang 96 = .ok (.bastore, 1) := by decide +kernel
theorem dX7_hang_97 : decode cX7_hang 97 = .ok (.aload_n 0, 1) := by decide +kernel
theorem dX7_hang_98 : decode cX7_hang 98 = .ok (.getfield 28, 3) := by decide +kernel
theorem dX7_hang_101 : decode cX7_hang 101 = .ok (.iload_n 2, 1) := by decide +kernel
theorem dX7_hang_102 : decode cX7_hang 102 = .ok (.iconst 0, 1) := by decide +kernel
theorem dX7_hang_103 : decode cX7_hang 103 = .ok (.bastore, 1) := by decide +kernel
theorem dX7_hang_104 : decode cX7_hang 104 = .ok (.aload_n 0, 1) := by decide +kernel
theorem dX7_hang_105 : decode cX7_hang 105 = .ok (.getfield 35, 3) := by decide +kernel
theorem dX7_hang_108 : decode cX7_hang 108 = .ok (.iload_n 2, 1) := by decide +kernel
theorem dX7_hang_109 : decode cX7_hang 109 = .ok (.iaload, 1) := by decide +kernel
theorem dX7_hang_110 : decode cX7_hang 110 = .ok (.ifCond .ne 5, 3) := by decide +kernel
theorem dX7_hang_113 : decode cX7_hang 113 = .ok (.iconst (-1), 1) := by decide +kernel
theorem dX7_hang_114 : decode cX7_hang 114 = .ok (.ireturn, 1) := by decide +kernel
theorem dX7_hang_115 : decode cX7_hang 115 = .ok (.aload_n 0, 1) := by decide +kernel
theorem dX7_hang_116 : decode cX7_hang 116 = .ok (.getfield 25, 3) := by decide +kernel
theorem dX7_hang_119 : decode cX7_hang 119 = .ok (.iload_n 2, 1) := by decide +kernel
theorem dX7_hang_120 : decode cX7_hang 120 = .ok (.iconst 1, 1) := by decide +kernel
theorem dX7_hang_121 : decode cX7_hang 121 = .ok (.iastore, 1) := by decide +kernel
theorem dX7_hang_122 : decode cX7_hang 122 = .ok (.aload_n 0, 1) := by decide +kernel
theorem dX7_hang_123 : decode cX7_hang 123 = .ok (.getfield 65, 3) := by decide +kernel
theorem dX7_hang_126 : decode cX7_hang 126 = .ok (.iload_n 1, 1) := by decide +kernel
theorem dX7_hang_127 : decode cX7_hang 127 = .ok (.iaload, 1) := by decide +kernel
theorem dX7_hang_128 : decode cX7_hang 128 = .ok (.ifCond .ne 16, 3) := by decide +kernel
theorem dX7_hang_131 : decode cX7_hang 131 = .ok (.aload_n 0, 1) := by decide +kernel
theorem dX7_hang_132 : decode cX7_hang 132 = .ok (.aload_n 0, 1) := by decide +kernel
theorem dX7_hang_133 : decode cX7_hang 133 = .ok (.getfield 62, 3) := by decide +kernel
theorem dX7_hang_136 : decode cX7_hang 136 = .ok (.iload_n 1, 1) := by decide +kernel
theorem dX7_hang_137 : decode cX7_hang 137 = .ok (.iaload, 1) := by decide +kernel
theorem dX7_hang_138 : decode cX7_hang 138 = .ok (.iload_n 2, 1) := by decide +kernel
theorem dX7_hang_139 : decode cX7_hang 139 = .ok (.iconst (-1), 1) := by decide +kernel
theorem dX7_hang_140 : decode cX7_hang 140 = .ok (.invokevirtual 164, 3) := by decide +kernel
theorem dX7_hang_143 : decode cX7_hang 143 = .ok (.ireturn, 1) := by decide +kernel
theorem dX7_hang_144 : decode cX7_hang 144 = .ok (.iconst 3, 1) := by decide +kernel
theorem dX7_hang_145 : decode cX7_hang 145 = .ok (.aload_n 0, 1) := by decide +kernel
theorem dX7_hang_146 : decode cX7_hang 146 = .ok (.getfield 62, 3) := by decide +kernel
theorem dX7_hang_149 : decode cX7_hang 149 = .ok (.iload_n 1, 1) := by decide +kernel
theorem dX7_hang_150 : decode cX7_hang 150 = .ok (.iaload, 1) := by decide +kernel
theorem dX7_hang_151 : decode cX7_hang 151 = .ok (.imul, 1) := by decide +kernel
theorem dX7_hang_152 : decode cX7_hang 152 = .ok (.aload_n 0, 1) := by decide +kernel
theorem dX7_hang_153 : decode cX7_hang 153 = .ok (.getfield 65, 3) := by decide +kernel
theorem dX7_hang_156 : decode cX7_hang 156 = .ok (.iload_n 1, 1) := by decide +kernel
theorem dX7_hang_157 : decode cX7_hang 157 = .ok (.iaload, 1) := by decide +kernel
theorem dX7_hang_158 : decode cX7_hang 158 = .ok (.iadd, 1) := by decide +kernel
theorem dX7_hang_159 : decode cX7_hang 159 = .ok (.iconst 1, 1) := by decide +kernel
theorem dX7_hang_160 : decode cX7_hang 160 = .ok (.isub, 1) := by decide +kernel
theorem dX7_hang_161 : decode cX7_hang 161 = .ok (.istore_n 3, 1) := by decide +kernel
theorem dX7_hang_162 : decode cX7_hang 162 = .ok (.aload_n 0, 1) := by decide +kernel
theorem dX7_hang_163 : decode cX7_hang 163 = .ok (.aload_n 0, 1) := by decide +kernel
theorem dX7_hang_164 : decode cX7_hang 164 = .ok (.getfield 41, 3) := by decide +kernel
theorem dX7_hang_167 : decode cX7_hang 167 = .ok (.iload_n 3, 1) := by decide +kernel
theorem dX7_hang_168 : decode cX7_hang 168 = .ok (.iaload, 1) := by decide +kernel
theorem dX7_hang_169 : decode cX7_hang 169 = .ok (.invokevirtual 168, 3) := by decide +kernel
theorem dX7_hang_172 : decode cX7_hang 172 = .ok (.istore 4, 2) := by decide +kernel
theorem dX7_hang_174 : decode cX7_hang 174 = .ok (.aload_n 0, 1) := by decide +kernel
theorem dX7_hang_175 : decode cX7_hang 175 = .ok (.getfield 41, 3) := by decide +kernel
theorem dX7_hang_178 : decode cX7_hang 178 = .ok (.iload_n 3, 1) := by decide +kernel
theorem dX7_hang_179 : decode cX7_hang 179 = .ok (.iload_n 2, 1) := by decide +kernel
theorem dX7_hang_180 : decode cX7_hang 180 = .ok (.iastore, 1) := by decide +kernel
theorem dX7_hang_181 : decode cX7_hang 181 = .ok (.iconst 0, 1) := by decide +kernel
theorem dX7_hang_182 : decode cX7_hang 182 = .ok (.ireturn, 1) := by decide +kernel
theorem dX7_hear_0 : decode cX7_hear 0 = .ok (.aload_n 0, 1) := by decide +kernel
theorem dX7_hear_1 : decode cX7_hear 1 = .ok (.getfield 7, 3) := by decide +kernel
theorem dX7_hear_4 : decode cX7_hear 4 = .ok (.aload_n 0, 1) := by decide +kernel
theorem dX7_hear_5 : decode cX7_hear 5 = .ok (.getfield 93, 3) := by decide +kernel
theorem dX7_hear_8 : decode cX7_hear 8 = .ok (.iaload, 1) := by decide +kernel
theorem dX7_hear_9 : decode cX7_hear 9 = .ok (.istore_n 2, 1) := by decide +kernel
theorem dX7_hear_10 : decode cX7_hear 10 = .ok (.iload_n 2, 1) := by decide +kernel
theorem dX7_hear_11 : decode cX7_hear 11 = .ok (.bipush 8, 2) := by decide +kernel
theorem dX7_hear_13 : decode cX7_hear 13 = .ok (.idiv, 1) := by decide +kernel
theorem dX7_hear_14 : decode cX7_hear 14 = .ok (.istore_n 3, 1) := by decide +kernel
theorem dX7_hear_15 : decode cX7_hear 15 = .ok (.iload_n 3, 1) := by decide +kernel
theorem dX7_hear_16 : decode cX7_hear 16 = .ok (.iload_n 1, 1) := by decide +kernel
theorem dX7_hear_17 : decode cX7_hear 17 = .ok (.iconst 4, 1) := by decide +kernel
theorem dX7_hear_18 : decode cX7_hear 18 = .ok (.iand, 1) := by decide +kernel
theorem dX7_hear_19 : decode cX7_hear 19 = .ok (.ifCond .le 7, 3) := by decide +kernel
theorem dX7_hear_22 : decode cX7_hear 22 = .ok (.iload_n 2, 1) := by decide +kernel
theorem dX7_hear_23 : decode cX7_hear 23 = .ok (.goto 4, 3) := by decide +kernel
theorem dX7_hear_26 : decode cX7_hear 26 = .ok (.iconst 0, 1) := by decide +kernel
theorem dX7_hear_27 : decode cX7_hear 27 = .ok (.iadd, 1) := by decide +kernel
theorem dX7_hear_28 : decode cX7_hear 28 = .ok (.istore_n 3, 1) := by decide +kernel
theorem dX7_hear_29 : decode cX7_hear 29 = .ok (.iload_n 3, 1) := by decide +kernel
theorem dX7_hear_30 : decode cX7_hear 30 = .ok (.iload_n 1, 1) := by decide +kernel
theorem dX7_hear_31 : decode cX7_hear 31 = .ok (.iconst 2, 1) := by decide +kernel
theorem dX7_hear_32 : decode cX7_hear 32 = .ok (.iand, 1) := by decide +kernel
theorem dX7_hear_33 : decode cX7_hear 33 = .ok (.ifCond .le 9, 3) := by decide +kernel
theorem dX7_hear_36 : decode cX7_hear 36 = .ok (.iload_n 2, 1) := by decide +kernel
theorem dX7_hear_37 : decode cX7_hear 37 = .ok (.iconst 2, 1) := by decide +kernel
theorem dX7_hear_38 : decode cX7_hear 38 = .ok (.idiv, 1) := by decide +kernel
theorem dX7_hear_39 : decode cX7_hear 39 = .ok (.goto 4, 3) := by decide +kernel
theorem dX7_hear_42 : decode cX7_hear 42 = .ok (.iconst 0, 1) := by decide +kernel
theorem dX7_hear_43 : decode cX7_hear 43 = .ok (.iadd, 1) := by decide +kernel
theorem dX7_hear_44 : decode cX7_hear 44 = .ok (.istore_n 3, 1) := by decide +kernel
theorem dX7_hear_45 : decode cX7_hear 45 = .ok (.iload_n 3, 1) := by decide +kernel
theorem dX7_hear_46 : decode cX7_hear 46 = .ok (.iload_n 1, 1) := by decide +kernel
theorem dX7_hear_47 : decode cX7_hear 47 = .ok (.iconst 1, 1) := by decide +kernel
theorem dX7_hear_48 : decode cX7_hear 48 = .ok (.iand, 1) := by decide +kernel
theorem dX7_hear_49 : decode cX7_hear 49 = .ok (.ifCond .le 9, 3) := by decide +kernel
theorem dX7_hear_52 : decode cX7_hear 52 = .ok (.iload_n 2, 1) := by decide +kernel
theorem dX7_hear_53 : decode cX7_hear 53 = .ok (.iconst 4, 1) := by decide +kernel
theorem dX7_hear_54 : decode cX7_hear 54 = .ok (.idiv, 1) := by decide +kernel
theorem dX7_hear_55 : decode cX7_hear 55 = .ok (.goto 4, 3) := by decide +kernel
theorem dX7_hear_58 : decode cX7_hear 58 = .ok (.iconst 0, 1) := by decide +kernel
theorem dX7_hear_59 : decode cX7_hear 59 = .ok (.iadd, 1) := by decide +kernel
theorem dX7_hear_60 : decode cX7_hear 60 = .ok (.istore_n 3, 1) := by decide +kernel
theorem dX7_hear_61 : decode cX7_hear 61 = .ok (.iload_n 1, 1) := by decide +kernel
theorem dX7_hear_62 : decode cX7_hear 62 = .ok (.bipush 8, 2) := by decide +kernel
theorem dX7_hear_64 : decode cX7_hear 64 = .ok (.iand, 1) := by decide +kernel
theorem dX7_hear_65 : decode cX7_hear 65 = .ok (.ifCond .le 12, 3) := by decide +kernel
theorem dX7_hear_68 : decode cX7_hear 68 = .ok (.aload_n 0, 1) := by decide +kernel
theorem dX7_hear_69 : decode cX7_hear 69 = .ok (.getfield 96, 3) := by decide +kernel
theorem dX7_hear_72 : decode cX7_hear 72 = .ok (.iload_n 3, 1) := by decide +kernel
theorem dX7_hear_73 : decode cX7_hear 73 = .ok (.isub, 1) := by decide +kernel
theorem dX7_hear_74 : decode cX7_hear 74 = .ok (.goto 9, 3) := by decide +kernel
theorem dX7_hear_77 : decode cX7_hear 77 = .ok (.aload_n 0, 1) := by decide +kernel
theorem dX7_hear_78 : decode cX7_hear 78 = .ok (.getfield 96, 3) := by decide +kernel
theorem dX7_hear_81 : decode cX7_hear 81 = .ok (.iload_n 3, 1) := by decide +kernel
theorem dX7_hear_82 : decode cX7_hear 82 = .ok (.iadd, 1) := by decide +kernel
theorem dX7_hear_83 : decode cX7_hear 83 = .ok (.istore 4, 2) := by decide +kernel
theorem dX7_hear_85 : decode cX7_hear 85 = .ok (.aload_n 0, 1) := by decide +kernel
theorem dX7_hear_86 : decode cX7_hear 86 = .ok (.iload 4, 2) := by decide +kernel
theorem dX7_hear_88 : decode cX7_hear 88 = .ok (.sipush (-32768), 3) := by decide +kernel
theorem dX7_hear_91 : decode cX7_hear 91 = .ok (.if_icmp .ge 9, 3) := by decide +kernel
theorem dX7_hear_94 : decode cX7_hear 94 = .ok (.sipush (-32768), 3) := by decide +kernel
theorem dX7_hear_97 : decode cX7_hear 97 = .ok (.goto 19, 3) := by decide +kernel
theorem dX7_hear_100 : decode cX7_hear 100 = .ok (.iload 4, 2) := by decide +kernel
theorem dX7_hear_102 : decode cX7_hear 102 = .ok (.sipush 32767, 3) := by decide +kernel
theorem dX7_hear_105 : decode cX7_hear 105 = .ok (.if_icmp .le 9, 3) := by decide +kernel
theorem dX7_hear_108 : decode cX7_hear 108 = .ok (.sipush 32767, 3) := by decide +kernel
theorem dX7_hear_111 : decode cX7_hear 111 = .ok (.goto 5, 3) := by decide +kernel
theorem dX7_hear_114 : decode cX7_hear 114 = .ok (.iload 4, 2) := by decide +kernel
theorem dX7_hear_116 : decode cX7_hear 116 = .ok (.putfield 96, 3) := by decide +kernel
theorem dX7_hear_119 : decode cX7_hear 119 = .ok (.iload_n 1, 1) := by decide +kernel
theorem dX7_hear_120 : decode cX7_hear 120 = .ok (.bipush 7, 2) := by decide +kernel
theorem dX7_hear_122 : decode cX7_hear 122 = .ok (.iand, 1) := by decide +kernel
theorem dX7_hear_123 : decode cX7_hear 123 = .ok (.istore 5, 2) := by decide +kernel
theorem dX7_hear_125 : decode cX7_hear 125 = .ok (.iload 5, 2) := by decide +kernel
theorem dX7_hear_127 : decode cX7_hear 127 = .ok (.iconst 4, 1) := by decide +kernel
theorem dX7_hear_128 : decode cX7_hear 128 = .ok (.if_icmp .ge 12, 3) := by decide +kernel
theorem dX7_hear_131 : decode cX7_hear 131 = .ok (.aload_n 0, 1) := by decide +kernel
theorem dX7_hear_132 : decode cX7_hear 132 = .ok (.getfield 93, 3) := by decide +kernel
theorem dX7_hear_135 : decode cX7_hear 135 = .ok (.iconst 1, 1) := by decide +kernel
theorem dX7_hear_136 : decode cX7_hear 136 = .ok (.isub, 1) := by decide +kernel
theorem dX7_hear_137 : decode cX7_hear 137 = .ok (.goto 14, 3) := by decide +kernel
theorem dX7_hear_140 : decode cX7_hear 140 = .ok (.aload_n 0, 1) := by decide +kernel
theorem dX7_hear_141 : decode cX7_hear 141 = .ok (.getfield 93, 3) := by decide +kernel
theorem dX7_hear_144 : decode cX7_hear 144 = .ok (.iconst 2, 1) := by decide +kernel
theorem dX7_hear_145 : decode cX7_hear 145 = .ok (.iload 5, 2) := by decide +kernel
theorem dX7_hear_147 : decode cX7_hear 147 = .ok (.iconst 3, 1) := by decide +kernel
theorem dX7_hear_148 : decode cX7_hear 148 = .ok (.isub, 1) := by decide +kernel
theorem dX7_hear_149 : decode cX7_hear 149 = .ok (.imul, 1) := by decide +kernel
theorem dX7_hear_150 : decode cX7_hear 150 = .ok (.iadd, 1) := by decide +kernel
theorem dX7_hear_151 : decode cX7_hear 151 = .ok (.istore 6, 2) := by decide +kernel
theorem dX7_hear_153 : decode cX7_hear 153 = .ok (.aload_n 0, 1) := by decide +kernel
theorem dX7_hear_154 : decode cX7_hear 154 = .ok (.iload 6, 2) := by decide +kernel
theorem dX7_hear_156 : decode cX7_hear 156 = .ok (.ifCond .ge 7, 3) := by decide +kernel
theorem dX7_hear_159 : decode cX7_hear 159 = .ok (.iconst 0, 1) := by decide +kernel
theorem dX7_hear_160 : decode cX7_hear 160 = .ok (.goto 17, 3) := by decide +kernel
theorem dX7_hear_163 : decode cX7_hear 163 = .ok (.iload 6, 2) := by decide +kernel
theorem dX7_hear_165 : decode cX7_hear 165 = .ok (.bipush 48, 2) := by decide +kernel
theorem dX7_hear_167 : decode cX7_hear 167 = .ok (.if_icmp .le 8, 3) := by decide +kernel
theorem dX7_hear_170 : decode cX7_hear 170 = .ok (.bipush 48, 2) := by decide +kernel
theorem dX7_hear_172 : decode cX7_hear 172 = .ok (.goto 5, 3) := by decide +kernel
theorem dX7_hear_175 : decode cX7_hear 175 = .ok (.iload 6, 2) := by decide +kernel
theorem dX7_hear_177 : decode cX7_hear 177 = .ok (.putfield 93, 3) := by decide +kernel
theorem dX7_hear_180 : decode cX7_hear 180 = .ok (.return_, 1) := by decide +kernel
theorem dX7_isBox_0 : decode cX7_isBox 0 = .ok (.iload_n 1, 1) := by decide +kernel
theorem dX7_isBox_1 : decode cX7_isBox 1 = .ok (.ifCond .lt 15, 3) := by decide +kernel
theorem dX7_isBox_4 : decode cX7_isBox 4 = .ok (.iload_n 1, 1) := by decide +kernel
theorem dX7_isBox_5 : decode cX7_isBox 5 = .ok (.aload_n 0, 1) := by decide +kernel
theorem dX7_isBox_6 : decode cX7_isBox 6 = .ok (.getfield 118, 3) := by decide +kernel
theorem dX7_isBox_9 : decode cX7_isBox 9 = .ok (.if_icmp .ge 7, 3) := by decide +kernel
theorem dX7_isBox_12 : decode cX7_isBox 12 = .ok (.iconst 1, 1) := by decide +kernel
theorem dX7_isBox_13 : decode cX7_isBox 13 = .ok (.goto 4, 3) := by decide +kernel
theorem dX7_isBox_16 : decode cX7_isBox 16 = .ok (.iconst 0, 1) := by decide +kernel
theorem dX7_isBox_17 : decode cX7_isBox 17 = .ok (.ireturn, 1) := by decide +kernel
theorem dX7_isFull_0 : decode cX7_isFull 0 = .ok (.aload_n 0, 1) := by decide +kernel
theorem dX7_isFull_1 : decode cX7_isFull 1 = .ok (.getfield 121, 3) := by decide +kernel
theorem dX7_isFull_4 : decode cX7_isFull 4 = .ok (.istore_n 1, 1) := by decide +kernel
theorem dX7_isFull_5 : decode cX7_isFull 5 = .ok (.iconst 0, 1) := by decide +kernel
theorem dX7_isFull_6 : decode cX7_isFull 6 = .ok (.istore_n 2, 1) := by decide +kernel
theorem dX7_isFull_7 : decode cX7_isFull 7 = .ok (.iload_n 2, 1) := by decide +kernel
theorem dX7_isFull_8 : decode cX7_isFull 8 = .ok (.iconst 3, 1) := by decide +kernel
theorem dX7_isFull_9 : decode cX7_isFull 9 = .ok (.if_icmp .ge 35, 3) := by decide +kernel
theorem dX7_isFull_12 : decode cX7_isFull 12 = .ok (.aload_n 0, 1) := by decide +kernel
theorem dX7_isFull_13 : decode cX7_isFull 13 = .ok (.getfield 59, 3) := by decide +kernel
theorem dX7_isFull_16 : decode cX7_isFull 16 = .ok (.iload_n 2, 1) := by decide +kernel
theorem dX7_isFull_17 : decode cX7_isFull 17 = .ok (.baload, 1) := by decide +kernel
theorem dX7_isFull_18 : decode cX7_isFull 18 = .ok (.ifCond .eq 18, 3) := by decide +kernel
theorem dX7_isFull_21 : decode cX7_isFull 21 = .ok (.aload_n 0, 1) := by decide +kernel
theorem dX7_isFull_22 : decode cX7_isFull 22 = .ok (.getfield 65, 3) := by decide +kernel
theorem dX7_isFull_25 : decode cX7_isFull 25 = .ok (.iload_n 2, 1) := by decide +kernel
theorem dX7_isFull_26 : decode cX7_isFull 26 = .ok (.iaload, 1) := by decide +kernel
theorem dX7_isFull_27 : decode cX7_isFull 27 = .ok (.ifCond .ne 9, 3) := by decide +kernel
theorem dX7_isFull_30 : decode cX7_isFull 30 = .ok (.iload_n 1, 1) := by decide +kernel
theorem dX7_isFull_31 : decode cX7_isFull 31 = .ok (.iconst 1, 1) := by decide +kernel
theorem dX7_isFull_32 : decode cX7_isFull 32 = .ok (.iadd, 1) := by decide +kernel
theorem dX7_isFull_33 : decode cX7_isFull 33 = .ok (.goto 4, 3) := by decide +kernel
theorem dX7_isFull_36 : decode cX7_isFull 36 = .ok (.iload_n 1, 1) := by decide +kernel
theorem dX7_isFull_37 : decode cX7_isFull 37 = .ok (.istore_n 1, 1) := by decide +kernel
theorem dX7_isFull_38 : decode cX7_isFull 38 = .ok (.iinc 2 1, 3) := by decide +kernel
theorem dX7_isFull_41 : decode cX7_isFull 41 = .ok (.goto (-34), 3) := by decide +kernel
theorem dX7_isFull_44 : decode cX7_isFull 44 = .ok (.iload_n 1, 1) := by decide +kernel
theorem dX7_isFull_45 : decode cX7_isFull 45 = .ok (.bipush 16, 2) := by decide +kernel
theorem dX7_isFull_47 : decode cX7_isFull 47 = .ok (.if_icmp .lt 7, 3) := by decide +kernel
theorem dX7_isFull_50 : decode cX7_isFull 50 = .ok (.iconst 1, 1) := by decide +kernel
theorem dX7_isFull_51 : decode cX7_isFull 51 = .ok (.goto 4, 3) := by decide +kernel
theorem dX7_isFull_54 : decode cX7_isFull 54 = .ok (.iconst 0, 1) := by decide +kernel
theorem dX7_isFull_55 : decode cX7_isFull 55 = .ok (.ireturn, 1) := by decide +kernel
theorem dX7_isLine_0 : decode cX7_isLine 0 = .ok (.iload_n 0, 1) := by decide +kernel
theorem dX7_isLine_1 : decode cX7_isLine 1 = .ok (.ifCond .lt 12, 3) := by decide +kernel
theorem dX7_isLine_4 : decode cX7_isLine 4 = .ok (.iload_n 0, 1) := by decide +kernel
theorem dX7_isLine_5 : decode cX7_isLine 5 = .ok (.iconst 3, 1) := by decide +kernel
theorem dX7_isLine_6 : decode cX7_isLine 6 = .ok (.if_icmp .ge 7, 3) := by decide +kernel
theorem dX7_isLine_9 : decode cX7_isLine 9 = .ok (.iconst 1, 1) := by decide +kernel
theorem dX7_isLine_10 : decode cX7_isLine 10 = .ok (.goto 4, 3) := by decide +kernel
theorem dX7_isLine_13 : decode cX7_isLine 13 = .ok (.iconst 0, 1) := by decide +kernel
theorem dX7_isLine_14 : decode cX7_isLine 14 = .ok (.ireturn, 1) := by decide +kernel
theorem dX7_isPaid_0 : decode cX7_isPaid 0 = .ok (.aload_n 0, 1) := by decide +kernel
theorem dX7_isPaid_1 : decode cX7_isPaid 1 = .ok (.getfield 65, 3) := by decide +kernel
theorem dX7_isPaid_4 : decode cX7_isPaid 4 = .ok (.iload_n 1, 1) := by decide +kernel
theorem dX7_isPaid_5 : decode cX7_isPaid 5 = .ok (.iaload, 1) := by decide +kernel
theorem dX7_isPaid_6 : decode cX7_isPaid 6 = .ok (.ifCond .gt 29, 3) := by decide +kernel
theorem dX7_isPaid_9 : decode cX7_isPaid 9 = .ok (.aload_n 0, 1) := by decide +kernel
theorem dX7_isPaid_10 : decode cX7_isPaid 10 = .ok (.aload_n 0, 1) := by decide +kernel
theorem dX7_isPaid_11 : decode cX7_isPaid 11 = .ok (.getfield 62, 3) := by decide +kernel
theorem dX7_isPaid_14 : decode cX7_isPaid 14 = .ok (.iload_n 1, 1) := by decide +kernel
theorem dX7_isPaid_15 : decode cX7_isPaid 15 = .ok (.iaload, 1) := by decide +kernel
theorem dX7_isPaid_16 : decode cX7_isPaid 16 = .ok (.invokevirtual 138, 3) := by decide +kernel
theorem dX7_isPaid_19 : decode cX7_isPaid 19 = .ok (.iload_n 2, 1) := by decide +kernel
theorem dX7_isPaid_20 : decode cX7_isPaid 20 = .ok (.iadd, 1) := by decide +kernel
theorem dX7_isPaid_21 : decode cX7_isPaid 21 = .ok (.aload_n 0, 1) := by decide +kernel
theorem dX7_isPaid_22 : decode cX7_isPaid 22 = .ok (.getfield 38, 3) := by decide +kernel
theorem dX7_isPaid_25 : decode cX7_isPaid 25 = .ok (.aload_n 0, 1) := by decide +kernel
theorem dX7_isPaid_26 : decode cX7_isPaid 26 = .ok (.getfield 62, 3) := by decide +kernel
theorem dX7_isPaid_29 : decode cX7_isPaid 29 = .ok (.iload_n 1, 1) := by decide +kernel
theorem dX7_isPaid_30 : decode cX7_isPaid 30 = .ok (.iaload, 1) := by decide +kernel
theorem dX7_isPaid_31 : decode cX7_isPaid 31 = .ok (.iaload, 1) := by decide +kernel
theorem dX7_isPaid_32 : decode cX7_isPaid 32 = .ok (.if_icmp .gt 7, 3) := by decide +kernel
theorem dX7_isPaid_35 : decode cX7_isPaid 35 = .ok (.iconst 1, 1) := by decide +kernel
theorem dX7_isPaid_36 : decode cX7_isPaid 36 = .ok (.goto 4, 3) := by decide +kernel
theorem dX7_isPaid_39 : decode cX7_isPaid 39 = .ok (.iconst 0, 1) := by decide +kernel
theorem dX7_isPaid_40 : decode cX7_isPaid 40 = .ok (.ireturn, 1) := by decide +kernel
theorem dX7_lastBlock_0 : decode cX7_lastBlock 0 = .ok (.iconst (-1), 1) := by decide +kernel
theorem dX7_lastBlock_1 : decode cX7_lastBlock 1 = .ok (.istore_n 1, 1) := by decide +kernel
theorem dX7_lastBlock_2 : decode cX7_lastBlock 2 = .ok (.iconst 0, 1) := by decide +kernel
theorem dX7_lastBlock_3 : decode cX7_lastBlock 3 = .ok (.istore_n 2, 1) := by decide +kernel
theorem dX7_lastBlock_4 : decode cX7_lastBlock 4 = .ok (.iload_n 2, 1) := by decide +kernel
theorem dX7_lastBlock_5 : decode cX7_lastBlock 5 = .ok (.bipush 40, 2) := by decide +kernel
theorem dX7_lastBlock_7 : decode cX7_lastBlock 7 = .ok (.if_icmp .ge 24, 3) := by decide +kernel
theorem dX7_lastBlock_10 : decode cX7_lastBlock 10 = .ok (.aload_n 0, 1) := by decide +kernel
theorem dX7_lastBlock_11 : decode cX7_lastBlock 11 = .ok (.getfield 13, 3) := by decide +kernel
theorem dX7_lastBlock_14 : decode cX7_lastBlock 14 = .ok (.iload_n 2, 1) := by decide +kernel
theorem dX7_lastBlock_15 : decode cX7_lastBlock 15 = .ok (.iaload, 1) := by decide +kernel
theorem dX7_lastBlock_16 : decode cX7_lastBlock 16 = .ok (.ifCond .le 7, 3) := by decide +kernel
theorem dX7_lastBlock_19 : decode cX7_lastBlock 19 = .ok (.iload_n 2, 1) := by decide +kernel
theorem dX7_lastBlock_20 : decode cX7_lastBlock 20 = .ok (.goto 4, 3) := by decide +kernel
theorem dX7_lastBlock_23 : decode cX7_lastBlock 23 = .ok (.iload_n 1, 1) := by decide +kernel
theorem dX7_lastBlock_24 : decode cX7_lastBlock 24 = .ok (.istore_n 1, 1) := by decide +kernel
theorem dX7_lastBlock_25 : decode cX7_lastBlock 25 = .ok (.iinc 2 1, 3) := by decide +kernel
theorem dX7_lastBlock_28 : decode cX7_lastBlock 28 = .ok (.goto (-24), 3) := by decide +kernel
theorem dX7_lastBlock_31 : decode cX7_lastBlock 31 = .ok (.iload_n 1, 1) := by decide +kernel
theorem dX7_lastBlock_32 : decode cX7_lastBlock 32 = .ok (.ireturn, 1) := by decide +kernel
theorem dX7_length_0 : decode cX7_length 0 = .ok (.aload_n 0, 1) := by decide +kernel
theorem dX7_length_1 : decode cX7_length 1 = .ok (.aload_n 0, 1) := by decide +kernel
theorem dX7_length_2 : decode cX7_length 2 = .ok (.iload_n 1, 1) := by decide +kernel
theorem dX7_length_3 : decode cX7_length 3 = .ok (.invokevirtual 131, 3) := by decide +kernel
theorem dX7_length_6 : decode cX7_length 6 = .ok (.ifCond .ne 7, 3) := by decide +kernel
theorem dX7_length_9 : decode cX7_length 9 = .ok (.iconst 1, 1) := by decide +kernel
theorem dX7_length_10 : decode cX7_length 10 = .ok (.goto 17, 3) := by decide +kernel
theorem dX7_length_13 : decode cX7_length 13 = .ok (.iload_n 2, 1) := by decide +kernel
theorem dX7_length_14 : decode cX7_length 14 = .ok (.ifCond .lt 8, 3) := by decide +kernel
theorem dX7_length_17 : decode cX7_length 17 = .ok (.iload_n 2, 1) := by decide +kernel
theorem dX7_length_18 : decode cX7_length 18 = .ok (.iconst 2, 1) := by decide +kernel
theorem dX7_length_19 : decode cX7_length 19 = .ok (.if_icmp .le 7, 3) := by decide +kernel
theorem dX7_length_22 : decode cX7_length 22 = .ok (.iconst 2, 1) := by decide +kernel
theorem dX7_length_23 : decode cX7_length 23 = .ok (.goto 4, 3) := by decide +kernel
theorem dX7_length_26 : decode cX7_length 26 = .ok (.iconst 0, 1) := by decide +kernel
theorem dX7_length_27 : decode cX7_length 27 = .ok (.putfield 89, 3) := by decide +kernel
theorem dX7_length_30 : decode cX7_length 30 = .ok (.aload_n 0, 1) := by decide +kernel
theorem dX7_length_31 : decode cX7_length 31 = .ok (.getfield 89, 3) := by decide +kernel
theorem dX7_length_34 : decode cX7_length 34 = .ok (.ifCond .le 7, 3) := by decide +kernel
theorem dX7_length_37 : decode cX7_length 37 = .ok (.iconst 0, 1) := by decide +kernel
theorem dX7_length_38 : decode cX7_length 38 = .ok (.goto 20, 3) := by decide +kernel
theorem dX7_length_41 : decode cX7_length 41 = .ok (.bipush 8, 2) := by decide +kernel
theorem dX7_length_43 : decode cX7_length 43 = .ok (.aload_n 0, 1) := by decide +kernel
theorem dX7_length_44 : decode cX7_length 44 = .ok (.aload_n 0, 1) := by decide +kernel
theorem dX7_length_45 : decode cX7_length 45 = .ok (.getfield 41, 3) := by decide +kernel
theorem dX7_length_48 : decode cX7_length 48 = .ok (.iconst 3, 1) := by decide +kernel
theorem dX7_length_49 : decode cX7_length 49 = .ok (.iload_n 1, 1) := by decide +kernel
theorem dX7_length_50 : decode cX7_length 50 = .ok (.imul, 1) := by decide +kernel
theorem dX7_length_51 : decode cX7_length 51 = .ok (.iload_n 2, 1) := by decide +kernel
theorem dX7_length_52 : decode cX7_length 52 = .ok (.iadd, 1) := by decide +kernel
theorem dX7_length_53 : decode cX7_length 53 = .ok (.iaload, 1) := by decide +kernel
theorem dX7_length_54 : decode cX7_length 54 = .ok (.invokevirtual 177, 3) := by decide +kernel
theorem dX7_length_57 : decode cX7_length 57 = .ok (.imul, 1) := by decide +kernel
theorem dX7_length_58 : decode cX7_length 58 = .ok (.ireturn, 1) := by decide +kernel
theorem dX7_letGo_0 : decode cX7_letGo 0 = .ok (.iload_n 1, 1) := by decide +kernel
theorem dX7_letGo_1 : decode cX7_letGo 1 = .ok (.ifCond .ge 5, 3) := by decide +kernel
theorem dX7_letGo_4 : decode cX7_letGo 4 = .ok (.iconst 0, 1) := by decide +kernel
theorem dX7_letGo_5 : decode cX7_letGo 5 = .ok (.ireturn, 1) := by decide +kernel
theorem dX7_letGo_6 : decode cX7_letGo 6 = .ok (.aload_n 0, 1) := by decide +kernel
theorem dX7_letGo_7 : decode cX7_letGo 7 = .ok (.getfield 25, 3) := by decide +kernel
theorem dX7_letGo_10 : decode cX7_letGo 10 = .ok (.iload_n 1, 1) := by decide +kernel
theorem dX7_letGo_11 : decode cX7_letGo 11 = .ok (.dup2, 1) := by decide +kernel
theorem dX7_letGo_12 : decode cX7_letGo 12 = .ok (.iaload, 1) := by decide +kernel
theorem dX7_letGo_13 : decode cX7_letGo 13 = .ok (.iconst 1, 1) := by decide +kernel
theorem dX7_letGo_14 : decode cX7_letGo 14 = .ok (.isub, 1) := by decide +kernel
theorem dX7_letGo_15 : decode cX7_letGo 15 = .ok (.iastore, 1) := by decide +kernel
theorem dX7_letGo_16 : decode cX7_letGo 16 = .ok (.aload_n 0, 1) := by decide +kernel
theorem dX7_letGo_17 : decode cX7_letGo 17 = .ok (.getfield 25, 3) := by decide +kernel
theorem dX7_letGo_20 : decode cX7_letGo 20 = .ok (.iload_n 1, 1) := by decide +kernel
theorem dX7_letGo_21 : decode cX7_letGo 21 = .ok (.iaload, 1) := by decide +kernel
theorem dX7_letGo_22 : decode cX7_letGo 22 = .ok (.ifCond .ne 11, 3) := by decide +kernel
theorem dX7_letGo_25 : decode cX7_letGo 25 = .ok (.aload_n 0, 1) := by decide +kernel
theorem dX7_letGo_26 : decode cX7_letGo 26 = .ok (.iload_n 1, 1) := by decide +kernel
theorem dX7_letGo_27 : decode cX7_letGo 27 = .ok (.invokevirtual 111, 3) := by decide +kernel
theorem dX7_letGo_30 : decode cX7_letGo 30 = .ok (.goto 4, 3) := by decide +kernel
theorem dX7_letGo_33 : decode cX7_letGo 33 = .ok (.iconst 0, 1) := by decide +kernel
theorem dX7_letGo_34 : decode cX7_letGo 34 = .ok (.ireturn, 1) := by decide +kernel
theorem dX7_mark_0 : decode cX7_mark 0 = .ok (.aload_n 0, 1) := by decide +kernel
theorem dX7_mark_1 : decode cX7_mark 1 = .ok (.iload_n 1, 1) := by decide +kernel
theorem dX7_mark_2 : decode cX7_mark 2 = .ok (.invokevirtual 174, 3) := by decide +kernel
theorem dX7_mark_5 : decode cX7_mark 5 = .ok (.istore_n 3, 1) := by decide +kernel
theorem dX7_mark_6 : decode cX7_mark 6 = .ok (.aload_n 0, 1) := by decide +kernel
theorem dX7_mark_7 : decode cX7_mark 7 = .ok (.iload_n 3, 1) := by decide +kernel
theorem dX7_mark_8 : decode cX7_mark 8 = .ok (.ifCond .ge 7, 3) := by decide +kernel
theorem dX7_mark_11 : decode cX7_mark 11 = .ok (.iconst 1, 1) := by decide +kernel
theorem dX7_mark_12 : decode cX7_mark 12 = .ok (.goto 17, 3) := by decide +kernel
theorem dX7_mark_15 : decode cX7_mark 15 = .ok (.iload_n 2, 1) := by decide +kernel
theorem dX7_mark_16 : decode cX7_mark 16 = .ok (.ifCond .lt 8, 3) := by decide +kernel
theorem dX7_mark_19 : decode cX7_mark 19 = .ok (.iload_n 2, 1) := by decide +kernel
theorem dX7_mark_20 : decode cX7_mark 20 = .ok (.iconst 2, 1) := by decide +kernel
theorem dX7_mark_21 : decode cX7_mark 21 = .ok (.if_icmp .le 7, 3) := by decide +kernel
theorem dX7_mark_24 : decode cX7_mark 24 = .ok (.iconst 2, 1) := by decide +kernel
theorem dX7_mark_25 : decode cX7_mark 25 = .ok (.goto 4, 3) := by decide +kernel
theorem dX7_mark_28 : decode cX7_mark 28 = .ok (.iconst 0, 1) := by decide +kernel
theorem dX7_mark_29 : decode cX7_mark 29 = .ok (.putfield 89, 3) := by decide +kernel
theorem dX7_mark_32 : decode cX7_mark 32 = .ok (.aload_n 0, 1) := by decide +kernel
theorem dX7_mark_33 : decode cX7_mark 33 = .ok (.getfield 89, 3) := by decide +kernel
theorem dX7_mark_36 : decode cX7_mark 36 = .ok (.ifCond .le 5, 3) := by decide +kernel
theorem dX7_mark_39 : decode cX7_mark 39 = .ok (.iconst 0, 1) := by decide +kernel
theorem dX7_mark_40 : decode cX7_mark 40 = .ok (.ireturn, 1) := by decide +kernel
theorem dX7_mark_41 : decode cX7_mark 41 = .ok (.aload_n 0, 1) := by decide +kernel
theorem dX7_mark_42 : decode cX7_mark 42 = .ok (.getfield 50, 3) := by decide +kernel
theorem dX7_mark_45 : decode cX7_mark 45 = .ok (.iload_n 3, 1) := by decide +kernel
theorem dX7_mark_46 : decode cX7_mark 46 = .ok (.iaload, 1) := by decide +kernel
theorem dX7_mark_47 : decode cX7_mark 47 = .ok (.istore 4, 2) := by decide +kernel
theorem dX7_mark_49 : decode cX7_mark 49 = .ok (.aload_n 0, 1) := by decide +kernel
theorem dX7_mark_50 : decode cX7_mark 50 = .ok (.getfield 50, 3) := by decide +kernel
theorem dX7_mark_53 : decode cX7_mark 53 = .ok (.iload_n 3, 1) := by decide +kernel
theorem dX7_mark_54 : decode cX7_mark 54 = .ok (.iload_n 2, 1) := by decide +kernel
theorem dX7_mark_55 : decode cX7_mark 55 = .ok (.iastore, 1) := by decide +kernel
theorem dX7_mark_56 : decode cX7_mark 56 = .ok (.iload 4, 2) := by decide +kernel
theorem dX7_mark_58 : decode cX7_mark 58 = .ok (.ireturn, 1) := by decide +kernel
theorem dX7_moveBlock_0 : decode cX7_moveBlock 0 = .ok (.aload_n 0, 1) := by decide +kernel
theorem dX7_moveBlock_1 : decode cX7_moveBlock 1 = .ok (.getfield 13, 3) := by decide +kernel
theorem dX7_moveBlock_4 : decode cX7_moveBlock 4 = .ok (.iload_n 2, 1) := by decide +kernel
theorem dX7_moveBlock_5 : decode cX7_moveBlock 5 = .ok (.aload_n 0, 1) := by decide +kernel
theorem dX7_moveBlock_6 : decode cX7_moveBlock 6 = .ok (.getfield 13, 3) := by decide +kernel
theorem dX7_moveBlock_9 : decode cX7_moveBlock 9 = .ok (.iload_n 1, 1) := by decide +kernel
theorem dX7_moveBlock_10 : decode cX7_moveBlock 10 = .ok (.iaload, 1) := by decide +kernel
theorem dX7_moveBlock_11 : decode cX7_moveBlock 11 = .ok (.iastore, 1) := by decide +kernel
theorem dX7_moveBlock_12 : decode cX7_moveBlock 12 = .ok (.aload_n 0, 1) := by decide +kernel
theorem dX7_moveBlock_13 : decode cX7_moveBlock 13 = .ok (.getfield 16, 3) := by decide +kernel
theorem dX7_moveBlock_16 : decode cX7_moveBlock 16 = .ok (.iload_n 2, 1) := by decide +kernel
theorem dX7_moveBlock_17 : decode cX7_moveBlock 17 = .ok (.aload_n 0, 1) := by decide +kernel
theorem dX7_moveBlock_18 : decode cX7_moveBlock 18 = .ok (.getfield 16, 3) := by decide +kernel
theorem dX7_moveBlock_21 : decode cX7_moveBlock 21 = .ok (.iload_n 1, 1) := by decide +kernel
theorem dX7_moveBlock_22 : decode cX7_moveBlock 22 = .ok (.iaload, 1) := by decide +kernel
theorem dX7_moveBlock_23 : decode cX7_moveBlock 23 = .ok (.iastore, 1) := by decide +kernel
theorem dX7_moveBlock_24 : decode cX7_moveBlock 24 = .ok (.aload_n 0, 1) := by decide +kernel
theorem dX7_moveBlock_25 : decode cX7_moveBlock 25 = .ok (.getfield 13, 3) := by decide +kernel
theorem dX7_moveBlock_28 : decode cX7_moveBlock 28 = .ok (.iload_n 1, 1) := by decide +kernel
theorem dX7_moveBlock_29 : decode cX7_moveBlock 29 = .ok (.iconst 0, 1) := by decide +kernel
theorem dX7_moveBlock_30 : decode cX7_moveBlock 30 = .ok (.iastore, 1) := by decide +kernel
theorem dX7_moveBlock_31 : decode cX7_moveBlock 31 = .ok (.iconst 0, 1) := by decide +kernel
theorem dX7_moveBlock_32 : decode cX7_moveBlock 32 = .ok (.istore_n 3, 1) := by decide +kernel
theorem dX7_moveBlock_33 : decode cX7_moveBlock 33 = .ok (.iload_n 3, 1) := by decide +kernel
theorem dX7_moveBlock_34 : decode cX7_moveBlock 34 = .ok (.iconst 4, 1) := by decide +kernel
theorem dX7_moveBlock_35 : decode cX7_moveBlock 35 = .ok (.if_icmp .ge 49, 3) := by decide +kernel
theorem dX7_moveBlock_38 : decode cX7_moveBlock 38 = .ok (.aload_n 0, 1) := by decide +kernel
theorem dX7_moveBlock_39 : decode cX7_moveBlock 39 = .ok (.getfield 19, 3) := by decide +kernel
theorem dX7_moveBlock_42 : decode cX7_moveBlock 42 = .ok (.iconst 4, 1) := by decide +kernel
theorem dX7_moveBlock_43 : decode cX7_moveBlock 43 = .ok (.iload_n 2, 1) := by decide +kernel
theorem dX7_moveBlock_44 : decode cX7_moveBlock 44 = .ok (.imul, 1) := by decide +kernel
theorem dX7_moveBlock_45 : decode cX7_moveBlock 45 = .ok (.iload_n 3, 1) := by decide +kernel
theorem dX7_moveBlock_46 : decode cX7_moveBlock 46 = .ok (.iadd, 1) := by decide +kernel
theorem dX7_moveBlock_47 : decode cX7_moveBlock 47 = .ok (.aload_n 0, 1) := by decide +kernel
theorem dX7_moveBlock_48 : decode cX7_moveBlock 48 = .ok (.getfield 19, 3) := by decide +kernel
theorem dX7_moveBlock_51 : decode cX7_moveBlock 51 = .ok (.iconst 4, 1) := by decide +kernel
theorem dX7_moveBlock_52 : decode cX7_moveBlock 52 = .ok (.iload_n 1, 1) := by decide +kernel
theorem dX7_moveBlock_53 : decode cX7_moveBlock 53 = .ok (.imul, 1) := by decide +kernel
theorem dX7_moveBlock_54 : decode cX7_moveBlock 54 = .ok (.iload_n 3, 1) := by decide +kernel
theorem dX7_moveBlock_55 : decode cX7_moveBlock 55 = .ok (.iadd, 1) := by decide +kernel
theorem dX7_moveBlock_56 : decode cX7_moveBlock 56 = .ok (.iaload, 1) := by decide +kernel
theorem dX7_moveBlock_57 : decode cX7_moveBlock 57 = .ok (.iastore, 1) := by decide +kernel
theorem dX7_moveBlock_58 : decode cX7_moveBlock 58 = .ok (.aload_n 0, 1) := by decide +kernel
theorem dX7_moveBlock_59 : decode cX7_moveBlock 59 = .ok (.getfield 22, 3) := by decide +kernel
theorem dX7_moveBlock_62 : decode cX7_moveBlock 62 = .ok (.iconst 4, 1) := by decide +kernel
theorem dX7_moveBlock_63 : decode cX7_moveBlock 63 = .ok (.iload_n 2, 1) := by decide +kernel
theorem dX7_moveBlock_64 : decode cX7_moveBlock 64 = .ok (.imul, 1) := by decide +kernel
theorem dX7_moveBlock_65 : decode cX7_moveBlock 65 = .ok (.iload_n 3, 1) := by decide +kernel
theorem dX7_moveBlock_66 : decode cX7_moveBlock 66 = .ok (.iadd, 1) := by decide +kernel
theorem dX7_moveBlock_67 : decode cX7_moveBlock 67 = .ok (.aload_n 0, 1) := by decide +kernel
theorem dX7_moveBlock_68 : decode cX7_moveBlock 68 = .ok (.getfield 22, 3) := by decide +kernel
theorem dX7_moveBlock_71 : decode cX7_moveBlock 71 = .ok (.iconst 4, 1) := by decide +kernel
theorem dX7_moveBlock_72 : decode cX7_moveBlock 72 = .ok (.iload_n 1, 1) := by decide +kernel
theorem dX7_moveBlock_73 : decode cX7_moveBlock 73 = .ok (.imul, 1) := by decide +kernel
theorem dX7_moveBlock_74 : decode cX7_moveBlock 74 = .ok (.iload_n 3, 1) := by decide +kernel
theorem dX7_moveBlock_75 : decode cX7_moveBlock 75 = .ok (.iadd, 1) := by decide +kernel
theorem dX7_moveBlock_76 : decode cX7_moveBlock 76 = .ok (.iaload, 1) := by decide +kernel
theorem dX7_moveBlock_77 : decode cX7_moveBlock 77 = .ok (.iastore, 1) := by decide +kernel
theorem dX7_moveBlock_78 : decode cX7_moveBlock 78 = .ok (.iinc 3 1, 3) := by decide +kernel
theorem dX7_moveBlock_81 : decode cX7_moveBlock 81 = .ok (.goto (-48), 3) := by decide +kernel
theorem dX7_moveBlock_84 : decode cX7_moveBlock 84 = .ok (.iconst 0, 1) := by decide +kernel
theorem dX7_moveBlock_85 : decode cX7_moveBlock 85 = .ok (.istore_n 3, 1) := by decide +kernel
theorem dX7_moveBlock_86 : decode cX7_moveBlock 86 = .ok (.iload_n 3, 1) := by decide +kernel
theorem dX7_moveBlock_87 : decode cX7_moveBlock 87 = .ok (.bipush 40, 2) := by decide +kernel
theorem dX7_moveBlock_89 : decode cX7_moveBlock 89 = .ok (.if_icmp .ge 44, 3) := by decide +kernel
theorem dX7_moveBlock_92 : decode cX7_moveBlock 92 = .ok (.aload_n 0, 1) := by decide +kernel
theorem dX7_moveBlock_93 : decode cX7_moveBlock 93 = .ok (.getfield 16, 3) := by decide +kernel
theorem dX7_moveBlock_96 : decode cX7_moveBlock 96 = .ok (.iload_n 3, 1) := by decide +kernel
theorem dX7_moveBlock_97 : decode cX7_moveBlock 97 = .ok (.aload_n 0, 1) := by decide +kernel
theorem dX7_moveBlock_98 : decode cX7_moveBlock 98 = .ok (.getfield 13, 3) := by decide +kernel
theorem dX7_moveBlock_101 : decode cX7_moveBlock 101 = .ok (.iload_n 3, 1) := by decide +kernel
theorem dX7_moveBlock_102 : decode cX7_moveBlock 102 = .ok (.iaload, 1) := by decide +kernel
theorem dX7_moveBlock_103 : decode cX7_moveBlock 103 = .ok (.ifCond .le 17, 3) := by decide +kernel
theorem dX7_moveBlock_106 : decode cX7_moveBlock 106 = .ok (.aload_n 0, 1) := by decide +kernel
theorem dX7_moveBlock_107 : decode cX7_moveBlock 107 = .ok (.getfield 16, 3) := by decide +kernel
theorem dX7_moveBlock_110 : decode cX7_moveBlock 110 = .ok (.iload_n 3, 1) := by decide +kernel
theorem dX7_moveBlock_111 : decode cX7_moveBlock 111 = .ok (.iaload, 1) := by decide +kernel
theorem dX7_moveBlock_112 : decode cX7_moveBlock 112 = .ok (.iload_n 1, 1) := by decide +kernel
theorem dX7_moveBlock_113 : decode cX7_moveBlock 113 = .ok (.if_icmp .ne 7, 3) := by decide +kernel
theorem dX7_moveBlock_116 : decode cX7_moveBlock 116 = .ok (.iload_n 2, 1) := by decide +kernel
theorem dX7_moveBlock_117 : decode cX7_moveBlock 117 = .ok (.goto 9, 3) := by decide +kernel
theorem dX7_moveBlock_120 : decode cX7_moveBlock 120 = .ok (.aload_n 0, 1) := by decide +kernel
theorem dX7_moveBlock_121 : decode cX7_moveBlock 121 = .ok (.getfield 16, 3) := by decide +kernel
theorem dX7_moveBlock_124 : decode cX7_moveBlock 124 = .ok (.iload_n 3, 1) := by decide +kernel
theorem dX7_moveBlock_125 : decode cX7_moveBlock 125 = .ok (.iaload, 1) := by decide +kernel
theorem dX7_moveBlock_126 : decode cX7_moveBlock 126 = .ok (.iastore, 1) := by decide +kernel
theorem dX7_moveBlock_127 : decode cX7_moveBlock 127 = .ok (.iinc 3 1, 3) := by decide +kernel
theorem dX7_moveBlock_130 : decode cX7_moveBlock 130 = .ok (.goto (-44), 3) := by decide +kernel
theorem dX7_moveBlock_133 : decode cX7_moveBlock 133 = .ok (.iconst 0, 1) := by decide +kernel
theorem dX7_moveBlock_134 : decode cX7_moveBlock 134 = .ok (.istore_n 3, 1) := by decide +kernel
theorem dX7_moveBlock_135 : decode cX7_moveBlock 135 = .ok (.iload_n 3, 1) := by decide +kernel
theorem dX7_moveBlock_136 : decode cX7_moveBlock 136 = .ok (.bipush 48, 2) := by decide +kernel
theorem dX7_moveBlock_138 : decode cX7_moveBlock 138 = .ok (.if_icmp .ge 44, 3) := by decide +kernel
theorem dX7_moveBlock_141 : decode cX7_moveBlock 141 = .ok (.aload_n 0, 1) := by decide +kernel
theorem dX7_moveBlock_142 : decode cX7_moveBlock 142 = .ok (.getfield 32, 3) := by decide +kernel
theorem dX7_moveBlock_145 : decode cX7_moveBlock 145 = .ok (.iload_n 3, 1) := by decide +kernel
theorem dX7_moveBlock_146 : decode cX7_moveBlock 146 = .ok (.aload_n 0, 1) := by decide +kernel
theorem dX7_moveBlock_147 : decode cX7_moveBlock 147 = .ok (.getfield 35, 3) := by decide +kernel
theorem dX7_moveBlock_150 : decode cX7_moveBlock 150 = .ok (.iload_n 3, 1) := by decide +kernel
theorem dX7_moveBlock_151 : decode cX7_moveBlock 151 = .ok (.iaload, 1) := by decide +kernel
theorem dX7_moveBlock_152 : decode cX7_moveBlock 152 = .ok (.ifCond .le 17, 3) := by decide +kernel
theorem dX7_moveBlock_155 : decode cX7_moveBlock 155 = .ok (.aload_n 0, 1) := by decide +kernel
theorem dX7_moveBlock_156 : decode cX7_moveBlock 156 = .ok (.getfield 32, 3) := by decide +kernel
theorem dX7_moveBlock_159 : decode cX7_moveBlock 159 = .ok (.iload_n 3, 1) := by decide +kernel
theorem dX7_moveBlock_160 : decode cX7_moveBlock 160 = .ok (.iaload, 1) := by decide +kernel
theorem dX7_moveBlock_161 : decode cX7_moveBlock 161 = .ok (.iload_n 1, 1) := by decide +kernel
theorem dX7_moveBlock_162 : decode cX7_moveBlock 162 = .ok (.if_icmp .ne 7, 3) := by decide +kernel
theorem dX7_moveBlock_165 : decode cX7_moveBlock 165 = .ok (.iload_n 2, 1) := by decide +kernel
theorem dX7_moveBlock_166 : decode cX7_moveBlock 166 = .ok (.goto 9, 3) := by decide +kernel
theorem dX7_moveBlock_169 : decode cX7_moveBlock 169 = .ok (.aload_n 0, 1) := by decide +kernel
theorem dX7_moveBlock_170 : decode cX7_moveBlock 170 = .ok (.getfield 32, 3) := by decide +kernel
theorem dX7_moveBlock_173 : decode cX7_moveBlock 173 = .ok (.iload_n 3, 1) := by decide +kernel
theorem dX7_moveBlock_174 : decode cX7_moveBlock 174 = .ok (.iaload, 1) := by decide +kernel
theorem dX7_moveBlock_175 : decode cX7_moveBlock 175 = .ok (.iastore, 1) := by decide +kernel
theorem dX7_moveBlock_176 : decode cX7_moveBlock 176 = .ok (.iinc 3 1, 3) := by decide +kernel
theorem dX7_moveBlock_179 : decode cX7_moveBlock 179 = .ok (.goto (-44), 3) := by decide +kernel
theorem dX7_moveBlock_182 : decode cX7_moveBlock 182 = .ok (.return_, 1) := by decide +kernel
theorem dX7_next_0 : decode cX7_next 0 = .ok (.aload_n 0, 1) := by decide +kernel
theorem dX7_next_1 : decode cX7_next 1 = .ok (.aload_n 0, 1) := by decide +kernel
theorem dX7_next_2 : decode cX7_next 2 = .ok (.iload_n 1, 1) := by decide +kernel
theorem dX7_next_3 : decode cX7_next 3 = .ok (.invokevirtual 131, 3) := by decide +kernel
theorem dX7_next_6 : decode cX7_next 6 = .ok (.ifCond .ne 7, 3) := by decide +kernel
theorem dX7_next_9 : decode cX7_next 9 = .ok (.iconst 1, 1) := by decide +kernel
theorem dX7_next_10 : decode cX7_next 10 = .ok (.goto 17, 3) := by decide +kernel
theorem dX7_next_13 : decode cX7_next 13 = .ok (.iload_n 2, 1) := by decide +kernel
theorem dX7_next_14 : decode cX7_next 14 = .ok (.ifCond .lt 8, 3) := by decide +kernel
theorem dX7_next_17 : decode cX7_next 17 = .ok (.iload_n 2, 1) := by decide +kernel
theorem dX7_next_18 : decode cX7_next 18 = .ok (.iconst 2, 1) := by decide +kernel
theorem dX7_next_19 : decode cX7_next 19 = .ok (.if_icmp .le 7, 3) := by decide +kernel
theorem dX7_next_22 : decode cX7_next 22 = .ok (.iconst 2, 1) := by decide +kernel
theorem dX7_next_23 : decode cX7_next 23 = .ok (.goto 4, 3) := by decide +kernel
theorem dX7_next_26 : decode cX7_next 26 = .ok (.iconst 0, 1) := by decide +kernel
theorem dX7_next_27 : decode cX7_next 27 = .ok (.putfield 89, 3) := by decide +kernel
theorem dX7_next_30 : decode cX7_next 30 = .ok (.aload_n 0, 1) := by decide +kernel
theorem dX7_next_31 : decode cX7_next 31 = .ok (.getfield 89, 3) := by decide +kernel
theorem dX7_next_34 : decode cX7_next 34 = .ok (.ifCond .le 5, 3) := by decide +kernel
theorem dX7_next_37 : decode cX7_next 37 = .ok (.iconst 0, 1) := by decide +kernel
theorem dX7_next_38 : decode cX7_next 38 = .ok (.ireturn, 1) := by decide +kernel
theorem dX7_next_39 : decode cX7_next 39 = .ok (.iconst 0, 1) := by decide +kernel
theorem dX7_next_40 : decode cX7_next 40 = .ok (.istore 4, 2) := by decide +kernel
theorem dX7_next_42 : decode cX7_next 42 = .ok (.iconst 0, 1) := by decide +kernel
theorem dX7_next_43 : decode cX7_next 43 = .ok (.istore 5, 2) := by decide +kernel
theorem dX7_next_45 : decode cX7_next 45 = .ok (.iload 5, 2) := by decide +kernel
theorem dX7_next_47 : decode cX7_next 47 = .ok (.aload_n 0, 1) := by decide +kernel
theorem dX7_next_48 : decode cX7_next 48 = .ok (.getfield 121, 3) := by decide +kernel
theorem dX7_next_51 : decode cX7_next 51 = .ok (.if_icmp .ge 48, 3) := by decide +kernel
theorem dX7_next_54 : decode cX7_next 54 = .ok (.aload_n 0, 1) := by decide +kernel
theorem dX7_next_55 : decode cX7_next 55 = .ok (.getfield 47, 3) := by decide +kernel
theorem dX7_next_58 : decode cX7_next 58 = .ok (.iload 5, 2) := by decide +kernel
theorem dX7_next_60 : decode cX7_next 60 = .ok (.iaload, 1) := by decide +kernel
theorem dX7_next_61 : decode cX7_next 61 = .ok (.iload_n 1, 1) := by decide +kernel
theorem dX7_next_62 : decode cX7_next 62 = .ok (.if_icmp .ne 31, 3) := by decide +kernel
theorem dX7_next_65 : decode cX7_next 65 = .ok (.aload_n 0, 1) := by decide +kernel
theorem dX7_next_66 : decode cX7_next 66 = .ok (.getfield 50, 3) := by decide +kernel
theorem dX7_next_69 : decode cX7_next 69 = .ok (.iload 5, 2) := by decide +kernel
theorem dX7_next_71 : decode cX7_next 71 = .ok (.iaload, 1) := by decide +kernel
theorem dX7_next_72 : decode cX7_next 72 = .ok (.iload_n 2, 1) := by decide +kernel
theorem dX7_next_73 : decode cX7_next 73 = .ok (.if_icmp .ne 20, 3) := by decide +kernel
theorem dX7_next_76 : decode cX7_next 76 = .ok (.iload 4, 2) := by decide +kernel
theorem dX7_next_78 : decode cX7_next 78 = .ok (.iload_n 3, 1) := by decide +kernel
theorem dX7_next_79 : decode cX7_next 79 = .ok (.if_icmp .ne 11, 3) := by decide +kernel
theorem dX7_next_82 : decode cX7_next 82 = .ok (.aload_n 0, 1) := by decide +kernel
theorem dX7_next_83 : decode cX7_next 83 = .ok (.getfield 44, 3) := by decide +kernel
theorem dX7_next_86 : decode cX7_next 86 = .ok (.iload 5, 2) := by decide +kernel
theorem dX7_next_88 : decode cX7_next 88 = .ok (.iaload, 1) := by decide +kernel
theorem dX7_next_89 : decode cX7_next 89 = .ok (.ireturn, 1) := by decide +kernel
theorem dX7_next_90 : decode cX7_next 90 = .ok (.iinc 4 1, 3) := by decide +kernel
theorem dX7_next_93 : decode cX7_next 93 = .ok (.iinc 5 1, 3) := by decide +kernel
theorem dX7_next_96 : decode cX7_next 96 = .ok (.goto (-51), 3) := by decide +kernel
theorem dX7_next_99 : decode cX7_next 99 = .ok (.aload_n 0, 1) := by decide +kernel
theorem dX7_next_100 : decode cX7_next 100 = .ok (.iconst 3, 1) := by decide +kernel
theorem dX7_next_101 : decode cX7_next 101 = .ok (.putfield 89, 3) := by decide +kernel
theorem dX7_next_104 : decode cX7_next 104 = .ok (.iconst 0, 1) := by decide +kernel
theorem dX7_next_105 : decode cX7_next 105 = .ok (.ireturn, 1) := by decide +kernel
theorem dX7_pack_0 : decode cX7_pack 0 = .ok (.aload_n 0, 1) := by decide +kernel
theorem dX7_pack_1 : decode cX7_pack 1 = .ok (.iload_n 1, 1) := by decide +kernel
theorem dX7_pack_2 : decode cX7_pack 2 = .ok (.ifCond .lt 9, 3) := by decide +kernel
theorem dX7_pack_5 : decode cX7_pack 5 = .ok (.iload_n 1, 1) := by decide +kernel
theorem dX7_pack_6 : decode cX7_pack 6 = .ok (.bipush 100, 2) := by decide +kernel
theorem dX7_pack_8 : decode cX7_pack 8 = .ok (.if_icmp .le 7, 3) := by decide +kernel
theorem dX7_pack_11 : decode cX7_pack 11 = .ok (.iconst 1, 1) := by decide +kernel
theorem dX7_pack_12 : decode cX7_pack 12 = .ok (.goto 4, 3) := by decide +kernel
theorem dX7_pack_15 : decode cX7_pack 15 = .ok (.iconst 0, 1) := by decide +kernel
theorem dX7_pack_16 : decode cX7_pack 16 = .ok (.putfield 89, 3) := by decide +kernel
theorem dX7_pack_19 : decode cX7_pack 19 = .ok (.iconst 0, 1) := by decide +kernel
theorem dX7_pack_20 : decode cX7_pack 20 = .ok (.istore_n 2, 1) := by decide +kernel
theorem dX7_pack_21 : decode cX7_pack 21 = .ok (.aload_n 0, 1) := by decide +kernel
theorem dX7_pack_22 : decode cX7_pack 22 = .ok (.getfield 89, 3) := by decide +kernel
theorem dX7_pack_25 : decode cX7_pack 25 = .ok (.ifCond .ne 44, 3) := by decide +kernel
theorem dX7_pack_28 : decode cX7_pack 28 = .ok (.iload_n 2, 1) := by decide +kernel
theorem dX7_pack_29 : decode cX7_pack 29 = .ok (.iload_n 1, 1) := by decide +kernel
theorem dX7_pack_30 : decode cX7_pack 30 = .ok (.if_icmp .ge 39, 3) := by decide +kernel
theorem dX7_pack_33 : decode cX7_pack 33 = .ok (.aload_n 0, 1) := by decide +kernel
theorem dX7_pack_34 : decode cX7_pack 34 = .ok (.invokevirtual 103, 3) := by decide +kernel
theorem dX7_pack_37 : decode cX7_pack 37 = .ok (.ifCond .lt 32, 3) := by decide +kernel
theorem dX7_pack_40 : decode cX7_pack 40 = .ok (.aload_n 0, 1) := by decide +kernel
theorem dX7_pack_41 : decode cX7_pack 41 = .ok (.invokevirtual 103, 3) := by decide +kernel
theorem dX7_pack_44 : decode cX7_pack 44 = .ok (.aload_n 0, 1) := by decide +kernel
theorem dX7_pack_45 : decode cX7_pack 45 = .ok (.invokevirtual 183, 3) := by decide +kernel
theorem dX7_pack_48 : decode cX7_pack 48 = .ok (.if_icmp .ge 21, 3) := by decide +kernel
theorem dX7_pack_51 : decode cX7_pack 51 = .ok (.aload_n 0, 1) := by decide +kernel
theorem dX7_pack_52 : decode cX7_pack 52 = .ok (.aload_n 0, 1) := by decide +kernel
theorem dX7_pack_53 : decode cX7_pack 53 = .ok (.invokevirtual 183, 3) := by decide +kernel
theorem dX7_pack_56 : decode cX7_pack 56 = .ok (.aload_n 0, 1) := by decide +kernel
theorem dX7_pack_57 : decode cX7_pack 57 = .ok (.invokevirtual 103, 3) := by decide +kernel
theorem dX7_pack_60 : decode cX7_pack 60 = .ok (.invokevirtual 186, 3) := by decide +kernel
theorem dX7_pack_63 : decode cX7_pack 63 = .ok (.iinc 2 1, 3) := by decide +kernel
theorem dX7_pack_66 : decode cX7_pack 66 = .ok (.goto (-45), 3) := by decide +kernel
theorem dX7_pack_69 : decode cX7_pack 69 = .ok (.iload_n 2, 1) := by decide +kernel
theorem dX7_pack_70 : decode cX7_pack 70 = .ok (.ireturn, 1) := by decide +kernel
theorem dX7_play_0 : decode cX7_play 0 = .ok (.aload_n 0, 1) := by decide +kernel
theorem dX7_play_1 : decode cX7_play 1 = .ok (.iload_n 1, 1) := by decide +kernel
theorem dX7_play_2 : decode cX7_play 2 = .ok (.invokevirtual 174, 3) := by decide +kernel
theorem dX7_play_5 : decode cX7_play 5 = .ok (.istore_n 3, 1) := by decide +kernel
theorem dX7_play_6 : decode cX7_play 6 = .ok (.iload_n 3, 1) := by decide +kernel
theorem dX7_play_7 : decode cX7_play 7 = .ok (.ifCond .ge 7, 3) := by decide +kernel
theorem dX7_play_10 : decode cX7_play 10 = .ok (.iconst 0, 1) := by decide +kernel
theorem dX7_play_11 : decode cX7_play 11 = .ok (.goto 16, 3) := by decide +kernel
theorem dX7_play_14 : decode cX7_play 14 = .ok (.bipush 8, 2) := by decide +kernel
theorem dX7_play_16 : decode cX7_play 16 = .ok (.aload_n 0, 1) := by decide +kernel
theorem dX7_play_17 : decode cX7_play 17 = .ok (.aload_n 0, 1) := by decide +kernel
theorem dX7_play_18 : decode cX7_play 18 = .ok (.getfield 56, 3) := by decide +kernel
theorem dX7_play_21 : decode cX7_play 21 = .ok (.iload_n 3, 1) := by decide +kernel
theorem dX7_play_22 : decode cX7_play 22 = .ok (.iaload, 1) := by decide +kernel
theorem dX7_play_23 : decode cX7_play 23 = .ok (.invokevirtual 177, 3) := by decide +kernel
theorem dX7_play_26 : decode cX7_play 26 = .ok (.imul, 1) := by decide +kernel
theorem dX7_play_27 : decode cX7_play 27 = .ok (.istore 4, 2) := by decide +kernel
theorem dX7_play_29 : decode cX7_play 29 = .ok (.iload_n 3, 1) := by decide +kernel
theorem dX7_play_30 : decode cX7_play 30 = .ok (.ifCond .ge 7, 3) := by decide +kernel
theorem dX7_play_33 : decode cX7_play 33 = .ok (.iconst 0, 1) := by decide +kernel
theorem dX7_play_34 : decode cX7_play 34 = .ok (.goto 19, 3) := by decide +kernel
theorem dX7_play_37 : decode cX7_play 37 = .ok (.iload 4, 2) := by decide +kernel
theorem dX7_play_39 : decode cX7_play 39 = .ok (.bipush 8, 2) := by decide +kernel
theorem dX7_play_41 : decode cX7_play 41 = .ok (.aload_n 0, 1) := by decide +kernel
theorem dX7_play_42 : decode cX7_play 42 = .ok (.aload_n 0, 1) := by decide +kernel
theorem dX7_play_43 : decode cX7_play 43 = .ok (.getfield 53, 3) := by decide +kernel
theorem dX7_play_46 : decode cX7_play 46 = .ok (.iload_n 3, 1) := by decide +kernel
theorem dX7_play_47 : decode cX7_play 47 = .ok (.iaload, 1) := by decide +kernel
theorem dX7_play_48 : decode cX7_play 48 = .ok (.invokevirtual 177, 3) := by decide +kernel
theorem dX7_play_51 : decode cX7_play 51 = .ok (.imul, 1) := by decide +kernel
theorem dX7_play_52 : decode cX7_play 52 = .ok (.iadd, 1) := by decide +kernel
theorem dX7_play_53 : decode cX7_play 53 = .ok (.istore 5, 2) := by decide +kernel
theorem dX7_play_55 : decode cX7_play 55 = .ok (.aload_n 0, 1) := by decide +kernel
theorem dX7_play_56 : decode cX7_play 56 = .ok (.iload_n 3, 1) := by decide +kernel
theorem dX7_play_57 : decode cX7_play 57 = .ok (.ifCond .ge 7, 3) := by decide +kernel
theorem dX7_play_60 : decode cX7_play 60 = .ok (.iconst 1, 1) := by decide +kernel
theorem dX7_play_61 : decode cX7_play 61 = .ok (.goto 18, 3) := by decide +kernel
theorem dX7_play_64 : decode cX7_play 64 = .ok (.iload_n 2, 1) := by decide +kernel
theorem dX7_play_65 : decode cX7_play 65 = .ok (.ifCond .lt 9, 3) := by decide +kernel
theorem dX7_play_68 : decode cX7_play 68 = .ok (.iload_n 2, 1) := by decide +kernel
theorem dX7_play_69 : decode cX7_play 69 = .ok (.iload 5, 2) := by decide +kernel
theorem dX7_play_71 : decode cX7_play 71 = .ok (.if_icmp .lt 7, 3) := by decide +kernel
theorem dX7_play_74 : decode cX7_play 74 = .ok (.iconst 2, 1) := by decide +kernel
theorem dX7_play_75 : decode cX7_play 75 = .ok (.goto 4, 3) := by decide +kernel
theorem dX7_play_78 : decode cX7_play 78 = .ok (.iconst 0, 1) := by decide +kernel
theorem dX7_play_79 : decode cX7_play 79 = .ok (.putfield 89, 3) := by decide +kernel
theorem dX7_play_82 : decode cX7_play 82 = .ok (.aload_n 0, 1) := by decide +kernel
theorem dX7_play_83 : decode cX7_play 83 = .ok (.getfield 89, 3) := by decide +kernel
theorem dX7_play_86 : decode cX7_play 86 = .ok (.ifCond .le 5, 3) := by decide +kernel
theorem dX7_play_89 : decode cX7_play 89 = .ok (.iconst 0, 1) := by decide +kernel
theorem dX7_play_90 : decode cX7_play 90 = .ok (.ireturn, 1) := by decide +kernel
theorem dX7_play_91 : decode cX7_play 91 = .ok (.iload_n 2, 1) := by decide +kernel
theorem dX7_play_92 : decode cX7_play 92 = .ok (.iload 4, 2) := by decide +kernel
theorem dX7_play_94 : decode cX7_play 94 = .ok (.if_icmp .ge 17, 3) := by decide +kernel
theorem dX7_play_97 : decode cX7_play 97 = .ok (.aload_n 0, 1) := by decide +kernel
theorem dX7_play_98 : decode cX7_play 98 = .ok (.aload_n 0, 1) := by decide +kernel
theorem dX7_play_99 : decode cX7_play 99 = .ok (.getfield 56, 3) := by decide +kernel
theorem dX7_play_102 : decode cX7_play 102 = .ok (.iload_n 3, 1) := by decide +kernel
theorem dX7_play_103 : decode cX7_play 103 = .ok (.iaload, 1) := by decide +kernel
theorem dX7_play_104 : decode cX7_play 104 = .ok (.iload_n 2, 1) := by decide +kernel
theorem dX7_play_105 : decode cX7_play 105 = .ok (.invokevirtual 180, 3) := by decide +kernel
theorem dX7_play_108 : decode cX7_play 108 = .ok (.goto 17, 3) := by decide +kernel
theorem dX7_play_111 : decode cX7_play 111 = .ok (.aload_n 0, 1) := by decide +kernel
theorem dX7_play_112 : decode cX7_play 112 = .ok (.aload_n 0, 1) := by decide +kernel
theorem dX7_play_113 : decode cX7_play 113 = .ok (.getfield 53, 3) := by decide +kernel
theorem dX7_play_116 : decode cX7_play 116 = .ok (.iload_n 3, 1) := by decide +kernel
theorem dX7_play_117 : decode cX7_play 117 = .ok (.iaload, 1) := by decide +kernel
theorem dX7_play_118 : decode cX7_play 118 = .ok (.iload_n 2, 1) := by decide +kernel
theorem dX7_play_119 : decode cX7_play 119 = .ok (.iload 4, 2) := by decide +kernel
theorem dX7_play_121 : decode cX7_play 121 = .ok (.isub, 1) := by decide +kernel
theorem dX7_play_122 : decode cX7_play 122 = .ok (.invokevirtual 180, 3) := by decide +kernel
theorem dX7_play_125 : decode cX7_play 125 = .ok (.ireturn, 1) := by decide +kernel
theorem dX7_quota_0 : decode cX7_quota 0 = .ok (.aload_n 0, 1) := by decide +kernel
theorem dX7_quota_1 : decode cX7_quota 1 = .ok (.aload_n 0, 1) := by decide +kernel
theorem dX7_quota_2 : decode cX7_quota 2 = .ok (.iload_n 1, 1) := by decide +kernel
theorem dX7_quota_3 : decode cX7_quota 3 = .ok (.invokevirtual 131, 3) := by decide +kernel
theorem dX7_quota_6 : decode cX7_quota 6 = .ok (.ifCond .eq 7, 3) := by decide +kernel
theorem dX7_quota_9 : decode cX7_quota 9 = .ok (.iconst 0, 1) := by decide +kernel
theorem dX7_quota_10 : decode cX7_quota 10 = .ok (.goto 4, 3) := by decide +kernel
theorem dX7_quota_13 : decode cX7_quota 13 = .ok (.iconst 1, 1) := by decide +kernel
theorem dX7_quota_14 : decode cX7_quota 14 = .ok (.putfield 89, 3) := by decide +kernel
theorem dX7_quota_17 : decode cX7_quota 17 = .ok (.aload_n 0, 1) := by decide +kernel
theorem dX7_quota_18 : decode cX7_quota 18 = .ok (.getfield 89, 3) := by decide +kernel
theorem dX7_quota_21 : decode cX7_quota 21 = .ok (.ifCond .le 7, 3) := by decide +kernel
theorem dX7_quota_24 : decode cX7_quota 24 = .ok (.iconst 0, 1) := by decide +kernel
theorem dX7_quota_25 : decode cX7_quota 25 = .ok (.goto 9, 3) := by decide +kernel
theorem dX7_quota_28 : decode cX7_quota 28 = .ok (.aload_n 0, 1) := by decide +kernel
theorem dX7_quota_29 : decode cX7_quota 29 = .ok (.getfield 38, 3) := by decide +kernel
theorem dX7_quota_32 : decode cX7_quota 32 = .ok (.iload_n 1, 1) := by decide +kernel
theorem dX7_quota_33 : decode cX7_quota 33 = .ok (.iaload, 1) := by decide +kernel
theorem dX7_quota_34 : decode cX7_quota 34 = .ok (.ireturn, 1) := by decide +kernel
theorem dX7_release_0 : decode cX7_release 0 = .ok (.iconst 0, 1) := by decide +kernel
theorem dX7_release_1 : decode cX7_release 1 = .ok (.istore_n 2, 1) := by decide +kernel
theorem dX7_release_2 : decode cX7_release 2 = .ok (.aload_n 0, 1) := by decide +kernel
theorem dX7_release_3 : decode cX7_release 3 = .ok (.getfield 32, 3) := by decide +kernel
theorem dX7_release_6 : decode cX7_release 6 = .ok (.iload_n 1, 1) := by decide +kernel
theorem dX7_release_7 : decode cX7_release 7 = .ok (.iaload, 1) := by decide +kernel
theorem dX7_release_8 : decode cX7_release 8 = .ok (.istore_n 3, 1) := by decide +kernel
theorem dX7_release_9 : decode cX7_release 9 = .ok (.iconst 0, 1) := by decide +kernel
theorem dX7_release_10 : decode cX7_release 10 = .ok (.istore 4, 2) := by decide +kernel
theorem dX7_release_12 : decode cX7_release 12 = .ok (.iload 4, 2) := by decide +kernel
theorem dX7_release_14 : decode cX7_release 14 = .ok (.aload_n 0, 1) := by decide +kernel
theorem dX7_release_15 : decode cX7_release 15 = .ok (.getfield 35, 3) := by decide +kernel
theorem dX7_release_18 : decode cX7_release 18 = .ok (.iload_n 1, 1) := by decide +kernel
theorem dX7_release_19 : decode cX7_release 19 = .ok (.iaload, 1) := by decide +kernel
theorem dX7_release_20 : decode cX7_release 20 = .ok (.if_icmp .ge 26, 3) := by decide +kernel
theorem dX7_release_23 : decode cX7_release 23 = .ok (.aload_n 0, 1) := by decide +kernel
theorem dX7_release_24 : decode cX7_release 24 = .ok (.getfield 13, 3) := by decide +kernel
theorem dX7_release_27 : decode cX7_release 27 = .ok (.iload_n 3, 1) := by decide +kernel
theorem dX7_release_28 : decode cX7_release 28 = .ok (.iconst 0, 1) := by decide +kernel
theorem dX7_release_29 : decode cX7_release 29 = .ok (.iastore, 1) := by decide +kernel
theorem dX7_release_30 : decode cX7_release 30 = .ok (.aload_n 0, 1) := by decide +kernel
theorem dX7_release_31 : decode cX7_release 31 = .ok (.getfield 16, 3) := by decide +kernel
theorem dX7_release_34 : decode cX7_release 34 = .ok (.iload_n 3, 1) := by decide +kernel
theorem dX7_release_35 : decode cX7_release 35 = .ok (.iaload, 1) := by decide +kernel
theorem dX7_release_36 : decode cX7_release 36 = .ok (.istore_n 3, 1) := by decide +kernel
theorem dX7_release_37 : decode cX7_release 37 = .ok (.iinc 2 1, 3) := by decide +kernel
theorem dX7_release_40 : decode cX7_release 40 = .ok (.iinc 4 4, 3) := by decide +kernel
theorem dX7_release_43 : decode cX7_release 43 = .ok (.goto (-31), 3) := by decide +kernel
theorem dX7_release_46 : decode cX7_release 46 = .ok (.aload_n 0, 1) := by decide +kernel
theorem dX7_release_47 : decode cX7_release 47 = .ok (.getfield 35, 3) := by decide +kernel
theorem dX7_release_50 : decode cX7_release 50 = .ok (.iload_n 1, 1) := by decide +kernel
theorem dX7_release_51 : decode cX7_release 51 = .ok (.iconst 0, 1) := by decide +kernel
theorem dX7_release_52 : decode cX7_release 52 = .ok (.iastore, 1) := by decide +kernel
theorem dX7_release_53 : decode cX7_release 53 = .ok (.iload_n 2, 1) := by decide +kernel
theorem dX7_release_54 : decode cX7_release 54 = .ok (.ireturn, 1) := by decide +kernel
theorem dX7_sample_0 : decode cX7_sample 0 = .ok (.aload_n 0, 1) := by decide +kernel
theorem dX7_sample_1 : decode cX7_sample 1 = .ok (.iload_n 1, 1) := by decide +kernel
theorem dX7_sample_2 : decode cX7_sample 2 = .ok (.invokestatic 127, 3) := by decide +kernel
theorem dX7_sample_5 : decode cX7_sample 5 = .ok (.ifCond .ne 7, 3) := by decide +kernel
theorem dX7_sample_8 : decode cX7_sample 8 = .ok (.iconst 1, 1) := by decide +kernel
theorem dX7_sample_9 : decode cX7_sample 9 = .ok (.goto 17, 3) := by decide +kernel
theorem dX7_sample_12 : decode cX7_sample 12 = .ok (.aload_n 0, 1) := by decide +kernel
theorem dX7_sample_13 : decode cX7_sample 13 = .ok (.getfield 59, 3) := by decide +kernel
theorem dX7_sample_16 : decode cX7_sample 16 = .ok (.iload_n 1, 1) := by decide +kernel
theorem dX7_sample_17 : decode cX7_sample 17 = .ok (.baload, 1) := by decide +kernel
theorem dX7_sample_18 : decode cX7_sample 18 = .ok (.ifCond .ne 7, 3) := by decide +kernel
theorem dX7_sample_21 : decode cX7_sample 21 = .ok (.iconst 2, 1) := by decide +kernel
theorem dX7_sample_22 : decode cX7_sample 22 = .ok (.goto 4, 3) := by decide +kernel
theorem dX7_sample_25 : decode cX7_sample 25 = .ok (.iconst 0, 1) := by decide +kernel
theorem dX7_sample_26 : decode cX7_sample 26 = .ok (.putfield 89, 3) := by decide +kernel
theorem dX7_sample_29 : decode cX7_sample 29 = .ok (.aload_n 0, 1) := by decide +kernel
theorem dX7_sample_30 : decode cX7_sample 30 = .ok (.getfield 89, 3) := by decide +kernel
theorem dX7_sample_33 : decode cX7_sample 33 = .ok (.ifCond .le 5, 3) := by decide +kernel
theorem dX7_sample_36 : decode cX7_sample 36 = .ok (.iconst 0, 1) := by decide +kernel
theorem dX7_sample_37 : decode cX7_sample 37 = .ok (.ireturn, 1) := by decide +kernel
theorem dX7_sample_38 : decode cX7_sample 38 = .ok (.aload_n 0, 1) := by decide +kernel
theorem dX7_sample_39 : decode cX7_sample 39 = .ok (.getfield 71, 3) := by decide +kernel
theorem dX7_sample_42 : decode cX7_sample 42 = .ok (.iload_n 1, 1) := by decide +kernel
theorem dX7_sample_43 : decode cX7_sample 43 = .ok (.baload, 1) := by decide +kernel
theorem dX7_sample_44 : decode cX7_sample 44 = .ok (.ifCond .eq 5, 3) := by decide +kernel
theorem dX7_sample_47 : decode cX7_sample 47 = .ok (.iconst 1, 1) := by decide +kernel
theorem dX7_sample_48 : decode cX7_sample 48 = .ok (.ireturn, 1) := by decide +kernel
theorem dX7_sample_49 : decode cX7_sample 49 = .ok (.aload_n 0, 1) := by decide +kernel
theorem dX7_sample_50 : decode cX7_sample 50 = .ok (.getfield 77, 3) := by decide +kernel
theorem dX7_sample_53 : decode cX7_sample 53 = .ok (.bipush 8, 2) := by decide +kernel
theorem dX7_sample_55 : decode cX7_sample 55 = .ok (.iload_n 1, 1) := by decide +kernel
theorem dX7_sample_56 : decode cX7_sample 56 = .ok (.imul, 1) := by decide +kernel
theorem dX7_sample_57 : decode cX7_sample 57 = .ok (.aload_n 0, 1) := by decide +kernel
theorem dX7_sample_58 : decode cX7_sample 58 = .ok (.getfield 74, 3) := by decide +kernel
theorem dX7_sample_61 : decode cX7_sample 61 = .ok (.iload_n 1, 1) := by decide +kernel
theorem dX7_sample_62 : decode cX7_sample 62 = .ok (.iaload, 1) := by decide +kernel
theorem dX7_sample_63 : decode cX7_sample 63 = .ok (.iadd, 1) := by decide +kernel
theorem dX7_sample_64 : decode cX7_sample 64 = .ok (.iload_n 2, 1) := by decide +kernel
theorem dX7_sample_65 : decode cX7_sample 65 = .ok (.sipush (-32768), 3) := by decide +kernel
theorem dX7_sample_68 : decode cX7_sample 68 = .ok (.if_icmp .ge 9, 3) := by decide +kernel
theorem dX7_sample_71 : decode cX7_sample 71 = .ok (.sipush (-32768), 3) := by decide +kernel
theorem dX7_sample_74 : decode cX7_sample 74 = .ok (.goto 17, 3) := by decide +kernel
theorem dX7_sample_77 : decode cX7_sample 77 = .ok (.iload_n 2, 1) := by decide +kernel
theorem dX7_sample_78 : decode cX7_sample 78 = .ok (.sipush 32767, 3) := by decide +kernel
theorem dX7_sample_81 : decode cX7_sample 81 = .ok (.if_icmp .le 9, 3) := by decide +kernel
theorem dX7_sample_84 : decode cX7_sample 84 = .ok (.sipush 32767, 3) := by decide +kernel
theorem dX7_sample_87 : decode cX7_sample 87 = .ok (.goto 4, 3) := by decide +kernel
theorem dX7_sample_90 : decode cX7_sample 90 = .ok (.iload_n 2, 1) := by decide +kernel
theorem dX7_sample_91 : decode cX7_sample 91 = .ok (.iastore, 1) := by decide +kernel
theorem dX7_sample_92 : decode cX7_sample 92 = .ok (.aload_n 0, 1) := by decide +kernel
theorem dX7_sample_93 : decode cX7_sample 93 = .ok (.getfield 74, 3) := by decide +kernel
theorem dX7_sample_96 : decode cX7_sample 96 = .ok (.iload_n 1, 1) := by decide +kernel
theorem dX7_sample_97 : decode cX7_sample 97 = .ok (.dup2, 1) := by decide +kernel
theorem dX7_sample_98 : decode cX7_sample 98 = .ok (.iaload, 1) := by decide +kernel
theorem dX7_sample_99 : decode cX7_sample 99 = .ok (.iconst 1, 1) := by decide +kernel
theorem dX7_sample_100 : decode cX7_sample 100 = .ok (.iadd, 1) := by decide +kernel
theorem dX7_sample_101 : decode cX7_sample 101 = .ok (.iastore, 1) := by decide +kernel
theorem dX7_sample_102 : decode cX7_sample 102 = .ok (.aload_n 0, 1) := by decide +kernel
theorem dX7_sample_103 : decode cX7_sample 103 = .ok (.getfield 74, 3) := by decide +kernel
theorem dX7_sample_106 : decode cX7_sample 106 = .ok (.iload_n 1, 1) := by decide +kernel
theorem dX7_sample_107 : decode cX7_sample 107 = .ok (.iaload, 1) := by decide +kernel
theorem dX7_sample_108 : decode cX7_sample 108 = .ok (.bipush 8, 2) := by decide +kernel
theorem dX7_sample_110 : decode cX7_sample 110 = .ok (.if_icmp .ne 8, 3) := by decide +kernel
theorem dX7_sample_113 : decode cX7_sample 113 = .ok (.aload_n 0, 1) := by decide +kernel
theorem dX7_sample_114 : decode cX7_sample 114 = .ok (.iload_n 1, 1) := by decide +kernel
theorem dX7_sample_115 : decode cX7_sample 115 = .ok (.invokevirtual 161, 3) := by decide +kernel
theorem dX7_sample_118 : decode cX7_sample 118 = .ok (.aload_n 0, 1) := by decide +kernel
theorem dX7_sample_119 : decode cX7_sample 119 = .ok (.getfield 71, 3) := by decide +kernel
theorem dX7_sample_122 : decode cX7_sample 122 = .ok (.iload_n 1, 1) := by decide +kernel
theorem dX7_sample_123 : decode cX7_sample 123 = .ok (.baload, 1) := by decide +kernel
theorem dX7_sample_124 : decode cX7_sample 124 = .ok (.ireturn, 1) := by decide +kernel
theorem dX7_sound_0 : decode cX7_sound 0 = .ok (.aload_n 0, 1) := by decide +kernel
theorem dX7_sound_1 : decode cX7_sound 1 = .ok (.iconst 0, 1) := by decide +kernel
theorem dX7_sound_2 : decode cX7_sound 2 = .ok (.putfield 96, 3) := by decide +kernel
theorem dX7_sound_5 : decode cX7_sound 5 = .ok (.aload_n 0, 1) := by decide +kernel
theorem dX7_sound_6 : decode cX7_sound 6 = .ok (.iconst 0, 1) := by decide +kernel
theorem dX7_sound_7 : decode cX7_sound 7 = .ok (.putfield 93, 3) := by decide +kernel
theorem dX7_sound_10 : decode cX7_sound 10 = .ok (.iload_n 2, 1) := by decide +kernel
theorem dX7_sound_11 : decode cX7_sound 11 = .ok (.istore_n 3, 1) := by decide +kernel
theorem dX7_sound_12 : decode cX7_sound 12 = .ok (.iconst 0, 1) := by decide +kernel
theorem dX7_sound_13 : decode cX7_sound 13 = .ok (.istore 4, 2) := by decide +kernel
theorem dX7_sound_15 : decode cX7_sound 15 = .ok (.iload 4, 2) := by decide +kernel
theorem dX7_sound_17 : decode cX7_sound 17 = .ok (.aload_n 0, 1) := by decide +kernel
theorem dX7_sound_18 : decode cX7_sound 18 = .ok (.getfield 35, 3) := by decide +kernel
theorem dX7_sound_21 : decode cX7_sound 21 = .ok (.iload_n 1, 1) := by decide +kernel
theorem dX7_sound_22 : decode cX7_sound 22 = .ok (.iaload, 1) := by decide +kernel
theorem dX7_sound_23 : decode cX7_sound 23 = .ok (.if_icmp .ge 117, 3) := by decide +kernel
theorem dX7_sound_26 : decode cX7_sound 26 = .ok (.aload_n 0, 1) := by decide +kernel
theorem dX7_sound_27 : decode cX7_sound 27 = .ok (.iload_n 1, 1) := by decide +kernel
theorem dX7_sound_28 : decode cX7_sound 28 = .ok (.iload 4, 2) := by decide +kernel
theorem dX7_sound_30 : decode cX7_sound 30 = .ok (.invokevirtual 107, 3) := by decide +kernel
theorem dX7_sound_33 : decode cX7_sound 33 = .ok (.istore 5, 2) := by decide +kernel
theorem dX7_sound_35 : decode cX7_sound 35 = .ok (.aload_n 0, 1) := by decide +kernel
theorem dX7_sound_36 : decode cX7_sound 36 = .ok (.getfield 19, 3) := by decide +kernel
theorem dX7_sound_39 : decode cX7_sound 39 = .ok (.iload 5, 2) := by decide +kernel
theorem dX7_sound_41 : decode cX7_sound 41 = .ok (.iaload, 1) := by decide +kernel
theorem dX7_sound_42 : decode cX7_sound 42 = .ok (.ifCond .le 45, 3) := by decide +kernel
theorem dX7_sound_45 : decode cX7_sound 45 = .ok (.iload_n 3, 1) := by decide +kernel
theorem dX7_sound_46 : decode cX7_sound 46 = .ok (.bipush 8, 2) := by decide +kernel
theorem dX7_sound_48 : decode cX7_sound 48 = .ok (.aload_n 0, 1) := by decide +kernel
theorem dX7_sound_49 : decode cX7_sound 49 = .ok (.getfield 19, 3) := by decide +kernel
theorem dX7_sound_52 : decode cX7_sound 52 = .ok (.iload 5, 2) := by decide +kernel
theorem dX7_sound_54 : decode cX7_sound 54 = .ok (.iaload, 1) := by decide +kernel
theorem dX7_sound_55 : decode cX7_sound 55 = .ok (.imul, 1) := by decide +kernel
theorem dX7_sound_56 : decode cX7_sound 56 = .ok (.if_icmp .ge 5, 3) := by decide +kernel
theorem dX7_sound_59 : decode cX7_sound 59 = .ok (.iconst 0, 1) := by decide +kernel
theorem dX7_sound_60 : decode cX7_sound 60 = .ok (.ireturn, 1) := by decide +kernel
theorem dX7_sound_61 : decode cX7_sound 61 = .ok (.iload_n 3, 1) := by decide +kernel
theorem dX7_sound_62 : decode cX7_sound 62 = .ok (.bipush 8, 2) := by decide +kernel
theorem dX7_sound_64 : decode cX7_sound 64 = .ok (.aload_n 0, 1) := by decide +kernel
theorem dX7_sound_65 : decode cX7_sound 65 = .ok (.getfield 19, 3) := by decide +kernel
theorem dX7_sound_68 : decode cX7_sound 68 = .ok (.iload 5, 2) := by decide +kernel
theorem dX7_sound_70 : decode cX7_sound 70 = .ok (.iaload, 1) := by decide +kernel
theorem dX7_sound_71 : decode cX7_sound 71 = .ok (.imul, 1) := by decide +kernel
theorem dX7_sound_72 : decode cX7_sound 72 = .ok (.isub, 1) := by decide +kernel
theorem dX7_sound_73 : decode cX7_sound 73 = .ok (.istore_n 3, 1) := by decide +kernel
theorem dX7_sound_74 : decode cX7_sound 74 = .ok (.aload_n 0, 1) := by decide +kernel
theorem dX7_sound_75 : decode cX7_sound 75 = .ok (.iconst 0, 1) := by decide +kernel
theorem dX7_sound_76 : decode cX7_sound 76 = .ok (.putfield 96, 3) := by decide +kernel
theorem dX7_sound_79 : decode cX7_sound 79 = .ok (.aload_n 0, 1) := by decide +kernel
theorem dX7_sound_80 : decode cX7_sound 80 = .ok (.iconst 0, 1) := by decide +kernel
theorem dX7_sound_81 : decode cX7_sound 81 = .ok (.putfield 93, 3) := by decide +kernel
theorem dX7_sound_84 : decode cX7_sound 84 = .ok (.goto 50, 3) := by decide +kernel
theorem dX7_sound_87 : decode cX7_sound 87 = .ok (.iconst 0, 1) := by decide +kernel
theorem dX7_sound_88 : decode cX7_sound 88 = .ok (.istore 6, 2) := by decide +kernel
theorem dX7_sound_90 : decode cX7_sound 90 = .ok (.iload 6, 2) := by decide +kernel
theorem dX7_sound_92 : decode cX7_sound 92 = .ok (.bipush 8, 2) := by decide +kernel
theorem dX7_sound_94 : decode cX7_sound 94 = .ok (.if_icmp .ge 40, 3) := by decide +kernel
theorem dX7_sound_97 : decode cX7_sound 97 = .ok (.aload_n 0, 1) := by decide +kernel
theorem dX7_sound_98 : decode cX7_sound 98 = .ok (.aload_n 0, 1) := by decide +kernel
theorem dX7_sound_99 : decode cX7_sound 99 = .ok (.getfield 22, 3) := by decide +kernel
theorem dX7_sound_102 : decode cX7_sound 102 = .ok (.iload 5, 2) := by decide +kernel
theorem dX7_sound_104 : decode cX7_sound 104 = .ok (.iaload, 1) := by decide +kernel
theorem dX7_sound_105 : decode cX7_sound 105 = .ok (.iconst 4, 1) := by decide +kernel
theorem dX7_sound_106 : decode cX7_sound 106 = .ok (.iload 6, 2) := by decide +kernel
theorem dX7_sound_108 : decode cX7_sound 108 = .ok (.imul, 1) := by decide +kernel
theorem dX7_sound_109 : decode cX7_sound 109 = .ok (.ishr, 1) := by decide +kernel
theorem dX7_sound_110 : decode cX7_sound 110 = .ok (.bipush 15, 2) := by decide +kernel
theorem dX7_sound_112 : decode cX7_sound 112 = .ok (.iand, 1) := by decide +kernel
theorem dX7_sound_113 : decode cX7_sound 113 = .ok (.invokevirtual 99, 3) := by decide +kernel
theorem dX7_sound_116 : decode cX7_sound 116 = .ok (.iload_n 3, 1) := by decide +kernel
theorem dX7_sound_117 : decode cX7_sound 117 = .ok (.ifCond .ne 8, 3) := by decide +kernel
theorem dX7_sound_120 : decode cX7_sound 120 = .ok (.aload_n 0, 1) := by decide +kernel
theorem dX7_sound_121 : decode cX7_sound 121 = .ok (.getfield 96, 3) := by decide +kernel
theorem dX7_sound_124 : decode cX7_sound 124 = .ok (.ireturn, 1) := by decide +kernel
theorem dX7_sound_125 : decode cX7_sound 125 = .ok (.iinc 3 (-1), 3) := by decide +kernel
theorem dX7_sound_128 : decode cX7_sound 128 = .ok (.iinc 6 1, 3) := by decide +kernel
theorem dX7_sound_131 : decode cX7_sound 131 = .ok (.goto (-41), 3) := by decide +kernel
theorem dX7_sound_134 : decode cX7_sound 134 = .ok (.iinc 4 1, 3) := by decide +kernel
theorem dX7_sound_137 : decode cX7_sound 137 = .ok (.goto (-122), 3) := by decide +kernel
theorem dX7_sound_140 : decode cX7_sound 140 = .ok (.iconst 0, 1) := by decide +kernel
theorem dX7_sound_141 : decode cX7_sound 141 = .ok (.ireturn, 1) := by decide +kernel
theorem dX7_step_0 : decode cX7_step 0 = .ok (.aload_n 0, 1) := by decide +kernel
theorem dX7_step_1 : decode cX7_step 1 = .ok (.iload_n 1, 1) := by decide +kernel
theorem dX7_step_2 : decode cX7_step 2 = .ok (.ifCond .lt 13, 3) := by decide +kernel
theorem dX7_step_5 : decode cX7_step 5 = .ok (.iload_n 1, 1) := by decide +kernel
theorem dX7_step_6 : decode cX7_step 6 = .ok (.bipush 49, 2) := by decide +kernel
theorem dX7_step_8 : decode cX7_step 8 = .ok (.if_icmp .ge 7, 3) := by decide +kernel
theorem dX7_step_11 : decode cX7_step 11 = .ok (.iconst 0, 1) := by decide +kernel
theorem dX7_step_12 : decode cX7_step 12 = .ok (.goto 4, 3) := by decide +kernel
theorem dX7_step_15 : decode cX7_step 15 = .ok (.iconst 1, 1) := by decide +kernel
theorem dX7_step_16 : decode cX7_step 16 = .ok (.putfield 89, 3) := by decide +kernel
theorem dX7_step_19 : decode cX7_step 19 = .ok (.aload_n 0, 1) := by decide +kernel
theorem dX7_step_20 : decode cX7_step 20 = .ok (.getfield 89, 3) := by decide +kernel
theorem dX7_step_23 : decode cX7_step 23 = .ok (.ifCond .le 7, 3) := by decide +kernel
theorem dX7_step_26 : decode cX7_step 26 = .ok (.iconst 0, 1) := by decide +kernel
theorem dX7_step_27 : decode cX7_step 27 = .ok (.goto 9, 3) := by decide +kernel
theorem dX7_step_30 : decode cX7_step 30 = .ok (.aload_n 0, 1) := by decide +kernel
theorem dX7_step_31 : decode cX7_step 31 = .ok (.getfield 7, 3) := by decide +kernel
theorem dX7_step_34 : decode cX7_step 34 = .ok (.iload_n 1, 1) := by decide +kernel
theorem dX7_step_35 : decode cX7_step 35 = .ok (.iaload, 1) := by decide +kernel
theorem dX7_step_36 : decode cX7_step 36 = .ok (.ireturn, 1) := by decide +kernel
theorem dX7_thrown_0 : decode cX7_thrown 0 = .ok (.aload_n 0, 1) := by decide +kernel
theorem dX7_thrown_1 : decode cX7_thrown 1 = .ok (.getfield 89, 3) := by decide +kernel
theorem dX7_thrown_4 : decode cX7_thrown 4 = .ok (.ireturn, 1) := by decide +kernel
theorem dX7_total_0 : decode cX7_total 0 = .ok (.aload_n 0, 1) := by decide +kernel
theorem dX7_total_1 : decode cX7_total 1 = .ok (.iconst 0, 1) := by decide +kernel
theorem dX7_total_2 : decode cX7_total 2 = .ok (.putfield 89, 3) := by decide +kernel
theorem dX7_total_5 : decode cX7_total 5 = .ok (.iconst 0, 1) := by decide +kernel
theorem dX7_total_6 : decode cX7_total 6 = .ok (.istore_n 2, 1) := by decide +kernel
theorem dX7_total_7 : decode cX7_total 7 = .ok (.iconst 0, 1) := by decide +kernel
theorem dX7_total_8 : decode cX7_total 8 = .ok (.istore_n 3, 1) := by decide +kernel
theorem dX7_total_9 : decode cX7_total 9 = .ok (.iload_n 3, 1) := by decide +kernel
theorem dX7_total_10 : decode cX7_total 10 = .ok (.bipush 48, 2) := by decide +kernel
theorem dX7_total_12 : decode cX7_total 12 = .ok (.if_icmp .ge 26, 3) := by decide +kernel
theorem dX7_total_15 : decode cX7_total 15 = .ok (.aload_n 0, 1) := by decide +kernel
theorem dX7_total_16 : decode cX7_total 16 = .ok (.getfield 25, 3) := by decide +kernel
theorem dX7_total_19 : decode cX7_total 19 = .ok (.iload_n 3, 1) := by decide +kernel
theorem dX7_total_20 : decode cX7_total 20 = .ok (.iaload, 1) := by decide +kernel
theorem dX7_total_21 : decode cX7_total 21 = .ok (.ifCond .le 9, 3) := by decide +kernel
theorem dX7_total_24 : decode cX7_total 24 = .ok (.iload_n 2, 1) := by decide +kernel
theorem dX7_total_25 : decode cX7_total 25 = .ok (.iconst 1, 1) := by decide +kernel
theorem dX7_total_26 : decode cX7_total 26 = .ok (.iadd, 1) := by decide +kernel
theorem dX7_total_27 : decode cX7_total 27 = .ok (.goto 4, 3) := by decide +kernel
theorem dX7_total_30 : decode cX7_total 30 = .ok (.iload_n 2, 1) := by decide +kernel
theorem dX7_total_31 : decode cX7_total 31 = .ok (.istore_n 2, 1) := by decide +kernel
theorem dX7_total_32 : decode cX7_total 32 = .ok (.iinc 3 1, 3) := by decide +kernel
theorem dX7_total_35 : decode cX7_total 35 = .ok (.goto (-26), 3) := by decide +kernel
theorem dX7_total_38 : decode cX7_total 38 = .ok (.iconst 0, 1) := by decide +kernel
theorem dX7_total_39 : decode cX7_total 39 = .ok (.istore_n 3, 1) := by decide +kernel
theorem dX7_total_40 : decode cX7_total 40 = .ok (.iconst 0, 1) := by decide +kernel
theorem dX7_total_41 : decode cX7_total 41 = .ok (.istore 4, 2) := by decide +kernel
theorem dX7_total_43 : decode cX7_total 43 = .ok (.iload 4, 2) := by decide +kernel
theorem dX7_total_45 : decode cX7_total 45 = .ok (.bipush 40, 2) := by decide +kernel
theorem dX7_total_47 : decode cX7_total 47 = .ok (.if_icmp .ge 27, 3) := by decide +kernel
theorem dX7_total_50 : decode cX7_total 50 = .ok (.aload_n 0, 1) := by decide +kernel
theorem dX7_total_51 : decode cX7_total 51 = .ok (.getfield 13, 3) := by decide +kernel
theorem dX7_total_54 : decode cX7_total 54 = .ok (.iload 4, 2) := by decide +kernel
theorem dX7_total_56 : decode cX7_total 56 = .ok (.iaload, 1) := by decide +kernel
theorem dX7_total_57 : decode cX7_total 57 = .ok (.ifCond .ne 9, 3) := by decide +kernel
theorem dX7_total_60 : decode cX7_total 60 = .ok (.iload_n 3, 1) := by decide +kernel
theorem dX7_total_61 : decode cX7_total 61 = .ok (.iconst 1, 1) := by decide +kernel
theorem dX7_total_62 : decode cX7_total 62 = .ok (.iadd, 1) := by decide +kernel
theorem dX7_total_63 : decode cX7_total 63 = .ok (.goto 4, 3) := by decide +kernel
theorem dX7_total_66 : decode cX7_total 66 = .ok (.iload_n 3, 1) := by decide +kernel
theorem dX7_total_67 : decode cX7_total 67 = .ok (.istore_n 3, 1) := by decide +kernel
theorem dX7_total_68 : decode cX7_total 68 = .ok (.iinc 4 1, 3) := by decide +kernel
theorem dX7_total_71 : decode cX7_total 71 = .ok (.goto (-28), 3) := by decide +kernel
theorem dX7_total_74 : decode cX7_total 74 = .ok (.aload_n 0, 1) := by decide +kernel
theorem dX7_total_75 : decode cX7_total 75 = .ok (.getfield 59, 3) := by decide +kernel
theorem dX7_total_78 : decode cX7_total 78 = .ok (.iconst 0, 1) := by decide +kernel
theorem dX7_total_79 : decode cX7_total 79 = .ok (.baload, 1) := by decide +kernel
theorem dX7_total_80 : decode cX7_total 80 = .ok (.ifCond .eq 7, 3) := by decide +kernel
theorem dX7_total_83 : decode cX7_total 83 = .ok (.iconst 1, 1) := by decide +kernel
theorem dX7_total_84 : decode cX7_total 84 = .ok (.goto 4, 3) := by decide +kernel
theorem dX7_total_87 : decode cX7_total 87 = .ok (.iconst 0, 1) := by decide +kernel
theorem dX7_total_88 : decode cX7_total 88 = .ok (.aload_n 0, 1) := by decide +kernel
theorem dX7_total_89 : decode cX7_total 89 = .ok (.getfield 59, 3) := by decide +kernel
theorem dX7_total_92 : decode cX7_total 92 = .ok (.iconst 1, 1) := by decide +kernel
theorem dX7_total_93 : decode cX7_total 93 = .ok (.baload, 1) := by decide +kernel
theorem dX7_total_94 : decode cX7_total 94 = .ok (.ifCond .eq 7, 3) := by decide +kernel
theorem dX7_total_97 : decode cX7_total 97 = .ok (.iconst 2, 1) := by decide +kernel
theorem dX7_total_98 : decode cX7_total 98 = .ok (.goto 4, 3) := by decide +kernel
theorem dX7_total_101 : decode cX7_total 101 = .ok (.iconst 0, 1) := by decide +kernel
theorem dX7_total_102 : decode cX7_total 102 = .ok (.iadd, 1) := by decide +kernel
theorem dX7_total_103 : decode cX7_total 103 = .ok (.aload_n 0, 1) := by decide +kernel
theorem dX7_total_104 : decode cX7_total 104 = .ok (.getfield 59, 3) := by decide +kernel
theorem dX7_total_107 : decode cX7_total 107 = .ok (.iconst 2, 1) := by decide +kernel
theorem dX7_total_108 : decode cX7_total 108 = .ok (.baload, 1) := by decide +kernel
theorem dX7_total_109 : decode cX7_total 109 = .ok (.ifCond .eq 7, 3) := by decide +kernel
theorem dX7_total_112 : decode cX7_total 112 = .ok (.iconst 4, 1) := by decide +kernel
theorem dX7_total_113 : decode cX7_total 113 = .ok (.goto 4, 3) := by decide +kernel
theorem dX7_total_116 : decode cX7_total 116 = .ok (.iconst 0, 1) := by decide +kernel
theorem dX7_total_117 : decode cX7_total 117 = .ok (.iadd, 1) := by decide +kernel
theorem dX7_total_118 : decode cX7_total 118 = .ok (.istore 4, 2) := by decide +kernel
theorem dX7_total_120 : decode cX7_total 120 = .ok (.iload_n 1, 1) := by decide +kernel
theorem dX7_total_121 : decode cX7_total 121 = .ok (.ifCond .ne 10, 3) := by decide +kernel
theorem dX7_total_124 : decode cX7_total 124 = .ok (.aload_n 0, 1) := by decide +kernel
theorem dX7_total_125 : decode cX7_total 125 = .ok (.getfield 118, 3) := by decide +kernel
theorem dX7_total_128 : decode cX7_total 128 = .ok (.goto 56, 3) := by decide +kernel
theorem dX7_total_131 : decode cX7_total 131 = .ok (.iload_n 1, 1) := by decide +kernel
theorem dX7_total_132 : decode cX7_total 132 = .ok (.iconst 1, 1) := by decide +kernel
theorem dX7_total_133 : decode cX7_total 133 = .ok (.if_icmp .ne 10, 3) := by decide +kernel
theorem dX7_total_136 : decode cX7_total 136 = .ok (.aload_n 0, 1) := by decide +kernel
theorem dX7_total_137 : decode cX7_total 137 = .ok (.getfield 121, 3) := by decide +kernel
theorem dX7_total_140 : decode cX7_total 140 = .ok (.goto 44, 3) := by decide +kernel
theorem dX7_total_143 : decode cX7_total 143 = .ok (.iload_n 1, 1) := by decide +kernel
theorem dX7_total_144 : decode cX7_total 144 = .ok (.iconst 2, 1) := by decide +kernel
theorem dX7_total_145 : decode cX7_total 145 = .ok (.if_icmp .ne 7, 3) := by decide +kernel
theorem dX7_total_148 : decode cX7_total 148 = .ok (.iload_n 2, 1) := by decide +kernel
theorem dX7_total_149 : decode cX7_total 149 = .ok (.goto 35, 3) := by decide +kernel
theorem dX7_total_152 : decode cX7_total 152 = .ok (.iload_n 1, 1) := by decide +kernel
theorem dX7_total_153 : decode cX7_total 153 = .ok (.iconst 3, 1) := by decide +kernel
theorem dX7_total_154 : decode cX7_total 154 = .ok (.if_icmp .ne 7, 3) := by decide +kernel
theorem dX7_total_157 : decode cX7_total 157 = .ok (.iload_n 3, 1) := by decide +kernel
theorem dX7_total_158 : decode cX7_total 158 = .ok (.goto 26, 3) := by decide +kernel
theorem dX7_total_161 : decode cX7_total 161 = .ok (.iload_n 1, 1) := by decide +kernel
theorem dX7_total_162 : decode cX7_total 162 = .ok (.iconst 4, 1) := by decide +kernel
theorem dX7_total_163 : decode cX7_total 163 = .ok (.if_icmp .ne 10, 3) := by decide +kernel
theorem dX7_total_166 : decode cX7_total 166 = .ok (.aload_n 0, 1) := by decide +kernel
theorem dX7_total_167 : decode cX7_total 167 = .ok (.invokevirtual 183, 3) := by decide +kernel
theorem dX7_total_170 : decode cX7_total 170 = .ok (.goto 14, 3) := by decide +kernel
theorem dX7_total_173 : decode cX7_total 173 = .ok (.iload_n 1, 1) := by decide +kernel
theorem dX7_total_174 : decode cX7_total 174 = .ok (.iconst 5, 1) := by decide +kernel
theorem dX7_total_175 : decode cX7_total 175 = .ok (.if_icmp .ne 8, 3) := by decide +kernel
theorem dX7_total_178 : decode cX7_total 178 = .ok (.iload 4, 2) := by decide +kernel
theorem dX7_total_180 : decode cX7_total 180 = .ok (.goto 4, 3) := by decide +kernel
theorem dX7_total_183 : decode cX7_total 183 = .ok (.iconst (-1), 1) := by decide +kernel
theorem dX7_total_184 : decode cX7_total 184 = .ok (.ireturn, 1) := by decide +kernel
theorem dX7_used_0 : decode cX7_used 0 = .ok (.aload_n 0, 1) := by decide +kernel
theorem dX7_used_1 : decode cX7_used 1 = .ok (.aload_n 0, 1) := by decide +kernel
theorem dX7_used_2 : decode cX7_used 2 = .ok (.iload_n 1, 1) := by decide +kernel
theorem dX7_used_3 : decode cX7_used 3 = .ok (.invokevirtual 131, 3) := by decide +kernel
theorem dX7_used_6 : decode cX7_used 6 = .ok (.ifCond .eq 7, 3) := by decide +kernel
theorem dX7_used_9 : decode cX7_used 9 = .ok (.iconst 0, 1) := by decide +kernel
theorem dX7_used_10 : decode cX7_used 10 = .ok (.goto 4, 3) := by decide +kernel
theorem dX7_used_13 : decode cX7_used 13 = .ok (.iconst 1, 1) := by decide +kernel
theorem dX7_used_14 : decode cX7_used 14 = .ok (.putfield 89, 3) := by decide +kernel
theorem dX7_used_17 : decode cX7_used 17 = .ok (.aload_n 0, 1) := by decide +kernel
theorem dX7_used_18 : decode cX7_used 18 = .ok (.getfield 89, 3) := by decide +kernel
theorem dX7_used_21 : decode cX7_used 21 = .ok (.ifCond .le 7, 3) := by decide +kernel
theorem dX7_used_24 : decode cX7_used 24 = .ok (.iconst 0, 1) := by decide +kernel
theorem dX7_used_25 : decode cX7_used 25 = .ok (.goto 8, 3) := by decide +kernel
theorem dX7_used_28 : decode cX7_used 28 = .ok (.aload_n 0, 1) := by decide +kernel
theorem dX7_used_29 : decode cX7_used 29 = .ok (.iload_n 1, 1) := by decide +kernel
theorem dX7_used_30 : decode cX7_used 30 = .ok (.invokevirtual 138, 3) := by decide +kernel
theorem dX7_used_33 : decode cX7_used 33 = .ok (.ireturn, 1) := by decide +kernel
theorem dX7_usedBy_0 : decode cX7_usedBy 0 = .ok (.iconst 0, 1) := by decide +kernel
theorem dX7_usedBy_1 : decode cX7_usedBy 1 = .ok (.istore_n 2, 1) := by decide +kernel
theorem dX7_usedBy_2 : decode cX7_usedBy 2 = .ok (.iconst 0, 1) := by decide +kernel
theorem dX7_usedBy_3 : decode cX7_usedBy 3 = .ok (.istore_n 3, 1) := by decide +kernel
theorem dX7_usedBy_4 : decode cX7_usedBy 4 = .ok (.iload_n 3, 1) := by decide +kernel
theorem dX7_usedBy_5 : decode cX7_usedBy 5 = .ok (.aload_n 0, 1) := by decide +kernel
theorem dX7_usedBy_6 : decode cX7_usedBy 6 = .ok (.getfield 121, 3) := by decide +kernel
theorem dX7_usedBy_9 : decode cX7_usedBy 9 = .ok (.if_icmp .ge 47, 3) := by decide +kernel
theorem dX7_usedBy_12 : decode cX7_usedBy 12 = .ok (.iload_n 2, 1) := by decide +kernel
theorem dX7_usedBy_13 : decode cX7_usedBy 13 = .ok (.aload_n 0, 1) := by decide +kernel
theorem dX7_usedBy_14 : decode cX7_usedBy 14 = .ok (.getfield 47, 3) := by decide +kernel
theorem dX7_usedBy_17 : decode cX7_usedBy 17 = .ok (.iload_n 3, 1) := by decide +kernel
theorem dX7_usedBy_18 : decode cX7_usedBy 18 = .ok (.iaload, 1) := by decide +kernel
theorem dX7_usedBy_19 : decode cX7_usedBy 19 = .ok (.iload_n 1, 1) := by decide +kernel
theorem dX7_usedBy_20 : decode cX7_usedBy 20 = .ok (.if_icmp .ne 27, 3) := by decide +kernel
theorem dX7_usedBy_23 : decode cX7_usedBy 23 = .ok (.aload_n 0, 1) := by decide +kernel
theorem dX7_usedBy_24 : decode cX7_usedBy 24 = .ok (.aload_n 0, 1) := by decide +kernel
theorem dX7_usedBy_25 : decode cX7_usedBy 25 = .ok (.getfield 53, 3) := by decide +kernel
theorem dX7_usedBy_28 : decode cX7_usedBy 28 = .ok (.iload_n 3, 1) := by decide +kernel
theorem dX7_usedBy_29 : decode cX7_usedBy 29 = .ok (.iaload, 1) := by decide +kernel
theorem dX7_usedBy_30 : decode cX7_usedBy 30 = .ok (.invokevirtual 124, 3) := by decide +kernel
theorem dX7_usedBy_33 : decode cX7_usedBy 33 = .ok (.aload_n 0, 1) := by decide +kernel
theorem dX7_usedBy_34 : decode cX7_usedBy 34 = .ok (.aload_n 0, 1) := by decide +kernel
theorem dX7_usedBy_35 : decode cX7_usedBy 35 = .ok (.getfield 56, 3) := by decide +kernel
theorem dX7_usedBy_38 : decode cX7_usedBy 38 = .ok (.iload_n 3, 1) := by decide +kernel
theorem dX7_usedBy_39 : decode cX7_usedBy 39 = .ok (.iaload, 1) := by decide +kernel
theorem dX7_usedBy_40 : decode cX7_usedBy 40 = .ok (.invokevirtual 124, 3) := by decide +kernel
theorem dX7_usedBy_43 : decode cX7_usedBy 43 = .ok (.iadd, 1) := by decide +kernel
theorem dX7_usedBy_44 : decode cX7_usedBy 44 = .ok (.goto 4, 3) := by decide +kernel
theorem dX7_usedBy_47 : decode cX7_usedBy 47 = .ok (.iconst 0, 1) := by decide +kernel
theorem dX7_usedBy_48 : decode cX7_usedBy 48 = .ok (.iadd, 1) := by decide +kernel
theorem dX7_usedBy_49 : decode cX7_usedBy 49 = .ok (.istore_n 2, 1) := by decide +kernel
theorem dX7_usedBy_50 : decode cX7_usedBy 50 = .ok (.iinc 3 1, 3) := by decide +kernel
theorem dX7_usedBy_53 : decode cX7_usedBy 53 = .ok (.goto (-49), 3) := by decide +kernel
theorem dX7_usedBy_56 : decode cX7_usedBy 56 = .ok (.iconst 0, 1) := by decide +kernel
theorem dX7_usedBy_57 : decode cX7_usedBy 57 = .ok (.istore_n 3, 1) := by decide +kernel
theorem dX7_usedBy_58 : decode cX7_usedBy 58 = .ok (.iload_n 3, 1) := by decide +kernel
theorem dX7_usedBy_59 : decode cX7_usedBy 59 = .ok (.iconst 3, 1) := by decide +kernel
theorem dX7_usedBy_60 : decode cX7_usedBy 60 = .ok (.if_icmp .ge 54, 3) := by decide +kernel
theorem dX7_usedBy_63 : decode cX7_usedBy 63 = .ok (.iload_n 2, 1) := by decide +kernel
theorem dX7_usedBy_64 : decode cX7_usedBy 64 = .ok (.aload_n 0, 1) := by decide +kernel
theorem dX7_usedBy_65 : decode cX7_usedBy 65 = .ok (.getfield 59, 3) := by decide +kernel
theorem dX7_usedBy_68 : decode cX7_usedBy 68 = .ok (.iload_n 3, 1) := by decide +kernel
theorem dX7_usedBy_69 : decode cX7_usedBy 69 = .ok (.baload, 1) := by decide +kernel
theorem dX7_usedBy_70 : decode cX7_usedBy 70 = .ok (.ifCond .eq 35, 3) := by decide +kernel
theorem dX7_usedBy_73 : decode cX7_usedBy 73 = .ok (.aload_n 0, 1) := by decide +kernel
theorem dX7_usedBy_74 : decode cX7_usedBy 74 = .ok (.getfield 65, 3) := by decide +kernel
theorem dX7_usedBy_77 : decode cX7_usedBy 77 = .ok (.iload_n 3, 1) := by decide +kernel
theorem dX7_usedBy_78 : decode cX7_usedBy 78 = .ok (.iaload, 1) := by decide +kernel
theorem dX7_usedBy_79 : decode cX7_usedBy 79 = .ok (.ifCond .ne 26, 3) := by decide +kernel
theorem dX7_usedBy_82 : decode cX7_usedBy 82 = .ok (.aload_n 0, 1) := by decide +kernel
theorem dX7_usedBy_83 : decode cX7_usedBy 83 = .ok (.getfield 62, 3) := by decide +kernel
theorem dX7_usedBy_86 : decode cX7_usedBy 86 = .ok (.iload_n 3, 1) := by decide +kernel
theorem dX7_usedBy_87 : decode cX7_usedBy 87 = .ok (.iaload, 1) := by decide +kernel
theorem dX7_usedBy_88 : decode cX7_usedBy 88 = .ok (.iload_n 1, 1) := by decide +kernel
theorem dX7_usedBy_89 : decode cX7_usedBy 89 = .ok (.if_icmp .ne 16, 3) := by decide +kernel
theorem dX7_usedBy_92 : decode cX7_usedBy 92 = .ok (.aload_n 0, 1) := by decide +kernel
theorem dX7_usedBy_93 : decode cX7_usedBy 93 = .ok (.aload_n 0, 1) := by decide +kernel
theorem dX7_usedBy_94 : decode cX7_usedBy 94 = .ok (.getfield 68, 3) := by decide +kernel
theorem dX7_usedBy_97 : decode cX7_usedBy 97 = .ok (.iload_n 3, 1) := by decide +kernel
theorem dX7_usedBy_98 : decode cX7_usedBy 98 = .ok (.iaload, 1) := by decide +kernel
theorem dX7_usedBy_99 : decode cX7_usedBy 99 = .ok (.invokevirtual 124, 3) := by decide +kernel
theorem dX7_usedBy_102 : decode cX7_usedBy 102 = .ok (.goto 4, 3) := by decide +kernel
theorem dX7_usedBy_105 : decode cX7_usedBy 105 = .ok (.iconst 0, 1) := by decide +kernel
theorem dX7_usedBy_106 : decode cX7_usedBy 106 = .ok (.iadd, 1) := by decide +kernel
theorem dX7_usedBy_107 : decode cX7_usedBy 107 = .ok (.istore_n 2, 1) := by decide +kernel
theorem dX7_usedBy_108 : decode cX7_usedBy 108 = .ok (.iinc 3 1, 3) := by decide +kernel
theorem dX7_usedBy_111 : decode cX7_usedBy 111 = .ok (.goto (-53), 3) := by decide +kernel
theorem dX7_usedBy_114 : decode cX7_usedBy 114 = .ok (.iload_n 2, 1) := by decide +kernel
theorem dX7_usedBy_115 : decode cX7_usedBy 115 = .ok (.ireturn, 1) := by decide +kernel
end
section
abbrev rm_X7_thrown : Room := { frames := 0, cells := 0, slots := 0, locals := 0 }
def w_X7_thrown (post : Int32 → z_Md → Prop) (M : z_Md)  : Prop := (post (M 0 0) M)
set_option maxRecDepth 20000 in
theorem mb_X7_thrown {p : Program} {l : Launch} {e : Env} {s : State} {m : MethodId} {args : Array Value} {below : List Frame} {meth : Method} {c : Code} {D : va_G} {cy : Nat → ClassId} {A : Nat → Prop} {o : Nat} {ad : Nat → Nat} (S : CallFix p m c cX7_thrown 1 s args z_T RX7) (hlk : meth.locks = false) (hr : meth.sig.returnType = some .int) (hE : z_EM D cy s) {post : Int32 → z_Md → Prop}  (M : z_Md)  (hw : w_X7_thrown post M ) : z_V A (z_hM D cy A o ad) p l e rm_X7_thrown s m args below meth c 1 (MQ below (va_Qi post (fun (u' : z_Md) t => z_hM D cy A o ad u' t.heap) A) args s 0 0 A) 0 0 M 0 [(0, va_rf (some o))] [] := by
  refine z_aload_n (x := some o) S 0 dX7_thrown_0 rfl rfl ?_
  refine zm_g_89 S hE dX7_thrown_1 ?_
  exact z_iret S hr hlk dX7_thrown_4 (Nat.le_refl 0) (Nat.le_refl 0) hw
theorem me_X7_thrown (l : Launch) (D : va_G) (cy : Nat → ClassId) (A : Nat → Prop) (o : Nat) (ad : Nat → Nat) (post : Int32 → z_Md → Prop) (M : z_Md)  (hw : w_X7_thrown post M ) : z_Mi l yX7_thrown (Cond.code yX7_thrown cX7_thrown 1 (some .int) :: z_T) rm_X7_thrown [.ref o] (z_EM D cy) (z_hM D cy A o ad) M post 0 0 A :=
  z_met (by decide) (Nat.le_of_ble_eq_true rfl) (fun p e s m args below meth c S hlk hr hnm hE => mb_X7_thrown S hlk hr hE M  hw)
abbrev rm_X7_hear : Room := { frames := 0, cells := 0, slots := 0, locals := 0 }
def w_X7_hear (post : z_Md → Prop) (M : z_Md) (x1 : Int32) : Prop := (vp_in (M 31 0) 49 ∧ (∀ x2_1 : Int32, x2_1 = M 1 (M 31 0).toNatClampNeg → (∀ y2 : Int32, y2 = (if (x1 &&& 4) ≤ 0 then 0 else x2_1) → (∀ x3_3 : Int32, x3_3 = (x2_1 / 8) + y2 → (∀ y4 : Int32, y4 = (if (x1 &&& 2) ≤ 0 then 0 else x2_1 / 2) → (∀ y5 : Int32, y5 = (if (x1 &&& 1) ≤ 0 then 0 else x2_1 / 4) → (∀ x3_6 : Int32, x3_6 = (x3_3 + y4) + y5 → (∀ y7 : Int32, y7 = (if (x1 &&& 8) ≤ 0 then (M 30 0) + x3_6 else (M 30 0) - x3_6) → (∀ y8 : Int32, y8 = (if (-32768) ≤ y7 then (if y7 ≤ 32767 then y7 else 32767) else (-32768)) → (∀ y9 : Int32, y9 = (if 4 ≤ (x1 &&& 7) then ((z_up M 30 0 y8) 31 0) + (2 * ((x1 &&& 7) - 3)) else ((z_up M 30 0 y8) 31 0) - 1) → (∀ y10 : Int32, y10 = (if 0 ≤ y9 then (if y9 ≤ 48 then y9 else 48) else 0) → (post (z_up (z_up M 30 0 y8) 31 0 y10)))))))))))))
set_option maxRecDepth 20000 in
theorem mb_X7_hear {p : Program} {l : Launch} {e : Env} {s : State} {m : MethodId} {args : Array Value} {below : List Frame} {meth : Method} {c : Code} {D : va_G} {cy : Nat → ClassId} {A : Nat → Prop} {o : Nat} {ad : Nat → Nat} (S : CallFix p m c cX7_hear 7 s args z_T RX7) (hlk : meth.locks = false) (hr : meth.sig.returnType = none) (hE : z_EM D cy s) {post : z_Md → Prop}  (M : z_Md) (x1 : Int32) (hw : w_X7_hear post M x1) : z_V A (z_hM D cy A o ad) p l e rm_X7_hear s m args below meth c 7 (MQ below (va_Qv post (fun (u' : z_Md) t => z_hM D cy A o ad u' t.heap) A) args s 0 0 A) 0 0 M 0 [(0, va_rf (some o)), (1, .int x1)] [] := by
  refine z_aload_n (x := some o) S 0 dX7_hear_0 rfl rfl ?_
  refine zm_g_7 S hE dX7_hear_1 ?_
  refine z_aload_n (x := some o) S 0 dX7_hear_4 rfl rfl ?_
  refine zm_g_93 S hE dX7_hear_5 ?_
  obtain ⟨hi20, hw⟩ := hw
  refine z_mald (j := 1) S hE rfl rfl hi20 dX7_hear_8 ?_
  refine z_top (fun x2_1 ex2_1 => ?_)
  have hw := hw x2_1 ex2_1
  refine z_istore_n S [(2, .int x2_1), (0, va_rf (some o)), (1, .int x1)] dX7_hear_9 rfl (by decide) rfl ?_
  refine z_lv (lv' := [(0, va_rf (some o)), (1, .int x1), (2, .int x2_1)]) [1, 2, 0] rfl ?_
  refine z_iload_n S 2 dX7_hear_10 rfl rfl ?_
  refine z_bipush (v := 8) S dX7_hear_11 (by decide) ?_
  refine z_idiv S dX7_hear_13 (by decide) ?_
  refine z_istore_n S [(3, .int (x2_1 / 8)), (0, va_rf (some o)), (1, .int x1), (2, .int x2_1)] dX7_hear_14 rfl (by decide) rfl ?_
  refine z_lv (lv' := [(0, va_rf (some o)), (1, .int x1), (2, .int x2_1), (3, .int (x2_1 / 8))]) [1, 2, 3, 0] rfl ?_
  refine z_iload_n S 3 dX7_hear_15 rfl rfl ?_
  refine z_iload_n S 1 dX7_hear_16 rfl rfl ?_
  refine z_iconst (v := 4) S dX7_hear_17 (by decide) ?_
  refine z_iand S dX7_hear_18 ?_
  suffices hJ : ∀ y2 : Int32, y2 = (if (x1 &&& 4) ≤ 0 then 0 else x2_1) → z_V A (z_hM D cy A o ad) p l e rm_X7_hear s m args below meth c 7 (MQ below (va_Qv post (fun (u' : z_Md) t => z_hM D cy A o ad u' t.heap) A) args s 0 0 A) 0 0 M 27 [(0, va_rf (some o)), (1, .int x1), (2, .int x2_1)] [.int y2, .int (x2_1 / 8)] from by
    refine z_if_le S 26 dX7_hear_19 (by decide) (fun c19 => ?_) (fun c19 => ?_)
    · refine z_iconst (v := 0) S dX7_hear_26 (by decide) ?_
      refine z_lv (lv' := [(0, va_rf (some o)), (1, .int x1), (2, .int x2_1)]) [0, 1, 2] rfl ?_
      exact hJ _ (by rw [if_pos c19])
    · refine z_iload_n S 2 dX7_hear_22 rfl rfl ?_
      refine z_goto S 27 dX7_hear_23 (by decide) ?_
      refine z_lv (lv' := [(0, va_rf (some o)), (1, .int x1), (2, .int x2_1)]) [0, 1, 2] rfl ?_
      exact hJ _ (by rw [if_neg c19])
  intro y2 ey2
  have hw := hw y2 ey2
  refine z_iadd S dX7_hear_27 ?_
  refine z_top (fun x3_3 ex3_3 => ?_)
  have hw := hw x3_3 ex3_3
  refine z_istore_n S [(3, .int x3_3), (0, va_rf (some o)), (1, .int x1), (2, .int x2_1)] dX7_hear_28 rfl (by decide) rfl ?_
  refine z_lv (lv' := [(0, va_rf (some o)), (1, .int x1), (2, .int x2_1), (3, .int x3_3)]) [1, 2, 3, 0] rfl ?_
  refine z_iload_n S 3 dX7_hear_29 rfl rfl ?_
  refine z_iload_n S 1 dX7_hear_30 rfl rfl ?_
  refine z_iconst (v := 2) S dX7_hear_31 (by decide) ?_
  refine z_iand S dX7_hear_32 ?_
  suffices hJ : ∀ y4 : Int32, y4 = (if (x1 &&& 2) ≤ 0 then 0 else x2_1 / 2) → z_V A (z_hM D cy A o ad) p l e rm_X7_hear s m args below meth c 7 (MQ below (va_Qv post (fun (u' : z_Md) t => z_hM D cy A o ad u' t.heap) A) args s 0 0 A) 0 0 M 43 [(0, va_rf (some o)), (1, .int x1), (2, .int x2_1)] [.int y4, .int x3_3] from by
    refine z_if_le S 42 dX7_hear_33 (by decide) (fun c18 => ?_) (fun c18 => ?_)
    · refine z_iconst (v := 0) S dX7_hear_42 (by decide) ?_
      refine z_lv (lv' := [(0, va_rf (some o)), (1, .int x1), (2, .int x2_1)]) [0, 1, 2] rfl ?_
      exact hJ _ (by rw [if_pos c18])
    · refine z_iload_n S 2 dX7_hear_36 rfl rfl ?_
      refine z_iconst (v := 2) S dX7_hear_37 (by decide) ?_
      refine z_idiv S dX7_hear_38 (by decide) ?_
      refine z_goto S 43 dX7_hear_39 (by decide) ?_
      refine z_lv (lv' := [(0, va_rf (some o)), (1, .int x1), (2, .int x2_1)]) [0, 1, 2] rfl ?_
      exact hJ _ (by rw [if_neg c18])
  intro y4 ey4
  have hw := hw y4 ey4
  refine z_iadd S dX7_hear_43 ?_
  refine z_istore_n S [(3, .int (x3_3 + y4)), (0, va_rf (some o)), (1, .int x1), (2, .int x2_1)] dX7_hear_44 rfl (by decide) rfl ?_
  refine z_lv (lv' := [(0, va_rf (some o)), (1, .int x1), (2, .int x2_1), (3, .int (x3_3 + y4))]) [1, 2, 3, 0] rfl ?_
  refine z_iload_n S 3 dX7_hear_45 rfl rfl ?_
  refine z_iload_n S 1 dX7_hear_46 rfl rfl ?_
  refine z_iconst (v := 1) S dX7_hear_47 (by decide) ?_
  refine z_iand S dX7_hear_48 ?_
  suffices hJ : ∀ y5 : Int32, y5 = (if (x1 &&& 1) ≤ 0 then 0 else x2_1 / 4) → z_V A (z_hM D cy A o ad) p l e rm_X7_hear s m args below meth c 7 (MQ below (va_Qv post (fun (u' : z_Md) t => z_hM D cy A o ad u' t.heap) A) args s 0 0 A) 0 0 M 59 [(0, va_rf (some o)), (1, .int x1)] [.int y5, .int (x3_3 + y4)] from by
    refine z_if_le S 58 dX7_hear_49 (by decide) (fun c17 => ?_) (fun c17 => ?_)
    · refine z_iconst (v := 0) S dX7_hear_58 (by decide) ?_
      refine z_lv (lv' := [(0, va_rf (some o)), (1, .int x1)]) [0, 1] rfl ?_
      exact hJ _ (by rw [if_pos c17])
    · refine z_iload_n S 2 dX7_hear_52 rfl rfl ?_
      refine z_iconst (v := 4) S dX7_hear_53 (by decide) ?_
      refine z_idiv S dX7_hear_54 (by decide) ?_
      refine z_goto S 59 dX7_hear_55 (by decide) ?_
      refine z_lv (lv' := [(0, va_rf (some o)), (1, .int x1)]) [0, 1] rfl ?_
      exact hJ _ (by rw [if_neg c17])
  intro y5 ey5
  have hw := hw y5 ey5
  refine z_iadd S dX7_hear_59 ?_
  refine z_top (fun x3_6 ex3_6 => ?_)
  have hw := hw x3_6 ex3_6
  refine z_istore_n S [(3, .int x3_6), (0, va_rf (some o)), (1, .int x1)] dX7_hear_60 rfl (by decide) rfl ?_
  refine z_lv (lv' := [(0, va_rf (some o)), (1, .int x1), (3, .int x3_6)]) [1, 2, 0] rfl ?_
  refine z_iload_n S 1 dX7_hear_61 rfl rfl ?_
  refine z_bipush (v := 8) S dX7_hear_62 (by decide) ?_
  refine z_iand S dX7_hear_64 ?_
  suffices hJ : ∀ y7 : Int32, y7 = (if (x1 &&& 8) ≤ 0 then (M 30 0) + x3_6 else (M 30 0) - x3_6) → z_V A (z_hM D cy A o ad) p l e rm_X7_hear s m args below meth c 7 (MQ below (va_Qv post (fun (u' : z_Md) t => z_hM D cy A o ad u' t.heap) A) args s 0 0 A) 0 0 M 83 [(0, va_rf (some o)), (1, .int x1)] [.int y7] from by
    refine z_if_le S 77 dX7_hear_65 (by decide) (fun c16 => ?_) (fun c16 => ?_)
    · refine z_aload_n (x := some o) S 0 dX7_hear_77 rfl rfl ?_
      refine zm_g_96 S hE dX7_hear_78 ?_
      refine z_iload_n S 2 dX7_hear_81 rfl rfl ?_
      refine z_iadd S dX7_hear_82 ?_
      refine z_lv (lv' := [(0, va_rf (some o)), (1, .int x1)]) [0, 1] rfl ?_
      exact hJ _ (by rw [if_pos c16])
    · refine z_aload_n (x := some o) S 0 dX7_hear_68 rfl rfl ?_
      refine zm_g_96 S hE dX7_hear_69 ?_
      refine z_iload_n S 2 dX7_hear_72 rfl rfl ?_
      refine z_isub S dX7_hear_73 ?_
      refine z_goto S 83 dX7_hear_74 (by decide) ?_
      refine z_lv (lv' := [(0, va_rf (some o)), (1, .int x1)]) [0, 1] rfl ?_
      exact hJ _ (by rw [if_neg c16])
  intro y7 ey7
  have hw := hw y7 ey7
  refine z_istore S [(4, .int y7), (0, va_rf (some o)), (1, .int x1)] dX7_hear_83 (by decide) rfl ?_
  refine z_lv (lv' := [(0, va_rf (some o)), (1, .int x1), (4, .int y7)]) [1, 2, 0] rfl ?_
  refine z_aload_n (x := some o) S 0 dX7_hear_85 rfl rfl ?_
  refine z_iload S 2 dX7_hear_86 rfl ?_
  refine z_sipush (v := (-32768)) S dX7_hear_88 (by decide) ?_
  suffices hJ : ∀ y8 : Int32, y8 = (if (-32768) ≤ y7 then (if y7 ≤ 32767 then y7 else 32767) else (-32768)) → z_V A (z_hM D cy A o ad) p l e rm_X7_hear s m args below meth c 7 (MQ below (va_Qv post (fun (u' : z_Md) t => z_hM D cy A o ad u' t.heap) A) args s 0 0 A) 0 0 M 116 [(0, va_rf (some o)), (1, .int x1)] [.int y8, va_rf (some o)] from by
    refine z_icmp_ge S 100 dX7_hear_91 (by decide) (fun c14 => ?_) (fun c14 => ?_)
    · refine z_iload S 2 dX7_hear_100 rfl ?_
      refine z_sipush (v := 32767) S dX7_hear_102 (by decide) ?_
      refine z_icmp_le S 114 dX7_hear_105 (by decide) (fun c15 => ?_) (fun c15 => ?_)
      · refine z_iload S 2 dX7_hear_114 rfl ?_
        refine z_lv (lv' := [(0, va_rf (some o)), (1, .int x1)]) [0, 1] rfl ?_
        exact hJ _ (by rw [if_pos c14, if_pos c15])
      · refine z_sipush (v := 32767) S dX7_hear_108 (by decide) ?_
        refine z_goto S 116 dX7_hear_111 (by decide) ?_
        refine z_lv (lv' := [(0, va_rf (some o)), (1, .int x1)]) [0, 1] rfl ?_
        exact hJ _ (by rw [if_pos c14, if_neg c15])
    · refine z_sipush (v := (-32768)) S dX7_hear_94 (by decide) ?_
      refine z_goto S 116 dX7_hear_97 (by decide) ?_
      refine z_lv (lv' := [(0, va_rf (some o)), (1, .int x1)]) [0, 1] rfl ?_
      exact hJ _ (by rw [if_neg c14])
  intro y8 ey8
  have hw := hw y8 ey8
  refine zm_p_96 S hE dX7_hear_116 ?_
  refine z_iload_n S 1 dX7_hear_119 rfl rfl ?_
  refine z_bipush (v := 7) S dX7_hear_120 (by decide) ?_
  refine z_iand S dX7_hear_122 ?_
  refine z_istore S [(5, .int (x1 &&& 7)), (0, va_rf (some o)), (1, .int x1)] dX7_hear_123 (by decide) rfl ?_
  refine z_lv (lv' := [(0, va_rf (some o)), (1, .int x1), (5, .int (x1 &&& 7))]) [1, 2, 0] rfl ?_
  refine z_iload S 2 dX7_hear_125 rfl ?_
  refine z_iconst (v := 4) S dX7_hear_127 (by decide) ?_
  suffices hJ : ∀ y9 : Int32, y9 = (if 4 ≤ (x1 &&& 7) then ((z_up M 30 0 y8) 31 0) + (2 * ((x1 &&& 7) - 3)) else ((z_up M 30 0 y8) 31 0) - 1) → z_V A (z_hM D cy A o ad) p l e rm_X7_hear s m args below meth c 7 (MQ below (va_Qv post (fun (u' : z_Md) t => z_hM D cy A o ad u' t.heap) A) args s 0 0 A) 0 0 (z_up M 30 0 y8) 151 [(0, va_rf (some o))] [.int y9] from by
    refine z_icmp_ge S 140 dX7_hear_128 (by decide) (fun c13 => ?_) (fun c13 => ?_)
    · refine z_aload_n (x := some o) S 0 dX7_hear_140 rfl rfl ?_
      refine zm_g_93 S hE dX7_hear_141 ?_
      refine z_iconst (v := 2) S dX7_hear_144 (by decide) ?_
      refine z_iload S 2 dX7_hear_145 rfl ?_
      refine z_iconst (v := 3) S dX7_hear_147 (by decide) ?_
      refine z_isub S dX7_hear_148 ?_
      refine z_imul S dX7_hear_149 ?_
      refine z_iadd S dX7_hear_150 ?_
      refine z_lv (lv' := [(0, va_rf (some o))]) [0] rfl ?_
      exact hJ _ (by rw [if_pos c13])
    · refine z_aload_n (x := some o) S 0 dX7_hear_131 rfl rfl ?_
      refine zm_g_93 S hE dX7_hear_132 ?_
      refine z_iconst (v := 1) S dX7_hear_135 (by decide) ?_
      refine z_isub S dX7_hear_136 ?_
      refine z_goto S 151 dX7_hear_137 (by decide) ?_
      refine z_lv (lv' := [(0, va_rf (some o))]) [0] rfl ?_
      exact hJ _ (by rw [if_neg c13])
  intro y9 ey9
  have hw := hw y9 ey9
  refine z_istore S [(6, .int y9), (0, va_rf (some o))] dX7_hear_151 (by decide) rfl ?_
  refine z_lv (lv' := [(0, va_rf (some o)), (6, .int y9)]) [1, 0] rfl ?_
  refine z_aload_n (x := some o) S 0 dX7_hear_153 rfl rfl ?_
  refine z_iload S 1 dX7_hear_154 rfl ?_
  suffices hJ : ∀ y10 : Int32, y10 = (if 0 ≤ y9 then (if y9 ≤ 48 then y9 else 48) else 0) → z_V A (z_hM D cy A o ad) p l e rm_X7_hear s m args below meth c 7 (MQ below (va_Qv post (fun (u' : z_Md) t => z_hM D cy A o ad u' t.heap) A) args s 0 0 A) 0 0 (z_up M 30 0 y8) 177 [] [.int y10, va_rf (some o)] from by
    refine z_if_ge S 163 dX7_hear_156 (by decide) (fun c11 => ?_) (fun c11 => ?_)
    · refine z_iload S 1 dX7_hear_163 rfl ?_
      refine z_bipush (v := 48) S dX7_hear_165 (by decide) ?_
      refine z_icmp_le S 175 dX7_hear_167 (by decide) (fun c12 => ?_) (fun c12 => ?_)
      · refine z_iload S 1 dX7_hear_175 rfl ?_
        refine z_lv (lv' := []) [] rfl ?_
        exact hJ _ (by rw [if_pos c11, if_pos c12])
      · refine z_bipush (v := 48) S dX7_hear_170 (by decide) ?_
        refine z_goto S 177 dX7_hear_172 (by decide) ?_
        refine z_lv (lv' := []) [] rfl ?_
        exact hJ _ (by rw [if_pos c11, if_neg c12])
    · refine z_iconst (v := 0) S dX7_hear_159 (by decide) ?_
      refine z_goto S 177 dX7_hear_160 (by decide) ?_
      refine z_lv (lv' := []) [] rfl ?_
      exact hJ _ (by rw [if_neg c11])
  intro y10 ey10
  have hw := hw y10 ey10
  refine zm_p_93 S hE dX7_hear_177 ?_
  exact z_vret S hr hlk dX7_hear_180 (Nat.le_refl 0) (Nat.le_refl 0) hw
theorem me_X7_hear (l : Launch) (D : va_G) (cy : Nat → ClassId) (A : Nat → Prop) (o : Nat) (ad : Nat → Nat) (post : z_Md → Prop) (M : z_Md) (x1 : Int32) (hw : w_X7_hear post M x1) : z_Mv l yX7_hear (Cond.code yX7_hear cX7_hear 7 none :: z_T) rm_X7_hear [.ref o, .int x1] (z_EM D cy) (z_hM D cy A o ad) M post 0 0 A :=
  z_met (by decide) (Nat.le_of_ble_eq_true rfl) (fun p e s m args below meth c S hlk hr hnm hE => mb_X7_hear S hlk hr hE M x1 hw)
abbrev rm_X7_code : Room := { frames := 1, cells := 0, slots := 0, locals := 26 }
def w_X7_code_43 (post : Int32 → z_Md → Prop) : Nat → z_Md → Int32 → Int32 → Int32 → Int32 → Prop
  | 0 => fun _ _ _ _ _ => False
  | n + 1 => fun M x2 x3 x4 x5 => ((3 ≤ x5 → (w_X7_hear (fun M2 => (post x4 M2)) M x4)) ∧ (¬ 3 ≤ x5 → (∀ x6_4 : Int32, x6_4 = x2 >>> (x5 &&& 31) → (∀ y5 : Int32, y5 = (if x3 < x6_4 then x3 else x3 - x6_4) → (∀ y6 : Int32, y6 = (if x3 < x6_4 then x4 else x4 ||| (4 >>> (x5 &&& 31))) → (w_X7_code_43 post n M x2 y5 y6 (x5 + 1)))))))
def w_X7_code (post : Int32 → z_Md → Prop) (M : z_Md) (x1 : Int32) : Prop := (vp_in (M 31 0) 49 ∧ (∀ x2_1 : Int32, x2_1 = M 1 (M 31 0).toNatClampNeg → (∀ x3_2 : Int32, x3_2 = x1 - (M 30 0) → (∀ y3 : Int32, y3 = (if 0 ≤ x3_2 then 0 else 8) → (∀ y4 : Int32, y4 = (if 0 ≤ x3_2 then x3_2 else -x3_2) → (∃ n0 : Nat, w_X7_code_43 post n0 M x2_1 y4 y3 0))))))
set_option maxRecDepth 20000 in
theorem mb_X7_code_43 {p : Program} {l : Launch} {e : Env} {s : State} {m : MethodId} {args : Array Value} {below : List Frame} {meth : Method} {c : Code} {D : va_G} {cy : Nat → ClassId} {A : Nat → Prop} {o : Nat} {ad : Nat → Nat} (S : CallFix p m c cX7_code 7 s args z_T RX7) (hlk : meth.locks = false) (hr : meth.sig.returnType = some .int) (hE : z_EM D cy s) {post : Int32 → z_Md → Prop}  : ∀ (n : Nat) (M : z_Md) (x2 : Int32) (x3 : Int32) (x4 : Int32) (x5 : Int32), w_X7_code_43 post n M x2 x3 x4 x5 → z_V A (z_hM D cy A o ad) p l e rm_X7_code s m args below meth c 7 (MQ below (va_Qi post (fun (u' : z_Md) t => z_hM D cy A o ad u' t.heap) A) args s 0 0 A) 0 0 M 43 [(0, va_rf (some o)), (2, .int x2), (3, .int x3), (4, .int x4), (5, .int x5)] [] := by
  intro n
  induction n with
  | zero => intro M x2 x3 x4 x5 hw; exact hw.elim
  | succ n ih =>
    intro M x2 x3 x4 x5 hw
    refine z_iload S 4 dX7_code_43 rfl ?_
    refine z_iconst (v := 3) S dX7_code_45 (by decide) ?_
    refine z_icmp_ge S 81 dX7_code_46 (by decide) (fun c1 => ?_) (fun c1 => ?_)
    · have hw := hw.1 c1
      refine z_aload_n (x := some o) S 0 dX7_code_81 rfl rfl ?_
      refine z_iload S 3 dX7_code_82 rfl ?_
      refine z_callVv (As := [.int x4]) (st := []) S (z_EMok D cy A) hE (me_X7_hear l D cy A o ad _ M x4 hw) gV_X7_99 hdV_X7_hear ⟨Nat.le_of_ble_eq_true rfl, Nat.le_of_ble_eq_true rfl⟩ rfl rfl (z_recvM hE) (fun _ h => h) (fun _ _ _ _ h => h) rfl (Nat.le_trans z_s0 (by decide)) dX7_code_84 ⟨Nat.le_of_ble_eq_true rfl, Nat.le_of_ble_eq_true rfl⟩ rfl (fun M2 hw => ?_)
      refine z_iload S 3 dX7_code_87 rfl ?_
      exact z_iret S hr hlk dX7_code_89 (Nat.le_refl 0) (Nat.le_refl 0) hw
    · have hw := hw.2 c1
      refine z_iload_n S 1 dX7_code_49 rfl rfl ?_
      refine z_iload S 4 dX7_code_50 rfl ?_
      refine z_ishr S dX7_code_52 ?_
      refine z_top (fun x6_4 ex6_4 => ?_)
      have hw := hw x6_4 ex6_4
      refine z_istore S [(6, .int x6_4), (0, va_rf (some o)), (2, .int x2), (3, .int x3), (4, .int x4), (5, .int x5)] dX7_code_53 (by decide) rfl ?_
      refine z_lv (lv' := [(0, va_rf (some o)), (2, .int x2), (3, .int x3), (4, .int x4), (5, .int x5), (6, .int x6_4)]) [1, 2, 3, 4, 5, 0] rfl ?_
      refine z_iload_n S 2 dX7_code_55 rfl rfl ?_
      refine z_iload S 5 dX7_code_56 rfl ?_
      suffices hJ : ∀ y5 : Int32, y5 = (if x3 < x6_4 then x3 else x3 - x6_4) → ∀ y6 : Int32, y6 = (if x3 < x6_4 then x4 else x4 ||| (4 >>> (x5 &&& 31))) → z_V A (z_hM D cy A o ad) p l e rm_X7_code s m args below meth c 7 (MQ below (va_Qi post (fun (u' : z_Md) t => z_hM D cy A o ad u' t.heap) A) args s 0 0 A) 0 0 M 75 [(0, va_rf (some o)), (2, .int x2), (3, .int y5), (4, .int y6), (5, .int x5)] [] from by
        refine z_icmp_lt S 75 dX7_code_58 (by decide) (fun c7 => ?_) (fun c7 => ?_)
        · refine z_lv (lv' := [(0, va_rf (some o)), (2, .int x2), (3, .int x3), (4, .int x4), (5, .int x5)]) [0, 1, 2, 3, 4] rfl ?_
          exact hJ _ (by rw [if_pos c7]) _ (by rw [if_pos c7])
        · refine z_iload S 3 dX7_code_61 rfl ?_
          refine z_iconst (v := 4) S dX7_code_63 (by decide) ?_
          refine z_iload S 4 dX7_code_64 rfl ?_
          refine z_ishr S dX7_code_66 ?_
          refine z_ior S dX7_code_67 ?_
          refine z_istore S [(4, .int (x4 ||| (4 >>> (x5 &&& 31)))), (0, va_rf (some o)), (2, .int x2), (3, .int x3), (5, .int x5), (6, .int x6_4)] dX7_code_68 (by decide) rfl ?_
          refine z_lv (lv' := [(0, va_rf (some o)), (2, .int x2), (3, .int x3), (4, .int (x4 ||| (4 >>> (x5 &&& 31)))), (5, .int x5), (6, .int x6_4)]) [1, 2, 3, 0, 4, 5] rfl ?_
          refine z_iload_n S 2 dX7_code_70 rfl rfl ?_
          refine z_iload S 5 dX7_code_71 rfl ?_
          refine z_isub S dX7_code_73 ?_
          refine z_istore_n S [(3, .int (x3 - x6_4)), (0, va_rf (some o)), (2, .int x2), (4, .int (x4 ||| (4 >>> (x5 &&& 31)))), (5, .int x5), (6, .int x6_4)] dX7_code_74 rfl (by decide) rfl ?_
          refine z_lv (lv' := [(0, va_rf (some o)), (2, .int x2), (3, .int (x3 - x6_4)), (4, .int (x4 ||| (4 >>> (x5 &&& 31)))), (5, .int x5), (6, .int x6_4)]) [1, 2, 0, 3, 4, 5] rfl ?_
          refine z_lv (lv' := [(0, va_rf (some o)), (2, .int x2), (3, .int (x3 - x6_4)), (4, .int (x4 ||| (4 >>> (x5 &&& 31)))), (5, .int x5)]) [0, 1, 2, 3, 4] rfl ?_
          exact hJ _ (by rw [if_neg c7]) _ (by rw [if_neg c7])
      intro y5 ey5
      have hw := hw y5 ey5
      intro y6 ey6
      have hw := hw y6 ey6
      refine z_iinc (v := x5 + 1) (pl := 4) S [(5, .int (x5 + 1)), (0, va_rf (some o)), (2, .int x2), (3, .int y5), (4, .int y6)] dX7_code_75 rfl rfl (by decide) rfl ?_
      refine z_lv (lv' := [(0, va_rf (some o)), (2, .int x2), (3, .int y5), (4, .int y6), (5, .int (x5 + 1))]) [1, 2, 3, 4, 0] rfl ?_
      refine z_goto S 43 dX7_code_78 (by decide) ?_
      exact ih M x2 y5 y6 (x5 + 1) hw
set_option maxRecDepth 20000 in
theorem mb_X7_code {p : Program} {l : Launch} {e : Env} {s : State} {m : MethodId} {args : Array Value} {below : List Frame} {meth : Method} {c : Code} {D : va_G} {cy : Nat → ClassId} {A : Nat → Prop} {o : Nat} {ad : Nat → Nat} (S : CallFix p m c cX7_code 7 s args z_T RX7) (hlk : meth.locks = false) (hr : meth.sig.returnType = some .int) (hE : z_EM D cy s) {post : Int32 → z_Md → Prop}  (M : z_Md) (x1 : Int32) (hw : w_X7_code post M x1) : z_V A (z_hM D cy A o ad) p l e rm_X7_code s m args below meth c 7 (MQ below (va_Qi post (fun (u' : z_Md) t => z_hM D cy A o ad u' t.heap) A) args s 0 0 A) 0 0 M 0 [(0, va_rf (some o)), (1, .int x1)] [] := by
  refine z_aload_n (x := some o) S 0 dX7_code_0 rfl rfl ?_
  refine zm_g_7 S hE dX7_code_1 ?_
  refine z_aload_n (x := some o) S 0 dX7_code_4 rfl rfl ?_
  refine zm_g_93 S hE dX7_code_5 ?_
  obtain ⟨hi7, hw⟩ := hw
  refine z_mald (j := 1) S hE rfl rfl hi7 dX7_code_8 ?_
  refine z_top (fun x2_1 ex2_1 => ?_)
  have hw := hw x2_1 ex2_1
  refine z_istore_n S [(2, .int x2_1), (0, va_rf (some o)), (1, .int x1)] dX7_code_9 rfl (by decide) rfl ?_
  refine z_lv (lv' := [(0, va_rf (some o)), (1, .int x1), (2, .int x2_1)]) [1, 2, 0] rfl ?_
  refine z_iload_n S 1 dX7_code_10 rfl rfl ?_
  refine z_aload_n (x := some o) S 0 dX7_code_11 rfl rfl ?_
  refine zm_g_96 S hE dX7_code_12 ?_
  refine z_isub S dX7_code_15 ?_
  refine z_top (fun x3_2 ex3_2 => ?_)
  have hw := hw x3_2 ex3_2
  refine z_istore_n S [(3, .int x3_2), (0, va_rf (some o)), (1, .int x1), (2, .int x2_1)] dX7_code_16 rfl (by decide) rfl ?_
  refine z_lv (lv' := [(0, va_rf (some o)), (1, .int x1), (2, .int x2_1), (3, .int x3_2)]) [1, 2, 3, 0] rfl ?_
  refine z_iload_n S 3 dX7_code_17 rfl rfl ?_
  suffices hJ : ∀ y3 : Int32, y3 = (if 0 ≤ x3_2 then 0 else 8) → z_V A (z_hM D cy A o ad) p l e rm_X7_code s m args below meth c 7 (MQ below (va_Qi post (fun (u' : z_Md) t => z_hM D cy A o ad u' t.heap) A) args s 0 0 A) 0 0 M 27 [(0, va_rf (some o)), (2, .int x2_1), (3, .int x3_2)] [.int y3] from by
    refine z_if_ge S 26 dX7_code_18 (by decide) (fun c6 => ?_) (fun c6 => ?_)
    · refine z_iconst (v := 0) S dX7_code_26 (by decide) ?_
      refine z_lv (lv' := [(0, va_rf (some o)), (2, .int x2_1), (3, .int x3_2)]) [0, 2, 3] rfl ?_
      exact hJ _ (by rw [if_pos c6])
    · refine z_bipush (v := 8) S dX7_code_21 (by decide) ?_
      refine z_goto S 27 dX7_code_23 (by decide) ?_
      refine z_lv (lv' := [(0, va_rf (some o)), (2, .int x2_1), (3, .int x3_2)]) [0, 2, 3] rfl ?_
      exact hJ _ (by rw [if_neg c6])
  intro y3 ey3
  have hw := hw y3 ey3
  refine z_istore S [(4, .int y3), (0, va_rf (some o)), (2, .int x2_1), (3, .int x3_2)] dX7_code_27 (by decide) rfl ?_
  refine z_lv (lv' := [(0, va_rf (some o)), (2, .int x2_1), (3, .int x3_2), (4, .int y3)]) [1, 2, 3, 0] rfl ?_
  refine z_iload_n S 2 dX7_code_29 rfl rfl ?_
  suffices hJ : ∀ y4 : Int32, y4 = (if 0 ≤ x3_2 then x3_2 else -x3_2) → z_V A (z_hM D cy A o ad) p l e rm_X7_code s m args below meth c 7 (MQ below (va_Qi post (fun (u' : z_Md) t => z_hM D cy A o ad u' t.heap) A) args s 0 0 A) 0 0 M 39 [(0, va_rf (some o)), (2, .int x2_1), (4, .int y3)] [.int y4] from by
    refine z_if_ge S 38 dX7_code_30 (by decide) (fun c5 => ?_) (fun c5 => ?_)
    · refine z_iload_n S 2 dX7_code_38 rfl rfl ?_
      refine z_lv (lv' := [(0, va_rf (some o)), (2, .int x2_1), (4, .int y3)]) [0, 1, 3] rfl ?_
      exact hJ _ (by rw [if_pos c5])
    · refine z_iload_n S 2 dX7_code_33 rfl rfl ?_
      refine z_ineg S dX7_code_34 ?_
      refine z_goto S 39 dX7_code_35 (by decide) ?_
      refine z_lv (lv' := [(0, va_rf (some o)), (2, .int x2_1), (4, .int y3)]) [0, 1, 3] rfl ?_
      exact hJ _ (by rw [if_neg c5])
  intro y4 ey4
  have hw := hw y4 ey4
  refine z_istore_n S [(3, .int y4), (0, va_rf (some o)), (2, .int x2_1), (4, .int y3)] dX7_code_39 rfl (by decide) rfl ?_
  refine z_lv (lv' := [(0, va_rf (some o)), (2, .int x2_1), (3, .int y4), (4, .int y3)]) [1, 2, 0, 3] rfl ?_
  refine z_iconst (v := 0) S dX7_code_40 (by decide) ?_
  refine z_istore S [(5, .int 0), (0, va_rf (some o)), (2, .int x2_1), (3, .int y4), (4, .int y3)] dX7_code_41 (by decide) rfl ?_
  refine z_lv (lv' := [(0, va_rf (some o)), (2, .int x2_1), (3, .int y4), (4, .int y3), (5, .int 0)]) [1, 2, 3, 4, 0] rfl ?_
  obtain ⟨n0, hw⟩ := hw
  exact mb_X7_code_43 S hlk hr hE n0 M x2_1 y4 y3 0 hw
theorem me_X7_code (l : Launch) (D : va_G) (cy : Nat → ClassId) (A : Nat → Prop) (o : Nat) (ad : Nat → Nat) (post : Int32 → z_Md → Prop) (M : z_Md) (x1 : Int32) (hw : w_X7_code post M x1) : z_Mi l yX7_code (Cond.code yX7_code cX7_code 7 (some .int) :: z_T) rm_X7_code [.ref o, .int x1] (z_EM D cy) (z_hM D cy A o ad) M post 0 0 A :=
  z_met (by decide) (Nat.le_of_ble_eq_true rfl) (fun p e s m args below meth c S hlk hr hnm hE => mb_X7_code S hlk hr hE M x1 hw)
abbrev rm_X7_freeBlock : Room := { frames := 0, cells := 0, slots := 0, locals := 0 }
def w_X7_freeBlock_5 (post : Int32 → z_Md → Prop) : Nat → z_Md → Int32 → Int32 → Prop
  | 0 => fun _ _ _ => False
  | n + 1 => fun M x1 x2 => ((x2 < 0 → (post x1 M)) ∧ (¬ x2 < 0 → (vp_in x2 40 ∧ (∀ y2 : Int32, y2 = (if (M 2 x2.toNatClampNeg) = 0 then x2 else x1) → (w_X7_freeBlock_5 post n M y2 (x2 + (-1)))))))
def w_X7_freeBlock (post : Int32 → z_Md → Prop) (M : z_Md)  : Prop := (∃ n0 : Nat, w_X7_freeBlock_5 post n0 M (-1) 39)
set_option maxRecDepth 20000 in
theorem mb_X7_freeBlock_5 {p : Program} {l : Launch} {e : Env} {s : State} {m : MethodId} {args : Array Value} {below : List Frame} {meth : Method} {c : Code} {D : va_G} {cy : Nat → ClassId} {A : Nat → Prop} {o : Nat} {ad : Nat → Nat} (S : CallFix p m c cX7_freeBlock 3 s args z_T RX7) (hlk : meth.locks = false) (hr : meth.sig.returnType = some .int) (hE : z_EM D cy s) {post : Int32 → z_Md → Prop}  : ∀ (n : Nat) (M : z_Md) (x1 : Int32) (x2 : Int32), w_X7_freeBlock_5 post n M x1 x2 → z_V A (z_hM D cy A o ad) p l e rm_X7_freeBlock s m args below meth c 3 (MQ below (va_Qi post (fun (u' : z_Md) t => z_hM D cy A o ad u' t.heap) A) args s 0 0 A) 0 0 M 5 [(0, va_rf (some o)), (1, .int x1), (2, .int x2)] [] := by
  intro n
  induction n with
  | zero => intro M x1 x2 hw; exact hw.elim
  | succ n ih =>
    intro M x1 x2 hw
    refine z_iload_n S 2 dX7_freeBlock_5 rfl rfl ?_
    refine z_if_lt S 30 dX7_freeBlock_6 (by decide) (fun c1 => ?_) (fun c1 => ?_)
    · have hw := hw.1 c1
      refine z_iload_n S 1 dX7_freeBlock_30 rfl rfl ?_
      exact z_iret S hr hlk dX7_freeBlock_31 (Nat.le_refl 0) (Nat.le_refl 0) hw
    · have hw := hw.2 c1
      refine z_aload_n (x := some o) S 0 dX7_freeBlock_9 rfl rfl ?_
      refine zm_g_13 S hE dX7_freeBlock_10 ?_
      refine z_iload_n S 2 dX7_freeBlock_13 rfl rfl ?_
      obtain ⟨hi4, hw⟩ := hw
      refine z_mald (j := 2) S hE rfl rfl hi4 dX7_freeBlock_14 ?_
      suffices hJ : ∀ y2 : Int32, y2 = (if (M 2 x2.toNatClampNeg) = 0 then x2 else x1) → z_V A (z_hM D cy A o ad) p l e rm_X7_freeBlock s m args below meth c 3 (MQ below (va_Qi post (fun (u' : z_Md) t => z_hM D cy A o ad u' t.heap) A) args s 0 0 A) 0 0 M 23 [(0, va_rf (some o)), (2, .int x2)] [.int y2] from by
        refine z_if_ne S 22 dX7_freeBlock_15 (by decide) (fun c3 => ?_) (fun c3 => ?_)
        · refine z_iload_n S 1 dX7_freeBlock_22 rfl rfl ?_
          refine z_lv (lv' := [(0, va_rf (some o)), (2, .int x2)]) [0, 2] rfl ?_
          exact hJ _ (by rw [if_neg c3])
        · refine z_iload_n S 2 dX7_freeBlock_18 rfl rfl ?_
          refine z_goto S 23 dX7_freeBlock_19 (by decide) ?_
          refine z_lv (lv' := [(0, va_rf (some o)), (2, .int x2)]) [0, 2] rfl ?_
          exact hJ _ (by rw [if_pos c3])
      intro y2 ey2
      have hw := hw y2 ey2
      refine z_istore_n S [(1, .int y2), (0, va_rf (some o)), (2, .int x2)] dX7_freeBlock_23 rfl (by decide) rfl ?_
      refine z_lv (lv' := [(0, va_rf (some o)), (1, .int y2), (2, .int x2)]) [1, 0, 2] rfl ?_
      refine z_iinc (v := x2 + (-1)) (pl := 2) S [(2, .int (x2 + (-1))), (0, va_rf (some o)), (1, .int y2)] dX7_freeBlock_24 rfl rfl (by decide) rfl ?_
      refine z_lv (lv' := [(0, va_rf (some o)), (1, .int y2), (2, .int (x2 + (-1)))]) [1, 2, 0] rfl ?_
      refine z_goto S 5 dX7_freeBlock_27 (by decide) ?_
      exact ih M y2 (x2 + (-1)) hw
set_option maxRecDepth 20000 in
theorem mb_X7_freeBlock {p : Program} {l : Launch} {e : Env} {s : State} {m : MethodId} {args : Array Value} {below : List Frame} {meth : Method} {c : Code} {D : va_G} {cy : Nat → ClassId} {A : Nat → Prop} {o : Nat} {ad : Nat → Nat} (S : CallFix p m c cX7_freeBlock 3 s args z_T RX7) (hlk : meth.locks = false) (hr : meth.sig.returnType = some .int) (hE : z_EM D cy s) {post : Int32 → z_Md → Prop}  (M : z_Md)  (hw : w_X7_freeBlock post M ) : z_V A (z_hM D cy A o ad) p l e rm_X7_freeBlock s m args below meth c 3 (MQ below (va_Qi post (fun (u' : z_Md) t => z_hM D cy A o ad u' t.heap) A) args s 0 0 A) 0 0 M 0 [(0, va_rf (some o))] [] := by
  refine z_iconst (v := (-1)) S dX7_freeBlock_0 (by decide) ?_
  refine z_istore_n S [(1, .int (-1)), (0, va_rf (some o))] dX7_freeBlock_1 rfl (by decide) rfl ?_
  refine z_lv (lv' := [(0, va_rf (some o)), (1, .int (-1))]) [1, 0] rfl ?_
  refine z_bipush (v := 39) S dX7_freeBlock_2 (by decide) ?_
  refine z_istore_n S [(2, .int 39), (0, va_rf (some o)), (1, .int (-1))] dX7_freeBlock_4 rfl (by decide) rfl ?_
  refine z_lv (lv' := [(0, va_rf (some o)), (1, .int (-1)), (2, .int 39)]) [1, 2, 0] rfl ?_
  obtain ⟨n0, hw⟩ := hw
  exact mb_X7_freeBlock_5 S hlk hr hE n0 M (-1) 39 hw
theorem me_X7_freeBlock (l : Launch) (D : va_G) (cy : Nat → ClassId) (A : Nat → Prop) (o : Nat) (ad : Nat → Nat) (post : Int32 → z_Md → Prop) (M : z_Md)  (hw : w_X7_freeBlock post M ) : z_Mi l yX7_freeBlock (Cond.code yX7_freeBlock cX7_freeBlock 3 (some .int) :: z_T) rm_X7_freeBlock [.ref o] (z_EM D cy) (z_hM D cy A o ad) M post 0 0 A :=
  z_met (by decide) (Nat.le_of_ble_eq_true rfl) (fun p e s m args below meth c S hlk hr hnm hE => mb_X7_freeBlock S hlk hr hE M  hw)
abbrev rm_X7_entryAt : Room := { frames := 0, cells := 0, slots := 0, locals := 0 }
def w_X7_entryAt_10 (post : Int32 → z_Md → Prop) : Nat → z_Md → Int32 → Int32 → Int32 → Prop
  | 0 => fun _ _ _ _ => False
  | n + 1 => fun M x2 x3 x4 => (((x2 / 4) ≤ x4 → (post ((4 * x3) + (x2 - x2 / 4 * 4)) M)) ∧ (¬ (x2 / 4) ≤ x4 → (vp_in x3 40 ∧ (∀ x3_2 : Int32, x3_2 = M 3 x3.toNatClampNeg → (w_X7_entryAt_10 post n M x2 x3_2 (x4 + 1))))))
def w_X7_entryAt (post : Int32 → z_Md → Prop) (M : z_Md) (x1 : Int32) (x2 : Int32) : Prop := (vp_in x1 48 ∧ (∀ x3_1 : Int32, x3_1 = M 8 x1.toNatClampNeg → (∃ n0 : Nat, w_X7_entryAt_10 post n0 M x2 x3_1 0)))
set_option maxRecDepth 20000 in
theorem mb_X7_entryAt_10 {p : Program} {l : Launch} {e : Env} {s : State} {m : MethodId} {args : Array Value} {below : List Frame} {meth : Method} {c : Code} {D : va_G} {cy : Nat → ClassId} {A : Nat → Prop} {o : Nat} {ad : Nat → Nat} (S : CallFix p m c cX7_entryAt 5 s args z_T RX7) (hlk : meth.locks = false) (hr : meth.sig.returnType = some .int) (hE : z_EM D cy s) {post : Int32 → z_Md → Prop}  : ∀ (n : Nat) (M : z_Md) (x2 : Int32) (x3 : Int32) (x4 : Int32), w_X7_entryAt_10 post n M x2 x3 x4 → z_V A (z_hM D cy A o ad) p l e rm_X7_entryAt s m args below meth c 5 (MQ below (va_Qi post (fun (u' : z_Md) t => z_hM D cy A o ad u' t.heap) A) args s 0 0 A) 0 0 M 10 [(0, va_rf (some o)), (2, .int x2), (3, .int x3), (4, .int x4)] [] := by
  intro n
  induction n with
  | zero => intro M x2 x3 x4 hw; exact hw.elim
  | succ n ih =>
    intro M x2 x3 x4 hw
    refine z_iload S 3 dX7_entryAt_10 rfl ?_
    refine z_iload_n S 1 dX7_entryAt_12 rfl rfl ?_
    refine z_iconst (v := 4) S dX7_entryAt_13 (by decide) ?_
    refine z_idiv S dX7_entryAt_14 (by decide) ?_
    refine z_icmp_ge S 31 dX7_entryAt_15 (by decide) (fun c1 => ?_) (fun c1 => ?_)
    · have hw := hw.1 c1
      refine z_iconst (v := 4) S dX7_entryAt_31 (by decide) ?_
      refine z_iload_n S 2 dX7_entryAt_32 rfl rfl ?_
      refine z_imul S dX7_entryAt_33 ?_
      refine z_iload_n S 1 dX7_entryAt_34 rfl rfl ?_
      refine z_iconst (v := 4) S dX7_entryAt_35 (by decide) ?_
      refine z_irem S dX7_entryAt_36 (by decide) ?_
      refine z_iadd S dX7_entryAt_37 ?_
      exact z_iret S hr hlk dX7_entryAt_38 (Nat.le_refl 0) (Nat.le_refl 0) hw
    · have hw := hw.2 c1
      refine z_aload_n (x := some o) S 0 dX7_entryAt_18 rfl rfl ?_
      refine zm_g_16 S hE dX7_entryAt_19 ?_
      refine z_iload_n S 2 dX7_entryAt_22 rfl rfl ?_
      obtain ⟨hi3, hw⟩ := hw
      refine z_mald (j := 3) S hE rfl rfl hi3 dX7_entryAt_23 ?_
      refine z_top (fun x3_2 ex3_2 => ?_)
      have hw := hw x3_2 ex3_2
      refine z_istore_n S [(3, .int x3_2), (0, va_rf (some o)), (2, .int x2), (4, .int x4)] dX7_entryAt_24 rfl (by decide) rfl ?_
      refine z_lv (lv' := [(0, va_rf (some o)), (2, .int x2), (3, .int x3_2), (4, .int x4)]) [1, 2, 0, 3] rfl ?_
      refine z_iinc (v := x4 + 1) (pl := 3) S [(4, .int (x4 + 1)), (0, va_rf (some o)), (2, .int x2), (3, .int x3_2)] dX7_entryAt_25 rfl rfl (by decide) rfl ?_
      refine z_lv (lv' := [(0, va_rf (some o)), (2, .int x2), (3, .int x3_2), (4, .int (x4 + 1))]) [1, 2, 3, 0] rfl ?_
      refine z_goto S 10 dX7_entryAt_28 (by decide) ?_
      exact ih M x2 x3_2 (x4 + 1) hw
set_option maxRecDepth 20000 in
theorem mb_X7_entryAt {p : Program} {l : Launch} {e : Env} {s : State} {m : MethodId} {args : Array Value} {below : List Frame} {meth : Method} {c : Code} {D : va_G} {cy : Nat → ClassId} {A : Nat → Prop} {o : Nat} {ad : Nat → Nat} (S : CallFix p m c cX7_entryAt 5 s args z_T RX7) (hlk : meth.locks = false) (hr : meth.sig.returnType = some .int) (hE : z_EM D cy s) {post : Int32 → z_Md → Prop}  (M : z_Md) (x1 : Int32) (x2 : Int32) (hw : w_X7_entryAt post M x1 x2) : z_V A (z_hM D cy A o ad) p l e rm_X7_entryAt s m args below meth c 5 (MQ below (va_Qi post (fun (u' : z_Md) t => z_hM D cy A o ad u' t.heap) A) args s 0 0 A) 0 0 M 0 [(0, va_rf (some o)), (1, .int x1), (2, .int x2)] [] := by
  refine z_aload_n (x := some o) S 0 dX7_entryAt_0 rfl rfl ?_
  refine zm_g_32 S hE dX7_entryAt_1 ?_
  refine z_iload_n S 1 dX7_entryAt_4 rfl rfl ?_
  obtain ⟨hi2, hw⟩ := hw
  refine z_mald (j := 8) S hE rfl rfl hi2 dX7_entryAt_5 ?_
  refine z_top (fun x3_1 ex3_1 => ?_)
  have hw := hw x3_1 ex3_1
  refine z_istore_n S [(3, .int x3_1), (0, va_rf (some o)), (1, .int x1), (2, .int x2)] dX7_entryAt_6 rfl (by decide) rfl ?_
  refine z_lv (lv' := [(0, va_rf (some o)), (1, .int x1), (2, .int x2), (3, .int x3_1)]) [1, 2, 3, 0] rfl ?_
  refine z_iconst (v := 0) S dX7_entryAt_7 (by decide) ?_
  refine z_istore S [(4, .int 0), (0, va_rf (some o)), (1, .int x1), (2, .int x2), (3, .int x3_1)] dX7_entryAt_8 (by decide) rfl ?_
  refine z_lv (lv' := [(0, va_rf (some o)), (1, .int x1), (2, .int x2), (3, .int x3_1), (4, .int 0)]) [1, 2, 3, 4, 0] rfl ?_
  refine z_lv (lv' := [(0, va_rf (some o)), (2, .int x2), (3, .int x3_1), (4, .int 0)]) [0, 2, 3, 4] rfl ?_
  obtain ⟨n0, hw⟩ := hw
  exact mb_X7_entryAt_10 S hlk hr hE n0 M x2 x3_1 0 hw
theorem me_X7_entryAt (l : Launch) (D : va_G) (cy : Nat → ClassId) (A : Nat → Prop) (o : Nat) (ad : Nat → Nat) (post : Int32 → z_Md → Prop) (M : z_Md) (x1 : Int32) (x2 : Int32) (hw : w_X7_entryAt post M x1 x2) : z_Mi l yX7_entryAt (Cond.code yX7_entryAt cX7_entryAt 5 (some .int) :: z_T) rm_X7_entryAt [.ref o, .int x1, .int x2] (z_EM D cy) (z_hM D cy A o ad) M post 0 0 A :=
  z_met (by decide) (Nat.le_of_ble_eq_true rfl) (fun p e s m args below meth c S hlk hr hnm hE => mb_X7_entryAt S hlk hr hE M x1 x2 hw)
abbrev rm_X7_append : Room := { frames := 1, cells := 0, slots := 0, locals := 24 }
def w_X7_append_89 (post : z_Md → Prop) (M : z_Md) (x1 : Int32) (x2 : Int32) (x3 : Int32) : Prop := (vp_in x1 48 ∧ (vp_in x1 48 ∧ (w_X7_entryAt (fun r2 M1 => (vp_in r2 160 ∧ (vp_in r2 160 ∧ (post (z_up (z_up M1 4 r2.toNatClampNeg 0) 5 r2.toNatClampNeg x2))))) (z_up M 9 x1.toNatClampNeg ((M 9 x1.toNatClampNeg) + 1)) x1 x3)))
def w_X7_append_59 (post : z_Md → Prop) (M : z_Md) (x1 : Int32) (x2 : Int32) (x3 : Int32) (x4 : Int32) : Prop := (vp_in x4 40 ∧ (w_X7_append_89 post (z_up M 2 x4.toNatClampNeg 1) x1 x2 x3))
def w_X7_append (post : z_Md → Prop) (M : z_Md) (x1 : Int32) (x2 : Int32) : Prop := (vp_in x1 48 ∧ (∀ x3_1 : Int32, x3_1 = M 9 x1.toNatClampNeg → ((¬ (x3_1 - x3_1 / 4 * 4) = 0 → (w_X7_entryAt (fun r4 M3 => (vp_in (r4 / 4) 40 ∧ (vp_in (r4 / 4) 40 ∧ (w_X7_append_89 post (z_up M3 2 (r4 / 4).toNatClampNeg ((M3 2 (r4 / 4).toNatClampNeg) + 1)) x1 x2 x3_1)))) M x1 (x3_1 - 1))) ∧ ((x3_1 - x3_1 / 4 * 4) = 0 → (w_X7_freeBlock (fun r8 M7 => (vp_in r8 40 ∧ ((¬ x3_1 = 0 → (w_X7_entryAt (fun r11 M10 => (vp_in (r11 / 4) 40 ∧ (w_X7_append_59 post (z_up M10 3 (r11 / 4).toNatClampNeg r8) x1 x2 x3_1 r8))) (z_up M7 3 r8.toNatClampNeg (-1)) x1 (x3_1 - 1))) ∧ (x3_1 = 0 → (vp_in x1 48 ∧ (w_X7_append_59 post (z_up (z_up M7 3 r8.toNatClampNeg (-1)) 8 x1.toNatClampNeg r8) x1 x2 x3_1 r8)))))) M )))))
set_option maxRecDepth 20000 in
theorem mb_X7_append_89 {p : Program} {l : Launch} {e : Env} {s : State} {m : MethodId} {args : Array Value} {below : List Frame} {meth : Method} {c : Code} {D : va_G} {cy : Nat → ClassId} {A : Nat → Prop} {o : Nat} {ad : Nat → Nat} (S : CallFix p m c cX7_append 5 s args z_T RX7) (hlk : meth.locks = false) (hr : meth.sig.returnType = none) (hE : z_EM D cy s) {post : z_Md → Prop}  (M : z_Md) (x1 : Int32) (x2 : Int32) (x3 : Int32) (hw : w_X7_append_89 post M x1 x2 x3) : z_V A (z_hM D cy A o ad) p l e rm_X7_append s m args below meth c 5 (MQ below (va_Qv post (fun (u' : z_Md) t => z_hM D cy A o ad u' t.heap) A) args s 0 0 A) 0 0 M 89 [(0, va_rf (some o)), (1, .int x1), (2, .int x2), (3, .int x3)] [] := by
  refine z_aload_n (x := some o) S 0 dX7_append_89 rfl rfl ?_
  refine zm_g_35 S hE dX7_append_90 ?_
  refine z_iload_n S 1 dX7_append_93 rfl rfl ?_
  refine z_dup2 S dX7_append_94 rfl rfl ?_
  obtain ⟨hi6, hw⟩ := hw
  refine z_mald (j := 9) S hE rfl rfl hi6 dX7_append_95 ?_
  refine z_iconst (v := 1) S dX7_append_96 (by decide) ?_
  refine z_iadd S dX7_append_97 ?_
  obtain ⟨hi5, hw⟩ := hw
  refine z_mast (j := 9) S hE rfl rfl hi5 dX7_append_98 ?_
  refine z_aload_n (x := some o) S 0 dX7_append_99 rfl rfl ?_
  refine z_iload_n S 1 dX7_append_100 rfl rfl ?_
  refine z_iload_n S 3 dX7_append_101 rfl rfl ?_
  refine z_callVi (As := [.int x1, .int x3]) (st := []) S (z_EMok D cy A) hE (me_X7_entryAt l D cy A o ad _ (z_up M 9 x1.toNatClampNeg ((M 9 x1.toNatClampNeg) + 1)) x1 x3 hw) gV_X7_107 hdV_X7_entryAt ⟨Nat.le_of_ble_eq_true rfl, Nat.le_of_ble_eq_true rfl⟩ rfl rfl (z_recvM hE) (fun _ h => h) (fun _ _ _ _ h => h) rfl (Nat.le_trans z_s0 (by decide)) dX7_append_102 ⟨Nat.le_of_ble_eq_true rfl, Nat.le_of_ble_eq_true rfl⟩ rfl (fun r2 M1 hw => ?_)
  refine z_istore S [(4, .int r2), (0, va_rf (some o)), (1, .int x1), (2, .int x2), (3, .int x3)] dX7_append_105 (by decide) rfl ?_
  refine z_lv (lv' := [(0, va_rf (some o)), (1, .int x1), (2, .int x2), (3, .int x3), (4, .int r2)]) [1, 2, 3, 4, 0] rfl ?_
  refine z_aload_n (x := some o) S 0 dX7_append_107 rfl rfl ?_
  refine zm_g_19 S hE dX7_append_108 ?_
  refine z_iload S 4 dX7_append_111 rfl ?_
  refine z_iconst (v := 0) S dX7_append_113 (by decide) ?_
  obtain ⟨hi4, hw⟩ := hw
  refine z_mast (j := 4) S hE rfl rfl hi4 dX7_append_114 ?_
  refine z_aload_n (x := some o) S 0 dX7_append_115 rfl rfl ?_
  refine zm_g_22 S hE dX7_append_116 ?_
  refine z_iload S 4 dX7_append_119 rfl ?_
  refine z_iload_n S 2 dX7_append_121 rfl rfl ?_
  obtain ⟨hi3, hw⟩ := hw
  refine z_mast (j := 5) S hE rfl rfl hi3 dX7_append_122 ?_
  exact z_vret S hr hlk dX7_append_123 (Nat.le_refl 0) (Nat.le_refl 0) hw
set_option maxRecDepth 20000 in
theorem mb_X7_append_59 {p : Program} {l : Launch} {e : Env} {s : State} {m : MethodId} {args : Array Value} {below : List Frame} {meth : Method} {c : Code} {D : va_G} {cy : Nat → ClassId} {A : Nat → Prop} {o : Nat} {ad : Nat → Nat} (S : CallFix p m c cX7_append 5 s args z_T RX7) (hlk : meth.locks = false) (hr : meth.sig.returnType = none) (hE : z_EM D cy s) {post : z_Md → Prop}  (M : z_Md) (x1 : Int32) (x2 : Int32) (x3 : Int32) (x4 : Int32) (hw : w_X7_append_59 post M x1 x2 x3 x4) : z_V A (z_hM D cy A o ad) p l e rm_X7_append s m args below meth c 5 (MQ below (va_Qv post (fun (u' : z_Md) t => z_hM D cy A o ad u' t.heap) A) args s 0 0 A) 0 0 M 59 [(0, va_rf (some o)), (1, .int x1), (2, .int x2), (3, .int x3), (4, .int x4)] [] := by
  refine z_aload_n (x := some o) S 0 dX7_append_59 rfl rfl ?_
  refine zm_g_13 S hE dX7_append_60 ?_
  refine z_iload S 4 dX7_append_63 rfl ?_
  refine z_iconst (v := 1) S dX7_append_65 (by decide) ?_
  obtain ⟨hi1, hw⟩ := hw
  refine z_mast (j := 2) S hE rfl rfl hi1 dX7_append_66 ?_
  refine z_goto S 89 dX7_append_67 (by decide) ?_
  refine z_lv (lv' := [(0, va_rf (some o)), (1, .int x1), (2, .int x2), (3, .int x3)]) [0, 1, 2, 3] rfl ?_
  exact mb_X7_append_89 S hlk hr hE (z_up M 2 x4.toNatClampNeg 1) x1 x2 x3 hw
set_option maxRecDepth 20000 in
theorem mb_X7_append {p : Program} {l : Launch} {e : Env} {s : State} {m : MethodId} {args : Array Value} {below : List Frame} {meth : Method} {c : Code} {D : va_G} {cy : Nat → ClassId} {A : Nat → Prop} {o : Nat} {ad : Nat → Nat} (S : CallFix p m c cX7_append 5 s args z_T RX7) (hlk : meth.locks = false) (hr : meth.sig.returnType = none) (hE : z_EM D cy s) {post : z_Md → Prop}  (M : z_Md) (x1 : Int32) (x2 : Int32) (hw : w_X7_append post M x1 x2) : z_V A (z_hM D cy A o ad) p l e rm_X7_append s m args below meth c 5 (MQ below (va_Qv post (fun (u' : z_Md) t => z_hM D cy A o ad u' t.heap) A) args s 0 0 A) 0 0 M 0 [(0, va_rf (some o)), (1, .int x1), (2, .int x2)] [] := by
  refine z_aload_n (x := some o) S 0 dX7_append_0 rfl rfl ?_
  refine zm_g_35 S hE dX7_append_1 ?_
  refine z_iload_n S 1 dX7_append_4 rfl rfl ?_
  obtain ⟨hi15, hw⟩ := hw
  refine z_mald (j := 9) S hE rfl rfl hi15 dX7_append_5 ?_
  refine z_top (fun x3_1 ex3_1 => ?_)
  have hw := hw x3_1 ex3_1
  refine z_istore_n S [(3, .int x3_1), (0, va_rf (some o)), (1, .int x1), (2, .int x2)] dX7_append_6 rfl (by decide) rfl ?_
  refine z_lv (lv' := [(0, va_rf (some o)), (1, .int x1), (2, .int x2), (3, .int x3_1)]) [1, 2, 3, 0] rfl ?_
  refine z_iload_n S 3 dX7_append_7 rfl rfl ?_
  refine z_iconst (v := 4) S dX7_append_8 (by decide) ?_
  refine z_irem S dX7_append_9 (by decide) ?_
  refine z_if_ne S 70 dX7_append_10 (by decide) (fun c2 => ?_) (fun c2 => ?_)
  · have hw := hw.1 c2
    refine z_aload_n (x := some o) S 0 dX7_append_70 rfl rfl ?_
    refine zm_g_13 S hE dX7_append_71 ?_
    refine z_aload_n (x := some o) S 0 dX7_append_74 rfl rfl ?_
    refine z_iload_n S 1 dX7_append_75 rfl rfl ?_
    refine z_iload_n S 3 dX7_append_76 rfl rfl ?_
    refine z_iconst (v := 1) S dX7_append_77 (by decide) ?_
    refine z_isub S dX7_append_78 ?_
    refine z_callVi (As := [.int x1, .int (x3_1 - 1)]) (st := [.ref (ad 2)]) S (z_EMok D cy A) hE (me_X7_entryAt l D cy A o ad _ M x1 (x3_1 - 1) hw) gV_X7_107 hdV_X7_entryAt ⟨Nat.le_of_ble_eq_true rfl, Nat.le_of_ble_eq_true rfl⟩ rfl rfl (z_recvM hE) (fun _ h => h) (fun _ _ _ _ h => h) rfl (Nat.le_trans (z_sr z_s0) (by decide)) dX7_append_79 ⟨Nat.le_of_ble_eq_true rfl, Nat.le_of_ble_eq_true rfl⟩ rfl (fun r4 M3 hw => ?_)
    refine z_iconst (v := 4) S dX7_append_82 (by decide) ?_
    refine z_idiv S dX7_append_83 (by decide) ?_
    refine z_dup2 S dX7_append_84 rfl rfl ?_
    obtain ⟨hi6, hw⟩ := hw
    refine z_mald (j := 2) S hE rfl rfl hi6 dX7_append_85 ?_
    refine z_iconst (v := 1) S dX7_append_86 (by decide) ?_
    refine z_iadd S dX7_append_87 ?_
    obtain ⟨hi5, hw⟩ := hw
    refine z_mast (j := 2) S hE rfl rfl hi5 dX7_append_88 ?_
    exact mb_X7_append_89 S hlk hr hE (z_up M3 2 (r4 / 4).toNatClampNeg ((M3 2 (r4 / 4).toNatClampNeg) + 1)) x1 x2 x3_1 hw
  · have hw := hw.2 c2
    refine z_aload_n (x := some o) S 0 dX7_append_13 rfl rfl ?_
    refine z_callVi (As := []) (st := []) S (z_EMok D cy A) hE (me_X7_freeBlock l D cy A o ad _ M  hw) gV_X7_103 hdV_X7_freeBlock ⟨Nat.le_of_ble_eq_true rfl, Nat.le_of_ble_eq_true rfl⟩ rfl rfl (z_recvM hE) (fun _ h => h) (fun _ _ _ _ h => h) rfl (Nat.le_trans z_s0 (by decide)) dX7_append_14 ⟨Nat.le_of_ble_eq_true rfl, Nat.le_of_ble_eq_true rfl⟩ rfl (fun r8 M7 hw => ?_)
    refine z_istore S [(4, .int r8), (0, va_rf (some o)), (1, .int x1), (2, .int x2), (3, .int x3_1)] dX7_append_17 (by decide) rfl ?_
    refine z_lv (lv' := [(0, va_rf (some o)), (1, .int x1), (2, .int x2), (3, .int x3_1), (4, .int r8)]) [1, 2, 3, 4, 0] rfl ?_
    refine z_aload_n (x := some o) S 0 dX7_append_19 rfl rfl ?_
    refine zm_g_16 S hE dX7_append_20 ?_
    refine z_iload S 4 dX7_append_23 rfl ?_
    refine z_iconst (v := (-1)) S dX7_append_25 (by decide) ?_
    obtain ⟨hi14, hw⟩ := hw
    refine z_mast (j := 3) S hE rfl rfl hi14 dX7_append_26 ?_
    refine z_iload_n S 3 dX7_append_27 rfl rfl ?_
    refine z_if_ne S 42 dX7_append_28 (by decide) (fun c9 => ?_) (fun c9 => ?_)
    · have hw := hw.1 c9
      refine z_aload_n (x := some o) S 0 dX7_append_42 rfl rfl ?_
      refine zm_g_16 S hE dX7_append_43 ?_
      refine z_aload_n (x := some o) S 0 dX7_append_46 rfl rfl ?_
      refine z_iload_n S 1 dX7_append_47 rfl rfl ?_
      refine z_iload_n S 3 dX7_append_48 rfl rfl ?_
      refine z_iconst (v := 1) S dX7_append_49 (by decide) ?_
      refine z_isub S dX7_append_50 ?_
      refine z_callVi (As := [.int x1, .int (x3_1 - 1)]) (st := [.ref (ad 3)]) S (z_EMok D cy A) hE (me_X7_entryAt l D cy A o ad _ (z_up M7 3 r8.toNatClampNeg (-1)) x1 (x3_1 - 1) hw) gV_X7_107 hdV_X7_entryAt ⟨Nat.le_of_ble_eq_true rfl, Nat.le_of_ble_eq_true rfl⟩ rfl rfl (z_recvM hE) (fun _ h => h) (fun _ _ _ _ h => h) rfl (Nat.le_trans (z_sr z_s0) (by decide)) dX7_append_51 ⟨Nat.le_of_ble_eq_true rfl, Nat.le_of_ble_eq_true rfl⟩ rfl (fun r11 M10 hw => ?_)
      refine z_iconst (v := 4) S dX7_append_54 (by decide) ?_
      refine z_idiv S dX7_append_55 (by decide) ?_
      refine z_iload S 4 dX7_append_56 rfl ?_
      obtain ⟨hi12, hw⟩ := hw
      refine z_mast (j := 3) S hE rfl rfl hi12 dX7_append_58 ?_
      exact mb_X7_append_59 S hlk hr hE (z_up M10 3 (r11 / 4).toNatClampNeg r8) x1 x2 x3_1 r8 hw
    · have hw := hw.2 c9
      refine z_aload_n (x := some o) S 0 dX7_append_31 rfl rfl ?_
      refine zm_g_32 S hE dX7_append_32 ?_
      refine z_iload_n S 1 dX7_append_35 rfl rfl ?_
      refine z_iload S 4 dX7_append_36 rfl ?_
      obtain ⟨hi13, hw⟩ := hw
      refine z_mast (j := 8) S hE rfl rfl hi13 dX7_append_38 ?_
      refine z_goto S 59 dX7_append_39 (by decide) ?_
      exact mb_X7_append_59 S hlk hr hE (z_up (z_up M7 3 r8.toNatClampNeg (-1)) 8 x1.toNatClampNeg r8) x1 x2 x3_1 r8 hw
theorem me_X7_append (l : Launch) (D : va_G) (cy : Nat → ClassId) (A : Nat → Prop) (o : Nat) (ad : Nat → Nat) (post : z_Md → Prop) (M : z_Md) (x1 : Int32) (x2 : Int32) (hw : w_X7_append post M x1 x2) : z_Mv l yX7_append (Cond.code yX7_append cX7_append 5 none :: z_T) rm_X7_append [.ref o, .int x1, .int x2] (z_EM D cy) (z_hM D cy A o ad) M post 0 0 A :=
  z_met (by decide) (Nat.le_of_ble_eq_true rfl) (fun p e s m args below meth c S hlk hr hnm hE => mb_X7_append S hlk hr hE M x1 x2 hw)
abbrev rm_X7_dropLast : Room := { frames := 1, cells := 0, slots := 0, locals := 24 }
def w_X7_dropLast (post : z_Md → Prop) (M : z_Md) (x1 : Int32) : Prop := (vp_in x1 48 ∧ (w_X7_entryAt (fun r2 M1 => (vp_in x1 48 ∧ (vp_in x1 48 ∧ (vp_in (r2 / 4) 40 ∧ (vp_in (r2 / 4) 40 ∧ (vp_in (r2 / 4) 40 ∧ ((¬ ((z_up (z_up M1 9 x1.toNatClampNeg ((M1 9 x1.toNatClampNeg) - 1)) 2 (r2 / 4).toNatClampNeg (((z_up M1 9 x1.toNatClampNeg ((M1 9 x1.toNatClampNeg) - 1)) 2 (r2 / 4).toNatClampNeg) - 1)) 2 (r2 / 4).toNatClampNeg) = 0 → (post (z_up (z_up M1 9 x1.toNatClampNeg ((M1 9 x1.toNatClampNeg) - 1)) 2 (r2 / 4).toNatClampNeg (((z_up M1 9 x1.toNatClampNeg ((M1 9 x1.toNatClampNeg) - 1)) 2 (r2 / 4).toNatClampNeg) - 1)))) ∧ (((z_up (z_up M1 9 x1.toNatClampNeg ((M1 9 x1.toNatClampNeg) - 1)) 2 (r2 / 4).toNatClampNeg (((z_up M1 9 x1.toNatClampNeg ((M1 9 x1.toNatClampNeg) - 1)) 2 (r2 / 4).toNatClampNeg) - 1)) 2 (r2 / 4).toNatClampNeg) = 0 → (vp_in x1 48 ∧ ((((z_up (z_up M1 9 x1.toNatClampNeg ((M1 9 x1.toNatClampNeg) - 1)) 2 (r2 / 4).toNatClampNeg (((z_up M1 9 x1.toNatClampNeg ((M1 9 x1.toNatClampNeg) - 1)) 2 (r2 / 4).toNatClampNeg) - 1)) 9 x1.toNatClampNeg) ≤ 0 → (post (z_up (z_up M1 9 x1.toNatClampNeg ((M1 9 x1.toNatClampNeg) - 1)) 2 (r2 / 4).toNatClampNeg (((z_up M1 9 x1.toNatClampNeg ((M1 9 x1.toNatClampNeg) - 1)) 2 (r2 / 4).toNatClampNeg) - 1)))) ∧ (¬ ((z_up (z_up M1 9 x1.toNatClampNeg ((M1 9 x1.toNatClampNeg) - 1)) 2 (r2 / 4).toNatClampNeg (((z_up M1 9 x1.toNatClampNeg ((M1 9 x1.toNatClampNeg) - 1)) 2 (r2 / 4).toNatClampNeg) - 1)) 9 x1.toNatClampNeg) ≤ 0 → (vp_in x1 48 ∧ (w_X7_entryAt (fun r6 M5 => (vp_in (r6 / 4) 40 ∧ (post (z_up M5 3 (r6 / 4).toNatClampNeg (-1))))) (z_up (z_up M1 9 x1.toNatClampNeg ((M1 9 x1.toNatClampNeg) - 1)) 2 (r2 / 4).toNatClampNeg (((z_up M1 9 x1.toNatClampNeg ((M1 9 x1.toNatClampNeg) - 1)) 2 (r2 / 4).toNatClampNeg) - 1)) x1 (((z_up (z_up M1 9 x1.toNatClampNeg ((M1 9 x1.toNatClampNeg) - 1)) 2 (r2 / 4).toNatClampNeg (((z_up M1 9 x1.toNatClampNeg ((M1 9 x1.toNatClampNeg) - 1)) 2 (r2 / 4).toNatClampNeg) - 1)) 9 x1.toNatClampNeg) - 1)))))))))))))) M x1 ((M 9 x1.toNatClampNeg) - 1)))
set_option maxRecDepth 20000 in
theorem mb_X7_dropLast {p : Program} {l : Launch} {e : Env} {s : State} {m : MethodId} {args : Array Value} {below : List Frame} {meth : Method} {c : Code} {D : va_G} {cy : Nat → ClassId} {A : Nat → Prop} {o : Nat} {ad : Nat → Nat} (S : CallFix p m c cX7_dropLast 3 s args z_T RX7) (hlk : meth.locks = false) (hr : meth.sig.returnType = none) (hE : z_EM D cy s) {post : z_Md → Prop}  (M : z_Md) (x1 : Int32) (hw : w_X7_dropLast post M x1) : z_V A (z_hM D cy A o ad) p l e rm_X7_dropLast s m args below meth c 3 (MQ below (va_Qv post (fun (u' : z_Md) t => z_hM D cy A o ad u' t.heap) A) args s 0 0 A) 0 0 M 0 [(0, va_rf (some o)), (1, .int x1)] [] := by
  refine z_aload_n (x := some o) S 0 dX7_dropLast_0 rfl rfl ?_
  refine z_iload_n S 1 dX7_dropLast_1 rfl rfl ?_
  refine z_aload_n (x := some o) S 0 dX7_dropLast_2 rfl rfl ?_
  refine zm_g_35 S hE dX7_dropLast_3 ?_
  refine z_iload_n S 1 dX7_dropLast_6 rfl rfl ?_
  obtain ⟨hi15, hw⟩ := hw
  refine z_mald (j := 9) S hE rfl rfl hi15 dX7_dropLast_7 ?_
  refine z_iconst (v := 1) S dX7_dropLast_8 (by decide) ?_
  refine z_isub S dX7_dropLast_9 ?_
  refine z_callVi (As := [.int x1, .int ((M 9 x1.toNatClampNeg) - 1)]) (st := []) S (z_EMok D cy A) hE (me_X7_entryAt l D cy A o ad _ M x1 ((M 9 x1.toNatClampNeg) - 1) hw) gV_X7_107 hdV_X7_entryAt ⟨Nat.le_of_ble_eq_true rfl, Nat.le_of_ble_eq_true rfl⟩ rfl rfl (z_recvM hE) (fun _ h => h) (fun _ _ _ _ h => h) rfl (Nat.le_trans z_s0 (by decide)) dX7_dropLast_10 ⟨Nat.le_of_ble_eq_true rfl, Nat.le_of_ble_eq_true rfl⟩ rfl (fun r2 M1 hw => ?_)
  refine z_iconst (v := 4) S dX7_dropLast_13 (by decide) ?_
  refine z_idiv S dX7_dropLast_14 (by decide) ?_
  refine z_istore_n S [(2, .int (r2 / 4)), (0, va_rf (some o)), (1, .int x1)] dX7_dropLast_15 rfl (by decide) rfl ?_
  refine z_lv (lv' := [(0, va_rf (some o)), (1, .int x1), (2, .int (r2 / 4))]) [1, 2, 0] rfl ?_
  refine z_aload_n (x := some o) S 0 dX7_dropLast_16 rfl rfl ?_
  refine zm_g_35 S hE dX7_dropLast_17 ?_
  refine z_iload_n S 1 dX7_dropLast_20 rfl rfl ?_
  refine z_dup2 S dX7_dropLast_21 rfl rfl ?_
  obtain ⟨hi14, hw⟩ := hw
  refine z_mald (j := 9) S hE rfl rfl hi14 dX7_dropLast_22 ?_
  refine z_iconst (v := 1) S dX7_dropLast_23 (by decide) ?_
  refine z_isub S dX7_dropLast_24 ?_
  obtain ⟨hi13, hw⟩ := hw
  refine z_mast (j := 9) S hE rfl rfl hi13 dX7_dropLast_25 ?_
  refine z_aload_n (x := some o) S 0 dX7_dropLast_26 rfl rfl ?_
  refine zm_g_13 S hE dX7_dropLast_27 ?_
  refine z_iload_n S 2 dX7_dropLast_30 rfl rfl ?_
  refine z_dup2 S dX7_dropLast_31 rfl rfl ?_
  obtain ⟨hi12, hw⟩ := hw
  refine z_mald (j := 2) S hE rfl rfl hi12 dX7_dropLast_32 ?_
  refine z_iconst (v := 1) S dX7_dropLast_33 (by decide) ?_
  refine z_isub S dX7_dropLast_34 ?_
  obtain ⟨hi11, hw⟩ := hw
  refine z_mast (j := 2) S hE rfl rfl hi11 dX7_dropLast_35 ?_
  refine z_aload_n (x := some o) S 0 dX7_dropLast_36 rfl rfl ?_
  refine zm_g_13 S hE dX7_dropLast_37 ?_
  refine z_iload_n S 2 dX7_dropLast_40 rfl rfl ?_
  obtain ⟨hi10, hw⟩ := hw
  refine z_mald (j := 2) S hE rfl rfl hi10 dX7_dropLast_41 ?_
  refine z_if_ne S 75 dX7_dropLast_42 (by decide) (fun c3 => ?_) (fun c3 => ?_)
  · have hw := hw.1 c3
    exact z_vret S hr hlk dX7_dropLast_75 (Nat.le_refl 0) (Nat.le_refl 0) hw
  · have hw := hw.2 c3
    refine z_aload_n (x := some o) S 0 dX7_dropLast_45 rfl rfl ?_
    refine zm_g_35 S hE dX7_dropLast_46 ?_
    refine z_iload_n S 1 dX7_dropLast_49 rfl rfl ?_
    obtain ⟨hi9, hw⟩ := hw
    refine z_mald (j := 9) S hE rfl rfl hi9 dX7_dropLast_50 ?_
    refine z_if_le S 75 dX7_dropLast_51 (by decide) (fun c4 => ?_) (fun c4 => ?_)
    · have hw := hw.1 c4
      exact z_vret S hr hlk dX7_dropLast_75 (Nat.le_refl 0) (Nat.le_refl 0) hw
    · have hw := hw.2 c4
      refine z_aload_n (x := some o) S 0 dX7_dropLast_54 rfl rfl ?_
      refine zm_g_16 S hE dX7_dropLast_55 ?_
      refine z_aload_n (x := some o) S 0 dX7_dropLast_58 rfl rfl ?_
      refine z_iload_n S 1 dX7_dropLast_59 rfl rfl ?_
      refine z_aload_n (x := some o) S 0 dX7_dropLast_60 rfl rfl ?_
      refine zm_g_35 S hE dX7_dropLast_61 ?_
      refine z_iload_n S 1 dX7_dropLast_64 rfl rfl ?_
      obtain ⟨hi8, hw⟩ := hw
      refine z_mald (j := 9) S hE rfl rfl hi8 dX7_dropLast_65 ?_
      refine z_iconst (v := 1) S dX7_dropLast_66 (by decide) ?_
      refine z_isub S dX7_dropLast_67 ?_
      refine z_callVi (As := [.int x1, .int (((z_up (z_up M1 9 x1.toNatClampNeg ((M1 9 x1.toNatClampNeg) - 1)) 2 (r2 / 4).toNatClampNeg (((z_up M1 9 x1.toNatClampNeg ((M1 9 x1.toNatClampNeg) - 1)) 2 (r2 / 4).toNatClampNeg) - 1)) 9 x1.toNatClampNeg) - 1)]) (st := [.ref (ad 3)]) S (z_EMok D cy A) hE (me_X7_entryAt l D cy A o ad _ (z_up (z_up M1 9 x1.toNatClampNeg ((M1 9 x1.toNatClampNeg) - 1)) 2 (r2 / 4).toNatClampNeg (((z_up M1 9 x1.toNatClampNeg ((M1 9 x1.toNatClampNeg) - 1)) 2 (r2 / 4).toNatClampNeg) - 1)) x1 (((z_up (z_up M1 9 x1.toNatClampNeg ((M1 9 x1.toNatClampNeg) - 1)) 2 (r2 / 4).toNatClampNeg (((z_up M1 9 x1.toNatClampNeg ((M1 9 x1.toNatClampNeg) - 1)) 2 (r2 / 4).toNatClampNeg) - 1)) 9 x1.toNatClampNeg) - 1) hw) gV_X7_107 hdV_X7_entryAt ⟨Nat.le_of_ble_eq_true rfl, Nat.le_of_ble_eq_true rfl⟩ rfl rfl (z_recvM hE) (fun _ h => h) (fun _ _ _ _ h => h) rfl (Nat.le_trans (z_sr z_s0) (by decide)) dX7_dropLast_68 ⟨Nat.le_of_ble_eq_true rfl, Nat.le_of_ble_eq_true rfl⟩ rfl (fun r6 M5 hw => ?_)
      refine z_iconst (v := 4) S dX7_dropLast_71 (by decide) ?_
      refine z_idiv S dX7_dropLast_72 (by decide) ?_
      refine z_iconst (v := (-1)) S dX7_dropLast_73 (by decide) ?_
      obtain ⟨hi7, hw⟩ := hw
      refine z_mast (j := 3) S hE rfl rfl hi7 dX7_dropLast_74 ?_
      exact z_vret S hr hlk dX7_dropLast_75 (Nat.le_refl 0) (Nat.le_refl 0) hw
theorem me_X7_dropLast (l : Launch) (D : va_G) (cy : Nat → ClassId) (A : Nat → Prop) (o : Nat) (ad : Nat → Nat) (post : z_Md → Prop) (M : z_Md) (x1 : Int32) (hw : w_X7_dropLast post M x1) : z_Mv l yX7_dropLast (Cond.code yX7_dropLast cX7_dropLast 3 none :: z_T) rm_X7_dropLast [.ref o, .int x1] (z_EM D cy) (z_hM D cy A o ad) M post 0 0 A :=
  z_met (by decide) (Nat.le_of_ble_eq_true rfl) (fun p e s m args below meth c S hlk hr hnm hE => mb_X7_dropLast S hlk hr hE M x1 hw)
abbrev rm_X7_release : Room := { frames := 0, cells := 0, slots := 0, locals := 0 }
def w_X7_release_12 (post : Int32 → z_Md → Prop) : Nat → z_Md → Int32 → Int32 → Int32 → Int32 → Prop
  | 0 => fun _ _ _ _ _ => False
  | n + 1 => fun M x1 x2 x3 x4 => (vp_in x1 48 ∧ (((M 9 x1.toNatClampNeg) ≤ x4 → (vp_in x1 48 ∧ (post x2 (z_up M 9 x1.toNatClampNeg 0)))) ∧ (¬ (M 9 x1.toNatClampNeg) ≤ x4 → (vp_in x3 40 ∧ (vp_in x3 40 ∧ (∀ x3_3 : Int32, x3_3 = (z_up M 2 x3.toNatClampNeg 0) 3 x3.toNatClampNeg → (w_X7_release_12 post n (z_up M 2 x3.toNatClampNeg 0) x1 (x2 + 1) x3_3 (x4 + 4))))))))
def w_X7_release (post : Int32 → z_Md → Prop) (M : z_Md) (x1 : Int32) : Prop := (vp_in x1 48 ∧ (∀ x3_1 : Int32, x3_1 = M 8 x1.toNatClampNeg → (∃ n0 : Nat, w_X7_release_12 post n0 M x1 0 x3_1 0)))
set_option maxRecDepth 20000 in
theorem mb_X7_release_12 {p : Program} {l : Launch} {e : Env} {s : State} {m : MethodId} {args : Array Value} {below : List Frame} {meth : Method} {c : Code} {D : va_G} {cy : Nat → ClassId} {A : Nat → Prop} {o : Nat} {ad : Nat → Nat} (S : CallFix p m c cX7_release 5 s args z_T RX7) (hlk : meth.locks = false) (hr : meth.sig.returnType = some .int) (hE : z_EM D cy s) {post : Int32 → z_Md → Prop}  : ∀ (n : Nat) (M : z_Md) (x1 : Int32) (x2 : Int32) (x3 : Int32) (x4 : Int32), w_X7_release_12 post n M x1 x2 x3 x4 → z_V A (z_hM D cy A o ad) p l e rm_X7_release s m args below meth c 5 (MQ below (va_Qi post (fun (u' : z_Md) t => z_hM D cy A o ad u' t.heap) A) args s 0 0 A) 0 0 M 12 [(0, va_rf (some o)), (1, .int x1), (2, .int x2), (3, .int x3), (4, .int x4)] [] := by
  intro n
  induction n with
  | zero => intro M x1 x2 x3 x4 hw; exact hw.elim
  | succ n ih =>
    intro M x1 x2 x3 x4 hw
    refine z_iload S 4 dX7_release_12 rfl ?_
    refine z_aload_n (x := some o) S 0 dX7_release_14 rfl rfl ?_
    refine zm_g_35 S hE dX7_release_15 ?_
    refine z_iload_n S 1 dX7_release_18 rfl rfl ?_
    obtain ⟨hi6, hw⟩ := hw
    refine z_mald (j := 9) S hE rfl rfl hi6 dX7_release_19 ?_
    refine z_icmp_ge S 46 dX7_release_20 (by decide) (fun c1 => ?_) (fun c1 => ?_)
    · have hw := hw.1 c1
      refine z_aload_n (x := some o) S 0 dX7_release_46 rfl rfl ?_
      refine zm_g_35 S hE dX7_release_47 ?_
      refine z_iload_n S 1 dX7_release_50 rfl rfl ?_
      refine z_iconst (v := 0) S dX7_release_51 (by decide) ?_
      obtain ⟨hi2, hw⟩ := hw
      refine z_mast (j := 9) S hE rfl rfl hi2 dX7_release_52 ?_
      refine z_iload_n S 2 dX7_release_53 rfl rfl ?_
      exact z_iret S hr hlk dX7_release_54 (Nat.le_refl 0) (Nat.le_refl 0) hw
    · have hw := hw.2 c1
      refine z_aload_n (x := some o) S 0 dX7_release_23 rfl rfl ?_
      refine zm_g_13 S hE dX7_release_24 ?_
      refine z_iload_n S 3 dX7_release_27 rfl rfl ?_
      refine z_iconst (v := 0) S dX7_release_28 (by decide) ?_
      obtain ⟨hi5, hw⟩ := hw
      refine z_mast (j := 2) S hE rfl rfl hi5 dX7_release_29 ?_
      refine z_aload_n (x := some o) S 0 dX7_release_30 rfl rfl ?_
      refine zm_g_16 S hE dX7_release_31 ?_
      refine z_iload_n S 3 dX7_release_34 rfl rfl ?_
      obtain ⟨hi4, hw⟩ := hw
      refine z_mald (j := 3) S hE rfl rfl hi4 dX7_release_35 ?_
      refine z_top (fun x3_3 ex3_3 => ?_)
      have hw := hw x3_3 ex3_3
      refine z_istore_n S [(3, .int x3_3), (0, va_rf (some o)), (1, .int x1), (2, .int x2), (4, .int x4)] dX7_release_36 rfl (by decide) rfl ?_
      refine z_lv (lv' := [(0, va_rf (some o)), (1, .int x1), (2, .int x2), (3, .int x3_3), (4, .int x4)]) [1, 2, 3, 0, 4] rfl ?_
      refine z_iinc (v := x2 + 1) (pl := 2) S [(2, .int (x2 + 1)), (0, va_rf (some o)), (1, .int x1), (3, .int x3_3), (4, .int x4)] dX7_release_37 rfl rfl (by decide) rfl ?_
      refine z_lv (lv' := [(0, va_rf (some o)), (1, .int x1), (2, .int (x2 + 1)), (3, .int x3_3), (4, .int x4)]) [1, 2, 0, 3, 4] rfl ?_
      refine z_iinc (v := x4 + 4) (pl := 4) S [(4, .int (x4 + 4)), (0, va_rf (some o)), (1, .int x1), (2, .int (x2 + 1)), (3, .int x3_3)] dX7_release_40 rfl rfl (by decide) rfl ?_
      refine z_lv (lv' := [(0, va_rf (some o)), (1, .int x1), (2, .int (x2 + 1)), (3, .int x3_3), (4, .int (x4 + 4))]) [1, 2, 3, 4, 0] rfl ?_
      refine z_goto S 12 dX7_release_43 (by decide) ?_
      exact ih (z_up M 2 x3.toNatClampNeg 0) x1 (x2 + 1) x3_3 (x4 + 4) hw
set_option maxRecDepth 20000 in
theorem mb_X7_release {p : Program} {l : Launch} {e : Env} {s : State} {m : MethodId} {args : Array Value} {below : List Frame} {meth : Method} {c : Code} {D : va_G} {cy : Nat → ClassId} {A : Nat → Prop} {o : Nat} {ad : Nat → Nat} (S : CallFix p m c cX7_release 5 s args z_T RX7) (hlk : meth.locks = false) (hr : meth.sig.returnType = some .int) (hE : z_EM D cy s) {post : Int32 → z_Md → Prop}  (M : z_Md) (x1 : Int32) (hw : w_X7_release post M x1) : z_V A (z_hM D cy A o ad) p l e rm_X7_release s m args below meth c 5 (MQ below (va_Qi post (fun (u' : z_Md) t => z_hM D cy A o ad u' t.heap) A) args s 0 0 A) 0 0 M 0 [(0, va_rf (some o)), (1, .int x1)] [] := by
  refine z_iconst (v := 0) S dX7_release_0 (by decide) ?_
  refine z_istore_n S [(2, .int 0), (0, va_rf (some o)), (1, .int x1)] dX7_release_1 rfl (by decide) rfl ?_
  refine z_lv (lv' := [(0, va_rf (some o)), (1, .int x1), (2, .int 0)]) [1, 2, 0] rfl ?_
  refine z_aload_n (x := some o) S 0 dX7_release_2 rfl rfl ?_
  refine zm_g_32 S hE dX7_release_3 ?_
  refine z_iload_n S 1 dX7_release_6 rfl rfl ?_
  obtain ⟨hi2, hw⟩ := hw
  refine z_mald (j := 8) S hE rfl rfl hi2 dX7_release_7 ?_
  refine z_top (fun x3_1 ex3_1 => ?_)
  have hw := hw x3_1 ex3_1
  refine z_istore_n S [(3, .int x3_1), (0, va_rf (some o)), (1, .int x1), (2, .int 0)] dX7_release_8 rfl (by decide) rfl ?_
  refine z_lv (lv' := [(0, va_rf (some o)), (1, .int x1), (2, .int 0), (3, .int x3_1)]) [1, 2, 3, 0] rfl ?_
  refine z_iconst (v := 0) S dX7_release_9 (by decide) ?_
  refine z_istore S [(4, .int 0), (0, va_rf (some o)), (1, .int x1), (2, .int 0), (3, .int x3_1)] dX7_release_10 (by decide) rfl ?_
  refine z_lv (lv' := [(0, va_rf (some o)), (1, .int x1), (2, .int 0), (3, .int x3_1), (4, .int 0)]) [1, 2, 3, 4, 0] rfl ?_
  obtain ⟨n0, hw⟩ := hw
  exact mb_X7_release_12 S hlk hr hE n0 M x1 0 x3_1 0 hw
theorem me_X7_release (l : Launch) (D : va_G) (cy : Nat → ClassId) (A : Nat → Prop) (o : Nat) (ad : Nat → Nat) (post : Int32 → z_Md → Prop) (M : z_Md) (x1 : Int32) (hw : w_X7_release post M x1) : z_Mi l yX7_release (Cond.code yX7_release cX7_release 5 (some .int) :: z_T) rm_X7_release [.ref o, .int x1] (z_EM D cy) (z_hM D cy A o ad) M post 0 0 A :=
  z_met (by decide) (Nat.le_of_ble_eq_true rfl) (fun p e s m args below meth c S hlk hr hnm hE => mb_X7_release S hlk hr hE M x1 hw)
abbrev rm_X7_letGo : Room := { frames := 1, cells := 0, slots := 0, locals := 24 }
def w_X7_letGo (post : Int32 → z_Md → Prop) (M : z_Md) (x1 : Int32) : Prop := ((0 ≤ x1 → (vp_in x1 48 ∧ (vp_in x1 48 ∧ (vp_in x1 48 ∧ ((¬ ((z_up M 6 x1.toNatClampNeg ((M 6 x1.toNatClampNeg) - 1)) 6 x1.toNatClampNeg) = 0 → (post 0 (z_up M 6 x1.toNatClampNeg ((M 6 x1.toNatClampNeg) - 1)))) ∧ (((z_up M 6 x1.toNatClampNeg ((M 6 x1.toNatClampNeg) - 1)) 6 x1.toNatClampNeg) = 0 → (w_X7_release (fun r4 M3 => (post r4 M3)) (z_up M 6 x1.toNatClampNeg ((M 6 x1.toNatClampNeg) - 1)) x1))))))) ∧ (¬ 0 ≤ x1 → (post 0 M)))
set_option maxRecDepth 20000 in
theorem mb_X7_letGo {p : Program} {l : Launch} {e : Env} {s : State} {m : MethodId} {args : Array Value} {below : List Frame} {meth : Method} {c : Code} {D : va_G} {cy : Nat → ClassId} {A : Nat → Prop} {o : Nat} {ad : Nat → Nat} (S : CallFix p m c cX7_letGo 2 s args z_T RX7) (hlk : meth.locks = false) (hr : meth.sig.returnType = some .int) (hE : z_EM D cy s) {post : Int32 → z_Md → Prop}  (M : z_Md) (x1 : Int32) (hw : w_X7_letGo post M x1) : z_V A (z_hM D cy A o ad) p l e rm_X7_letGo s m args below meth c 2 (MQ below (va_Qi post (fun (u' : z_Md) t => z_hM D cy A o ad u' t.heap) A) args s 0 0 A) 0 0 M 0 [(0, va_rf (some o)), (1, .int x1)] [] := by
  refine z_iload_n S 1 dX7_letGo_0 rfl rfl ?_
  refine z_if_ge S 6 dX7_letGo_1 (by decide) (fun c1 => ?_) (fun c1 => ?_)
  · have hw := hw.1 c1
    refine z_aload_n (x := some o) S 0 dX7_letGo_6 rfl rfl ?_
    refine zm_g_25 S hE dX7_letGo_7 ?_
    refine z_iload_n S 1 dX7_letGo_10 rfl rfl ?_
    refine z_dup2 S dX7_letGo_11 rfl rfl ?_
    obtain ⟨hi7, hw⟩ := hw
    refine z_mald (j := 6) S hE rfl rfl hi7 dX7_letGo_12 ?_
    refine z_iconst (v := 1) S dX7_letGo_13 (by decide) ?_
    refine z_isub S dX7_letGo_14 ?_
    obtain ⟨hi6, hw⟩ := hw
    refine z_mast (j := 6) S hE rfl rfl hi6 dX7_letGo_15 ?_
    refine z_aload_n (x := some o) S 0 dX7_letGo_16 rfl rfl ?_
    refine zm_g_25 S hE dX7_letGo_17 ?_
    refine z_iload_n S 1 dX7_letGo_20 rfl rfl ?_
    obtain ⟨hi5, hw⟩ := hw
    refine z_mald (j := 6) S hE rfl rfl hi5 dX7_letGo_21 ?_
    refine z_if_ne S 33 dX7_letGo_22 (by decide) (fun c2 => ?_) (fun c2 => ?_)
    · have hw := hw.1 c2
      refine z_iconst (v := 0) S dX7_letGo_33 (by decide) ?_
      exact z_iret S hr hlk dX7_letGo_34 (Nat.le_refl 0) (Nat.le_refl 0) hw
    · have hw := hw.2 c2
      refine z_aload_n (x := some o) S 0 dX7_letGo_25 rfl rfl ?_
      refine z_iload_n S 1 dX7_letGo_26 rfl rfl ?_
      refine z_callVi (As := [.int x1]) (st := []) S (z_EMok D cy A) hE (me_X7_release l D cy A o ad _ (z_up M 6 x1.toNatClampNeg ((M 6 x1.toNatClampNeg) - 1)) x1 hw) gV_X7_111 hdV_X7_release ⟨Nat.le_of_ble_eq_true rfl, Nat.le_of_ble_eq_true rfl⟩ rfl rfl (z_recvM hE) (fun _ h => h) (fun _ _ _ _ h => h) rfl (Nat.le_trans z_s0 (by decide)) dX7_letGo_27 ⟨Nat.le_of_ble_eq_true rfl, Nat.le_of_ble_eq_true rfl⟩ rfl (fun r4 M3 hw => ?_)
      refine z_goto S 34 dX7_letGo_30 (by decide) ?_
      exact z_iret S hr hlk dX7_letGo_34 (Nat.le_refl 0) (Nat.le_refl 0) hw
  · have hw := hw.2 c1
    refine z_iconst (v := 0) S dX7_letGo_4 (by decide) ?_
    exact z_iret S hr hlk dX7_letGo_5 (Nat.le_refl 0) (Nat.le_refl 0) hw
theorem me_X7_letGo (l : Launch) (D : va_G) (cy : Nat → ClassId) (A : Nat → Prop) (o : Nat) (ad : Nat → Nat) (post : Int32 → z_Md → Prop) (M : z_Md) (x1 : Int32) (hw : w_X7_letGo post M x1) : z_Mi l yX7_letGo (Cond.code yX7_letGo cX7_letGo 2 (some .int) :: z_T) rm_X7_letGo [.ref o, .int x1] (z_EM D cy) (z_hM D cy A o ad) M post 0 0 A :=
  z_met (by decide) (Nat.le_of_ble_eq_true rfl) (fun p e s m args below meth c S hlk hr hnm hE => mb_X7_letGo S hlk hr hE M x1 hw)
abbrev rm_X7_costOfGap : Room := { frames := 0, cells := 0, slots := 0, locals := 0 }
def w_X7_costOfGap (post : Int32 → z_Md → Prop) (M : z_Md) (x0 : Int32) : Prop := (post ((x0 + 3) / 4) M)
set_option maxRecDepth 20000 in
theorem mb_X7_costOfGap {p : Program} {l : Launch} {e : Env} {s : State} {m : MethodId} {args : Array Value} {below : List Frame} {meth : Method} {c : Code} {D : va_G} {cy : Nat → ClassId} {A : Nat → Prop} {o : Nat} {ad : Nat → Nat} (S : CallFix p m c cX7_costOfGap 1 s args z_T RX7) (hlk : meth.locks = false) (hr : meth.sig.returnType = some .int) (hE : z_EM D cy s) {post : Int32 → z_Md → Prop}  (M : z_Md) (x0 : Int32) (hw : w_X7_costOfGap post M x0) : z_V A (z_hM D cy A o ad) p l e rm_X7_costOfGap s m args below meth c 1 (MQ below (va_Qi post (fun (u' : z_Md) t => z_hM D cy A o ad u' t.heap) A) args s 0 0 A) 0 0 M 0 [(0, .int x0)] [] := by
  refine z_iload_n S 0 dX7_costOfGap_0 rfl rfl ?_
  refine z_iconst (v := 3) S dX7_costOfGap_1 (by decide) ?_
  refine z_iadd S dX7_costOfGap_2 ?_
  refine z_iconst (v := 4) S dX7_costOfGap_3 (by decide) ?_
  refine z_idiv S dX7_costOfGap_4 (by decide) ?_
  exact z_iret S hr hlk dX7_costOfGap_5 (Nat.le_refl 0) (Nat.le_refl 0) hw
theorem me_X7_costOfGap (l : Launch) (D : va_G) (cy : Nat → ClassId) (A : Nat → Prop) (o : Nat) (ad : Nat → Nat) (post : Int32 → z_Md → Prop) (M : z_Md) (x0 : Int32) (hw : w_X7_costOfGap post M x0) : z_Mi l yX7_costOfGap (Cond.code yX7_costOfGap cX7_costOfGap 1 (some .int) :: z_T) rm_X7_costOfGap [.int x0] (z_EM D cy) (z_hM D cy A o ad) M post 0 0 A :=
  z_met (by decide) (Nat.le_of_ble_eq_true rfl) (fun p e s m args below meth c S hlk hr hnm hE => mb_X7_costOfGap S hlk hr hE M x0 hw)
abbrev rm_X7_cost : Room := { frames := 1, cells := 0, slots := 0, locals := 24 }
def w_X7_cost_46 (post : Int32 → z_Md → Prop) (J4 : z_Md → Int32 → Int32 → Int32 → Prop) (M : z_Md) (x1 : Int32) (x3 : Int32) (z0 : Int32) (z1 : Int32) : Prop := (J4 M x1 (z1 + z0) (x3 + 1))
def w_X7_cost_4 (post : Int32 → z_Md → Prop) : Nat → z_Md → Int32 → Int32 → Int32 → Prop
  | 0 => fun _ _ _ _ => False
  | n + 1 => fun M x1 x2 x3 => ((x1 < 0 → (post x2 M)) ∧ (¬ x1 < 0 → (vp_in x1 48 ∧ (((M 9 x1.toNatClampNeg) ≤ x3 → (post x2 M)) ∧ (¬ (M 9 x1.toNatClampNeg) ≤ x3 → (w_X7_entryAt (fun r4 M3 => (vp_in r4 160 ∧ (∀ x4_5 : Int32, x4_5 = M3 4 r4.toNatClampNeg → ((¬ x4_5 = 0 → (w_X7_costOfGap (fun r8 M7 => (w_X7_cost_46 post (w_X7_cost_4 post n) M7 x1 x3 r8 x2)) M3 x4_5)) ∧ (x4_5 = 0 → (w_X7_cost_46 post (w_X7_cost_4 post n) M3 x1 x3 1 x2)))))) M x1 x3))))))
def w_X7_cost (post : Int32 → z_Md → Prop) (M : z_Md) (x1 : Int32) : Prop := (∃ n0 : Nat, w_X7_cost_4 post n0 M x1 0 0)
set_option maxRecDepth 20000 in
theorem mb_X7_cost_46 {p : Program} {l : Launch} {e : Env} {s : State} {m : MethodId} {args : Array Value} {below : List Frame} {meth : Method} {c : Code} {D : va_G} {cy : Nat → ClassId} {A : Nat → Prop} {o : Nat} {ad : Nat → Nat} (S : CallFix p m c cX7_cost 5 s args z_T RX7) (hlk : meth.locks = false) (hr : meth.sig.returnType = some .int) (hE : z_EM D cy s) {post : Int32 → z_Md → Prop} {J4 : z_Md → Int32 → Int32 → Int32 → Prop} (hJ4 : ∀ (M : z_Md) (x1 : Int32) (x2 : Int32) (x3 : Int32), J4 M x1 x2 x3 → z_V A (z_hM D cy A o ad) p l e rm_X7_cost s m args below meth c 5 (MQ below (va_Qi post (fun (u' : z_Md) t => z_hM D cy A o ad u' t.heap) A) args s 0 0 A) 0 0 M 4 [(0, va_rf (some o)), (1, .int x1), (2, .int x2), (3, .int x3)] []) (M : z_Md) (x1 : Int32) (x3 : Int32) (z0 : Int32) (z1 : Int32) (hw : w_X7_cost_46 post J4 M x1 x3 z0 z1) : z_V A (z_hM D cy A o ad) p l e rm_X7_cost s m args below meth c 5 (MQ below (va_Qi post (fun (u' : z_Md) t => z_hM D cy A o ad u' t.heap) A) args s 0 0 A) 0 0 M 46 [(0, va_rf (some o)), (1, .int x1), (3, .int x3)] [.int z0, .int z1] := by
  refine z_iadd S dX7_cost_46 ?_
  refine z_istore_n S [(2, .int (z1 + z0)), (0, va_rf (some o)), (1, .int x1), (3, .int x3)] dX7_cost_47 rfl (by decide) rfl ?_
  refine z_lv (lv' := [(0, va_rf (some o)), (1, .int x1), (2, .int (z1 + z0)), (3, .int x3)]) [1, 2, 0, 3] rfl ?_
  refine z_iinc (v := x3 + 1) (pl := 3) S [(3, .int (x3 + 1)), (0, va_rf (some o)), (1, .int x1), (2, .int (z1 + z0))] dX7_cost_48 rfl rfl (by decide) rfl ?_
  refine z_lv (lv' := [(0, va_rf (some o)), (1, .int x1), (2, .int (z1 + z0)), (3, .int (x3 + 1))]) [1, 2, 3, 0] rfl ?_
  refine z_goto S 4 dX7_cost_51 (by decide) ?_
  exact hJ4 M x1 (z1 + z0) (x3 + 1) hw
set_option maxRecDepth 20000 in
theorem mb_X7_cost_4 {p : Program} {l : Launch} {e : Env} {s : State} {m : MethodId} {args : Array Value} {below : List Frame} {meth : Method} {c : Code} {D : va_G} {cy : Nat → ClassId} {A : Nat → Prop} {o : Nat} {ad : Nat → Nat} (S : CallFix p m c cX7_cost 5 s args z_T RX7) (hlk : meth.locks = false) (hr : meth.sig.returnType = some .int) (hE : z_EM D cy s) {post : Int32 → z_Md → Prop}  : ∀ (n : Nat) (M : z_Md) (x1 : Int32) (x2 : Int32) (x3 : Int32), w_X7_cost_4 post n M x1 x2 x3 → z_V A (z_hM D cy A o ad) p l e rm_X7_cost s m args below meth c 5 (MQ below (va_Qi post (fun (u' : z_Md) t => z_hM D cy A o ad u' t.heap) A) args s 0 0 A) 0 0 M 4 [(0, va_rf (some o)), (1, .int x1), (2, .int x2), (3, .int x3)] [] := by
  intro n
  induction n with
  | zero => intro M x1 x2 x3 hw; exact hw.elim
  | succ n ih =>
    intro M x1 x2 x3 hw
    refine z_iload_n S 1 dX7_cost_4 rfl rfl ?_
    refine z_if_lt S 54 dX7_cost_5 (by decide) (fun c1 => ?_) (fun c1 => ?_)
    · have hw := hw.1 c1
      refine z_iload_n S 2 dX7_cost_54 rfl rfl ?_
      exact z_iret S hr hlk dX7_cost_55 (Nat.le_refl 0) (Nat.le_refl 0) hw
    · have hw := hw.2 c1
      refine z_iload_n S 3 dX7_cost_8 rfl rfl ?_
      refine z_aload_n (x := some o) S 0 dX7_cost_9 rfl rfl ?_
      refine zm_g_35 S hE dX7_cost_10 ?_
      refine z_iload_n S 1 dX7_cost_13 rfl rfl ?_
      obtain ⟨hi10, hw⟩ := hw
      refine z_mald (j := 9) S hE rfl rfl hi10 dX7_cost_14 ?_
      refine z_icmp_ge S 54 dX7_cost_15 (by decide) (fun c2 => ?_) (fun c2 => ?_)
      · have hw := hw.1 c2
        refine z_iload_n S 2 dX7_cost_54 rfl rfl ?_
        exact z_iret S hr hlk dX7_cost_55 (Nat.le_refl 0) (Nat.le_refl 0) hw
      · have hw := hw.2 c2
        refine z_aload_n (x := some o) S 0 dX7_cost_18 rfl rfl ?_
        refine zm_g_19 S hE dX7_cost_19 ?_
        refine z_aload_n (x := some o) S 0 dX7_cost_22 rfl rfl ?_
        refine z_iload_n S 1 dX7_cost_23 rfl rfl ?_
        refine z_iload_n S 3 dX7_cost_24 rfl rfl ?_
        refine z_callVi (As := [.int x1, .int x3]) (st := [.ref (ad 4)]) S (z_EMok D cy A) hE (me_X7_entryAt l D cy A o ad _ M x1 x3 hw) gV_X7_107 hdV_X7_entryAt ⟨Nat.le_of_ble_eq_true rfl, Nat.le_of_ble_eq_true rfl⟩ rfl rfl (z_recvM hE) (fun _ h => h) (fun _ _ _ _ h => h) rfl (Nat.le_trans (z_sr z_s0) (by decide)) dX7_cost_25 ⟨Nat.le_of_ble_eq_true rfl, Nat.le_of_ble_eq_true rfl⟩ rfl (fun r4 M3 hw => ?_)
        obtain ⟨hi9, hw⟩ := hw
        refine z_mald (j := 4) S hE rfl rfl hi9 dX7_cost_28 ?_
        refine z_top (fun x4_5 ex4_5 => ?_)
        have hw := hw x4_5 ex4_5
        refine z_istore S [(4, .int x4_5), (0, va_rf (some o)), (1, .int x1), (2, .int x2), (3, .int x3)] dX7_cost_29 (by decide) rfl ?_
        refine z_lv (lv' := [(0, va_rf (some o)), (1, .int x1), (2, .int x2), (3, .int x3), (4, .int x4_5)]) [1, 2, 3, 4, 0] rfl ?_
        refine z_iload_n S 2 dX7_cost_31 rfl rfl ?_
        refine z_iload S 4 dX7_cost_32 rfl ?_
        refine z_if_ne S 41 dX7_cost_34 (by decide) (fun c6 => ?_) (fun c6 => ?_)
        · have hw := hw.1 c6
          refine z_iload S 4 dX7_cost_41 rfl ?_
          refine z_callSi (As := [.int x4_5]) (st := [.int x2]) S (z_EMok D cy A) hE (me_X7_costOfGap l D cy A o ad _ M3 x4_5 hw) gS_X7_115 hdS_X7_costOfGap ⟨Nat.le_of_ble_eq_true rfl, Nat.le_of_ble_eq_true rfl⟩ rfl rfl (fun _ h => h) (fun _ _ _ _ h => h) rfl (Nat.le_trans (z_s1 z_s0) (by decide)) dX7_cost_43 ⟨Nat.le_of_ble_eq_true rfl, Nat.le_of_ble_eq_true rfl⟩ rfl (fun r8 M7 hw => ?_)
          refine z_lv (lv' := [(0, va_rf (some o)), (1, .int x1), (3, .int x3)]) [0, 1, 3] rfl ?_
          exact mb_X7_cost_46 S hlk hr hE ih M7 x1 x3 r8 x2 hw
        · have hw := hw.2 c6
          refine z_iconst (v := 1) S dX7_cost_37 (by decide) ?_
          refine z_goto S 46 dX7_cost_38 (by decide) ?_
          refine z_lv (lv' := [(0, va_rf (some o)), (1, .int x1), (3, .int x3)]) [0, 1, 3] rfl ?_
          exact mb_X7_cost_46 S hlk hr hE ih M3 x1 x3 1 x2 hw
set_option maxRecDepth 20000 in
theorem mb_X7_cost {p : Program} {l : Launch} {e : Env} {s : State} {m : MethodId} {args : Array Value} {below : List Frame} {meth : Method} {c : Code} {D : va_G} {cy : Nat → ClassId} {A : Nat → Prop} {o : Nat} {ad : Nat → Nat} (S : CallFix p m c cX7_cost 5 s args z_T RX7) (hlk : meth.locks = false) (hr : meth.sig.returnType = some .int) (hE : z_EM D cy s) {post : Int32 → z_Md → Prop}  (M : z_Md) (x1 : Int32) (hw : w_X7_cost post M x1) : z_V A (z_hM D cy A o ad) p l e rm_X7_cost s m args below meth c 5 (MQ below (va_Qi post (fun (u' : z_Md) t => z_hM D cy A o ad u' t.heap) A) args s 0 0 A) 0 0 M 0 [(0, va_rf (some o)), (1, .int x1)] [] := by
  refine z_iconst (v := 0) S dX7_cost_0 (by decide) ?_
  refine z_istore_n S [(2, .int 0), (0, va_rf (some o)), (1, .int x1)] dX7_cost_1 rfl (by decide) rfl ?_
  refine z_lv (lv' := [(0, va_rf (some o)), (1, .int x1), (2, .int 0)]) [1, 2, 0] rfl ?_
  refine z_iconst (v := 0) S dX7_cost_2 (by decide) ?_
  refine z_istore_n S [(3, .int 0), (0, va_rf (some o)), (1, .int x1), (2, .int 0)] dX7_cost_3 rfl (by decide) rfl ?_
  refine z_lv (lv' := [(0, va_rf (some o)), (1, .int x1), (2, .int 0), (3, .int 0)]) [1, 2, 3, 0] rfl ?_
  obtain ⟨n0, hw⟩ := hw
  exact mb_X7_cost_4 S hlk hr hE n0 M x1 0 0 hw
theorem me_X7_cost (l : Launch) (D : va_G) (cy : Nat → ClassId) (A : Nat → Prop) (o : Nat) (ad : Nat → Nat) (post : Int32 → z_Md → Prop) (M : z_Md) (x1 : Int32) (hw : w_X7_cost post M x1) : z_Mi l yX7_cost (Cond.code yX7_cost cX7_cost 5 (some .int) :: z_T) rm_X7_cost [.ref o, .int x1] (z_EM D cy) (z_hM D cy A o ad) M post 0 0 A :=
  z_met (by decide) (Nat.le_of_ble_eq_true rfl) (fun p e s m args below meth c S hlk hr hnm hE => mb_X7_cost S hlk hr hE M x1 hw)
abbrev rm_X7_frames : Room := { frames := 1, cells := 0, slots := 0, locals := 24 }
def w_X7_frames_4 (post : Int32 → z_Md → Prop) : Nat → z_Md → Int32 → Int32 → Int32 → Prop
  | 0 => fun _ _ _ _ => False
  | n + 1 => fun M x1 x2 x3 => ((x1 < 0 → (post x2 M)) ∧ (¬ x1 < 0 → (vp_in x1 48 ∧ (((M 9 x1.toNatClampNeg) ≤ x3 → (post x2 M)) ∧ (¬ (M 9 x1.toNatClampNeg) ≤ x3 → (w_X7_entryAt (fun r4 M3 => (vp_in r4 160 ∧ (∀ x4_5 : Int32, x4_5 = M3 4 r4.toNatClampNeg → (∀ y6 : Int32, y6 = (if x4_5 = 0 then 1 else x4_5) → (w_X7_frames_4 post n M3 x1 (x2 + y6) (x3 + 1)))))) M x1 x3))))))
def w_X7_frames (post : Int32 → z_Md → Prop) (M : z_Md) (x1 : Int32) : Prop := (∃ n0 : Nat, w_X7_frames_4 post n0 M x1 0 0)
set_option maxRecDepth 20000 in
theorem mb_X7_frames_4 {p : Program} {l : Launch} {e : Env} {s : State} {m : MethodId} {args : Array Value} {below : List Frame} {meth : Method} {c : Code} {D : va_G} {cy : Nat → ClassId} {A : Nat → Prop} {o : Nat} {ad : Nat → Nat} (S : CallFix p m c cX7_frames 5 s args z_T RX7) (hlk : meth.locks = false) (hr : meth.sig.returnType = some .int) (hE : z_EM D cy s) {post : Int32 → z_Md → Prop}  : ∀ (n : Nat) (M : z_Md) (x1 : Int32) (x2 : Int32) (x3 : Int32), w_X7_frames_4 post n M x1 x2 x3 → z_V A (z_hM D cy A o ad) p l e rm_X7_frames s m args below meth c 5 (MQ below (va_Qi post (fun (u' : z_Md) t => z_hM D cy A o ad u' t.heap) A) args s 0 0 A) 0 0 M 4 [(0, va_rf (some o)), (1, .int x1), (2, .int x2), (3, .int x3)] [] := by
  intro n
  induction n with
  | zero => intro M x1 x2 x3 hw; exact hw.elim
  | succ n ih =>
    intro M x1 x2 x3 hw
    refine z_iload_n S 1 dX7_frames_4 rfl rfl ?_
    refine z_if_lt S 51 dX7_frames_5 (by decide) (fun c1 => ?_) (fun c1 => ?_)
    · have hw := hw.1 c1
      refine z_iload_n S 2 dX7_frames_51 rfl rfl ?_
      exact z_iret S hr hlk dX7_frames_52 (Nat.le_refl 0) (Nat.le_refl 0) hw
    · have hw := hw.2 c1
      refine z_iload_n S 3 dX7_frames_8 rfl rfl ?_
      refine z_aload_n (x := some o) S 0 dX7_frames_9 rfl rfl ?_
      refine zm_g_35 S hE dX7_frames_10 ?_
      refine z_iload_n S 1 dX7_frames_13 rfl rfl ?_
      obtain ⟨hi9, hw⟩ := hw
      refine z_mald (j := 9) S hE rfl rfl hi9 dX7_frames_14 ?_
      refine z_icmp_ge S 51 dX7_frames_15 (by decide) (fun c2 => ?_) (fun c2 => ?_)
      · have hw := hw.1 c2
        refine z_iload_n S 2 dX7_frames_51 rfl rfl ?_
        exact z_iret S hr hlk dX7_frames_52 (Nat.le_refl 0) (Nat.le_refl 0) hw
      · have hw := hw.2 c2
        refine z_aload_n (x := some o) S 0 dX7_frames_18 rfl rfl ?_
        refine zm_g_19 S hE dX7_frames_19 ?_
        refine z_aload_n (x := some o) S 0 dX7_frames_22 rfl rfl ?_
        refine z_iload_n S 1 dX7_frames_23 rfl rfl ?_
        refine z_iload_n S 3 dX7_frames_24 rfl rfl ?_
        refine z_callVi (As := [.int x1, .int x3]) (st := [.ref (ad 4)]) S (z_EMok D cy A) hE (me_X7_entryAt l D cy A o ad _ M x1 x3 hw) gV_X7_107 hdV_X7_entryAt ⟨Nat.le_of_ble_eq_true rfl, Nat.le_of_ble_eq_true rfl⟩ rfl rfl (z_recvM hE) (fun _ h => h) (fun _ _ _ _ h => h) rfl (Nat.le_trans (z_sr z_s0) (by decide)) dX7_frames_25 ⟨Nat.le_of_ble_eq_true rfl, Nat.le_of_ble_eq_true rfl⟩ rfl (fun r4 M3 hw => ?_)
        obtain ⟨hi8, hw⟩ := hw
        refine z_mald (j := 4) S hE rfl rfl hi8 dX7_frames_28 ?_
        refine z_top (fun x4_5 ex4_5 => ?_)
        have hw := hw x4_5 ex4_5
        refine z_istore S [(4, .int x4_5), (0, va_rf (some o)), (1, .int x1), (2, .int x2), (3, .int x3)] dX7_frames_29 (by decide) rfl ?_
        refine z_lv (lv' := [(0, va_rf (some o)), (1, .int x1), (2, .int x2), (3, .int x3), (4, .int x4_5)]) [1, 2, 3, 4, 0] rfl ?_
        refine z_iload_n S 2 dX7_frames_31 rfl rfl ?_
        refine z_iload S 4 dX7_frames_32 rfl ?_
        suffices hJ : ∀ y6 : Int32, y6 = (if x4_5 = 0 then 1 else x4_5) → z_V A (z_hM D cy A o ad) p l e rm_X7_frames s m args below meth c 5 (MQ below (va_Qi post (fun (u' : z_Md) t => z_hM D cy A o ad u' t.heap) A) args s 0 0 A) 0 0 M3 43 [(0, va_rf (some o)), (1, .int x1), (3, .int x3)] [.int y6, .int x2] from by
          refine z_if_ne S 41 dX7_frames_34 (by decide) (fun c7 => ?_) (fun c7 => ?_)
          · refine z_iload S 4 dX7_frames_41 rfl ?_
            refine z_lv (lv' := [(0, va_rf (some o)), (1, .int x1), (3, .int x3)]) [0, 1, 3] rfl ?_
            exact hJ _ (by rw [if_neg c7])
          · refine z_iconst (v := 1) S dX7_frames_37 (by decide) ?_
            refine z_goto S 43 dX7_frames_38 (by decide) ?_
            refine z_lv (lv' := [(0, va_rf (some o)), (1, .int x1), (3, .int x3)]) [0, 1, 3] rfl ?_
            exact hJ _ (by rw [if_pos c7])
        intro y6 ey6
        have hw := hw y6 ey6
        refine z_iadd S dX7_frames_43 ?_
        refine z_istore_n S [(2, .int (x2 + y6)), (0, va_rf (some o)), (1, .int x1), (3, .int x3)] dX7_frames_44 rfl (by decide) rfl ?_
        refine z_lv (lv' := [(0, va_rf (some o)), (1, .int x1), (2, .int (x2 + y6)), (3, .int x3)]) [1, 2, 0, 3] rfl ?_
        refine z_iinc (v := x3 + 1) (pl := 3) S [(3, .int (x3 + 1)), (0, va_rf (some o)), (1, .int x1), (2, .int (x2 + y6))] dX7_frames_45 rfl rfl (by decide) rfl ?_
        refine z_lv (lv' := [(0, va_rf (some o)), (1, .int x1), (2, .int (x2 + y6)), (3, .int (x3 + 1))]) [1, 2, 3, 0] rfl ?_
        refine z_goto S 4 dX7_frames_48 (by decide) ?_
        exact ih M3 x1 (x2 + y6) (x3 + 1) hw
set_option maxRecDepth 20000 in
theorem mb_X7_frames {p : Program} {l : Launch} {e : Env} {s : State} {m : MethodId} {args : Array Value} {below : List Frame} {meth : Method} {c : Code} {D : va_G} {cy : Nat → ClassId} {A : Nat → Prop} {o : Nat} {ad : Nat → Nat} (S : CallFix p m c cX7_frames 5 s args z_T RX7) (hlk : meth.locks = false) (hr : meth.sig.returnType = some .int) (hE : z_EM D cy s) {post : Int32 → z_Md → Prop}  (M : z_Md) (x1 : Int32) (hw : w_X7_frames post M x1) : z_V A (z_hM D cy A o ad) p l e rm_X7_frames s m args below meth c 5 (MQ below (va_Qi post (fun (u' : z_Md) t => z_hM D cy A o ad u' t.heap) A) args s 0 0 A) 0 0 M 0 [(0, va_rf (some o)), (1, .int x1)] [] := by
  refine z_iconst (v := 0) S dX7_frames_0 (by decide) ?_
  refine z_istore_n S [(2, .int 0), (0, va_rf (some o)), (1, .int x1)] dX7_frames_1 rfl (by decide) rfl ?_
  refine z_lv (lv' := [(0, va_rf (some o)), (1, .int x1), (2, .int 0)]) [1, 2, 0] rfl ?_
  refine z_iconst (v := 0) S dX7_frames_2 (by decide) ?_
  refine z_istore_n S [(3, .int 0), (0, va_rf (some o)), (1, .int x1), (2, .int 0)] dX7_frames_3 rfl (by decide) rfl ?_
  refine z_lv (lv' := [(0, va_rf (some o)), (1, .int x1), (2, .int 0), (3, .int 0)]) [1, 2, 3, 0] rfl ?_
  obtain ⟨n0, hw⟩ := hw
  exact mb_X7_frames_4 S hlk hr hE n0 M x1 0 0 hw
theorem me_X7_frames (l : Launch) (D : va_G) (cy : Nat → ClassId) (A : Nat → Prop) (o : Nat) (ad : Nat → Nat) (post : Int32 → z_Md → Prop) (M : z_Md) (x1 : Int32) (hw : w_X7_frames post M x1) : z_Mi l yX7_frames (Cond.code yX7_frames cX7_frames 5 (some .int) :: z_T) rm_X7_frames [.ref o, .int x1] (z_EM D cy) (z_hM D cy A o ad) M post 0 0 A :=
  z_met (by decide) (Nat.le_of_ble_eq_true rfl) (fun p e s m args below meth c S hlk hr hnm hE => mb_X7_frames S hlk hr hE M x1 hw)
abbrev rm_X7_sound : Room := { frames := 1, cells := 0, slots := 0, locals := 26 }
def w_X7_sound_134 (post : Int32 → z_Md → Prop) (J15 : z_Md → Int32 → Int32 → Int32 → Prop) (M : z_Md) (x1 : Int32) (x3 : Int32) (x4 : Int32) : Prop := (J15 M x1 x3 (x4 + 1))
def w_X7_sound_90 (post : Int32 → z_Md → Prop) (J15 : z_Md → Int32 → Int32 → Int32 → Prop) : Nat → z_Md → Int32 → Int32 → Int32 → Int32 → Int32 → Prop
  | 0 => fun _ _ _ _ _ _ => False
  | n + 1 => fun M x1 x3 x4 x5 x6 => ((8 ≤ x6 → (w_X7_sound_134 post J15 M x1 x3 x4)) ∧ (¬ 8 ≤ x6 → (vp_in x5 160 ∧ (w_X7_hear (fun M2 => ((¬ x3 = 0 → (w_X7_sound_90 post J15 n M2 x1 (x3 + (-1)) x4 x5 (x6 + 1))) ∧ (x3 = 0 → (post (M2 30 0) M2)))) M (((M 5 x5.toNatClampNeg) >>> ((4 * x6) &&& 31)) &&& 15)))))
def w_X7_sound_15 (post : Int32 → z_Md → Prop) : Nat → z_Md → Int32 → Int32 → Int32 → Prop
  | 0 => fun _ _ _ _ => False
  | n + 1 => fun M x1 x3 x4 => (vp_in x1 48 ∧ (((M 9 x1.toNatClampNeg) ≤ x4 → (post 0 M)) ∧ (¬ (M 9 x1.toNatClampNeg) ≤ x4 → (w_X7_entryAt (fun r3 M2 => (vp_in r3 160 ∧ (((M2 4 r3.toNatClampNeg) ≤ 0 → (∃ n0 : Nat, w_X7_sound_90 post (w_X7_sound_15 post n) n0 M2 x1 x3 x4 r3 0)) ∧ (¬ (M2 4 r3.toNatClampNeg) ≤ 0 → (vp_in r3 160 ∧ (((8 * (M2 4 r3.toNatClampNeg)) ≤ x3 → (vp_in r3 160 ∧ (∀ x3_6 : Int32, x3_6 = x3 - (8 * (M2 4 r3.toNatClampNeg)) → (w_X7_sound_134 post (w_X7_sound_15 post n) (z_up (z_up M2 30 0 0) 31 0 0) x1 x3_6 x4)))) ∧ (¬ (8 * (M2 4 r3.toNatClampNeg)) ≤ x3 → (post 0 M2)))))))) M x1 x4))))
def w_X7_sound (post : Int32 → z_Md → Prop) (M : z_Md) (x1 : Int32) (x2 : Int32) : Prop := (∃ n0 : Nat, w_X7_sound_15 post n0 (z_up (z_up M 30 0 0) 31 0 0) x1 x2 0)
set_option maxRecDepth 20000 in
theorem mb_X7_sound_134 {p : Program} {l : Launch} {e : Env} {s : State} {m : MethodId} {args : Array Value} {below : List Frame} {meth : Method} {c : Code} {D : va_G} {cy : Nat → ClassId} {A : Nat → Prop} {o : Nat} {ad : Nat → Nat} (S : CallFix p m c cX7_sound 7 s args z_T RX7) (hlk : meth.locks = false) (hr : meth.sig.returnType = some .int) (hE : z_EM D cy s) {post : Int32 → z_Md → Prop} {J15 : z_Md → Int32 → Int32 → Int32 → Prop} (hJ15 : ∀ (M : z_Md) (x1 : Int32) (x3 : Int32) (x4 : Int32), J15 M x1 x3 x4 → z_V A (z_hM D cy A o ad) p l e rm_X7_sound s m args below meth c 7 (MQ below (va_Qi post (fun (u' : z_Md) t => z_hM D cy A o ad u' t.heap) A) args s 0 0 A) 0 0 M 15 [(0, va_rf (some o)), (1, .int x1), (3, .int x3), (4, .int x4)] []) (M : z_Md) (x1 : Int32) (x3 : Int32) (x4 : Int32) (hw : w_X7_sound_134 post J15 M x1 x3 x4) : z_V A (z_hM D cy A o ad) p l e rm_X7_sound s m args below meth c 7 (MQ below (va_Qi post (fun (u' : z_Md) t => z_hM D cy A o ad u' t.heap) A) args s 0 0 A) 0 0 M 134 [(0, va_rf (some o)), (1, .int x1), (3, .int x3), (4, .int x4)] [] := by
  refine z_iinc (v := x4 + 1) (pl := 3) S [(4, .int (x4 + 1)), (0, va_rf (some o)), (1, .int x1), (3, .int x3)] dX7_sound_134 rfl rfl (by decide) rfl ?_
  refine z_lv (lv' := [(0, va_rf (some o)), (1, .int x1), (3, .int x3), (4, .int (x4 + 1))]) [1, 2, 3, 0] rfl ?_
  refine z_goto S 15 dX7_sound_137 (by decide) ?_
  exact hJ15 M x1 x3 (x4 + 1) hw
set_option maxRecDepth 20000 in
theorem mb_X7_sound_90 {p : Program} {l : Launch} {e : Env} {s : State} {m : MethodId} {args : Array Value} {below : List Frame} {meth : Method} {c : Code} {D : va_G} {cy : Nat → ClassId} {A : Nat → Prop} {o : Nat} {ad : Nat → Nat} (S : CallFix p m c cX7_sound 7 s args z_T RX7) (hlk : meth.locks = false) (hr : meth.sig.returnType = some .int) (hE : z_EM D cy s) {post : Int32 → z_Md → Prop} {J15 : z_Md → Int32 → Int32 → Int32 → Prop} (hJ15 : ∀ (M : z_Md) (x1 : Int32) (x3 : Int32) (x4 : Int32), J15 M x1 x3 x4 → z_V A (z_hM D cy A o ad) p l e rm_X7_sound s m args below meth c 7 (MQ below (va_Qi post (fun (u' : z_Md) t => z_hM D cy A o ad u' t.heap) A) args s 0 0 A) 0 0 M 15 [(0, va_rf (some o)), (1, .int x1), (3, .int x3), (4, .int x4)] []) : ∀ (n : Nat) (M : z_Md) (x1 : Int32) (x3 : Int32) (x4 : Int32) (x5 : Int32) (x6 : Int32), w_X7_sound_90 post J15 n M x1 x3 x4 x5 x6 → z_V A (z_hM D cy A o ad) p l e rm_X7_sound s m args below meth c 7 (MQ below (va_Qi post (fun (u' : z_Md) t => z_hM D cy A o ad u' t.heap) A) args s 0 0 A) 0 0 M 90 [(0, va_rf (some o)), (1, .int x1), (3, .int x3), (4, .int x4), (5, .int x5), (6, .int x6)] [] := by
  intro n
  induction n with
  | zero => intro M x1 x3 x4 x5 x6 hw; exact hw.elim
  | succ n ih =>
    intro M x1 x3 x4 x5 x6 hw
    refine z_iload S 5 dX7_sound_90 rfl ?_
    refine z_bipush (v := 8) S dX7_sound_92 (by decide) ?_
    refine z_icmp_ge S 134 dX7_sound_94 (by decide) (fun c1 => ?_) (fun c1 => ?_)
    · have hw := hw.1 c1
      refine z_lv (lv' := [(0, va_rf (some o)), (1, .int x1), (3, .int x3), (4, .int x4)]) [0, 1, 2, 3] rfl ?_
      exact mb_X7_sound_134 S hlk hr hE hJ15 M x1 x3 x4 hw
    · have hw := hw.2 c1
      refine z_aload_n (x := some o) S 0 dX7_sound_97 rfl rfl ?_
      refine z_aload_n (x := some o) S 0 dX7_sound_98 rfl rfl ?_
      refine zm_g_22 S hE dX7_sound_99 ?_
      refine z_iload S 4 dX7_sound_102 rfl ?_
      obtain ⟨hi5, hw⟩ := hw
      refine z_mald (j := 5) S hE rfl rfl hi5 dX7_sound_104 ?_
      refine z_iconst (v := 4) S dX7_sound_105 (by decide) ?_
      refine z_iload S 5 dX7_sound_106 rfl ?_
      refine z_imul S dX7_sound_108 ?_
      refine z_ishr S dX7_sound_109 ?_
      refine z_bipush (v := 15) S dX7_sound_110 (by decide) ?_
      refine z_iand S dX7_sound_112 ?_
      refine z_callVv (As := [.int (((M 5 x5.toNatClampNeg) >>> ((4 * x6) &&& 31)) &&& 15)]) (st := []) S (z_EMok D cy A) hE (me_X7_hear l D cy A o ad _ M (((M 5 x5.toNatClampNeg) >>> ((4 * x6) &&& 31)) &&& 15) hw) gV_X7_99 hdV_X7_hear ⟨Nat.le_of_ble_eq_true rfl, Nat.le_of_ble_eq_true rfl⟩ rfl rfl (z_recvM hE) (fun _ h => h) (fun _ _ _ _ h => h) rfl (Nat.le_trans z_s0 (by decide)) dX7_sound_113 ⟨Nat.le_of_ble_eq_true rfl, Nat.le_of_ble_eq_true rfl⟩ rfl (fun M2 hw => ?_)
      refine z_iload_n S 2 dX7_sound_116 rfl rfl ?_
      refine z_if_ne S 125 dX7_sound_117 (by decide) (fun c4 => ?_) (fun c4 => ?_)
      · have hw := hw.1 c4
        refine z_iinc (v := x3 + (-1)) (pl := 2) S [(3, .int (x3 + (-1))), (0, va_rf (some o)), (1, .int x1), (4, .int x4), (5, .int x5), (6, .int x6)] dX7_sound_125 rfl rfl (by decide) rfl ?_
        refine z_lv (lv' := [(0, va_rf (some o)), (1, .int x1), (3, .int (x3 + (-1))), (4, .int x4), (5, .int x5), (6, .int x6)]) [1, 2, 0, 3, 4, 5] rfl ?_
        refine z_iinc (v := x6 + 1) (pl := 5) S [(6, .int (x6 + 1)), (0, va_rf (some o)), (1, .int x1), (3, .int (x3 + (-1))), (4, .int x4), (5, .int x5)] dX7_sound_128 rfl rfl (by decide) rfl ?_
        refine z_lv (lv' := [(0, va_rf (some o)), (1, .int x1), (3, .int (x3 + (-1))), (4, .int x4), (5, .int x5), (6, .int (x6 + 1))]) [1, 2, 3, 4, 5, 0] rfl ?_
        refine z_goto S 90 dX7_sound_131 (by decide) ?_
        exact ih M2 x1 (x3 + (-1)) x4 x5 (x6 + 1) hw
      · have hw := hw.2 c4
        refine z_aload_n (x := some o) S 0 dX7_sound_120 rfl rfl ?_
        refine zm_g_96 S hE dX7_sound_121 ?_
        exact z_iret S hr hlk dX7_sound_124 (Nat.le_refl 0) (Nat.le_refl 0) hw
set_option maxRecDepth 20000 in
theorem mb_X7_sound_15 {p : Program} {l : Launch} {e : Env} {s : State} {m : MethodId} {args : Array Value} {below : List Frame} {meth : Method} {c : Code} {D : va_G} {cy : Nat → ClassId} {A : Nat → Prop} {o : Nat} {ad : Nat → Nat} (S : CallFix p m c cX7_sound 7 s args z_T RX7) (hlk : meth.locks = false) (hr : meth.sig.returnType = some .int) (hE : z_EM D cy s) {post : Int32 → z_Md → Prop}  : ∀ (n : Nat) (M : z_Md) (x1 : Int32) (x3 : Int32) (x4 : Int32), w_X7_sound_15 post n M x1 x3 x4 → z_V A (z_hM D cy A o ad) p l e rm_X7_sound s m args below meth c 7 (MQ below (va_Qi post (fun (u' : z_Md) t => z_hM D cy A o ad u' t.heap) A) args s 0 0 A) 0 0 M 15 [(0, va_rf (some o)), (1, .int x1), (3, .int x3), (4, .int x4)] [] := by
  intro n
  induction n with
  | zero => intro M x1 x3 x4 hw; exact hw.elim
  | succ n ih =>
    intro M x1 x3 x4 hw
    refine z_iload S 3 dX7_sound_15 rfl ?_
    refine z_aload_n (x := some o) S 0 dX7_sound_17 rfl rfl ?_
    refine zm_g_35 S hE dX7_sound_18 ?_
    refine z_iload_n S 1 dX7_sound_21 rfl rfl ?_
    obtain ⟨hi10, hw⟩ := hw
    refine z_mald (j := 9) S hE rfl rfl hi10 dX7_sound_22 ?_
    refine z_icmp_ge S 140 dX7_sound_23 (by decide) (fun c1 => ?_) (fun c1 => ?_)
    · have hw := hw.1 c1
      refine z_iconst (v := 0) S dX7_sound_140 (by decide) ?_
      exact z_iret S hr hlk dX7_sound_141 (Nat.le_refl 0) (Nat.le_refl 0) hw
    · have hw := hw.2 c1
      refine z_aload_n (x := some o) S 0 dX7_sound_26 rfl rfl ?_
      refine z_iload_n S 1 dX7_sound_27 rfl rfl ?_
      refine z_iload S 3 dX7_sound_28 rfl ?_
      refine z_callVi (As := [.int x1, .int x4]) (st := []) S (z_EMok D cy A) hE (me_X7_entryAt l D cy A o ad _ M x1 x4 hw) gV_X7_107 hdV_X7_entryAt ⟨Nat.le_of_ble_eq_true rfl, Nat.le_of_ble_eq_true rfl⟩ rfl rfl (z_recvM hE) (fun _ h => h) (fun _ _ _ _ h => h) rfl (Nat.le_trans z_s0 (by decide)) dX7_sound_30 ⟨Nat.le_of_ble_eq_true rfl, Nat.le_of_ble_eq_true rfl⟩ rfl (fun r3 M2 hw => ?_)
      refine z_istore S [(5, .int r3), (0, va_rf (some o)), (1, .int x1), (3, .int x3), (4, .int x4)] dX7_sound_33 (by decide) rfl ?_
      refine z_lv (lv' := [(0, va_rf (some o)), (1, .int x1), (3, .int x3), (4, .int x4), (5, .int r3)]) [1, 2, 3, 4, 0] rfl ?_
      refine z_aload_n (x := some o) S 0 dX7_sound_35 rfl rfl ?_
      refine zm_g_19 S hE dX7_sound_36 ?_
      refine z_iload S 4 dX7_sound_39 rfl ?_
      obtain ⟨hi9, hw⟩ := hw
      refine z_mald (j := 4) S hE rfl rfl hi9 dX7_sound_41 ?_
      refine z_if_le S 87 dX7_sound_42 (by decide) (fun c4 => ?_) (fun c4 => ?_)
      · have hw := hw.1 c4
        refine z_iconst (v := 0) S dX7_sound_87 (by decide) ?_
        refine z_istore S [(6, .int 0), (0, va_rf (some o)), (1, .int x1), (3, .int x3), (4, .int x4), (5, .int r3)] dX7_sound_88 (by decide) rfl ?_
        refine z_lv (lv' := [(0, va_rf (some o)), (1, .int x1), (3, .int x3), (4, .int x4), (5, .int r3), (6, .int 0)]) [1, 2, 3, 4, 5, 0] rfl ?_
        obtain ⟨n0, hw⟩ := hw
        exact mb_X7_sound_90 S hlk hr hE ih n0 M2 x1 x3 x4 r3 0 hw
      · have hw := hw.2 c4
        refine z_iload_n S 2 dX7_sound_45 rfl rfl ?_
        refine z_bipush (v := 8) S dX7_sound_46 (by decide) ?_
        refine z_aload_n (x := some o) S 0 dX7_sound_48 rfl rfl ?_
        refine zm_g_19 S hE dX7_sound_49 ?_
        refine z_iload S 4 dX7_sound_52 rfl ?_
        obtain ⟨hi8, hw⟩ := hw
        refine z_mald (j := 4) S hE rfl rfl hi8 dX7_sound_54 ?_
        refine z_imul S dX7_sound_55 ?_
        refine z_icmp_ge S 61 dX7_sound_56 (by decide) (fun c5 => ?_) (fun c5 => ?_)
        · have hw := hw.1 c5
          refine z_iload_n S 2 dX7_sound_61 rfl rfl ?_
          refine z_bipush (v := 8) S dX7_sound_62 (by decide) ?_
          refine z_aload_n (x := some o) S 0 dX7_sound_64 rfl rfl ?_
          refine zm_g_19 S hE dX7_sound_65 ?_
          refine z_iload S 4 dX7_sound_68 rfl ?_
          obtain ⟨hi7, hw⟩ := hw
          refine z_mald (j := 4) S hE rfl rfl hi7 dX7_sound_70 ?_
          refine z_imul S dX7_sound_71 ?_
          refine z_isub S dX7_sound_72 ?_
          refine z_top (fun x3_6 ex3_6 => ?_)
          have hw := hw x3_6 ex3_6
          refine z_istore_n S [(3, .int x3_6), (0, va_rf (some o)), (1, .int x1), (4, .int x4), (5, .int r3)] dX7_sound_73 rfl (by decide) rfl ?_
          refine z_lv (lv' := [(0, va_rf (some o)), (1, .int x1), (3, .int x3_6), (4, .int x4), (5, .int r3)]) [1, 2, 0, 3, 4] rfl ?_
          refine z_aload_n (x := some o) S 0 dX7_sound_74 rfl rfl ?_
          refine z_iconst (v := 0) S dX7_sound_75 (by decide) ?_
          refine zm_p_96 S hE dX7_sound_76 ?_
          refine z_aload_n (x := some o) S 0 dX7_sound_79 rfl rfl ?_
          refine z_iconst (v := 0) S dX7_sound_80 (by decide) ?_
          refine zm_p_93 S hE dX7_sound_81 ?_
          refine z_goto S 134 dX7_sound_84 (by decide) ?_
          refine z_lv (lv' := [(0, va_rf (some o)), (1, .int x1), (3, .int x3_6), (4, .int x4)]) [0, 1, 2, 3] rfl ?_
          exact mb_X7_sound_134 S hlk hr hE ih (z_up (z_up M2 30 0 0) 31 0 0) x1 x3_6 x4 hw
        · have hw := hw.2 c5
          refine z_iconst (v := 0) S dX7_sound_59 (by decide) ?_
          exact z_iret S hr hlk dX7_sound_60 (Nat.le_refl 0) (Nat.le_refl 0) hw
set_option maxRecDepth 20000 in
theorem mb_X7_sound {p : Program} {l : Launch} {e : Env} {s : State} {m : MethodId} {args : Array Value} {below : List Frame} {meth : Method} {c : Code} {D : va_G} {cy : Nat → ClassId} {A : Nat → Prop} {o : Nat} {ad : Nat → Nat} (S : CallFix p m c cX7_sound 7 s args z_T RX7) (hlk : meth.locks = false) (hr : meth.sig.returnType = some .int) (hE : z_EM D cy s) {post : Int32 → z_Md → Prop}  (M : z_Md) (x1 : Int32) (x2 : Int32) (hw : w_X7_sound post M x1 x2) : z_V A (z_hM D cy A o ad) p l e rm_X7_sound s m args below meth c 7 (MQ below (va_Qi post (fun (u' : z_Md) t => z_hM D cy A o ad u' t.heap) A) args s 0 0 A) 0 0 M 0 [(0, va_rf (some o)), (1, .int x1), (2, .int x2)] [] := by
  refine z_aload_n (x := some o) S 0 dX7_sound_0 rfl rfl ?_
  refine z_iconst (v := 0) S dX7_sound_1 (by decide) ?_
  refine zm_p_96 S hE dX7_sound_2 ?_
  refine z_aload_n (x := some o) S 0 dX7_sound_5 rfl rfl ?_
  refine z_iconst (v := 0) S dX7_sound_6 (by decide) ?_
  refine zm_p_93 S hE dX7_sound_7 ?_
  refine z_iload_n S 2 dX7_sound_10 rfl rfl ?_
  refine z_istore_n S [(3, .int x2), (0, va_rf (some o)), (1, .int x1), (2, .int x2)] dX7_sound_11 rfl (by decide) rfl ?_
  refine z_lv (lv' := [(0, va_rf (some o)), (1, .int x1), (2, .int x2), (3, .int x2)]) [1, 2, 3, 0] rfl ?_
  refine z_iconst (v := 0) S dX7_sound_12 (by decide) ?_
  refine z_istore S [(4, .int 0), (0, va_rf (some o)), (1, .int x1), (2, .int x2), (3, .int x2)] dX7_sound_13 (by decide) rfl ?_
  refine z_lv (lv' := [(0, va_rf (some o)), (1, .int x1), (2, .int x2), (3, .int x2), (4, .int 0)]) [1, 2, 3, 4, 0] rfl ?_
  refine z_lv (lv' := [(0, va_rf (some o)), (1, .int x1), (3, .int x2), (4, .int 0)]) [0, 1, 3, 4] rfl ?_
  obtain ⟨n0, hw⟩ := hw
  exact mb_X7_sound_15 S hlk hr hE n0 (z_up (z_up M 30 0 0) 31 0 0) x1 x2 0 hw
theorem me_X7_sound (l : Launch) (D : va_G) (cy : Nat → ClassId) (A : Nat → Prop) (o : Nat) (ad : Nat → Nat) (post : Int32 → z_Md → Prop) (M : z_Md) (x1 : Int32) (x2 : Int32) (hw : w_X7_sound post M x1 x2) : z_Mi l yX7_sound (Cond.code yX7_sound cX7_sound 7 (some .int) :: z_T) rm_X7_sound [.ref o, .int x1, .int x2] (z_EM D cy) (z_hM D cy A o ad) M post 0 0 A :=
  z_met (by decide) (Nat.le_of_ble_eq_true rfl) (fun p e s m args below meth c S hlk hr hnm hE => mb_X7_sound S hlk hr hE M x1 x2 hw)
abbrev rm_X7_isBox : Room := { frames := 0, cells := 0, slots := 0, locals := 0 }
def w_X7_isBox (post : Int32 → z_Md → Prop) (M : z_Md) (x1 : Int32) : Prop := (∀ y1 : Int32, y1 = (if x1 < 0 then 0 else (if (M 10 0) ≤ x1 then 0 else 1)) → (narrow .boolean (.int y1) = .int y1 ∧ (post y1 M)))
set_option maxRecDepth 20000 in
theorem mb_X7_isBox {p : Program} {l : Launch} {e : Env} {s : State} {m : MethodId} {args : Array Value} {below : List Frame} {meth : Method} {c : Code} {D : va_G} {cy : Nat → ClassId} {A : Nat → Prop} {o : Nat} {ad : Nat → Nat} (S : CallFix p m c cX7_isBox 2 s args z_T RX7) (hlk : meth.locks = false) (hr : meth.sig.returnType = some .boolean) (hE : z_EM D cy s) {post : Int32 → z_Md → Prop}  (M : z_Md) (x1 : Int32) (hw : w_X7_isBox post M x1) : z_V A (z_hM D cy A o ad) p l e rm_X7_isBox s m args below meth c 2 (MQ below (va_Qi post (fun (u' : z_Md) t => z_hM D cy A o ad u' t.heap) A) args s 0 0 A) 0 0 M 0 [(0, va_rf (some o)), (1, .int x1)] [] := by
  refine z_iload_n S 1 dX7_isBox_0 rfl rfl ?_
  suffices hJ : ∀ y1 : Int32, y1 = (if x1 < 0 then 0 else (if (M 10 0) ≤ x1 then 0 else 1)) → z_V A (z_hM D cy A o ad) p l e rm_X7_isBox s m args below meth c 2 (MQ below (va_Qi post (fun (u' : z_Md) t => z_hM D cy A o ad u' t.heap) A) args s 0 0 A) 0 0 M 17 [] [.int y1] from by
    refine z_if_lt S 16 dX7_isBox_1 (by decide) (fun c2 => ?_) (fun c2 => ?_)
    · refine z_iconst (v := 0) S dX7_isBox_16 (by decide) ?_
      refine z_lv (lv' := []) [] rfl ?_
      exact hJ _ (by rw [if_pos c2])
    · refine z_iload_n S 1 dX7_isBox_4 rfl rfl ?_
      refine z_aload_n (x := some o) S 0 dX7_isBox_5 rfl rfl ?_
      refine zm_g_118 S hE dX7_isBox_6 ?_
      refine z_icmp_ge S 16 dX7_isBox_9 (by decide) (fun c3 => ?_) (fun c3 => ?_)
      · refine z_iconst (v := 0) S dX7_isBox_16 (by decide) ?_
        refine z_lv (lv' := []) [] rfl ?_
        exact hJ _ (by rw [if_neg c2, if_pos c3])
      · refine z_iconst (v := 1) S dX7_isBox_12 (by decide) ?_
        refine z_goto S 17 dX7_isBox_13 (by decide) ?_
        refine z_lv (lv' := []) [] rfl ?_
        exact hJ _ (by rw [if_neg c2, if_neg c3])
  intro y1 ey1
  have hw := hw y1 ey1
  exact z_zret S hr hlk dX7_isBox_17 (Nat.le_refl 0) (Nat.le_refl 0) hw.1 hw.2
theorem me_X7_isBox (l : Launch) (D : va_G) (cy : Nat → ClassId) (A : Nat → Prop) (o : Nat) (ad : Nat → Nat) (post : Int32 → z_Md → Prop) (M : z_Md) (x1 : Int32) (hw : w_X7_isBox post M x1) : z_Mi l yX7_isBox (Cond.code yX7_isBox cX7_isBox 2 (some .boolean) :: z_T) rm_X7_isBox [.ref o, .int x1] (z_EM D cy) (z_hM D cy A o ad) M post 0 0 A :=
  z_met (by decide) (Nat.le_of_ble_eq_true rfl) (fun p e s m args below meth c S hlk hr hnm hE => mb_X7_isBox S hlk hr hE M x1 hw)
end
section
abbrev rm_X7_usedBy : Room := { frames := 2, cells := 0, slots := 0, locals := 48 }
def w_X7_usedBy_48 (post : Int32 → z_Md → Prop) (J4 : z_Md → Int32 → Int32 → Int32 → Prop) (M : z_Md) (x1 : Int32) (x3 : Int32) (z0 : Int32) (z1 : Int32) : Prop := (J4 M x1 (z1 + z0) (x3 + 1))
def w_X7_usedBy_106 (post : Int32 → z_Md → Prop) (J58 : z_Md → Int32 → Int32 → Int32 → Prop) (M : z_Md) (x1 : Int32) (x3 : Int32) (z0 : Int32) (z1 : Int32) : Prop := (J58 M x1 (z1 + z0) (x3 + 1))
def w_X7_usedBy_105 (post : Int32 → z_Md → Prop) (J58 : z_Md → Int32 → Int32 → Int32 → Prop) (M : z_Md) (x1 : Int32) (x3 : Int32) (z0 : Int32) : Prop := (w_X7_usedBy_106 post J58 M x1 x3 0 z0)
def w_X7_usedBy_58 (post : Int32 → z_Md → Prop) : Nat → z_Md → Int32 → Int32 → Int32 → Prop
  | 0 => fun _ _ _ _ => False
  | n + 1 => fun M x1 x2 x3 => ((3 ≤ x3 → (post x2 M)) ∧ (¬ 3 ≤ x3 → (vp_in x3 3 ∧ (((M 20 x3.toNatClampNeg) = 0 → (w_X7_usedBy_105 post (w_X7_usedBy_58 post n) M x1 x3 x2)) ∧ (¬ (M 20 x3.toNatClampNeg) = 0 → (vp_in x3 3 ∧ ((¬ (M 22 x3.toNatClampNeg) = 0 → (w_X7_usedBy_105 post (w_X7_usedBy_58 post n) M x1 x3 x2)) ∧ ((M 22 x3.toNatClampNeg) = 0 → (vp_in x3 3 ∧ ((¬ (M 21 x3.toNatClampNeg) = x1 → (w_X7_usedBy_105 post (w_X7_usedBy_58 post n) M x1 x3 x2)) ∧ ((M 21 x3.toNatClampNeg) = x1 → (vp_in x3 3 ∧ (w_X7_cost (fun r6 M5 => (w_X7_usedBy_106 post (w_X7_usedBy_58 post n) M5 x1 x3 r6 x2)) M (M 23 x3.toNatClampNeg))))))))))))))
def w_X7_usedBy_4 (post : Int32 → z_Md → Prop) : Nat → z_Md → Int32 → Int32 → Int32 → Prop
  | 0 => fun _ _ _ _ => False
  | n + 1 => fun M x1 x2 x3 => (((M 13 0) ≤ x3 → (∃ n0 : Nat, w_X7_usedBy_58 post n0 M x1 x2 0)) ∧ (¬ (M 13 0) ≤ x3 → (vp_in x3 16 ∧ ((¬ (M 16 x3.toNatClampNeg) = x1 → (w_X7_usedBy_48 post (w_X7_usedBy_4 post n) M x1 x3 0 x2)) ∧ ((M 16 x3.toNatClampNeg) = x1 → (vp_in x3 16 ∧ (w_X7_cost (fun r4 M3 => (vp_in x3 16 ∧ (w_X7_cost (fun r6 M5 => (w_X7_usedBy_48 post (w_X7_usedBy_4 post n) M5 x1 x3 (r4 + r6) x2)) M3 (M3 19 x3.toNatClampNeg)))) M (M 18 x3.toNatClampNeg))))))))
def w_X7_usedBy (post : Int32 → z_Md → Prop) (M : z_Md) (x1 : Int32) : Prop := (∃ n0 : Nat, w_X7_usedBy_4 post n0 M x1 0 0)
set_option maxRecDepth 20000 in
theorem mb_X7_usedBy_48 {p : Program} {l : Launch} {e : Env} {s : State} {m : MethodId} {args : Array Value} {below : List Frame} {meth : Method} {c : Code} {D : va_G} {cy : Nat → ClassId} {A : Nat → Prop} {o : Nat} {ad : Nat → Nat} (S : CallFix p m c cX7_usedBy 4 s args z_T RX7) (hlk : meth.locks = false) (hr : meth.sig.returnType = some .int) (hE : z_EM D cy s) {post : Int32 → z_Md → Prop} {J4 : z_Md → Int32 → Int32 → Int32 → Prop} (hJ4 : ∀ (M : z_Md) (x1 : Int32) (x2 : Int32) (x3 : Int32), J4 M x1 x2 x3 → z_V A (z_hM D cy A o ad) p l e rm_X7_usedBy s m args below meth c 4 (MQ below (va_Qi post (fun (u' : z_Md) t => z_hM D cy A o ad u' t.heap) A) args s 0 0 A) 0 0 M 4 [(0, va_rf (some o)), (1, .int x1), (2, .int x2), (3, .int x3)] []) (M : z_Md) (x1 : Int32) (x3 : Int32) (z0 : Int32) (z1 : Int32) (hw : w_X7_usedBy_48 post J4 M x1 x3 z0 z1) : z_V A (z_hM D cy A o ad) p l e rm_X7_usedBy s m args below meth c 4 (MQ below (va_Qi post (fun (u' : z_Md) t => z_hM D cy A o ad u' t.heap) A) args s 0 0 A) 0 0 M 48 [(0, va_rf (some o)), (1, .int x1), (3, .int x3)] [.int z0, .int z1] := by
  refine z_iadd S dX7_usedBy_48 ?_
  refine z_istore_n S [(2, .int (z1 + z0)), (0, va_rf (some o)), (1, .int x1), (3, .int x3)] dX7_usedBy_49 rfl (by decide) rfl ?_
  refine z_lv (lv' := [(0, va_rf (some o)), (1, .int x1), (2, .int (z1 + z0)), (3, .int x3)]) [1, 2, 0, 3] rfl ?_
  refine z_iinc (v := x3 + 1) (pl := 3) S [(3, .int (x3 + 1)), (0, va_rf (some o)), (1, .int x1), (2, .int (z1 + z0))] dX7_usedBy_50 rfl rfl (by decide) rfl ?_
  refine z_lv (lv' := [(0, va_rf (some o)), (1, .int x1), (2, .int (z1 + z0)), (3, .int (x3 + 1))]) [1, 2, 3, 0] rfl ?_
  refine z_goto S 4 dX7_usedBy_53 (by decide) ?_
  exact hJ4 M x1 (z1 + z0) (x3 + 1) hw
set_option maxRecDepth 20000 in
theorem mb_X7_usedBy_106 {p : Program} {l : Launch} {e : Env} {s : State} {m : MethodId} {args : Array Value} {below : List Frame} {meth : Method} {c : Code} {D : va_G} {cy : Nat → ClassId} {A : Nat → Prop} {o : Nat} {ad : Nat → Nat} (S : CallFix p m c cX7_usedBy 4 s args z_T RX7) (hlk : meth.locks = false) (hr : meth.sig.returnType = some .int) (hE : z_EM D cy s) {post : Int32 → z_Md → Prop} {J58 : z_Md → Int32 → Int32 → Int32 → Prop} (hJ58 : ∀ (M : z_Md) (x1 : Int32) (x2 : Int32) (x3 : Int32), J58 M x1 x2 x3 → z_V A (z_hM D cy A o ad) p l e rm_X7_usedBy s m args below meth c 4 (MQ below (va_Qi post (fun (u' : z_Md) t => z_hM D cy A o ad u' t.heap) A) args s 0 0 A) 0 0 M 58 [(0, va_rf (some o)), (1, .int x1), (2, .int x2), (3, .int x3)] []) (M : z_Md) (x1 : Int32) (x3 : Int32) (z0 : Int32) (z1 : Int32) (hw : w_X7_usedBy_106 post J58 M x1 x3 z0 z1) : z_V A (z_hM D cy A o ad) p l e rm_X7_usedBy s m args below meth c 4 (MQ below (va_Qi post (fun (u' : z_Md) t => z_hM D cy A o ad u' t.heap) A) args s 0 0 A) 0 0 M 106 [(0, va_rf (some o)), (1, .int x1), (3, .int x3)] [.int z0, .int z1] := by
  refine z_iadd S dX7_usedBy_106 ?_
  refine z_istore_n S [(2, .int (z1 + z0)), (0, va_rf (some o)), (1, .int x1), (3, .int x3)] dX7_usedBy_107 rfl (by decide) rfl ?_
  refine z_lv (lv' := [(0, va_rf (some o)), (1, .int x1), (2, .int (z1 + z0)), (3, .int x3)]) [1, 2, 0, 3] rfl ?_
  refine z_iinc (v := x3 + 1) (pl := 3) S [(3, .int (x3 + 1)), (0, va_rf (some o)), (1, .int x1), (2, .int (z1 + z0))] dX7_usedBy_108 rfl rfl (by decide) rfl ?_
  refine z_lv (lv' := [(0, va_rf (some o)), (1, .int x1), (2, .int (z1 + z0)), (3, .int (x3 + 1))]) [1, 2, 3, 0] rfl ?_
  refine z_goto S 58 dX7_usedBy_111 (by decide) ?_
  exact hJ58 M x1 (z1 + z0) (x3 + 1) hw
set_option maxRecDepth 20000 in
theorem mb_X7_usedBy_105 {p : Program} {l : Launch} {e : Env} {s : State} {m : MethodId} {args : Array Value} {below : List Frame} {meth : Method} {c : Code} {D : va_G} {cy : Nat → ClassId} {A : Nat → Prop} {o : Nat} {ad : Nat → Nat} (S : CallFix p m c cX7_usedBy 4 s args z_T RX7) (hlk : meth.locks = false) (hr : meth.sig.returnType = some .int) (hE : z_EM D cy s) {post : Int32 → z_Md → Prop} {J58 : z_Md → Int32 → Int32 → Int32 → Prop} (hJ58 : ∀ (M : z_Md) (x1 : Int32) (x2 : Int32) (x3 : Int32), J58 M x1 x2 x3 → z_V A (z_hM D cy A o ad) p l e rm_X7_usedBy s m args below meth c 4 (MQ below (va_Qi post (fun (u' : z_Md) t => z_hM D cy A o ad u' t.heap) A) args s 0 0 A) 0 0 M 58 [(0, va_rf (some o)), (1, .int x1), (2, .int x2), (3, .int x3)] []) (M : z_Md) (x1 : Int32) (x3 : Int32) (z0 : Int32) (hw : w_X7_usedBy_105 post J58 M x1 x3 z0) : z_V A (z_hM D cy A o ad) p l e rm_X7_usedBy s m args below meth c 4 (MQ below (va_Qi post (fun (u' : z_Md) t => z_hM D cy A o ad u' t.heap) A) args s 0 0 A) 0 0 M 105 [(0, va_rf (some o)), (1, .int x1), (3, .int x3)] [.int z0] := by
  refine z_iconst (v := 0) S dX7_usedBy_105 (by decide) ?_
  exact mb_X7_usedBy_106 S hlk hr hE hJ58 M x1 x3 0 z0 hw
set_option maxRecDepth 20000 in
theorem mb_X7_usedBy_58 {p : Program} {l : Launch} {e : Env} {s : State} {m : MethodId} {args : Array Value} {below : List Frame} {meth : Method} {c : Code} {D : va_G} {cy : Nat → ClassId} {A : Nat → Prop} {o : Nat} {ad : Nat → Nat} (S : CallFix p m c cX7_usedBy 4 s args z_T RX7) (hlk : meth.locks = false) (hr : meth.sig.returnType = some .int) (hE : z_EM D cy s) {post : Int32 → z_Md → Prop}  : ∀ (n : Nat) (M : z_Md) (x1 : Int32) (x2 : Int32) (x3 : Int32), w_X7_usedBy_58 post n M x1 x2 x3 → z_V A (z_hM D cy A o ad) p l e rm_X7_usedBy s m args below meth c 4 (MQ below (va_Qi post (fun (u' : z_Md) t => z_hM D cy A o ad u' t.heap) A) args s 0 0 A) 0 0 M 58 [(0, va_rf (some o)), (1, .int x1), (2, .int x2), (3, .int x3)] [] := by
  intro n
  induction n with
  | zero => intro M x1 x2 x3 hw; exact hw.elim
  | succ n ih =>
    intro M x1 x2 x3 hw
    refine z_iload_n S 3 dX7_usedBy_58 rfl rfl ?_
    refine z_iconst (v := 3) S dX7_usedBy_59 (by decide) ?_
    refine z_icmp_ge S 114 dX7_usedBy_60 (by decide) (fun c1 => ?_) (fun c1 => ?_)
    · have hw := hw.1 c1
      refine z_iload_n S 2 dX7_usedBy_114 rfl rfl ?_
      exact z_iret S hr hlk dX7_usedBy_115 (Nat.le_refl 0) (Nat.le_refl 0) hw
    · have hw := hw.2 c1
      refine z_iload_n S 2 dX7_usedBy_63 rfl rfl ?_
      refine z_aload_n (x := some o) S 0 dX7_usedBy_64 rfl rfl ?_
      refine zm_g_59 S hE dX7_usedBy_65 ?_
      refine z_iload_n S 3 dX7_usedBy_68 rfl rfl ?_
      obtain ⟨hi10, hw⟩ := hw
      refine z_mzld (j := 20) S hE rfl rfl hi10 dX7_usedBy_69 ?_
      refine z_if_eq S 105 dX7_usedBy_70 (by decide) (fun c2 => ?_) (fun c2 => ?_)
      · have hw := hw.1 c2
        refine z_lv (lv' := [(0, va_rf (some o)), (1, .int x1), (3, .int x3)]) [0, 1, 3] rfl ?_
        exact mb_X7_usedBy_105 S hlk hr hE ih M x1 x3 x2 hw
      · have hw := hw.2 c2
        refine z_aload_n (x := some o) S 0 dX7_usedBy_73 rfl rfl ?_
        refine zm_g_65 S hE dX7_usedBy_74 ?_
        refine z_iload_n S 3 dX7_usedBy_77 rfl rfl ?_
        obtain ⟨hi9, hw⟩ := hw
        refine z_mald (j := 22) S hE rfl rfl hi9 dX7_usedBy_78 ?_
        refine z_if_ne S 105 dX7_usedBy_79 (by decide) (fun c3 => ?_) (fun c3 => ?_)
        · have hw := hw.1 c3
          refine z_lv (lv' := [(0, va_rf (some o)), (1, .int x1), (3, .int x3)]) [0, 1, 3] rfl ?_
          exact mb_X7_usedBy_105 S hlk hr hE ih M x1 x3 x2 hw
        · have hw := hw.2 c3
          refine z_aload_n (x := some o) S 0 dX7_usedBy_82 rfl rfl ?_
          refine zm_g_62 S hE dX7_usedBy_83 ?_
          refine z_iload_n S 3 dX7_usedBy_86 rfl rfl ?_
          obtain ⟨hi8, hw⟩ := hw
          refine z_mald (j := 21) S hE rfl rfl hi8 dX7_usedBy_87 ?_
          refine z_iload_n S 1 dX7_usedBy_88 rfl rfl ?_
          refine z_icmp_ne S 105 dX7_usedBy_89 (by decide) (fun c4 => ?_) (fun c4 => ?_)
          · have hw := hw.1 c4
            refine z_lv (lv' := [(0, va_rf (some o)), (1, .int x1), (3, .int x3)]) [0, 1, 3] rfl ?_
            exact mb_X7_usedBy_105 S hlk hr hE ih M x1 x3 x2 hw
          · have hw := hw.2 c4
            refine z_aload_n (x := some o) S 0 dX7_usedBy_92 rfl rfl ?_
            refine z_aload_n (x := some o) S 0 dX7_usedBy_93 rfl rfl ?_
            refine zm_g_68 S hE dX7_usedBy_94 ?_
            refine z_iload_n S 3 dX7_usedBy_97 rfl rfl ?_
            obtain ⟨hi7, hw⟩ := hw
            refine z_mald (j := 23) S hE rfl rfl hi7 dX7_usedBy_98 ?_
            refine z_callVi (As := [.int (M 23 x3.toNatClampNeg)]) (st := [.int x2]) S (z_EMok D cy A) hE (me_X7_cost l D cy A o ad _ M (M 23 x3.toNatClampNeg) hw) gV_X7_124 hdV_X7_cost ⟨Nat.le_of_ble_eq_true rfl, Nat.le_of_ble_eq_true rfl⟩ rfl rfl (z_recvM hE) (fun _ h => h) (fun _ _ _ _ h => h) rfl (Nat.le_trans (z_s1 z_s0) (by decide)) dX7_usedBy_99 ⟨Nat.le_of_ble_eq_true rfl, Nat.le_of_ble_eq_true rfl⟩ rfl (fun r6 M5 hw => ?_)
            refine z_goto S 106 dX7_usedBy_102 (by decide) ?_
            refine z_lv (lv' := [(0, va_rf (some o)), (1, .int x1), (3, .int x3)]) [0, 1, 3] rfl ?_
            exact mb_X7_usedBy_106 S hlk hr hE ih M5 x1 x3 r6 x2 hw
set_option maxRecDepth 20000 in
theorem mb_X7_usedBy_4 {p : Program} {l : Launch} {e : Env} {s : State} {m : MethodId} {args : Array Value} {below : List Frame} {meth : Method} {c : Code} {D : va_G} {cy : Nat → ClassId} {A : Nat → Prop} {o : Nat} {ad : Nat → Nat} (S : CallFix p m c cX7_usedBy 4 s args z_T RX7) (hlk : meth.locks = false) (hr : meth.sig.returnType = some .int) (hE : z_EM D cy s) {post : Int32 → z_Md → Prop}  : ∀ (n : Nat) (M : z_Md) (x1 : Int32) (x2 : Int32) (x3 : Int32), w_X7_usedBy_4 post n M x1 x2 x3 → z_V A (z_hM D cy A o ad) p l e rm_X7_usedBy s m args below meth c 4 (MQ below (va_Qi post (fun (u' : z_Md) t => z_hM D cy A o ad u' t.heap) A) args s 0 0 A) 0 0 M 4 [(0, va_rf (some o)), (1, .int x1), (2, .int x2), (3, .int x3)] [] := by
  intro n
  induction n with
  | zero => intro M x1 x2 x3 hw; exact hw.elim
  | succ n ih =>
    intro M x1 x2 x3 hw
    refine z_iload_n S 3 dX7_usedBy_4 rfl rfl ?_
    refine z_aload_n (x := some o) S 0 dX7_usedBy_5 rfl rfl ?_
    refine zm_g_121 S hE dX7_usedBy_6 ?_
    refine z_icmp_ge S 56 dX7_usedBy_9 (by decide) (fun c1 => ?_) (fun c1 => ?_)
    · have hw := hw.1 c1
      refine z_iconst (v := 0) S dX7_usedBy_56 (by decide) ?_
      refine z_istore_n S [(3, .int 0), (0, va_rf (some o)), (1, .int x1), (2, .int x2)] dX7_usedBy_57 rfl (by decide) rfl ?_
      refine z_lv (lv' := [(0, va_rf (some o)), (1, .int x1), (2, .int x2), (3, .int 0)]) [1, 2, 3, 0] rfl ?_
      obtain ⟨n0, hw⟩ := hw
      exact mb_X7_usedBy_58 S hlk hr hE n0 M x1 x2 0 hw
    · have hw := hw.2 c1
      refine z_iload_n S 2 dX7_usedBy_12 rfl rfl ?_
      refine z_aload_n (x := some o) S 0 dX7_usedBy_13 rfl rfl ?_
      refine zm_g_47 S hE dX7_usedBy_14 ?_
      refine z_iload_n S 3 dX7_usedBy_17 rfl rfl ?_
      obtain ⟨hi9, hw⟩ := hw
      refine z_mald (j := 16) S hE rfl rfl hi9 dX7_usedBy_18 ?_
      refine z_iload_n S 1 dX7_usedBy_19 rfl rfl ?_
      refine z_icmp_ne S 47 dX7_usedBy_20 (by decide) (fun c2 => ?_) (fun c2 => ?_)
      · have hw := hw.1 c2
        refine z_iconst (v := 0) S dX7_usedBy_47 (by decide) ?_
        refine z_lv (lv' := [(0, va_rf (some o)), (1, .int x1), (3, .int x3)]) [0, 1, 3] rfl ?_
        exact mb_X7_usedBy_48 S hlk hr hE ih M x1 x3 0 x2 hw
      · have hw := hw.2 c2
        refine z_aload_n (x := some o) S 0 dX7_usedBy_23 rfl rfl ?_
        refine z_aload_n (x := some o) S 0 dX7_usedBy_24 rfl rfl ?_
        refine zm_g_53 S hE dX7_usedBy_25 ?_
        refine z_iload_n S 3 dX7_usedBy_28 rfl rfl ?_
        obtain ⟨hi8, hw⟩ := hw
        refine z_mald (j := 18) S hE rfl rfl hi8 dX7_usedBy_29 ?_
        refine z_callVi (As := [.int (M 18 x3.toNatClampNeg)]) (st := [.int x2]) S (z_EMok D cy A) hE (me_X7_cost l D cy A o ad _ M (M 18 x3.toNatClampNeg) hw) gV_X7_124 hdV_X7_cost ⟨Nat.le_of_ble_eq_true rfl, Nat.le_of_ble_eq_true rfl⟩ rfl rfl (z_recvM hE) (fun _ h => h) (fun _ _ _ _ h => h) rfl (Nat.le_trans (z_s1 z_s0) (by decide)) dX7_usedBy_30 ⟨Nat.le_of_ble_eq_true rfl, Nat.le_of_ble_eq_true rfl⟩ rfl (fun r4 M3 hw => ?_)
        refine z_aload_n (x := some o) S 0 dX7_usedBy_33 rfl rfl ?_
        refine z_aload_n (x := some o) S 0 dX7_usedBy_34 rfl rfl ?_
        refine zm_g_56 S hE dX7_usedBy_35 ?_
        refine z_iload_n S 3 dX7_usedBy_38 rfl rfl ?_
        obtain ⟨hi7, hw⟩ := hw
        refine z_mald (j := 19) S hE rfl rfl hi7 dX7_usedBy_39 ?_
        refine z_callVi (As := [.int (M3 19 x3.toNatClampNeg)]) (st := [.int r4, .int x2]) S (z_EMok D cy A) hE (me_X7_cost l D cy A o ad _ M3 (M3 19 x3.toNatClampNeg) hw) gV_X7_124 hdV_X7_cost ⟨Nat.le_of_ble_eq_true rfl, Nat.le_of_ble_eq_true rfl⟩ rfl rfl (z_recvM hE) (fun _ h => h) (fun _ _ _ _ h => h) rfl (Nat.le_trans (z_s1 (z_s1 z_s0)) (by decide)) dX7_usedBy_40 ⟨Nat.le_of_ble_eq_true rfl, Nat.le_of_ble_eq_true rfl⟩ rfl (fun r6 M5 hw => ?_)
        refine z_iadd S dX7_usedBy_43 ?_
        refine z_goto S 48 dX7_usedBy_44 (by decide) ?_
        refine z_lv (lv' := [(0, va_rf (some o)), (1, .int x1), (3, .int x3)]) [0, 1, 3] rfl ?_
        exact mb_X7_usedBy_48 S hlk hr hE ih M5 x1 x3 (r4 + r6) x2 hw
set_option maxRecDepth 20000 in
theorem mb_X7_usedBy {p : Program} {l : Launch} {e : Env} {s : State} {m : MethodId} {args : Array Value} {below : List Frame} {meth : Method} {c : Code} {D : va_G} {cy : Nat → ClassId} {A : Nat → Prop} {o : Nat} {ad : Nat → Nat} (S : CallFix p m c cX7_usedBy 4 s args z_T RX7) (hlk : meth.locks = false) (hr : meth.sig.returnType = some .int) (hE : z_EM D cy s) {post : Int32 → z_Md → Prop}  (M : z_Md) (x1 : Int32) (hw : w_X7_usedBy post M x1) : z_V A (z_hM D cy A o ad) p l e rm_X7_usedBy s m args below meth c 4 (MQ below (va_Qi post (fun (u' : z_Md) t => z_hM D cy A o ad u' t.heap) A) args s 0 0 A) 0 0 M 0 [(0, va_rf (some o)), (1, .int x1)] [] := by
  refine z_iconst (v := 0) S dX7_usedBy_0 (by decide) ?_
  refine z_istore_n S [(2, .int 0), (0, va_rf (some o)), (1, .int x1)] dX7_usedBy_1 rfl (by decide) rfl ?_
  refine z_lv (lv' := [(0, va_rf (some o)), (1, .int x1), (2, .int 0)]) [1, 2, 0] rfl ?_
  refine z_iconst (v := 0) S dX7_usedBy_2 (by decide) ?_
  refine z_istore_n S [(3, .int 0), (0, va_rf (some o)), (1, .int x1), (2, .int 0)] dX7_usedBy_3 rfl (by decide) rfl ?_
  refine z_lv (lv' := [(0, va_rf (some o)), (1, .int x1), (2, .int 0), (3, .int 0)]) [1, 2, 3, 0] rfl ?_
  obtain ⟨n0, hw⟩ := hw
  exact mb_X7_usedBy_4 S hlk hr hE n0 M x1 0 0 hw
theorem me_X7_usedBy (l : Launch) (D : va_G) (cy : Nat → ClassId) (A : Nat → Prop) (o : Nat) (ad : Nat → Nat) (post : Int32 → z_Md → Prop) (M : z_Md) (x1 : Int32) (hw : w_X7_usedBy post M x1) : z_Mi l yX7_usedBy (Cond.code yX7_usedBy cX7_usedBy 4 (some .int) :: z_T) rm_X7_usedBy [.ref o, .int x1] (z_EM D cy) (z_hM D cy A o ad) M post 0 0 A :=
  z_met (by decide) (Nat.le_of_ble_eq_true rfl) (fun p e s m args below meth c S hlk hr hnm hE => mb_X7_usedBy S hlk hr hE M x1 hw)
abbrev rm_X7_isFull : Room := { frames := 0, cells := 0, slots := 0, locals := 0 }
def w_X7_isFull_7 (post : Int32 → z_Md → Prop) : Nat → z_Md → Int32 → Int32 → Prop
  | 0 => fun _ _ _ => False
  | n + 1 => fun M x1 x2 => ((3 ≤ x2 → (∀ y2 : Int32, y2 = (if x1 < 16 then 0 else 1) → (narrow .boolean (.int y2) = .int y2 ∧ (post y2 M)))) ∧ (¬ 3 ≤ x2 → (vp_in x2 3 ∧ ((¬ (M 20 x2.toNatClampNeg) = 0 → vp_in x2 3) ∧ (∀ y4 : Int32, y4 = (if (M 20 x2.toNatClampNeg) = 0 then x1 else (if (M 22 x2.toNatClampNeg) = 0 then x1 + 1 else x1)) → (w_X7_isFull_7 post n M y4 (x2 + 1)))))))
def w_X7_isFull (post : Int32 → z_Md → Prop) (M : z_Md)  : Prop := (∃ n0 : Nat, w_X7_isFull_7 post n0 M (M 13 0) 0)
set_option maxRecDepth 20000 in
theorem mb_X7_isFull_7 {p : Program} {l : Launch} {e : Env} {s : State} {m : MethodId} {args : Array Value} {below : List Frame} {meth : Method} {c : Code} {D : va_G} {cy : Nat → ClassId} {A : Nat → Prop} {o : Nat} {ad : Nat → Nat} (S : CallFix p m c cX7_isFull 3 s args z_T RX7) (hlk : meth.locks = false) (hr : meth.sig.returnType = some .boolean) (hE : z_EM D cy s) {post : Int32 → z_Md → Prop}  : ∀ (n : Nat) (M : z_Md) (x1 : Int32) (x2 : Int32), w_X7_isFull_7 post n M x1 x2 → z_V A (z_hM D cy A o ad) p l e rm_X7_isFull s m args below meth c 3 (MQ below (va_Qi post (fun (u' : z_Md) t => z_hM D cy A o ad u' t.heap) A) args s 0 0 A) 0 0 M 7 [(0, va_rf (some o)), (1, .int x1), (2, .int x2)] [] := by
  intro n
  induction n with
  | zero => intro M x1 x2 hw; exact hw.elim
  | succ n ih =>
    intro M x1 x2 hw
    refine z_iload_n S 2 dX7_isFull_7 rfl rfl ?_
    refine z_iconst (v := 3) S dX7_isFull_8 (by decide) ?_
    refine z_icmp_ge S 44 dX7_isFull_9 (by decide) (fun c1 => ?_) (fun c1 => ?_)
    · have hw := hw.1 c1
      refine z_iload_n S 1 dX7_isFull_44 rfl rfl ?_
      refine z_bipush (v := 16) S dX7_isFull_45 (by decide) ?_
      suffices hJ : ∀ y2 : Int32, y2 = (if x1 < 16 then 0 else 1) → z_V A (z_hM D cy A o ad) p l e rm_X7_isFull s m args below meth c 3 (MQ below (va_Qi post (fun (u' : z_Md) t => z_hM D cy A o ad u' t.heap) A) args s 0 0 A) 0 0 M 55 [] [.int y2] from by
        refine z_icmp_lt S 54 dX7_isFull_47 (by decide) (fun c3 => ?_) (fun c3 => ?_)
        · refine z_iconst (v := 0) S dX7_isFull_54 (by decide) ?_
          refine z_lv (lv' := []) [] rfl ?_
          exact hJ _ (by rw [if_pos c3])
        · refine z_iconst (v := 1) S dX7_isFull_50 (by decide) ?_
          refine z_goto S 55 dX7_isFull_51 (by decide) ?_
          refine z_lv (lv' := []) [] rfl ?_
          exact hJ _ (by rw [if_neg c3])
      intro y2 ey2
      have hw := hw y2 ey2
      exact z_zret S hr hlk dX7_isFull_55 (Nat.le_refl 0) (Nat.le_refl 0) hw.1 hw.2
    · have hw := hw.2 c1
      refine z_aload_n (x := some o) S 0 dX7_isFull_12 rfl rfl ?_
      refine zm_g_59 S hE dX7_isFull_13 ?_
      refine z_iload_n S 2 dX7_isFull_16 rfl rfl ?_
      obtain ⟨hi8, hw⟩ := hw
      refine z_mzld (j := 20) S hE rfl rfl hi8 dX7_isFull_17 ?_
      obtain ⟨hob, hw⟩ := hw
      suffices hJ : ∀ y4 : Int32, y4 = (if (M 20 x2.toNatClampNeg) = 0 then x1 else (if (M 22 x2.toNatClampNeg) = 0 then x1 + 1 else x1)) → z_V A (z_hM D cy A o ad) p l e rm_X7_isFull s m args below meth c 3 (MQ below (va_Qi post (fun (u' : z_Md) t => z_hM D cy A o ad u' t.heap) A) args s 0 0 A) 0 0 M 37 [(0, va_rf (some o)), (2, .int x2)] [.int y4] from by
        refine z_if_eq S 36 dX7_isFull_18 (by decide) (fun c5 => ?_) (fun c5 => ?_)
        · refine z_iload_n S 1 dX7_isFull_36 rfl rfl ?_
          refine z_lv (lv' := [(0, va_rf (some o)), (2, .int x2)]) [0, 2] rfl ?_
          exact hJ _ (by rw [if_pos c5])
        · have hob := hob c5
          refine z_aload_n (x := some o) S 0 dX7_isFull_21 rfl rfl ?_
          refine zm_g_65 S hE dX7_isFull_22 ?_
          refine z_iload_n S 2 dX7_isFull_25 rfl rfl ?_
          have hi6 := hob
          refine z_mald (j := 22) S hE rfl rfl hi6 dX7_isFull_26 ?_
          refine z_if_ne S 36 dX7_isFull_27 (by decide) (fun c7 => ?_) (fun c7 => ?_)
          · refine z_iload_n S 1 dX7_isFull_36 rfl rfl ?_
            refine z_lv (lv' := [(0, va_rf (some o)), (2, .int x2)]) [0, 2] rfl ?_
            exact hJ _ (by rw [if_neg c5, if_neg c7])
          · refine z_iload_n S 1 dX7_isFull_30 rfl rfl ?_
            refine z_iconst (v := 1) S dX7_isFull_31 (by decide) ?_
            refine z_iadd S dX7_isFull_32 ?_
            refine z_goto S 37 dX7_isFull_33 (by decide) ?_
            refine z_lv (lv' := [(0, va_rf (some o)), (2, .int x2)]) [0, 2] rfl ?_
            exact hJ _ (by rw [if_neg c5, if_pos c7])
      intro y4 ey4
      have hw := hw y4 ey4
      refine z_istore_n S [(1, .int y4), (0, va_rf (some o)), (2, .int x2)] dX7_isFull_37 rfl (by decide) rfl ?_
      refine z_lv (lv' := [(0, va_rf (some o)), (1, .int y4), (2, .int x2)]) [1, 0, 2] rfl ?_
      refine z_iinc (v := x2 + 1) (pl := 2) S [(2, .int (x2 + 1)), (0, va_rf (some o)), (1, .int y4)] dX7_isFull_38 rfl rfl (by decide) rfl ?_
      refine z_lv (lv' := [(0, va_rf (some o)), (1, .int y4), (2, .int (x2 + 1))]) [1, 2, 0] rfl ?_
      refine z_goto S 7 dX7_isFull_41 (by decide) ?_
      exact ih M y4 (x2 + 1) hw
set_option maxRecDepth 20000 in
theorem mb_X7_isFull {p : Program} {l : Launch} {e : Env} {s : State} {m : MethodId} {args : Array Value} {below : List Frame} {meth : Method} {c : Code} {D : va_G} {cy : Nat → ClassId} {A : Nat → Prop} {o : Nat} {ad : Nat → Nat} (S : CallFix p m c cX7_isFull 3 s args z_T RX7) (hlk : meth.locks = false) (hr : meth.sig.returnType = some .boolean) (hE : z_EM D cy s) {post : Int32 → z_Md → Prop}  (M : z_Md)  (hw : w_X7_isFull post M ) : z_V A (z_hM D cy A o ad) p l e rm_X7_isFull s m args below meth c 3 (MQ below (va_Qi post (fun (u' : z_Md) t => z_hM D cy A o ad u' t.heap) A) args s 0 0 A) 0 0 M 0 [(0, va_rf (some o))] [] := by
  refine z_aload_n (x := some o) S 0 dX7_isFull_0 rfl rfl ?_
  refine zm_g_121 S hE dX7_isFull_1 ?_
  refine z_istore_n S [(1, .int (M 13 0)), (0, va_rf (some o))] dX7_isFull_4 rfl (by decide) rfl ?_
  refine z_lv (lv' := [(0, va_rf (some o)), (1, .int (M 13 0))]) [1, 0] rfl ?_
  refine z_iconst (v := 0) S dX7_isFull_5 (by decide) ?_
  refine z_istore_n S [(2, .int 0), (0, va_rf (some o)), (1, .int (M 13 0))] dX7_isFull_6 rfl (by decide) rfl ?_
  refine z_lv (lv' := [(0, va_rf (some o)), (1, .int (M 13 0)), (2, .int 0)]) [1, 2, 0] rfl ?_
  obtain ⟨n0, hw⟩ := hw
  exact mb_X7_isFull_7 S hlk hr hE n0 M (M 13 0) 0 hw
theorem me_X7_isFull (l : Launch) (D : va_G) (cy : Nat → ClassId) (A : Nat → Prop) (o : Nat) (ad : Nat → Nat) (post : Int32 → z_Md → Prop) (M : z_Md)  (hw : w_X7_isFull post M ) : z_Mi l yX7_isFull (Cond.code yX7_isFull cX7_isFull 3 (some .boolean) :: z_T) rm_X7_isFull [.ref o] (z_EM D cy) (z_hM D cy A o ad) M post 0 0 A :=
  z_met (by decide) (Nat.le_of_ble_eq_true rfl) (fun p e s m args below meth c S hlk hr hnm hE => mb_X7_isFull S hlk hr hE M  hw)
abbrev rm_X7_box : Room := { frames := 0, cells := 0, slots := 0, locals := 0 }
def w_X7_box (post : Int32 → z_Md → Prop) (M : z_Md) (x1 : Int32) : Prop := (∀ y1 : Int32, y1 = (if x1 < 0 then 1 else (if x1 ≤ 500 then (if (M 10 0) = 4 then 2 else 0) else 1)) → ((((z_up M 0 0 y1) 0 0) ≤ 0 → (vp_in ((z_up M 0 0 y1) 10 0) 4 ∧ (post (((z_up (z_up (z_up M 0 0 y1) 11 ((z_up M 0 0 y1) 10 0).toNatClampNeg x1) 10 0 (((z_up (z_up M 0 0 y1) 11 ((z_up M 0 0 y1) 10 0).toNatClampNeg x1) 10 0) + 1)) 10 0) - 1) (z_up (z_up (z_up M 0 0 y1) 11 ((z_up M 0 0 y1) 10 0).toNatClampNeg x1) 10 0 (((z_up (z_up M 0 0 y1) 11 ((z_up M 0 0 y1) 10 0).toNatClampNeg x1) 10 0) + 1))))) ∧ (¬ ((z_up M 0 0 y1) 0 0) ≤ 0 → (post 0 (z_up M 0 0 y1)))))
set_option maxRecDepth 20000 in
theorem mb_X7_box {p : Program} {l : Launch} {e : Env} {s : State} {m : MethodId} {args : Array Value} {below : List Frame} {meth : Method} {c : Code} {D : va_G} {cy : Nat → ClassId} {A : Nat → Prop} {o : Nat} {ad : Nat → Nat} (S : CallFix p m c cX7_box 2 s args z_T RX7) (hlk : meth.locks = false) (hr : meth.sig.returnType = some .int) (hE : z_EM D cy s) {post : Int32 → z_Md → Prop}  (M : z_Md) (x1 : Int32) (hw : w_X7_box post M x1) : z_V A (z_hM D cy A o ad) p l e rm_X7_box s m args below meth c 2 (MQ below (va_Qi post (fun (u' : z_Md) t => z_hM D cy A o ad u' t.heap) A) args s 0 0 A) 0 0 M 0 [(0, va_rf (some o)), (1, .int x1)] [] := by
  refine z_aload_n (x := some o) S 0 dX7_box_0 rfl rfl ?_
  refine z_iload_n S 1 dX7_box_1 rfl rfl ?_
  suffices hJ : ∀ y1 : Int32, y1 = (if x1 < 0 then 1 else (if x1 ≤ 500 then (if (M 10 0) = 4 then 2 else 0) else 1)) → z_V A (z_hM D cy A o ad) p l e rm_X7_box s m args below meth c 2 (MQ below (va_Qi post (fun (u' : z_Md) t => z_hM D cy A o ad u' t.heap) A) args s 0 0 A) 0 0 M 29 [(0, va_rf (some o)), (1, .int x1)] [.int y1, va_rf (some o)] from by
    refine z_if_lt S 12 dX7_box_2 (by decide) (fun c4 => ?_) (fun c4 => ?_)
    · refine z_iconst (v := 1) S dX7_box_12 (by decide) ?_
      refine z_goto S 29 dX7_box_13 (by decide) ?_
      exact hJ _ (by rw [if_pos c4])
    · refine z_iload_n S 1 dX7_box_5 rfl rfl ?_
      refine z_sipush (v := 500) S dX7_box_6 (by decide) ?_
      refine z_icmp_le S 16 dX7_box_9 (by decide) (fun c5 => ?_) (fun c5 => ?_)
      · refine z_aload_n (x := some o) S 0 dX7_box_16 rfl rfl ?_
        refine zm_g_118 S hE dX7_box_17 ?_
        refine z_iconst (v := 4) S dX7_box_20 (by decide) ?_
        refine z_icmp_ne S 28 dX7_box_21 (by decide) (fun c6 => ?_) (fun c6 => ?_)
        · refine z_iconst (v := 0) S dX7_box_28 (by decide) ?_
          exact hJ _ (by rw [if_neg c4, if_pos c5, if_neg c6])
        · refine z_iconst (v := 2) S dX7_box_24 (by decide) ?_
          refine z_goto S 29 dX7_box_25 (by decide) ?_
          exact hJ _ (by rw [if_neg c4, if_pos c5, if_pos c6])
      · refine z_iconst (v := 1) S dX7_box_12 (by decide) ?_
        refine z_goto S 29 dX7_box_13 (by decide) ?_
        exact hJ _ (by rw [if_neg c4, if_neg c5])
  intro y1 ey1
  have hw := hw y1 ey1
  refine zm_p_89 S hE dX7_box_29 ?_
  refine z_aload_n (x := some o) S 0 dX7_box_32 rfl rfl ?_
  refine zm_g_89 S hE dX7_box_33 ?_
  refine z_if_le S 41 dX7_box_36 (by decide) (fun c2 => ?_) (fun c2 => ?_)
  · have hw := hw.1 c2
    refine z_aload_n (x := some o) S 0 dX7_box_41 rfl rfl ?_
    refine zm_g_38 S hE dX7_box_42 ?_
    refine z_aload_n (x := some o) S 0 dX7_box_45 rfl rfl ?_
    refine zm_g_118 S hE dX7_box_46 ?_
    refine z_iload_n S 1 dX7_box_49 rfl rfl ?_
    obtain ⟨hi3, hw⟩ := hw
    refine z_mast (j := 11) S hE rfl rfl hi3 dX7_box_50 ?_
    refine z_aload_n (x := some o) S 0 dX7_box_51 rfl rfl ?_
    refine z_dup S dX7_box_52 (z_rfc _) ?_
    refine zm_g_118 S hE dX7_box_53 ?_
    refine z_iconst (v := 1) S dX7_box_56 (by decide) ?_
    refine z_iadd S dX7_box_57 ?_
    refine zm_p_118 S hE dX7_box_58 ?_
    refine z_aload_n (x := some o) S 0 dX7_box_61 rfl rfl ?_
    refine zm_g_118 S hE dX7_box_62 ?_
    refine z_iconst (v := 1) S dX7_box_65 (by decide) ?_
    refine z_isub S dX7_box_66 ?_
    exact z_iret S hr hlk dX7_box_67 (Nat.le_refl 0) (Nat.le_refl 0) hw
  · have hw := hw.2 c2
    refine z_iconst (v := 0) S dX7_box_39 (by decide) ?_
    exact z_iret S hr hlk dX7_box_40 (Nat.le_refl 0) (Nat.le_refl 0) hw
theorem me_X7_box (l : Launch) (D : va_G) (cy : Nat → ClassId) (A : Nat → Prop) (o : Nat) (ad : Nat → Nat) (post : Int32 → z_Md → Prop) (M : z_Md) (x1 : Int32) (hw : w_X7_box post M x1) : z_Mi l yX7_box (Cond.code yX7_box cX7_box 2 (some .int) :: z_T) rm_X7_box [.ref o, .int x1] (z_EM D cy) (z_hM D cy A o ad) M post 0 0 A :=
  z_met (by decide) (Nat.le_of_ble_eq_true rfl) (fun p e s m args below meth c S hlk hr hnm hE => mb_X7_box S hlk hr hE M x1 hw)
abbrev rm_X7_isLine : Room := { frames := 0, cells := 0, slots := 0, locals := 0 }
def w_X7_isLine (post : Int32 → z_Md → Prop) (M : z_Md) (x0 : Int32) : Prop := (∀ y1 : Int32, y1 = (if x0 < 0 then 0 else (if 3 ≤ x0 then 0 else 1)) → (narrow .boolean (.int y1) = .int y1 ∧ (post y1 M)))
set_option maxRecDepth 20000 in
theorem mb_X7_isLine {p : Program} {l : Launch} {e : Env} {s : State} {m : MethodId} {args : Array Value} {below : List Frame} {meth : Method} {c : Code} {D : va_G} {cy : Nat → ClassId} {A : Nat → Prop} {o : Nat} {ad : Nat → Nat} (S : CallFix p m c cX7_isLine 1 s args z_T RX7) (hlk : meth.locks = false) (hr : meth.sig.returnType = some .boolean) (hE : z_EM D cy s) {post : Int32 → z_Md → Prop}  (M : z_Md) (x0 : Int32) (hw : w_X7_isLine post M x0) : z_V A (z_hM D cy A o ad) p l e rm_X7_isLine s m args below meth c 1 (MQ below (va_Qi post (fun (u' : z_Md) t => z_hM D cy A o ad u' t.heap) A) args s 0 0 A) 0 0 M 0 [(0, .int x0)] [] := by
  refine z_iload_n S 0 dX7_isLine_0 rfl rfl ?_
  suffices hJ : ∀ y1 : Int32, y1 = (if x0 < 0 then 0 else (if 3 ≤ x0 then 0 else 1)) → z_V A (z_hM D cy A o ad) p l e rm_X7_isLine s m args below meth c 1 (MQ below (va_Qi post (fun (u' : z_Md) t => z_hM D cy A o ad u' t.heap) A) args s 0 0 A) 0 0 M 14 [] [.int y1] from by
    refine z_if_lt S 13 dX7_isLine_1 (by decide) (fun c2 => ?_) (fun c2 => ?_)
    · refine z_iconst (v := 0) S dX7_isLine_13 (by decide) ?_
      refine z_lv (lv' := []) [] rfl ?_
      exact hJ _ (by rw [if_pos c2])
    · refine z_iload_n S 0 dX7_isLine_4 rfl rfl ?_
      refine z_iconst (v := 3) S dX7_isLine_5 (by decide) ?_
      refine z_icmp_ge S 13 dX7_isLine_6 (by decide) (fun c3 => ?_) (fun c3 => ?_)
      · refine z_iconst (v := 0) S dX7_isLine_13 (by decide) ?_
        refine z_lv (lv' := []) [] rfl ?_
        exact hJ _ (by rw [if_neg c2, if_pos c3])
      · refine z_iconst (v := 1) S dX7_isLine_9 (by decide) ?_
        refine z_goto S 14 dX7_isLine_10 (by decide) ?_
        refine z_lv (lv' := []) [] rfl ?_
        exact hJ _ (by rw [if_neg c2, if_neg c3])
  intro y1 ey1
  have hw := hw y1 ey1
  exact z_zret S hr hlk dX7_isLine_14 (Nat.le_refl 0) (Nat.le_refl 0) hw.1 hw.2
theorem me_X7_isLine (l : Launch) (D : va_G) (cy : Nat → ClassId) (A : Nat → Prop) (o : Nat) (ad : Nat → Nat) (post : Int32 → z_Md → Prop) (M : z_Md) (x0 : Int32) (hw : w_X7_isLine post M x0) : z_Mi l yX7_isLine (Cond.code yX7_isLine cX7_isLine 1 (some .boolean) :: z_T) rm_X7_isLine [.int x0] (z_EM D cy) (z_hM D cy A o ad) M post 0 0 A :=
  z_met (by decide) (Nat.le_of_ble_eq_true rfl) (fun p e s m args below meth c S hlk hr hnm hE => mb_X7_isLine S hlk hr hE M x0 hw)
abbrev rm_X7_call : Room := { frames := 1, cells := 0, slots := 0, locals := 22 }
def w_X7_call_104 (post : z_Md → Prop) (J84 : z_Md → Int32 → Int32 → Int32 → Int32 → Prop) (M : z_Md) (x1 : Int32) (x2 : Int32) (x3 : Int32) (x5 : Int32) : Prop := (J84 M x1 x2 x3 (x5 + 1))
def w_X7_call_84 (post : z_Md → Prop) : Nat → z_Md → Int32 → Int32 → Int32 → Int32 → Prop
  | 0 => fun _ _ _ _ _ => False
  | n + 1 => fun M x1 x2 x3 x5 => (vp_in x5 48 ∧ ((0 < (M 6 x5.toNatClampNeg) → (w_X7_call_104 post (w_X7_call_84 post n) M x1 x2 x3 x5)) ∧ (¬ 0 < (M 6 x5.toNatClampNeg) → (vp_in x5 48 ∧ (((M 7 x5.toNatClampNeg) = 0 → (vp_in x5 48 ∧ (vp_in x5 48 ∧ (vp_in x1 3 ∧ (vp_in x1 3 ∧ (vp_in x1 3 ∧ (vp_in x1 3 ∧ (vp_in x1 3 ∧ (vp_in x1 3 ∧ (vp_in x1 3 ∧ (vp_in x1 3 ∧ (vp_in x1 3 ∧ (post (z_up (z_up (z_up (z_up (z_up (z_up (z_up (z_up (z_up (z_up (z_up M 7 x5.toNatClampNeg 1) 9 x5.toNatClampNeg 0) 20 x1.toNatClampNeg 1) 21 x1.toNatClampNeg x2) 22 x1.toNatClampNeg x3) 23 x1.toNatClampNeg x5) 24 x1.toNatClampNeg 0) 25 x1.toNatClampNeg 0) 27 x1.toNatClampNeg 0) 28 x1.toNatClampNeg 0) 29 x1.toNatClampNeg 0)))))))))))))) ∧ (¬ (M 7 x5.toNatClampNeg) = 0 → (w_X7_call_104 post (w_X7_call_84 post n) M x1 x2 x3 x5)))))))
def w_X7_call_70 (post : z_Md → Prop) (M : z_Md) (x1 : Int32) (x2 : Int32) (x3 : Int32) (z0 : Int32) : Prop := ((((z_up M 0 0 z0) 0 0) ≤ 0 → (∃ n0 : Nat, w_X7_call_84 post n0 (z_up M 0 0 z0) x1 x2 x3 0)) ∧ (¬ ((z_up M 0 0 z0) 0 0) ≤ 0 → (post (z_up M 0 0 z0))))
def w_X7_call_65 (post : z_Md → Prop) (M : z_Md) (x1 : Int32) (x2 : Int32) (x3 : Int32) : Prop := (w_X7_call_70 post M x1 x2 x3 3)
def w_X7_call_69 (post : z_Md → Prop) (M : z_Md) (x1 : Int32) (x2 : Int32) (x3 : Int32) : Prop := (w_X7_call_70 post M x1 x2 x3 0)
def w_X7_call (post : z_Md → Prop) (M : z_Md) (x1 : Int32) (x2 : Int32) (x3 : Int32) : Prop := (w_X7_isLine (fun r2 M1 => (∀ y3 : Int32, y3 = (if r2 = 0 then 0 else (if x3 < 0 then 0 else (if 3 < x3 then 0 else 1))) → (w_X7_isBox (fun r5 M4 => ((¬ r5 = 0 → ((¬ y3 = 0 → (vp_in x1 3 ∧ ((¬ (M4 20 x1.toNatClampNeg) = 0 → (w_X7_call_65 post M4 x1 x2 x3)) ∧ ((M4 20 x1.toNatClampNeg) = 0 → ((¬ x3 = 0 → (w_X7_call_69 post M4 x1 x2 x3)) ∧ (x3 = 0 → (w_X7_isFull (fun r11 M10 => ((r11 = 0 → (w_X7_call_69 post M10 x1 x2 x3)) ∧ (¬ r11 = 0 → (w_X7_call_65 post M10 x1 x2 x3)))) M4 ))))))) ∧ (y3 = 0 → (w_X7_call_70 post M4 x1 x2 x3 2)))) ∧ (r5 = 0 → (w_X7_call_70 post M4 x1 x2 x3 1)))) M1 x2))) M x1)
set_option maxRecDepth 20000 in
theorem mb_X7_call_104 {p : Program} {l : Launch} {e : Env} {s : State} {m : MethodId} {args : Array Value} {below : List Frame} {meth : Method} {c : Code} {D : va_G} {cy : Nat → ClassId} {A : Nat → Prop} {o : Nat} {ad : Nat → Nat} (S : CallFix p m c cX7_call 6 s args z_T RX7) (hlk : meth.locks = false) (hr : meth.sig.returnType = none) (hE : z_EM D cy s) {post : z_Md → Prop} {J84 : z_Md → Int32 → Int32 → Int32 → Int32 → Prop} (hJ84 : ∀ (M : z_Md) (x1 : Int32) (x2 : Int32) (x3 : Int32) (x5 : Int32), J84 M x1 x2 x3 x5 → z_V A (z_hM D cy A o ad) p l e rm_X7_call s m args below meth c 6 (MQ below (va_Qv post (fun (u' : z_Md) t => z_hM D cy A o ad u' t.heap) A) args s 0 0 A) 0 0 M 84 [(0, va_rf (some o)), (1, .int x1), (2, .int x2), (3, .int x3), (5, .int x5)] []) (M : z_Md) (x1 : Int32) (x2 : Int32) (x3 : Int32) (x5 : Int32) (hw : w_X7_call_104 post J84 M x1 x2 x3 x5) : z_V A (z_hM D cy A o ad) p l e rm_X7_call s m args below meth c 6 (MQ below (va_Qv post (fun (u' : z_Md) t => z_hM D cy A o ad u' t.heap) A) args s 0 0 A) 0 0 M 104 [(0, va_rf (some o)), (1, .int x1), (2, .int x2), (3, .int x3), (5, .int x5)] [] := by
  refine z_iinc (v := x5 + 1) (pl := 4) S [(5, .int (x5 + 1)), (0, va_rf (some o)), (1, .int x1), (2, .int x2), (3, .int x3)] dX7_call_104 rfl rfl (by decide) rfl ?_
  refine z_lv (lv' := [(0, va_rf (some o)), (1, .int x1), (2, .int x2), (3, .int x3), (5, .int (x5 + 1))]) [1, 2, 3, 4, 0] rfl ?_
  refine z_goto S 84 dX7_call_107 (by decide) ?_
  exact hJ84 M x1 x2 x3 (x5 + 1) hw
set_option maxRecDepth 20000 in
theorem mb_X7_call_84 {p : Program} {l : Launch} {e : Env} {s : State} {m : MethodId} {args : Array Value} {below : List Frame} {meth : Method} {c : Code} {D : va_G} {cy : Nat → ClassId} {A : Nat → Prop} {o : Nat} {ad : Nat → Nat} (S : CallFix p m c cX7_call 6 s args z_T RX7) (hlk : meth.locks = false) (hr : meth.sig.returnType = none) (hE : z_EM D cy s) {post : z_Md → Prop}  : ∀ (n : Nat) (M : z_Md) (x1 : Int32) (x2 : Int32) (x3 : Int32) (x5 : Int32), w_X7_call_84 post n M x1 x2 x3 x5 → z_V A (z_hM D cy A o ad) p l e rm_X7_call s m args below meth c 6 (MQ below (va_Qv post (fun (u' : z_Md) t => z_hM D cy A o ad u' t.heap) A) args s 0 0 A) 0 0 M 84 [(0, va_rf (some o)), (1, .int x1), (2, .int x2), (3, .int x3), (5, .int x5)] [] := by
  intro n
  induction n with
  | zero => intro M x1 x2 x3 x5 hw; exact hw.elim
  | succ n ih =>
    intro M x1 x2 x3 x5 hw
    refine z_aload_n (x := some o) S 0 dX7_call_84 rfl rfl ?_
    refine zm_g_25 S hE dX7_call_85 ?_
    refine z_iload S 4 dX7_call_88 rfl ?_
    obtain ⟨hi15, hw⟩ := hw
    refine z_mald (j := 6) S hE rfl rfl hi15 dX7_call_90 ?_
    refine z_if_gt S 104 dX7_call_91 (by decide) (fun c1 => ?_) (fun c1 => ?_)
    · have hw := hw.1 c1
      exact mb_X7_call_104 S hlk hr hE ih M x1 x2 x3 x5 hw
    · have hw := hw.2 c1
      refine z_aload_n (x := some o) S 0 dX7_call_94 rfl rfl ?_
      refine zm_g_28 S hE dX7_call_95 ?_
      refine z_iload S 4 dX7_call_98 rfl ?_
      obtain ⟨hi14, hw⟩ := hw
      refine z_mzld (j := 7) S hE rfl rfl hi14 dX7_call_100 ?_
      refine z_if_eq S 110 dX7_call_101 (by decide) (fun c2 => ?_) (fun c2 => ?_)
      · have hw := hw.1 c2
        refine z_aload_n (x := some o) S 0 dX7_call_110 rfl rfl ?_
        refine zm_g_28 S hE dX7_call_111 ?_
        refine z_iload S 4 dX7_call_114 rfl ?_
        refine z_iconst (v := 1) S dX7_call_116 (by decide) ?_
        obtain ⟨hi13, hw⟩ := hw
        refine z_mzst (j := 7) S hE rfl rfl hi13 rfl dX7_call_117 ?_
        refine z_aload_n (x := some o) S 0 dX7_call_118 rfl rfl ?_
        refine zm_g_35 S hE dX7_call_119 ?_
        refine z_iload S 4 dX7_call_122 rfl ?_
        refine z_iconst (v := 0) S dX7_call_124 (by decide) ?_
        obtain ⟨hi12, hw⟩ := hw
        refine z_mast (j := 9) S hE rfl rfl hi12 dX7_call_125 ?_
        refine z_aload_n (x := some o) S 0 dX7_call_126 rfl rfl ?_
        refine zm_g_59 S hE dX7_call_127 ?_
        refine z_iload_n S 1 dX7_call_130 rfl rfl ?_
        refine z_iconst (v := 1) S dX7_call_131 (by decide) ?_
        obtain ⟨hi11, hw⟩ := hw
        refine z_mzst (j := 20) S hE rfl rfl hi11 rfl dX7_call_132 ?_
        refine z_aload_n (x := some o) S 0 dX7_call_133 rfl rfl ?_
        refine zm_g_62 S hE dX7_call_134 ?_
        refine z_iload_n S 1 dX7_call_137 rfl rfl ?_
        refine z_iload_n S 2 dX7_call_138 rfl rfl ?_
        obtain ⟨hi10, hw⟩ := hw
        refine z_mast (j := 21) S hE rfl rfl hi10 dX7_call_139 ?_
        refine z_aload_n (x := some o) S 0 dX7_call_140 rfl rfl ?_
        refine zm_g_65 S hE dX7_call_141 ?_
        refine z_iload_n S 1 dX7_call_144 rfl rfl ?_
        refine z_iload_n S 3 dX7_call_145 rfl rfl ?_
        obtain ⟨hi9, hw⟩ := hw
        refine z_mast (j := 22) S hE rfl rfl hi9 dX7_call_146 ?_
        refine z_aload_n (x := some o) S 0 dX7_call_147 rfl rfl ?_
        refine zm_g_68 S hE dX7_call_148 ?_
        refine z_iload_n S 1 dX7_call_151 rfl rfl ?_
        refine z_iload S 4 dX7_call_152 rfl ?_
        obtain ⟨hi8, hw⟩ := hw
        refine z_mast (j := 23) S hE rfl rfl hi8 dX7_call_154 ?_
        refine z_aload_n (x := some o) S 0 dX7_call_155 rfl rfl ?_
        refine zm_g_71 S hE dX7_call_156 ?_
        refine z_iload_n S 1 dX7_call_159 rfl rfl ?_
        refine z_iconst (v := 0) S dX7_call_160 (by decide) ?_
        obtain ⟨hi7, hw⟩ := hw
        refine z_mzst (j := 24) S hE rfl rfl hi7 rfl dX7_call_161 ?_
        refine z_aload_n (x := some o) S 0 dX7_call_162 rfl rfl ?_
        refine zm_g_74 S hE dX7_call_163 ?_
        refine z_iload_n S 1 dX7_call_166 rfl rfl ?_
        refine z_iconst (v := 0) S dX7_call_167 (by decide) ?_
        obtain ⟨hi6, hw⟩ := hw
        refine z_mast (j := 25) S hE rfl rfl hi6 dX7_call_168 ?_
        refine z_aload_n (x := some o) S 0 dX7_call_169 rfl rfl ?_
        refine zm_g_80 S hE dX7_call_170 ?_
        refine z_iload_n S 1 dX7_call_173 rfl rfl ?_
        refine z_iconst (v := 0) S dX7_call_174 (by decide) ?_
        obtain ⟨hi5, hw⟩ := hw
        refine z_mast (j := 27) S hE rfl rfl hi5 dX7_call_175 ?_
        refine z_aload_n (x := some o) S 0 dX7_call_176 rfl rfl ?_
        refine zm_g_83 S hE dX7_call_177 ?_
        refine z_iload_n S 1 dX7_call_180 rfl rfl ?_
        refine z_iconst (v := 0) S dX7_call_181 (by decide) ?_
        obtain ⟨hi4, hw⟩ := hw
        refine z_mast (j := 28) S hE rfl rfl hi4 dX7_call_182 ?_
        refine z_aload_n (x := some o) S 0 dX7_call_183 rfl rfl ?_
        refine zm_g_86 S hE dX7_call_184 ?_
        refine z_iload_n S 1 dX7_call_187 rfl rfl ?_
        refine z_iconst (v := 0) S dX7_call_188 (by decide) ?_
        obtain ⟨hi3, hw⟩ := hw
        refine z_mast (j := 29) S hE rfl rfl hi3 dX7_call_189 ?_
        exact z_vret S hr hlk dX7_call_190 (Nat.le_refl 0) (Nat.le_refl 0) hw
      · have hw := hw.2 c2
        exact mb_X7_call_104 S hlk hr hE ih M x1 x2 x3 x5 hw
set_option maxRecDepth 20000 in
theorem mb_X7_call_70 {p : Program} {l : Launch} {e : Env} {s : State} {m : MethodId} {args : Array Value} {below : List Frame} {meth : Method} {c : Code} {D : va_G} {cy : Nat → ClassId} {A : Nat → Prop} {o : Nat} {ad : Nat → Nat} (S : CallFix p m c cX7_call 6 s args z_T RX7) (hlk : meth.locks = false) (hr : meth.sig.returnType = none) (hE : z_EM D cy s) {post : z_Md → Prop}  (M : z_Md) (x1 : Int32) (x2 : Int32) (x3 : Int32) (z0 : Int32) (hw : w_X7_call_70 post M x1 x2 x3 z0) : z_V A (z_hM D cy A o ad) p l e rm_X7_call s m args below meth c 6 (MQ below (va_Qv post (fun (u' : z_Md) t => z_hM D cy A o ad u' t.heap) A) args s 0 0 A) 0 0 M 70 [(0, va_rf (some o)), (1, .int x1), (2, .int x2), (3, .int x3)] [.int z0, va_rf (some o)] := by
  refine zm_p_89 S hE dX7_call_70 ?_
  refine z_aload_n (x := some o) S 0 dX7_call_73 rfl rfl ?_
  refine zm_g_89 S hE dX7_call_74 ?_
  refine z_if_le S 81 dX7_call_77 (by decide) (fun c1 => ?_) (fun c1 => ?_)
  · have hw := hw.1 c1
    refine z_iconst (v := 0) S dX7_call_81 (by decide) ?_
    refine z_istore S [(5, .int 0), (0, va_rf (some o)), (1, .int x1), (2, .int x2), (3, .int x3)] dX7_call_82 (by decide) rfl ?_
    refine z_lv (lv' := [(0, va_rf (some o)), (1, .int x1), (2, .int x2), (3, .int x3), (5, .int 0)]) [1, 2, 3, 4, 0] rfl ?_
    obtain ⟨n0, hw⟩ := hw
    exact mb_X7_call_84 S hlk hr hE n0 (z_up M 0 0 z0) x1 x2 x3 0 hw
  · have hw := hw.2 c1
    exact z_vret S hr hlk dX7_call_80 (Nat.le_refl 0) (Nat.le_refl 0) hw
set_option maxRecDepth 20000 in
theorem mb_X7_call_65 {p : Program} {l : Launch} {e : Env} {s : State} {m : MethodId} {args : Array Value} {below : List Frame} {meth : Method} {c : Code} {D : va_G} {cy : Nat → ClassId} {A : Nat → Prop} {o : Nat} {ad : Nat → Nat} (S : CallFix p m c cX7_call 6 s args z_T RX7) (hlk : meth.locks = false) (hr : meth.sig.returnType = none) (hE : z_EM D cy s) {post : z_Md → Prop}  (M : z_Md) (x1 : Int32) (x2 : Int32) (x3 : Int32) (hw : w_X7_call_65 post M x1 x2 x3) : z_V A (z_hM D cy A o ad) p l e rm_X7_call s m args below meth c 6 (MQ below (va_Qv post (fun (u' : z_Md) t => z_hM D cy A o ad u' t.heap) A) args s 0 0 A) 0 0 M 65 [(0, va_rf (some o)), (1, .int x1), (2, .int x2), (3, .int x3)] [va_rf (some o)] := by
  refine z_iconst (v := 3) S dX7_call_65 (by decide) ?_
  refine z_goto S 70 dX7_call_66 (by decide) ?_
  exact mb_X7_call_70 S hlk hr hE M x1 x2 x3 3 hw
set_option maxRecDepth 20000 in
theorem mb_X7_call_69 {p : Program} {l : Launch} {e : Env} {s : State} {m : MethodId} {args : Array Value} {below : List Frame} {meth : Method} {c : Code} {D : va_G} {cy : Nat → ClassId} {A : Nat → Prop} {o : Nat} {ad : Nat → Nat} (S : CallFix p m c cX7_call 6 s args z_T RX7) (hlk : meth.locks = false) (hr : meth.sig.returnType = none) (hE : z_EM D cy s) {post : z_Md → Prop}  (M : z_Md) (x1 : Int32) (x2 : Int32) (x3 : Int32) (hw : w_X7_call_69 post M x1 x2 x3) : z_V A (z_hM D cy A o ad) p l e rm_X7_call s m args below meth c 6 (MQ below (va_Qv post (fun (u' : z_Md) t => z_hM D cy A o ad u' t.heap) A) args s 0 0 A) 0 0 M 69 [(0, va_rf (some o)), (1, .int x1), (2, .int x2), (3, .int x3)] [va_rf (some o)] := by
  refine z_iconst (v := 0) S dX7_call_69 (by decide) ?_
  exact mb_X7_call_70 S hlk hr hE M x1 x2 x3 0 hw
set_option maxRecDepth 20000 in
theorem mb_X7_call {p : Program} {l : Launch} {e : Env} {s : State} {m : MethodId} {args : Array Value} {below : List Frame} {meth : Method} {c : Code} {D : va_G} {cy : Nat → ClassId} {A : Nat → Prop} {o : Nat} {ad : Nat → Nat} (S : CallFix p m c cX7_call 6 s args z_T RX7) (hlk : meth.locks = false) (hr : meth.sig.returnType = none) (hE : z_EM D cy s) {post : z_Md → Prop}  (M : z_Md) (x1 : Int32) (x2 : Int32) (x3 : Int32) (hw : w_X7_call post M x1 x2 x3) : z_V A (z_hM D cy A o ad) p l e rm_X7_call s m args below meth c 6 (MQ below (va_Qv post (fun (u' : z_Md) t => z_hM D cy A o ad u' t.heap) A) args s 0 0 A) 0 0 M 0 [(0, va_rf (some o)), (1, .int x1), (2, .int x2), (3, .int x3)] [] := by
  refine z_iload_n S 1 dX7_call_0 rfl rfl ?_
  refine z_callSi (As := [.int x1]) (st := []) S (z_EMok D cy A) hE (me_X7_isLine l D cy A o ad _ M x1 hw) gS_X7_127 hdS_X7_isLine ⟨Nat.le_of_ble_eq_true rfl, Nat.le_of_ble_eq_true rfl⟩ rfl rfl (fun _ h => h) (fun _ _ _ _ h => h) rfl (Nat.le_trans z_s0 (by decide)) dX7_call_1 ⟨Nat.le_of_ble_eq_true rfl, Nat.le_of_ble_eq_true rfl⟩ rfl (fun r2 M1 hw => ?_)
  suffices hJ : ∀ y3 : Int32, y3 = (if r2 = 0 then 0 else (if x3 < 0 then 0 else (if 3 < x3 then 0 else 1))) → z_V A (z_hM D cy A o ad) p l e rm_X7_call s m args below meth c 6 (MQ below (va_Qv post (fun (u' : z_Md) t => z_hM D cy A o ad u' t.heap) A) args s 0 0 A) 0 0 M1 21 [(0, va_rf (some o)), (1, .int x1), (2, .int x2), (3, .int x3)] [.int y3] from by
    refine z_if_eq S 20 dX7_call_4 (by decide) (fun c14 => ?_) (fun c14 => ?_)
    · refine z_iconst (v := 0) S dX7_call_20 (by decide) ?_
      exact hJ _ (by rw [if_pos c14])
    · refine z_iload_n S 3 dX7_call_7 rfl rfl ?_
      refine z_if_lt S 20 dX7_call_8 (by decide) (fun c15 => ?_) (fun c15 => ?_)
      · refine z_iconst (v := 0) S dX7_call_20 (by decide) ?_
        exact hJ _ (by rw [if_neg c14, if_pos c15])
      · refine z_iload_n S 3 dX7_call_11 rfl rfl ?_
        refine z_iconst (v := 3) S dX7_call_12 (by decide) ?_
        refine z_icmp_gt S 20 dX7_call_13 (by decide) (fun c16 => ?_) (fun c16 => ?_)
        · refine z_iconst (v := 0) S dX7_call_20 (by decide) ?_
          exact hJ _ (by rw [if_neg c14, if_neg c15, if_pos c16])
        · refine z_iconst (v := 1) S dX7_call_16 (by decide) ?_
          refine z_goto S 21 dX7_call_17 (by decide) ?_
          exact hJ _ (by rw [if_neg c14, if_neg c15, if_neg c16])
  intro y3 ey3
  have hw := hw y3 ey3
  refine z_istore S [(4, .int y3), (0, va_rf (some o)), (1, .int x1), (2, .int x2), (3, .int x3)] dX7_call_21 (by decide) rfl ?_
  refine z_lv (lv' := [(0, va_rf (some o)), (1, .int x1), (2, .int x2), (3, .int x3), (4, .int y3)]) [1, 2, 3, 4, 0] rfl ?_
  refine z_aload_n (x := some o) S 0 dX7_call_23 rfl rfl ?_
  refine z_aload_n (x := some o) S 0 dX7_call_24 rfl rfl ?_
  refine z_iload_n S 2 dX7_call_25 rfl rfl ?_
  refine z_callVi (As := [.int x2]) (st := [va_rf (some o)]) S (z_EMok D cy A) hE (me_X7_isBox l D cy A o ad _ M1 x2 hw) gV_X7_131 hdV_X7_isBox ⟨Nat.le_of_ble_eq_true rfl, Nat.le_of_ble_eq_true rfl⟩ rfl rfl (z_recvM hE) (fun _ h => h) (fun _ _ _ _ h => h) rfl (Nat.le_trans (z_sq z_s0) (by decide)) dX7_call_26 ⟨Nat.le_of_ble_eq_true rfl, Nat.le_of_ble_eq_true rfl⟩ rfl (fun r5 M4 hw => ?_)
  refine z_if_ne S 36 dX7_call_29 (by decide) (fun c6 => ?_) (fun c6 => ?_)
  · have hw := hw.1 c6
    refine z_iload S 4 dX7_call_36 rfl ?_
    refine z_if_ne S 45 dX7_call_38 (by decide) (fun c7 => ?_) (fun c7 => ?_)
    · have hw := hw.1 c7
      refine z_aload_n (x := some o) S 0 dX7_call_45 rfl rfl ?_
      refine zm_g_59 S hE dX7_call_46 ?_
      refine z_iload_n S 1 dX7_call_49 rfl rfl ?_
      obtain ⟨hi13, hw⟩ := hw
      refine z_mzld (j := 20) S hE rfl rfl hi13 dX7_call_50 ?_
      refine z_if_ne S 65 dX7_call_51 (by decide) (fun c8 => ?_) (fun c8 => ?_)
      · have hw := hw.1 c8
        refine z_lv (lv' := [(0, va_rf (some o)), (1, .int x1), (2, .int x2), (3, .int x3)]) [0, 1, 2, 3] rfl ?_
        exact mb_X7_call_65 S hlk hr hE M4 x1 x2 x3 hw
      · have hw := hw.2 c8
        refine z_iload_n S 3 dX7_call_54 rfl rfl ?_
        refine z_if_ne S 69 dX7_call_55 (by decide) (fun c9 => ?_) (fun c9 => ?_)
        · have hw := hw.1 c9
          refine z_lv (lv' := [(0, va_rf (some o)), (1, .int x1), (2, .int x2), (3, .int x3)]) [0, 1, 2, 3] rfl ?_
          exact mb_X7_call_69 S hlk hr hE M4 x1 x2 x3 hw
        · have hw := hw.2 c9
          refine z_aload_n (x := some o) S 0 dX7_call_58 rfl rfl ?_
          refine z_callVi (As := []) (st := [va_rf (some o)]) S (z_EMok D cy A) hE (me_X7_isFull l D cy A o ad _ M4  hw) gV_X7_134 hdV_X7_isFull ⟨Nat.le_of_ble_eq_true rfl, Nat.le_of_ble_eq_true rfl⟩ rfl rfl (z_recvM hE) (fun _ h => h) (fun _ _ _ _ h => h) rfl (Nat.le_trans (z_sq z_s0) (by decide)) dX7_call_59 ⟨Nat.le_of_ble_eq_true rfl, Nat.le_of_ble_eq_true rfl⟩ rfl (fun r11 M10 hw => ?_)
          refine z_if_eq S 69 dX7_call_62 (by decide) (fun c12 => ?_) (fun c12 => ?_)
          · have hw := hw.1 c12
            refine z_lv (lv' := [(0, va_rf (some o)), (1, .int x1), (2, .int x2), (3, .int x3)]) [0, 1, 2, 3] rfl ?_
            exact mb_X7_call_69 S hlk hr hE M10 x1 x2 x3 hw
          · have hw := hw.2 c12
            refine z_lv (lv' := [(0, va_rf (some o)), (1, .int x1), (2, .int x2), (3, .int x3)]) [0, 1, 2, 3] rfl ?_
            exact mb_X7_call_65 S hlk hr hE M10 x1 x2 x3 hw
    · have hw := hw.2 c7
      refine z_iconst (v := 2) S dX7_call_41 (by decide) ?_
      refine z_goto S 70 dX7_call_42 (by decide) ?_
      refine z_lv (lv' := [(0, va_rf (some o)), (1, .int x1), (2, .int x2), (3, .int x3)]) [0, 1, 2, 3] rfl ?_
      exact mb_X7_call_70 S hlk hr hE M4 x1 x2 x3 2 hw
  · have hw := hw.2 c6
    refine z_iconst (v := 1) S dX7_call_32 (by decide) ?_
    refine z_goto S 70 dX7_call_33 (by decide) ?_
    refine z_lv (lv' := [(0, va_rf (some o)), (1, .int x1), (2, .int x2), (3, .int x3)]) [0, 1, 2, 3] rfl ?_
    exact mb_X7_call_70 S hlk hr hE M4 x1 x2 x3 1 hw
theorem me_X7_call (l : Launch) (D : va_G) (cy : Nat → ClassId) (A : Nat → Prop) (o : Nat) (ad : Nat → Nat) (post : z_Md → Prop) (M : z_Md) (x1 : Int32) (x2 : Int32) (x3 : Int32) (hw : w_X7_call post M x1 x2 x3) : z_Mv l yX7_call (Cond.code yX7_call cX7_call 6 none :: z_T) rm_X7_call [.ref o, .int x1, .int x2, .int x3] (z_EM D cy) (z_hM D cy A o ad) M post 0 0 A :=
  z_met (by decide) (Nat.le_of_ble_eq_true rfl) (fun p e s m args below meth c S hlk hr hnm hE => mb_X7_call S hlk hr hE M x1 x2 x3 hw)
abbrev rm_X7_isPaid : Room := { frames := 3, cells := 0, slots := 0, locals := 71 }
def w_X7_isPaid_35 (post : Int32 → z_Md → Prop) (M : z_Md)  : Prop := (post 1 M)
def w_X7_isPaid (post : Int32 → z_Md → Prop) (M : z_Md) (x1 : Int32) (x2 : Int32) : Prop := (vp_in x1 3 ∧ ((0 < (M 22 x1.toNatClampNeg) → (w_X7_isPaid_35 post M )) ∧ (¬ 0 < (M 22 x1.toNatClampNeg) → (vp_in x1 3 ∧ (w_X7_usedBy (fun r3 M2 => (vp_in x1 3 ∧ (vp_in (M2 21 x1.toNatClampNeg) 4 ∧ (((M2 11 (M2 21 x1.toNatClampNeg).toNatClampNeg) < (r3 + x2) → (post 0 M2)) ∧ (¬ (M2 11 (M2 21 x1.toNatClampNeg).toNatClampNeg) < (r3 + x2) → (w_X7_isPaid_35 post M2 )))))) M (M 21 x1.toNatClampNeg))))))
set_option maxRecDepth 20000 in
theorem mb_X7_isPaid_35 {p : Program} {l : Launch} {e : Env} {s : State} {m : MethodId} {args : Array Value} {below : List Frame} {meth : Method} {c : Code} {D : va_G} {cy : Nat → ClassId} {A : Nat → Prop} {o : Nat} {ad : Nat → Nat} (S : CallFix p m c cX7_isPaid 3 s args z_T RX7) (hlk : meth.locks = false) (hr : meth.sig.returnType = some .boolean) (hE : z_EM D cy s) {post : Int32 → z_Md → Prop}  (M : z_Md)  (hw : w_X7_isPaid_35 post M ) : z_V A (z_hM D cy A o ad) p l e rm_X7_isPaid s m args below meth c 3 (MQ below (va_Qi post (fun (u' : z_Md) t => z_hM D cy A o ad u' t.heap) A) args s 0 0 A) 0 0 M 35 [] [] := by
  refine z_iconst (v := 1) S dX7_isPaid_35 (by decide) ?_
  refine z_goto S 40 dX7_isPaid_36 (by decide) ?_
  exact z_zret S hr hlk dX7_isPaid_40 (Nat.le_refl 0) (Nat.le_refl 0) rfl hw
set_option maxRecDepth 20000 in
theorem mb_X7_isPaid {p : Program} {l : Launch} {e : Env} {s : State} {m : MethodId} {args : Array Value} {below : List Frame} {meth : Method} {c : Code} {D : va_G} {cy : Nat → ClassId} {A : Nat → Prop} {o : Nat} {ad : Nat → Nat} (S : CallFix p m c cX7_isPaid 3 s args z_T RX7) (hlk : meth.locks = false) (hr : meth.sig.returnType = some .boolean) (hE : z_EM D cy s) {post : Int32 → z_Md → Prop}  (M : z_Md) (x1 : Int32) (x2 : Int32) (hw : w_X7_isPaid post M x1 x2) : z_V A (z_hM D cy A o ad) p l e rm_X7_isPaid s m args below meth c 3 (MQ below (va_Qi post (fun (u' : z_Md) t => z_hM D cy A o ad u' t.heap) A) args s 0 0 A) 0 0 M 0 [(0, va_rf (some o)), (1, .int x1), (2, .int x2)] [] := by
  refine z_aload_n (x := some o) S 0 dX7_isPaid_0 rfl rfl ?_
  refine zm_g_65 S hE dX7_isPaid_1 ?_
  refine z_iload_n S 1 dX7_isPaid_4 rfl rfl ?_
  obtain ⟨hi8, hw⟩ := hw
  refine z_mald (j := 22) S hE rfl rfl hi8 dX7_isPaid_5 ?_
  refine z_if_gt S 35 dX7_isPaid_6 (by decide) (fun c1 => ?_) (fun c1 => ?_)
  · have hw := hw.1 c1
    refine z_lv (lv' := []) [] rfl ?_
    exact mb_X7_isPaid_35 S hlk hr hE M  hw
  · have hw := hw.2 c1
    refine z_aload_n (x := some o) S 0 dX7_isPaid_9 rfl rfl ?_
    refine z_aload_n (x := some o) S 0 dX7_isPaid_10 rfl rfl ?_
    refine zm_g_62 S hE dX7_isPaid_11 ?_
    refine z_iload_n S 1 dX7_isPaid_14 rfl rfl ?_
    obtain ⟨hi7, hw⟩ := hw
    refine z_mald (j := 21) S hE rfl rfl hi7 dX7_isPaid_15 ?_
    refine z_callVi (As := [.int (M 21 x1.toNatClampNeg)]) (st := []) S (z_EMok D cy A) hE (me_X7_usedBy l D cy A o ad _ M (M 21 x1.toNatClampNeg) hw) gV_X7_138 hdV_X7_usedBy ⟨Nat.le_of_ble_eq_true rfl, Nat.le_of_ble_eq_true rfl⟩ rfl rfl (z_recvM hE) (fun _ h => h) (fun _ _ _ _ h => h) rfl (Nat.le_trans z_s0 (by decide)) dX7_isPaid_16 ⟨Nat.le_of_ble_eq_true rfl, Nat.le_of_ble_eq_true rfl⟩ rfl (fun r3 M2 hw => ?_)
    refine z_iload_n S 2 dX7_isPaid_19 rfl rfl ?_
    refine z_iadd S dX7_isPaid_20 ?_
    refine z_aload_n (x := some o) S 0 dX7_isPaid_21 rfl rfl ?_
    refine zm_g_38 S hE dX7_isPaid_22 ?_
    refine z_aload_n (x := some o) S 0 dX7_isPaid_25 rfl rfl ?_
    refine zm_g_62 S hE dX7_isPaid_26 ?_
    refine z_iload_n S 1 dX7_isPaid_29 rfl rfl ?_
    obtain ⟨hi6, hw⟩ := hw
    refine z_mald (j := 21) S hE rfl rfl hi6 dX7_isPaid_30 ?_
    obtain ⟨hi5, hw⟩ := hw
    refine z_mald (j := 11) S hE rfl rfl hi5 dX7_isPaid_31 ?_
    refine z_icmp_gt S 39 dX7_isPaid_32 (by decide) (fun c4 => ?_) (fun c4 => ?_)
    · have hw := hw.1 c4
      refine z_iconst (v := 0) S dX7_isPaid_39 (by decide) ?_
      exact z_zret S hr hlk dX7_isPaid_40 (Nat.le_refl 0) (Nat.le_refl 0) rfl hw
    · have hw := hw.2 c4
      refine z_lv (lv' := []) [] rfl ?_
      exact mb_X7_isPaid_35 S hlk hr hE M2  hw
theorem me_X7_isPaid (l : Launch) (D : va_G) (cy : Nat → ClassId) (A : Nat → Prop) (o : Nat) (ad : Nat → Nat) (post : Int32 → z_Md → Prop) (M : z_Md) (x1 : Int32) (x2 : Int32) (hw : w_X7_isPaid post M x1 x2) : z_Mi l yX7_isPaid (Cond.code yX7_isPaid cX7_isPaid 3 (some .boolean) :: z_T) rm_X7_isPaid [.ref o, .int x1, .int x2] (z_EM D cy) (z_hM D cy A o ad) M post 0 0 A :=
  z_met (by decide) (Nat.le_of_ble_eq_true rfl) (fun p e s m args below meth c S hlk hr hnm hE => mb_X7_isPaid S hlk hr hE M x1 x2 hw)
abbrev rm_X7_codeFrame : Room := { frames := 4, cells := 0, slots := 0, locals := 93 }
def w_X7_codeFrame_34 (post : z_Md → Prop) (M : z_Md) (x1 : Int32) : Prop := (vp_in x1 3 ∧ (post (z_up M 24 x1.toNatClampNeg 1)))
def w_X7_codeFrame_67 (post : z_Md → Prop) : Nat → z_Md → Int32 → Int32 → Int32 → Int32 → Prop
  | 0 => fun _ _ _ _ _ => False
  | n + 1 => fun M x1 x2 x3 x4 => ((8 ≤ x4 → (w_X7_append (fun M2 => (vp_in x1 3 ∧ (vp_in x1 3 ∧ (post (z_up (z_up M2 28 x1.toNatClampNeg (M2 30 0)) 29 x1.toNatClampNeg ((z_up M2 28 x1.toNatClampNeg (M2 30 0)) 31 0)))))) M x2 x3)) ∧ (¬ 8 ≤ x4 → (vp_in ((8 * x1) + x4) 24 ∧ (w_X7_code (fun r7 M6 => (∀ x3_8 : Int32, x3_8 = x3 ||| (r7 <<< ((4 * x4) &&& 31)) → (w_X7_codeFrame_67 post n M6 x1 x2 x3_8 (x4 + 1)))) M (M 26 ((8 * x1) + x4).toNatClampNeg)))))
def w_X7_codeFrame_25 (post : z_Md → Prop) (M : z_Md) (x1 : Int32) (x2 : Int32) : Prop := (w_X7_isPaid (fun r2 M1 => ((¬ r2 = 0 → (vp_in x1 3 ∧ (vp_in x1 3 ∧ (∃ n0 : Nat, w_X7_codeFrame_67 post n0 (z_up (z_up M1 30 0 (M1 28 x1.toNatClampNeg)) 31 0 ((z_up M1 30 0 (M1 28 x1.toNatClampNeg)) 29 x1.toNatClampNeg)) x1 x2 0 0)))) ∧ (r2 = 0 → (w_X7_codeFrame_34 post M1 x1)))) M x1 1)
def w_X7_codeFrame (post : z_Md → Prop) (M : z_Md) (x1 : Int32) : Prop := (vp_in x1 3 ∧ (∀ x2_1 : Int32, x2_1 = M 23 x1.toNatClampNeg → (vp_in x2_1 48 ∧ ((¬ ((M 9 x2_1.toNatClampNeg) - (M 9 x2_1.toNatClampNeg) / 4 * 4) = 0 → (w_X7_codeFrame_25 post M x1 x2_1)) ∧ (((M 9 x2_1.toNatClampNeg) - (M 9 x2_1.toNatClampNeg) / 4 * 4) = 0 → (w_X7_freeBlock (fun r4 M3 => ((r4 < 0 → (w_X7_codeFrame_34 post M3 x1)) ∧ (¬ r4 < 0 → (w_X7_codeFrame_25 post M3 x1 x2_1)))) M ))))))
set_option maxRecDepth 20000 in
theorem mb_X7_codeFrame_34 {p : Program} {l : Launch} {e : Env} {s : State} {m : MethodId} {args : Array Value} {below : List Frame} {meth : Method} {c : Code} {D : va_G} {cy : Nat → ClassId} {A : Nat → Prop} {o : Nat} {ad : Nat → Nat} (S : CallFix p m c cX7_codeFrame 5 s args z_T RX7) (hlk : meth.locks = false) (hr : meth.sig.returnType = none) (hE : z_EM D cy s) {post : z_Md → Prop}  (M : z_Md) (x1 : Int32) (hw : w_X7_codeFrame_34 post M x1) : z_V A (z_hM D cy A o ad) p l e rm_X7_codeFrame s m args below meth c 5 (MQ below (va_Qv post (fun (u' : z_Md) t => z_hM D cy A o ad u' t.heap) A) args s 0 0 A) 0 0 M 34 [(0, va_rf (some o)), (1, .int x1)] [] := by
  refine z_aload_n (x := some o) S 0 dX7_codeFrame_34 rfl rfl ?_
  refine zm_g_71 S hE dX7_codeFrame_35 ?_
  refine z_iload_n S 1 dX7_codeFrame_38 rfl rfl ?_
  refine z_iconst (v := 1) S dX7_codeFrame_39 (by decide) ?_
  obtain ⟨hi1, hw⟩ := hw
  refine z_mzst (j := 24) S hE rfl rfl hi1 rfl dX7_codeFrame_40 ?_
  exact z_vret S hr hlk dX7_codeFrame_41 (Nat.le_refl 0) (Nat.le_refl 0) hw
set_option maxRecDepth 20000 in
theorem mb_X7_codeFrame_67 {p : Program} {l : Launch} {e : Env} {s : State} {m : MethodId} {args : Array Value} {below : List Frame} {meth : Method} {c : Code} {D : va_G} {cy : Nat → ClassId} {A : Nat → Prop} {o : Nat} {ad : Nat → Nat} (S : CallFix p m c cX7_codeFrame 5 s args z_T RX7) (hlk : meth.locks = false) (hr : meth.sig.returnType = none) (hE : z_EM D cy s) {post : z_Md → Prop}  : ∀ (n : Nat) (M : z_Md) (x1 : Int32) (x2 : Int32) (x3 : Int32) (x4 : Int32), w_X7_codeFrame_67 post n M x1 x2 x3 x4 → z_V A (z_hM D cy A o ad) p l e rm_X7_codeFrame s m args below meth c 5 (MQ below (va_Qv post (fun (u' : z_Md) t => z_hM D cy A o ad u' t.heap) A) args s 0 0 A) 0 0 M 67 [(0, va_rf (some o)), (1, .int x1), (2, .int x2), (3, .int x3), (4, .int x4)] [] := by
  intro n
  induction n with
  | zero => intro M x1 x2 x3 x4 hw; exact hw.elim
  | succ n ih =>
    intro M x1 x2 x3 x4 hw
    refine z_iload S 4 dX7_codeFrame_67 rfl ?_
    refine z_bipush (v := 8) S dX7_codeFrame_69 (by decide) ?_
    refine z_icmp_ge S 104 dX7_codeFrame_71 (by decide) (fun c1 => ?_) (fun c1 => ?_)
    · have hw := hw.1 c1
      refine z_aload_n (x := some o) S 0 dX7_codeFrame_104 rfl rfl ?_
      refine z_iload_n S 2 dX7_codeFrame_105 rfl rfl ?_
      refine z_iload_n S 3 dX7_codeFrame_106 rfl rfl ?_
      refine z_callVv (As := [.int x2, .int x3]) (st := []) S (z_EMok D cy A) hE (me_X7_append l D cy A o ad _ M x2 x3 hw) gV_X7_148 hdV_X7_append ⟨Nat.le_of_ble_eq_true rfl, Nat.le_of_ble_eq_true rfl⟩ rfl rfl (z_recvM hE) (fun _ h => h) (fun _ _ _ _ h => h) rfl (Nat.le_trans z_s0 (by decide)) dX7_codeFrame_107 ⟨Nat.le_of_ble_eq_true rfl, Nat.le_of_ble_eq_true rfl⟩ rfl (fun M2 hw => ?_)
      refine z_aload_n (x := some o) S 0 dX7_codeFrame_110 rfl rfl ?_
      refine zm_g_83 S hE dX7_codeFrame_111 ?_
      refine z_iload_n S 1 dX7_codeFrame_114 rfl rfl ?_
      refine z_aload_n (x := some o) S 0 dX7_codeFrame_115 rfl rfl ?_
      refine zm_g_96 S hE dX7_codeFrame_116 ?_
      obtain ⟨hi5, hw⟩ := hw
      refine z_mast (j := 28) S hE rfl rfl hi5 dX7_codeFrame_119 ?_
      refine z_aload_n (x := some o) S 0 dX7_codeFrame_120 rfl rfl ?_
      refine zm_g_86 S hE dX7_codeFrame_121 ?_
      refine z_iload_n S 1 dX7_codeFrame_124 rfl rfl ?_
      refine z_aload_n (x := some o) S 0 dX7_codeFrame_125 rfl rfl ?_
      refine zm_g_93 S hE dX7_codeFrame_126 ?_
      obtain ⟨hi4, hw⟩ := hw
      refine z_mast (j := 29) S hE rfl rfl hi4 dX7_codeFrame_129 ?_
      exact z_vret S hr hlk dX7_codeFrame_130 (Nat.le_refl 0) (Nat.le_refl 0) hw
    · have hw := hw.2 c1
      refine z_iload_n S 3 dX7_codeFrame_74 rfl rfl ?_
      refine z_aload_n (x := some o) S 0 dX7_codeFrame_75 rfl rfl ?_
      refine z_aload_n (x := some o) S 0 dX7_codeFrame_76 rfl rfl ?_
      refine zm_g_77 S hE dX7_codeFrame_77 ?_
      refine z_bipush (v := 8) S dX7_codeFrame_80 (by decide) ?_
      refine z_iload_n S 1 dX7_codeFrame_82 rfl rfl ?_
      refine z_imul S dX7_codeFrame_83 ?_
      refine z_iload S 4 dX7_codeFrame_84 rfl ?_
      refine z_iadd S dX7_codeFrame_86 ?_
      obtain ⟨hi9, hw⟩ := hw
      refine z_mald (j := 26) S hE rfl rfl hi9 dX7_codeFrame_87 ?_
      refine z_callVi (As := [.int (M 26 ((8 * x1) + x4).toNatClampNeg)]) (st := [.int x3]) S (z_EMok D cy A) hE (me_X7_code l D cy A o ad _ M (M 26 ((8 * x1) + x4).toNatClampNeg) hw) gV_X7_145 hdV_X7_code ⟨Nat.le_of_ble_eq_true rfl, Nat.le_of_ble_eq_true rfl⟩ rfl rfl (z_recvM hE) (fun _ h => h) (fun _ _ _ _ h => h) rfl (Nat.le_trans (z_s1 z_s0) (by decide)) dX7_codeFrame_88 ⟨Nat.le_of_ble_eq_true rfl, Nat.le_of_ble_eq_true rfl⟩ rfl (fun r7 M6 hw => ?_)
      refine z_iconst (v := 4) S dX7_codeFrame_91 (by decide) ?_
      refine z_iload S 4 dX7_codeFrame_92 rfl ?_
      refine z_imul S dX7_codeFrame_94 ?_
      refine z_ishl S dX7_codeFrame_95 ?_
      refine z_ior S dX7_codeFrame_96 ?_
      refine z_top (fun x3_8 ex3_8 => ?_)
      have hw := hw x3_8 ex3_8
      refine z_istore_n S [(3, .int x3_8), (0, va_rf (some o)), (1, .int x1), (2, .int x2), (4, .int x4)] dX7_codeFrame_97 rfl (by decide) rfl ?_
      refine z_lv (lv' := [(0, va_rf (some o)), (1, .int x1), (2, .int x2), (3, .int x3_8), (4, .int x4)]) [1, 2, 3, 0, 4] rfl ?_
      refine z_iinc (v := x4 + 1) (pl := 4) S [(4, .int (x4 + 1)), (0, va_rf (some o)), (1, .int x1), (2, .int x2), (3, .int x3_8)] dX7_codeFrame_98 rfl rfl (by decide) rfl ?_
      refine z_lv (lv' := [(0, va_rf (some o)), (1, .int x1), (2, .int x2), (3, .int x3_8), (4, .int (x4 + 1))]) [1, 2, 3, 4, 0] rfl ?_
      refine z_goto S 67 dX7_codeFrame_101 (by decide) ?_
      exact ih M6 x1 x2 x3_8 (x4 + 1) hw
set_option maxRecDepth 20000 in
theorem mb_X7_codeFrame_25 {p : Program} {l : Launch} {e : Env} {s : State} {m : MethodId} {args : Array Value} {below : List Frame} {meth : Method} {c : Code} {D : va_G} {cy : Nat → ClassId} {A : Nat → Prop} {o : Nat} {ad : Nat → Nat} (S : CallFix p m c cX7_codeFrame 5 s args z_T RX7) (hlk : meth.locks = false) (hr : meth.sig.returnType = none) (hE : z_EM D cy s) {post : z_Md → Prop}  (M : z_Md) (x1 : Int32) (x2 : Int32) (hw : w_X7_codeFrame_25 post M x1 x2) : z_V A (z_hM D cy A o ad) p l e rm_X7_codeFrame s m args below meth c 5 (MQ below (va_Qv post (fun (u' : z_Md) t => z_hM D cy A o ad u' t.heap) A) args s 0 0 A) 0 0 M 25 [(0, va_rf (some o)), (1, .int x1), (2, .int x2)] [] := by
  refine z_aload_n (x := some o) S 0 dX7_codeFrame_25 rfl rfl ?_
  refine z_iload_n S 1 dX7_codeFrame_26 rfl rfl ?_
  refine z_iconst (v := 1) S dX7_codeFrame_27 (by decide) ?_
  refine z_callVi (As := [.int x1, .int 1]) (st := []) S (z_EMok D cy A) hE (me_X7_isPaid l D cy A o ad _ M x1 1 hw) gV_X7_141 hdV_X7_isPaid ⟨Nat.le_of_ble_eq_true rfl, Nat.le_of_ble_eq_true rfl⟩ rfl rfl (z_recvM hE) (fun _ h => h) (fun _ _ _ _ h => h) rfl (Nat.le_trans z_s0 (by decide)) dX7_codeFrame_28 ⟨Nat.le_of_ble_eq_true rfl, Nat.le_of_ble_eq_true rfl⟩ rfl (fun r2 M1 hw => ?_)
  refine z_if_ne S 42 dX7_codeFrame_31 (by decide) (fun c3 => ?_) (fun c3 => ?_)
  · have hw := hw.1 c3
    refine z_aload_n (x := some o) S 0 dX7_codeFrame_42 rfl rfl ?_
    refine z_aload_n (x := some o) S 0 dX7_codeFrame_43 rfl rfl ?_
    refine zm_g_83 S hE dX7_codeFrame_44 ?_
    refine z_iload_n S 1 dX7_codeFrame_47 rfl rfl ?_
    obtain ⟨hi5, hw⟩ := hw
    refine z_mald (j := 28) S hE rfl rfl hi5 dX7_codeFrame_48 ?_
    refine zm_p_96 S hE dX7_codeFrame_49 ?_
    refine z_aload_n (x := some o) S 0 dX7_codeFrame_52 rfl rfl ?_
    refine z_aload_n (x := some o) S 0 dX7_codeFrame_53 rfl rfl ?_
    refine zm_g_86 S hE dX7_codeFrame_54 ?_
    refine z_iload_n S 1 dX7_codeFrame_57 rfl rfl ?_
    obtain ⟨hi4, hw⟩ := hw
    refine z_mald (j := 29) S hE rfl rfl hi4 dX7_codeFrame_58 ?_
    refine zm_p_93 S hE dX7_codeFrame_59 ?_
    refine z_iconst (v := 0) S dX7_codeFrame_62 (by decide) ?_
    refine z_istore_n S [(3, .int 0), (0, va_rf (some o)), (1, .int x1), (2, .int x2)] dX7_codeFrame_63 rfl (by decide) rfl ?_
    refine z_lv (lv' := [(0, va_rf (some o)), (1, .int x1), (2, .int x2), (3, .int 0)]) [1, 2, 3, 0] rfl ?_
    refine z_iconst (v := 0) S dX7_codeFrame_64 (by decide) ?_
    refine z_istore S [(4, .int 0), (0, va_rf (some o)), (1, .int x1), (2, .int x2), (3, .int 0)] dX7_codeFrame_65 (by decide) rfl ?_
    refine z_lv (lv' := [(0, va_rf (some o)), (1, .int x1), (2, .int x2), (3, .int 0), (4, .int 0)]) [1, 2, 3, 4, 0] rfl ?_
    obtain ⟨n0, hw⟩ := hw
    exact mb_X7_codeFrame_67 S hlk hr hE n0 (z_up (z_up M1 30 0 (M1 28 x1.toNatClampNeg)) 31 0 ((z_up M1 30 0 (M1 28 x1.toNatClampNeg)) 29 x1.toNatClampNeg)) x1 x2 0 0 hw
  · have hw := hw.2 c3
    refine z_lv (lv' := [(0, va_rf (some o)), (1, .int x1)]) [0, 1] rfl ?_
    exact mb_X7_codeFrame_34 S hlk hr hE M1 x1 hw
set_option maxRecDepth 20000 in
theorem mb_X7_codeFrame {p : Program} {l : Launch} {e : Env} {s : State} {m : MethodId} {args : Array Value} {below : List Frame} {meth : Method} {c : Code} {D : va_G} {cy : Nat → ClassId} {A : Nat → Prop} {o : Nat} {ad : Nat → Nat} (S : CallFix p m c cX7_codeFrame 5 s args z_T RX7) (hlk : meth.locks = false) (hr : meth.sig.returnType = none) (hE : z_EM D cy s) {post : z_Md → Prop}  (M : z_Md) (x1 : Int32) (hw : w_X7_codeFrame post M x1) : z_V A (z_hM D cy A o ad) p l e rm_X7_codeFrame s m args below meth c 5 (MQ below (va_Qv post (fun (u' : z_Md) t => z_hM D cy A o ad u' t.heap) A) args s 0 0 A) 0 0 M 0 [(0, va_rf (some o)), (1, .int x1)] [] := by
  refine z_aload_n (x := some o) S 0 dX7_codeFrame_0 rfl rfl ?_
  refine zm_g_68 S hE dX7_codeFrame_1 ?_
  refine z_iload_n S 1 dX7_codeFrame_4 rfl rfl ?_
  obtain ⟨hi7, hw⟩ := hw
  refine z_mald (j := 23) S hE rfl rfl hi7 dX7_codeFrame_5 ?_
  refine z_top (fun x2_1 ex2_1 => ?_)
  have hw := hw x2_1 ex2_1
  refine z_istore_n S [(2, .int x2_1), (0, va_rf (some o)), (1, .int x1)] dX7_codeFrame_6 rfl (by decide) rfl ?_
  refine z_lv (lv' := [(0, va_rf (some o)), (1, .int x1), (2, .int x2_1)]) [1, 2, 0] rfl ?_
  refine z_aload_n (x := some o) S 0 dX7_codeFrame_7 rfl rfl ?_
  refine zm_g_35 S hE dX7_codeFrame_8 ?_
  refine z_iload_n S 2 dX7_codeFrame_11 rfl rfl ?_
  obtain ⟨hi6, hw⟩ := hw
  refine z_mald (j := 9) S hE rfl rfl hi6 dX7_codeFrame_12 ?_
  refine z_iconst (v := 4) S dX7_codeFrame_13 (by decide) ?_
  refine z_irem S dX7_codeFrame_14 (by decide) ?_
  refine z_if_ne S 25 dX7_codeFrame_15 (by decide) (fun c2 => ?_) (fun c2 => ?_)
  · have hw := hw.1 c2
    exact mb_X7_codeFrame_25 S hlk hr hE M x1 x2_1 hw
  · have hw := hw.2 c2
    refine z_aload_n (x := some o) S 0 dX7_codeFrame_18 rfl rfl ?_
    refine z_callVi (As := []) (st := []) S (z_EMok D cy A) hE (me_X7_freeBlock l D cy A o ad _ M  hw) gV_X7_103 hdV_X7_freeBlock ⟨Nat.le_of_ble_eq_true rfl, Nat.le_of_ble_eq_true rfl⟩ rfl rfl (z_recvM hE) (fun _ h => h) (fun _ _ _ _ h => h) rfl (Nat.le_trans z_s0 (by decide)) dX7_codeFrame_19 ⟨Nat.le_of_ble_eq_true rfl, Nat.le_of_ble_eq_true rfl⟩ rfl (fun r4 M3 hw => ?_)
    refine z_if_lt S 34 dX7_codeFrame_22 (by decide) (fun c5 => ?_) (fun c5 => ?_)
    · have hw := hw.1 c5
      refine z_lv (lv' := [(0, va_rf (some o)), (1, .int x1)]) [0, 1] rfl ?_
      exact mb_X7_codeFrame_34 S hlk hr hE M3 x1 hw
    · have hw := hw.2 c5
      exact mb_X7_codeFrame_25 S hlk hr hE M3 x1 x2_1 hw
theorem me_X7_codeFrame (l : Launch) (D : va_G) (cy : Nat → ClassId) (A : Nat → Prop) (o : Nat) (ad : Nat → Nat) (post : z_Md → Prop) (M : z_Md) (x1 : Int32) (hw : w_X7_codeFrame post M x1) : z_Mv l yX7_codeFrame (Cond.code yX7_codeFrame cX7_codeFrame 5 none :: z_T) rm_X7_codeFrame [.ref o, .int x1] (z_EM D cy) (z_hM D cy A o ad) M post 0 0 A :=
  z_met (by decide) (Nat.le_of_ble_eq_true rfl) (fun p e s m args below meth c S hlk hr hnm hE => mb_X7_codeFrame S hlk hr hE M x1 hw)
abbrev rm_X7_growGap : Room := { frames := 4, cells := 0, slots := 0, locals := 93 }
def w_X7_growGap_123 (post : z_Md → Prop) (M : z_Md) (x1 : Int32) : Prop := (vp_in x1 3 ∧ (vp_in x1 3 ∧ (post (z_up (z_up M 28 x1.toNatClampNeg 0) 29 x1.toNatClampNeg 0))))
def w_X7_growGap_91 (post : z_Md → Prop) (M : z_Md) (x1 : Int32) (x2 : Int32) (x3 : Int32) (x4 : Int32) (x5 : Int32) (z0 : Int32) (z1 : Int32) : Prop := (w_X7_isPaid (fun r2 M1 => ((¬ r2 = 0 → (vp_in x4 160 ∧ ((x3 = 0 → (w_X7_growGap_123 post (z_up M1 4 x4.toNatClampNeg x5) x1)) ∧ (¬ x3 = 0 → (w_X7_dropLast (fun M5 => (w_X7_growGap_123 post M5 x1)) (z_up M1 4 x4.toNatClampNeg x5) x2))))) ∧ (r2 = 0 → (vp_in x1 3 ∧ (post (z_up M1 24 x1.toNatClampNeg 1)))))) M z1 z0)
def w_X7_growGap (post : z_Md → Prop) (M : z_Md) (x1 : Int32) : Prop := (vp_in x1 3 ∧ (∀ x2_1 : Int32, x2_1 = M 23 x1.toNatClampNeg → (vp_in x1 3 ∧ (∀ y2 : Int32, y2 = (if (M 27 x1.toNatClampNeg) = 2 then 1 else 0) → (vp_in x2_1 48 ∧ (∀ y3 : Int32, y3 = (if y2 = 0 then 1 else 2) → (w_X7_entryAt (fun r5 M4 => ((y2 = 0 → vp_in r5 160) ∧ (∀ y6 : Int32, y6 = (if y2 = 0 then (M4 4 r5.toNatClampNeg) + 1 else 3) → ((y2 = 0 → (w_X7_costOfGap (fun r9 M8 => (vp_in r5 160 ∧ (w_X7_costOfGap (fun r11 M10 => (w_X7_growGap_91 post M10 x1 x2_1 y2 r5 y6 (r9 - r11) x1)) M8 (M8 4 r5.toNatClampNeg)))) M4 y6)) ∧ (¬ y2 = 0 → (w_X7_growGap_91 post M4 x1 x2_1 y2 r5 y6 (-1) x1)))))) M x2_1 ((M 9 x2_1.toNatClampNeg) - y3))))))))
set_option maxRecDepth 20000 in
theorem mb_X7_growGap_123 {p : Program} {l : Launch} {e : Env} {s : State} {m : MethodId} {args : Array Value} {below : List Frame} {meth : Method} {c : Code} {D : va_G} {cy : Nat → ClassId} {A : Nat → Prop} {o : Nat} {ad : Nat → Nat} (S : CallFix p m c cX7_growGap 6 s args z_T RX7) (hlk : meth.locks = false) (hr : meth.sig.returnType = none) (hE : z_EM D cy s) {post : z_Md → Prop}  (M : z_Md) (x1 : Int32) (hw : w_X7_growGap_123 post M x1) : z_V A (z_hM D cy A o ad) p l e rm_X7_growGap s m args below meth c 6 (MQ below (va_Qv post (fun (u' : z_Md) t => z_hM D cy A o ad u' t.heap) A) args s 0 0 A) 0 0 M 123 [(0, va_rf (some o)), (1, .int x1)] [] := by
  refine z_aload_n (x := some o) S 0 dX7_growGap_123 rfl rfl ?_
  refine zm_g_83 S hE dX7_growGap_124 ?_
  refine z_iload_n S 1 dX7_growGap_127 rfl rfl ?_
  refine z_iconst (v := 0) S dX7_growGap_128 (by decide) ?_
  obtain ⟨hi2, hw⟩ := hw
  refine z_mast (j := 28) S hE rfl rfl hi2 dX7_growGap_129 ?_
  refine z_aload_n (x := some o) S 0 dX7_growGap_130 rfl rfl ?_
  refine zm_g_86 S hE dX7_growGap_131 ?_
  refine z_iload_n S 1 dX7_growGap_134 rfl rfl ?_
  refine z_iconst (v := 0) S dX7_growGap_135 (by decide) ?_
  obtain ⟨hi1, hw⟩ := hw
  refine z_mast (j := 29) S hE rfl rfl hi1 dX7_growGap_136 ?_
  exact z_vret S hr hlk dX7_growGap_137 (Nat.le_refl 0) (Nat.le_refl 0) hw
set_option maxRecDepth 20000 in
theorem mb_X7_growGap_91 {p : Program} {l : Launch} {e : Env} {s : State} {m : MethodId} {args : Array Value} {below : List Frame} {meth : Method} {c : Code} {D : va_G} {cy : Nat → ClassId} {A : Nat → Prop} {o : Nat} {ad : Nat → Nat} (S : CallFix p m c cX7_growGap 6 s args z_T RX7) (hlk : meth.locks = false) (hr : meth.sig.returnType = none) (hE : z_EM D cy s) {post : z_Md → Prop}  (M : z_Md) (x1 : Int32) (x2 : Int32) (x3 : Int32) (x4 : Int32) (x5 : Int32) (z0 : Int32) (z1 : Int32) (hw : w_X7_growGap_91 post M x1 x2 x3 x4 x5 z0 z1) : z_V A (z_hM D cy A o ad) p l e rm_X7_growGap s m args below meth c 6 (MQ below (va_Qv post (fun (u' : z_Md) t => z_hM D cy A o ad u' t.heap) A) args s 0 0 A) 0 0 M 91 [(0, va_rf (some o)), (1, .int x1), (2, .int x2), (3, .int x3), (4, .int x4), (5, .int x5)] [.int z0, .int z1, va_rf (some o)] := by
  refine z_callVi (As := [.int z1, .int z0]) (st := []) S (z_EMok D cy A) hE (me_X7_isPaid l D cy A o ad _ M z1 z0 hw) gV_X7_141 hdV_X7_isPaid ⟨Nat.le_of_ble_eq_true rfl, Nat.le_of_ble_eq_true rfl⟩ rfl rfl (z_recvM hE) (fun _ h => h) (fun _ _ _ _ h => h) rfl (Nat.le_trans z_s0 (by decide)) dX7_growGap_91 ⟨Nat.le_of_ble_eq_true rfl, Nat.le_of_ble_eq_true rfl⟩ rfl (fun r2 M1 hw => ?_)
  refine z_if_ne S 105 dX7_growGap_94 (by decide) (fun c3 => ?_) (fun c3 => ?_)
  · have hw := hw.1 c3
    refine z_aload_n (x := some o) S 0 dX7_growGap_105 rfl rfl ?_
    refine zm_g_19 S hE dX7_growGap_106 ?_
    refine z_iload S 4 dX7_growGap_109 rfl ?_
    refine z_iload S 5 dX7_growGap_111 rfl ?_
    obtain ⟨hi7, hw⟩ := hw
    refine z_mast (j := 4) S hE rfl rfl hi7 dX7_growGap_113 ?_
    refine z_iload_n S 3 dX7_growGap_114 rfl rfl ?_
    refine z_if_eq S 123 dX7_growGap_115 (by decide) (fun c4 => ?_) (fun c4 => ?_)
    · have hw := hw.1 c4
      refine z_lv (lv' := [(0, va_rf (some o)), (1, .int x1)]) [0, 1] rfl ?_
      exact mb_X7_growGap_123 S hlk hr hE (z_up M1 4 x4.toNatClampNeg x5) x1 hw
    · have hw := hw.2 c4
      refine z_aload_n (x := some o) S 0 dX7_growGap_118 rfl rfl ?_
      refine z_iload_n S 2 dX7_growGap_119 rfl rfl ?_
      refine z_callVv (As := [.int x2]) (st := []) S (z_EMok D cy A) hE (me_X7_dropLast l D cy A o ad _ (z_up M1 4 x4.toNatClampNeg x5) x2 hw) gV_X7_152 hdV_X7_dropLast ⟨Nat.le_of_ble_eq_true rfl, Nat.le_of_ble_eq_true rfl⟩ rfl rfl (z_recvM hE) (fun _ h => h) (fun _ _ _ _ h => h) rfl (Nat.le_trans z_s0 (by decide)) dX7_growGap_120 ⟨Nat.le_of_ble_eq_true rfl, Nat.le_of_ble_eq_true rfl⟩ rfl (fun M5 hw => ?_)
      refine z_lv (lv' := [(0, va_rf (some o)), (1, .int x1)]) [0, 1] rfl ?_
      exact mb_X7_growGap_123 S hlk hr hE M5 x1 hw
  · have hw := hw.2 c3
    refine z_aload_n (x := some o) S 0 dX7_growGap_97 rfl rfl ?_
    refine zm_g_71 S hE dX7_growGap_98 ?_
    refine z_iload_n S 1 dX7_growGap_101 rfl rfl ?_
    refine z_iconst (v := 1) S dX7_growGap_102 (by decide) ?_
    obtain ⟨hi8, hw⟩ := hw
    refine z_mzst (j := 24) S hE rfl rfl hi8 rfl dX7_growGap_103 ?_
    exact z_vret S hr hlk dX7_growGap_104 (Nat.le_refl 0) (Nat.le_refl 0) hw
set_option maxRecDepth 20000 in
theorem mb_X7_growGap {p : Program} {l : Launch} {e : Env} {s : State} {m : MethodId} {args : Array Value} {below : List Frame} {meth : Method} {c : Code} {D : va_G} {cy : Nat → ClassId} {A : Nat → Prop} {o : Nat} {ad : Nat → Nat} (S : CallFix p m c cX7_growGap 6 s args z_T RX7) (hlk : meth.locks = false) (hr : meth.sig.returnType = none) (hE : z_EM D cy s) {post : z_Md → Prop}  (M : z_Md) (x1 : Int32) (hw : w_X7_growGap post M x1) : z_V A (z_hM D cy A o ad) p l e rm_X7_growGap s m args below meth c 6 (MQ below (va_Qv post (fun (u' : z_Md) t => z_hM D cy A o ad u' t.heap) A) args s 0 0 A) 0 0 M 0 [(0, va_rf (some o)), (1, .int x1)] [] := by
  refine z_aload_n (x := some o) S 0 dX7_growGap_0 rfl rfl ?_
  refine zm_g_68 S hE dX7_growGap_1 ?_
  refine z_iload_n S 1 dX7_growGap_4 rfl rfl ?_
  obtain ⟨hi19, hw⟩ := hw
  refine z_mald (j := 23) S hE rfl rfl hi19 dX7_growGap_5 ?_
  refine z_top (fun x2_1 ex2_1 => ?_)
  have hw := hw x2_1 ex2_1
  refine z_istore_n S [(2, .int x2_1), (0, va_rf (some o)), (1, .int x1)] dX7_growGap_6 rfl (by decide) rfl ?_
  refine z_lv (lv' := [(0, va_rf (some o)), (1, .int x1), (2, .int x2_1)]) [1, 2, 0] rfl ?_
  refine z_aload_n (x := some o) S 0 dX7_growGap_7 rfl rfl ?_
  refine zm_g_80 S hE dX7_growGap_8 ?_
  refine z_iload_n S 1 dX7_growGap_11 rfl rfl ?_
  obtain ⟨hi18, hw⟩ := hw
  refine z_mald (j := 27) S hE rfl rfl hi18 dX7_growGap_12 ?_
  refine z_iconst (v := 2) S dX7_growGap_13 (by decide) ?_
  suffices hJ : ∀ y2 : Int32, y2 = (if (M 27 x1.toNatClampNeg) = 2 then 1 else 0) → z_V A (z_hM D cy A o ad) p l e rm_X7_growGap s m args below meth c 6 (MQ below (va_Qv post (fun (u' : z_Md) t => z_hM D cy A o ad u' t.heap) A) args s 0 0 A) 0 0 M 22 [(0, va_rf (some o)), (1, .int x1), (2, .int x2_1)] [.int y2] from by
    refine z_icmp_ne S 21 dX7_growGap_14 (by decide) (fun c17 => ?_) (fun c17 => ?_)
    · refine z_iconst (v := 0) S dX7_growGap_21 (by decide) ?_
      exact hJ _ (by rw [if_neg c17])
    · refine z_iconst (v := 1) S dX7_growGap_17 (by decide) ?_
      refine z_goto S 22 dX7_growGap_18 (by decide) ?_
      exact hJ _ (by rw [if_pos c17])
  intro y2 ey2
  have hw := hw y2 ey2
  refine z_istore_n S [(3, .int y2), (0, va_rf (some o)), (1, .int x1), (2, .int x2_1)] dX7_growGap_22 rfl (by decide) rfl ?_
  refine z_lv (lv' := [(0, va_rf (some o)), (1, .int x1), (2, .int x2_1), (3, .int y2)]) [1, 2, 3, 0] rfl ?_
  refine z_aload_n (x := some o) S 0 dX7_growGap_23 rfl rfl ?_
  refine z_iload_n S 2 dX7_growGap_24 rfl rfl ?_
  refine z_aload_n (x := some o) S 0 dX7_growGap_25 rfl rfl ?_
  refine zm_g_35 S hE dX7_growGap_26 ?_
  refine z_iload_n S 2 dX7_growGap_29 rfl rfl ?_
  obtain ⟨hi16, hw⟩ := hw
  refine z_mald (j := 9) S hE rfl rfl hi16 dX7_growGap_30 ?_
  refine z_iload_n S 3 dX7_growGap_31 rfl rfl ?_
  suffices hJ : ∀ y3 : Int32, y3 = (if y2 = 0 then 1 else 2) → z_V A (z_hM D cy A o ad) p l e rm_X7_growGap s m args below meth c 6 (MQ below (va_Qv post (fun (u' : z_Md) t => z_hM D cy A o ad u' t.heap) A) args s 0 0 A) 0 0 M 40 [(0, va_rf (some o)), (1, .int x1), (2, .int x2_1), (3, .int y2)] [.int y3, .int (M 9 x2_1.toNatClampNeg), .int x2_1, va_rf (some o)] from by
    refine z_if_eq S 39 dX7_growGap_32 (by decide) (fun c15 => ?_) (fun c15 => ?_)
    · refine z_iconst (v := 1) S dX7_growGap_39 (by decide) ?_
      exact hJ _ (by rw [if_pos c15])
    · refine z_iconst (v := 2) S dX7_growGap_35 (by decide) ?_
      refine z_goto S 40 dX7_growGap_36 (by decide) ?_
      exact hJ _ (by rw [if_neg c15])
  intro y3 ey3
  have hw := hw y3 ey3
  refine z_isub S dX7_growGap_40 ?_
  refine z_callVi (As := [.int x2_1, .int ((M 9 x2_1.toNatClampNeg) - y3)]) (st := []) S (z_EMok D cy A) hE (me_X7_entryAt l D cy A o ad _ M x2_1 ((M 9 x2_1.toNatClampNeg) - y3) hw) gV_X7_107 hdV_X7_entryAt ⟨Nat.le_of_ble_eq_true rfl, Nat.le_of_ble_eq_true rfl⟩ rfl rfl (z_recvM hE) (fun _ h => h) (fun _ _ _ _ h => h) rfl (Nat.le_trans z_s0 (by decide)) dX7_growGap_41 ⟨Nat.le_of_ble_eq_true rfl, Nat.le_of_ble_eq_true rfl⟩ rfl (fun r5 M4 hw => ?_)
  refine z_istore S [(4, .int r5), (0, va_rf (some o)), (1, .int x1), (2, .int x2_1), (3, .int y2)] dX7_growGap_44 (by decide) rfl ?_
  refine z_lv (lv' := [(0, va_rf (some o)), (1, .int x1), (2, .int x2_1), (3, .int y2), (4, .int r5)]) [1, 2, 3, 4, 0] rfl ?_
  refine z_iload_n S 3 dX7_growGap_46 rfl rfl ?_
  obtain ⟨hob, hw⟩ := hw
  suffices hJ : ∀ y6 : Int32, y6 = (if y2 = 0 then (M4 4 r5.toNatClampNeg) + 1 else 3) → z_V A (z_hM D cy A o ad) p l e rm_X7_growGap s m args below meth c 6 (MQ below (va_Qv post (fun (u' : z_Md) t => z_hM D cy A o ad u' t.heap) A) args s 0 0 A) 0 0 M4 63 [(0, va_rf (some o)), (1, .int x1), (2, .int x2_1), (3, .int y2), (4, .int r5)] [.int y6] from by
    refine z_if_eq S 54 dX7_growGap_47 (by decide) (fun c13 => ?_) (fun c13 => ?_)
    · have hob := hob c13
      refine z_aload_n (x := some o) S 0 dX7_growGap_54 rfl rfl ?_
      refine zm_g_19 S hE dX7_growGap_55 ?_
      refine z_iload S 4 dX7_growGap_58 rfl ?_
      have hi14 := hob
      refine z_mald (j := 4) S hE rfl rfl hi14 dX7_growGap_60 ?_
      refine z_iconst (v := 1) S dX7_growGap_61 (by decide) ?_
      refine z_iadd S dX7_growGap_62 ?_
      exact hJ _ (by rw [if_pos c13])
    · refine z_iconst (v := 3) S dX7_growGap_50 (by decide) ?_
      refine z_goto S 63 dX7_growGap_51 (by decide) ?_
      exact hJ _ (by rw [if_neg c13])
  intro y6 ey6
  have hw := hw y6 ey6
  refine z_istore S [(5, .int y6), (0, va_rf (some o)), (1, .int x1), (2, .int x2_1), (3, .int y2), (4, .int r5)] dX7_growGap_63 (by decide) rfl ?_
  refine z_lv (lv' := [(0, va_rf (some o)), (1, .int x1), (2, .int x2_1), (3, .int y2), (4, .int r5), (5, .int y6)]) [1, 2, 3, 4, 5, 0] rfl ?_
  refine z_aload_n (x := some o) S 0 dX7_growGap_65 rfl rfl ?_
  refine z_iload_n S 1 dX7_growGap_66 rfl rfl ?_
  refine z_iload_n S 3 dX7_growGap_67 rfl rfl ?_
  refine z_if_eq S 75 dX7_growGap_68 (by decide) (fun c7 => ?_) (fun c7 => ?_)
  · have hw := hw.1 c7
    refine z_iload S 5 dX7_growGap_75 rfl ?_
    refine z_callSi (As := [.int y6]) (st := [.int x1, va_rf (some o)]) S (z_EMok D cy A) hE (me_X7_costOfGap l D cy A o ad _ M4 y6 hw) gS_X7_115 hdS_X7_costOfGap ⟨Nat.le_of_ble_eq_true rfl, Nat.le_of_ble_eq_true rfl⟩ rfl rfl (fun _ h => h) (fun _ _ _ _ h => h) rfl (Nat.le_trans (z_s1 (z_sq z_s0)) (by decide)) dX7_growGap_77 ⟨Nat.le_of_ble_eq_true rfl, Nat.le_of_ble_eq_true rfl⟩ rfl (fun r9 M8 hw => ?_)
    refine z_aload_n (x := some o) S 0 dX7_growGap_80 rfl rfl ?_
    refine zm_g_19 S hE dX7_growGap_81 ?_
    refine z_iload S 4 dX7_growGap_84 rfl ?_
    obtain ⟨hi12, hw⟩ := hw
    refine z_mald (j := 4) S hE rfl rfl hi12 dX7_growGap_86 ?_
    refine z_callSi (As := [.int (M8 4 r5.toNatClampNeg)]) (st := [.int r9, .int x1, va_rf (some o)]) S (z_EMok D cy A) hE (me_X7_costOfGap l D cy A o ad _ M8 (M8 4 r5.toNatClampNeg) hw) gS_X7_115 hdS_X7_costOfGap ⟨Nat.le_of_ble_eq_true rfl, Nat.le_of_ble_eq_true rfl⟩ rfl rfl (fun _ h => h) (fun _ _ _ _ h => h) rfl (Nat.le_trans (z_s1 (z_s1 (z_sq z_s0))) (by decide)) dX7_growGap_87 ⟨Nat.le_of_ble_eq_true rfl, Nat.le_of_ble_eq_true rfl⟩ rfl (fun r11 M10 hw => ?_)
    refine z_isub S dX7_growGap_90 ?_
    exact mb_X7_growGap_91 S hlk hr hE M10 x1 x2_1 y2 r5 y6 (r9 - r11) x1 hw
  · have hw := hw.2 c7
    refine z_iconst (v := (-1)) S dX7_growGap_71 (by decide) ?_
    refine z_goto S 91 dX7_growGap_72 (by decide) ?_
    exact mb_X7_growGap_91 S hlk hr hE M4 x1 x2_1 y2 r5 y6 (-1) x1 hw
theorem me_X7_growGap (l : Launch) (D : va_G) (cy : Nat → ClassId) (A : Nat → Prop) (o : Nat) (ad : Nat → Nat) (post : z_Md → Prop) (M : z_Md) (x1 : Int32) (hw : w_X7_growGap post M x1) : z_Mv l yX7_growGap (Cond.code yX7_growGap cX7_growGap 6 none :: z_T) rm_X7_growGap [.ref o, .int x1] (z_EM D cy) (z_hM D cy A o ad) M post 0 0 A :=
  z_met (by decide) (Nat.le_of_ble_eq_true rfl) (fun p e s m args below meth c S hlk hr hnm hE => mb_X7_growGap S hlk hr hE M x1 hw)
abbrev rm_X7_frame : Room := { frames := 5, cells := 0, slots := 0, locals := 118 }
def w_X7_frame_80 (post : z_Md → Prop) (M : z_Md) (x1 : Int32) (x2 : Int32) : Prop := (vp_in x1 3 ∧ ((¬ 3 ≤ (M 27 x1.toNatClampNeg) → vp_in x1 3) ∧ (∀ y1 : Int32, y1 = (if 3 ≤ (M 27 x1.toNatClampNeg) then 3 else (M 27 x1.toNatClampNeg) + 1) → (∀ y2 : Int32, y2 = (if x2 = 0 then 0 else y1) → (vp_in x1 3 ∧ (vp_in x1 3 ∧ (post (z_up (z_up M 27 x1.toNatClampNeg y2) 25 x1.toNatClampNeg 0))))))))
def w_X7_frame_75 (post : z_Md → Prop) (M : z_Md) (x1 : Int32) (x2 : Int32) : Prop := (w_X7_codeFrame (fun M1 => (w_X7_frame_80 post M1 x1 x2)) M x1)
def w_X7_frame_4 (post : z_Md → Prop) : Nat → z_Md → Int32 → Int32 → Int32 → Prop
  | 0 => fun _ _ _ _ => False
  | n + 1 => fun M x1 x2 x3 => ((8 ≤ x3 → ((x2 = 0 → (w_X7_frame_75 post M x1 x2)) ∧ (¬ x2 = 0 → (vp_in x1 3 ∧ (((M 27 x1.toNatClampNeg) < 2 → (w_X7_frame_75 post M x1 x2)) ∧ (¬ (M 27 x1.toNatClampNeg) < 2 → (w_X7_growGap (fun M4 => (w_X7_frame_80 post M4 x1 x2)) M x1))))))) ∧ (¬ 8 ≤ x3 → (vp_in ((8 * x1) + x3) 24 ∧ (∀ x4_7 : Int32, x4_7 = M 26 ((8 * x1) + x3).toNatClampNeg → (∀ y8 : Int32, y8 = (if x2 = 0 then 0 else (if x4_7 < (-48) then 0 else (if 48 < x4_7 then 0 else 1))) → (w_X7_frame_4 post n M x1 y8 (x3 + 1)))))))
def w_X7_frame (post : z_Md → Prop) (M : z_Md) (x1 : Int32) : Prop := (∃ n0 : Nat, w_X7_frame_4 post n0 M x1 1 0)
set_option maxRecDepth 20000 in
theorem mb_X7_frame_80 {p : Program} {l : Launch} {e : Env} {s : State} {m : MethodId} {args : Array Value} {below : List Frame} {meth : Method} {c : Code} {D : va_G} {cy : Nat → ClassId} {A : Nat → Prop} {o : Nat} {ad : Nat → Nat} (S : CallFix p m c cX7_frame 5 s args z_T RX7) (hlk : meth.locks = false) (hr : meth.sig.returnType = none) (hE : z_EM D cy s) {post : z_Md → Prop}  (M : z_Md) (x1 : Int32) (x2 : Int32) (hw : w_X7_frame_80 post M x1 x2) : z_V A (z_hM D cy A o ad) p l e rm_X7_frame s m args below meth c 5 (MQ below (va_Qv post (fun (u' : z_Md) t => z_hM D cy A o ad u' t.heap) A) args s 0 0 A) 0 0 M 80 [(0, va_rf (some o)), (1, .int x1), (2, .int x2)] [] := by
  refine z_aload_n (x := some o) S 0 dX7_frame_80 rfl rfl ?_
  refine zm_g_80 S hE dX7_frame_81 ?_
  refine z_iload_n S 1 dX7_frame_84 rfl rfl ?_
  obtain ⟨hi8, hw⟩ := hw
  refine z_mald (j := 27) S hE rfl rfl hi8 dX7_frame_85 ?_
  refine z_iconst (v := 3) S dX7_frame_86 (by decide) ?_
  obtain ⟨hob, hw⟩ := hw
  suffices hJ : ∀ y1 : Int32, y1 = (if 3 ≤ (M 27 x1.toNatClampNeg) then 3 else (M 27 x1.toNatClampNeg) + 1) → z_V A (z_hM D cy A o ad) p l e rm_X7_frame s m args below meth c 5 (MQ below (va_Qv post (fun (u' : z_Md) t => z_hM D cy A o ad u' t.heap) A) args s 0 0 A) 0 0 M 102 [(0, va_rf (some o)), (1, .int x1), (2, .int x2)] [.int y1] from by
    refine z_icmp_ge S 101 dX7_frame_87 (by decide) (fun c6 => ?_) (fun c6 => ?_)
    · refine z_iconst (v := 3) S dX7_frame_101 (by decide) ?_
      exact hJ _ (by rw [if_pos c6])
    · have hob := hob c6
      refine z_aload_n (x := some o) S 0 dX7_frame_90 rfl rfl ?_
      refine zm_g_80 S hE dX7_frame_91 ?_
      refine z_iload_n S 1 dX7_frame_94 rfl rfl ?_
      have hi7 := hob
      refine z_mald (j := 27) S hE rfl rfl hi7 dX7_frame_95 ?_
      refine z_iconst (v := 1) S dX7_frame_96 (by decide) ?_
      refine z_iadd S dX7_frame_97 ?_
      refine z_goto S 102 dX7_frame_98 (by decide) ?_
      exact hJ _ (by rw [if_neg c6])
  intro y1 ey1
  have hw := hw y1 ey1
  refine z_istore_n S [(3, .int y1), (0, va_rf (some o)), (1, .int x1), (2, .int x2)] dX7_frame_102 rfl (by decide) rfl ?_
  refine z_lv (lv' := [(0, va_rf (some o)), (1, .int x1), (2, .int x2), (3, .int y1)]) [1, 2, 3, 0] rfl ?_
  refine z_aload_n (x := some o) S 0 dX7_frame_103 rfl rfl ?_
  refine zm_g_80 S hE dX7_frame_104 ?_
  refine z_iload_n S 1 dX7_frame_107 rfl rfl ?_
  refine z_iload_n S 2 dX7_frame_108 rfl rfl ?_
  suffices hJ : ∀ y2 : Int32, y2 = (if x2 = 0 then 0 else y1) → z_V A (z_hM D cy A o ad) p l e rm_X7_frame s m args below meth c 5 (MQ below (va_Qv post (fun (u' : z_Md) t => z_hM D cy A o ad u' t.heap) A) args s 0 0 A) 0 0 M 117 [(0, va_rf (some o)), (1, .int x1)] [.int y2, .int x1, .ref (ad 27)] from by
    refine z_if_eq S 116 dX7_frame_109 (by decide) (fun c5 => ?_) (fun c5 => ?_)
    · refine z_iconst (v := 0) S dX7_frame_116 (by decide) ?_
      refine z_lv (lv' := [(0, va_rf (some o)), (1, .int x1)]) [0, 1] rfl ?_
      exact hJ _ (by rw [if_pos c5])
    · refine z_iload_n S 3 dX7_frame_112 rfl rfl ?_
      refine z_goto S 117 dX7_frame_113 (by decide) ?_
      refine z_lv (lv' := [(0, va_rf (some o)), (1, .int x1)]) [0, 1] rfl ?_
      exact hJ _ (by rw [if_neg c5])
  intro y2 ey2
  have hw := hw y2 ey2
  obtain ⟨hi4, hw⟩ := hw
  refine z_mast (j := 27) S hE rfl rfl hi4 dX7_frame_117 ?_
  refine z_aload_n (x := some o) S 0 dX7_frame_118 rfl rfl ?_
  refine zm_g_74 S hE dX7_frame_119 ?_
  refine z_iload_n S 1 dX7_frame_122 rfl rfl ?_
  refine z_iconst (v := 0) S dX7_frame_123 (by decide) ?_
  obtain ⟨hi3, hw⟩ := hw
  refine z_mast (j := 25) S hE rfl rfl hi3 dX7_frame_124 ?_
  exact z_vret S hr hlk dX7_frame_125 (Nat.le_refl 0) (Nat.le_refl 0) hw
set_option maxRecDepth 20000 in
theorem mb_X7_frame_75 {p : Program} {l : Launch} {e : Env} {s : State} {m : MethodId} {args : Array Value} {below : List Frame} {meth : Method} {c : Code} {D : va_G} {cy : Nat → ClassId} {A : Nat → Prop} {o : Nat} {ad : Nat → Nat} (S : CallFix p m c cX7_frame 5 s args z_T RX7) (hlk : meth.locks = false) (hr : meth.sig.returnType = none) (hE : z_EM D cy s) {post : z_Md → Prop}  (M : z_Md) (x1 : Int32) (x2 : Int32) (hw : w_X7_frame_75 post M x1 x2) : z_V A (z_hM D cy A o ad) p l e rm_X7_frame s m args below meth c 5 (MQ below (va_Qv post (fun (u' : z_Md) t => z_hM D cy A o ad u' t.heap) A) args s 0 0 A) 0 0 M 75 [(0, va_rf (some o)), (1, .int x1), (2, .int x2)] [] := by
  refine z_aload_n (x := some o) S 0 dX7_frame_75 rfl rfl ?_
  refine z_iload_n S 1 dX7_frame_76 rfl rfl ?_
  refine z_callVv (As := [.int x1]) (st := []) S (z_EMok D cy A) hE (me_X7_codeFrame l D cy A o ad _ M x1 hw) gV_X7_158 hdV_X7_codeFrame ⟨Nat.le_of_ble_eq_true rfl, Nat.le_of_ble_eq_true rfl⟩ rfl rfl (z_recvM hE) (fun _ h => h) (fun _ _ _ _ h => h) rfl (Nat.le_trans z_s0 (by decide)) dX7_frame_77 ⟨Nat.le_of_ble_eq_true rfl, Nat.le_of_ble_eq_true rfl⟩ rfl (fun M1 hw => ?_)
  exact mb_X7_frame_80 S hlk hr hE M1 x1 x2 hw
set_option maxRecDepth 20000 in
theorem mb_X7_frame_4 {p : Program} {l : Launch} {e : Env} {s : State} {m : MethodId} {args : Array Value} {below : List Frame} {meth : Method} {c : Code} {D : va_G} {cy : Nat → ClassId} {A : Nat → Prop} {o : Nat} {ad : Nat → Nat} (S : CallFix p m c cX7_frame 5 s args z_T RX7) (hlk : meth.locks = false) (hr : meth.sig.returnType = none) (hE : z_EM D cy s) {post : z_Md → Prop}  : ∀ (n : Nat) (M : z_Md) (x1 : Int32) (x2 : Int32) (x3 : Int32), w_X7_frame_4 post n M x1 x2 x3 → z_V A (z_hM D cy A o ad) p l e rm_X7_frame s m args below meth c 5 (MQ below (va_Qv post (fun (u' : z_Md) t => z_hM D cy A o ad u' t.heap) A) args s 0 0 A) 0 0 M 4 [(0, va_rf (some o)), (1, .int x1), (2, .int x2), (3, .int x3)] [] := by
  intro n
  induction n with
  | zero => intro M x1 x2 x3 hw; exact hw.elim
  | succ n ih =>
    intro M x1 x2 x3 hw
    refine z_iload_n S 3 dX7_frame_4 rfl rfl ?_
    refine z_bipush (v := 8) S dX7_frame_5 (by decide) ?_
    refine z_icmp_ge S 53 dX7_frame_7 (by decide) (fun c1 => ?_) (fun c1 => ?_)
    · have hw := hw.1 c1
      refine z_iload_n S 2 dX7_frame_53 rfl rfl ?_
      refine z_if_eq S 75 dX7_frame_54 (by decide) (fun c2 => ?_) (fun c2 => ?_)
      · have hw := hw.1 c2
        refine z_lv (lv' := [(0, va_rf (some o)), (1, .int x1), (2, .int x2)]) [0, 1, 2] rfl ?_
        exact mb_X7_frame_75 S hlk hr hE M x1 x2 hw
      · have hw := hw.2 c2
        refine z_aload_n (x := some o) S 0 dX7_frame_57 rfl rfl ?_
        refine zm_g_80 S hE dX7_frame_58 ?_
        refine z_iload_n S 1 dX7_frame_61 rfl rfl ?_
        obtain ⟨hi6, hw⟩ := hw
        refine z_mald (j := 27) S hE rfl rfl hi6 dX7_frame_62 ?_
        refine z_iconst (v := 2) S dX7_frame_63 (by decide) ?_
        refine z_icmp_lt S 75 dX7_frame_64 (by decide) (fun c3 => ?_) (fun c3 => ?_)
        · have hw := hw.1 c3
          refine z_lv (lv' := [(0, va_rf (some o)), (1, .int x1), (2, .int x2)]) [0, 1, 2] rfl ?_
          exact mb_X7_frame_75 S hlk hr hE M x1 x2 hw
        · have hw := hw.2 c3
          refine z_aload_n (x := some o) S 0 dX7_frame_67 rfl rfl ?_
          refine z_iload_n S 1 dX7_frame_68 rfl rfl ?_
          refine z_callVv (As := [.int x1]) (st := []) S (z_EMok D cy A) hE (me_X7_growGap l D cy A o ad _ M x1 hw) gV_X7_155 hdV_X7_growGap ⟨Nat.le_of_ble_eq_true rfl, Nat.le_of_ble_eq_true rfl⟩ rfl rfl (z_recvM hE) (fun _ h => h) (fun _ _ _ _ h => h) rfl (Nat.le_trans z_s0 (by decide)) dX7_frame_69 ⟨Nat.le_of_ble_eq_true rfl, Nat.le_of_ble_eq_true rfl⟩ rfl (fun M4 hw => ?_)
          refine z_goto S 80 dX7_frame_72 (by decide) ?_
          refine z_lv (lv' := [(0, va_rf (some o)), (1, .int x1), (2, .int x2)]) [0, 1, 2] rfl ?_
          exact mb_X7_frame_80 S hlk hr hE M4 x1 x2 hw
    · have hw := hw.2 c1
      refine z_aload_n (x := some o) S 0 dX7_frame_10 rfl rfl ?_
      refine zm_g_77 S hE dX7_frame_11 ?_
      refine z_bipush (v := 8) S dX7_frame_14 (by decide) ?_
      refine z_iload_n S 1 dX7_frame_16 rfl rfl ?_
      refine z_imul S dX7_frame_17 ?_
      refine z_iload_n S 3 dX7_frame_18 rfl rfl ?_
      refine z_iadd S dX7_frame_19 ?_
      obtain ⟨hi12, hw⟩ := hw
      refine z_mald (j := 26) S hE rfl rfl hi12 dX7_frame_20 ?_
      refine z_top (fun x4_7 ex4_7 => ?_)
      have hw := hw x4_7 ex4_7
      refine z_istore S [(4, .int x4_7), (0, va_rf (some o)), (1, .int x1), (2, .int x2), (3, .int x3)] dX7_frame_21 (by decide) rfl ?_
      refine z_lv (lv' := [(0, va_rf (some o)), (1, .int x1), (2, .int x2), (3, .int x3), (4, .int x4_7)]) [1, 2, 3, 4, 0] rfl ?_
      refine z_iload_n S 2 dX7_frame_23 rfl rfl ?_
      suffices hJ : ∀ y8 : Int32, y8 = (if x2 = 0 then 0 else (if x4_7 < (-48) then 0 else (if 48 < x4_7 then 0 else 1))) → z_V A (z_hM D cy A o ad) p l e rm_X7_frame s m args below meth c 5 (MQ below (va_Qv post (fun (u' : z_Md) t => z_hM D cy A o ad u' t.heap) A) args s 0 0 A) 0 0 M 46 [(0, va_rf (some o)), (1, .int x1), (3, .int x3)] [.int y8] from by
        refine z_if_eq S 45 dX7_frame_24 (by decide) (fun c9 => ?_) (fun c9 => ?_)
        · refine z_iconst (v := 0) S dX7_frame_45 (by decide) ?_
          refine z_lv (lv' := [(0, va_rf (some o)), (1, .int x1), (3, .int x3)]) [0, 1, 3] rfl ?_
          exact hJ _ (by rw [if_pos c9])
        · refine z_iload S 4 dX7_frame_27 rfl ?_
          refine z_bipush (v := (-48)) S dX7_frame_29 (by decide) ?_
          refine z_icmp_lt S 45 dX7_frame_31 (by decide) (fun c10 => ?_) (fun c10 => ?_)
          · refine z_iconst (v := 0) S dX7_frame_45 (by decide) ?_
            refine z_lv (lv' := [(0, va_rf (some o)), (1, .int x1), (3, .int x3)]) [0, 1, 3] rfl ?_
            exact hJ _ (by rw [if_neg c9, if_pos c10])
          · refine z_iload S 4 dX7_frame_34 rfl ?_
            refine z_bipush (v := 48) S dX7_frame_36 (by decide) ?_
            refine z_icmp_gt S 45 dX7_frame_38 (by decide) (fun c11 => ?_) (fun c11 => ?_)
            · refine z_iconst (v := 0) S dX7_frame_45 (by decide) ?_
              refine z_lv (lv' := [(0, va_rf (some o)), (1, .int x1), (3, .int x3)]) [0, 1, 3] rfl ?_
              exact hJ _ (by rw [if_neg c9, if_neg c10, if_pos c11])
            · refine z_iconst (v := 1) S dX7_frame_41 (by decide) ?_
              refine z_goto S 46 dX7_frame_42 (by decide) ?_
              refine z_lv (lv' := [(0, va_rf (some o)), (1, .int x1), (3, .int x3)]) [0, 1, 3] rfl ?_
              exact hJ _ (by rw [if_neg c9, if_neg c10, if_neg c11])
      intro y8 ey8
      have hw := hw y8 ey8
      refine z_istore_n S [(2, .int y8), (0, va_rf (some o)), (1, .int x1), (3, .int x3)] dX7_frame_46 rfl (by decide) rfl ?_
      refine z_lv (lv' := [(0, va_rf (some o)), (1, .int x1), (2, .int y8), (3, .int x3)]) [1, 2, 0, 3] rfl ?_
      refine z_iinc (v := x3 + 1) (pl := 3) S [(3, .int (x3 + 1)), (0, va_rf (some o)), (1, .int x1), (2, .int y8)] dX7_frame_47 rfl rfl (by decide) rfl ?_
      refine z_lv (lv' := [(0, va_rf (some o)), (1, .int x1), (2, .int y8), (3, .int (x3 + 1))]) [1, 2, 3, 0] rfl ?_
      refine z_goto S 4 dX7_frame_50 (by decide) ?_
      exact ih M x1 y8 (x3 + 1) hw
set_option maxRecDepth 20000 in
theorem mb_X7_frame {p : Program} {l : Launch} {e : Env} {s : State} {m : MethodId} {args : Array Value} {below : List Frame} {meth : Method} {c : Code} {D : va_G} {cy : Nat → ClassId} {A : Nat → Prop} {o : Nat} {ad : Nat → Nat} (S : CallFix p m c cX7_frame 5 s args z_T RX7) (hlk : meth.locks = false) (hr : meth.sig.returnType = none) (hE : z_EM D cy s) {post : z_Md → Prop}  (M : z_Md) (x1 : Int32) (hw : w_X7_frame post M x1) : z_V A (z_hM D cy A o ad) p l e rm_X7_frame s m args below meth c 5 (MQ below (va_Qv post (fun (u' : z_Md) t => z_hM D cy A o ad u' t.heap) A) args s 0 0 A) 0 0 M 0 [(0, va_rf (some o)), (1, .int x1)] [] := by
  refine z_iconst (v := 1) S dX7_frame_0 (by decide) ?_
  refine z_istore_n S [(2, .int 1), (0, va_rf (some o)), (1, .int x1)] dX7_frame_1 rfl (by decide) rfl ?_
  refine z_lv (lv' := [(0, va_rf (some o)), (1, .int x1), (2, .int 1)]) [1, 2, 0] rfl ?_
  refine z_iconst (v := 0) S dX7_frame_2 (by decide) ?_
  refine z_istore_n S [(3, .int 0), (0, va_rf (some o)), (1, .int x1), (2, .int 1)] dX7_frame_3 rfl (by decide) rfl ?_
  refine z_lv (lv' := [(0, va_rf (some o)), (1, .int x1), (2, .int 1), (3, .int 0)]) [1, 2, 3, 0] rfl ?_
  obtain ⟨n0, hw⟩ := hw
  exact mb_X7_frame_4 S hlk hr hE n0 M x1 1 0 hw
theorem me_X7_frame (l : Launch) (D : va_G) (cy : Nat → ClassId) (A : Nat → Prop) (o : Nat) (ad : Nat → Nat) (post : z_Md → Prop) (M : z_Md) (x1 : Int32) (hw : w_X7_frame post M x1) : z_Mv l yX7_frame (Cond.code yX7_frame cX7_frame 5 none :: z_T) rm_X7_frame [.ref o, .int x1] (z_EM D cy) (z_hM D cy A o ad) M post 0 0 A :=
  z_met (by decide) (Nat.le_of_ble_eq_true rfl) (fun p e s m args below meth c S hlk hr hnm hE => mb_X7_frame S hlk hr hE M x1 hw)
abbrev rm_X7_sample : Room := { frames := 6, cells := 0, slots := 0, locals := 142 }
def w_X7_sample_118 (post : Int32 → z_Md → Prop) (M : z_Md) (x1 : Int32) : Prop := (vp_in x1 3 ∧ (narrow .boolean (.int (M 24 x1.toNatClampNeg)) = .int (M 24 x1.toNatClampNeg) ∧ (post (M 24 x1.toNatClampNeg) M)))
def w_X7_sample (post : Int32 → z_Md → Prop) (M : z_Md) (x1 : Int32) (x2 : Int32) : Prop := (w_X7_isLine (fun r2 M1 => ((¬ r2 = 0 → vp_in x1 3) ∧ (∀ y3 : Int32, y3 = (if r2 = 0 then 1 else (if (M1 20 x1.toNatClampNeg) = 0 then 2 else 0)) → ((((z_up M1 0 0 y3) 0 0) ≤ 0 → (vp_in x1 3 ∧ ((((z_up M1 0 0 y3) 24 x1.toNatClampNeg) = 0 → (vp_in x1 3 ∧ (∀ y6 : Int32, y6 = (if (-32768) ≤ x2 then (if x2 ≤ 32767 then x2 else 32767) else (-32768)) → (vp_in ((8 * x1) + ((z_up M1 0 0 y3) 25 x1.toNatClampNeg)) 24 ∧ (vp_in x1 3 ∧ (vp_in x1 3 ∧ (vp_in x1 3 ∧ ((¬ ((z_up (z_up (z_up M1 0 0 y3) 26 ((8 * x1) + ((z_up M1 0 0 y3) 25 x1.toNatClampNeg)).toNatClampNeg y6) 25 x1.toNatClampNeg (((z_up (z_up M1 0 0 y3) 26 ((8 * x1) + ((z_up M1 0 0 y3) 25 x1.toNatClampNeg)).toNatClampNeg y6) 25 x1.toNatClampNeg) + 1)) 25 x1.toNatClampNeg) = 8 → (w_X7_sample_118 post (z_up (z_up (z_up M1 0 0 y3) 26 ((8 * x1) + ((z_up M1 0 0 y3) 25 x1.toNatClampNeg)).toNatClampNeg y6) 25 x1.toNatClampNeg (((z_up (z_up M1 0 0 y3) 26 ((8 * x1) + ((z_up M1 0 0 y3) 25 x1.toNatClampNeg)).toNatClampNeg y6) 25 x1.toNatClampNeg) + 1)) x1)) ∧ (((z_up (z_up (z_up M1 0 0 y3) 26 ((8 * x1) + ((z_up M1 0 0 y3) 25 x1.toNatClampNeg)).toNatClampNeg y6) 25 x1.toNatClampNeg (((z_up (z_up M1 0 0 y3) 26 ((8 * x1) + ((z_up M1 0 0 y3) 25 x1.toNatClampNeg)).toNatClampNeg y6) 25 x1.toNatClampNeg) + 1)) 25 x1.toNatClampNeg) = 8 → (w_X7_frame (fun M8 => (w_X7_sample_118 post M8 x1)) (z_up (z_up (z_up M1 0 0 y3) 26 ((8 * x1) + ((z_up M1 0 0 y3) 25 x1.toNatClampNeg)).toNatClampNeg y6) 25 x1.toNatClampNeg (((z_up (z_up M1 0 0 y3) 26 ((8 * x1) + ((z_up M1 0 0 y3) 25 x1.toNatClampNeg)).toNatClampNeg y6) 25 x1.toNatClampNeg) + 1)) x1)))))))))) ∧ (¬ ((z_up M1 0 0 y3) 24 x1.toNatClampNeg) = 0 → (post 1 (z_up M1 0 0 y3)))))) ∧ (¬ ((z_up M1 0 0 y3) 0 0) ≤ 0 → (post 0 (z_up M1 0 0 y3))))))) M x1)
set_option maxRecDepth 20000 in
theorem mb_X7_sample_118 {p : Program} {l : Launch} {e : Env} {s : State} {m : MethodId} {args : Array Value} {below : List Frame} {meth : Method} {c : Code} {D : va_G} {cy : Nat → ClassId} {A : Nat → Prop} {o : Nat} {ad : Nat → Nat} (S : CallFix p m c cX7_sample 3 s args z_T RX7) (hlk : meth.locks = false) (hr : meth.sig.returnType = some .boolean) (hE : z_EM D cy s) {post : Int32 → z_Md → Prop}  (M : z_Md) (x1 : Int32) (hw : w_X7_sample_118 post M x1) : z_V A (z_hM D cy A o ad) p l e rm_X7_sample s m args below meth c 3 (MQ below (va_Qi post (fun (u' : z_Md) t => z_hM D cy A o ad u' t.heap) A) args s 0 0 A) 0 0 M 118 [(0, va_rf (some o)), (1, .int x1)] [] := by
  refine z_aload_n (x := some o) S 0 dX7_sample_118 rfl rfl ?_
  refine zm_g_71 S hE dX7_sample_119 ?_
  refine z_iload_n S 1 dX7_sample_122 rfl rfl ?_
  obtain ⟨hi1, hw⟩ := hw
  refine z_mzld (j := 24) S hE rfl rfl hi1 dX7_sample_123 ?_
  exact z_zret S hr hlk dX7_sample_124 (Nat.le_refl 0) (Nat.le_refl 0) hw.1 hw.2
set_option maxRecDepth 20000 in
theorem mb_X7_sample {p : Program} {l : Launch} {e : Env} {s : State} {m : MethodId} {args : Array Value} {below : List Frame} {meth : Method} {c : Code} {D : va_G} {cy : Nat → ClassId} {A : Nat → Prop} {o : Nat} {ad : Nat → Nat} (S : CallFix p m c cX7_sample 3 s args z_T RX7) (hlk : meth.locks = false) (hr : meth.sig.returnType = some .boolean) (hE : z_EM D cy s) {post : Int32 → z_Md → Prop}  (M : z_Md) (x1 : Int32) (x2 : Int32) (hw : w_X7_sample post M x1 x2) : z_V A (z_hM D cy A o ad) p l e rm_X7_sample s m args below meth c 3 (MQ below (va_Qi post (fun (u' : z_Md) t => z_hM D cy A o ad u' t.heap) A) args s 0 0 A) 0 0 M 0 [(0, va_rf (some o)), (1, .int x1), (2, .int x2)] [] := by
  refine z_aload_n (x := some o) S 0 dX7_sample_0 rfl rfl ?_
  refine z_iload_n S 1 dX7_sample_1 rfl rfl ?_
  refine z_callSi (As := [.int x1]) (st := [va_rf (some o)]) S (z_EMok D cy A) hE (me_X7_isLine l D cy A o ad _ M x1 hw) gS_X7_127 hdS_X7_isLine ⟨Nat.le_of_ble_eq_true rfl, Nat.le_of_ble_eq_true rfl⟩ rfl rfl (fun _ h => h) (fun _ _ _ _ h => h) rfl (Nat.le_trans (z_sq z_s0) (by decide)) dX7_sample_2 ⟨Nat.le_of_ble_eq_true rfl, Nat.le_of_ble_eq_true rfl⟩ rfl (fun r2 M1 hw => ?_)
  obtain ⟨hob, hw⟩ := hw
  suffices hJ : ∀ y3 : Int32, y3 = (if r2 = 0 then 1 else (if (M1 20 x1.toNatClampNeg) = 0 then 2 else 0)) → z_V A (z_hM D cy A o ad) p l e rm_X7_sample s m args below meth c 3 (MQ below (va_Qi post (fun (u' : z_Md) t => z_hM D cy A o ad u' t.heap) A) args s 0 0 A) 0 0 M1 26 [(0, va_rf (some o)), (1, .int x1), (2, .int x2)] [.int y3, va_rf (some o)] from by
    refine z_if_ne S 12 dX7_sample_5 (by decide) (fun c18 => ?_) (fun c18 => ?_)
    · have hob := hob c18
      refine z_aload_n (x := some o) S 0 dX7_sample_12 rfl rfl ?_
      refine zm_g_59 S hE dX7_sample_13 ?_
      refine z_iload_n S 1 dX7_sample_16 rfl rfl ?_
      have hi19 := hob
      refine z_mzld (j := 20) S hE rfl rfl hi19 dX7_sample_17 ?_
      refine z_if_ne S 25 dX7_sample_18 (by decide) (fun c20 => ?_) (fun c20 => ?_)
      · refine z_iconst (v := 0) S dX7_sample_25 (by decide) ?_
        exact hJ _ (by rw [if_neg c18, if_neg c20])
      · refine z_iconst (v := 2) S dX7_sample_21 (by decide) ?_
        refine z_goto S 26 dX7_sample_22 (by decide) ?_
        exact hJ _ (by rw [if_neg c18, if_pos c20])
    · refine z_iconst (v := 1) S dX7_sample_8 (by decide) ?_
      refine z_goto S 26 dX7_sample_9 (by decide) ?_
      exact hJ _ (by rw [if_pos c18])
  intro y3 ey3
  have hw := hw y3 ey3
  refine zm_p_89 S hE dX7_sample_26 ?_
  refine z_aload_n (x := some o) S 0 dX7_sample_29 rfl rfl ?_
  refine zm_g_89 S hE dX7_sample_30 ?_
  refine z_if_le S 38 dX7_sample_33 (by decide) (fun c4 => ?_) (fun c4 => ?_)
  · have hw := hw.1 c4
    refine z_aload_n (x := some o) S 0 dX7_sample_38 rfl rfl ?_
    refine zm_g_71 S hE dX7_sample_39 ?_
    refine z_iload_n S 1 dX7_sample_42 rfl rfl ?_
    obtain ⟨hi17, hw⟩ := hw
    refine z_mzld (j := 24) S hE rfl rfl hi17 dX7_sample_43 ?_
    refine z_if_eq S 49 dX7_sample_44 (by decide) (fun c5 => ?_) (fun c5 => ?_)
    · have hw := hw.1 c5
      refine z_aload_n (x := some o) S 0 dX7_sample_49 rfl rfl ?_
      refine zm_g_77 S hE dX7_sample_50 ?_
      refine z_bipush (v := 8) S dX7_sample_53 (by decide) ?_
      refine z_iload_n S 1 dX7_sample_55 rfl rfl ?_
      refine z_imul S dX7_sample_56 ?_
      refine z_aload_n (x := some o) S 0 dX7_sample_57 rfl rfl ?_
      refine zm_g_74 S hE dX7_sample_58 ?_
      refine z_iload_n S 1 dX7_sample_61 rfl rfl ?_
      obtain ⟨hi16, hw⟩ := hw
      refine z_mald (j := 25) S hE rfl rfl hi16 dX7_sample_62 ?_
      refine z_iadd S dX7_sample_63 ?_
      refine z_iload_n S 2 dX7_sample_64 rfl rfl ?_
      refine z_sipush (v := (-32768)) S dX7_sample_65 (by decide) ?_
      suffices hJ : ∀ y6 : Int32, y6 = (if (-32768) ≤ x2 then (if x2 ≤ 32767 then x2 else 32767) else (-32768)) → z_V A (z_hM D cy A o ad) p l e rm_X7_sample s m args below meth c 3 (MQ below (va_Qi post (fun (u' : z_Md) t => z_hM D cy A o ad u' t.heap) A) args s 0 0 A) 0 0 (z_up M1 0 0 y3) 91 [(0, va_rf (some o)), (1, .int x1)] [.int y6, .int ((8 * x1) + ((z_up M1 0 0 y3) 25 x1.toNatClampNeg)), .ref (ad 26)] from by
        refine z_icmp_ge S 77 dX7_sample_68 (by decide) (fun c14 => ?_) (fun c14 => ?_)
        · refine z_iload_n S 2 dX7_sample_77 rfl rfl ?_
          refine z_sipush (v := 32767) S dX7_sample_78 (by decide) ?_
          refine z_icmp_le S 90 dX7_sample_81 (by decide) (fun c15 => ?_) (fun c15 => ?_)
          · refine z_iload_n S 2 dX7_sample_90 rfl rfl ?_
            refine z_lv (lv' := [(0, va_rf (some o)), (1, .int x1)]) [0, 1] rfl ?_
            exact hJ _ (by rw [if_pos c14, if_pos c15])
          · refine z_sipush (v := 32767) S dX7_sample_84 (by decide) ?_
            refine z_goto S 91 dX7_sample_87 (by decide) ?_
            refine z_lv (lv' := [(0, va_rf (some o)), (1, .int x1)]) [0, 1] rfl ?_
            exact hJ _ (by rw [if_pos c14, if_neg c15])
        · refine z_sipush (v := (-32768)) S dX7_sample_71 (by decide) ?_
          refine z_goto S 91 dX7_sample_74 (by decide) ?_
          refine z_lv (lv' := [(0, va_rf (some o)), (1, .int x1)]) [0, 1] rfl ?_
          exact hJ _ (by rw [if_neg c14])
      intro y6 ey6
      have hw := hw y6 ey6
      obtain ⟨hi13, hw⟩ := hw
      refine z_mast (j := 26) S hE rfl rfl hi13 dX7_sample_91 ?_
      refine z_aload_n (x := some o) S 0 dX7_sample_92 rfl rfl ?_
      refine zm_g_74 S hE dX7_sample_93 ?_
      refine z_iload_n S 1 dX7_sample_96 rfl rfl ?_
      refine z_dup2 S dX7_sample_97 rfl rfl ?_
      obtain ⟨hi12, hw⟩ := hw
      refine z_mald (j := 25) S hE rfl rfl hi12 dX7_sample_98 ?_
      refine z_iconst (v := 1) S dX7_sample_99 (by decide) ?_
      refine z_iadd S dX7_sample_100 ?_
      obtain ⟨hi11, hw⟩ := hw
      refine z_mast (j := 25) S hE rfl rfl hi11 dX7_sample_101 ?_
      refine z_aload_n (x := some o) S 0 dX7_sample_102 rfl rfl ?_
      refine zm_g_74 S hE dX7_sample_103 ?_
      refine z_iload_n S 1 dX7_sample_106 rfl rfl ?_
      obtain ⟨hi10, hw⟩ := hw
      refine z_mald (j := 25) S hE rfl rfl hi10 dX7_sample_107 ?_
      refine z_bipush (v := 8) S dX7_sample_108 (by decide) ?_
      refine z_icmp_ne S 118 dX7_sample_110 (by decide) (fun c7 => ?_) (fun c7 => ?_)
      · have hw := hw.1 c7
        exact mb_X7_sample_118 S hlk hr hE (z_up (z_up (z_up M1 0 0 y3) 26 ((8 * x1) + ((z_up M1 0 0 y3) 25 x1.toNatClampNeg)).toNatClampNeg y6) 25 x1.toNatClampNeg (((z_up (z_up M1 0 0 y3) 26 ((8 * x1) + ((z_up M1 0 0 y3) 25 x1.toNatClampNeg)).toNatClampNeg y6) 25 x1.toNatClampNeg) + 1)) x1 hw
      · have hw := hw.2 c7
        refine z_aload_n (x := some o) S 0 dX7_sample_113 rfl rfl ?_
        refine z_iload_n S 1 dX7_sample_114 rfl rfl ?_
        refine z_callVv (As := [.int x1]) (st := []) S (z_EMok D cy A) hE (me_X7_frame l D cy A o ad _ (z_up (z_up (z_up M1 0 0 y3) 26 ((8 * x1) + ((z_up M1 0 0 y3) 25 x1.toNatClampNeg)).toNatClampNeg y6) 25 x1.toNatClampNeg (((z_up (z_up M1 0 0 y3) 26 ((8 * x1) + ((z_up M1 0 0 y3) 25 x1.toNatClampNeg)).toNatClampNeg y6) 25 x1.toNatClampNeg) + 1)) x1 hw) gV_X7_161 hdV_X7_frame ⟨Nat.le_of_ble_eq_true rfl, Nat.le_of_ble_eq_true rfl⟩ rfl rfl (z_recvM hE) (fun _ h => h) (fun _ _ _ _ h => h) rfl (Nat.le_trans z_s0 (by decide)) dX7_sample_115 ⟨Nat.le_of_ble_eq_true rfl, Nat.le_of_ble_eq_true rfl⟩ rfl (fun M8 hw => ?_)
        exact mb_X7_sample_118 S hlk hr hE M8 x1 hw
    · have hw := hw.2 c5
      refine z_iconst (v := 1) S dX7_sample_47 (by decide) ?_
      exact z_zret S hr hlk dX7_sample_48 (Nat.le_refl 0) (Nat.le_refl 0) rfl hw
  · have hw := hw.2 c4
    refine z_iconst (v := 0) S dX7_sample_36 (by decide) ?_
    exact z_zret S hr hlk dX7_sample_37 (Nat.le_refl 0) (Nat.le_refl 0) rfl hw
theorem me_X7_sample (l : Launch) (D : va_G) (cy : Nat → ClassId) (A : Nat → Prop) (o : Nat) (ad : Nat → Nat) (post : Int32 → z_Md → Prop) (M : z_Md) (x1 : Int32) (x2 : Int32) (hw : w_X7_sample post M x1 x2) : z_Mi l yX7_sample (Cond.code yX7_sample cX7_sample 3 (some .boolean) :: z_T) rm_X7_sample [.ref o, .int x1, .int x2] (z_EM D cy) (z_hM D cy A o ad) M post 0 0 A :=
  z_met (by decide) (Nat.le_of_ble_eq_true rfl) (fun p e s m args below meth c S hlk hr hnm hE => mb_X7_sample S hlk hr hE M x1 x2 hw)
abbrev rm_X7_add : Room := { frames := 0, cells := 0, slots := 0, locals := 0 }
def w_X7_add (post : Int32 → z_Md → Prop) (M : z_Md) (x1 : Int32) (x2 : Int32) (x3 : Int32) : Prop := (vp_in (M 13 0) 16 ∧ (vp_in ((z_up M 15 (M 13 0).toNatClampNeg (M 14 0)) 13 0) 16 ∧ (vp_in ((z_up (z_up M 15 (M 13 0).toNatClampNeg (M 14 0)) 16 ((z_up M 15 (M 13 0).toNatClampNeg (M 14 0)) 13 0).toNatClampNeg x1) 13 0) 16 ∧ (vp_in ((z_up (z_up (z_up M 15 (M 13 0).toNatClampNeg (M 14 0)) 16 ((z_up M 15 (M 13 0).toNatClampNeg (M 14 0)) 13 0).toNatClampNeg x1) 17 ((z_up (z_up M 15 (M 13 0).toNatClampNeg (M 14 0)) 16 ((z_up M 15 (M 13 0).toNatClampNeg (M 14 0)) 13 0).toNatClampNeg x1) 13 0).toNatClampNeg 0) 13 0) 16 ∧ (vp_in ((z_up (z_up (z_up (z_up M 15 (M 13 0).toNatClampNeg (M 14 0)) 16 ((z_up M 15 (M 13 0).toNatClampNeg (M 14 0)) 13 0).toNatClampNeg x1) 17 ((z_up (z_up M 15 (M 13 0).toNatClampNeg (M 14 0)) 16 ((z_up M 15 (M 13 0).toNatClampNeg (M 14 0)) 13 0).toNatClampNeg x1) 13 0).toNatClampNeg 0) 18 ((z_up (z_up (z_up M 15 (M 13 0).toNatClampNeg (M 14 0)) 16 ((z_up M 15 (M 13 0).toNatClampNeg (M 14 0)) 13 0).toNatClampNeg x1) 17 ((z_up (z_up M 15 (M 13 0).toNatClampNeg (M 14 0)) 16 ((z_up M 15 (M 13 0).toNatClampNeg (M 14 0)) 13 0).toNatClampNeg x1) 13 0).toNatClampNeg 0) 13 0).toNatClampNeg x2) 13 0) 16 ∧ (post (((z_up (z_up (z_up (z_up (z_up (z_up (z_up M 15 (M 13 0).toNatClampNeg (M 14 0)) 16 ((z_up M 15 (M 13 0).toNatClampNeg (M 14 0)) 13 0).toNatClampNeg x1) 17 ((z_up (z_up M 15 (M 13 0).toNatClampNeg (M 14 0)) 16 ((z_up M 15 (M 13 0).toNatClampNeg (M 14 0)) 13 0).toNatClampNeg x1) 13 0).toNatClampNeg 0) 18 ((z_up (z_up (z_up M 15 (M 13 0).toNatClampNeg (M 14 0)) 16 ((z_up M 15 (M 13 0).toNatClampNeg (M 14 0)) 13 0).toNatClampNeg x1) 17 ((z_up (z_up M 15 (M 13 0).toNatClampNeg (M 14 0)) 16 ((z_up M 15 (M 13 0).toNatClampNeg (M 14 0)) 13 0).toNatClampNeg x1) 13 0).toNatClampNeg 0) 13 0).toNatClampNeg x2) 19 ((z_up (z_up (z_up (z_up M 15 (M 13 0).toNatClampNeg (M 14 0)) 16 ((z_up M 15 (M 13 0).toNatClampNeg (M 14 0)) 13 0).toNatClampNeg x1) 17 ((z_up (z_up M 15 (M 13 0).toNatClampNeg (M 14 0)) 16 ((z_up M 15 (M 13 0).toNatClampNeg (M 14 0)) 13 0).toNatClampNeg x1) 13 0).toNatClampNeg 0) 18 ((z_up (z_up (z_up M 15 (M 13 0).toNatClampNeg (M 14 0)) 16 ((z_up M 15 (M 13 0).toNatClampNeg (M 14 0)) 13 0).toNatClampNeg x1) 17 ((z_up (z_up M 15 (M 13 0).toNatClampNeg (M 14 0)) 16 ((z_up M 15 (M 13 0).toNatClampNeg (M 14 0)) 13 0).toNatClampNeg x1) 13 0).toNatClampNeg 0) 13 0).toNatClampNeg x2) 13 0).toNatClampNeg x3) 13 0 (((z_up (z_up (z_up (z_up (z_up M 15 (M 13 0).toNatClampNeg (M 14 0)) 16 ((z_up M 15 (M 13 0).toNatClampNeg (M 14 0)) 13 0).toNatClampNeg x1) 17 ((z_up (z_up M 15 (M 13 0).toNatClampNeg (M 14 0)) 16 ((z_up M 15 (M 13 0).toNatClampNeg (M 14 0)) 13 0).toNatClampNeg x1) 13 0).toNatClampNeg 0) 18 ((z_up (z_up (z_up M 15 (M 13 0).toNatClampNeg (M 14 0)) 16 ((z_up M 15 (M 13 0).toNatClampNeg (M 14 0)) 13 0).toNatClampNeg x1) 17 ((z_up (z_up M 15 (M 13 0).toNatClampNeg (M 14 0)) 16 ((z_up M 15 (M 13 0).toNatClampNeg (M 14 0)) 13 0).toNatClampNeg x1) 13 0).toNatClampNeg 0) 13 0).toNatClampNeg x2) 19 ((z_up (z_up (z_up (z_up M 15 (M 13 0).toNatClampNeg (M 14 0)) 16 ((z_up M 15 (M 13 0).toNatClampNeg (M 14 0)) 13 0).toNatClampNeg x1) 17 ((z_up (z_up M 15 (M 13 0).toNatClampNeg (M 14 0)) 16 ((z_up M 15 (M 13 0).toNatClampNeg (M 14 0)) 13 0).toNatClampNeg x1) 13 0).toNatClampNeg 0) 18 ((z_up (z_up (z_up M 15 (M 13 0).toNatClampNeg (M 14 0)) 16 ((z_up M 15 (M 13 0).toNatClampNeg (M 14 0)) 13 0).toNatClampNeg x1) 17 ((z_up (z_up M 15 (M 13 0).toNatClampNeg (M 14 0)) 16 ((z_up M 15 (M 13 0).toNatClampNeg (M 14 0)) 13 0).toNatClampNeg x1) 13 0).toNatClampNeg 0) 13 0).toNatClampNeg x2) 13 0).toNatClampNeg x3) 13 0) + 1)) 14 0 (((z_up (z_up (z_up (z_up (z_up (z_up M 15 (M 13 0).toNatClampNeg (M 14 0)) 16 ((z_up M 15 (M 13 0).toNatClampNeg (M 14 0)) 13 0).toNatClampNeg x1) 17 ((z_up (z_up M 15 (M 13 0).toNatClampNeg (M 14 0)) 16 ((z_up M 15 (M 13 0).toNatClampNeg (M 14 0)) 13 0).toNatClampNeg x1) 13 0).toNatClampNeg 0) 18 ((z_up (z_up (z_up M 15 (M 13 0).toNatClampNeg (M 14 0)) 16 ((z_up M 15 (M 13 0).toNatClampNeg (M 14 0)) 13 0).toNatClampNeg x1) 17 ((z_up (z_up M 15 (M 13 0).toNatClampNeg (M 14 0)) 16 ((z_up M 15 (M 13 0).toNatClampNeg (M 14 0)) 13 0).toNatClampNeg x1) 13 0).toNatClampNeg 0) 13 0).toNatClampNeg x2) 19 ((z_up (z_up (z_up (z_up M 15 (M 13 0).toNatClampNeg (M 14 0)) 16 ((z_up M 15 (M 13 0).toNatClampNeg (M 14 0)) 13 0).toNatClampNeg x1) 17 ((z_up (z_up M 15 (M 13 0).toNatClampNeg (M 14 0)) 16 ((z_up M 15 (M 13 0).toNatClampNeg (M 14 0)) 13 0).toNatClampNeg x1) 13 0).toNatClampNeg 0) 18 ((z_up (z_up (z_up M 15 (M 13 0).toNatClampNeg (M 14 0)) 16 ((z_up M 15 (M 13 0).toNatClampNeg (M 14 0)) 13 0).toNatClampNeg x1) 17 ((z_up (z_up M 15 (M 13 0).toNatClampNeg (M 14 0)) 16 ((z_up M 15 (M 13 0).toNatClampNeg (M 14 0)) 13 0).toNatClampNeg x1) 13 0).toNatClampNeg 0) 13 0).toNatClampNeg x2) 13 0).toNatClampNeg x3) 13 0 (((z_up (z_up (z_up (z_up (z_up M 15 (M 13 0).toNatClampNeg (M 14 0)) 16 ((z_up M 15 (M 13 0).toNatClampNeg (M 14 0)) 13 0).toNatClampNeg x1) 17 ((z_up (z_up M 15 (M 13 0).toNatClampNeg (M 14 0)) 16 ((z_up M 15 (M 13 0).toNatClampNeg (M 14 0)) 13 0).toNatClampNeg x1) 13 0).toNatClampNeg 0) 18 ((z_up (z_up (z_up M 15 (M 13 0).toNatClampNeg (M 14 0)) 16 ((z_up M 15 (M 13 0).toNatClampNeg (M 14 0)) 13 0).toNatClampNeg x1) 17 ((z_up (z_up M 15 (M 13 0).toNatClampNeg (M 14 0)) 16 ((z_up M 15 (M 13 0).toNatClampNeg (M 14 0)) 13 0).toNatClampNeg x1) 13 0).toNatClampNeg 0) 13 0).toNatClampNeg x2) 19 ((z_up (z_up (z_up (z_up M 15 (M 13 0).toNatClampNeg (M 14 0)) 16 ((z_up M 15 (M 13 0).toNatClampNeg (M 14 0)) 13 0).toNatClampNeg x1) 17 ((z_up (z_up M 15 (M 13 0).toNatClampNeg (M 14 0)) 16 ((z_up M 15 (M 13 0).toNatClampNeg (M 14 0)) 13 0).toNatClampNeg x1) 13 0).toNatClampNeg 0) 18 ((z_up (z_up (z_up M 15 (M 13 0).toNatClampNeg (M 14 0)) 16 ((z_up M 15 (M 13 0).toNatClampNeg (M 14 0)) 13 0).toNatClampNeg x1) 17 ((z_up (z_up M 15 (M 13 0).toNatClampNeg (M 14 0)) 16 ((z_up M 15 (M 13 0).toNatClampNeg (M 14 0)) 13 0).toNatClampNeg x1) 13 0).toNatClampNeg 0) 13 0).toNatClampNeg x2) 13 0).toNatClampNeg x3) 13 0) + 1)) 14 0) + 1)) 14 0) - 1) (z_up (z_up (z_up (z_up (z_up (z_up (z_up M 15 (M 13 0).toNatClampNeg (M 14 0)) 16 ((z_up M 15 (M 13 0).toNatClampNeg (M 14 0)) 13 0).toNatClampNeg x1) 17 ((z_up (z_up M 15 (M 13 0).toNatClampNeg (M 14 0)) 16 ((z_up M 15 (M 13 0).toNatClampNeg (M 14 0)) 13 0).toNatClampNeg x1) 13 0).toNatClampNeg 0) 18 ((z_up (z_up (z_up M 15 (M 13 0).toNatClampNeg (M 14 0)) 16 ((z_up M 15 (M 13 0).toNatClampNeg (M 14 0)) 13 0).toNatClampNeg x1) 17 ((z_up (z_up M 15 (M 13 0).toNatClampNeg (M 14 0)) 16 ((z_up M 15 (M 13 0).toNatClampNeg (M 14 0)) 13 0).toNatClampNeg x1) 13 0).toNatClampNeg 0) 13 0).toNatClampNeg x2) 19 ((z_up (z_up (z_up (z_up M 15 (M 13 0).toNatClampNeg (M 14 0)) 16 ((z_up M 15 (M 13 0).toNatClampNeg (M 14 0)) 13 0).toNatClampNeg x1) 17 ((z_up (z_up M 15 (M 13 0).toNatClampNeg (M 14 0)) 16 ((z_up M 15 (M 13 0).toNatClampNeg (M 14 0)) 13 0).toNatClampNeg x1) 13 0).toNatClampNeg 0) 18 ((z_up (z_up (z_up M 15 (M 13 0).toNatClampNeg (M 14 0)) 16 ((z_up M 15 (M 13 0).toNatClampNeg (M 14 0)) 13 0).toNatClampNeg x1) 17 ((z_up (z_up M 15 (M 13 0).toNatClampNeg (M 14 0)) 16 ((z_up M 15 (M 13 0).toNatClampNeg (M 14 0)) 13 0).toNatClampNeg x1) 13 0).toNatClampNeg 0) 13 0).toNatClampNeg x2) 13 0).toNatClampNeg x3) 13 0 (((z_up (z_up (z_up (z_up (z_up M 15 (M 13 0).toNatClampNeg (M 14 0)) 16 ((z_up M 15 (M 13 0).toNatClampNeg (M 14 0)) 13 0).toNatClampNeg x1) 17 ((z_up (z_up M 15 (M 13 0).toNatClampNeg (M 14 0)) 16 ((z_up M 15 (M 13 0).toNatClampNeg (M 14 0)) 13 0).toNatClampNeg x1) 13 0).toNatClampNeg 0) 18 ((z_up (z_up (z_up M 15 (M 13 0).toNatClampNeg (M 14 0)) 16 ((z_up M 15 (M 13 0).toNatClampNeg (M 14 0)) 13 0).toNatClampNeg x1) 17 ((z_up (z_up M 15 (M 13 0).toNatClampNeg (M 14 0)) 16 ((z_up M 15 (M 13 0).toNatClampNeg (M 14 0)) 13 0).toNatClampNeg x1) 13 0).toNatClampNeg 0) 13 0).toNatClampNeg x2) 19 ((z_up (z_up (z_up (z_up M 15 (M 13 0).toNatClampNeg (M 14 0)) 16 ((z_up M 15 (M 13 0).toNatClampNeg (M 14 0)) 13 0).toNatClampNeg x1) 17 ((z_up (z_up M 15 (M 13 0).toNatClampNeg (M 14 0)) 16 ((z_up M 15 (M 13 0).toNatClampNeg (M 14 0)) 13 0).toNatClampNeg x1) 13 0).toNatClampNeg 0) 18 ((z_up (z_up (z_up M 15 (M 13 0).toNatClampNeg (M 14 0)) 16 ((z_up M 15 (M 13 0).toNatClampNeg (M 14 0)) 13 0).toNatClampNeg x1) 17 ((z_up (z_up M 15 (M 13 0).toNatClampNeg (M 14 0)) 16 ((z_up M 15 (M 13 0).toNatClampNeg (M 14 0)) 13 0).toNatClampNeg x1) 13 0).toNatClampNeg 0) 13 0).toNatClampNeg x2) 13 0).toNatClampNeg x3) 13 0) + 1)) 14 0 (((z_up (z_up (z_up (z_up (z_up (z_up M 15 (M 13 0).toNatClampNeg (M 14 0)) 16 ((z_up M 15 (M 13 0).toNatClampNeg (M 14 0)) 13 0).toNatClampNeg x1) 17 ((z_up (z_up M 15 (M 13 0).toNatClampNeg (M 14 0)) 16 ((z_up M 15 (M 13 0).toNatClampNeg (M 14 0)) 13 0).toNatClampNeg x1) 13 0).toNatClampNeg 0) 18 ((z_up (z_up (z_up M 15 (M 13 0).toNatClampNeg (M 14 0)) 16 ((z_up M 15 (M 13 0).toNatClampNeg (M 14 0)) 13 0).toNatClampNeg x1) 17 ((z_up (z_up M 15 (M 13 0).toNatClampNeg (M 14 0)) 16 ((z_up M 15 (M 13 0).toNatClampNeg (M 14 0)) 13 0).toNatClampNeg x1) 13 0).toNatClampNeg 0) 13 0).toNatClampNeg x2) 19 ((z_up (z_up (z_up (z_up M 15 (M 13 0).toNatClampNeg (M 14 0)) 16 ((z_up M 15 (M 13 0).toNatClampNeg (M 14 0)) 13 0).toNatClampNeg x1) 17 ((z_up (z_up M 15 (M 13 0).toNatClampNeg (M 14 0)) 16 ((z_up M 15 (M 13 0).toNatClampNeg (M 14 0)) 13 0).toNatClampNeg x1) 13 0).toNatClampNeg 0) 18 ((z_up (z_up (z_up M 15 (M 13 0).toNatClampNeg (M 14 0)) 16 ((z_up M 15 (M 13 0).toNatClampNeg (M 14 0)) 13 0).toNatClampNeg x1) 17 ((z_up (z_up M 15 (M 13 0).toNatClampNeg (M 14 0)) 16 ((z_up M 15 (M 13 0).toNatClampNeg (M 14 0)) 13 0).toNatClampNeg x1) 13 0).toNatClampNeg 0) 13 0).toNatClampNeg x2) 13 0).toNatClampNeg x3) 13 0 (((z_up (z_up (z_up (z_up (z_up M 15 (M 13 0).toNatClampNeg (M 14 0)) 16 ((z_up M 15 (M 13 0).toNatClampNeg (M 14 0)) 13 0).toNatClampNeg x1) 17 ((z_up (z_up M 15 (M 13 0).toNatClampNeg (M 14 0)) 16 ((z_up M 15 (M 13 0).toNatClampNeg (M 14 0)) 13 0).toNatClampNeg x1) 13 0).toNatClampNeg 0) 18 ((z_up (z_up (z_up M 15 (M 13 0).toNatClampNeg (M 14 0)) 16 ((z_up M 15 (M 13 0).toNatClampNeg (M 14 0)) 13 0).toNatClampNeg x1) 17 ((z_up (z_up M 15 (M 13 0).toNatClampNeg (M 14 0)) 16 ((z_up M 15 (M 13 0).toNatClampNeg (M 14 0)) 13 0).toNatClampNeg x1) 13 0).toNatClampNeg 0) 13 0).toNatClampNeg x2) 19 ((z_up (z_up (z_up (z_up M 15 (M 13 0).toNatClampNeg (M 14 0)) 16 ((z_up M 15 (M 13 0).toNatClampNeg (M 14 0)) 13 0).toNatClampNeg x1) 17 ((z_up (z_up M 15 (M 13 0).toNatClampNeg (M 14 0)) 16 ((z_up M 15 (M 13 0).toNatClampNeg (M 14 0)) 13 0).toNatClampNeg x1) 13 0).toNatClampNeg 0) 18 ((z_up (z_up (z_up M 15 (M 13 0).toNatClampNeg (M 14 0)) 16 ((z_up M 15 (M 13 0).toNatClampNeg (M 14 0)) 13 0).toNatClampNeg x1) 17 ((z_up (z_up M 15 (M 13 0).toNatClampNeg (M 14 0)) 16 ((z_up M 15 (M 13 0).toNatClampNeg (M 14 0)) 13 0).toNatClampNeg x1) 13 0).toNatClampNeg 0) 13 0).toNatClampNeg x2) 13 0).toNatClampNeg x3) 13 0) + 1)) 14 0) + 1))))))))
set_option maxRecDepth 20000 in
theorem mb_X7_add {p : Program} {l : Launch} {e : Env} {s : State} {m : MethodId} {args : Array Value} {below : List Frame} {meth : Method} {c : Code} {D : va_G} {cy : Nat → ClassId} {A : Nat → Prop} {o : Nat} {ad : Nat → Nat} (S : CallFix p m c cX7_add 4 s args z_T RX7) (hlk : meth.locks = false) (hr : meth.sig.returnType = some .int) (hE : z_EM D cy s) {post : Int32 → z_Md → Prop}  (M : z_Md) (x1 : Int32) (x2 : Int32) (x3 : Int32) (hw : w_X7_add post M x1 x2 x3) : z_V A (z_hM D cy A o ad) p l e rm_X7_add s m args below meth c 4 (MQ below (va_Qi post (fun (u' : z_Md) t => z_hM D cy A o ad u' t.heap) A) args s 0 0 A) 0 0 M 0 [(0, va_rf (some o)), (1, .int x1), (2, .int x2), (3, .int x3)] [] := by
  refine z_aload_n (x := some o) S 0 dX7_add_0 rfl rfl ?_
  refine zm_g_44 S hE dX7_add_1 ?_
  refine z_aload_n (x := some o) S 0 dX7_add_4 rfl rfl ?_
  refine zm_g_121 S hE dX7_add_5 ?_
  refine z_aload_n (x := some o) S 0 dX7_add_8 rfl rfl ?_
  refine zm_g_171 S hE dX7_add_9 ?_
  obtain ⟨hi5, hw⟩ := hw
  refine z_mast (j := 15) S hE rfl rfl hi5 dX7_add_12 ?_
  refine z_aload_n (x := some o) S 0 dX7_add_13 rfl rfl ?_
  refine zm_g_47 S hE dX7_add_14 ?_
  refine z_aload_n (x := some o) S 0 dX7_add_17 rfl rfl ?_
  refine zm_g_121 S hE dX7_add_18 ?_
  refine z_iload_n S 1 dX7_add_21 rfl rfl ?_
  obtain ⟨hi4, hw⟩ := hw
  refine z_mast (j := 16) S hE rfl rfl hi4 dX7_add_22 ?_
  refine z_aload_n (x := some o) S 0 dX7_add_23 rfl rfl ?_
  refine zm_g_50 S hE dX7_add_24 ?_
  refine z_aload_n (x := some o) S 0 dX7_add_27 rfl rfl ?_
  refine zm_g_121 S hE dX7_add_28 ?_
  refine z_iconst (v := 0) S dX7_add_31 (by decide) ?_
  obtain ⟨hi3, hw⟩ := hw
  refine z_mast (j := 17) S hE rfl rfl hi3 dX7_add_32 ?_
  refine z_aload_n (x := some o) S 0 dX7_add_33 rfl rfl ?_
  refine zm_g_53 S hE dX7_add_34 ?_
  refine z_aload_n (x := some o) S 0 dX7_add_37 rfl rfl ?_
  refine zm_g_121 S hE dX7_add_38 ?_
  refine z_iload_n S 2 dX7_add_41 rfl rfl ?_
  obtain ⟨hi2, hw⟩ := hw
  refine z_mast (j := 18) S hE rfl rfl hi2 dX7_add_42 ?_
  refine z_aload_n (x := some o) S 0 dX7_add_43 rfl rfl ?_
  refine zm_g_56 S hE dX7_add_44 ?_
  refine z_aload_n (x := some o) S 0 dX7_add_47 rfl rfl ?_
  refine zm_g_121 S hE dX7_add_48 ?_
  refine z_iload_n S 3 dX7_add_51 rfl rfl ?_
  obtain ⟨hi1, hw⟩ := hw
  refine z_mast (j := 19) S hE rfl rfl hi1 dX7_add_52 ?_
  refine z_aload_n (x := some o) S 0 dX7_add_53 rfl rfl ?_
  refine z_dup S dX7_add_54 (z_rfc _) ?_
  refine zm_g_121 S hE dX7_add_55 ?_
  refine z_iconst (v := 1) S dX7_add_58 (by decide) ?_
  refine z_iadd S dX7_add_59 ?_
  refine zm_p_121 S hE dX7_add_60 ?_
  refine z_aload_n (x := some o) S 0 dX7_add_63 rfl rfl ?_
  refine z_dup S dX7_add_64 (z_rfc _) ?_
  refine zm_g_171 S hE dX7_add_65 ?_
  refine z_iconst (v := 1) S dX7_add_68 (by decide) ?_
  refine z_iadd S dX7_add_69 ?_
  refine zm_p_171 S hE dX7_add_70 ?_
  refine z_aload_n (x := some o) S 0 dX7_add_73 rfl rfl ?_
  refine zm_g_171 S hE dX7_add_74 ?_
  refine z_iconst (v := 1) S dX7_add_77 (by decide) ?_
  refine z_isub S dX7_add_78 ?_
  exact z_iret S hr hlk dX7_add_79 (Nat.le_refl 0) (Nat.le_refl 0) hw
theorem me_X7_add (l : Launch) (D : va_G) (cy : Nat → ClassId) (A : Nat → Prop) (o : Nat) (ad : Nat → Nat) (post : Int32 → z_Md → Prop) (M : z_Md) (x1 : Int32) (x2 : Int32) (x3 : Int32) (hw : w_X7_add post M x1 x2 x3) : z_Mi l yX7_add (Cond.code yX7_add cX7_add 4 (some .int) :: z_T) rm_X7_add [.ref o, .int x1, .int x2, .int x3] (z_EM D cy) (z_hM D cy A o ad) M post 0 0 A :=
  z_met (by decide) (Nat.le_of_ble_eq_true rfl) (fun p e s m args below meth c S hlk hr hnm hE => mb_X7_add S hlk hr hE M x1 x2 x3 hw)
abbrev rm_X7_hang : Room := { frames := 6, cells := 0, slots := 0, locals := 142 }
def w_X7_hang_83 (post : Int32 → z_Md → Prop) (M : z_Md) (x1 : Int32) : Prop := (vp_in x1 3 ∧ (∀ x2_1 : Int32, x2_1 = M 23 x1.toNatClampNeg → (vp_in x1 3 ∧ (vp_in x2_1 48 ∧ (vp_in x2_1 48 ∧ ((¬ ((z_up (z_up M 20 x1.toNatClampNeg 0) 7 x2_1.toNatClampNeg 0) 9 x2_1.toNatClampNeg) = 0 → (vp_in x2_1 48 ∧ (vp_in x1 3 ∧ ((¬ ((z_up (z_up (z_up M 20 x1.toNatClampNeg 0) 7 x2_1.toNatClampNeg 0) 6 x2_1.toNatClampNeg 1) 22 x1.toNatClampNeg) = 0 → (vp_in x1 3 ∧ (vp_in x1 3 ∧ (∀ x3_4 : Int32, x3_4 = ((3 * ((z_up (z_up (z_up M 20 x1.toNatClampNeg 0) 7 x2_1.toNatClampNeg 0) 6 x2_1.toNatClampNeg 1) 21 x1.toNatClampNeg)) + ((z_up (z_up (z_up M 20 x1.toNatClampNeg 0) 7 x2_1.toNatClampNeg 0) 6 x2_1.toNatClampNeg 1) 22 x1.toNatClampNeg)) - 1 → (vp_in x3_4 12 ∧ (w_X7_letGo (fun r6 M5 => (vp_in x3_4 12 ∧ (post 0 (z_up M5 12 x3_4.toNatClampNeg x2_1)))) (z_up (z_up (z_up M 20 x1.toNatClampNeg 0) 7 x2_1.toNatClampNeg 0) 6 x2_1.toNatClampNeg 1) ((z_up (z_up (z_up M 20 x1.toNatClampNeg 0) 7 x2_1.toNatClampNeg 0) 6 x2_1.toNatClampNeg 1) 12 x3_4.toNatClampNeg))))))) ∧ (((z_up (z_up (z_up M 20 x1.toNatClampNeg 0) 7 x2_1.toNatClampNeg 0) 6 x2_1.toNatClampNeg 1) 22 x1.toNatClampNeg) = 0 → (vp_in x1 3 ∧ (w_X7_add (fun r12 M11 => (post r12 M11)) (z_up (z_up (z_up M 20 x1.toNatClampNeg 0) 7 x2_1.toNatClampNeg 0) 6 x2_1.toNatClampNeg 1) ((z_up (z_up (z_up M 20 x1.toNatClampNeg 0) 7 x2_1.toNatClampNeg 0) 6 x2_1.toNatClampNeg 1) 21 x1.toNatClampNeg) x2_1 (-1)))))))) ∧ (((z_up (z_up M 20 x1.toNatClampNeg 0) 7 x2_1.toNatClampNeg 0) 9 x2_1.toNatClampNeg) = 0 → (post (-1) (z_up (z_up M 20 x1.toNatClampNeg 0) 7 x2_1.toNatClampNeg 0)))))))))
def w_X7_hang_54 (post : Int32 → z_Md → Prop) : Nat → z_Md → Int32 → Int32 → Prop
  | 0 => fun _ _ _ => False
  | n + 1 => fun M x1 x2 => ((8 ≤ x2 → (w_X7_frame (fun M2 => (w_X7_hang_83 post M2 x1)) M x1)) ∧ (¬ 8 ≤ x2 → (vp_in ((8 * x1) + x2) 24 ∧ (w_X7_hang_54 post n (z_up M 26 ((8 * x1) + x2).toNatClampNeg 0) x1 (x2 + 1)))))
def w_X7_hang (post : Int32 → z_Md → Prop) (M : z_Md) (x1 : Int32) : Prop := (w_X7_isLine (fun r2 M1 => ((¬ r2 = 0 → vp_in x1 3) ∧ (∀ y3 : Int32, y3 = (if r2 = 0 then 1 else (if (M1 20 x1.toNatClampNeg) = 0 then 2 else 0)) → ((((z_up M1 0 0 y3) 0 0) ≤ 0 → (vp_in x1 3 ∧ ((((z_up M1 0 0 y3) 25 x1.toNatClampNeg) ≤ 0 → (w_X7_hang_83 post (z_up M1 0 0 y3) x1)) ∧ (¬ ((z_up M1 0 0 y3) 25 x1.toNatClampNeg) ≤ 0 → (vp_in x1 3 ∧ (∀ x2_6 : Int32, x2_6 = (z_up M1 0 0 y3) 25 x1.toNatClampNeg → (∃ n0 : Nat, w_X7_hang_54 post n0 (z_up M1 0 0 y3) x1 x2_6))))))) ∧ (¬ ((z_up M1 0 0 y3) 0 0) ≤ 0 → (post 0 (z_up M1 0 0 y3))))))) M x1)
set_option maxRecDepth 20000 in
theorem mb_X7_hang_83 {p : Program} {l : Launch} {e : Env} {s : State} {m : MethodId} {args : Array Value} {below : List Frame} {meth : Method} {c : Code} {D : va_G} {cy : Nat → ClassId} {A : Nat → Prop} {o : Nat} {ad : Nat → Nat} (S : CallFix p m c cX7_hang 5 s args z_T RX7) (hlk : meth.locks = false) (hr : meth.sig.returnType = some .int) (hE : z_EM D cy s) {post : Int32 → z_Md → Prop}  (M : z_Md) (x1 : Int32) (hw : w_X7_hang_83 post M x1) : z_V A (z_hM D cy A o ad) p l e rm_X7_hang s m args below meth c 5 (MQ below (va_Qi post (fun (u' : z_Md) t => z_hM D cy A o ad u' t.heap) A) args s 0 0 A) 0 0 M 83 [(0, va_rf (some o)), (1, .int x1)] [] := by
  refine z_aload_n (x := some o) S 0 dX7_hang_83 rfl rfl ?_
  refine zm_g_68 S hE dX7_hang_84 ?_
  refine z_iload_n S 1 dX7_hang_87 rfl rfl ?_
  obtain ⟨hi19, hw⟩ := hw
  refine z_mald (j := 23) S hE rfl rfl hi19 dX7_hang_88 ?_
  refine z_top (fun x2_1 ex2_1 => ?_)
  have hw := hw x2_1 ex2_1
  refine z_istore_n S [(2, .int x2_1), (0, va_rf (some o)), (1, .int x1)] dX7_hang_89 rfl (by decide) rfl ?_
  refine z_lv (lv' := [(0, va_rf (some o)), (1, .int x1), (2, .int x2_1)]) [1, 2, 0] rfl ?_
  refine z_aload_n (x := some o) S 0 dX7_hang_90 rfl rfl ?_
  refine zm_g_59 S hE dX7_hang_91 ?_
  refine z_iload_n S 1 dX7_hang_94 rfl rfl ?_
  refine z_iconst (v := 0) S dX7_hang_95 (by decide) ?_
  obtain ⟨hi18, hw⟩ := hw
  refine z_mzst (j := 20) S hE rfl rfl hi18 rfl dX7_hang_96 ?_
  refine z_aload_n (x := some o) S 0 dX7_hang_97 rfl rfl ?_
  refine zm_g_28 S hE dX7_hang_98 ?_
  refine z_iload_n S 2 dX7_hang_101 rfl rfl ?_
  refine z_iconst (v := 0) S dX7_hang_102 (by decide) ?_
  obtain ⟨hi17, hw⟩ := hw
  refine z_mzst (j := 7) S hE rfl rfl hi17 rfl dX7_hang_103 ?_
  refine z_aload_n (x := some o) S 0 dX7_hang_104 rfl rfl ?_
  refine zm_g_35 S hE dX7_hang_105 ?_
  refine z_iload_n S 2 dX7_hang_108 rfl rfl ?_
  obtain ⟨hi16, hw⟩ := hw
  refine z_mald (j := 9) S hE rfl rfl hi16 dX7_hang_109 ?_
  refine z_if_ne S 115 dX7_hang_110 (by decide) (fun c2 => ?_) (fun c2 => ?_)
  · have hw := hw.1 c2
    refine z_aload_n (x := some o) S 0 dX7_hang_115 rfl rfl ?_
    refine zm_g_25 S hE dX7_hang_116 ?_
    refine z_iload_n S 2 dX7_hang_119 rfl rfl ?_
    refine z_iconst (v := 1) S dX7_hang_120 (by decide) ?_
    obtain ⟨hi15, hw⟩ := hw
    refine z_mast (j := 6) S hE rfl rfl hi15 dX7_hang_121 ?_
    refine z_aload_n (x := some o) S 0 dX7_hang_122 rfl rfl ?_
    refine zm_g_65 S hE dX7_hang_123 ?_
    refine z_iload_n S 1 dX7_hang_126 rfl rfl ?_
    obtain ⟨hi14, hw⟩ := hw
    refine z_mald (j := 22) S hE rfl rfl hi14 dX7_hang_127 ?_
    refine z_if_ne S 144 dX7_hang_128 (by decide) (fun c3 => ?_) (fun c3 => ?_)
    · have hw := hw.1 c3
      refine z_iconst (v := 3) S dX7_hang_144 (by decide) ?_
      refine z_aload_n (x := some o) S 0 dX7_hang_145 rfl rfl ?_
      refine zm_g_62 S hE dX7_hang_146 ?_
      refine z_iload_n S 1 dX7_hang_149 rfl rfl ?_
      obtain ⟨hi10, hw⟩ := hw
      refine z_mald (j := 21) S hE rfl rfl hi10 dX7_hang_150 ?_
      refine z_imul S dX7_hang_151 ?_
      refine z_aload_n (x := some o) S 0 dX7_hang_152 rfl rfl ?_
      refine zm_g_65 S hE dX7_hang_153 ?_
      refine z_iload_n S 1 dX7_hang_156 rfl rfl ?_
      obtain ⟨hi9, hw⟩ := hw
      refine z_mald (j := 22) S hE rfl rfl hi9 dX7_hang_157 ?_
      refine z_iadd S dX7_hang_158 ?_
      refine z_iconst (v := 1) S dX7_hang_159 (by decide) ?_
      refine z_isub S dX7_hang_160 ?_
      refine z_top (fun x3_4 ex3_4 => ?_)
      have hw := hw x3_4 ex3_4
      refine z_istore_n S [(3, .int x3_4), (0, va_rf (some o)), (1, .int x1), (2, .int x2_1)] dX7_hang_161 rfl (by decide) rfl ?_
      refine z_lv (lv' := [(0, va_rf (some o)), (1, .int x1), (2, .int x2_1), (3, .int x3_4)]) [1, 2, 3, 0] rfl ?_
      refine z_aload_n (x := some o) S 0 dX7_hang_162 rfl rfl ?_
      refine z_aload_n (x := some o) S 0 dX7_hang_163 rfl rfl ?_
      refine zm_g_41 S hE dX7_hang_164 ?_
      refine z_iload_n S 3 dX7_hang_167 rfl rfl ?_
      obtain ⟨hi8, hw⟩ := hw
      refine z_mald (j := 12) S hE rfl rfl hi8 dX7_hang_168 ?_
      refine z_callVi (As := [.int ((z_up (z_up (z_up M 20 x1.toNatClampNeg 0) 7 x2_1.toNatClampNeg 0) 6 x2_1.toNatClampNeg 1) 12 x3_4.toNatClampNeg)]) (st := []) S (z_EMok D cy A) hE (me_X7_letGo l D cy A o ad _ (z_up (z_up (z_up M 20 x1.toNatClampNeg 0) 7 x2_1.toNatClampNeg 0) 6 x2_1.toNatClampNeg 1) ((z_up (z_up (z_up M 20 x1.toNatClampNeg 0) 7 x2_1.toNatClampNeg 0) 6 x2_1.toNatClampNeg 1) 12 x3_4.toNatClampNeg) hw) gV_X7_168 hdV_X7_letGo ⟨Nat.le_of_ble_eq_true rfl, Nat.le_of_ble_eq_true rfl⟩ rfl rfl (z_recvM hE) (fun _ h => h) (fun _ _ _ _ h => h) rfl (Nat.le_trans z_s0 (by decide)) dX7_hang_169 ⟨Nat.le_of_ble_eq_true rfl, Nat.le_of_ble_eq_true rfl⟩ rfl (fun r6 M5 hw => ?_)
      refine z_istore S [(4, .int r6), (0, va_rf (some o)), (1, .int x1), (2, .int x2_1), (3, .int x3_4)] dX7_hang_172 (by decide) rfl ?_
      refine z_lv (lv' := [(0, va_rf (some o)), (1, .int x1), (2, .int x2_1), (3, .int x3_4), (4, .int r6)]) [1, 2, 3, 4, 0] rfl ?_
      refine z_aload_n (x := some o) S 0 dX7_hang_174 rfl rfl ?_
      refine zm_g_41 S hE dX7_hang_175 ?_
      refine z_iload_n S 3 dX7_hang_178 rfl rfl ?_
      refine z_iload_n S 2 dX7_hang_179 rfl rfl ?_
      obtain ⟨hi7, hw⟩ := hw
      refine z_mast (j := 12) S hE rfl rfl hi7 dX7_hang_180 ?_
      refine z_iconst (v := 0) S dX7_hang_181 (by decide) ?_
      exact z_iret S hr hlk dX7_hang_182 (Nat.le_refl 0) (Nat.le_refl 0) hw
    · have hw := hw.2 c3
      refine z_aload_n (x := some o) S 0 dX7_hang_131 rfl rfl ?_
      refine z_aload_n (x := some o) S 0 dX7_hang_132 rfl rfl ?_
      refine zm_g_62 S hE dX7_hang_133 ?_
      refine z_iload_n S 1 dX7_hang_136 rfl rfl ?_
      obtain ⟨hi13, hw⟩ := hw
      refine z_mald (j := 21) S hE rfl rfl hi13 dX7_hang_137 ?_
      refine z_iload_n S 2 dX7_hang_138 rfl rfl ?_
      refine z_iconst (v := (-1)) S dX7_hang_139 (by decide) ?_
      refine z_callVi (As := [.int ((z_up (z_up (z_up M 20 x1.toNatClampNeg 0) 7 x2_1.toNatClampNeg 0) 6 x2_1.toNatClampNeg 1) 21 x1.toNatClampNeg), .int x2_1, .int (-1)]) (st := []) S (z_EMok D cy A) hE (me_X7_add l D cy A o ad _ (z_up (z_up (z_up M 20 x1.toNatClampNeg 0) 7 x2_1.toNatClampNeg 0) 6 x2_1.toNatClampNeg 1) ((z_up (z_up (z_up M 20 x1.toNatClampNeg 0) 7 x2_1.toNatClampNeg 0) 6 x2_1.toNatClampNeg 1) 21 x1.toNatClampNeg) x2_1 (-1) hw) gV_X7_164 hdV_X7_add ⟨Nat.le_of_ble_eq_true rfl, Nat.le_of_ble_eq_true rfl⟩ rfl rfl (z_recvM hE) (fun _ h => h) (fun _ _ _ _ h => h) rfl (Nat.le_trans z_s0 (by decide)) dX7_hang_140 ⟨Nat.le_of_ble_eq_true rfl, Nat.le_of_ble_eq_true rfl⟩ rfl (fun r12 M11 hw => ?_)
      exact z_iret S hr hlk dX7_hang_143 (Nat.le_refl 0) (Nat.le_refl 0) hw
  · have hw := hw.2 c2
    refine z_iconst (v := (-1)) S dX7_hang_113 (by decide) ?_
    exact z_iret S hr hlk dX7_hang_114 (Nat.le_refl 0) (Nat.le_refl 0) hw
set_option maxRecDepth 20000 in
theorem mb_X7_hang_54 {p : Program} {l : Launch} {e : Env} {s : State} {m : MethodId} {args : Array Value} {below : List Frame} {meth : Method} {c : Code} {D : va_G} {cy : Nat → ClassId} {A : Nat → Prop} {o : Nat} {ad : Nat → Nat} (S : CallFix p m c cX7_hang 5 s args z_T RX7) (hlk : meth.locks = false) (hr : meth.sig.returnType = some .int) (hE : z_EM D cy s) {post : Int32 → z_Md → Prop}  : ∀ (n : Nat) (M : z_Md) (x1 : Int32) (x2 : Int32), w_X7_hang_54 post n M x1 x2 → z_V A (z_hM D cy A o ad) p l e rm_X7_hang s m args below meth c 5 (MQ below (va_Qi post (fun (u' : z_Md) t => z_hM D cy A o ad u' t.heap) A) args s 0 0 A) 0 0 M 54 [(0, va_rf (some o)), (1, .int x1), (2, .int x2)] [] := by
  intro n
  induction n with
  | zero => intro M x1 x2 hw; exact hw.elim
  | succ n ih =>
    intro M x1 x2 hw
    refine z_iload_n S 2 dX7_hang_54 rfl rfl ?_
    refine z_bipush (v := 8) S dX7_hang_55 (by decide) ?_
    refine z_icmp_ge S 78 dX7_hang_57 (by decide) (fun c1 => ?_) (fun c1 => ?_)
    · have hw := hw.1 c1
      refine z_aload_n (x := some o) S 0 dX7_hang_78 rfl rfl ?_
      refine z_iload_n S 1 dX7_hang_79 rfl rfl ?_
      refine z_callVv (As := [.int x1]) (st := []) S (z_EMok D cy A) hE (me_X7_frame l D cy A o ad _ M x1 hw) gV_X7_161 hdV_X7_frame ⟨Nat.le_of_ble_eq_true rfl, Nat.le_of_ble_eq_true rfl⟩ rfl rfl (z_recvM hE) (fun _ h => h) (fun _ _ _ _ h => h) rfl (Nat.le_trans z_s0 (by decide)) dX7_hang_80 ⟨Nat.le_of_ble_eq_true rfl, Nat.le_of_ble_eq_true rfl⟩ rfl (fun M2 hw => ?_)
      refine z_lv (lv' := [(0, va_rf (some o)), (1, .int x1)]) [0, 1] rfl ?_
      exact mb_X7_hang_83 S hlk hr hE M2 x1 hw
    · have hw := hw.2 c1
      refine z_aload_n (x := some o) S 0 dX7_hang_60 rfl rfl ?_
      refine zm_g_77 S hE dX7_hang_61 ?_
      refine z_bipush (v := 8) S dX7_hang_64 (by decide) ?_
      refine z_iload_n S 1 dX7_hang_66 rfl rfl ?_
      refine z_imul S dX7_hang_67 ?_
      refine z_iload_n S 2 dX7_hang_68 rfl rfl ?_
      refine z_iadd S dX7_hang_69 ?_
      refine z_iconst (v := 0) S dX7_hang_70 (by decide) ?_
      obtain ⟨hi4, hw⟩ := hw
      refine z_mast (j := 26) S hE rfl rfl hi4 dX7_hang_71 ?_
      refine z_iinc (v := x2 + 1) (pl := 2) S [(2, .int (x2 + 1)), (0, va_rf (some o)), (1, .int x1)] dX7_hang_72 rfl rfl (by decide) rfl ?_
      refine z_lv (lv' := [(0, va_rf (some o)), (1, .int x1), (2, .int (x2 + 1))]) [1, 2, 0] rfl ?_
      refine z_goto S 54 dX7_hang_75 (by decide) ?_
      exact ih (z_up M 26 ((8 * x1) + x2).toNatClampNeg 0) x1 (x2 + 1) hw
set_option maxRecDepth 20000 in
theorem mb_X7_hang {p : Program} {l : Launch} {e : Env} {s : State} {m : MethodId} {args : Array Value} {below : List Frame} {meth : Method} {c : Code} {D : va_G} {cy : Nat → ClassId} {A : Nat → Prop} {o : Nat} {ad : Nat → Nat} (S : CallFix p m c cX7_hang 5 s args z_T RX7) (hlk : meth.locks = false) (hr : meth.sig.returnType = some .int) (hE : z_EM D cy s) {post : Int32 → z_Md → Prop}  (M : z_Md) (x1 : Int32) (hw : w_X7_hang post M x1) : z_V A (z_hM D cy A o ad) p l e rm_X7_hang s m args below meth c 5 (MQ below (va_Qi post (fun (u' : z_Md) t => z_hM D cy A o ad u' t.heap) A) args s 0 0 A) 0 0 M 0 [(0, va_rf (some o)), (1, .int x1)] [] := by
  refine z_aload_n (x := some o) S 0 dX7_hang_0 rfl rfl ?_
  refine z_iload_n S 1 dX7_hang_1 rfl rfl ?_
  refine z_callSi (As := [.int x1]) (st := [va_rf (some o)]) S (z_EMok D cy A) hE (me_X7_isLine l D cy A o ad _ M x1 hw) gS_X7_127 hdS_X7_isLine ⟨Nat.le_of_ble_eq_true rfl, Nat.le_of_ble_eq_true rfl⟩ rfl rfl (fun _ h => h) (fun _ _ _ _ h => h) rfl (Nat.le_trans (z_sq z_s0) (by decide)) dX7_hang_2 ⟨Nat.le_of_ble_eq_true rfl, Nat.le_of_ble_eq_true rfl⟩ rfl (fun r2 M1 hw => ?_)
  obtain ⟨hob, hw⟩ := hw
  suffices hJ : ∀ y3 : Int32, y3 = (if r2 = 0 then 1 else (if (M1 20 x1.toNatClampNeg) = 0 then 2 else 0)) → z_V A (z_hM D cy A o ad) p l e rm_X7_hang s m args below meth c 5 (MQ below (va_Qi post (fun (u' : z_Md) t => z_hM D cy A o ad u' t.heap) A) args s 0 0 A) 0 0 M1 26 [(0, va_rf (some o)), (1, .int x1)] [.int y3, va_rf (some o)] from by
    refine z_if_ne S 12 dX7_hang_5 (by decide) (fun c9 => ?_) (fun c9 => ?_)
    · have hob := hob c9
      refine z_aload_n (x := some o) S 0 dX7_hang_12 rfl rfl ?_
      refine zm_g_59 S hE dX7_hang_13 ?_
      refine z_iload_n S 1 dX7_hang_16 rfl rfl ?_
      have hi10 := hob
      refine z_mzld (j := 20) S hE rfl rfl hi10 dX7_hang_17 ?_
      refine z_if_ne S 25 dX7_hang_18 (by decide) (fun c11 => ?_) (fun c11 => ?_)
      · refine z_iconst (v := 0) S dX7_hang_25 (by decide) ?_
        exact hJ _ (by rw [if_neg c9, if_neg c11])
      · refine z_iconst (v := 2) S dX7_hang_21 (by decide) ?_
        refine z_goto S 26 dX7_hang_22 (by decide) ?_
        exact hJ _ (by rw [if_neg c9, if_pos c11])
    · refine z_iconst (v := 1) S dX7_hang_8 (by decide) ?_
      refine z_goto S 26 dX7_hang_9 (by decide) ?_
      exact hJ _ (by rw [if_pos c9])
  intro y3 ey3
  have hw := hw y3 ey3
  refine zm_p_89 S hE dX7_hang_26 ?_
  refine z_aload_n (x := some o) S 0 dX7_hang_29 rfl rfl ?_
  refine zm_g_89 S hE dX7_hang_30 ?_
  refine z_if_le S 38 dX7_hang_33 (by decide) (fun c4 => ?_) (fun c4 => ?_)
  · have hw := hw.1 c4
    refine z_aload_n (x := some o) S 0 dX7_hang_38 rfl rfl ?_
    refine zm_g_74 S hE dX7_hang_39 ?_
    refine z_iload_n S 1 dX7_hang_42 rfl rfl ?_
    obtain ⟨hi8, hw⟩ := hw
    refine z_mald (j := 25) S hE rfl rfl hi8 dX7_hang_43 ?_
    refine z_if_le S 83 dX7_hang_44 (by decide) (fun c5 => ?_) (fun c5 => ?_)
    · have hw := hw.1 c5
      exact mb_X7_hang_83 S hlk hr hE (z_up M1 0 0 y3) x1 hw
    · have hw := hw.2 c5
      refine z_aload_n (x := some o) S 0 dX7_hang_47 rfl rfl ?_
      refine zm_g_74 S hE dX7_hang_48 ?_
      refine z_iload_n S 1 dX7_hang_51 rfl rfl ?_
      obtain ⟨hi7, hw⟩ := hw
      refine z_mald (j := 25) S hE rfl rfl hi7 dX7_hang_52 ?_
      refine z_top (fun x2_6 ex2_6 => ?_)
      have hw := hw x2_6 ex2_6
      refine z_istore_n S [(2, .int x2_6), (0, va_rf (some o)), (1, .int x1)] dX7_hang_53 rfl (by decide) rfl ?_
      refine z_lv (lv' := [(0, va_rf (some o)), (1, .int x1), (2, .int x2_6)]) [1, 2, 0] rfl ?_
      obtain ⟨n0, hw⟩ := hw
      exact mb_X7_hang_54 S hlk hr hE n0 (z_up M1 0 0 y3) x1 x2_6 hw
  · have hw := hw.2 c4
    refine z_iconst (v := 0) S dX7_hang_36 (by decide) ?_
    exact z_iret S hr hlk dX7_hang_37 (Nat.le_refl 0) (Nat.le_refl 0) hw
theorem me_X7_hang (l : Launch) (D : va_G) (cy : Nat → ClassId) (A : Nat → Prop) (o : Nat) (ad : Nat → Nat) (post : Int32 → z_Md → Prop) (M : z_Md) (x1 : Int32) (hw : w_X7_hang post M x1) : z_Mi l yX7_hang (Cond.code yX7_hang cX7_hang 5 (some .int) :: z_T) rm_X7_hang [.ref o, .int x1] (z_EM D cy) (z_hM D cy A o ad) M post 0 0 A :=
  z_met (by decide) (Nat.le_of_ble_eq_true rfl) (fun p e s m args below meth c S hlk hr hnm hE => mb_X7_hang S hlk hr hE M x1 hw)
end
section
abbrev rm_X7_find : Room := { frames := 0, cells := 0, slots := 0, locals := 0 }
def w_X7_find_4 (post : Int32 → z_Md → Prop) : Nat → z_Md → Int32 → Int32 → Int32 → Prop
  | 0 => fun _ _ _ _ => False
  | n + 1 => fun M x1 x2 x3 => (((M 13 0) ≤ x3 → (post x2 M)) ∧ (¬ (M 13 0) ≤ x3 → (vp_in x3 16 ∧ (∀ y2 : Int32, y2 = (if (M 15 x3.toNatClampNeg) = x1 then x3 else x2) → (w_X7_find_4 post n M x1 y2 (x3 + 1))))))
def w_X7_find (post : Int32 → z_Md → Prop) (M : z_Md) (x1 : Int32) : Prop := (∃ n0 : Nat, w_X7_find_4 post n0 M x1 (-1) 0)
set_option maxRecDepth 20000 in
theorem mb_X7_find_4 {p : Program} {l : Launch} {e : Env} {s : State} {m : MethodId} {args : Array Value} {below : List Frame} {meth : Method} {c : Code} {D : va_G} {cy : Nat → ClassId} {A : Nat → Prop} {o : Nat} {ad : Nat → Nat} (S : CallFix p m c cX7_find 4 s args z_T RX7) (hlk : meth.locks = false) (hr : meth.sig.returnType = some .int) (hE : z_EM D cy s) {post : Int32 → z_Md → Prop}  : ∀ (n : Nat) (M : z_Md) (x1 : Int32) (x2 : Int32) (x3 : Int32), w_X7_find_4 post n M x1 x2 x3 → z_V A (z_hM D cy A o ad) p l e rm_X7_find s m args below meth c 4 (MQ below (va_Qi post (fun (u' : z_Md) t => z_hM D cy A o ad u' t.heap) A) args s 0 0 A) 0 0 M 4 [(0, va_rf (some o)), (1, .int x1), (2, .int x2), (3, .int x3)] [] := by
  intro n
  induction n with
  | zero => intro M x1 x2 x3 hw; exact hw.elim
  | succ n ih =>
    intro M x1 x2 x3 hw
    refine z_iload_n S 3 dX7_find_4 rfl rfl ?_
    refine z_aload_n (x := some o) S 0 dX7_find_5 rfl rfl ?_
    refine zm_g_121 S hE dX7_find_6 ?_
    refine z_icmp_ge S 34 dX7_find_9 (by decide) (fun c1 => ?_) (fun c1 => ?_)
    · have hw := hw.1 c1
      refine z_iload_n S 2 dX7_find_34 rfl rfl ?_
      exact z_iret S hr hlk dX7_find_35 (Nat.le_refl 0) (Nat.le_refl 0) hw
    · have hw := hw.2 c1
      refine z_aload_n (x := some o) S 0 dX7_find_12 rfl rfl ?_
      refine zm_g_44 S hE dX7_find_13 ?_
      refine z_iload_n S 3 dX7_find_16 rfl rfl ?_
      obtain ⟨hi4, hw⟩ := hw
      refine z_mald (j := 15) S hE rfl rfl hi4 dX7_find_17 ?_
      refine z_iload_n S 1 dX7_find_18 rfl rfl ?_
      suffices hJ : ∀ y2 : Int32, y2 = (if (M 15 x3.toNatClampNeg) = x1 then x3 else x2) → z_V A (z_hM D cy A o ad) p l e rm_X7_find s m args below meth c 4 (MQ below (va_Qi post (fun (u' : z_Md) t => z_hM D cy A o ad u' t.heap) A) args s 0 0 A) 0 0 M 27 [(0, va_rf (some o)), (1, .int x1), (3, .int x3)] [.int y2] from by
        refine z_icmp_ne S 26 dX7_find_19 (by decide) (fun c3 => ?_) (fun c3 => ?_)
        · refine z_iload_n S 2 dX7_find_26 rfl rfl ?_
          refine z_lv (lv' := [(0, va_rf (some o)), (1, .int x1), (3, .int x3)]) [0, 1, 3] rfl ?_
          exact hJ _ (by rw [if_neg c3])
        · refine z_iload_n S 3 dX7_find_22 rfl rfl ?_
          refine z_goto S 27 dX7_find_23 (by decide) ?_
          refine z_lv (lv' := [(0, va_rf (some o)), (1, .int x1), (3, .int x3)]) [0, 1, 3] rfl ?_
          exact hJ _ (by rw [if_pos c3])
      intro y2 ey2
      have hw := hw y2 ey2
      refine z_istore_n S [(2, .int y2), (0, va_rf (some o)), (1, .int x1), (3, .int x3)] dX7_find_27 rfl (by decide) rfl ?_
      refine z_lv (lv' := [(0, va_rf (some o)), (1, .int x1), (2, .int y2), (3, .int x3)]) [1, 2, 0, 3] rfl ?_
      refine z_iinc (v := x3 + 1) (pl := 3) S [(3, .int (x3 + 1)), (0, va_rf (some o)), (1, .int x1), (2, .int y2)] dX7_find_28 rfl rfl (by decide) rfl ?_
      refine z_lv (lv' := [(0, va_rf (some o)), (1, .int x1), (2, .int y2), (3, .int (x3 + 1))]) [1, 2, 3, 0] rfl ?_
      refine z_goto S 4 dX7_find_31 (by decide) ?_
      exact ih M x1 y2 (x3 + 1) hw
set_option maxRecDepth 20000 in
theorem mb_X7_find {p : Program} {l : Launch} {e : Env} {s : State} {m : MethodId} {args : Array Value} {below : List Frame} {meth : Method} {c : Code} {D : va_G} {cy : Nat → ClassId} {A : Nat → Prop} {o : Nat} {ad : Nat → Nat} (S : CallFix p m c cX7_find 4 s args z_T RX7) (hlk : meth.locks = false) (hr : meth.sig.returnType = some .int) (hE : z_EM D cy s) {post : Int32 → z_Md → Prop}  (M : z_Md) (x1 : Int32) (hw : w_X7_find post M x1) : z_V A (z_hM D cy A o ad) p l e rm_X7_find s m args below meth c 4 (MQ below (va_Qi post (fun (u' : z_Md) t => z_hM D cy A o ad u' t.heap) A) args s 0 0 A) 0 0 M 0 [(0, va_rf (some o)), (1, .int x1)] [] := by
  refine z_iconst (v := (-1)) S dX7_find_0 (by decide) ?_
  refine z_istore_n S [(2, .int (-1)), (0, va_rf (some o)), (1, .int x1)] dX7_find_1 rfl (by decide) rfl ?_
  refine z_lv (lv' := [(0, va_rf (some o)), (1, .int x1), (2, .int (-1))]) [1, 2, 0] rfl ?_
  refine z_iconst (v := 0) S dX7_find_2 (by decide) ?_
  refine z_istore_n S [(3, .int 0), (0, va_rf (some o)), (1, .int x1), (2, .int (-1))] dX7_find_3 rfl (by decide) rfl ?_
  refine z_lv (lv' := [(0, va_rf (some o)), (1, .int x1), (2, .int (-1)), (3, .int 0)]) [1, 2, 3, 0] rfl ?_
  obtain ⟨n0, hw⟩ := hw
  exact mb_X7_find_4 S hlk hr hE n0 M x1 (-1) 0 hw
theorem me_X7_find (l : Launch) (D : va_G) (cy : Nat → ClassId) (A : Nat → Prop) (o : Nat) (ad : Nat → Nat) (post : Int32 → z_Md → Prop) (M : z_Md) (x1 : Int32) (hw : w_X7_find post M x1) : z_Mi l yX7_find (Cond.code yX7_find cX7_find 4 (some .int) :: z_T) rm_X7_find [.ref o, .int x1] (z_EM D cy) (z_hM D cy A o ad) M post 0 0 A :=
  z_met (by decide) (Nat.le_of_ble_eq_true rfl) (fun p e s m args below meth c S hlk hr hnm hE => mb_X7_find S hlk hr hE M x1 hw)
abbrev rm_X7_next : Room := { frames := 1, cells := 0, slots := 0, locals := 21 }
def w_X7_next_93 (post : Int32 → z_Md → Prop) (J45 : z_Md → Int32 → Int32 → Int32 → Int32 → Int32 → Prop) (M : z_Md) (x1 : Int32) (x2 : Int32) (x3 : Int32) (x4 : Int32) (x5 : Int32) : Prop := (J45 M x1 x2 x3 x4 (x5 + 1))
def w_X7_next_45 (post : Int32 → z_Md → Prop) : Nat → z_Md → Int32 → Int32 → Int32 → Int32 → Int32 → Prop
  | 0 => fun _ _ _ _ _ _ => False
  | n + 1 => fun M x1 x2 x3 x4 x5 => (((M 13 0) ≤ x5 → (post 0 (z_up M 0 0 3))) ∧ (¬ (M 13 0) ≤ x5 → (vp_in x5 16 ∧ ((¬ (M 16 x5.toNatClampNeg) = x1 → (w_X7_next_93 post (w_X7_next_45 post n) M x1 x2 x3 x4 x5)) ∧ ((M 16 x5.toNatClampNeg) = x1 → (vp_in x5 16 ∧ ((¬ (M 17 x5.toNatClampNeg) = x2 → (w_X7_next_93 post (w_X7_next_45 post n) M x1 x2 x3 x4 x5)) ∧ ((M 17 x5.toNatClampNeg) = x2 → ((¬ x4 = x3 → (w_X7_next_93 post (w_X7_next_45 post n) M x1 x2 x3 (x4 + 1) x5)) ∧ (x4 = x3 → (vp_in x5 16 ∧ (post (M 15 x5.toNatClampNeg) M))))))))))))
def w_X7_next (post : Int32 → z_Md → Prop) (M : z_Md) (x1 : Int32) (x2 : Int32) (x3 : Int32) : Prop := (w_X7_isBox (fun r2 M1 => (∀ y3 : Int32, y3 = (if r2 = 0 then 1 else (if x2 < 0 then 2 else (if x2 ≤ 2 then 0 else 2))) → ((((z_up M1 0 0 y3) 0 0) ≤ 0 → (∃ n0 : Nat, w_X7_next_45 post n0 (z_up M1 0 0 y3) x1 x2 x3 0 0)) ∧ (¬ ((z_up M1 0 0 y3) 0 0) ≤ 0 → (post 0 (z_up M1 0 0 y3)))))) M x1)
set_option maxRecDepth 20000 in
theorem mb_X7_next_93 {p : Program} {l : Launch} {e : Env} {s : State} {m : MethodId} {args : Array Value} {below : List Frame} {meth : Method} {c : Code} {D : va_G} {cy : Nat → ClassId} {A : Nat → Prop} {o : Nat} {ad : Nat → Nat} (S : CallFix p m c cX7_next 6 s args z_T RX7) (hlk : meth.locks = false) (hr : meth.sig.returnType = some .int) (hE : z_EM D cy s) {post : Int32 → z_Md → Prop} {J45 : z_Md → Int32 → Int32 → Int32 → Int32 → Int32 → Prop} (hJ45 : ∀ (M : z_Md) (x1 : Int32) (x2 : Int32) (x3 : Int32) (x4 : Int32) (x5 : Int32), J45 M x1 x2 x3 x4 x5 → z_V A (z_hM D cy A o ad) p l e rm_X7_next s m args below meth c 6 (MQ below (va_Qi post (fun (u' : z_Md) t => z_hM D cy A o ad u' t.heap) A) args s 0 0 A) 0 0 M 45 [(0, va_rf (some o)), (1, .int x1), (2, .int x2), (3, .int x3), (4, .int x4), (5, .int x5)] []) (M : z_Md) (x1 : Int32) (x2 : Int32) (x3 : Int32) (x4 : Int32) (x5 : Int32) (hw : w_X7_next_93 post J45 M x1 x2 x3 x4 x5) : z_V A (z_hM D cy A o ad) p l e rm_X7_next s m args below meth c 6 (MQ below (va_Qi post (fun (u' : z_Md) t => z_hM D cy A o ad u' t.heap) A) args s 0 0 A) 0 0 M 93 [(0, va_rf (some o)), (1, .int x1), (2, .int x2), (3, .int x3), (4, .int x4), (5, .int x5)] [] := by
  refine z_iinc (v := x5 + 1) (pl := 5) S [(5, .int (x5 + 1)), (0, va_rf (some o)), (1, .int x1), (2, .int x2), (3, .int x3), (4, .int x4)] dX7_next_93 rfl rfl (by decide) rfl ?_
  refine z_lv (lv' := [(0, va_rf (some o)), (1, .int x1), (2, .int x2), (3, .int x3), (4, .int x4), (5, .int (x5 + 1))]) [1, 2, 3, 4, 5, 0] rfl ?_
  refine z_goto S 45 dX7_next_96 (by decide) ?_
  exact hJ45 M x1 x2 x3 x4 (x5 + 1) hw
set_option maxRecDepth 20000 in
theorem mb_X7_next_45 {p : Program} {l : Launch} {e : Env} {s : State} {m : MethodId} {args : Array Value} {below : List Frame} {meth : Method} {c : Code} {D : va_G} {cy : Nat → ClassId} {A : Nat → Prop} {o : Nat} {ad : Nat → Nat} (S : CallFix p m c cX7_next 6 s args z_T RX7) (hlk : meth.locks = false) (hr : meth.sig.returnType = some .int) (hE : z_EM D cy s) {post : Int32 → z_Md → Prop}  : ∀ (n : Nat) (M : z_Md) (x1 : Int32) (x2 : Int32) (x3 : Int32) (x4 : Int32) (x5 : Int32), w_X7_next_45 post n M x1 x2 x3 x4 x5 → z_V A (z_hM D cy A o ad) p l e rm_X7_next s m args below meth c 6 (MQ below (va_Qi post (fun (u' : z_Md) t => z_hM D cy A o ad u' t.heap) A) args s 0 0 A) 0 0 M 45 [(0, va_rf (some o)), (1, .int x1), (2, .int x2), (3, .int x3), (4, .int x4), (5, .int x5)] [] := by
  intro n
  induction n with
  | zero => intro M x1 x2 x3 x4 x5 hw; exact hw.elim
  | succ n ih =>
    intro M x1 x2 x3 x4 x5 hw
    refine z_iload S 5 dX7_next_45 rfl ?_
    refine z_aload_n (x := some o) S 0 dX7_next_47 rfl rfl ?_
    refine zm_g_121 S hE dX7_next_48 ?_
    refine z_icmp_ge S 99 dX7_next_51 (by decide) (fun c1 => ?_) (fun c1 => ?_)
    · have hw := hw.1 c1
      refine z_aload_n (x := some o) S 0 dX7_next_99 rfl rfl ?_
      refine z_iconst (v := 3) S dX7_next_100 (by decide) ?_
      refine zm_p_89 S hE dX7_next_101 ?_
      refine z_iconst (v := 0) S dX7_next_104 (by decide) ?_
      exact z_iret S hr hlk dX7_next_105 (Nat.le_refl 0) (Nat.le_refl 0) hw
    · have hw := hw.2 c1
      refine z_aload_n (x := some o) S 0 dX7_next_54 rfl rfl ?_
      refine zm_g_47 S hE dX7_next_55 ?_
      refine z_iload S 5 dX7_next_58 rfl ?_
      obtain ⟨hi7, hw⟩ := hw
      refine z_mald (j := 16) S hE rfl rfl hi7 dX7_next_60 ?_
      refine z_iload_n S 1 dX7_next_61 rfl rfl ?_
      refine z_icmp_ne S 93 dX7_next_62 (by decide) (fun c2 => ?_) (fun c2 => ?_)
      · have hw := hw.1 c2
        exact mb_X7_next_93 S hlk hr hE ih M x1 x2 x3 x4 x5 hw
      · have hw := hw.2 c2
        refine z_aload_n (x := some o) S 0 dX7_next_65 rfl rfl ?_
        refine zm_g_50 S hE dX7_next_66 ?_
        refine z_iload S 5 dX7_next_69 rfl ?_
        obtain ⟨hi6, hw⟩ := hw
        refine z_mald (j := 17) S hE rfl rfl hi6 dX7_next_71 ?_
        refine z_iload_n S 2 dX7_next_72 rfl rfl ?_
        refine z_icmp_ne S 93 dX7_next_73 (by decide) (fun c3 => ?_) (fun c3 => ?_)
        · have hw := hw.1 c3
          exact mb_X7_next_93 S hlk hr hE ih M x1 x2 x3 x4 x5 hw
        · have hw := hw.2 c3
          refine z_iload S 4 dX7_next_76 rfl ?_
          refine z_iload_n S 3 dX7_next_78 rfl rfl ?_
          refine z_icmp_ne S 90 dX7_next_79 (by decide) (fun c4 => ?_) (fun c4 => ?_)
          · have hw := hw.1 c4
            refine z_iinc (v := x4 + 1) (pl := 4) S [(4, .int (x4 + 1)), (0, va_rf (some o)), (1, .int x1), (2, .int x2), (3, .int x3), (5, .int x5)] dX7_next_90 rfl rfl (by decide) rfl ?_
            refine z_lv (lv' := [(0, va_rf (some o)), (1, .int x1), (2, .int x2), (3, .int x3), (4, .int (x4 + 1)), (5, .int x5)]) [1, 2, 3, 4, 0, 5] rfl ?_
            exact mb_X7_next_93 S hlk hr hE ih M x1 x2 x3 (x4 + 1) x5 hw
          · have hw := hw.2 c4
            refine z_aload_n (x := some o) S 0 dX7_next_82 rfl rfl ?_
            refine zm_g_44 S hE dX7_next_83 ?_
            refine z_iload S 5 dX7_next_86 rfl ?_
            obtain ⟨hi5, hw⟩ := hw
            refine z_mald (j := 15) S hE rfl rfl hi5 dX7_next_88 ?_
            exact z_iret S hr hlk dX7_next_89 (Nat.le_refl 0) (Nat.le_refl 0) hw
set_option maxRecDepth 20000 in
theorem mb_X7_next {p : Program} {l : Launch} {e : Env} {s : State} {m : MethodId} {args : Array Value} {below : List Frame} {meth : Method} {c : Code} {D : va_G} {cy : Nat → ClassId} {A : Nat → Prop} {o : Nat} {ad : Nat → Nat} (S : CallFix p m c cX7_next 6 s args z_T RX7) (hlk : meth.locks = false) (hr : meth.sig.returnType = some .int) (hE : z_EM D cy s) {post : Int32 → z_Md → Prop}  (M : z_Md) (x1 : Int32) (x2 : Int32) (x3 : Int32) (hw : w_X7_next post M x1 x2 x3) : z_V A (z_hM D cy A o ad) p l e rm_X7_next s m args below meth c 6 (MQ below (va_Qi post (fun (u' : z_Md) t => z_hM D cy A o ad u' t.heap) A) args s 0 0 A) 0 0 M 0 [(0, va_rf (some o)), (1, .int x1), (2, .int x2), (3, .int x3)] [] := by
  refine z_aload_n (x := some o) S 0 dX7_next_0 rfl rfl ?_
  refine z_aload_n (x := some o) S 0 dX7_next_1 rfl rfl ?_
  refine z_iload_n S 1 dX7_next_2 rfl rfl ?_
  refine z_callVi (As := [.int x1]) (st := [va_rf (some o)]) S (z_EMok D cy A) hE (me_X7_isBox l D cy A o ad _ M x1 hw) gV_X7_131 hdV_X7_isBox ⟨Nat.le_of_ble_eq_true rfl, Nat.le_of_ble_eq_true rfl⟩ rfl rfl (z_recvM hE) (fun _ h => h) (fun _ _ _ _ h => h) rfl (Nat.le_trans (z_sq z_s0) (by decide)) dX7_next_3 ⟨Nat.le_of_ble_eq_true rfl, Nat.le_of_ble_eq_true rfl⟩ rfl (fun r2 M1 hw => ?_)
  suffices hJ : ∀ y3 : Int32, y3 = (if r2 = 0 then 1 else (if x2 < 0 then 2 else (if x2 ≤ 2 then 0 else 2))) → z_V A (z_hM D cy A o ad) p l e rm_X7_next s m args below meth c 6 (MQ below (va_Qi post (fun (u' : z_Md) t => z_hM D cy A o ad u' t.heap) A) args s 0 0 A) 0 0 M1 27 [(0, va_rf (some o)), (1, .int x1), (2, .int x2), (3, .int x3)] [.int y3, va_rf (some o)] from by
    refine z_if_ne S 13 dX7_next_6 (by decide) (fun c5 => ?_) (fun c5 => ?_)
    · refine z_iload_n S 2 dX7_next_13 rfl rfl ?_
      refine z_if_lt S 22 dX7_next_14 (by decide) (fun c6 => ?_) (fun c6 => ?_)
      · refine z_iconst (v := 2) S dX7_next_22 (by decide) ?_
        refine z_goto S 27 dX7_next_23 (by decide) ?_
        exact hJ _ (by rw [if_neg c5, if_pos c6])
      · refine z_iload_n S 2 dX7_next_17 rfl rfl ?_
        refine z_iconst (v := 2) S dX7_next_18 (by decide) ?_
        refine z_icmp_le S 26 dX7_next_19 (by decide) (fun c7 => ?_) (fun c7 => ?_)
        · refine z_iconst (v := 0) S dX7_next_26 (by decide) ?_
          exact hJ _ (by rw [if_neg c5, if_neg c6, if_pos c7])
        · refine z_iconst (v := 2) S dX7_next_22 (by decide) ?_
          refine z_goto S 27 dX7_next_23 (by decide) ?_
          exact hJ _ (by rw [if_neg c5, if_neg c6, if_neg c7])
    · refine z_iconst (v := 1) S dX7_next_9 (by decide) ?_
      refine z_goto S 27 dX7_next_10 (by decide) ?_
      exact hJ _ (by rw [if_pos c5])
  intro y3 ey3
  have hw := hw y3 ey3
  refine zm_p_89 S hE dX7_next_27 ?_
  refine z_aload_n (x := some o) S 0 dX7_next_30 rfl rfl ?_
  refine zm_g_89 S hE dX7_next_31 ?_
  refine z_if_le S 39 dX7_next_34 (by decide) (fun c4 => ?_) (fun c4 => ?_)
  · have hw := hw.1 c4
    refine z_iconst (v := 0) S dX7_next_39 (by decide) ?_
    refine z_istore S [(4, .int 0), (0, va_rf (some o)), (1, .int x1), (2, .int x2), (3, .int x3)] dX7_next_40 (by decide) rfl ?_
    refine z_lv (lv' := [(0, va_rf (some o)), (1, .int x1), (2, .int x2), (3, .int x3), (4, .int 0)]) [1, 2, 3, 4, 0] rfl ?_
    refine z_iconst (v := 0) S dX7_next_42 (by decide) ?_
    refine z_istore S [(5, .int 0), (0, va_rf (some o)), (1, .int x1), (2, .int x2), (3, .int x3), (4, .int 0)] dX7_next_43 (by decide) rfl ?_
    refine z_lv (lv' := [(0, va_rf (some o)), (1, .int x1), (2, .int x2), (3, .int x3), (4, .int 0), (5, .int 0)]) [1, 2, 3, 4, 5, 0] rfl ?_
    obtain ⟨n0, hw⟩ := hw
    exact mb_X7_next_45 S hlk hr hE n0 (z_up M1 0 0 y3) x1 x2 x3 0 0 hw
  · have hw := hw.2 c4
    refine z_iconst (v := 0) S dX7_next_37 (by decide) ?_
    exact z_iret S hr hlk dX7_next_38 (Nat.le_refl 0) (Nat.le_refl 0) hw
theorem me_X7_next (l : Launch) (D : va_G) (cy : Nat → ClassId) (A : Nat → Prop) (o : Nat) (ad : Nat → Nat) (post : Int32 → z_Md → Prop) (M : z_Md) (x1 : Int32) (x2 : Int32) (x3 : Int32) (hw : w_X7_next post M x1 x2 x3) : z_Mi l yX7_next (Cond.code yX7_next cX7_next 6 (some .int) :: z_T) rm_X7_next [.ref o, .int x1, .int x2, .int x3] (z_EM D cy) (z_hM D cy A o ad) M post 0 0 A :=
  z_met (by decide) (Nat.le_of_ble_eq_true rfl) (fun p e s m args below meth c S hlk hr hnm hE => mb_X7_next S hlk hr hE M x1 x2 x3 hw)
abbrev rm_X7_mark : Room := { frames := 1, cells := 0, slots := 0, locals := 23 }
def w_X7_mark (post : Int32 → z_Md → Prop) (M : z_Md) (x1 : Int32) (x2 : Int32) : Prop := (w_X7_find (fun r2 M1 => (∀ y3 : Int32, y3 = (if 0 ≤ r2 then (if x2 < 0 then 2 else (if x2 ≤ 2 then 0 else 2)) else 1) → ((((z_up M1 0 0 y3) 0 0) ≤ 0 → (vp_in r2 16 ∧ (∀ x4_5 : Int32, x4_5 = (z_up M1 0 0 y3) 17 r2.toNatClampNeg → (vp_in r2 16 ∧ (post x4_5 (z_up (z_up M1 0 0 y3) 17 r2.toNatClampNeg x2)))))) ∧ (¬ ((z_up M1 0 0 y3) 0 0) ≤ 0 → (post 0 (z_up M1 0 0 y3)))))) M x1)
set_option maxRecDepth 20000 in
theorem mb_X7_mark {p : Program} {l : Launch} {e : Env} {s : State} {m : MethodId} {args : Array Value} {below : List Frame} {meth : Method} {c : Code} {D : va_G} {cy : Nat → ClassId} {A : Nat → Prop} {o : Nat} {ad : Nat → Nat} (S : CallFix p m c cX7_mark 5 s args z_T RX7) (hlk : meth.locks = false) (hr : meth.sig.returnType = some .int) (hE : z_EM D cy s) {post : Int32 → z_Md → Prop}  (M : z_Md) (x1 : Int32) (x2 : Int32) (hw : w_X7_mark post M x1 x2) : z_V A (z_hM D cy A o ad) p l e rm_X7_mark s m args below meth c 5 (MQ below (va_Qi post (fun (u' : z_Md) t => z_hM D cy A o ad u' t.heap) A) args s 0 0 A) 0 0 M 0 [(0, va_rf (some o)), (1, .int x1), (2, .int x2)] [] := by
  refine z_aload_n (x := some o) S 0 dX7_mark_0 rfl rfl ?_
  refine z_iload_n S 1 dX7_mark_1 rfl rfl ?_
  refine z_callVi (As := [.int x1]) (st := []) S (z_EMok D cy A) hE (me_X7_find l D cy A o ad _ M x1 hw) gV_X7_174 hdV_X7_find ⟨Nat.le_of_ble_eq_true rfl, Nat.le_of_ble_eq_true rfl⟩ rfl rfl (z_recvM hE) (fun _ h => h) (fun _ _ _ _ h => h) rfl (Nat.le_trans z_s0 (by decide)) dX7_mark_2 ⟨Nat.le_of_ble_eq_true rfl, Nat.le_of_ble_eq_true rfl⟩ rfl (fun r2 M1 hw => ?_)
  refine z_istore_n S [(3, .int r2), (0, va_rf (some o)), (1, .int x1), (2, .int x2)] dX7_mark_5 rfl (by decide) rfl ?_
  refine z_lv (lv' := [(0, va_rf (some o)), (1, .int x1), (2, .int x2), (3, .int r2)]) [1, 2, 3, 0] rfl ?_
  refine z_aload_n (x := some o) S 0 dX7_mark_6 rfl rfl ?_
  refine z_iload_n S 3 dX7_mark_7 rfl rfl ?_
  suffices hJ : ∀ y3 : Int32, y3 = (if 0 ≤ r2 then (if x2 < 0 then 2 else (if x2 ≤ 2 then 0 else 2)) else 1) → z_V A (z_hM D cy A o ad) p l e rm_X7_mark s m args below meth c 5 (MQ below (va_Qi post (fun (u' : z_Md) t => z_hM D cy A o ad u' t.heap) A) args s 0 0 A) 0 0 M1 29 [(0, va_rf (some o)), (2, .int x2), (3, .int r2)] [.int y3, va_rf (some o)] from by
    refine z_if_ge S 15 dX7_mark_8 (by decide) (fun c8 => ?_) (fun c8 => ?_)
    · refine z_iload_n S 2 dX7_mark_15 rfl rfl ?_
      refine z_if_lt S 24 dX7_mark_16 (by decide) (fun c9 => ?_) (fun c9 => ?_)
      · refine z_iconst (v := 2) S dX7_mark_24 (by decide) ?_
        refine z_goto S 29 dX7_mark_25 (by decide) ?_
        refine z_lv (lv' := [(0, va_rf (some o)), (2, .int x2), (3, .int r2)]) [0, 2, 3] rfl ?_
        exact hJ _ (by rw [if_pos c8, if_pos c9])
      · refine z_iload_n S 2 dX7_mark_19 rfl rfl ?_
        refine z_iconst (v := 2) S dX7_mark_20 (by decide) ?_
        refine z_icmp_le S 28 dX7_mark_21 (by decide) (fun c10 => ?_) (fun c10 => ?_)
        · refine z_iconst (v := 0) S dX7_mark_28 (by decide) ?_
          refine z_lv (lv' := [(0, va_rf (some o)), (2, .int x2), (3, .int r2)]) [0, 2, 3] rfl ?_
          exact hJ _ (by rw [if_pos c8, if_neg c9, if_pos c10])
        · refine z_iconst (v := 2) S dX7_mark_24 (by decide) ?_
          refine z_goto S 29 dX7_mark_25 (by decide) ?_
          refine z_lv (lv' := [(0, va_rf (some o)), (2, .int x2), (3, .int r2)]) [0, 2, 3] rfl ?_
          exact hJ _ (by rw [if_pos c8, if_neg c9, if_neg c10])
    · refine z_iconst (v := 1) S dX7_mark_11 (by decide) ?_
      refine z_goto S 29 dX7_mark_12 (by decide) ?_
      refine z_lv (lv' := [(0, va_rf (some o)), (2, .int x2), (3, .int r2)]) [0, 2, 3] rfl ?_
      exact hJ _ (by rw [if_neg c8])
  intro y3 ey3
  have hw := hw y3 ey3
  refine zm_p_89 S hE dX7_mark_29 ?_
  refine z_aload_n (x := some o) S 0 dX7_mark_32 rfl rfl ?_
  refine zm_g_89 S hE dX7_mark_33 ?_
  refine z_if_le S 41 dX7_mark_36 (by decide) (fun c4 => ?_) (fun c4 => ?_)
  · have hw := hw.1 c4
    refine z_aload_n (x := some o) S 0 dX7_mark_41 rfl rfl ?_
    refine zm_g_50 S hE dX7_mark_42 ?_
    refine z_iload_n S 2 dX7_mark_45 rfl rfl ?_
    obtain ⟨hi7, hw⟩ := hw
    refine z_mald (j := 17) S hE rfl rfl hi7 dX7_mark_46 ?_
    refine z_top (fun x4_5 ex4_5 => ?_)
    have hw := hw x4_5 ex4_5
    refine z_istore S [(4, .int x4_5), (0, va_rf (some o)), (2, .int x2), (3, .int r2)] dX7_mark_47 (by decide) rfl ?_
    refine z_lv (lv' := [(0, va_rf (some o)), (2, .int x2), (3, .int r2), (4, .int x4_5)]) [1, 2, 3, 0] rfl ?_
    refine z_aload_n (x := some o) S 0 dX7_mark_49 rfl rfl ?_
    refine zm_g_50 S hE dX7_mark_50 ?_
    refine z_iload_n S 2 dX7_mark_53 rfl rfl ?_
    refine z_iload_n S 1 dX7_mark_54 rfl rfl ?_
    obtain ⟨hi6, hw⟩ := hw
    refine z_mast (j := 17) S hE rfl rfl hi6 dX7_mark_55 ?_
    refine z_iload S 3 dX7_mark_56 rfl ?_
    exact z_iret S hr hlk dX7_mark_58 (Nat.le_refl 0) (Nat.le_refl 0) hw
  · have hw := hw.2 c4
    refine z_iconst (v := 0) S dX7_mark_39 (by decide) ?_
    exact z_iret S hr hlk dX7_mark_40 (Nat.le_refl 0) (Nat.le_refl 0) hw
theorem me_X7_mark (l : Launch) (D : va_G) (cy : Nat → ClassId) (A : Nat → Prop) (o : Nat) (ad : Nat → Nat) (post : Int32 → z_Md → Prop) (M : z_Md) (x1 : Int32) (x2 : Int32) (hw : w_X7_mark post M x1 x2) : z_Mi l yX7_mark (Cond.code yX7_mark cX7_mark 5 (some .int) :: z_T) rm_X7_mark [.ref o, .int x1, .int x2] (z_EM D cy) (z_hM D cy A o ad) M post 0 0 A :=
  z_met (by decide) (Nat.le_of_ble_eq_true rfl) (fun p e s m args below meth c S hlk hr hnm hE => mb_X7_mark S hlk hr hE M x1 x2 hw)
abbrev rm_X7_erase : Room := { frames := 2, cells := 0, slots := 0, locals := 45 }
def w_X7_erase_63 (post : Int32 → z_Md → Prop) : Nat → z_Md → Int32 → Int32 → Prop
  | 0 => fun _ _ _ => False
  | n + 1 => fun M x3 x4 => (((M 13 0) ≤ x4 → (post x3 M)) ∧ (¬ (M 13 0) ≤ x4 → (vp_in (x4 + 1) 16 ∧ (vp_in x4 16 ∧ (vp_in (x4 + 1) 16 ∧ (vp_in x4 16 ∧ (vp_in (x4 + 1) 16 ∧ (vp_in x4 16 ∧ (vp_in (x4 + 1) 16 ∧ (vp_in x4 16 ∧ (vp_in (x4 + 1) 16 ∧ (vp_in x4 16 ∧ (w_X7_erase_63 post n (z_up (z_up (z_up (z_up (z_up M 15 x4.toNatClampNeg (M 15 (x4 + 1).toNatClampNeg)) 16 x4.toNatClampNeg ((z_up M 15 x4.toNatClampNeg (M 15 (x4 + 1).toNatClampNeg)) 16 (x4 + 1).toNatClampNeg)) 17 x4.toNatClampNeg ((z_up (z_up M 15 x4.toNatClampNeg (M 15 (x4 + 1).toNatClampNeg)) 16 x4.toNatClampNeg ((z_up M 15 x4.toNatClampNeg (M 15 (x4 + 1).toNatClampNeg)) 16 (x4 + 1).toNatClampNeg)) 17 (x4 + 1).toNatClampNeg)) 18 x4.toNatClampNeg ((z_up (z_up (z_up M 15 x4.toNatClampNeg (M 15 (x4 + 1).toNatClampNeg)) 16 x4.toNatClampNeg ((z_up M 15 x4.toNatClampNeg (M 15 (x4 + 1).toNatClampNeg)) 16 (x4 + 1).toNatClampNeg)) 17 x4.toNatClampNeg ((z_up (z_up M 15 x4.toNatClampNeg (M 15 (x4 + 1).toNatClampNeg)) 16 x4.toNatClampNeg ((z_up M 15 x4.toNatClampNeg (M 15 (x4 + 1).toNatClampNeg)) 16 (x4 + 1).toNatClampNeg)) 17 (x4 + 1).toNatClampNeg)) 18 (x4 + 1).toNatClampNeg)) 19 x4.toNatClampNeg ((z_up (z_up (z_up (z_up M 15 x4.toNatClampNeg (M 15 (x4 + 1).toNatClampNeg)) 16 x4.toNatClampNeg ((z_up M 15 x4.toNatClampNeg (M 15 (x4 + 1).toNatClampNeg)) 16 (x4 + 1).toNatClampNeg)) 17 x4.toNatClampNeg ((z_up (z_up M 15 x4.toNatClampNeg (M 15 (x4 + 1).toNatClampNeg)) 16 x4.toNatClampNeg ((z_up M 15 x4.toNatClampNeg (M 15 (x4 + 1).toNatClampNeg)) 16 (x4 + 1).toNatClampNeg)) 17 (x4 + 1).toNatClampNeg)) 18 x4.toNatClampNeg ((z_up (z_up (z_up M 15 x4.toNatClampNeg (M 15 (x4 + 1).toNatClampNeg)) 16 x4.toNatClampNeg ((z_up M 15 x4.toNatClampNeg (M 15 (x4 + 1).toNatClampNeg)) 16 (x4 + 1).toNatClampNeg)) 17 x4.toNatClampNeg ((z_up (z_up M 15 x4.toNatClampNeg (M 15 (x4 + 1).toNatClampNeg)) 16 x4.toNatClampNeg ((z_up M 15 x4.toNatClampNeg (M 15 (x4 + 1).toNatClampNeg)) 16 (x4 + 1).toNatClampNeg)) 17 (x4 + 1).toNatClampNeg)) 18 (x4 + 1).toNatClampNeg)) 19 (x4 + 1).toNatClampNeg)) x3 (x4 + 1))))))))))))))
def w_X7_erase (post : Int32 → z_Md → Prop) (M : z_Md) (x1 : Int32) : Prop := (w_X7_find (fun r2 M1 => (∀ y3 : Int32, y3 = (if 0 ≤ r2 then 0 else 1) → ((((z_up M1 0 0 y3) 0 0) ≤ 0 → (vp_in r2 16 ∧ (w_X7_letGo (fun r6 M5 => (vp_in r2 16 ∧ (w_X7_letGo (fun r8 M7 => (∃ n0 : Nat, w_X7_erase_63 post n0 (z_up M7 13 0 ((M7 13 0) - 1)) (r6 + r8) r2)) M5 (M5 19 r2.toNatClampNeg)))) (z_up M1 0 0 y3) ((z_up M1 0 0 y3) 18 r2.toNatClampNeg)))) ∧ (¬ ((z_up M1 0 0 y3) 0 0) ≤ 0 → (post 0 (z_up M1 0 0 y3)))))) M x1)
set_option maxRecDepth 20000 in
theorem mb_X7_erase_63 {p : Program} {l : Launch} {e : Env} {s : State} {m : MethodId} {args : Array Value} {below : List Frame} {meth : Method} {c : Code} {D : va_G} {cy : Nat → ClassId} {A : Nat → Prop} {o : Nat} {ad : Nat → Nat} (S : CallFix p m c cX7_erase 5 s args z_T RX7) (hlk : meth.locks = false) (hr : meth.sig.returnType = some .int) (hE : z_EM D cy s) {post : Int32 → z_Md → Prop}  : ∀ (n : Nat) (M : z_Md) (x3 : Int32) (x4 : Int32), w_X7_erase_63 post n M x3 x4 → z_V A (z_hM D cy A o ad) p l e rm_X7_erase s m args below meth c 5 (MQ below (va_Qi post (fun (u' : z_Md) t => z_hM D cy A o ad u' t.heap) A) args s 0 0 A) 0 0 M 63 [(0, va_rf (some o)), (3, .int x3), (4, .int x4)] [] := by
  intro n
  induction n with
  | zero => intro M x3 x4 hw; exact hw.elim
  | succ n ih =>
    intro M x3 x4 hw
    refine z_iload S 2 dX7_erase_63 rfl ?_
    refine z_aload_n (x := some o) S 0 dX7_erase_65 rfl rfl ?_
    refine zm_g_121 S hE dX7_erase_66 ?_
    refine z_icmp_ge S 158 dX7_erase_69 (by decide) (fun c1 => ?_) (fun c1 => ?_)
    · have hw := hw.1 c1
      refine z_iload_n S 1 dX7_erase_158 rfl rfl ?_
      exact z_iret S hr hlk dX7_erase_159 (Nat.le_refl 0) (Nat.le_refl 0) hw
    · have hw := hw.2 c1
      refine z_aload_n (x := some o) S 0 dX7_erase_72 rfl rfl ?_
      refine zm_g_44 S hE dX7_erase_73 ?_
      refine z_iload S 2 dX7_erase_76 rfl ?_
      refine z_aload_n (x := some o) S 0 dX7_erase_78 rfl rfl ?_
      refine zm_g_44 S hE dX7_erase_79 ?_
      refine z_iload S 2 dX7_erase_82 rfl ?_
      refine z_iconst (v := 1) S dX7_erase_84 (by decide) ?_
      refine z_iadd S dX7_erase_85 ?_
      obtain ⟨hi11, hw⟩ := hw
      refine z_mald (j := 15) S hE rfl rfl hi11 dX7_erase_86 ?_
      obtain ⟨hi10, hw⟩ := hw
      refine z_mast (j := 15) S hE rfl rfl hi10 dX7_erase_87 ?_
      refine z_aload_n (x := some o) S 0 dX7_erase_88 rfl rfl ?_
      refine zm_g_47 S hE dX7_erase_89 ?_
      refine z_iload S 2 dX7_erase_92 rfl ?_
      refine z_aload_n (x := some o) S 0 dX7_erase_94 rfl rfl ?_
      refine zm_g_47 S hE dX7_erase_95 ?_
      refine z_iload S 2 dX7_erase_98 rfl ?_
      refine z_iconst (v := 1) S dX7_erase_100 (by decide) ?_
      refine z_iadd S dX7_erase_101 ?_
      obtain ⟨hi9, hw⟩ := hw
      refine z_mald (j := 16) S hE rfl rfl hi9 dX7_erase_102 ?_
      obtain ⟨hi8, hw⟩ := hw
      refine z_mast (j := 16) S hE rfl rfl hi8 dX7_erase_103 ?_
      refine z_aload_n (x := some o) S 0 dX7_erase_104 rfl rfl ?_
      refine zm_g_50 S hE dX7_erase_105 ?_
      refine z_iload S 2 dX7_erase_108 rfl ?_
      refine z_aload_n (x := some o) S 0 dX7_erase_110 rfl rfl ?_
      refine zm_g_50 S hE dX7_erase_111 ?_
      refine z_iload S 2 dX7_erase_114 rfl ?_
      refine z_iconst (v := 1) S dX7_erase_116 (by decide) ?_
      refine z_iadd S dX7_erase_117 ?_
      obtain ⟨hi7, hw⟩ := hw
      refine z_mald (j := 17) S hE rfl rfl hi7 dX7_erase_118 ?_
      obtain ⟨hi6, hw⟩ := hw
      refine z_mast (j := 17) S hE rfl rfl hi6 dX7_erase_119 ?_
      refine z_aload_n (x := some o) S 0 dX7_erase_120 rfl rfl ?_
      refine zm_g_53 S hE dX7_erase_121 ?_
      refine z_iload S 2 dX7_erase_124 rfl ?_
      refine z_aload_n (x := some o) S 0 dX7_erase_126 rfl rfl ?_
      refine zm_g_53 S hE dX7_erase_127 ?_
      refine z_iload S 2 dX7_erase_130 rfl ?_
      refine z_iconst (v := 1) S dX7_erase_132 (by decide) ?_
      refine z_iadd S dX7_erase_133 ?_
      obtain ⟨hi5, hw⟩ := hw
      refine z_mald (j := 18) S hE rfl rfl hi5 dX7_erase_134 ?_
      obtain ⟨hi4, hw⟩ := hw
      refine z_mast (j := 18) S hE rfl rfl hi4 dX7_erase_135 ?_
      refine z_aload_n (x := some o) S 0 dX7_erase_136 rfl rfl ?_
      refine zm_g_56 S hE dX7_erase_137 ?_
      refine z_iload S 2 dX7_erase_140 rfl ?_
      refine z_aload_n (x := some o) S 0 dX7_erase_142 rfl rfl ?_
      refine zm_g_56 S hE dX7_erase_143 ?_
      refine z_iload S 2 dX7_erase_146 rfl ?_
      refine z_iconst (v := 1) S dX7_erase_148 (by decide) ?_
      refine z_iadd S dX7_erase_149 ?_
      obtain ⟨hi3, hw⟩ := hw
      refine z_mald (j := 19) S hE rfl rfl hi3 dX7_erase_150 ?_
      obtain ⟨hi2, hw⟩ := hw
      refine z_mast (j := 19) S hE rfl rfl hi2 dX7_erase_151 ?_
      refine z_iinc (v := x4 + 1) (pl := 2) S [(4, .int (x4 + 1)), (0, va_rf (some o)), (3, .int x3)] dX7_erase_152 rfl rfl (by decide) rfl ?_
      refine z_lv (lv' := [(0, va_rf (some o)), (3, .int x3), (4, .int (x4 + 1))]) [1, 2, 0] rfl ?_
      refine z_goto S 63 dX7_erase_155 (by decide) ?_
      exact ih (z_up (z_up (z_up (z_up (z_up M 15 x4.toNatClampNeg (M 15 (x4 + 1).toNatClampNeg)) 16 x4.toNatClampNeg ((z_up M 15 x4.toNatClampNeg (M 15 (x4 + 1).toNatClampNeg)) 16 (x4 + 1).toNatClampNeg)) 17 x4.toNatClampNeg ((z_up (z_up M 15 x4.toNatClampNeg (M 15 (x4 + 1).toNatClampNeg)) 16 x4.toNatClampNeg ((z_up M 15 x4.toNatClampNeg (M 15 (x4 + 1).toNatClampNeg)) 16 (x4 + 1).toNatClampNeg)) 17 (x4 + 1).toNatClampNeg)) 18 x4.toNatClampNeg ((z_up (z_up (z_up M 15 x4.toNatClampNeg (M 15 (x4 + 1).toNatClampNeg)) 16 x4.toNatClampNeg ((z_up M 15 x4.toNatClampNeg (M 15 (x4 + 1).toNatClampNeg)) 16 (x4 + 1).toNatClampNeg)) 17 x4.toNatClampNeg ((z_up (z_up M 15 x4.toNatClampNeg (M 15 (x4 + 1).toNatClampNeg)) 16 x4.toNatClampNeg ((z_up M 15 x4.toNatClampNeg (M 15 (x4 + 1).toNatClampNeg)) 16 (x4 + 1).toNatClampNeg)) 17 (x4 + 1).toNatClampNeg)) 18 (x4 + 1).toNatClampNeg)) 19 x4.toNatClampNeg ((z_up (z_up (z_up (z_up M 15 x4.toNatClampNeg (M 15 (x4 + 1).toNatClampNeg)) 16 x4.toNatClampNeg ((z_up M 15 x4.toNatClampNeg (M 15 (x4 + 1).toNatClampNeg)) 16 (x4 + 1).toNatClampNeg)) 17 x4.toNatClampNeg ((z_up (z_up M 15 x4.toNatClampNeg (M 15 (x4 + 1).toNatClampNeg)) 16 x4.toNatClampNeg ((z_up M 15 x4.toNatClampNeg (M 15 (x4 + 1).toNatClampNeg)) 16 (x4 + 1).toNatClampNeg)) 17 (x4 + 1).toNatClampNeg)) 18 x4.toNatClampNeg ((z_up (z_up (z_up M 15 x4.toNatClampNeg (M 15 (x4 + 1).toNatClampNeg)) 16 x4.toNatClampNeg ((z_up M 15 x4.toNatClampNeg (M 15 (x4 + 1).toNatClampNeg)) 16 (x4 + 1).toNatClampNeg)) 17 x4.toNatClampNeg ((z_up (z_up M 15 x4.toNatClampNeg (M 15 (x4 + 1).toNatClampNeg)) 16 x4.toNatClampNeg ((z_up M 15 x4.toNatClampNeg (M 15 (x4 + 1).toNatClampNeg)) 16 (x4 + 1).toNatClampNeg)) 17 (x4 + 1).toNatClampNeg)) 18 (x4 + 1).toNatClampNeg)) 19 (x4 + 1).toNatClampNeg)) x3 (x4 + 1) hw
set_option maxRecDepth 20000 in
theorem mb_X7_erase {p : Program} {l : Launch} {e : Env} {s : State} {m : MethodId} {args : Array Value} {below : List Frame} {meth : Method} {c : Code} {D : va_G} {cy : Nat → ClassId} {A : Nat → Prop} {o : Nat} {ad : Nat → Nat} (S : CallFix p m c cX7_erase 5 s args z_T RX7) (hlk : meth.locks = false) (hr : meth.sig.returnType = some .int) (hE : z_EM D cy s) {post : Int32 → z_Md → Prop}  (M : z_Md) (x1 : Int32) (hw : w_X7_erase post M x1) : z_V A (z_hM D cy A o ad) p l e rm_X7_erase s m args below meth c 5 (MQ below (va_Qi post (fun (u' : z_Md) t => z_hM D cy A o ad u' t.heap) A) args s 0 0 A) 0 0 M 0 [(0, va_rf (some o)), (1, .int x1)] [] := by
  refine z_aload_n (x := some o) S 0 dX7_erase_0 rfl rfl ?_
  refine z_iload_n S 1 dX7_erase_1 rfl rfl ?_
  refine z_callVi (As := [.int x1]) (st := []) S (z_EMok D cy A) hE (me_X7_find l D cy A o ad _ M x1 hw) gV_X7_174 hdV_X7_find ⟨Nat.le_of_ble_eq_true rfl, Nat.le_of_ble_eq_true rfl⟩ rfl rfl (z_recvM hE) (fun _ h => h) (fun _ _ _ _ h => h) rfl (Nat.le_trans z_s0 (by decide)) dX7_erase_2 ⟨Nat.le_of_ble_eq_true rfl, Nat.le_of_ble_eq_true rfl⟩ rfl (fun r2 M1 hw => ?_)
  refine z_istore_n S [(2, .int r2), (0, va_rf (some o)), (1, .int x1)] dX7_erase_5 rfl (by decide) rfl ?_
  refine z_lv (lv' := [(0, va_rf (some o)), (1, .int x1), (2, .int r2)]) [1, 2, 0] rfl ?_
  refine z_aload_n (x := some o) S 0 dX7_erase_6 rfl rfl ?_
  refine z_iload_n S 2 dX7_erase_7 rfl rfl ?_
  suffices hJ : ∀ y3 : Int32, y3 = (if 0 ≤ r2 then 0 else 1) → z_V A (z_hM D cy A o ad) p l e rm_X7_erase s m args below meth c 5 (MQ below (va_Qi post (fun (u' : z_Md) t => z_hM D cy A o ad u' t.heap) A) args s 0 0 A) 0 0 M1 16 [(0, va_rf (some o)), (2, .int r2)] [.int y3, va_rf (some o)] from by
    refine z_if_ge S 15 dX7_erase_8 (by decide) (fun c11 => ?_) (fun c11 => ?_)
    · refine z_iconst (v := 0) S dX7_erase_15 (by decide) ?_
      refine z_lv (lv' := [(0, va_rf (some o)), (2, .int r2)]) [0, 2] rfl ?_
      exact hJ _ (by rw [if_pos c11])
    · refine z_iconst (v := 1) S dX7_erase_11 (by decide) ?_
      refine z_goto S 16 dX7_erase_12 (by decide) ?_
      refine z_lv (lv' := [(0, va_rf (some o)), (2, .int r2)]) [0, 2] rfl ?_
      exact hJ _ (by rw [if_neg c11])
  intro y3 ey3
  have hw := hw y3 ey3
  refine zm_p_89 S hE dX7_erase_16 ?_
  refine z_aload_n (x := some o) S 0 dX7_erase_19 rfl rfl ?_
  refine zm_g_89 S hE dX7_erase_20 ?_
  refine z_if_le S 28 dX7_erase_23 (by decide) (fun c4 => ?_) (fun c4 => ?_)
  · have hw := hw.1 c4
    refine z_aload_n (x := some o) S 0 dX7_erase_28 rfl rfl ?_
    refine z_aload_n (x := some o) S 0 dX7_erase_29 rfl rfl ?_
    refine zm_g_53 S hE dX7_erase_30 ?_
    refine z_iload_n S 1 dX7_erase_33 rfl rfl ?_
    obtain ⟨hi10, hw⟩ := hw
    refine z_mald (j := 18) S hE rfl rfl hi10 dX7_erase_34 ?_
    refine z_callVi (As := [.int ((z_up M1 0 0 y3) 18 r2.toNatClampNeg)]) (st := []) S (z_EMok D cy A) hE (me_X7_letGo l D cy A o ad _ (z_up M1 0 0 y3) ((z_up M1 0 0 y3) 18 r2.toNatClampNeg) hw) gV_X7_168 hdV_X7_letGo ⟨Nat.le_of_ble_eq_true rfl, Nat.le_of_ble_eq_true rfl⟩ rfl rfl (z_recvM hE) (fun _ h => h) (fun _ _ _ _ h => h) rfl (Nat.le_trans z_s0 (by decide)) dX7_erase_35 ⟨Nat.le_of_ble_eq_true rfl, Nat.le_of_ble_eq_true rfl⟩ rfl (fun r6 M5 hw => ?_)
    refine z_aload_n (x := some o) S 0 dX7_erase_38 rfl rfl ?_
    refine z_aload_n (x := some o) S 0 dX7_erase_39 rfl rfl ?_
    refine zm_g_56 S hE dX7_erase_40 ?_
    refine z_iload_n S 1 dX7_erase_43 rfl rfl ?_
    obtain ⟨hi9, hw⟩ := hw
    refine z_mald (j := 19) S hE rfl rfl hi9 dX7_erase_44 ?_
    refine z_callVi (As := [.int (M5 19 r2.toNatClampNeg)]) (st := [.int r6]) S (z_EMok D cy A) hE (me_X7_letGo l D cy A o ad _ M5 (M5 19 r2.toNatClampNeg) hw) gV_X7_168 hdV_X7_letGo ⟨Nat.le_of_ble_eq_true rfl, Nat.le_of_ble_eq_true rfl⟩ rfl rfl (z_recvM hE) (fun _ h => h) (fun _ _ _ _ h => h) rfl (Nat.le_trans (z_s1 z_s0) (by decide)) dX7_erase_45 ⟨Nat.le_of_ble_eq_true rfl, Nat.le_of_ble_eq_true rfl⟩ rfl (fun r8 M7 hw => ?_)
    refine z_iadd S dX7_erase_48 ?_
    refine z_istore_n S [(3, .int (r6 + r8)), (0, va_rf (some o)), (2, .int r2)] dX7_erase_49 rfl (by decide) rfl ?_
    refine z_lv (lv' := [(0, va_rf (some o)), (2, .int r2), (3, .int (r6 + r8))]) [1, 2, 0] rfl ?_
    refine z_aload_n (x := some o) S 0 dX7_erase_50 rfl rfl ?_
    refine z_dup S dX7_erase_51 (z_rfc _) ?_
    refine zm_g_121 S hE dX7_erase_52 ?_
    refine z_iconst (v := 1) S dX7_erase_55 (by decide) ?_
    refine z_isub S dX7_erase_56 ?_
    refine zm_p_121 S hE dX7_erase_57 ?_
    refine z_iload_n S 1 dX7_erase_60 rfl rfl ?_
    refine z_istore S [(4, .int r2), (0, va_rf (some o)), (2, .int r2), (3, .int (r6 + r8))] dX7_erase_61 (by decide) rfl ?_
    refine z_lv (lv' := [(0, va_rf (some o)), (2, .int r2), (3, .int (r6 + r8)), (4, .int r2)]) [1, 2, 3, 0] rfl ?_
    refine z_lv (lv' := [(0, va_rf (some o)), (3, .int (r6 + r8)), (4, .int r2)]) [0, 2, 3] rfl ?_
    obtain ⟨n0, hw⟩ := hw
    exact mb_X7_erase_63 S hlk hr hE n0 (z_up M7 13 0 ((M7 13 0) - 1)) (r6 + r8) r2 hw
  · have hw := hw.2 c4
    refine z_iconst (v := 0) S dX7_erase_26 (by decide) ?_
    exact z_iret S hr hlk dX7_erase_27 (Nat.le_refl 0) (Nat.le_refl 0) hw
theorem me_X7_erase (l : Launch) (D : va_G) (cy : Nat → ClassId) (A : Nat → Prop) (o : Nat) (ad : Nat → Nat) (post : Int32 → z_Md → Prop) (M : z_Md) (x1 : Int32) (hw : w_X7_erase post M x1) : z_Mi l yX7_erase (Cond.code yX7_erase cX7_erase 5 (some .int) :: z_T) rm_X7_erase [.ref o, .int x1] (z_EM D cy) (z_hM D cy A o ad) M post 0 0 A :=
  z_met (by decide) (Nat.le_of_ble_eq_true rfl) (fun p e s m args below meth c S hlk hr hnm hE => mb_X7_erase S hlk hr hE M x1 hw)
abbrev rm_X7_forward : Room := { frames := 3, cells := 0, slots := 0, locals := 71 }
def w_X7_forward_96 (post : Int32 → z_Md → Prop) (M : z_Md)  : Prop := (post 0 (z_up M 0 0 2))
def w_X7_forward_134 (post : Int32 → z_Md → Prop) (M : z_Md) (x2 : Int32) (x3 : Int32) (x4 : Int32) : Prop := (vp_in x3 16 ∧ (w_X7_add (fun r2 M1 => (post r2 M1)) M x2 (M 18 x3.toNatClampNeg) x4))
def w_X7_forward_24 (post : Int32 → z_Md → Prop) (M : z_Md) (x2 : Int32) (x3 : Int32) (z0 : Int32) : Prop := ((((z_up M 0 0 z0) 0 0) ≤ 0 → (vp_in x3 16 ∧ (vp_in ((3 * ((z_up M 0 0 z0) 16 x3.toNatClampNeg)) + 2) 12 ∧ (∀ x4_2 : Int32, x4_2 = (z_up M 0 0 z0) 12 ((3 * ((z_up M 0 0 z0) 16 x3.toNatClampNeg)) + 2).toNatClampNeg → (vp_in x3 16 ∧ (w_X7_cost (fun r4 M3 => (w_X7_cost (fun r6 M5 => (w_X7_isFull (fun r8 M7 => ((¬ r8 = 0 → (w_X7_forward_96 post M7 )) ∧ (r8 = 0 → (w_X7_usedBy (fun r11 M10 => (vp_in x2 4 ∧ (((r11 + (r4 + r6)) ≤ (M10 11 x2.toNatClampNeg) → (vp_in x3 16 ∧ (vp_in (M10 18 x3.toNatClampNeg) 48 ∧ (vp_in (M10 18 x3.toNatClampNeg) 48 ∧ ((x4_2 < 0 → (w_X7_forward_134 post (z_up M10 6 (M10 18 x3.toNatClampNeg).toNatClampNeg ((M10 6 (M10 18 x3.toNatClampNeg).toNatClampNeg) + 1)) x2 x3 x4_2)) ∧ (¬ x4_2 < 0 → (vp_in x4_2 48 ∧ (vp_in x4_2 48 ∧ (w_X7_forward_134 post (z_up (z_up M10 6 (M10 18 x3.toNatClampNeg).toNatClampNeg ((M10 6 (M10 18 x3.toNatClampNeg).toNatClampNeg) + 1)) 6 x4_2.toNatClampNeg (((z_up M10 6 (M10 18 x3.toNatClampNeg).toNatClampNeg ((M10 6 (M10 18 x3.toNatClampNeg).toNatClampNeg) + 1)) 6 x4_2.toNatClampNeg) + 1)) x2 x3 x4_2))))))))) ∧ (¬ (r11 + (r4 + r6)) ≤ (M10 11 x2.toNatClampNeg) → (w_X7_forward_96 post M10 ))))) M7 x2)))) M5 )) M3 x4_2)) (z_up M 0 0 z0) ((z_up M 0 0 z0) 18 x3.toNatClampNeg))))))) ∧ (¬ ((z_up M 0 0 z0) 0 0) ≤ 0 → (post 0 (z_up M 0 0 z0))))
def w_X7_forward_19 (post : Int32 → z_Md → Prop) (M : z_Md) (x2 : Int32) (x3 : Int32) : Prop := (w_X7_forward_24 post M x2 x3 1)
def w_X7_forward (post : Int32 → z_Md → Prop) (M : z_Md) (x1 : Int32) (x2 : Int32) : Prop := (w_X7_find (fun r2 M1 => ((r2 < 0 → (w_X7_forward_19 post M1 x2 r2)) ∧ (¬ r2 < 0 → (w_X7_isBox (fun r5 M4 => ((¬ r5 = 0 → (w_X7_forward_24 post M4 x2 r2 0)) ∧ (r5 = 0 → (w_X7_forward_19 post M4 x2 r2)))) M1 x2)))) M x1)
set_option maxRecDepth 20000 in
theorem mb_X7_forward_96 {p : Program} {l : Launch} {e : Env} {s : State} {m : MethodId} {args : Array Value} {below : List Frame} {meth : Method} {c : Code} {D : va_G} {cy : Nat → ClassId} {A : Nat → Prop} {o : Nat} {ad : Nat → Nat} (S : CallFix p m c cX7_forward 6 s args z_T RX7) (hlk : meth.locks = false) (hr : meth.sig.returnType = some .int) (hE : z_EM D cy s) {post : Int32 → z_Md → Prop}  (M : z_Md)  (hw : w_X7_forward_96 post M ) : z_V A (z_hM D cy A o ad) p l e rm_X7_forward s m args below meth c 6 (MQ below (va_Qi post (fun (u' : z_Md) t => z_hM D cy A o ad u' t.heap) A) args s 0 0 A) 0 0 M 96 [(0, va_rf (some o))] [] := by
  refine z_aload_n (x := some o) S 0 dX7_forward_96 rfl rfl ?_
  refine z_iconst (v := 2) S dX7_forward_97 (by decide) ?_
  refine zm_p_89 S hE dX7_forward_98 ?_
  refine z_iconst (v := 0) S dX7_forward_101 (by decide) ?_
  exact z_iret S hr hlk dX7_forward_102 (Nat.le_refl 0) (Nat.le_refl 0) hw
set_option maxRecDepth 20000 in
theorem mb_X7_forward_134 {p : Program} {l : Launch} {e : Env} {s : State} {m : MethodId} {args : Array Value} {below : List Frame} {meth : Method} {c : Code} {D : va_G} {cy : Nat → ClassId} {A : Nat → Prop} {o : Nat} {ad : Nat → Nat} (S : CallFix p m c cX7_forward 6 s args z_T RX7) (hlk : meth.locks = false) (hr : meth.sig.returnType = some .int) (hE : z_EM D cy s) {post : Int32 → z_Md → Prop}  (M : z_Md) (x2 : Int32) (x3 : Int32) (x4 : Int32) (hw : w_X7_forward_134 post M x2 x3 x4) : z_V A (z_hM D cy A o ad) p l e rm_X7_forward s m args below meth c 6 (MQ below (va_Qi post (fun (u' : z_Md) t => z_hM D cy A o ad u' t.heap) A) args s 0 0 A) 0 0 M 134 [(0, va_rf (some o)), (2, .int x2), (3, .int x3), (4, .int x4)] [] := by
  refine z_aload_n (x := some o) S 0 dX7_forward_134 rfl rfl ?_
  refine z_iload_n S 1 dX7_forward_135 rfl rfl ?_
  refine z_aload_n (x := some o) S 0 dX7_forward_136 rfl rfl ?_
  refine zm_g_53 S hE dX7_forward_137 ?_
  refine z_iload_n S 2 dX7_forward_140 rfl rfl ?_
  obtain ⟨hi3, hw⟩ := hw
  refine z_mald (j := 18) S hE rfl rfl hi3 dX7_forward_141 ?_
  refine z_iload S 3 dX7_forward_142 rfl ?_
  refine z_callVi (As := [.int x2, .int (M 18 x3.toNatClampNeg), .int x4]) (st := []) S (z_EMok D cy A) hE (me_X7_add l D cy A o ad _ M x2 (M 18 x3.toNatClampNeg) x4 hw) gV_X7_164 hdV_X7_add ⟨Nat.le_of_ble_eq_true rfl, Nat.le_of_ble_eq_true rfl⟩ rfl rfl (z_recvM hE) (fun _ h => h) (fun _ _ _ _ h => h) rfl (Nat.le_trans z_s0 (by decide)) dX7_forward_144 ⟨Nat.le_of_ble_eq_true rfl, Nat.le_of_ble_eq_true rfl⟩ rfl (fun r2 M1 hw => ?_)
  exact z_iret S hr hlk dX7_forward_147 (Nat.le_refl 0) (Nat.le_refl 0) hw
set_option maxRecDepth 20000 in
theorem mb_X7_forward_24 {p : Program} {l : Launch} {e : Env} {s : State} {m : MethodId} {args : Array Value} {below : List Frame} {meth : Method} {c : Code} {D : va_G} {cy : Nat → ClassId} {A : Nat → Prop} {o : Nat} {ad : Nat → Nat} (S : CallFix p m c cX7_forward 6 s args z_T RX7) (hlk : meth.locks = false) (hr : meth.sig.returnType = some .int) (hE : z_EM D cy s) {post : Int32 → z_Md → Prop}  (M : z_Md) (x2 : Int32) (x3 : Int32) (z0 : Int32) (hw : w_X7_forward_24 post M x2 x3 z0) : z_V A (z_hM D cy A o ad) p l e rm_X7_forward s m args below meth c 6 (MQ below (va_Qi post (fun (u' : z_Md) t => z_hM D cy A o ad u' t.heap) A) args s 0 0 A) 0 0 M 24 [(0, va_rf (some o)), (2, .int x2), (3, .int x3)] [.int z0, va_rf (some o)] := by
  refine zm_p_89 S hE dX7_forward_24 ?_
  refine z_aload_n (x := some o) S 0 dX7_forward_27 rfl rfl ?_
  refine zm_g_89 S hE dX7_forward_28 ?_
  refine z_if_le S 36 dX7_forward_31 (by decide) (fun c1 => ?_) (fun c1 => ?_)
  · have hw := hw.1 c1
    refine z_aload_n (x := some o) S 0 dX7_forward_36 rfl rfl ?_
    refine zm_g_41 S hE dX7_forward_37 ?_
    refine z_iconst (v := 3) S dX7_forward_40 (by decide) ?_
    refine z_aload_n (x := some o) S 0 dX7_forward_41 rfl rfl ?_
    refine zm_g_47 S hE dX7_forward_42 ?_
    refine z_iload_n S 2 dX7_forward_45 rfl rfl ?_
    obtain ⟨hi22, hw⟩ := hw
    refine z_mald (j := 16) S hE rfl rfl hi22 dX7_forward_46 ?_
    refine z_imul S dX7_forward_47 ?_
    refine z_iconst (v := 2) S dX7_forward_48 (by decide) ?_
    refine z_iadd S dX7_forward_49 ?_
    obtain ⟨hi21, hw⟩ := hw
    refine z_mald (j := 12) S hE rfl rfl hi21 dX7_forward_50 ?_
    refine z_top (fun x4_2 ex4_2 => ?_)
    have hw := hw x4_2 ex4_2
    refine z_istore S [(4, .int x4_2), (0, va_rf (some o)), (2, .int x2), (3, .int x3)] dX7_forward_51 (by decide) rfl ?_
    refine z_lv (lv' := [(0, va_rf (some o)), (2, .int x2), (3, .int x3), (4, .int x4_2)]) [1, 2, 3, 0] rfl ?_
    refine z_aload_n (x := some o) S 0 dX7_forward_53 rfl rfl ?_
    refine z_aload_n (x := some o) S 0 dX7_forward_54 rfl rfl ?_
    refine zm_g_53 S hE dX7_forward_55 ?_
    refine z_iload_n S 2 dX7_forward_58 rfl rfl ?_
    obtain ⟨hi20, hw⟩ := hw
    refine z_mald (j := 18) S hE rfl rfl hi20 dX7_forward_59 ?_
    refine z_callVi (As := [.int ((z_up M 0 0 z0) 18 x3.toNatClampNeg)]) (st := []) S (z_EMok D cy A) hE (me_X7_cost l D cy A o ad _ (z_up M 0 0 z0) ((z_up M 0 0 z0) 18 x3.toNatClampNeg) hw) gV_X7_124 hdV_X7_cost ⟨Nat.le_of_ble_eq_true rfl, Nat.le_of_ble_eq_true rfl⟩ rfl rfl (z_recvM hE) (fun _ h => h) (fun _ _ _ _ h => h) rfl (Nat.le_trans z_s0 (by decide)) dX7_forward_60 ⟨Nat.le_of_ble_eq_true rfl, Nat.le_of_ble_eq_true rfl⟩ rfl (fun r4 M3 hw => ?_)
    refine z_aload_n (x := some o) S 0 dX7_forward_63 rfl rfl ?_
    refine z_iload S 3 dX7_forward_64 rfl ?_
    refine z_callVi (As := [.int x4_2]) (st := [.int r4]) S (z_EMok D cy A) hE (me_X7_cost l D cy A o ad _ M3 x4_2 hw) gV_X7_124 hdV_X7_cost ⟨Nat.le_of_ble_eq_true rfl, Nat.le_of_ble_eq_true rfl⟩ rfl rfl (z_recvM hE) (fun _ h => h) (fun _ _ _ _ h => h) rfl (Nat.le_trans (z_s1 z_s0) (by decide)) dX7_forward_66 ⟨Nat.le_of_ble_eq_true rfl, Nat.le_of_ble_eq_true rfl⟩ rfl (fun r6 M5 hw => ?_)
    refine z_iadd S dX7_forward_69 ?_
    refine z_istore S [(5, .int (r4 + r6)), (0, va_rf (some o)), (2, .int x2), (3, .int x3), (4, .int x4_2)] dX7_forward_70 (by decide) rfl ?_
    refine z_lv (lv' := [(0, va_rf (some o)), (2, .int x2), (3, .int x3), (4, .int x4_2), (5, .int (r4 + r6))]) [1, 2, 3, 4, 0] rfl ?_
    refine z_aload_n (x := some o) S 0 dX7_forward_72 rfl rfl ?_
    refine z_callVi (As := []) (st := []) S (z_EMok D cy A) hE (me_X7_isFull l D cy A o ad _ M5  hw) gV_X7_134 hdV_X7_isFull ⟨Nat.le_of_ble_eq_true rfl, Nat.le_of_ble_eq_true rfl⟩ rfl rfl (z_recvM hE) (fun _ h => h) (fun _ _ _ _ h => h) rfl (Nat.le_trans z_s0 (by decide)) dX7_forward_73 ⟨Nat.le_of_ble_eq_true rfl, Nat.le_of_ble_eq_true rfl⟩ rfl (fun r8 M7 hw => ?_)
    refine z_if_ne S 96 dX7_forward_76 (by decide) (fun c9 => ?_) (fun c9 => ?_)
    · have hw := hw.1 c9
      refine z_lv (lv' := [(0, va_rf (some o))]) [0] rfl ?_
      exact mb_X7_forward_96 S hlk hr hE M7  hw
    · have hw := hw.2 c9
      refine z_aload_n (x := some o) S 0 dX7_forward_79 rfl rfl ?_
      refine z_iload_n S 1 dX7_forward_80 rfl rfl ?_
      refine z_callVi (As := [.int x2]) (st := []) S (z_EMok D cy A) hE (me_X7_usedBy l D cy A o ad _ M7 x2 hw) gV_X7_138 hdV_X7_usedBy ⟨Nat.le_of_ble_eq_true rfl, Nat.le_of_ble_eq_true rfl⟩ rfl rfl (z_recvM hE) (fun _ h => h) (fun _ _ _ _ h => h) rfl (Nat.le_trans z_s0 (by decide)) dX7_forward_81 ⟨Nat.le_of_ble_eq_true rfl, Nat.le_of_ble_eq_true rfl⟩ rfl (fun r11 M10 hw => ?_)
      refine z_iload S 4 dX7_forward_84 rfl ?_
      refine z_iadd S dX7_forward_86 ?_
      refine z_aload_n (x := some o) S 0 dX7_forward_87 rfl rfl ?_
      refine zm_g_38 S hE dX7_forward_88 ?_
      refine z_iload_n S 1 dX7_forward_91 rfl rfl ?_
      obtain ⟨hi19, hw⟩ := hw
      refine z_mald (j := 11) S hE rfl rfl hi19 dX7_forward_92 ?_
      refine z_icmp_le S 103 dX7_forward_93 (by decide) (fun c12 => ?_) (fun c12 => ?_)
      · have hw := hw.1 c12
        refine z_aload_n (x := some o) S 0 dX7_forward_103 rfl rfl ?_
        refine zm_g_25 S hE dX7_forward_104 ?_
        refine z_aload_n (x := some o) S 0 dX7_forward_107 rfl rfl ?_
        refine zm_g_53 S hE dX7_forward_108 ?_
        refine z_iload_n S 2 dX7_forward_111 rfl rfl ?_
        obtain ⟨hi18, hw⟩ := hw
        refine z_mald (j := 18) S hE rfl rfl hi18 dX7_forward_112 ?_
        refine z_dup2 S dX7_forward_113 rfl rfl ?_
        obtain ⟨hi17, hw⟩ := hw
        refine z_mald (j := 6) S hE rfl rfl hi17 dX7_forward_114 ?_
        refine z_iconst (v := 1) S dX7_forward_115 (by decide) ?_
        refine z_iadd S dX7_forward_116 ?_
        obtain ⟨hi16, hw⟩ := hw
        refine z_mast (j := 6) S hE rfl rfl hi16 dX7_forward_117 ?_
        refine z_iload S 3 dX7_forward_118 rfl ?_
        refine z_if_lt S 134 dX7_forward_120 (by decide) (fun c13 => ?_) (fun c13 => ?_)
        · have hw := hw.1 c13
          refine z_lv (lv' := [(0, va_rf (some o)), (2, .int x2), (3, .int x3), (4, .int x4_2)]) [0, 1, 2, 3] rfl ?_
          exact mb_X7_forward_134 S hlk hr hE (z_up M10 6 (M10 18 x3.toNatClampNeg).toNatClampNeg ((M10 6 (M10 18 x3.toNatClampNeg).toNatClampNeg) + 1)) x2 x3 x4_2 hw
        · have hw := hw.2 c13
          refine z_aload_n (x := some o) S 0 dX7_forward_123 rfl rfl ?_
          refine zm_g_25 S hE dX7_forward_124 ?_
          refine z_iload S 3 dX7_forward_127 rfl ?_
          refine z_dup2 S dX7_forward_129 rfl rfl ?_
          obtain ⟨hi15, hw⟩ := hw
          refine z_mald (j := 6) S hE rfl rfl hi15 dX7_forward_130 ?_
          refine z_iconst (v := 1) S dX7_forward_131 (by decide) ?_
          refine z_iadd S dX7_forward_132 ?_
          obtain ⟨hi14, hw⟩ := hw
          refine z_mast (j := 6) S hE rfl rfl hi14 dX7_forward_133 ?_
          refine z_lv (lv' := [(0, va_rf (some o)), (2, .int x2), (3, .int x3), (4, .int x4_2)]) [0, 1, 2, 3] rfl ?_
          exact mb_X7_forward_134 S hlk hr hE (z_up (z_up M10 6 (M10 18 x3.toNatClampNeg).toNatClampNeg ((M10 6 (M10 18 x3.toNatClampNeg).toNatClampNeg) + 1)) 6 x4_2.toNatClampNeg (((z_up M10 6 (M10 18 x3.toNatClampNeg).toNatClampNeg ((M10 6 (M10 18 x3.toNatClampNeg).toNatClampNeg) + 1)) 6 x4_2.toNatClampNeg) + 1)) x2 x3 x4_2 hw
      · have hw := hw.2 c12
        refine z_lv (lv' := [(0, va_rf (some o))]) [0] rfl ?_
        exact mb_X7_forward_96 S hlk hr hE M10  hw
  · have hw := hw.2 c1
    refine z_iconst (v := 0) S dX7_forward_34 (by decide) ?_
    exact z_iret S hr hlk dX7_forward_35 (Nat.le_refl 0) (Nat.le_refl 0) hw
set_option maxRecDepth 20000 in
theorem mb_X7_forward_19 {p : Program} {l : Launch} {e : Env} {s : State} {m : MethodId} {args : Array Value} {below : List Frame} {meth : Method} {c : Code} {D : va_G} {cy : Nat → ClassId} {A : Nat → Prop} {o : Nat} {ad : Nat → Nat} (S : CallFix p m c cX7_forward 6 s args z_T RX7) (hlk : meth.locks = false) (hr : meth.sig.returnType = some .int) (hE : z_EM D cy s) {post : Int32 → z_Md → Prop}  (M : z_Md) (x2 : Int32) (x3 : Int32) (hw : w_X7_forward_19 post M x2 x3) : z_V A (z_hM D cy A o ad) p l e rm_X7_forward s m args below meth c 6 (MQ below (va_Qi post (fun (u' : z_Md) t => z_hM D cy A o ad u' t.heap) A) args s 0 0 A) 0 0 M 19 [(0, va_rf (some o)), (2, .int x2), (3, .int x3)] [va_rf (some o)] := by
  refine z_iconst (v := 1) S dX7_forward_19 (by decide) ?_
  refine z_goto S 24 dX7_forward_20 (by decide) ?_
  exact mb_X7_forward_24 S hlk hr hE M x2 x3 1 hw
set_option maxRecDepth 20000 in
theorem mb_X7_forward {p : Program} {l : Launch} {e : Env} {s : State} {m : MethodId} {args : Array Value} {below : List Frame} {meth : Method} {c : Code} {D : va_G} {cy : Nat → ClassId} {A : Nat → Prop} {o : Nat} {ad : Nat → Nat} (S : CallFix p m c cX7_forward 6 s args z_T RX7) (hlk : meth.locks = false) (hr : meth.sig.returnType = some .int) (hE : z_EM D cy s) {post : Int32 → z_Md → Prop}  (M : z_Md) (x1 : Int32) (x2 : Int32) (hw : w_X7_forward post M x1 x2) : z_V A (z_hM D cy A o ad) p l e rm_X7_forward s m args below meth c 6 (MQ below (va_Qi post (fun (u' : z_Md) t => z_hM D cy A o ad u' t.heap) A) args s 0 0 A) 0 0 M 0 [(0, va_rf (some o)), (1, .int x1), (2, .int x2)] [] := by
  refine z_aload_n (x := some o) S 0 dX7_forward_0 rfl rfl ?_
  refine z_iload_n S 1 dX7_forward_1 rfl rfl ?_
  refine z_callVi (As := [.int x1]) (st := []) S (z_EMok D cy A) hE (me_X7_find l D cy A o ad _ M x1 hw) gV_X7_174 hdV_X7_find ⟨Nat.le_of_ble_eq_true rfl, Nat.le_of_ble_eq_true rfl⟩ rfl rfl (z_recvM hE) (fun _ h => h) (fun _ _ _ _ h => h) rfl (Nat.le_trans z_s0 (by decide)) dX7_forward_2 ⟨Nat.le_of_ble_eq_true rfl, Nat.le_of_ble_eq_true rfl⟩ rfl (fun r2 M1 hw => ?_)
  refine z_istore_n S [(3, .int r2), (0, va_rf (some o)), (1, .int x1), (2, .int x2)] dX7_forward_5 rfl (by decide) rfl ?_
  refine z_lv (lv' := [(0, va_rf (some o)), (1, .int x1), (2, .int x2), (3, .int r2)]) [1, 2, 3, 0] rfl ?_
  refine z_aload_n (x := some o) S 0 dX7_forward_6 rfl rfl ?_
  refine z_iload_n S 3 dX7_forward_7 rfl rfl ?_
  refine z_if_lt S 19 dX7_forward_8 (by decide) (fun c3 => ?_) (fun c3 => ?_)
  · have hw := hw.1 c3
    refine z_lv (lv' := [(0, va_rf (some o)), (2, .int x2), (3, .int r2)]) [0, 2, 3] rfl ?_
    exact mb_X7_forward_19 S hlk hr hE M1 x2 r2 hw
  · have hw := hw.2 c3
    refine z_aload_n (x := some o) S 0 dX7_forward_11 rfl rfl ?_
    refine z_iload_n S 2 dX7_forward_12 rfl rfl ?_
    refine z_callVi (As := [.int x2]) (st := [va_rf (some o)]) S (z_EMok D cy A) hE (me_X7_isBox l D cy A o ad _ M1 x2 hw) gV_X7_131 hdV_X7_isBox ⟨Nat.le_of_ble_eq_true rfl, Nat.le_of_ble_eq_true rfl⟩ rfl rfl (z_recvM hE) (fun _ h => h) (fun _ _ _ _ h => h) rfl (Nat.le_trans (z_sq z_s0) (by decide)) dX7_forward_13 ⟨Nat.le_of_ble_eq_true rfl, Nat.le_of_ble_eq_true rfl⟩ rfl (fun r5 M4 hw => ?_)
    refine z_if_ne S 23 dX7_forward_16 (by decide) (fun c6 => ?_) (fun c6 => ?_)
    · have hw := hw.1 c6
      refine z_iconst (v := 0) S dX7_forward_23 (by decide) ?_
      refine z_lv (lv' := [(0, va_rf (some o)), (2, .int x2), (3, .int r2)]) [0, 2, 3] rfl ?_
      exact mb_X7_forward_24 S hlk hr hE M4 x2 r2 0 hw
    · have hw := hw.2 c6
      refine z_lv (lv' := [(0, va_rf (some o)), (2, .int x2), (3, .int r2)]) [0, 2, 3] rfl ?_
      exact mb_X7_forward_19 S hlk hr hE M4 x2 r2 hw
theorem me_X7_forward (l : Launch) (D : va_G) (cy : Nat → ClassId) (A : Nat → Prop) (o : Nat) (ad : Nat → Nat) (post : Int32 → z_Md → Prop) (M : z_Md) (x1 : Int32) (x2 : Int32) (hw : w_X7_forward post M x1 x2) : z_Mi l yX7_forward (Cond.code yX7_forward cX7_forward 6 (some .int) :: z_T) rm_X7_forward [.ref o, .int x1, .int x2] (z_EM D cy) (z_hM D cy A o ad) M post 0 0 A :=
  z_met (by decide) (Nat.le_of_ble_eq_true rfl) (fun p e s m args below meth c S hlk hr hnm hE => mb_X7_forward S hlk hr hE M x1 x2 hw)
abbrev rm_X7_duration : Room := { frames := 2, cells := 0, slots := 0, locals := 48 }
def w_X7_duration (post : Int32 → z_Md → Prop) (M : z_Md) (x1 : Int32) : Prop := (w_X7_find (fun r2 M1 => (∀ y3 : Int32, y3 = (if 0 ≤ r2 then 0 else 1) → ((0 ≤ r2 → (vp_in r2 16 ∧ (w_X7_frames (fun r6 M5 => (vp_in r2 16 ∧ (w_X7_frames (fun r8 M7 => (post (8 * (r6 + r8)) M7)) M5 (M5 19 r2.toNatClampNeg)))) (z_up M1 0 0 y3) ((z_up M1 0 0 y3) 18 r2.toNatClampNeg)))) ∧ (¬ 0 ≤ r2 → (post 0 (z_up M1 0 0 y3)))))) M x1)
set_option maxRecDepth 20000 in
theorem mb_X7_duration {p : Program} {l : Launch} {e : Env} {s : State} {m : MethodId} {args : Array Value} {below : List Frame} {meth : Method} {c : Code} {D : va_G} {cy : Nat → ClassId} {A : Nat → Prop} {o : Nat} {ad : Nat → Nat} (S : CallFix p m c cX7_duration 3 s args z_T RX7) (hlk : meth.locks = false) (hr : meth.sig.returnType = some .int) (hE : z_EM D cy s) {post : Int32 → z_Md → Prop}  (M : z_Md) (x1 : Int32) (hw : w_X7_duration post M x1) : z_V A (z_hM D cy A o ad) p l e rm_X7_duration s m args below meth c 3 (MQ below (va_Qi post (fun (u' : z_Md) t => z_hM D cy A o ad u' t.heap) A) args s 0 0 A) 0 0 M 0 [(0, va_rf (some o)), (1, .int x1)] [] := by
  refine z_aload_n (x := some o) S 0 dX7_duration_0 rfl rfl ?_
  refine z_iload_n S 1 dX7_duration_1 rfl rfl ?_
  refine z_callVi (As := [.int x1]) (st := []) S (z_EMok D cy A) hE (me_X7_find l D cy A o ad _ M x1 hw) gV_X7_174 hdV_X7_find ⟨Nat.le_of_ble_eq_true rfl, Nat.le_of_ble_eq_true rfl⟩ rfl rfl (z_recvM hE) (fun _ h => h) (fun _ _ _ _ h => h) rfl (Nat.le_trans z_s0 (by decide)) dX7_duration_2 ⟨Nat.le_of_ble_eq_true rfl, Nat.le_of_ble_eq_true rfl⟩ rfl (fun r2 M1 hw => ?_)
  refine z_istore_n S [(2, .int r2), (0, va_rf (some o)), (1, .int x1)] dX7_duration_5 rfl (by decide) rfl ?_
  refine z_lv (lv' := [(0, va_rf (some o)), (1, .int x1), (2, .int r2)]) [1, 2, 0] rfl ?_
  refine z_aload_n (x := some o) S 0 dX7_duration_6 rfl rfl ?_
  refine z_iload_n S 2 dX7_duration_7 rfl rfl ?_
  suffices hJ : ∀ y3 : Int32, y3 = (if 0 ≤ r2 then 0 else 1) → z_V A (z_hM D cy A o ad) p l e rm_X7_duration s m args below meth c 3 (MQ below (va_Qi post (fun (u' : z_Md) t => z_hM D cy A o ad u' t.heap) A) args s 0 0 A) 0 0 M1 16 [(0, va_rf (some o)), (2, .int r2)] [.int y3, va_rf (some o)] from by
    refine z_if_ge S 15 dX7_duration_8 (by decide) (fun c11 => ?_) (fun c11 => ?_)
    · refine z_iconst (v := 0) S dX7_duration_15 (by decide) ?_
      refine z_lv (lv' := [(0, va_rf (some o)), (2, .int r2)]) [0, 2] rfl ?_
      exact hJ _ (by rw [if_pos c11])
    · refine z_iconst (v := 1) S dX7_duration_11 (by decide) ?_
      refine z_goto S 16 dX7_duration_12 (by decide) ?_
      refine z_lv (lv' := [(0, va_rf (some o)), (2, .int r2)]) [0, 2] rfl ?_
      exact hJ _ (by rw [if_neg c11])
  intro y3 ey3
  have hw := hw y3 ey3
  refine zm_p_89 S hE dX7_duration_16 ?_
  refine z_iload_n S 1 dX7_duration_19 rfl rfl ?_
  refine z_if_ge S 27 dX7_duration_20 (by decide) (fun c4 => ?_) (fun c4 => ?_)
  · have hw := hw.1 c4
    refine z_bipush (v := 8) S dX7_duration_27 (by decide) ?_
    refine z_aload_n (x := some o) S 0 dX7_duration_29 rfl rfl ?_
    refine z_aload_n (x := some o) S 0 dX7_duration_30 rfl rfl ?_
    refine zm_g_53 S hE dX7_duration_31 ?_
    refine z_iload_n S 1 dX7_duration_34 rfl rfl ?_
    obtain ⟨hi10, hw⟩ := hw
    refine z_mald (j := 18) S hE rfl rfl hi10 dX7_duration_35 ?_
    refine z_callVi (As := [.int ((z_up M1 0 0 y3) 18 r2.toNatClampNeg)]) (st := [.int 8]) S (z_EMok D cy A) hE (me_X7_frames l D cy A o ad _ (z_up M1 0 0 y3) ((z_up M1 0 0 y3) 18 r2.toNatClampNeg) hw) gV_X7_177 hdV_X7_frames ⟨Nat.le_of_ble_eq_true rfl, Nat.le_of_ble_eq_true rfl⟩ rfl rfl (z_recvM hE) (fun _ h => h) (fun _ _ _ _ h => h) rfl (Nat.le_trans (z_s1 z_s0) (by decide)) dX7_duration_36 ⟨Nat.le_of_ble_eq_true rfl, Nat.le_of_ble_eq_true rfl⟩ rfl (fun r6 M5 hw => ?_)
    refine z_aload_n (x := some o) S 0 dX7_duration_39 rfl rfl ?_
    refine z_aload_n (x := some o) S 0 dX7_duration_40 rfl rfl ?_
    refine zm_g_56 S hE dX7_duration_41 ?_
    refine z_iload_n S 1 dX7_duration_44 rfl rfl ?_
    obtain ⟨hi9, hw⟩ := hw
    refine z_mald (j := 19) S hE rfl rfl hi9 dX7_duration_45 ?_
    refine z_callVi (As := [.int (M5 19 r2.toNatClampNeg)]) (st := [.int r6, .int 8]) S (z_EMok D cy A) hE (me_X7_frames l D cy A o ad _ M5 (M5 19 r2.toNatClampNeg) hw) gV_X7_177 hdV_X7_frames ⟨Nat.le_of_ble_eq_true rfl, Nat.le_of_ble_eq_true rfl⟩ rfl rfl (z_recvM hE) (fun _ h => h) (fun _ _ _ _ h => h) rfl (Nat.le_trans (z_s1 (z_s1 z_s0)) (by decide)) dX7_duration_46 ⟨Nat.le_of_ble_eq_true rfl, Nat.le_of_ble_eq_true rfl⟩ rfl (fun r8 M7 hw => ?_)
    refine z_iadd S dX7_duration_49 ?_
    refine z_imul S dX7_duration_50 ?_
    exact z_iret S hr hlk dX7_duration_51 (Nat.le_refl 0) (Nat.le_refl 0) hw
  · have hw := hw.2 c4
    refine z_iconst (v := 0) S dX7_duration_23 (by decide) ?_
    refine z_goto S 51 dX7_duration_24 (by decide) ?_
    exact z_iret S hr hlk dX7_duration_51 (Nat.le_refl 0) (Nat.le_refl 0) hw
theorem me_X7_duration (l : Launch) (D : va_G) (cy : Nat → ClassId) (A : Nat → Prop) (o : Nat) (ad : Nat → Nat) (post : Int32 → z_Md → Prop) (M : z_Md) (x1 : Int32) (hw : w_X7_duration post M x1) : z_Mi l yX7_duration (Cond.code yX7_duration cX7_duration 3 (some .int) :: z_T) rm_X7_duration [.ref o, .int x1] (z_EM D cy) (z_hM D cy A o ad) M post 0 0 A :=
  z_met (by decide) (Nat.le_of_ble_eq_true rfl) (fun p e s m args below meth c S hlk hr hnm hE => mb_X7_duration S hlk hr hE M x1 hw)
abbrev rm_X7_play : Room := { frames := 2, cells := 0, slots := 0, locals := 52 }
def w_X7_play_53 (post : Int32 → z_Md → Prop) (M : z_Md) (x2 : Int32) (x3 : Int32) (x4 : Int32) (z0 : Int32) : Prop := (∀ y1 : Int32, y1 = (if 0 ≤ x3 then (if x2 < 0 then 2 else (if x2 < z0 then 0 else 2)) else 1) → ((((z_up M 0 0 y1) 0 0) ≤ 0 → ((x4 ≤ x2 → (vp_in x3 16 ∧ (w_X7_sound (fun r5 M4 => (post r5 M4)) (z_up M 0 0 y1) ((z_up M 0 0 y1) 18 x3.toNatClampNeg) (x2 - x4)))) ∧ (¬ x4 ≤ x2 → (vp_in x3 16 ∧ (w_X7_sound (fun r8 M7 => (post r8 M7)) (z_up M 0 0 y1) ((z_up M 0 0 y1) 19 x3.toNatClampNeg) x2))))) ∧ (¬ ((z_up M 0 0 y1) 0 0) ≤ 0 → (post 0 (z_up M 0 0 y1)))))
def w_X7_play_27 (post : Int32 → z_Md → Prop) (M : z_Md) (x2 : Int32) (x3 : Int32) (z0 : Int32) : Prop := ((0 ≤ x3 → (vp_in x3 16 ∧ (w_X7_frames (fun r3 M2 => (w_X7_play_53 post M2 x2 x3 z0 (z0 + (8 * r3)))) M (M 18 x3.toNatClampNeg)))) ∧ (¬ 0 ≤ x3 → (w_X7_play_53 post M x2 x3 z0 0)))
def w_X7_play (post : Int32 → z_Md → Prop) (M : z_Md) (x1 : Int32) (x2 : Int32) : Prop := (w_X7_find (fun r2 M1 => ((0 ≤ r2 → (vp_in r2 16 ∧ (w_X7_frames (fun r5 M4 => (w_X7_play_27 post M4 x2 r2 (8 * r5))) M1 (M1 19 r2.toNatClampNeg)))) ∧ (¬ 0 ≤ r2 → (w_X7_play_27 post M1 x2 r2 0)))) M x1)
set_option maxRecDepth 20000 in
theorem mb_X7_play_53 {p : Program} {l : Launch} {e : Env} {s : State} {m : MethodId} {args : Array Value} {below : List Frame} {meth : Method} {c : Code} {D : va_G} {cy : Nat → ClassId} {A : Nat → Prop} {o : Nat} {ad : Nat → Nat} (S : CallFix p m c cX7_play 6 s args z_T RX7) (hlk : meth.locks = false) (hr : meth.sig.returnType = some .int) (hE : z_EM D cy s) {post : Int32 → z_Md → Prop}  (M : z_Md) (x2 : Int32) (x3 : Int32) (x4 : Int32) (z0 : Int32) (hw : w_X7_play_53 post M x2 x3 x4 z0) : z_V A (z_hM D cy A o ad) p l e rm_X7_play s m args below meth c 6 (MQ below (va_Qi post (fun (u' : z_Md) t => z_hM D cy A o ad u' t.heap) A) args s 0 0 A) 0 0 M 53 [(0, va_rf (some o)), (2, .int x2), (3, .int x3), (4, .int x4)] [.int z0] := by
  refine z_istore S [(5, .int z0), (0, va_rf (some o)), (2, .int x2), (3, .int x3), (4, .int x4)] dX7_play_53 (by decide) rfl ?_
  refine z_lv (lv' := [(0, va_rf (some o)), (2, .int x2), (3, .int x3), (4, .int x4), (5, .int z0)]) [1, 2, 3, 4, 0] rfl ?_
  refine z_aload_n (x := some o) S 0 dX7_play_55 rfl rfl ?_
  refine z_iload_n S 2 dX7_play_56 rfl rfl ?_
  suffices hJ : ∀ y1 : Int32, y1 = (if 0 ≤ x3 then (if x2 < 0 then 2 else (if x2 < z0 then 0 else 2)) else 1) → z_V A (z_hM D cy A o ad) p l e rm_X7_play s m args below meth c 6 (MQ below (va_Qi post (fun (u' : z_Md) t => z_hM D cy A o ad u' t.heap) A) args s 0 0 A) 0 0 M 79 [(0, va_rf (some o)), (2, .int x2), (3, .int x3), (4, .int x4)] [.int y1, va_rf (some o)] from by
    refine z_if_ge S 64 dX7_play_57 (by decide) (fun c10 => ?_) (fun c10 => ?_)
    · refine z_iload_n S 1 dX7_play_64 rfl rfl ?_
      refine z_if_lt S 74 dX7_play_65 (by decide) (fun c11 => ?_) (fun c11 => ?_)
      · refine z_iconst (v := 2) S dX7_play_74 (by decide) ?_
        refine z_goto S 79 dX7_play_75 (by decide) ?_
        refine z_lv (lv' := [(0, va_rf (some o)), (2, .int x2), (3, .int x3), (4, .int x4)]) [0, 1, 2, 3] rfl ?_
        exact hJ _ (by rw [if_pos c10, if_pos c11])
      · refine z_iload_n S 1 dX7_play_68 rfl rfl ?_
        refine z_iload S 4 dX7_play_69 rfl ?_
        refine z_icmp_lt S 78 dX7_play_71 (by decide) (fun c12 => ?_) (fun c12 => ?_)
        · refine z_iconst (v := 0) S dX7_play_78 (by decide) ?_
          refine z_lv (lv' := [(0, va_rf (some o)), (2, .int x2), (3, .int x3), (4, .int x4)]) [0, 1, 2, 3] rfl ?_
          exact hJ _ (by rw [if_pos c10, if_neg c11, if_pos c12])
        · refine z_iconst (v := 2) S dX7_play_74 (by decide) ?_
          refine z_goto S 79 dX7_play_75 (by decide) ?_
          refine z_lv (lv' := [(0, va_rf (some o)), (2, .int x2), (3, .int x3), (4, .int x4)]) [0, 1, 2, 3] rfl ?_
          exact hJ _ (by rw [if_pos c10, if_neg c11, if_neg c12])
    · refine z_iconst (v := 1) S dX7_play_60 (by decide) ?_
      refine z_goto S 79 dX7_play_61 (by decide) ?_
      refine z_lv (lv' := [(0, va_rf (some o)), (2, .int x2), (3, .int x3), (4, .int x4)]) [0, 1, 2, 3] rfl ?_
      exact hJ _ (by rw [if_neg c10])
  intro y1 ey1
  have hw := hw y1 ey1
  refine zm_p_89 S hE dX7_play_79 ?_
  refine z_aload_n (x := some o) S 0 dX7_play_82 rfl rfl ?_
  refine zm_g_89 S hE dX7_play_83 ?_
  refine z_if_le S 91 dX7_play_86 (by decide) (fun c2 => ?_) (fun c2 => ?_)
  · have hw := hw.1 c2
    refine z_iload_n S 1 dX7_play_91 rfl rfl ?_
    refine z_iload S 3 dX7_play_92 rfl ?_
    refine z_icmp_ge S 111 dX7_play_94 (by decide) (fun c3 => ?_) (fun c3 => ?_)
    · have hw := hw.1 c3
      refine z_aload_n (x := some o) S 0 dX7_play_111 rfl rfl ?_
      refine z_aload_n (x := some o) S 0 dX7_play_112 rfl rfl ?_
      refine zm_g_53 S hE dX7_play_113 ?_
      refine z_iload_n S 2 dX7_play_116 rfl rfl ?_
      obtain ⟨hi6, hw⟩ := hw
      refine z_mald (j := 18) S hE rfl rfl hi6 dX7_play_117 ?_
      refine z_iload_n S 1 dX7_play_118 rfl rfl ?_
      refine z_iload S 3 dX7_play_119 rfl ?_
      refine z_isub S dX7_play_121 ?_
      refine z_callVi (As := [.int ((z_up M 0 0 y1) 18 x3.toNatClampNeg), .int (x2 - x4)]) (st := []) S (z_EMok D cy A) hE (me_X7_sound l D cy A o ad _ (z_up M 0 0 y1) ((z_up M 0 0 y1) 18 x3.toNatClampNeg) (x2 - x4) hw) gV_X7_180 hdV_X7_sound ⟨Nat.le_of_ble_eq_true rfl, Nat.le_of_ble_eq_true rfl⟩ rfl rfl (z_recvM hE) (fun _ h => h) (fun _ _ _ _ h => h) rfl (Nat.le_trans z_s0 (by decide)) dX7_play_122 ⟨Nat.le_of_ble_eq_true rfl, Nat.le_of_ble_eq_true rfl⟩ rfl (fun r5 M4 hw => ?_)
      exact z_iret S hr hlk dX7_play_125 (Nat.le_refl 0) (Nat.le_refl 0) hw
    · have hw := hw.2 c3
      refine z_aload_n (x := some o) S 0 dX7_play_97 rfl rfl ?_
      refine z_aload_n (x := some o) S 0 dX7_play_98 rfl rfl ?_
      refine zm_g_56 S hE dX7_play_99 ?_
      refine z_iload_n S 2 dX7_play_102 rfl rfl ?_
      obtain ⟨hi9, hw⟩ := hw
      refine z_mald (j := 19) S hE rfl rfl hi9 dX7_play_103 ?_
      refine z_iload_n S 1 dX7_play_104 rfl rfl ?_
      refine z_callVi (As := [.int ((z_up M 0 0 y1) 19 x3.toNatClampNeg), .int x2]) (st := []) S (z_EMok D cy A) hE (me_X7_sound l D cy A o ad _ (z_up M 0 0 y1) ((z_up M 0 0 y1) 19 x3.toNatClampNeg) x2 hw) gV_X7_180 hdV_X7_sound ⟨Nat.le_of_ble_eq_true rfl, Nat.le_of_ble_eq_true rfl⟩ rfl rfl (z_recvM hE) (fun _ h => h) (fun _ _ _ _ h => h) rfl (Nat.le_trans z_s0 (by decide)) dX7_play_105 ⟨Nat.le_of_ble_eq_true rfl, Nat.le_of_ble_eq_true rfl⟩ rfl (fun r8 M7 hw => ?_)
      refine z_goto S 125 dX7_play_108 (by decide) ?_
      exact z_iret S hr hlk dX7_play_125 (Nat.le_refl 0) (Nat.le_refl 0) hw
  · have hw := hw.2 c2
    refine z_iconst (v := 0) S dX7_play_89 (by decide) ?_
    exact z_iret S hr hlk dX7_play_90 (Nat.le_refl 0) (Nat.le_refl 0) hw
set_option maxRecDepth 20000 in
theorem mb_X7_play_27 {p : Program} {l : Launch} {e : Env} {s : State} {m : MethodId} {args : Array Value} {below : List Frame} {meth : Method} {c : Code} {D : va_G} {cy : Nat → ClassId} {A : Nat → Prop} {o : Nat} {ad : Nat → Nat} (S : CallFix p m c cX7_play 6 s args z_T RX7) (hlk : meth.locks = false) (hr : meth.sig.returnType = some .int) (hE : z_EM D cy s) {post : Int32 → z_Md → Prop}  (M : z_Md) (x2 : Int32) (x3 : Int32) (z0 : Int32) (hw : w_X7_play_27 post M x2 x3 z0) : z_V A (z_hM D cy A o ad) p l e rm_X7_play s m args below meth c 6 (MQ below (va_Qi post (fun (u' : z_Md) t => z_hM D cy A o ad u' t.heap) A) args s 0 0 A) 0 0 M 27 [(0, va_rf (some o)), (2, .int x2), (3, .int x3)] [.int z0] := by
  refine z_istore S [(4, .int z0), (0, va_rf (some o)), (2, .int x2), (3, .int x3)] dX7_play_27 (by decide) rfl ?_
  refine z_lv (lv' := [(0, va_rf (some o)), (2, .int x2), (3, .int x3), (4, .int z0)]) [1, 2, 3, 0] rfl ?_
  refine z_iload_n S 2 dX7_play_29 rfl rfl ?_
  refine z_if_ge S 37 dX7_play_30 (by decide) (fun c1 => ?_) (fun c1 => ?_)
  · have hw := hw.1 c1
    refine z_iload S 3 dX7_play_37 rfl ?_
    refine z_bipush (v := 8) S dX7_play_39 (by decide) ?_
    refine z_aload_n (x := some o) S 0 dX7_play_41 rfl rfl ?_
    refine z_aload_n (x := some o) S 0 dX7_play_42 rfl rfl ?_
    refine zm_g_53 S hE dX7_play_43 ?_
    refine z_iload_n S 2 dX7_play_46 rfl rfl ?_
    obtain ⟨hi4, hw⟩ := hw
    refine z_mald (j := 18) S hE rfl rfl hi4 dX7_play_47 ?_
    refine z_callVi (As := [.int (M 18 x3.toNatClampNeg)]) (st := [.int 8, .int z0]) S (z_EMok D cy A) hE (me_X7_frames l D cy A o ad _ M (M 18 x3.toNatClampNeg) hw) gV_X7_177 hdV_X7_frames ⟨Nat.le_of_ble_eq_true rfl, Nat.le_of_ble_eq_true rfl⟩ rfl rfl (z_recvM hE) (fun _ h => h) (fun _ _ _ _ h => h) rfl (Nat.le_trans (z_s1 (z_s1 z_s0)) (by decide)) dX7_play_48 ⟨Nat.le_of_ble_eq_true rfl, Nat.le_of_ble_eq_true rfl⟩ rfl (fun r3 M2 hw => ?_)
    refine z_imul S dX7_play_51 ?_
    refine z_iadd S dX7_play_52 ?_
    exact mb_X7_play_53 S hlk hr hE M2 x2 x3 z0 (z0 + (8 * r3)) hw
  · have hw := hw.2 c1
    refine z_iconst (v := 0) S dX7_play_33 (by decide) ?_
    refine z_goto S 53 dX7_play_34 (by decide) ?_
    exact mb_X7_play_53 S hlk hr hE M x2 x3 z0 0 hw
set_option maxRecDepth 20000 in
theorem mb_X7_play {p : Program} {l : Launch} {e : Env} {s : State} {m : MethodId} {args : Array Value} {below : List Frame} {meth : Method} {c : Code} {D : va_G} {cy : Nat → ClassId} {A : Nat → Prop} {o : Nat} {ad : Nat → Nat} (S : CallFix p m c cX7_play 6 s args z_T RX7) (hlk : meth.locks = false) (hr : meth.sig.returnType = some .int) (hE : z_EM D cy s) {post : Int32 → z_Md → Prop}  (M : z_Md) (x1 : Int32) (x2 : Int32) (hw : w_X7_play post M x1 x2) : z_V A (z_hM D cy A o ad) p l e rm_X7_play s m args below meth c 6 (MQ below (va_Qi post (fun (u' : z_Md) t => z_hM D cy A o ad u' t.heap) A) args s 0 0 A) 0 0 M 0 [(0, va_rf (some o)), (1, .int x1), (2, .int x2)] [] := by
  refine z_aload_n (x := some o) S 0 dX7_play_0 rfl rfl ?_
  refine z_iload_n S 1 dX7_play_1 rfl rfl ?_
  refine z_callVi (As := [.int x1]) (st := []) S (z_EMok D cy A) hE (me_X7_find l D cy A o ad _ M x1 hw) gV_X7_174 hdV_X7_find ⟨Nat.le_of_ble_eq_true rfl, Nat.le_of_ble_eq_true rfl⟩ rfl rfl (z_recvM hE) (fun _ h => h) (fun _ _ _ _ h => h) rfl (Nat.le_trans z_s0 (by decide)) dX7_play_2 ⟨Nat.le_of_ble_eq_true rfl, Nat.le_of_ble_eq_true rfl⟩ rfl (fun r2 M1 hw => ?_)
  refine z_istore_n S [(3, .int r2), (0, va_rf (some o)), (1, .int x1), (2, .int x2)] dX7_play_5 rfl (by decide) rfl ?_
  refine z_lv (lv' := [(0, va_rf (some o)), (1, .int x1), (2, .int x2), (3, .int r2)]) [1, 2, 3, 0] rfl ?_
  refine z_iload_n S 3 dX7_play_6 rfl rfl ?_
  refine z_if_ge S 14 dX7_play_7 (by decide) (fun c3 => ?_) (fun c3 => ?_)
  · have hw := hw.1 c3
    refine z_bipush (v := 8) S dX7_play_14 (by decide) ?_
    refine z_aload_n (x := some o) S 0 dX7_play_16 rfl rfl ?_
    refine z_aload_n (x := some o) S 0 dX7_play_17 rfl rfl ?_
    refine zm_g_56 S hE dX7_play_18 ?_
    refine z_iload_n S 3 dX7_play_21 rfl rfl ?_
    obtain ⟨hi6, hw⟩ := hw
    refine z_mald (j := 19) S hE rfl rfl hi6 dX7_play_22 ?_
    refine z_callVi (As := [.int (M1 19 r2.toNatClampNeg)]) (st := [.int 8]) S (z_EMok D cy A) hE (me_X7_frames l D cy A o ad _ M1 (M1 19 r2.toNatClampNeg) hw) gV_X7_177 hdV_X7_frames ⟨Nat.le_of_ble_eq_true rfl, Nat.le_of_ble_eq_true rfl⟩ rfl rfl (z_recvM hE) (fun _ h => h) (fun _ _ _ _ h => h) rfl (Nat.le_trans (z_s1 z_s0) (by decide)) dX7_play_23 ⟨Nat.le_of_ble_eq_true rfl, Nat.le_of_ble_eq_true rfl⟩ rfl (fun r5 M4 hw => ?_)
    refine z_imul S dX7_play_26 ?_
    refine z_lv (lv' := [(0, va_rf (some o)), (2, .int x2), (3, .int r2)]) [0, 2, 3] rfl ?_
    exact mb_X7_play_27 S hlk hr hE M4 x2 r2 (8 * r5) hw
  · have hw := hw.2 c3
    refine z_iconst (v := 0) S dX7_play_10 (by decide) ?_
    refine z_goto S 27 dX7_play_11 (by decide) ?_
    refine z_lv (lv' := [(0, va_rf (some o)), (2, .int x2), (3, .int r2)]) [0, 2, 3] rfl ?_
    exact mb_X7_play_27 S hlk hr hE M1 x2 r2 0 hw
theorem me_X7_play (l : Launch) (D : va_G) (cy : Nat → ClassId) (A : Nat → Prop) (o : Nat) (ad : Nat → Nat) (post : Int32 → z_Md → Prop) (M : z_Md) (x1 : Int32) (x2 : Int32) (hw : w_X7_play post M x1 x2) : z_Mi l yX7_play (Cond.code yX7_play cX7_play 6 (some .int) :: z_T) rm_X7_play [.ref o, .int x1, .int x2] (z_EM D cy) (z_hM D cy A o ad) M post 0 0 A :=
  z_met (by decide) (Nat.le_of_ble_eq_true rfl) (fun p e s m args below meth c S hlk hr hnm hE => mb_X7_play S hlk hr hE M x1 x2 hw)
abbrev rm_X7_length : Room := { frames := 2, cells := 0, slots := 0, locals := 48 }
def w_X7_length (post : Int32 → z_Md → Prop) (M : z_Md) (x1 : Int32) (x2 : Int32) : Prop := (w_X7_isBox (fun r2 M1 => (∀ y3 : Int32, y3 = (if r2 = 0 then 1 else (if x2 < 0 then 2 else (if x2 ≤ 2 then 0 else 2))) → ((((z_up M1 0 0 y3) 0 0) ≤ 0 → (vp_in ((3 * x1) + x2) 12 ∧ (w_X7_frames (fun r6 M5 => (post (8 * r6) M5)) (z_up M1 0 0 y3) ((z_up M1 0 0 y3) 12 ((3 * x1) + x2).toNatClampNeg)))) ∧ (¬ ((z_up M1 0 0 y3) 0 0) ≤ 0 → (post 0 (z_up M1 0 0 y3)))))) M x1)
set_option maxRecDepth 20000 in
theorem mb_X7_length {p : Program} {l : Launch} {e : Env} {s : State} {m : MethodId} {args : Array Value} {below : List Frame} {meth : Method} {c : Code} {D : va_G} {cy : Nat → ClassId} {A : Nat → Prop} {o : Nat} {ad : Nat → Nat} (S : CallFix p m c cX7_length 3 s args z_T RX7) (hlk : meth.locks = false) (hr : meth.sig.returnType = some .int) (hE : z_EM D cy s) {post : Int32 → z_Md → Prop}  (M : z_Md) (x1 : Int32) (x2 : Int32) (hw : w_X7_length post M x1 x2) : z_V A (z_hM D cy A o ad) p l e rm_X7_length s m args below meth c 3 (MQ below (va_Qi post (fun (u' : z_Md) t => z_hM D cy A o ad u' t.heap) A) args s 0 0 A) 0 0 M 0 [(0, va_rf (some o)), (1, .int x1), (2, .int x2)] [] := by
  refine z_aload_n (x := some o) S 0 dX7_length_0 rfl rfl ?_
  refine z_aload_n (x := some o) S 0 dX7_length_1 rfl rfl ?_
  refine z_iload_n S 1 dX7_length_2 rfl rfl ?_
  refine z_callVi (As := [.int x1]) (st := [va_rf (some o)]) S (z_EMok D cy A) hE (me_X7_isBox l D cy A o ad _ M x1 hw) gV_X7_131 hdV_X7_isBox ⟨Nat.le_of_ble_eq_true rfl, Nat.le_of_ble_eq_true rfl⟩ rfl rfl (z_recvM hE) (fun _ h => h) (fun _ _ _ _ h => h) rfl (Nat.le_trans (z_sq z_s0) (by decide)) dX7_length_3 ⟨Nat.le_of_ble_eq_true rfl, Nat.le_of_ble_eq_true rfl⟩ rfl (fun r2 M1 hw => ?_)
  suffices hJ : ∀ y3 : Int32, y3 = (if r2 = 0 then 1 else (if x2 < 0 then 2 else (if x2 ≤ 2 then 0 else 2))) → z_V A (z_hM D cy A o ad) p l e rm_X7_length s m args below meth c 3 (MQ below (va_Qi post (fun (u' : z_Md) t => z_hM D cy A o ad u' t.heap) A) args s 0 0 A) 0 0 M1 27 [(0, va_rf (some o)), (1, .int x1), (2, .int x2)] [.int y3, va_rf (some o)] from by
    refine z_if_ne S 13 dX7_length_6 (by decide) (fun c8 => ?_) (fun c8 => ?_)
    · refine z_iload_n S 2 dX7_length_13 rfl rfl ?_
      refine z_if_lt S 22 dX7_length_14 (by decide) (fun c9 => ?_) (fun c9 => ?_)
      · refine z_iconst (v := 2) S dX7_length_22 (by decide) ?_
        refine z_goto S 27 dX7_length_23 (by decide) ?_
        exact hJ _ (by rw [if_neg c8, if_pos c9])
      · refine z_iload_n S 2 dX7_length_17 rfl rfl ?_
        refine z_iconst (v := 2) S dX7_length_18 (by decide) ?_
        refine z_icmp_le S 26 dX7_length_19 (by decide) (fun c10 => ?_) (fun c10 => ?_)
        · refine z_iconst (v := 0) S dX7_length_26 (by decide) ?_
          exact hJ _ (by rw [if_neg c8, if_neg c9, if_pos c10])
        · refine z_iconst (v := 2) S dX7_length_22 (by decide) ?_
          refine z_goto S 27 dX7_length_23 (by decide) ?_
          exact hJ _ (by rw [if_neg c8, if_neg c9, if_neg c10])
    · refine z_iconst (v := 1) S dX7_length_9 (by decide) ?_
      refine z_goto S 27 dX7_length_10 (by decide) ?_
      exact hJ _ (by rw [if_pos c8])
  intro y3 ey3
  have hw := hw y3 ey3
  refine zm_p_89 S hE dX7_length_27 ?_
  refine z_aload_n (x := some o) S 0 dX7_length_30 rfl rfl ?_
  refine zm_g_89 S hE dX7_length_31 ?_
  refine z_if_le S 41 dX7_length_34 (by decide) (fun c4 => ?_) (fun c4 => ?_)
  · have hw := hw.1 c4
    refine z_bipush (v := 8) S dX7_length_41 (by decide) ?_
    refine z_aload_n (x := some o) S 0 dX7_length_43 rfl rfl ?_
    refine z_aload_n (x := some o) S 0 dX7_length_44 rfl rfl ?_
    refine zm_g_41 S hE dX7_length_45 ?_
    refine z_iconst (v := 3) S dX7_length_48 (by decide) ?_
    refine z_iload_n S 1 dX7_length_49 rfl rfl ?_
    refine z_imul S dX7_length_50 ?_
    refine z_iload_n S 2 dX7_length_51 rfl rfl ?_
    refine z_iadd S dX7_length_52 ?_
    obtain ⟨hi7, hw⟩ := hw
    refine z_mald (j := 12) S hE rfl rfl hi7 dX7_length_53 ?_
    refine z_callVi (As := [.int ((z_up M1 0 0 y3) 12 ((3 * x1) + x2).toNatClampNeg)]) (st := [.int 8]) S (z_EMok D cy A) hE (me_X7_frames l D cy A o ad _ (z_up M1 0 0 y3) ((z_up M1 0 0 y3) 12 ((3 * x1) + x2).toNatClampNeg) hw) gV_X7_177 hdV_X7_frames ⟨Nat.le_of_ble_eq_true rfl, Nat.le_of_ble_eq_true rfl⟩ rfl rfl (z_recvM hE) (fun _ h => h) (fun _ _ _ _ h => h) rfl (Nat.le_trans (z_s1 z_s0) (by decide)) dX7_length_54 ⟨Nat.le_of_ble_eq_true rfl, Nat.le_of_ble_eq_true rfl⟩ rfl (fun r6 M5 hw => ?_)
    refine z_imul S dX7_length_57 ?_
    exact z_iret S hr hlk dX7_length_58 (Nat.le_refl 0) (Nat.le_refl 0) hw
  · have hw := hw.2 c4
    refine z_iconst (v := 0) S dX7_length_37 (by decide) ?_
    refine z_goto S 58 dX7_length_38 (by decide) ?_
    exact z_iret S hr hlk dX7_length_58 (Nat.le_refl 0) (Nat.le_refl 0) hw
theorem me_X7_length (l : Launch) (D : va_G) (cy : Nat → ClassId) (A : Nat → Prop) (o : Nat) (ad : Nat → Nat) (post : Int32 → z_Md → Prop) (M : z_Md) (x1 : Int32) (x2 : Int32) (hw : w_X7_length post M x1 x2) : z_Mi l yX7_length (Cond.code yX7_length cX7_length 3 (some .int) :: z_T) rm_X7_length [.ref o, .int x1, .int x2] (z_EM D cy) (z_hM D cy A o ad) M post 0 0 A :=
  z_met (by decide) (Nat.le_of_ble_eq_true rfl) (fun p e s m args below meth c S hlk hr hnm hE => mb_X7_length S hlk hr hE M x1 x2 hw)
abbrev rm_X7_greeting : Room := { frames := 2, cells := 0, slots := 0, locals := 52 }
def w_X7_greeting_74 (post : Int32 → z_Md → Prop) (M : z_Md) (x3 : Int32) (x4 : Int32) (z0 : Int32) : Prop := ((((z_up M 0 0 z0) 0 0) ≤ 0 → (w_X7_sound (fun r3 M2 => (post r3 M2)) (z_up M 0 0 z0) x4 x3)) ∧ (¬ ((z_up M 0 0 z0) 0 0) ≤ 0 → (post 0 (z_up M 0 0 z0))))
def w_X7_greeting_69 (post : Int32 → z_Md → Prop) (M : z_Md) (x3 : Int32) (x4 : Int32) : Prop := (w_X7_greeting_74 post M x3 x4 3)
def w_X7_greeting (post : Int32 → z_Md → Prop) (M : z_Md) (x1 : Int32) (x2 : Int32) (x3 : Int32) : Prop := (w_X7_isBox (fun r2 M1 => (∀ y3 : Int32, y3 = (if r2 = 0 then 1 else (if x2 < 0 then 2 else (if x2 ≤ 2 then 0 else 2))) → ((((z_up M1 0 0 y3) 0 0) ≤ 0 → (vp_in ((3 * x1) + x2) 12 ∧ (∀ x4_5 : Int32, x4_5 = (z_up M1 0 0 y3) 12 ((3 * x1) + x2).toNatClampNeg → ((x3 < 0 → (w_X7_greeting_69 post (z_up M1 0 0 y3) x3 x4_5)) ∧ (¬ x3 < 0 → (w_X7_frames (fun r8 M7 => ((x3 < (8 * r8) → (w_X7_greeting_74 post M7 x3 x4_5 0)) ∧ (¬ x3 < (8 * r8) → (w_X7_greeting_69 post M7 x3 x4_5)))) (z_up M1 0 0 y3) x4_5)))))) ∧ (¬ ((z_up M1 0 0 y3) 0 0) ≤ 0 → (post 0 (z_up M1 0 0 y3)))))) M x1)
set_option maxRecDepth 20000 in
theorem mb_X7_greeting_74 {p : Program} {l : Launch} {e : Env} {s : State} {m : MethodId} {args : Array Value} {below : List Frame} {meth : Method} {c : Code} {D : va_G} {cy : Nat → ClassId} {A : Nat → Prop} {o : Nat} {ad : Nat → Nat} (S : CallFix p m c cX7_greeting 5 s args z_T RX7) (hlk : meth.locks = false) (hr : meth.sig.returnType = some .int) (hE : z_EM D cy s) {post : Int32 → z_Md → Prop}  (M : z_Md) (x3 : Int32) (x4 : Int32) (z0 : Int32) (hw : w_X7_greeting_74 post M x3 x4 z0) : z_V A (z_hM D cy A o ad) p l e rm_X7_greeting s m args below meth c 5 (MQ below (va_Qi post (fun (u' : z_Md) t => z_hM D cy A o ad u' t.heap) A) args s 0 0 A) 0 0 M 74 [(0, va_rf (some o)), (3, .int x3), (4, .int x4)] [.int z0, va_rf (some o)] := by
  refine zm_p_89 S hE dX7_greeting_74 ?_
  refine z_aload_n (x := some o) S 0 dX7_greeting_77 rfl rfl ?_
  refine zm_g_89 S hE dX7_greeting_78 ?_
  refine z_if_le S 88 dX7_greeting_81 (by decide) (fun c1 => ?_) (fun c1 => ?_)
  · have hw := hw.1 c1
    refine z_aload_n (x := some o) S 0 dX7_greeting_88 rfl rfl ?_
    refine z_iload S 2 dX7_greeting_89 rfl ?_
    refine z_iload_n S 1 dX7_greeting_91 rfl rfl ?_
    refine z_callVi (As := [.int x4, .int x3]) (st := []) S (z_EMok D cy A) hE (me_X7_sound l D cy A o ad _ (z_up M 0 0 z0) x4 x3 hw) gV_X7_180 hdV_X7_sound ⟨Nat.le_of_ble_eq_true rfl, Nat.le_of_ble_eq_true rfl⟩ rfl rfl (z_recvM hE) (fun _ h => h) (fun _ _ _ _ h => h) rfl (Nat.le_trans z_s0 (by decide)) dX7_greeting_92 ⟨Nat.le_of_ble_eq_true rfl, Nat.le_of_ble_eq_true rfl⟩ rfl (fun r3 M2 hw => ?_)
    exact z_iret S hr hlk dX7_greeting_95 (Nat.le_refl 0) (Nat.le_refl 0) hw
  · have hw := hw.2 c1
    refine z_iconst (v := 0) S dX7_greeting_84 (by decide) ?_
    refine z_goto S 95 dX7_greeting_85 (by decide) ?_
    exact z_iret S hr hlk dX7_greeting_95 (Nat.le_refl 0) (Nat.le_refl 0) hw
set_option maxRecDepth 20000 in
theorem mb_X7_greeting_69 {p : Program} {l : Launch} {e : Env} {s : State} {m : MethodId} {args : Array Value} {below : List Frame} {meth : Method} {c : Code} {D : va_G} {cy : Nat → ClassId} {A : Nat → Prop} {o : Nat} {ad : Nat → Nat} (S : CallFix p m c cX7_greeting 5 s args z_T RX7) (hlk : meth.locks = false) (hr : meth.sig.returnType = some .int) (hE : z_EM D cy s) {post : Int32 → z_Md → Prop}  (M : z_Md) (x3 : Int32) (x4 : Int32) (hw : w_X7_greeting_69 post M x3 x4) : z_V A (z_hM D cy A o ad) p l e rm_X7_greeting s m args below meth c 5 (MQ below (va_Qi post (fun (u' : z_Md) t => z_hM D cy A o ad u' t.heap) A) args s 0 0 A) 0 0 M 69 [(0, va_rf (some o)), (3, .int x3), (4, .int x4)] [va_rf (some o)] := by
  refine z_iconst (v := 3) S dX7_greeting_69 (by decide) ?_
  refine z_goto S 74 dX7_greeting_70 (by decide) ?_
  exact mb_X7_greeting_74 S hlk hr hE M x3 x4 3 hw
set_option maxRecDepth 20000 in
theorem mb_X7_greeting {p : Program} {l : Launch} {e : Env} {s : State} {m : MethodId} {args : Array Value} {below : List Frame} {meth : Method} {c : Code} {D : va_G} {cy : Nat → ClassId} {A : Nat → Prop} {o : Nat} {ad : Nat → Nat} (S : CallFix p m c cX7_greeting 5 s args z_T RX7) (hlk : meth.locks = false) (hr : meth.sig.returnType = some .int) (hE : z_EM D cy s) {post : Int32 → z_Md → Prop}  (M : z_Md) (x1 : Int32) (x2 : Int32) (x3 : Int32) (hw : w_X7_greeting post M x1 x2 x3) : z_V A (z_hM D cy A o ad) p l e rm_X7_greeting s m args below meth c 5 (MQ below (va_Qi post (fun (u' : z_Md) t => z_hM D cy A o ad u' t.heap) A) args s 0 0 A) 0 0 M 0 [(0, va_rf (some o)), (1, .int x1), (2, .int x2), (3, .int x3)] [] := by
  refine z_aload_n (x := some o) S 0 dX7_greeting_0 rfl rfl ?_
  refine z_aload_n (x := some o) S 0 dX7_greeting_1 rfl rfl ?_
  refine z_iload_n S 1 dX7_greeting_2 rfl rfl ?_
  refine z_callVi (As := [.int x1]) (st := [va_rf (some o)]) S (z_EMok D cy A) hE (me_X7_isBox l D cy A o ad _ M x1 hw) gV_X7_131 hdV_X7_isBox ⟨Nat.le_of_ble_eq_true rfl, Nat.le_of_ble_eq_true rfl⟩ rfl rfl (z_recvM hE) (fun _ h => h) (fun _ _ _ _ h => h) rfl (Nat.le_trans (z_sq z_s0) (by decide)) dX7_greeting_3 ⟨Nat.le_of_ble_eq_true rfl, Nat.le_of_ble_eq_true rfl⟩ rfl (fun r2 M1 hw => ?_)
  suffices hJ : ∀ y3 : Int32, y3 = (if r2 = 0 then 1 else (if x2 < 0 then 2 else (if x2 ≤ 2 then 0 else 2))) → z_V A (z_hM D cy A o ad) p l e rm_X7_greeting s m args below meth c 5 (MQ below (va_Qi post (fun (u' : z_Md) t => z_hM D cy A o ad u' t.heap) A) args s 0 0 A) 0 0 M1 27 [(0, va_rf (some o)), (1, .int x1), (2, .int x2), (3, .int x3)] [.int y3, va_rf (some o)] from by
    refine z_if_ne S 13 dX7_greeting_6 (by decide) (fun c11 => ?_) (fun c11 => ?_)
    · refine z_iload_n S 2 dX7_greeting_13 rfl rfl ?_
      refine z_if_lt S 22 dX7_greeting_14 (by decide) (fun c12 => ?_) (fun c12 => ?_)
      · refine z_iconst (v := 2) S dX7_greeting_22 (by decide) ?_
        refine z_goto S 27 dX7_greeting_23 (by decide) ?_
        exact hJ _ (by rw [if_neg c11, if_pos c12])
      · refine z_iload_n S 2 dX7_greeting_17 rfl rfl ?_
        refine z_iconst (v := 2) S dX7_greeting_18 (by decide) ?_
        refine z_icmp_le S 26 dX7_greeting_19 (by decide) (fun c13 => ?_) (fun c13 => ?_)
        · refine z_iconst (v := 0) S dX7_greeting_26 (by decide) ?_
          exact hJ _ (by rw [if_neg c11, if_neg c12, if_pos c13])
        · refine z_iconst (v := 2) S dX7_greeting_22 (by decide) ?_
          refine z_goto S 27 dX7_greeting_23 (by decide) ?_
          exact hJ _ (by rw [if_neg c11, if_neg c12, if_neg c13])
    · refine z_iconst (v := 1) S dX7_greeting_9 (by decide) ?_
      refine z_goto S 27 dX7_greeting_10 (by decide) ?_
      exact hJ _ (by rw [if_pos c11])
  intro y3 ey3
  have hw := hw y3 ey3
  refine zm_p_89 S hE dX7_greeting_27 ?_
  refine z_aload_n (x := some o) S 0 dX7_greeting_30 rfl rfl ?_
  refine zm_g_89 S hE dX7_greeting_31 ?_
  refine z_if_le S 39 dX7_greeting_34 (by decide) (fun c4 => ?_) (fun c4 => ?_)
  · have hw := hw.1 c4
    refine z_aload_n (x := some o) S 0 dX7_greeting_39 rfl rfl ?_
    refine zm_g_41 S hE dX7_greeting_40 ?_
    refine z_iconst (v := 3) S dX7_greeting_43 (by decide) ?_
    refine z_iload_n S 1 dX7_greeting_44 rfl rfl ?_
    refine z_imul S dX7_greeting_45 ?_
    refine z_iload_n S 2 dX7_greeting_46 rfl rfl ?_
    refine z_iadd S dX7_greeting_47 ?_
    obtain ⟨hi10, hw⟩ := hw
    refine z_mald (j := 12) S hE rfl rfl hi10 dX7_greeting_48 ?_
    refine z_top (fun x4_5 ex4_5 => ?_)
    have hw := hw x4_5 ex4_5
    refine z_istore S [(4, .int x4_5), (0, va_rf (some o)), (1, .int x1), (2, .int x2), (3, .int x3)] dX7_greeting_49 (by decide) rfl ?_
    refine z_lv (lv' := [(0, va_rf (some o)), (1, .int x1), (2, .int x2), (3, .int x3), (4, .int x4_5)]) [1, 2, 3, 4, 0] rfl ?_
    refine z_aload_n (x := some o) S 0 dX7_greeting_51 rfl rfl ?_
    refine z_iload_n S 3 dX7_greeting_52 rfl rfl ?_
    refine z_if_lt S 69 dX7_greeting_53 (by decide) (fun c6 => ?_) (fun c6 => ?_)
    · have hw := hw.1 c6
      refine z_lv (lv' := [(0, va_rf (some o)), (3, .int x3), (4, .int x4_5)]) [0, 3, 4] rfl ?_
      exact mb_X7_greeting_69 S hlk hr hE (z_up M1 0 0 y3) x3 x4_5 hw
    · have hw := hw.2 c6
      refine z_iload_n S 3 dX7_greeting_56 rfl rfl ?_
      refine z_bipush (v := 8) S dX7_greeting_57 (by decide) ?_
      refine z_aload_n (x := some o) S 0 dX7_greeting_59 rfl rfl ?_
      refine z_iload S 4 dX7_greeting_60 rfl ?_
      refine z_callVi (As := [.int x4_5]) (st := [.int 8, .int x3, va_rf (some o)]) S (z_EMok D cy A) hE (me_X7_frames l D cy A o ad _ (z_up M1 0 0 y3) x4_5 hw) gV_X7_177 hdV_X7_frames ⟨Nat.le_of_ble_eq_true rfl, Nat.le_of_ble_eq_true rfl⟩ rfl rfl (z_recvM hE) (fun _ h => h) (fun _ _ _ _ h => h) rfl (Nat.le_trans (z_s1 (z_s1 (z_sq z_s0))) (by decide)) dX7_greeting_62 ⟨Nat.le_of_ble_eq_true rfl, Nat.le_of_ble_eq_true rfl⟩ rfl (fun r8 M7 hw => ?_)
      refine z_imul S dX7_greeting_65 ?_
      refine z_icmp_lt S 73 dX7_greeting_66 (by decide) (fun c9 => ?_) (fun c9 => ?_)
      · have hw := hw.1 c9
        refine z_iconst (v := 0) S dX7_greeting_73 (by decide) ?_
        refine z_lv (lv' := [(0, va_rf (some o)), (3, .int x3), (4, .int x4_5)]) [0, 3, 4] rfl ?_
        exact mb_X7_greeting_74 S hlk hr hE M7 x3 x4_5 0 hw
      · have hw := hw.2 c9
        refine z_lv (lv' := [(0, va_rf (some o)), (3, .int x3), (4, .int x4_5)]) [0, 3, 4] rfl ?_
        exact mb_X7_greeting_69 S hlk hr hE M7 x3 x4_5 hw
  · have hw := hw.2 c4
    refine z_iconst (v := 0) S dX7_greeting_37 (by decide) ?_
    exact z_iret S hr hlk dX7_greeting_38 (Nat.le_refl 0) (Nat.le_refl 0) hw
theorem me_X7_greeting (l : Launch) (D : va_G) (cy : Nat → ClassId) (A : Nat → Prop) (o : Nat) (ad : Nat → Nat) (post : Int32 → z_Md → Prop) (M : z_Md) (x1 : Int32) (x2 : Int32) (x3 : Int32) (hw : w_X7_greeting post M x1 x2 x3) : z_Mi l yX7_greeting (Cond.code yX7_greeting cX7_greeting 5 (some .int) :: z_T) rm_X7_greeting [.ref o, .int x1, .int x2, .int x3] (z_EM D cy) (z_hM D cy A o ad) M post 0 0 A :=
  z_met (by decide) (Nat.le_of_ble_eq_true rfl) (fun p e s m args below meth c S hlk hr hnm hE => mb_X7_greeting S hlk hr hE M x1 x2 x3 hw)
abbrev rm_X7_used : Room := { frames := 3, cells := 0, slots := 0, locals := 71 }
def w_X7_used (post : Int32 → z_Md → Prop) (M : z_Md) (x1 : Int32) : Prop := (w_X7_isBox (fun r2 M1 => (∀ y3 : Int32, y3 = (if r2 = 0 then 1 else 0) → ((((z_up M1 0 0 y3) 0 0) ≤ 0 → (w_X7_usedBy (fun r6 M5 => (post r6 M5)) (z_up M1 0 0 y3) x1)) ∧ (¬ ((z_up M1 0 0 y3) 0 0) ≤ 0 → (post 0 (z_up M1 0 0 y3)))))) M x1)
set_option maxRecDepth 20000 in
theorem mb_X7_used {p : Program} {l : Launch} {e : Env} {s : State} {m : MethodId} {args : Array Value} {below : List Frame} {meth : Method} {c : Code} {D : va_G} {cy : Nat → ClassId} {A : Nat → Prop} {o : Nat} {ad : Nat → Nat} (S : CallFix p m c cX7_used 2 s args z_T RX7) (hlk : meth.locks = false) (hr : meth.sig.returnType = some .int) (hE : z_EM D cy s) {post : Int32 → z_Md → Prop}  (M : z_Md) (x1 : Int32) (hw : w_X7_used post M x1) : z_V A (z_hM D cy A o ad) p l e rm_X7_used s m args below meth c 2 (MQ below (va_Qi post (fun (u' : z_Md) t => z_hM D cy A o ad u' t.heap) A) args s 0 0 A) 0 0 M 0 [(0, va_rf (some o)), (1, .int x1)] [] := by
  refine z_aload_n (x := some o) S 0 dX7_used_0 rfl rfl ?_
  refine z_aload_n (x := some o) S 0 dX7_used_1 rfl rfl ?_
  refine z_iload_n S 1 dX7_used_2 rfl rfl ?_
  refine z_callVi (As := [.int x1]) (st := [va_rf (some o)]) S (z_EMok D cy A) hE (me_X7_isBox l D cy A o ad _ M x1 hw) gV_X7_131 hdV_X7_isBox ⟨Nat.le_of_ble_eq_true rfl, Nat.le_of_ble_eq_true rfl⟩ rfl rfl (z_recvM hE) (fun _ h => h) (fun _ _ _ _ h => h) rfl (Nat.le_trans (z_sq z_s0) (by decide)) dX7_used_3 ⟨Nat.le_of_ble_eq_true rfl, Nat.le_of_ble_eq_true rfl⟩ rfl (fun r2 M1 hw => ?_)
  suffices hJ : ∀ y3 : Int32, y3 = (if r2 = 0 then 1 else 0) → z_V A (z_hM D cy A o ad) p l e rm_X7_used s m args below meth c 2 (MQ below (va_Qi post (fun (u' : z_Md) t => z_hM D cy A o ad u' t.heap) A) args s 0 0 A) 0 0 M1 14 [(0, va_rf (some o)), (1, .int x1)] [.int y3, va_rf (some o)] from by
    refine z_if_eq S 13 dX7_used_6 (by decide) (fun c7 => ?_) (fun c7 => ?_)
    · refine z_iconst (v := 1) S dX7_used_13 (by decide) ?_
      exact hJ _ (by rw [if_pos c7])
    · refine z_iconst (v := 0) S dX7_used_9 (by decide) ?_
      refine z_goto S 14 dX7_used_10 (by decide) ?_
      exact hJ _ (by rw [if_neg c7])
  intro y3 ey3
  have hw := hw y3 ey3
  refine zm_p_89 S hE dX7_used_14 ?_
  refine z_aload_n (x := some o) S 0 dX7_used_17 rfl rfl ?_
  refine zm_g_89 S hE dX7_used_18 ?_
  refine z_if_le S 28 dX7_used_21 (by decide) (fun c4 => ?_) (fun c4 => ?_)
  · have hw := hw.1 c4
    refine z_aload_n (x := some o) S 0 dX7_used_28 rfl rfl ?_
    refine z_iload_n S 1 dX7_used_29 rfl rfl ?_
    refine z_callVi (As := [.int x1]) (st := []) S (z_EMok D cy A) hE (me_X7_usedBy l D cy A o ad _ (z_up M1 0 0 y3) x1 hw) gV_X7_138 hdV_X7_usedBy ⟨Nat.le_of_ble_eq_true rfl, Nat.le_of_ble_eq_true rfl⟩ rfl rfl (z_recvM hE) (fun _ h => h) (fun _ _ _ _ h => h) rfl (Nat.le_trans z_s0 (by decide)) dX7_used_30 ⟨Nat.le_of_ble_eq_true rfl, Nat.le_of_ble_eq_true rfl⟩ rfl (fun r6 M5 hw => ?_)
    exact z_iret S hr hlk dX7_used_33 (Nat.le_refl 0) (Nat.le_refl 0) hw
  · have hw := hw.2 c4
    refine z_iconst (v := 0) S dX7_used_24 (by decide) ?_
    refine z_goto S 33 dX7_used_25 (by decide) ?_
    exact z_iret S hr hlk dX7_used_33 (Nat.le_refl 0) (Nat.le_refl 0) hw
theorem me_X7_used (l : Launch) (D : va_G) (cy : Nat → ClassId) (A : Nat → Prop) (o : Nat) (ad : Nat → Nat) (post : Int32 → z_Md → Prop) (M : z_Md) (x1 : Int32) (hw : w_X7_used post M x1) : z_Mi l yX7_used (Cond.code yX7_used cX7_used 2 (some .int) :: z_T) rm_X7_used [.ref o, .int x1] (z_EM D cy) (z_hM D cy A o ad) M post 0 0 A :=
  z_met (by decide) (Nat.le_of_ble_eq_true rfl) (fun p e s m args below meth c S hlk hr hnm hE => mb_X7_used S hlk hr hE M x1 hw)
abbrev rm_X7_quota : Room := { frames := 1, cells := 0, slots := 0, locals := 21 }
def w_X7_quota (post : Int32 → z_Md → Prop) (M : z_Md) (x1 : Int32) : Prop := (w_X7_isBox (fun r2 M1 => (∀ y3 : Int32, y3 = (if r2 = 0 then 1 else 0) → ((((z_up M1 0 0 y3) 0 0) ≤ 0 → vp_in x1 4) ∧ (∀ y4 : Int32, y4 = (if ((z_up M1 0 0 y3) 0 0) ≤ 0 then (z_up M1 0 0 y3) 11 x1.toNatClampNeg else 0) → (post y4 (z_up M1 0 0 y3)))))) M x1)
set_option maxRecDepth 20000 in
theorem mb_X7_quota {p : Program} {l : Launch} {e : Env} {s : State} {m : MethodId} {args : Array Value} {below : List Frame} {meth : Method} {c : Code} {D : va_G} {cy : Nat → ClassId} {A : Nat → Prop} {o : Nat} {ad : Nat → Nat} (S : CallFix p m c cX7_quota 2 s args z_T RX7) (hlk : meth.locks = false) (hr : meth.sig.returnType = some .int) (hE : z_EM D cy s) {post : Int32 → z_Md → Prop}  (M : z_Md) (x1 : Int32) (hw : w_X7_quota post M x1) : z_V A (z_hM D cy A o ad) p l e rm_X7_quota s m args below meth c 2 (MQ below (va_Qi post (fun (u' : z_Md) t => z_hM D cy A o ad u' t.heap) A) args s 0 0 A) 0 0 M 0 [(0, va_rf (some o)), (1, .int x1)] [] := by
  refine z_aload_n (x := some o) S 0 dX7_quota_0 rfl rfl ?_
  refine z_aload_n (x := some o) S 0 dX7_quota_1 rfl rfl ?_
  refine z_iload_n S 1 dX7_quota_2 rfl rfl ?_
  refine z_callVi (As := [.int x1]) (st := [va_rf (some o)]) S (z_EMok D cy A) hE (me_X7_isBox l D cy A o ad _ M x1 hw) gV_X7_131 hdV_X7_isBox ⟨Nat.le_of_ble_eq_true rfl, Nat.le_of_ble_eq_true rfl⟩ rfl rfl (z_recvM hE) (fun _ h => h) (fun _ _ _ _ h => h) rfl (Nat.le_trans (z_sq z_s0) (by decide)) dX7_quota_3 ⟨Nat.le_of_ble_eq_true rfl, Nat.le_of_ble_eq_true rfl⟩ rfl (fun r2 M1 hw => ?_)
  suffices hJ : ∀ y3 : Int32, y3 = (if r2 = 0 then 1 else 0) → z_V A (z_hM D cy A o ad) p l e rm_X7_quota s m args below meth c 2 (MQ below (va_Qi post (fun (u' : z_Md) t => z_hM D cy A o ad u' t.heap) A) args s 0 0 A) 0 0 M1 14 [(0, va_rf (some o)), (1, .int x1)] [.int y3, va_rf (some o)] from by
    refine z_if_eq S 13 dX7_quota_6 (by decide) (fun c7 => ?_) (fun c7 => ?_)
    · refine z_iconst (v := 1) S dX7_quota_13 (by decide) ?_
      exact hJ _ (by rw [if_pos c7])
    · refine z_iconst (v := 0) S dX7_quota_9 (by decide) ?_
      refine z_goto S 14 dX7_quota_10 (by decide) ?_
      exact hJ _ (by rw [if_neg c7])
  intro y3 ey3
  have hw := hw y3 ey3
  refine zm_p_89 S hE dX7_quota_14 ?_
  refine z_aload_n (x := some o) S 0 dX7_quota_17 rfl rfl ?_
  refine zm_g_89 S hE dX7_quota_18 ?_
  obtain ⟨hob, hw⟩ := hw
  suffices hJ : ∀ y4 : Int32, y4 = (if ((z_up M1 0 0 y3) 0 0) ≤ 0 then (z_up M1 0 0 y3) 11 x1.toNatClampNeg else 0) → z_V A (z_hM D cy A o ad) p l e rm_X7_quota s m args below meth c 2 (MQ below (va_Qi post (fun (u' : z_Md) t => z_hM D cy A o ad u' t.heap) A) args s 0 0 A) 0 0 (z_up M1 0 0 y3) 34 [] [.int y4] from by
    refine z_if_le S 28 dX7_quota_21 (by decide) (fun c5 => ?_) (fun c5 => ?_)
    · have hob := hob c5
      refine z_aload_n (x := some o) S 0 dX7_quota_28 rfl rfl ?_
      refine zm_g_38 S hE dX7_quota_29 ?_
      refine z_iload_n S 1 dX7_quota_32 rfl rfl ?_
      have hi6 := hob
      refine z_mald (j := 11) S hE rfl rfl hi6 dX7_quota_33 ?_
      refine z_lv (lv' := []) [] rfl ?_
      exact hJ _ (by rw [if_pos c5])
    · refine z_iconst (v := 0) S dX7_quota_24 (by decide) ?_
      refine z_goto S 34 dX7_quota_25 (by decide) ?_
      refine z_lv (lv' := []) [] rfl ?_
      exact hJ _ (by rw [if_neg c5])
  intro y4 ey4
  have hw := hw y4 ey4
  exact z_iret S hr hlk dX7_quota_34 (Nat.le_refl 0) (Nat.le_refl 0) hw
theorem me_X7_quota (l : Launch) (D : va_G) (cy : Nat → ClassId) (A : Nat → Prop) (o : Nat) (ad : Nat → Nat) (post : Int32 → z_Md → Prop) (M : z_Md) (x1 : Int32) (hw : w_X7_quota post M x1) : z_Mi l yX7_quota (Cond.code yX7_quota cX7_quota 2 (some .int) :: z_T) rm_X7_quota [.ref o, .int x1] (z_EM D cy) (z_hM D cy A o ad) M post 0 0 A :=
  z_met (by decide) (Nat.le_of_ble_eq_true rfl) (fun p e s m args below meth c S hlk hr hnm hE => mb_X7_quota S hlk hr hE M x1 hw)
abbrev rm_X7_lastBlock : Room := { frames := 0, cells := 0, slots := 0, locals := 0 }
def w_X7_lastBlock_4 (post : Int32 → z_Md → Prop) : Nat → z_Md → Int32 → Int32 → Prop
  | 0 => fun _ _ _ => False
  | n + 1 => fun M x1 x2 => ((40 ≤ x2 → (post x1 M)) ∧ (¬ 40 ≤ x2 → (vp_in x2 40 ∧ (∀ y2 : Int32, y2 = (if (M 2 x2.toNatClampNeg) ≤ 0 then x1 else x2) → (w_X7_lastBlock_4 post n M y2 (x2 + 1))))))
def w_X7_lastBlock (post : Int32 → z_Md → Prop) (M : z_Md)  : Prop := (∃ n0 : Nat, w_X7_lastBlock_4 post n0 M (-1) 0)
set_option maxRecDepth 20000 in
theorem mb_X7_lastBlock_4 {p : Program} {l : Launch} {e : Env} {s : State} {m : MethodId} {args : Array Value} {below : List Frame} {meth : Method} {c : Code} {D : va_G} {cy : Nat → ClassId} {A : Nat → Prop} {o : Nat} {ad : Nat → Nat} (S : CallFix p m c cX7_lastBlock 3 s args z_T RX7) (hlk : meth.locks = false) (hr : meth.sig.returnType = some .int) (hE : z_EM D cy s) {post : Int32 → z_Md → Prop}  : ∀ (n : Nat) (M : z_Md) (x1 : Int32) (x2 : Int32), w_X7_lastBlock_4 post n M x1 x2 → z_V A (z_hM D cy A o ad) p l e rm_X7_lastBlock s m args below meth c 3 (MQ below (va_Qi post (fun (u' : z_Md) t => z_hM D cy A o ad u' t.heap) A) args s 0 0 A) 0 0 M 4 [(0, va_rf (some o)), (1, .int x1), (2, .int x2)] [] := by
  intro n
  induction n with
  | zero => intro M x1 x2 hw; exact hw.elim
  | succ n ih =>
    intro M x1 x2 hw
    refine z_iload_n S 2 dX7_lastBlock_4 rfl rfl ?_
    refine z_bipush (v := 40) S dX7_lastBlock_5 (by decide) ?_
    refine z_icmp_ge S 31 dX7_lastBlock_7 (by decide) (fun c1 => ?_) (fun c1 => ?_)
    · have hw := hw.1 c1
      refine z_iload_n S 1 dX7_lastBlock_31 rfl rfl ?_
      exact z_iret S hr hlk dX7_lastBlock_32 (Nat.le_refl 0) (Nat.le_refl 0) hw
    · have hw := hw.2 c1
      refine z_aload_n (x := some o) S 0 dX7_lastBlock_10 rfl rfl ?_
      refine zm_g_13 S hE dX7_lastBlock_11 ?_
      refine z_iload_n S 2 dX7_lastBlock_14 rfl rfl ?_
      obtain ⟨hi4, hw⟩ := hw
      refine z_mald (j := 2) S hE rfl rfl hi4 dX7_lastBlock_15 ?_
      suffices hJ : ∀ y2 : Int32, y2 = (if (M 2 x2.toNatClampNeg) ≤ 0 then x1 else x2) → z_V A (z_hM D cy A o ad) p l e rm_X7_lastBlock s m args below meth c 3 (MQ below (va_Qi post (fun (u' : z_Md) t => z_hM D cy A o ad u' t.heap) A) args s 0 0 A) 0 0 M 24 [(0, va_rf (some o)), (2, .int x2)] [.int y2] from by
        refine z_if_le S 23 dX7_lastBlock_16 (by decide) (fun c3 => ?_) (fun c3 => ?_)
        · refine z_iload_n S 1 dX7_lastBlock_23 rfl rfl ?_
          refine z_lv (lv' := [(0, va_rf (some o)), (2, .int x2)]) [0, 2] rfl ?_
          exact hJ _ (by rw [if_pos c3])
        · refine z_iload_n S 2 dX7_lastBlock_19 rfl rfl ?_
          refine z_goto S 24 dX7_lastBlock_20 (by decide) ?_
          refine z_lv (lv' := [(0, va_rf (some o)), (2, .int x2)]) [0, 2] rfl ?_
          exact hJ _ (by rw [if_neg c3])
      intro y2 ey2
      have hw := hw y2 ey2
      refine z_istore_n S [(1, .int y2), (0, va_rf (some o)), (2, .int x2)] dX7_lastBlock_24 rfl (by decide) rfl ?_
      refine z_lv (lv' := [(0, va_rf (some o)), (1, .int y2), (2, .int x2)]) [1, 0, 2] rfl ?_
      refine z_iinc (v := x2 + 1) (pl := 2) S [(2, .int (x2 + 1)), (0, va_rf (some o)), (1, .int y2)] dX7_lastBlock_25 rfl rfl (by decide) rfl ?_
      refine z_lv (lv' := [(0, va_rf (some o)), (1, .int y2), (2, .int (x2 + 1))]) [1, 2, 0] rfl ?_
      refine z_goto S 4 dX7_lastBlock_28 (by decide) ?_
      exact ih M y2 (x2 + 1) hw
set_option maxRecDepth 20000 in
theorem mb_X7_lastBlock {p : Program} {l : Launch} {e : Env} {s : State} {m : MethodId} {args : Array Value} {below : List Frame} {meth : Method} {c : Code} {D : va_G} {cy : Nat → ClassId} {A : Nat → Prop} {o : Nat} {ad : Nat → Nat} (S : CallFix p m c cX7_lastBlock 3 s args z_T RX7) (hlk : meth.locks = false) (hr : meth.sig.returnType = some .int) (hE : z_EM D cy s) {post : Int32 → z_Md → Prop}  (M : z_Md)  (hw : w_X7_lastBlock post M ) : z_V A (z_hM D cy A o ad) p l e rm_X7_lastBlock s m args below meth c 3 (MQ below (va_Qi post (fun (u' : z_Md) t => z_hM D cy A o ad u' t.heap) A) args s 0 0 A) 0 0 M 0 [(0, va_rf (some o))] [] := by
  refine z_iconst (v := (-1)) S dX7_lastBlock_0 (by decide) ?_
  refine z_istore_n S [(1, .int (-1)), (0, va_rf (some o))] dX7_lastBlock_1 rfl (by decide) rfl ?_
  refine z_lv (lv' := [(0, va_rf (some o)), (1, .int (-1))]) [1, 0] rfl ?_
  refine z_iconst (v := 0) S dX7_lastBlock_2 (by decide) ?_
  refine z_istore_n S [(2, .int 0), (0, va_rf (some o)), (1, .int (-1))] dX7_lastBlock_3 rfl (by decide) rfl ?_
  refine z_lv (lv' := [(0, va_rf (some o)), (1, .int (-1)), (2, .int 0)]) [1, 2, 0] rfl ?_
  obtain ⟨n0, hw⟩ := hw
  exact mb_X7_lastBlock_4 S hlk hr hE n0 M (-1) 0 hw
theorem me_X7_lastBlock (l : Launch) (D : va_G) (cy : Nat → ClassId) (A : Nat → Prop) (o : Nat) (ad : Nat → Nat) (post : Int32 → z_Md → Prop) (M : z_Md)  (hw : w_X7_lastBlock post M ) : z_Mi l yX7_lastBlock (Cond.code yX7_lastBlock cX7_lastBlock 3 (some .int) :: z_T) rm_X7_lastBlock [.ref o] (z_EM D cy) (z_hM D cy A o ad) M post 0 0 A :=
  z_met (by decide) (Nat.le_of_ble_eq_true rfl) (fun p e s m args below meth c S hlk hr hnm hE => mb_X7_lastBlock S hlk hr hE M  hw)
abbrev rm_X7_moveBlock : Room := { frames := 0, cells := 0, slots := 0, locals := 0 }
def w_X7_moveBlock_135 (post : z_Md → Prop) : Nat → z_Md → Int32 → Int32 → Int32 → Prop
  | 0 => fun _ _ _ _ => False
  | n + 1 => fun M x1 x2 x3 => ((48 ≤ x3 → (post M)) ∧ (¬ 48 ≤ x3 → (vp_in x3 48 ∧ ((((M 9 x3.toNatClampNeg) ≤ 0 → vp_in x3 48) ∧ (¬ (M 9 x3.toNatClampNeg) ≤ 0 → (vp_in x3 48 ∧ (¬ (M 8 x3.toNatClampNeg) = x1 → vp_in x3 48)))) ∧ (∀ y2 : Int32, y2 = (if (M 9 x3.toNatClampNeg) ≤ 0 then M 8 x3.toNatClampNeg else (if (M 8 x3.toNatClampNeg) = x1 then x2 else M 8 x3.toNatClampNeg)) → (vp_in x3 48 ∧ (w_X7_moveBlock_135 post n (z_up M 8 x3.toNatClampNeg y2) x1 x2 (x3 + 1))))))))
def w_X7_moveBlock_86 (post : z_Md → Prop) : Nat → z_Md → Int32 → Int32 → Int32 → Prop
  | 0 => fun _ _ _ _ => False
  | n + 1 => fun M x1 x2 x3 => ((40 ≤ x3 → (∃ n0 : Nat, w_X7_moveBlock_135 post n0 M x1 x2 0)) ∧ (¬ 40 ≤ x3 → (vp_in x3 40 ∧ ((((M 2 x3.toNatClampNeg) ≤ 0 → vp_in x3 40) ∧ (¬ (M 2 x3.toNatClampNeg) ≤ 0 → (vp_in x3 40 ∧ (¬ (M 3 x3.toNatClampNeg) = x1 → vp_in x3 40)))) ∧ (∀ y2 : Int32, y2 = (if (M 2 x3.toNatClampNeg) ≤ 0 then M 3 x3.toNatClampNeg else (if (M 3 x3.toNatClampNeg) = x1 then x2 else M 3 x3.toNatClampNeg)) → (vp_in x3 40 ∧ (w_X7_moveBlock_86 post n (z_up M 3 x3.toNatClampNeg y2) x1 x2 (x3 + 1))))))))
def w_X7_moveBlock_33 (post : z_Md → Prop) : Nat → z_Md → Int32 → Int32 → Int32 → Prop
  | 0 => fun _ _ _ _ => False
  | n + 1 => fun M x1 x2 x3 => ((4 ≤ x3 → (∃ n0 : Nat, w_X7_moveBlock_86 post n0 M x1 x2 0)) ∧ (¬ 4 ≤ x3 → (vp_in ((4 * x1) + x3) 160 ∧ (vp_in ((4 * x2) + x3) 160 ∧ (vp_in ((4 * x1) + x3) 160 ∧ (vp_in ((4 * x2) + x3) 160 ∧ (w_X7_moveBlock_33 post n (z_up (z_up M 4 ((4 * x2) + x3).toNatClampNeg (M 4 ((4 * x1) + x3).toNatClampNeg)) 5 ((4 * x2) + x3).toNatClampNeg ((z_up M 4 ((4 * x2) + x3).toNatClampNeg (M 4 ((4 * x1) + x3).toNatClampNeg)) 5 ((4 * x1) + x3).toNatClampNeg)) x1 x2 (x3 + 1))))))))
def w_X7_moveBlock (post : z_Md → Prop) (M : z_Md) (x1 : Int32) (x2 : Int32) : Prop := (vp_in x1 40 ∧ (vp_in x2 40 ∧ (vp_in x1 40 ∧ (vp_in x2 40 ∧ (vp_in x1 40 ∧ (∃ n0 : Nat, w_X7_moveBlock_33 post n0 (z_up (z_up (z_up M 2 x2.toNatClampNeg (M 2 x1.toNatClampNeg)) 3 x2.toNatClampNeg ((z_up M 2 x2.toNatClampNeg (M 2 x1.toNatClampNeg)) 3 x1.toNatClampNeg)) 2 x1.toNatClampNeg 0) x1 x2 0))))))
set_option maxRecDepth 20000 in
theorem mb_X7_moveBlock_135 {p : Program} {l : Launch} {e : Env} {s : State} {m : MethodId} {args : Array Value} {below : List Frame} {meth : Method} {c : Code} {D : va_G} {cy : Nat → ClassId} {A : Nat → Prop} {o : Nat} {ad : Nat → Nat} (S : CallFix p m c cX7_moveBlock 4 s args z_T RX7) (hlk : meth.locks = false) (hr : meth.sig.returnType = none) (hE : z_EM D cy s) {post : z_Md → Prop}  : ∀ (n : Nat) (M : z_Md) (x1 : Int32) (x2 : Int32) (x3 : Int32), w_X7_moveBlock_135 post n M x1 x2 x3 → z_V A (z_hM D cy A o ad) p l e rm_X7_moveBlock s m args below meth c 4 (MQ below (va_Qv post (fun (u' : z_Md) t => z_hM D cy A o ad u' t.heap) A) args s 0 0 A) 0 0 M 135 [(0, va_rf (some o)), (1, .int x1), (2, .int x2), (3, .int x3)] [] := by
  intro n
  induction n with
  | zero => intro M x1 x2 x3 hw; exact hw.elim
  | succ n ih =>
    intro M x1 x2 x3 hw
    refine z_iload_n S 3 dX7_moveBlock_135 rfl rfl ?_
    refine z_bipush (v := 48) S dX7_moveBlock_136 (by decide) ?_
    refine z_icmp_ge S 182 dX7_moveBlock_138 (by decide) (fun c1 => ?_) (fun c1 => ?_)
    · have hw := hw.1 c1
      exact z_vret S hr hlk dX7_moveBlock_182 (Nat.le_refl 0) (Nat.le_refl 0) hw
    · have hw := hw.2 c1
      refine z_aload_n (x := some o) S 0 dX7_moveBlock_141 rfl rfl ?_
      refine zm_g_32 S hE dX7_moveBlock_142 ?_
      refine z_iload_n S 3 dX7_moveBlock_145 rfl rfl ?_
      refine z_aload_n (x := some o) S 0 dX7_moveBlock_146 rfl rfl ?_
      refine zm_g_35 S hE dX7_moveBlock_147 ?_
      refine z_iload_n S 3 dX7_moveBlock_150 rfl rfl ?_
      obtain ⟨hi9, hw⟩ := hw
      refine z_mald (j := 9) S hE rfl rfl hi9 dX7_moveBlock_151 ?_
      obtain ⟨hob, hw⟩ := hw
      suffices hJ : ∀ y2 : Int32, y2 = (if (M 9 x3.toNatClampNeg) ≤ 0 then M 8 x3.toNatClampNeg else (if (M 8 x3.toNatClampNeg) = x1 then x2 else M 8 x3.toNatClampNeg)) → z_V A (z_hM D cy A o ad) p l e rm_X7_moveBlock s m args below meth c 4 (MQ below (va_Qv post (fun (u' : z_Md) t => z_hM D cy A o ad u' t.heap) A) args s 0 0 A) 0 0 M 175 [(0, va_rf (some o)), (1, .int x1), (2, .int x2), (3, .int x3)] [.int y2, .int x3, .ref (ad 8)] from by
        refine z_if_le S 169 dX7_moveBlock_152 (by decide) (fun c4 => ?_) (fun c4 => ?_)
        · have hob := hob.1 c4
          refine z_aload_n (x := some o) S 0 dX7_moveBlock_169 rfl rfl ?_
          refine zm_g_32 S hE dX7_moveBlock_170 ?_
          refine z_iload_n S 3 dX7_moveBlock_173 rfl rfl ?_
          have hi5 := hob
          refine z_mald (j := 8) S hE rfl rfl hi5 dX7_moveBlock_174 ?_
          exact hJ _ (by rw [if_pos c4])
        · have hob := hob.2 c4
          refine z_aload_n (x := some o) S 0 dX7_moveBlock_155 rfl rfl ?_
          refine zm_g_32 S hE dX7_moveBlock_156 ?_
          refine z_iload_n S 3 dX7_moveBlock_159 rfl rfl ?_
          obtain ⟨hi6, hob⟩ := hob
          refine z_mald (j := 8) S hE rfl rfl hi6 dX7_moveBlock_160 ?_
          refine z_iload_n S 1 dX7_moveBlock_161 rfl rfl ?_
          refine z_icmp_ne S 169 dX7_moveBlock_162 (by decide) (fun c7 => ?_) (fun c7 => ?_)
          · have hob := hob c7
            refine z_aload_n (x := some o) S 0 dX7_moveBlock_169 rfl rfl ?_
            refine zm_g_32 S hE dX7_moveBlock_170 ?_
            refine z_iload_n S 3 dX7_moveBlock_173 rfl rfl ?_
            have hi8 := hob
            refine z_mald (j := 8) S hE rfl rfl hi8 dX7_moveBlock_174 ?_
            exact hJ _ (by rw [if_neg c4, if_neg c7])
          · refine z_iload_n S 2 dX7_moveBlock_165 rfl rfl ?_
            refine z_goto S 175 dX7_moveBlock_166 (by decide) ?_
            exact hJ _ (by rw [if_neg c4, if_pos c7])
      intro y2 ey2
      have hw := hw y2 ey2
      obtain ⟨hi3, hw⟩ := hw
      refine z_mast (j := 8) S hE rfl rfl hi3 dX7_moveBlock_175 ?_
      refine z_iinc (v := x3 + 1) (pl := 3) S [(3, .int (x3 + 1)), (0, va_rf (some o)), (1, .int x1), (2, .int x2)] dX7_moveBlock_176 rfl rfl (by decide) rfl ?_
      refine z_lv (lv' := [(0, va_rf (some o)), (1, .int x1), (2, .int x2), (3, .int (x3 + 1))]) [1, 2, 3, 0] rfl ?_
      refine z_goto S 135 dX7_moveBlock_179 (by decide) ?_
      exact ih (z_up M 8 x3.toNatClampNeg y2) x1 x2 (x3 + 1) hw
set_option maxRecDepth 20000 in
theorem mb_X7_moveBlock_86 {p : Program} {l : Launch} {e : Env} {s : State} {m : MethodId} {args : Array Value} {below : List Frame} {meth : Method} {c : Code} {D : va_G} {cy : Nat → ClassId} {A : Nat → Prop} {o : Nat} {ad : Nat → Nat} (S : CallFix p m c cX7_moveBlock 4 s args z_T RX7) (hlk : meth.locks = false) (hr : meth.sig.returnType = none) (hE : z_EM D cy s) {post : z_Md → Prop}  : ∀ (n : Nat) (M : z_Md) (x1 : Int32) (x2 : Int32) (x3 : Int32), w_X7_moveBlock_86 post n M x1 x2 x3 → z_V A (z_hM D cy A o ad) p l e rm_X7_moveBlock s m args below meth c 4 (MQ below (va_Qv post (fun (u' : z_Md) t => z_hM D cy A o ad u' t.heap) A) args s 0 0 A) 0 0 M 86 [(0, va_rf (some o)), (1, .int x1), (2, .int x2), (3, .int x3)] [] := by
  intro n
  induction n with
  | zero => intro M x1 x2 x3 hw; exact hw.elim
  | succ n ih =>
    intro M x1 x2 x3 hw
    refine z_iload_n S 3 dX7_moveBlock_86 rfl rfl ?_
    refine z_bipush (v := 40) S dX7_moveBlock_87 (by decide) ?_
    refine z_icmp_ge S 133 dX7_moveBlock_89 (by decide) (fun c1 => ?_) (fun c1 => ?_)
    · have hw := hw.1 c1
      refine z_iconst (v := 0) S dX7_moveBlock_133 (by decide) ?_
      refine z_istore_n S [(3, .int 0), (0, va_rf (some o)), (1, .int x1), (2, .int x2)] dX7_moveBlock_134 rfl (by decide) rfl ?_
      refine z_lv (lv' := [(0, va_rf (some o)), (1, .int x1), (2, .int x2), (3, .int 0)]) [1, 2, 3, 0] rfl ?_
      obtain ⟨n0, hw⟩ := hw
      exact mb_X7_moveBlock_135 S hlk hr hE n0 M x1 x2 0 hw
    · have hw := hw.2 c1
      refine z_aload_n (x := some o) S 0 dX7_moveBlock_92 rfl rfl ?_
      refine zm_g_16 S hE dX7_moveBlock_93 ?_
      refine z_iload_n S 3 dX7_moveBlock_96 rfl rfl ?_
      refine z_aload_n (x := some o) S 0 dX7_moveBlock_97 rfl rfl ?_
      refine zm_g_13 S hE dX7_moveBlock_98 ?_
      refine z_iload_n S 3 dX7_moveBlock_101 rfl rfl ?_
      obtain ⟨hi9, hw⟩ := hw
      refine z_mald (j := 2) S hE rfl rfl hi9 dX7_moveBlock_102 ?_
      obtain ⟨hob, hw⟩ := hw
      suffices hJ : ∀ y2 : Int32, y2 = (if (M 2 x3.toNatClampNeg) ≤ 0 then M 3 x3.toNatClampNeg else (if (M 3 x3.toNatClampNeg) = x1 then x2 else M 3 x3.toNatClampNeg)) → z_V A (z_hM D cy A o ad) p l e rm_X7_moveBlock s m args below meth c 4 (MQ below (va_Qv post (fun (u' : z_Md) t => z_hM D cy A o ad u' t.heap) A) args s 0 0 A) 0 0 M 126 [(0, va_rf (some o)), (1, .int x1), (2, .int x2), (3, .int x3)] [.int y2, .int x3, .ref (ad 3)] from by
        refine z_if_le S 120 dX7_moveBlock_103 (by decide) (fun c4 => ?_) (fun c4 => ?_)
        · have hob := hob.1 c4
          refine z_aload_n (x := some o) S 0 dX7_moveBlock_120 rfl rfl ?_
          refine zm_g_16 S hE dX7_moveBlock_121 ?_
          refine z_iload_n S 3 dX7_moveBlock_124 rfl rfl ?_
          have hi5 := hob
          refine z_mald (j := 3) S hE rfl rfl hi5 dX7_moveBlock_125 ?_
          exact hJ _ (by rw [if_pos c4])
        · have hob := hob.2 c4
          refine z_aload_n (x := some o) S 0 dX7_moveBlock_106 rfl rfl ?_
          refine zm_g_16 S hE dX7_moveBlock_107 ?_
          refine z_iload_n S 3 dX7_moveBlock_110 rfl rfl ?_
          obtain ⟨hi6, hob⟩ := hob
          refine z_mald (j := 3) S hE rfl rfl hi6 dX7_moveBlock_111 ?_
          refine z_iload_n S 1 dX7_moveBlock_112 rfl rfl ?_
          refine z_icmp_ne S 120 dX7_moveBlock_113 (by decide) (fun c7 => ?_) (fun c7 => ?_)
          · have hob := hob c7
            refine z_aload_n (x := some o) S 0 dX7_moveBlock_120 rfl rfl ?_
            refine zm_g_16 S hE dX7_moveBlock_121 ?_
            refine z_iload_n S 3 dX7_moveBlock_124 rfl rfl ?_
            have hi8 := hob
            refine z_mald (j := 3) S hE rfl rfl hi8 dX7_moveBlock_125 ?_
            exact hJ _ (by rw [if_neg c4, if_neg c7])
          · refine z_iload_n S 2 dX7_moveBlock_116 rfl rfl ?_
            refine z_goto S 126 dX7_moveBlock_117 (by decide) ?_
            exact hJ _ (by rw [if_neg c4, if_pos c7])
      intro y2 ey2
      have hw := hw y2 ey2
      obtain ⟨hi3, hw⟩ := hw
      refine z_mast (j := 3) S hE rfl rfl hi3 dX7_moveBlock_126 ?_
      refine z_iinc (v := x3 + 1) (pl := 3) S [(3, .int (x3 + 1)), (0, va_rf (some o)), (1, .int x1), (2, .int x2)] dX7_moveBlock_127 rfl rfl (by decide) rfl ?_
      refine z_lv (lv' := [(0, va_rf (some o)), (1, .int x1), (2, .int x2), (3, .int (x3 + 1))]) [1, 2, 3, 0] rfl ?_
      refine z_goto S 86 dX7_moveBlock_130 (by decide) ?_
      exact ih (z_up M 3 x3.toNatClampNeg y2) x1 x2 (x3 + 1) hw
set_option maxRecDepth 20000 in
theorem mb_X7_moveBlock_33 {p : Program} {l : Launch} {e : Env} {s : State} {m : MethodId} {args : Array Value} {below : List Frame} {meth : Method} {c : Code} {D : va_G} {cy : Nat → ClassId} {A : Nat → Prop} {o : Nat} {ad : Nat → Nat} (S : CallFix p m c cX7_moveBlock 4 s args z_T RX7) (hlk : meth.locks = false) (hr : meth.sig.returnType = none) (hE : z_EM D cy s) {post : z_Md → Prop}  : ∀ (n : Nat) (M : z_Md) (x1 : Int32) (x2 : Int32) (x3 : Int32), w_X7_moveBlock_33 post n M x1 x2 x3 → z_V A (z_hM D cy A o ad) p l e rm_X7_moveBlock s m args below meth c 4 (MQ below (va_Qv post (fun (u' : z_Md) t => z_hM D cy A o ad u' t.heap) A) args s 0 0 A) 0 0 M 33 [(0, va_rf (some o)), (1, .int x1), (2, .int x2), (3, .int x3)] [] := by
  intro n
  induction n with
  | zero => intro M x1 x2 x3 hw; exact hw.elim
  | succ n ih =>
    intro M x1 x2 x3 hw
    refine z_iload_n S 3 dX7_moveBlock_33 rfl rfl ?_
    refine z_iconst (v := 4) S dX7_moveBlock_34 (by decide) ?_
    refine z_icmp_ge S 84 dX7_moveBlock_35 (by decide) (fun c1 => ?_) (fun c1 => ?_)
    · have hw := hw.1 c1
      refine z_iconst (v := 0) S dX7_moveBlock_84 (by decide) ?_
      refine z_istore_n S [(3, .int 0), (0, va_rf (some o)), (1, .int x1), (2, .int x2)] dX7_moveBlock_85 rfl (by decide) rfl ?_
      refine z_lv (lv' := [(0, va_rf (some o)), (1, .int x1), (2, .int x2), (3, .int 0)]) [1, 2, 3, 0] rfl ?_
      obtain ⟨n0, hw⟩ := hw
      exact mb_X7_moveBlock_86 S hlk hr hE n0 M x1 x2 0 hw
    · have hw := hw.2 c1
      refine z_aload_n (x := some o) S 0 dX7_moveBlock_38 rfl rfl ?_
      refine zm_g_19 S hE dX7_moveBlock_39 ?_
      refine z_iconst (v := 4) S dX7_moveBlock_42 (by decide) ?_
      refine z_iload_n S 2 dX7_moveBlock_43 rfl rfl ?_
      refine z_imul S dX7_moveBlock_44 ?_
      refine z_iload_n S 3 dX7_moveBlock_45 rfl rfl ?_
      refine z_iadd S dX7_moveBlock_46 ?_
      refine z_aload_n (x := some o) S 0 dX7_moveBlock_47 rfl rfl ?_
      refine zm_g_19 S hE dX7_moveBlock_48 ?_
      refine z_iconst (v := 4) S dX7_moveBlock_51 (by decide) ?_
      refine z_iload_n S 1 dX7_moveBlock_52 rfl rfl ?_
      refine z_imul S dX7_moveBlock_53 ?_
      refine z_iload_n S 3 dX7_moveBlock_54 rfl rfl ?_
      refine z_iadd S dX7_moveBlock_55 ?_
      obtain ⟨hi5, hw⟩ := hw
      refine z_mald (j := 4) S hE rfl rfl hi5 dX7_moveBlock_56 ?_
      obtain ⟨hi4, hw⟩ := hw
      refine z_mast (j := 4) S hE rfl rfl hi4 dX7_moveBlock_57 ?_
      refine z_aload_n (x := some o) S 0 dX7_moveBlock_58 rfl rfl ?_
      refine zm_g_22 S hE dX7_moveBlock_59 ?_
      refine z_iconst (v := 4) S dX7_moveBlock_62 (by decide) ?_
      refine z_iload_n S 2 dX7_moveBlock_63 rfl rfl ?_
      refine z_imul S dX7_moveBlock_64 ?_
      refine z_iload_n S 3 dX7_moveBlock_65 rfl rfl ?_
      refine z_iadd S dX7_moveBlock_66 ?_
      refine z_aload_n (x := some o) S 0 dX7_moveBlock_67 rfl rfl ?_
      refine zm_g_22 S hE dX7_moveBlock_68 ?_
      refine z_iconst (v := 4) S dX7_moveBlock_71 (by decide) ?_
      refine z_iload_n S 1 dX7_moveBlock_72 rfl rfl ?_
      refine z_imul S dX7_moveBlock_73 ?_
      refine z_iload_n S 3 dX7_moveBlock_74 rfl rfl ?_
      refine z_iadd S dX7_moveBlock_75 ?_
      obtain ⟨hi3, hw⟩ := hw
      refine z_mald (j := 5) S hE rfl rfl hi3 dX7_moveBlock_76 ?_
      obtain ⟨hi2, hw⟩ := hw
      refine z_mast (j := 5) S hE rfl rfl hi2 dX7_moveBlock_77 ?_
      refine z_iinc (v := x3 + 1) (pl := 3) S [(3, .int (x3 + 1)), (0, va_rf (some o)), (1, .int x1), (2, .int x2)] dX7_moveBlock_78 rfl rfl (by decide) rfl ?_
      refine z_lv (lv' := [(0, va_rf (some o)), (1, .int x1), (2, .int x2), (3, .int (x3 + 1))]) [1, 2, 3, 0] rfl ?_
      refine z_goto S 33 dX7_moveBlock_81 (by decide) ?_
      exact ih (z_up (z_up M 4 ((4 * x2) + x3).toNatClampNeg (M 4 ((4 * x1) + x3).toNatClampNeg)) 5 ((4 * x2) + x3).toNatClampNeg ((z_up M 4 ((4 * x2) + x3).toNatClampNeg (M 4 ((4 * x1) + x3).toNatClampNeg)) 5 ((4 * x1) + x3).toNatClampNeg)) x1 x2 (x3 + 1) hw
set_option maxRecDepth 20000 in
theorem mb_X7_moveBlock {p : Program} {l : Launch} {e : Env} {s : State} {m : MethodId} {args : Array Value} {below : List Frame} {meth : Method} {c : Code} {D : va_G} {cy : Nat → ClassId} {A : Nat → Prop} {o : Nat} {ad : Nat → Nat} (S : CallFix p m c cX7_moveBlock 4 s args z_T RX7) (hlk : meth.locks = false) (hr : meth.sig.returnType = none) (hE : z_EM D cy s) {post : z_Md → Prop}  (M : z_Md) (x1 : Int32) (x2 : Int32) (hw : w_X7_moveBlock post M x1 x2) : z_V A (z_hM D cy A o ad) p l e rm_X7_moveBlock s m args below meth c 4 (MQ below (va_Qv post (fun (u' : z_Md) t => z_hM D cy A o ad u' t.heap) A) args s 0 0 A) 0 0 M 0 [(0, va_rf (some o)), (1, .int x1), (2, .int x2)] [] := by
  refine z_aload_n (x := some o) S 0 dX7_moveBlock_0 rfl rfl ?_
  refine zm_g_13 S hE dX7_moveBlock_1 ?_
  refine z_iload_n S 2 dX7_moveBlock_4 rfl rfl ?_
  refine z_aload_n (x := some o) S 0 dX7_moveBlock_5 rfl rfl ?_
  refine zm_g_13 S hE dX7_moveBlock_6 ?_
  refine z_iload_n S 1 dX7_moveBlock_9 rfl rfl ?_
  obtain ⟨hi5, hw⟩ := hw
  refine z_mald (j := 2) S hE rfl rfl hi5 dX7_moveBlock_10 ?_
  obtain ⟨hi4, hw⟩ := hw
  refine z_mast (j := 2) S hE rfl rfl hi4 dX7_moveBlock_11 ?_
  refine z_aload_n (x := some o) S 0 dX7_moveBlock_12 rfl rfl ?_
  refine zm_g_16 S hE dX7_moveBlock_13 ?_
  refine z_iload_n S 2 dX7_moveBlock_16 rfl rfl ?_
  refine z_aload_n (x := some o) S 0 dX7_moveBlock_17 rfl rfl ?_
  refine zm_g_16 S hE dX7_moveBlock_18 ?_
  refine z_iload_n S 1 dX7_moveBlock_21 rfl rfl ?_
  obtain ⟨hi3, hw⟩ := hw
  refine z_mald (j := 3) S hE rfl rfl hi3 dX7_moveBlock_22 ?_
  obtain ⟨hi2, hw⟩ := hw
  refine z_mast (j := 3) S hE rfl rfl hi2 dX7_moveBlock_23 ?_
  refine z_aload_n (x := some o) S 0 dX7_moveBlock_24 rfl rfl ?_
  refine zm_g_13 S hE dX7_moveBlock_25 ?_
  refine z_iload_n S 1 dX7_moveBlock_28 rfl rfl ?_
  refine z_iconst (v := 0) S dX7_moveBlock_29 (by decide) ?_
  obtain ⟨hi1, hw⟩ := hw
  refine z_mast (j := 2) S hE rfl rfl hi1 dX7_moveBlock_30 ?_
  refine z_iconst (v := 0) S dX7_moveBlock_31 (by decide) ?_
  refine z_istore_n S [(3, .int 0), (0, va_rf (some o)), (1, .int x1), (2, .int x2)] dX7_moveBlock_32 rfl (by decide) rfl ?_
  refine z_lv (lv' := [(0, va_rf (some o)), (1, .int x1), (2, .int x2), (3, .int 0)]) [1, 2, 3, 0] rfl ?_
  obtain ⟨n0, hw⟩ := hw
  exact mb_X7_moveBlock_33 S hlk hr hE n0 (z_up (z_up (z_up M 2 x2.toNatClampNeg (M 2 x1.toNatClampNeg)) 3 x2.toNatClampNeg ((z_up M 2 x2.toNatClampNeg (M 2 x1.toNatClampNeg)) 3 x1.toNatClampNeg)) 2 x1.toNatClampNeg 0) x1 x2 0 hw
theorem me_X7_moveBlock (l : Launch) (D : va_G) (cy : Nat → ClassId) (A : Nat → Prop) (o : Nat) (ad : Nat → Nat) (post : z_Md → Prop) (M : z_Md) (x1 : Int32) (x2 : Int32) (hw : w_X7_moveBlock post M x1 x2) : z_Mv l yX7_moveBlock (Cond.code yX7_moveBlock cX7_moveBlock 4 none :: z_T) rm_X7_moveBlock [.ref o, .int x1, .int x2] (z_EM D cy) (z_hM D cy A o ad) M post 0 0 A :=
  z_met (by decide) (Nat.le_of_ble_eq_true rfl) (fun p e s m args below meth c S hlk hr hnm hE => mb_X7_moveBlock S hlk hr hE M x1 x2 hw)
abbrev rm_X7_pack : Room := { frames := 1, cells := 0, slots := 0, locals := 23 }
def w_X7_pack_21 (post : Int32 → z_Md → Prop) : Nat → z_Md → Int32 → Int32 → Prop
  | 0 => fun _ _ _ => False
  | n + 1 => fun M x1 x2 => ((¬ (M 0 0) = 0 → (post x2 M)) ∧ ((M 0 0) = 0 → ((x1 ≤ x2 → (post x2 M)) ∧ (¬ x1 ≤ x2 → (w_X7_freeBlock (fun r4 M3 => ((r4 < 0 → (post x2 M3)) ∧ (¬ r4 < 0 → (w_X7_freeBlock (fun r7 M6 => (w_X7_lastBlock (fun r9 M8 => ((r9 ≤ r7 → (post x2 M8)) ∧ (¬ r9 ≤ r7 → (w_X7_lastBlock (fun r12 M11 => (w_X7_freeBlock (fun r14 M13 => (w_X7_moveBlock (fun M15 => (w_X7_pack_21 post n M15 x1 (x2 + 1))) M13 r12 r14)) M11 )) M8 )))) M6 )) M3 )))) M )))))
def w_X7_pack (post : Int32 → z_Md → Prop) (M : z_Md) (x1 : Int32) : Prop := (∀ y1 : Int32, y1 = (if x1 < 0 then 1 else (if x1 ≤ 100 then 0 else 1)) → (∃ n0 : Nat, w_X7_pack_21 post n0 (z_up M 0 0 y1) x1 0))
set_option maxRecDepth 20000 in
theorem mb_X7_pack_21 {p : Program} {l : Launch} {e : Env} {s : State} {m : MethodId} {args : Array Value} {below : List Frame} {meth : Method} {c : Code} {D : va_G} {cy : Nat → ClassId} {A : Nat → Prop} {o : Nat} {ad : Nat → Nat} (S : CallFix p m c cX7_pack 3 s args z_T RX7) (hlk : meth.locks = false) (hr : meth.sig.returnType = some .int) (hE : z_EM D cy s) {post : Int32 → z_Md → Prop}  : ∀ (n : Nat) (M : z_Md) (x1 : Int32) (x2 : Int32), w_X7_pack_21 post n M x1 x2 → z_V A (z_hM D cy A o ad) p l e rm_X7_pack s m args below meth c 3 (MQ below (va_Qi post (fun (u' : z_Md) t => z_hM D cy A o ad u' t.heap) A) args s 0 0 A) 0 0 M 21 [(0, va_rf (some o)), (1, .int x1), (2, .int x2)] [] := by
  intro n
  induction n with
  | zero => intro M x1 x2 hw; exact hw.elim
  | succ n ih =>
    intro M x1 x2 hw
    refine z_aload_n (x := some o) S 0 dX7_pack_21 rfl rfl ?_
    refine zm_g_89 S hE dX7_pack_22 ?_
    refine z_if_ne S 69 dX7_pack_25 (by decide) (fun c1 => ?_) (fun c1 => ?_)
    · have hw := hw.1 c1
      refine z_iload_n S 2 dX7_pack_69 rfl rfl ?_
      exact z_iret S hr hlk dX7_pack_70 (Nat.le_refl 0) (Nat.le_refl 0) hw
    · have hw := hw.2 c1
      refine z_iload_n S 2 dX7_pack_28 rfl rfl ?_
      refine z_iload_n S 1 dX7_pack_29 rfl rfl ?_
      refine z_icmp_ge S 69 dX7_pack_30 (by decide) (fun c2 => ?_) (fun c2 => ?_)
      · have hw := hw.1 c2
        refine z_iload_n S 2 dX7_pack_69 rfl rfl ?_
        exact z_iret S hr hlk dX7_pack_70 (Nat.le_refl 0) (Nat.le_refl 0) hw
      · have hw := hw.2 c2
        refine z_aload_n (x := some o) S 0 dX7_pack_33 rfl rfl ?_
        refine z_callVi (As := []) (st := []) S (z_EMok D cy A) hE (me_X7_freeBlock l D cy A o ad _ M  hw) gV_X7_103 hdV_X7_freeBlock ⟨Nat.le_of_ble_eq_true rfl, Nat.le_of_ble_eq_true rfl⟩ rfl rfl (z_recvM hE) (fun _ h => h) (fun _ _ _ _ h => h) rfl (Nat.le_trans z_s0 (by decide)) dX7_pack_34 ⟨Nat.le_of_ble_eq_true rfl, Nat.le_of_ble_eq_true rfl⟩ rfl (fun r4 M3 hw => ?_)
        refine z_if_lt S 69 dX7_pack_37 (by decide) (fun c5 => ?_) (fun c5 => ?_)
        · have hw := hw.1 c5
          refine z_iload_n S 2 dX7_pack_69 rfl rfl ?_
          exact z_iret S hr hlk dX7_pack_70 (Nat.le_refl 0) (Nat.le_refl 0) hw
        · have hw := hw.2 c5
          refine z_aload_n (x := some o) S 0 dX7_pack_40 rfl rfl ?_
          refine z_callVi (As := []) (st := []) S (z_EMok D cy A) hE (me_X7_freeBlock l D cy A o ad _ M3  hw) gV_X7_103 hdV_X7_freeBlock ⟨Nat.le_of_ble_eq_true rfl, Nat.le_of_ble_eq_true rfl⟩ rfl rfl (z_recvM hE) (fun _ h => h) (fun _ _ _ _ h => h) rfl (Nat.le_trans z_s0 (by decide)) dX7_pack_41 ⟨Nat.le_of_ble_eq_true rfl, Nat.le_of_ble_eq_true rfl⟩ rfl (fun r7 M6 hw => ?_)
          refine z_aload_n (x := some o) S 0 dX7_pack_44 rfl rfl ?_
          refine z_callVi (As := []) (st := [.int r7]) S (z_EMok D cy A) hE (me_X7_lastBlock l D cy A o ad _ M6  hw) gV_X7_183 hdV_X7_lastBlock ⟨Nat.le_of_ble_eq_true rfl, Nat.le_of_ble_eq_true rfl⟩ rfl rfl (z_recvM hE) (fun _ h => h) (fun _ _ _ _ h => h) rfl (Nat.le_trans (z_s1 z_s0) (by decide)) dX7_pack_45 ⟨Nat.le_of_ble_eq_true rfl, Nat.le_of_ble_eq_true rfl⟩ rfl (fun r9 M8 hw => ?_)
          refine z_icmp_ge S 69 dX7_pack_48 (by decide) (fun c10 => ?_) (fun c10 => ?_)
          · have hw := hw.1 c10
            refine z_iload_n S 2 dX7_pack_69 rfl rfl ?_
            exact z_iret S hr hlk dX7_pack_70 (Nat.le_refl 0) (Nat.le_refl 0) hw
          · have hw := hw.2 c10
            refine z_aload_n (x := some o) S 0 dX7_pack_51 rfl rfl ?_
            refine z_aload_n (x := some o) S 0 dX7_pack_52 rfl rfl ?_
            refine z_callVi (As := []) (st := [va_rf (some o)]) S (z_EMok D cy A) hE (me_X7_lastBlock l D cy A o ad _ M8  hw) gV_X7_183 hdV_X7_lastBlock ⟨Nat.le_of_ble_eq_true rfl, Nat.le_of_ble_eq_true rfl⟩ rfl rfl (z_recvM hE) (fun _ h => h) (fun _ _ _ _ h => h) rfl (Nat.le_trans (z_sq z_s0) (by decide)) dX7_pack_53 ⟨Nat.le_of_ble_eq_true rfl, Nat.le_of_ble_eq_true rfl⟩ rfl (fun r12 M11 hw => ?_)
            refine z_aload_n (x := some o) S 0 dX7_pack_56 rfl rfl ?_
            refine z_callVi (As := []) (st := [.int r12, va_rf (some o)]) S (z_EMok D cy A) hE (me_X7_freeBlock l D cy A o ad _ M11  hw) gV_X7_103 hdV_X7_freeBlock ⟨Nat.le_of_ble_eq_true rfl, Nat.le_of_ble_eq_true rfl⟩ rfl rfl (z_recvM hE) (fun _ h => h) (fun _ _ _ _ h => h) rfl (Nat.le_trans (z_s1 (z_sq z_s0)) (by decide)) dX7_pack_57 ⟨Nat.le_of_ble_eq_true rfl, Nat.le_of_ble_eq_true rfl⟩ rfl (fun r14 M13 hw => ?_)
            refine z_callVv (As := [.int r12, .int r14]) (st := []) S (z_EMok D cy A) hE (me_X7_moveBlock l D cy A o ad _ M13 r12 r14 hw) gV_X7_186 hdV_X7_moveBlock ⟨Nat.le_of_ble_eq_true rfl, Nat.le_of_ble_eq_true rfl⟩ rfl rfl (z_recvM hE) (fun _ h => h) (fun _ _ _ _ h => h) rfl (Nat.le_trans z_s0 (by decide)) dX7_pack_60 ⟨Nat.le_of_ble_eq_true rfl, Nat.le_of_ble_eq_true rfl⟩ rfl (fun M15 hw => ?_)
            refine z_iinc (v := x2 + 1) (pl := 2) S [(2, .int (x2 + 1)), (0, va_rf (some o)), (1, .int x1)] dX7_pack_63 rfl rfl (by decide) rfl ?_
            refine z_lv (lv' := [(0, va_rf (some o)), (1, .int x1), (2, .int (x2 + 1))]) [1, 2, 0] rfl ?_
            refine z_goto S 21 dX7_pack_66 (by decide) ?_
            exact ih M15 x1 (x2 + 1) hw
set_option maxRecDepth 20000 in
theorem mb_X7_pack {p : Program} {l : Launch} {e : Env} {s : State} {m : MethodId} {args : Array Value} {below : List Frame} {meth : Method} {c : Code} {D : va_G} {cy : Nat → ClassId} {A : Nat → Prop} {o : Nat} {ad : Nat → Nat} (S : CallFix p m c cX7_pack 3 s args z_T RX7) (hlk : meth.locks = false) (hr : meth.sig.returnType = some .int) (hE : z_EM D cy s) {post : Int32 → z_Md → Prop}  (M : z_Md) (x1 : Int32) (hw : w_X7_pack post M x1) : z_V A (z_hM D cy A o ad) p l e rm_X7_pack s m args below meth c 3 (MQ below (va_Qi post (fun (u' : z_Md) t => z_hM D cy A o ad u' t.heap) A) args s 0 0 A) 0 0 M 0 [(0, va_rf (some o)), (1, .int x1)] [] := by
  refine z_aload_n (x := some o) S 0 dX7_pack_0 rfl rfl ?_
  refine z_iload_n S 1 dX7_pack_1 rfl rfl ?_
  suffices hJ : ∀ y1 : Int32, y1 = (if x1 < 0 then 1 else (if x1 ≤ 100 then 0 else 1)) → z_V A (z_hM D cy A o ad) p l e rm_X7_pack s m args below meth c 3 (MQ below (va_Qi post (fun (u' : z_Md) t => z_hM D cy A o ad u' t.heap) A) args s 0 0 A) 0 0 M 16 [(0, va_rf (some o)), (1, .int x1)] [.int y1, va_rf (some o)] from by
    refine z_if_lt S 11 dX7_pack_2 (by decide) (fun c2 => ?_) (fun c2 => ?_)
    · refine z_iconst (v := 1) S dX7_pack_11 (by decide) ?_
      refine z_goto S 16 dX7_pack_12 (by decide) ?_
      exact hJ _ (by rw [if_pos c2])
    · refine z_iload_n S 1 dX7_pack_5 rfl rfl ?_
      refine z_bipush (v := 100) S dX7_pack_6 (by decide) ?_
      refine z_icmp_le S 15 dX7_pack_8 (by decide) (fun c3 => ?_) (fun c3 => ?_)
      · refine z_iconst (v := 0) S dX7_pack_15 (by decide) ?_
        exact hJ _ (by rw [if_neg c2, if_pos c3])
      · refine z_iconst (v := 1) S dX7_pack_11 (by decide) ?_
        refine z_goto S 16 dX7_pack_12 (by decide) ?_
        exact hJ _ (by rw [if_neg c2, if_neg c3])
  intro y1 ey1
  have hw := hw y1 ey1
  refine zm_p_89 S hE dX7_pack_16 ?_
  refine z_iconst (v := 0) S dX7_pack_19 (by decide) ?_
  refine z_istore_n S [(2, .int 0), (0, va_rf (some o)), (1, .int x1)] dX7_pack_20 rfl (by decide) rfl ?_
  refine z_lv (lv' := [(0, va_rf (some o)), (1, .int x1), (2, .int 0)]) [1, 2, 0] rfl ?_
  obtain ⟨n0, hw⟩ := hw
  exact mb_X7_pack_21 S hlk hr hE n0 (z_up M 0 0 y1) x1 0 hw
theorem me_X7_pack (l : Launch) (D : va_G) (cy : Nat → ClassId) (A : Nat → Prop) (o : Nat) (ad : Nat → Nat) (post : Int32 → z_Md → Prop) (M : z_Md) (x1 : Int32) (hw : w_X7_pack post M x1) : z_Mi l yX7_pack (Cond.code yX7_pack cX7_pack 3 (some .int) :: z_T) rm_X7_pack [.ref o, .int x1] (z_EM D cy) (z_hM D cy A o ad) M post 0 0 A :=
  z_met (by decide) (Nat.le_of_ble_eq_true rfl) (fun p e s m args below meth c S hlk hr hnm hE => mb_X7_pack S hlk hr hE M x1 hw)
abbrev rm_X7_block : Room := { frames := 0, cells := 0, slots := 0, locals := 0 }
def w_X7_block (post : Int32 → z_Md → Prop) (M : z_Md) (x1 : Int32) : Prop := (∀ y1 : Int32, y1 = (if x1 < 0 then 1 else (if 40 ≤ x1 then 1 else 0)) → ((((z_up M 0 0 y1) 0 0) ≤ 0 → vp_in x1 40) ∧ (∀ y2 : Int32, y2 = (if ((z_up M 0 0 y1) 0 0) ≤ 0 then (z_up M 0 0 y1) 2 x1.toNatClampNeg else 0) → (post y2 (z_up M 0 0 y1)))))
set_option maxRecDepth 20000 in
theorem mb_X7_block {p : Program} {l : Launch} {e : Env} {s : State} {m : MethodId} {args : Array Value} {below : List Frame} {meth : Method} {c : Code} {D : va_G} {cy : Nat → ClassId} {A : Nat → Prop} {o : Nat} {ad : Nat → Nat} (S : CallFix p m c cX7_block 2 s args z_T RX7) (hlk : meth.locks = false) (hr : meth.sig.returnType = some .int) (hE : z_EM D cy s) {post : Int32 → z_Md → Prop}  (M : z_Md) (x1 : Int32) (hw : w_X7_block post M x1) : z_V A (z_hM D cy A o ad) p l e rm_X7_block s m args below meth c 2 (MQ below (va_Qi post (fun (u' : z_Md) t => z_hM D cy A o ad u' t.heap) A) args s 0 0 A) 0 0 M 0 [(0, va_rf (some o)), (1, .int x1)] [] := by
  refine z_aload_n (x := some o) S 0 dX7_block_0 rfl rfl ?_
  refine z_iload_n S 1 dX7_block_1 rfl rfl ?_
  suffices hJ : ∀ y1 : Int32, y1 = (if x1 < 0 then 1 else (if 40 ≤ x1 then 1 else 0)) → z_V A (z_hM D cy A o ad) p l e rm_X7_block s m args below meth c 2 (MQ below (va_Qi post (fun (u' : z_Md) t => z_hM D cy A o ad u' t.heap) A) args s 0 0 A) 0 0 M 16 [(0, va_rf (some o)), (1, .int x1)] [.int y1, va_rf (some o)] from by
    refine z_if_lt S 15 dX7_block_2 (by decide) (fun c5 => ?_) (fun c5 => ?_)
    · refine z_iconst (v := 1) S dX7_block_15 (by decide) ?_
      exact hJ _ (by rw [if_pos c5])
    · refine z_iload_n S 1 dX7_block_5 rfl rfl ?_
      refine z_bipush (v := 40) S dX7_block_6 (by decide) ?_
      refine z_icmp_ge S 15 dX7_block_8 (by decide) (fun c6 => ?_) (fun c6 => ?_)
      · refine z_iconst (v := 1) S dX7_block_15 (by decide) ?_
        exact hJ _ (by rw [if_neg c5, if_pos c6])
      · refine z_iconst (v := 0) S dX7_block_11 (by decide) ?_
        refine z_goto S 16 dX7_block_12 (by decide) ?_
        exact hJ _ (by rw [if_neg c5, if_neg c6])
  intro y1 ey1
  have hw := hw y1 ey1
  refine zm_p_89 S hE dX7_block_16 ?_
  refine z_aload_n (x := some o) S 0 dX7_block_19 rfl rfl ?_
  refine zm_g_89 S hE dX7_block_20 ?_
  obtain ⟨hob, hw⟩ := hw
  suffices hJ : ∀ y2 : Int32, y2 = (if ((z_up M 0 0 y1) 0 0) ≤ 0 then (z_up M 0 0 y1) 2 x1.toNatClampNeg else 0) → z_V A (z_hM D cy A o ad) p l e rm_X7_block s m args below meth c 2 (MQ below (va_Qi post (fun (u' : z_Md) t => z_hM D cy A o ad u' t.heap) A) args s 0 0 A) 0 0 (z_up M 0 0 y1) 36 [] [.int y2] from by
    refine z_if_le S 30 dX7_block_23 (by decide) (fun c3 => ?_) (fun c3 => ?_)
    · have hob := hob c3
      refine z_aload_n (x := some o) S 0 dX7_block_30 rfl rfl ?_
      refine zm_g_13 S hE dX7_block_31 ?_
      refine z_iload_n S 1 dX7_block_34 rfl rfl ?_
      have hi4 := hob
      refine z_mald (j := 2) S hE rfl rfl hi4 dX7_block_35 ?_
      refine z_lv (lv' := []) [] rfl ?_
      exact hJ _ (by rw [if_pos c3])
    · refine z_iconst (v := 0) S dX7_block_26 (by decide) ?_
      refine z_goto S 36 dX7_block_27 (by decide) ?_
      refine z_lv (lv' := []) [] rfl ?_
      exact hJ _ (by rw [if_neg c3])
  intro y2 ey2
  have hw := hw y2 ey2
  exact z_iret S hr hlk dX7_block_36 (Nat.le_refl 0) (Nat.le_refl 0) hw
theorem me_X7_block (l : Launch) (D : va_G) (cy : Nat → ClassId) (A : Nat → Prop) (o : Nat) (ad : Nat → Nat) (post : Int32 → z_Md → Prop) (M : z_Md) (x1 : Int32) (hw : w_X7_block post M x1) : z_Mi l yX7_block (Cond.code yX7_block cX7_block 2 (some .int) :: z_T) rm_X7_block [.ref o, .int x1] (z_EM D cy) (z_hM D cy A o ad) M post 0 0 A :=
  z_met (by decide) (Nat.le_of_ble_eq_true rfl) (fun p e s m args below meth c S hlk hr hnm hE => mb_X7_block S hlk hr hE M x1 hw)
abbrev rm_X7_step : Room := { frames := 0, cells := 0, slots := 0, locals := 0 }
def w_X7_step (post : Int32 → z_Md → Prop) (M : z_Md) (x1 : Int32) : Prop := (∀ y1 : Int32, y1 = (if x1 < 0 then 1 else (if 49 ≤ x1 then 1 else 0)) → ((((z_up M 0 0 y1) 0 0) ≤ 0 → vp_in x1 49) ∧ (∀ y2 : Int32, y2 = (if ((z_up M 0 0 y1) 0 0) ≤ 0 then (z_up M 0 0 y1) 1 x1.toNatClampNeg else 0) → (post y2 (z_up M 0 0 y1)))))
set_option maxRecDepth 20000 in
theorem mb_X7_step {p : Program} {l : Launch} {e : Env} {s : State} {m : MethodId} {args : Array Value} {below : List Frame} {meth : Method} {c : Code} {D : va_G} {cy : Nat → ClassId} {A : Nat → Prop} {o : Nat} {ad : Nat → Nat} (S : CallFix p m c cX7_step 2 s args z_T RX7) (hlk : meth.locks = false) (hr : meth.sig.returnType = some .int) (hE : z_EM D cy s) {post : Int32 → z_Md → Prop}  (M : z_Md) (x1 : Int32) (hw : w_X7_step post M x1) : z_V A (z_hM D cy A o ad) p l e rm_X7_step s m args below meth c 2 (MQ below (va_Qi post (fun (u' : z_Md) t => z_hM D cy A o ad u' t.heap) A) args s 0 0 A) 0 0 M 0 [(0, va_rf (some o)), (1, .int x1)] [] := by
  refine z_aload_n (x := some o) S 0 dX7_step_0 rfl rfl ?_
  refine z_iload_n S 1 dX7_step_1 rfl rfl ?_
  suffices hJ : ∀ y1 : Int32, y1 = (if x1 < 0 then 1 else (if 49 ≤ x1 then 1 else 0)) → z_V A (z_hM D cy A o ad) p l e rm_X7_step s m args below meth c 2 (MQ below (va_Qi post (fun (u' : z_Md) t => z_hM D cy A o ad u' t.heap) A) args s 0 0 A) 0 0 M 16 [(0, va_rf (some o)), (1, .int x1)] [.int y1, va_rf (some o)] from by
    refine z_if_lt S 15 dX7_step_2 (by decide) (fun c5 => ?_) (fun c5 => ?_)
    · refine z_iconst (v := 1) S dX7_step_15 (by decide) ?_
      exact hJ _ (by rw [if_pos c5])
    · refine z_iload_n S 1 dX7_step_5 rfl rfl ?_
      refine z_bipush (v := 49) S dX7_step_6 (by decide) ?_
      refine z_icmp_ge S 15 dX7_step_8 (by decide) (fun c6 => ?_) (fun c6 => ?_)
      · refine z_iconst (v := 1) S dX7_step_15 (by decide) ?_
        exact hJ _ (by rw [if_neg c5, if_pos c6])
      · refine z_iconst (v := 0) S dX7_step_11 (by decide) ?_
        refine z_goto S 16 dX7_step_12 (by decide) ?_
        exact hJ _ (by rw [if_neg c5, if_neg c6])
  intro y1 ey1
  have hw := hw y1 ey1
  refine zm_p_89 S hE dX7_step_16 ?_
  refine z_aload_n (x := some o) S 0 dX7_step_19 rfl rfl ?_
  refine zm_g_89 S hE dX7_step_20 ?_
  obtain ⟨hob, hw⟩ := hw
  suffices hJ : ∀ y2 : Int32, y2 = (if ((z_up M 0 0 y1) 0 0) ≤ 0 then (z_up M 0 0 y1) 1 x1.toNatClampNeg else 0) → z_V A (z_hM D cy A o ad) p l e rm_X7_step s m args below meth c 2 (MQ below (va_Qi post (fun (u' : z_Md) t => z_hM D cy A o ad u' t.heap) A) args s 0 0 A) 0 0 (z_up M 0 0 y1) 36 [] [.int y2] from by
    refine z_if_le S 30 dX7_step_23 (by decide) (fun c3 => ?_) (fun c3 => ?_)
    · have hob := hob c3
      refine z_aload_n (x := some o) S 0 dX7_step_30 rfl rfl ?_
      refine zm_g_7 S hE dX7_step_31 ?_
      refine z_iload_n S 1 dX7_step_34 rfl rfl ?_
      have hi4 := hob
      refine z_mald (j := 1) S hE rfl rfl hi4 dX7_step_35 ?_
      refine z_lv (lv' := []) [] rfl ?_
      exact hJ _ (by rw [if_pos c3])
    · refine z_iconst (v := 0) S dX7_step_26 (by decide) ?_
      refine z_goto S 36 dX7_step_27 (by decide) ?_
      refine z_lv (lv' := []) [] rfl ?_
      exact hJ _ (by rw [if_neg c3])
  intro y2 ey2
  have hw := hw y2 ey2
  exact z_iret S hr hlk dX7_step_36 (Nat.le_refl 0) (Nat.le_refl 0) hw
theorem me_X7_step (l : Launch) (D : va_G) (cy : Nat → ClassId) (A : Nat → Prop) (o : Nat) (ad : Nat → Nat) (post : Int32 → z_Md → Prop) (M : z_Md) (x1 : Int32) (hw : w_X7_step post M x1) : z_Mi l yX7_step (Cond.code yX7_step cX7_step 2 (some .int) :: z_T) rm_X7_step [.ref o, .int x1] (z_EM D cy) (z_hM D cy A o ad) M post 0 0 A :=
  z_met (by decide) (Nat.le_of_ble_eq_true rfl) (fun p e s m args below meth c S hlk hr hnm hE => mb_X7_step S hlk hr hE M x1 hw)
abbrev rm_X7_total : Room := { frames := 1, cells := 0, slots := 0, locals := 22 }
def w_X7_total_43 (post : Int32 → z_Md → Prop) : Nat → z_Md → Int32 → Int32 → Int32 → Int32 → Prop
  | 0 => fun _ _ _ _ _ => False
  | n + 1 => fun M x1 x2 x3 x4 => ((40 ≤ x4 → (∀ y2 : Int32, y2 = (if (M 20 (0 : Int32).toNatClampNeg) = 0 then 0 else 1) → (∀ y3 : Int32, y3 = (if (M 20 (1 : Int32).toNatClampNeg) = 0 then 0 else 2) → (∀ y4 : Int32, y4 = (if (M 20 (2 : Int32).toNatClampNeg) = 0 then 0 else 4) → (∀ x4_5 : Int32, x4_5 = (y2 + y3) + y4 → ((¬ x1 = 0 → ((¬ x1 = 1 → ((¬ x1 = 2 → ((¬ x1 = 3 → ((¬ x1 = 4 → (∀ y11 : Int32, y11 = (if x1 = 5 then x4_5 else (-1)) → (post y11 M))) ∧ (x1 = 4 → (w_X7_lastBlock (fun r14 M13 => (post r14 M13)) M )))) ∧ (x1 = 3 → (post x3 M)))) ∧ (x1 = 2 → (post x2 M)))) ∧ (x1 = 1 → (post (M 13 0) M)))) ∧ (x1 = 0 → (post (M 10 0) M)))))))) ∧ (¬ 40 ≤ x4 → (vp_in x4 40 ∧ (∀ y18 : Int32, y18 = (if (M 2 x4.toNatClampNeg) = 0 then x3 + 1 else x3) → (w_X7_total_43 post n M x1 x2 y18 (x4 + 1))))))
def w_X7_total_9 (post : Int32 → z_Md → Prop) : Nat → z_Md → Int32 → Int32 → Int32 → Prop
  | 0 => fun _ _ _ _ => False
  | n + 1 => fun M x1 x2 x3 => ((48 ≤ x3 → (∃ n0 : Nat, w_X7_total_43 post n0 M x1 x2 0 0)) ∧ (¬ 48 ≤ x3 → (vp_in x3 48 ∧ (∀ y2 : Int32, y2 = (if (M 6 x3.toNatClampNeg) ≤ 0 then x2 else x2 + 1) → (w_X7_total_9 post n M x1 y2 (x3 + 1))))))
def w_X7_total (post : Int32 → z_Md → Prop) (M : z_Md) (x1 : Int32) : Prop := (∃ n0 : Nat, w_X7_total_9 post n0 (z_up M 0 0 0) x1 0 0)
set_option maxRecDepth 20000 in
theorem mb_X7_total_43 {p : Program} {l : Launch} {e : Env} {s : State} {m : MethodId} {args : Array Value} {below : List Frame} {meth : Method} {c : Code} {D : va_G} {cy : Nat → ClassId} {A : Nat → Prop} {o : Nat} {ad : Nat → Nat} (S : CallFix p m c cX7_total 5 s args z_T RX7) (hlk : meth.locks = false) (hr : meth.sig.returnType = some .int) (hE : z_EM D cy s) {post : Int32 → z_Md → Prop}  : ∀ (n : Nat) (M : z_Md) (x1 : Int32) (x2 : Int32) (x3 : Int32) (x4 : Int32), w_X7_total_43 post n M x1 x2 x3 x4 → z_V A (z_hM D cy A o ad) p l e rm_X7_total s m args below meth c 5 (MQ below (va_Qi post (fun (u' : z_Md) t => z_hM D cy A o ad u' t.heap) A) args s 0 0 A) 0 0 M 43 [(0, va_rf (some o)), (1, .int x1), (2, .int x2), (3, .int x3), (4, .int x4)] [] := by
  intro n
  induction n with
  | zero => intro M x1 x2 x3 x4 hw; exact hw.elim
  | succ n ih =>
    intro M x1 x2 x3 x4 hw
    refine z_iload S 4 dX7_total_43 rfl ?_
    refine z_bipush (v := 40) S dX7_total_45 (by decide) ?_
    refine z_icmp_ge S 74 dX7_total_47 (by decide) (fun c1 => ?_) (fun c1 => ?_)
    · have hw := hw.1 c1
      refine z_aload_n (x := some o) S 0 dX7_total_74 rfl rfl ?_
      refine zm_g_59 S hE dX7_total_75 ?_
      refine z_iconst (v := 0) S dX7_total_78 (by decide) ?_
      refine z_mzld (j := 20) S hE rfl rfl (by unfold vp_in; decide) dX7_total_79 ?_
      suffices hJ : ∀ y2 : Int32, y2 = (if (M 20 (0 : Int32).toNatClampNeg) = 0 then 0 else 1) → z_V A (z_hM D cy A o ad) p l e rm_X7_total s m args below meth c 5 (MQ below (va_Qi post (fun (u' : z_Md) t => z_hM D cy A o ad u' t.heap) A) args s 0 0 A) 0 0 M 88 [(0, va_rf (some o)), (1, .int x1), (2, .int x2), (3, .int x3)] [.int y2] from by
        refine z_if_eq S 87 dX7_total_80 (by decide) (fun c17 => ?_) (fun c17 => ?_)
        · refine z_iconst (v := 0) S dX7_total_87 (by decide) ?_
          refine z_lv (lv' := [(0, va_rf (some o)), (1, .int x1), (2, .int x2), (3, .int x3)]) [0, 1, 2, 3] rfl ?_
          exact hJ _ (by rw [if_pos c17])
        · refine z_iconst (v := 1) S dX7_total_83 (by decide) ?_
          refine z_goto S 88 dX7_total_84 (by decide) ?_
          refine z_lv (lv' := [(0, va_rf (some o)), (1, .int x1), (2, .int x2), (3, .int x3)]) [0, 1, 2, 3] rfl ?_
          exact hJ _ (by rw [if_neg c17])
      intro y2 ey2
      have hw := hw y2 ey2
      refine z_aload_n (x := some o) S 0 dX7_total_88 rfl rfl ?_
      refine zm_g_59 S hE dX7_total_89 ?_
      refine z_iconst (v := 1) S dX7_total_92 (by decide) ?_
      refine z_mzld (j := 20) S hE rfl rfl (by unfold vp_in; decide) dX7_total_93 ?_
      suffices hJ : ∀ y3 : Int32, y3 = (if (M 20 (1 : Int32).toNatClampNeg) = 0 then 0 else 2) → z_V A (z_hM D cy A o ad) p l e rm_X7_total s m args below meth c 5 (MQ below (va_Qi post (fun (u' : z_Md) t => z_hM D cy A o ad u' t.heap) A) args s 0 0 A) 0 0 M 102 [(0, va_rf (some o)), (1, .int x1), (2, .int x2), (3, .int x3)] [.int y3, .int y2] from by
        refine z_if_eq S 101 dX7_total_94 (by decide) (fun c16 => ?_) (fun c16 => ?_)
        · refine z_iconst (v := 0) S dX7_total_101 (by decide) ?_
          exact hJ _ (by rw [if_pos c16])
        · refine z_iconst (v := 2) S dX7_total_97 (by decide) ?_
          refine z_goto S 102 dX7_total_98 (by decide) ?_
          exact hJ _ (by rw [if_neg c16])
      intro y3 ey3
      have hw := hw y3 ey3
      refine z_iadd S dX7_total_102 ?_
      refine z_aload_n (x := some o) S 0 dX7_total_103 rfl rfl ?_
      refine zm_g_59 S hE dX7_total_104 ?_
      refine z_iconst (v := 2) S dX7_total_107 (by decide) ?_
      refine z_mzld (j := 20) S hE rfl rfl (by unfold vp_in; decide) dX7_total_108 ?_
      suffices hJ : ∀ y4 : Int32, y4 = (if (M 20 (2 : Int32).toNatClampNeg) = 0 then 0 else 4) → z_V A (z_hM D cy A o ad) p l e rm_X7_total s m args below meth c 5 (MQ below (va_Qi post (fun (u' : z_Md) t => z_hM D cy A o ad u' t.heap) A) args s 0 0 A) 0 0 M 117 [(0, va_rf (some o)), (1, .int x1), (2, .int x2), (3, .int x3)] [.int y4, .int (y2 + y3)] from by
        refine z_if_eq S 116 dX7_total_109 (by decide) (fun c15 => ?_) (fun c15 => ?_)
        · refine z_iconst (v := 0) S dX7_total_116 (by decide) ?_
          exact hJ _ (by rw [if_pos c15])
        · refine z_iconst (v := 4) S dX7_total_112 (by decide) ?_
          refine z_goto S 117 dX7_total_113 (by decide) ?_
          exact hJ _ (by rw [if_neg c15])
      intro y4 ey4
      have hw := hw y4 ey4
      refine z_iadd S dX7_total_117 ?_
      refine z_top (fun x4_5 ex4_5 => ?_)
      have hw := hw x4_5 ex4_5
      refine z_istore S [(4, .int x4_5), (0, va_rf (some o)), (1, .int x1), (2, .int x2), (3, .int x3)] dX7_total_118 (by decide) rfl ?_
      refine z_lv (lv' := [(0, va_rf (some o)), (1, .int x1), (2, .int x2), (3, .int x3), (4, .int x4_5)]) [1, 2, 3, 4, 0] rfl ?_
      refine z_iload_n S 1 dX7_total_120 rfl rfl ?_
      refine z_if_ne S 131 dX7_total_121 (by decide) (fun c6 => ?_) (fun c6 => ?_)
      · have hw := hw.1 c6
        refine z_iload_n S 1 dX7_total_131 rfl rfl ?_
        refine z_iconst (v := 1) S dX7_total_132 (by decide) ?_
        refine z_icmp_ne S 143 dX7_total_133 (by decide) (fun c7 => ?_) (fun c7 => ?_)
        · have hw := hw.1 c7
          refine z_iload_n S 1 dX7_total_143 rfl rfl ?_
          refine z_iconst (v := 2) S dX7_total_144 (by decide) ?_
          refine z_icmp_ne S 152 dX7_total_145 (by decide) (fun c8 => ?_) (fun c8 => ?_)
          · have hw := hw.1 c8
            refine z_iload_n S 1 dX7_total_152 rfl rfl ?_
            refine z_iconst (v := 3) S dX7_total_153 (by decide) ?_
            refine z_icmp_ne S 161 dX7_total_154 (by decide) (fun c9 => ?_) (fun c9 => ?_)
            · have hw := hw.1 c9
              refine z_iload_n S 1 dX7_total_161 rfl rfl ?_
              refine z_iconst (v := 4) S dX7_total_162 (by decide) ?_
              refine z_icmp_ne S 173 dX7_total_163 (by decide) (fun c10 => ?_) (fun c10 => ?_)
              · have hw := hw.1 c10
                refine z_iload_n S 1 dX7_total_173 rfl rfl ?_
                refine z_iconst (v := 5) S dX7_total_174 (by decide) ?_
                suffices hJ : ∀ y11 : Int32, y11 = (if x1 = 5 then x4_5 else (-1)) → z_V A (z_hM D cy A o ad) p l e rm_X7_total s m args below meth c 5 (MQ below (va_Qi post (fun (u' : z_Md) t => z_hM D cy A o ad u' t.heap) A) args s 0 0 A) 0 0 M 184 [] [.int y11] from by
                  refine z_icmp_ne S 183 dX7_total_175 (by decide) (fun c12 => ?_) (fun c12 => ?_)
                  · refine z_iconst (v := (-1)) S dX7_total_183 (by decide) ?_
                    refine z_lv (lv' := []) [] rfl ?_
                    exact hJ _ (by rw [if_neg c12])
                  · refine z_iload S 4 dX7_total_178 rfl ?_
                    refine z_goto S 184 dX7_total_180 (by decide) ?_
                    refine z_lv (lv' := []) [] rfl ?_
                    exact hJ _ (by rw [if_pos c12])
                intro y11 ey11
                have hw := hw y11 ey11
                exact z_iret S hr hlk dX7_total_184 (Nat.le_refl 0) (Nat.le_refl 0) hw
              · have hw := hw.2 c10
                refine z_aload_n (x := some o) S 0 dX7_total_166 rfl rfl ?_
                refine z_callVi (As := []) (st := []) S (z_EMok D cy A) hE (me_X7_lastBlock l D cy A o ad _ M  hw) gV_X7_183 hdV_X7_lastBlock ⟨Nat.le_of_ble_eq_true rfl, Nat.le_of_ble_eq_true rfl⟩ rfl rfl (z_recvM hE) (fun _ h => h) (fun _ _ _ _ h => h) rfl (Nat.le_trans z_s0 (by decide)) dX7_total_167 ⟨Nat.le_of_ble_eq_true rfl, Nat.le_of_ble_eq_true rfl⟩ rfl (fun r14 M13 hw => ?_)
                refine z_goto S 184 dX7_total_170 (by decide) ?_
                exact z_iret S hr hlk dX7_total_184 (Nat.le_refl 0) (Nat.le_refl 0) hw
            · have hw := hw.2 c9
              refine z_iload_n S 3 dX7_total_157 rfl rfl ?_
              refine z_goto S 184 dX7_total_158 (by decide) ?_
              exact z_iret S hr hlk dX7_total_184 (Nat.le_refl 0) (Nat.le_refl 0) hw
          · have hw := hw.2 c8
            refine z_iload_n S 2 dX7_total_148 rfl rfl ?_
            refine z_goto S 184 dX7_total_149 (by decide) ?_
            exact z_iret S hr hlk dX7_total_184 (Nat.le_refl 0) (Nat.le_refl 0) hw
        · have hw := hw.2 c7
          refine z_aload_n (x := some o) S 0 dX7_total_136 rfl rfl ?_
          refine zm_g_121 S hE dX7_total_137 ?_
          refine z_goto S 184 dX7_total_140 (by decide) ?_
          exact z_iret S hr hlk dX7_total_184 (Nat.le_refl 0) (Nat.le_refl 0) hw
      · have hw := hw.2 c6
        refine z_aload_n (x := some o) S 0 dX7_total_124 rfl rfl ?_
        refine zm_g_118 S hE dX7_total_125 ?_
        refine z_goto S 184 dX7_total_128 (by decide) ?_
        exact z_iret S hr hlk dX7_total_184 (Nat.le_refl 0) (Nat.le_refl 0) hw
    · have hw := hw.2 c1
      refine z_aload_n (x := some o) S 0 dX7_total_50 rfl rfl ?_
      refine zm_g_13 S hE dX7_total_51 ?_
      refine z_iload S 4 dX7_total_54 rfl ?_
      obtain ⟨hi20, hw⟩ := hw
      refine z_mald (j := 2) S hE rfl rfl hi20 dX7_total_56 ?_
      suffices hJ : ∀ y18 : Int32, y18 = (if (M 2 x4.toNatClampNeg) = 0 then x3 + 1 else x3) → z_V A (z_hM D cy A o ad) p l e rm_X7_total s m args below meth c 5 (MQ below (va_Qi post (fun (u' : z_Md) t => z_hM D cy A o ad u' t.heap) A) args s 0 0 A) 0 0 M 67 [(0, va_rf (some o)), (1, .int x1), (2, .int x2), (4, .int x4)] [.int y18] from by
        refine z_if_ne S 66 dX7_total_57 (by decide) (fun c19 => ?_) (fun c19 => ?_)
        · refine z_iload_n S 3 dX7_total_66 rfl rfl ?_
          refine z_lv (lv' := [(0, va_rf (some o)), (1, .int x1), (2, .int x2), (4, .int x4)]) [0, 1, 2, 4] rfl ?_
          exact hJ _ (by rw [if_neg c19])
        · refine z_iload_n S 3 dX7_total_60 rfl rfl ?_
          refine z_iconst (v := 1) S dX7_total_61 (by decide) ?_
          refine z_iadd S dX7_total_62 ?_
          refine z_goto S 67 dX7_total_63 (by decide) ?_
          refine z_lv (lv' := [(0, va_rf (some o)), (1, .int x1), (2, .int x2), (4, .int x4)]) [0, 1, 2, 4] rfl ?_
          exact hJ _ (by rw [if_pos c19])
      intro y18 ey18
      have hw := hw y18 ey18
      refine z_istore_n S [(3, .int y18), (0, va_rf (some o)), (1, .int x1), (2, .int x2), (4, .int x4)] dX7_total_67 rfl (by decide) rfl ?_
      refine z_lv (lv' := [(0, va_rf (some o)), (1, .int x1), (2, .int x2), (3, .int y18), (4, .int x4)]) [1, 2, 3, 0, 4] rfl ?_
      refine z_iinc (v := x4 + 1) (pl := 4) S [(4, .int (x4 + 1)), (0, va_rf (some o)), (1, .int x1), (2, .int x2), (3, .int y18)] dX7_total_68 rfl rfl (by decide) rfl ?_
      refine z_lv (lv' := [(0, va_rf (some o)), (1, .int x1), (2, .int x2), (3, .int y18), (4, .int (x4 + 1))]) [1, 2, 3, 4, 0] rfl ?_
      refine z_goto S 43 dX7_total_71 (by decide) ?_
      exact ih M x1 x2 y18 (x4 + 1) hw
set_option maxRecDepth 20000 in
theorem mb_X7_total_9 {p : Program} {l : Launch} {e : Env} {s : State} {m : MethodId} {args : Array Value} {below : List Frame} {meth : Method} {c : Code} {D : va_G} {cy : Nat → ClassId} {A : Nat → Prop} {o : Nat} {ad : Nat → Nat} (S : CallFix p m c cX7_total 5 s args z_T RX7) (hlk : meth.locks = false) (hr : meth.sig.returnType = some .int) (hE : z_EM D cy s) {post : Int32 → z_Md → Prop}  : ∀ (n : Nat) (M : z_Md) (x1 : Int32) (x2 : Int32) (x3 : Int32), w_X7_total_9 post n M x1 x2 x3 → z_V A (z_hM D cy A o ad) p l e rm_X7_total s m args below meth c 5 (MQ below (va_Qi post (fun (u' : z_Md) t => z_hM D cy A o ad u' t.heap) A) args s 0 0 A) 0 0 M 9 [(0, va_rf (some o)), (1, .int x1), (2, .int x2), (3, .int x3)] [] := by
  intro n
  induction n with
  | zero => intro M x1 x2 x3 hw; exact hw.elim
  | succ n ih =>
    intro M x1 x2 x3 hw
    refine z_iload_n S 3 dX7_total_9 rfl rfl ?_
    refine z_bipush (v := 48) S dX7_total_10 (by decide) ?_
    refine z_icmp_ge S 38 dX7_total_12 (by decide) (fun c1 => ?_) (fun c1 => ?_)
    · have hw := hw.1 c1
      refine z_iconst (v := 0) S dX7_total_38 (by decide) ?_
      refine z_istore_n S [(3, .int 0), (0, va_rf (some o)), (1, .int x1), (2, .int x2)] dX7_total_39 rfl (by decide) rfl ?_
      refine z_lv (lv' := [(0, va_rf (some o)), (1, .int x1), (2, .int x2), (3, .int 0)]) [1, 2, 3, 0] rfl ?_
      refine z_iconst (v := 0) S dX7_total_40 (by decide) ?_
      refine z_istore S [(4, .int 0), (0, va_rf (some o)), (1, .int x1), (2, .int x2), (3, .int 0)] dX7_total_41 (by decide) rfl ?_
      refine z_lv (lv' := [(0, va_rf (some o)), (1, .int x1), (2, .int x2), (3, .int 0), (4, .int 0)]) [1, 2, 3, 4, 0] rfl ?_
      obtain ⟨n0, hw⟩ := hw
      exact mb_X7_total_43 S hlk hr hE n0 M x1 x2 0 0 hw
    · have hw := hw.2 c1
      refine z_aload_n (x := some o) S 0 dX7_total_15 rfl rfl ?_
      refine zm_g_25 S hE dX7_total_16 ?_
      refine z_iload_n S 3 dX7_total_19 rfl rfl ?_
      obtain ⟨hi4, hw⟩ := hw
      refine z_mald (j := 6) S hE rfl rfl hi4 dX7_total_20 ?_
      suffices hJ : ∀ y2 : Int32, y2 = (if (M 6 x3.toNatClampNeg) ≤ 0 then x2 else x2 + 1) → z_V A (z_hM D cy A o ad) p l e rm_X7_total s m args below meth c 5 (MQ below (va_Qi post (fun (u' : z_Md) t => z_hM D cy A o ad u' t.heap) A) args s 0 0 A) 0 0 M 31 [(0, va_rf (some o)), (1, .int x1), (3, .int x3)] [.int y2] from by
        refine z_if_le S 30 dX7_total_21 (by decide) (fun c3 => ?_) (fun c3 => ?_)
        · refine z_iload_n S 2 dX7_total_30 rfl rfl ?_
          refine z_lv (lv' := [(0, va_rf (some o)), (1, .int x1), (3, .int x3)]) [0, 1, 3] rfl ?_
          exact hJ _ (by rw [if_pos c3])
        · refine z_iload_n S 2 dX7_total_24 rfl rfl ?_
          refine z_iconst (v := 1) S dX7_total_25 (by decide) ?_
          refine z_iadd S dX7_total_26 ?_
          refine z_goto S 31 dX7_total_27 (by decide) ?_
          refine z_lv (lv' := [(0, va_rf (some o)), (1, .int x1), (3, .int x3)]) [0, 1, 3] rfl ?_
          exact hJ _ (by rw [if_neg c3])
      intro y2 ey2
      have hw := hw y2 ey2
      refine z_istore_n S [(2, .int y2), (0, va_rf (some o)), (1, .int x1), (3, .int x3)] dX7_total_31 rfl (by decide) rfl ?_
      refine z_lv (lv' := [(0, va_rf (some o)), (1, .int x1), (2, .int y2), (3, .int x3)]) [1, 2, 0, 3] rfl ?_
      refine z_iinc (v := x3 + 1) (pl := 3) S [(3, .int (x3 + 1)), (0, va_rf (some o)), (1, .int x1), (2, .int y2)] dX7_total_32 rfl rfl (by decide) rfl ?_
      refine z_lv (lv' := [(0, va_rf (some o)), (1, .int x1), (2, .int y2), (3, .int (x3 + 1))]) [1, 2, 3, 0] rfl ?_
      refine z_goto S 9 dX7_total_35 (by decide) ?_
      exact ih M x1 y2 (x3 + 1) hw
set_option maxRecDepth 20000 in
theorem mb_X7_total {p : Program} {l : Launch} {e : Env} {s : State} {m : MethodId} {args : Array Value} {below : List Frame} {meth : Method} {c : Code} {D : va_G} {cy : Nat → ClassId} {A : Nat → Prop} {o : Nat} {ad : Nat → Nat} (S : CallFix p m c cX7_total 5 s args z_T RX7) (hlk : meth.locks = false) (hr : meth.sig.returnType = some .int) (hE : z_EM D cy s) {post : Int32 → z_Md → Prop}  (M : z_Md) (x1 : Int32) (hw : w_X7_total post M x1) : z_V A (z_hM D cy A o ad) p l e rm_X7_total s m args below meth c 5 (MQ below (va_Qi post (fun (u' : z_Md) t => z_hM D cy A o ad u' t.heap) A) args s 0 0 A) 0 0 M 0 [(0, va_rf (some o)), (1, .int x1)] [] := by
  refine z_aload_n (x := some o) S 0 dX7_total_0 rfl rfl ?_
  refine z_iconst (v := 0) S dX7_total_1 (by decide) ?_
  refine zm_p_89 S hE dX7_total_2 ?_
  refine z_iconst (v := 0) S dX7_total_5 (by decide) ?_
  refine z_istore_n S [(2, .int 0), (0, va_rf (some o)), (1, .int x1)] dX7_total_6 rfl (by decide) rfl ?_
  refine z_lv (lv' := [(0, va_rf (some o)), (1, .int x1), (2, .int 0)]) [1, 2, 0] rfl ?_
  refine z_iconst (v := 0) S dX7_total_7 (by decide) ?_
  refine z_istore_n S [(3, .int 0), (0, va_rf (some o)), (1, .int x1), (2, .int 0)] dX7_total_8 rfl (by decide) rfl ?_
  refine z_lv (lv' := [(0, va_rf (some o)), (1, .int x1), (2, .int 0), (3, .int 0)]) [1, 2, 3, 0] rfl ?_
  obtain ⟨n0, hw⟩ := hw
  exact mb_X7_total_9 S hlk hr hE n0 (z_up M 0 0 0) x1 0 0 hw
theorem me_X7_total (l : Launch) (D : va_G) (cy : Nat → ClassId) (A : Nat → Prop) (o : Nat) (ad : Nat → Nat) (post : Int32 → z_Md → Prop) (M : z_Md) (x1 : Int32) (hw : w_X7_total post M x1) : z_Mi l yX7_total (Cond.code yX7_total cX7_total 5 (some .int) :: z_T) rm_X7_total [.ref o, .int x1] (z_EM D cy) (z_hM D cy A o ad) M post 0 0 A :=
  z_met (by decide) (Nat.le_of_ble_eq_true rfl) (fun p e s m args below meth c S hlk hr hnm hE => mb_X7_total S hlk hr hE M x1 hw)
end
section
/-! THE BANK's world, by addresses: the kind of each cell, an array's length, the fields (by a number of their own) and the arrays' entries -/
abbrev z_St : Type := (Nat → Nat) × (Nat → Nat) × (Nat → Nat → Int32) × (Nat → Nat → Option Nat) × (Nat → Nat → Int32) × (Nat → Nat → Option Nat)
def z_kd (a : Nat) (u : z_St) : Nat := u.1 a
def z_ln (a : Nat) (u : z_St) : Nat := u.2.1 a
def z_gI (f a : Nat) (u : z_St) : Int32 := u.2.2.1 f a
def z_gR (f a : Nat) (u : z_St) : Option Nat := u.2.2.2.1 f a
def z_aI (a j : Nat) (u : z_St) : Int32 := u.2.2.2.2.1 a j
def z_aR (a j : Nat) (u : z_St) : Option Nat := u.2.2.2.2.2 a j
def z_pI (f a : Nat) (v : Int32) (u : z_St) : z_St := (u.1, u.2.1, z_up u.2.2.1 f a v, u.2.2.2.1, u.2.2.2.2.1, u.2.2.2.2.2)
def z_pR (f a : Nat) (v : Option Nat) (u : z_St) : z_St := (u.1, u.2.1, u.2.2.1, z_up u.2.2.2.1 f a v, u.2.2.2.2.1, u.2.2.2.2.2)
def z_sI (a j : Nat) (v : Int32) (u : z_St) : z_St := (u.1, u.2.1, u.2.2.1, u.2.2.2.1, z_up u.2.2.2.2.1 a j v, u.2.2.2.2.2)
def z_sR (a j : Nat) (v : Option Nat) (u : z_St) : z_St := (u.1, u.2.1, u.2.2.1, u.2.2.2.1, u.2.2.2.2.1, z_up u.2.2.2.2.2 a j v)
/-- a new object of a kind at a, its fields at their defaults -/
def z_nO (κ a : Nat) (u : z_St) : z_St := (va_up u.1 a κ, u.2.1, fun f b => if b = a then 0 else u.2.2.1 f b, fun f b => if b = a then none else u.2.2.2.1 f b, u.2.2.2.2.1, u.2.2.2.2.2)
/-- a new array of a kind and a length at a -/
def z_nA (κ a n : Nat) (u : z_St) : z_St := (va_up u.1 a κ, va_up u.2.1 a n, u.2.2.1, u.2.2.2.1, fun b j => if b = a then 0 else u.2.2.2.2.1 b j, fun b j => if b = a then none else u.2.2.2.2.2 b j)
def z_fF (κ : Nat) (I : Nat → Int32) (F : Nat → Option Nat) : List Value := match κ with
  | 1 => [.int (I 35), va_rf (F 36), .int (I 37)]
  | 2 => [va_rf (F 0), va_rf (F 1), .int (I 2), va_rf (F 3)]
  | 3 => [va_rf (F 4), .int (I 5)]
  | 4 => [va_rf (F 6), .int (I 7), .int (I 8), .int (I 9), .int (I 10), .int (I 11), va_rf (F 12), .int (I 13), .int (I 14), .int (I 15)]
  | 5 => [.int (I 16), .int (I 17), va_rf (F 18), va_rf (F 19), .int (I 20)]
  | 6 => [va_rf (F 21), va_rf (F 22), .int (I 23), .int (I 24), .int (I 25)]
  | 7 => [va_rf (F 26)]
  | 8 => [va_rf (F 27), va_rf (F 28), va_rf (F 29), va_rf (F 30), va_rf (F 31), .int (I 32), .int (I 33), .int (I 34)]
  | _ => []
def z_cF (cy : Nat → ClassId) (κ : Nat) (I : Nat → Int32) (F : Nat → Option Nat) (n : Nat) (X : Nat → Int32) (Y : Nat → Option Nat) : va_E := if κ < 10 then .inr (κ - 1, z_fF κ I F) else if κ = 10 then .inl (cy 0, n, .inl X) else .inl (cy (κ - 9), n, .inr (.inr (.inr (.inr Y))))
def z_cell (cy : Nat → ClassId) (u : z_St) (a : Nat) : va_E := z_cF cy (z_kd a u) (fun f => z_gI f a u) (fun f => z_gR f a u) (z_ln a u) (fun j => z_aI a j u) (fun j => z_aR a j u)
theorem z_cell_o {cy : Nat → ClassId} {u : z_St} {a κ : Nat} (h : z_kd a u = κ) (hκ : κ < 10) : z_cell cy u a = .inr (κ - 1, z_fF κ (fun f => z_gI f a u) (fun f => z_gR f a u)) := by unfold z_cell z_cF; rw [h, if_pos hκ]
theorem z_cell_i {cy : Nat → ClassId} {u : z_St} {a : Nat} (h : z_kd a u = 10) : z_cell cy u a = .inl (cy 0, z_ln a u, .inl (fun j => z_aI a j u)) := by unfold z_cell z_cF; rw [h]; rfl
theorem z_cell_q {cy : Nat → ClassId} {u : z_St} {a κ : Nat} (h : z_kd a u = κ) (hκ : 10 < κ) : z_cell cy u a = .inl (cy (κ - 9), z_ln a u, .inr (.inr (.inr (.inr (fun j => z_aR a j u))))) := by unfold z_cell z_cF; rw [h, if_neg (by omega), if_neg (by omega)]
/-- kinds stay, and lengths -/
def z_mono (u0 u : z_St) : Prop := ∀ a, z_kd a u0 ≠ 0 → z_kd a u = z_kd a u0 ∧ z_ln a u = z_ln a u0
theorem z_mono.rf (u : z_St) : z_mono u u := fun _ _ => ⟨rfl, rfl⟩
theorem z_mono.tr {u v w : z_St} (h1 : z_mono u v) (h2 : z_mono v w) : z_mono u w := fun a ha => by
  obtain ⟨a1, a2⟩ := h1 a ha
  obtain ⟨b1, b2⟩ := h2 a (by rw [a1]; exact ha)
  exact ⟨b1.trans a1, b2.trans a2⟩
theorem z_mono.k {u v : z_St} (h : z_mono u v) {a κ : Nat} (hk : z_kd a u = κ ∧ κ ≠ 0) : z_kd a v = κ ∧ κ ≠ 0 := ⟨(h a (by rw [hk.1]; exact hk.2)).1.trans hk.1, hk.2⟩
def z_hC (D : va_G) (cy : Nat → ClassId) (A : Nat → Prop) (t0 : Nat) (u0 u : z_St) (H : Heap) : Prop :=
  (∀ a, z_kd a u ≠ 0 → z_kd a u ≠ 16 → va_at D vwCl (a, z_cell cy u a) H ∧ A a) ∧ (∀ a, z_kd a u = 16 → a = t0 ∧ z_ln a u = 0) ∧ z_mono u0 u
theorem z_hC.kept {D : va_G} {cy : Nat → ClassId} {A : Nat → Prop} {t0 : Nat} {u0 u : z_St} {H H1 : Heap} (h : z_hC D cy A t0 u0 u H) (hq : ∀ q : Nat, q < H.size → A q → H1[q]? = H[q]?) : z_hC D cy A t0 u0 u H1 :=
  ⟨fun a h0 h1 => ⟨(h.1 a h0 h1).1.kept (hq a (h.1 a h0 h1).1.lt (h.1 a h0 h1).2), (h.1 a h0 h1).2⟩, h.2⟩
theorem z_hC.re {D : va_G} {cy : Nat → ClassId} {A : Nat → Prop} {t0 : Nat} {u0 u : z_St} {H : Heap} (h : z_hC D cy A t0 u0 u H) : z_hC D cy A t0 u u H := ⟨h.1, h.2.1, z_mono.rf u⟩
theorem z_hC.ba {D : va_G} {cy : Nat → ClassId} {A : Nat → Prop} {t0 : Nat} {u0 u u' : z_St} {H H1 : Heap} (h : z_hC D cy A t0 u0 u H) (h1 : z_hC D cy A t0 u u' H1) : z_hC D cy A t0 u0 u' H1 := ⟨h1.1, h1.2.1, h.2.2.tr h1.2.2⟩
/-- the cell a gets a new content; all else stays -/
theorem z_hC.put {D : va_G} {cy : Nat → ClassId} {A : Nat → Prop} {t0 : Nat} {u0 u u' : z_St} {H H1 : Heap} (h : z_hC D cy A t0 u0 u H) (a : Nat) (hk : ∀ b, z_kd b u' = z_kd b u) (hl : ∀ b, z_ln b u' = z_ln b u) (ho : ∀ b, b ≠ a → z_cell cy u' b = z_cell cy u b) (ha : va_at D vwCl (a, z_cell cy u' a) H1) (oq : ∀ q : Nat, q ≠ a → H1[q]? = H[q]?) : z_hC D cy A t0 u0 u' H1 := by
  refine ⟨fun b h0 h1 => ?_, fun b hb => ?_, fun b hb => ?_⟩
  · rw [hk b] at h0 h1
    by_cases hb : b = a
    · subst hb; exact ⟨ha, (h.1 b h0 h1).2⟩
    · rw [ho b hb]; exact ⟨(h.1 b h0 h1).1.kept (oq b hb), (h.1 b h0 h1).2⟩
  · rw [hk b] at hb; rw [hl b]; exact h.2.1 b hb
  · rw [hk b, hl b]; exact h.2.2 b hb
/-- the cell a is new -/
theorem z_hC.new {D : va_G} {cy : Nat → ClassId} {A : Nat → Prop} {t0 : Nat} {u0 u u' : z_St} {H H1 : Heap} (h : z_hC D cy A t0 u0 u H) (a : Nat) (h0 : z_kd a u = 0) (hk : ∀ b, b ≠ a → z_kd b u' = z_kd b u) (hl : ∀ b, b ≠ a → z_ln b u' = z_ln b u) (ho : ∀ b, b ≠ a → z_cell cy u' b = z_cell cy u b) (ha : va_at D vwCl (a, z_cell cy u' a) H1) (hA : A a) (h16 : z_kd a u' ≠ 16) (oq : ∀ q : Nat, q < H.size → H1[q]? = H[q]?) : z_hC D cy A t0 u0 u' H1 := by
  refine ⟨fun b g0 g1 => ?_, fun b hb => ?_, fun b hb => ?_⟩
  · by_cases hb : b = a
    · subst hb; exact ⟨ha, hA⟩
    · rw [hk b hb] at g0 g1
      rw [ho b hb]; exact ⟨(h.1 b g0 g1).1.kept (oq b (h.1 b g0 g1).1.lt), (h.1 b g0 g1).2⟩
  · by_cases hba : b = a
    · subst hba; exact absurd hb h16
    · rw [hk b hba] at hb; rw [hl b hba]; exact h.2.1 b hb
  · have hba : b ≠ a := by
      intro e
      subst e
      have := (h.2.2 b hb).1
      rw [h0] at this
      exact hb this.symm
    rw [hk b hba, hl b hba]; exact h.2.2 b hb
def z_ichI : Nat → Int32
  | 4 => 2
  | 5 => 4
  | 6 => 6
  | 7 => 8
  | _ => -1
def z_strs : List (Nat × String) := [(53, "the quota is not 0 .. 500"), (60, "there are 4 boxes"), (237, "there is no such box"), (240, "there is no such line"), (73, "there is no such kind"), (79, "the line is busy"), (85, "there are 16 messages"), (246, "the line is not busy"), (242, "there is no such list"), (146, "the list has no such message"), (251, "there is no such message"), (185, "there are 16 messages, or the quota does not allow it"), (190, "the message has no such sample"), (244, "a box has no such recording"), (199, "the recording has no such sample"), (204, "the number of moves is not 0 .. 100"), (209, "there is no such block"), (220, "there is no such step")]
def z_NW (U : State) : Prop := va_Nw (.methodLinkNest "MessageBank$Store" 17 ⟨"MessageBank$Block", "<init>", "()V"⟩ "MessageBank") U ∧ va_Nw (.methodLinkNest "MessageBank" 49 ⟨"MessageBank$Box", "<init>", "()V"⟩ "MessageBank") U ∧ va_Nw (.methodLinkNest "MessageBank" 50 ⟨"MessageBank$Line", "<init>", "()V"⟩ "MessageBank") U ∧ va_Nw (.methodLinkNest "MessageBank$Line" 34 ⟨"MessageBank$Recording", "<init>", "()V"⟩ "MessageBank") U ∧ va_Nw (.methodLinkNest "MessageBank$Line" 75 ⟨"MessageBank", "between", "(III)I"⟩ "MessageBank") U ∧ va_Nw (.fieldLinkNest "MessageBank$Line" 79 "MessageBank" "INDEX_CHANGES" "[I" "MessageBank") U ∧ va_Nw (.castable "MessageBank$Message" "java/lang/Object") U ∧ va_Nw (.castable "java/lang/IllegalArgumentException" "java/lang/IllegalArgumentException") U ∧ va_Nw (.castable "java/lang/IllegalStateException" "java/lang/IllegalStateException") U ∧ va_Nw (.castable "java/util/NoSuchElementException" "java/util/NoSuchElementException") U ∧ va_Nw (.castable "java/lang/IndexOutOfBoundsException" "java/lang/IndexOutOfBoundsException") U ∧ va_Nw (.declares ⟨"java/lang/RuntimeException", "<init>", "(Ljava/lang/String;)V"⟩) U ∧ va_Nw (.declares ⟨"java/lang/Exception", "<init>", "(Ljava/lang/String;)V"⟩) U ∧ va_Nw (.declares ⟨"java/lang/Throwable", "<init>", "(Ljava/lang/String;)V"⟩) U ∧ va_AO "MessageBank$Block" U ∧ va_AO "MessageBank$Box" U ∧ va_AO "MessageBank$Line" U ∧ va_AO "MessageBank$Recording" U ∧ va_AO "java/lang/Object" U
theorem z_NW.warm {s U : State} (hW : s.WarmedH U.vm) (h : z_NW s) : z_NW U := by
  obtain ⟨h0, h1, h2, h3, h4, h5, h6, h7, h8, h9, h10, h11, h12, h13, h14, h15, h16, h17, h18⟩ := h
  exact ⟨va_Nw.warmM hW h0, va_Nw.warmM hW h1, va_Nw.warmM hW h2, va_Nw.warmM hW h3, va_Nw.warmM hW h4, va_Nw.warmF hW h5, va_Nw.warmC hW h6, va_Nw.warmC hW h7, va_Nw.warmC hW h8, va_Nw.warmC hW h9, va_Nw.warmC hW h10, va_Nw.warmD hW h11, va_Nw.warmD hW h12, va_Nw.warmD hW h13, va_AO.moved hW.alike h14, va_AO.moved hW.alike h15, va_AO.moved hW.alike h16, va_AO.moved hW.alike h17, va_AO.moved hW.alike h18⟩
theorem z_NW.call {U : State} (g : JFrame) (mk : MethodId) (a : Array Value) (h : z_NW U) : z_NW (U.calling g mk a) := by
  obtain ⟨h0, h1, h2, h3, h4, h5, h6, h7, h8, h9, h10, h11, h12, h13, h14, h15, h16, h17, h18⟩ := h
  exact ⟨va_Nw.same rfl rfl h0, va_Nw.same rfl rfl h1, va_Nw.same rfl rfl h2, va_Nw.same rfl rfl h3, va_Nw.same rfl rfl h4, va_Nw.same rfl rfl h5, va_Nw.same rfl rfl h6, va_Nw.same rfl rfl h7, va_Nw.same rfl rfl h8, va_Nw.same rfl rfl h9, va_Nw.same rfl rfl h10, va_Nw.same rfl rfl h11, va_Nw.same rfl rfl h12, va_Nw.same rfl rfl h13, va_AO.moved (Vm.Alike.refl U.vm) h14, va_AO.moved (Vm.Alike.refl U.vm) h15, va_AO.moved (Vm.Alike.refl U.vm) h16, va_AO.moved (Vm.Alike.refl U.vm) h17, va_AO.moved (Vm.Alike.refl U.vm) h18⟩
def zx_B : List Cond := [.castable "java/lang/IllegalArgumentException" "java/lang/IllegalArgumentException", .castable "java/lang/IllegalStateException" "java/lang/IllegalStateException", .castable "java/util/NoSuchElementException" "java/util/NoSuchElementException", .castable "java/lang/IndexOutOfBoundsException" "java/lang/IndexOutOfBoundsException", .declares ⟨"java/lang/RuntimeException", "<init>", "(Ljava/lang/String;)V"⟩, .declares ⟨"java/lang/Exception", "<init>", "(Ljava/lang/String;)V"⟩, .declares ⟨"java/lang/Throwable", "<init>", "(Ljava/lang/String;)V"⟩]
theorem zx_Bof {s : State} (h : z_NW s) (args : Array Value) : ∀ w ∈ zx_B, w.before args s = true := by
  obtain ⟨h0, h1, h2, h3, h4, h5, h6, h7, h8, h9, h10, h11, h12, h13, h14, h15, h16, h17, h18⟩ := h
  exact (vx_c (va_Nw.use rfl h7) (vx_c (va_Nw.use rfl h8) (vx_c (va_Nw.use rfl h9) (vx_c (va_Nw.use rfl h10) (vx_c (va_Nw.use rfl h11) (vx_c (va_Nw.use rfl h12) (vx_c (va_Nw.use rfl h13) vx_n)))))))
/-- what holds of the state aside from the world -/
def z_EC (D : va_G) (cy : Nat → ClassId) (A : Nat → Prop) (t0 mi : Nat) (U : State) : Prop :=
  va_K D vwCl (z_tys cy) U ∧ (∀ q : Nat, U.heap.size ≤ q → A q) ∧ vx_Zq Bundle.tN "UNASSIGNED_STACK" Bundle.steD A U U.heap ∧ vx_Zq Bundle.tN "SUPPRESSED_SENTINEL" Bundle.listD A U U.heap ∧
  (∀ q ∈ z_strs, ∃ sa, vk_R "MessageBank" q.1 q.2 sa U) ∧ (∃ t, va_Z "MessageBank" "INDEX_CHANGES" "[I" (.ref t) A U U.heap ∧ va_T .int t 8 (fun j => .int (z_ichI j)) A U U.heap) ∧
  va_Z "java/util/ArrayList" "DEFAULTCAPACITY_EMPTY_ELEMENTDATA" "[Ljava/lang/Object;" (.ref t0) A U U.heap ∧ va_T (.object "java/lang/Object") t0 0 (fun _ => .null) A U U.heap ∧ z_NW U ∧ va_Mi "[Ljava/lang/Object;" mi U ∧ va_Dc U
theorem z_ECok (D : va_G) (cy : Nat → ClassId) (A : Nat → Prop) (t0 mi : Nat) : z_Eok (z_EC D cy A t0 mi) A := by
  refine ⟨fun U g mk a h => ?_, fun s U H locs h hS hU hW => ?_⟩
  · obtain ⟨h1, h2, h3, h4, h5, ⟨t, h6, h7⟩, h8, h9, h10, h11, h12⟩ := h
    refine ⟨va_K.moved (u := U) (U := U.calling g mk a) (Vm.Alike.refl U.vm) h1, h2, vx_Zq.moved (u := U) (U := U.calling g mk a) (Vm.Alike.refl U.vm) h3, vx_Zq.moved (u := U) (U := U.calling g mk a) (Vm.Alike.refl U.vm) h4, fun q hq => ?_, ⟨t, va_Z.moved (u := U) (U := U.calling g mk a) (Vm.Alike.refl U.vm) h6, va_T.moved (u := U) (U := U.calling g mk a) (Vm.Alike.refl U.vm) h7⟩, va_Z.moved (u := U) (U := U.calling g mk a) (Vm.Alike.refl U.vm) h8, va_T.moved (u := U) (U := U.calling g mk a) (Vm.Alike.refl U.vm) h9, z_NW.call g mk a h10, va_Mi.moved (u := U) (U := U.calling g mk a) (Vm.Alike.refl U.vm) h11, va_Dc.moved (u := U) (U := U.calling g mk a) (Vm.Alike.refl U.vm) h12⟩
    obtain ⟨sa, hsa⟩ := h5 q hq
    exact ⟨sa, vk_R.same (u := U) (U := U.calling g mk a) rfl hsa⟩
  · obtain ⟨h1, h2, h3, h4, h5, ⟨t, h6, h7⟩, h8, h9, h10, h11, h12⟩ := h
    subst hU
    refine ⟨va_K.moved hW.alike h1, fun q hq => h2 q (Nat.le_trans hS.1 hq), vx_Zq.moved hW.alike (h3.kept hS.2.1), vx_Zq.moved hW.alike (h4.kept hS.2.1), fun q hq => ?_, ⟨t, va_Z.moved hW.alike (h6.kept hS.2.1), va_T.moved hW.alike (h7.kept hS.2.1)⟩, va_Z.moved hW.alike (h8.kept hS.2.1), va_T.moved hW.alike (h9.kept hS.2.1), h10.warm hW, va_Mi.moved hW.alike h11, va_Dc.moved hW.alike h12⟩
    obtain ⟨sa, hsa⟩ := h5 q hq
    exact ⟨sa, vk_R.warm hW hsa⟩
end
section
theorem z_one {D : va_G} {cl : List vw_C} {q : Nat × va_E} {H : Heap} (h : va_at D cl q H) : va_P D cl [q] H := fun k x hk => by
  match k, hk with
  | 0, hk => cases hk; exact h
  | k + 1, hk => simp at hk
theorem z_cell_pI {cy : Nat → ClassId} {f a : Nat} {x : Int32} {u : z_St} {b : Nat} (h : b ≠ a) : z_cell cy (z_pI f a x u) b = z_cell cy u b := by
  have e : (fun f' => z_gI f' b (z_pI f a x u)) = fun f' => z_gI f' b u := funext fun f' => z_up_a _ _ _ _ h
  unfold z_cell
  rw [e]; rfl
theorem z_cell_pR {cy : Nat → ClassId} {f a : Nat} {x : Option Nat} {u : z_St} {b : Nat} (h : b ≠ a) : z_cell cy (z_pR f a x u) b = z_cell cy u b := by
  have e : (fun f' => z_gR f' b (z_pR f a x u)) = fun f' => z_gR f' b u := funext fun f' => z_up_a _ _ _ _ h
  unfold z_cell
  rw [e]; rfl
theorem z_cell_sI {cy : Nat → ClassId} {a j : Nat} {x : Int32} {u : z_St} {b : Nat} (h : b ≠ a) : z_cell cy (z_sI a j x u) b = z_cell cy u b := by
  have e : (fun j' => z_aI b j' (z_sI a j x u)) = fun j' => z_aI b j' u := funext fun j' => by show z_up _ _ _ _ _ _ = _; rw [z_up_f _ _ _ h]; rfl
  unfold z_cell
  rw [e]; rfl
theorem z_cell_sR {cy : Nat → ClassId} {a j : Nat} {x : Option Nat} {u : z_St} {b : Nat} (h : b ≠ a) : z_cell cy (z_sR a j x u) b = z_cell cy u b := by
  have e : (fun j' => z_aR b j' (z_sR a j x u)) = fun j' => z_aR b j' u := funext fun j' => by show z_up _ _ _ _ _ _ = _; rw [z_up_f _ _ _ h]; rfl
  unfold z_cell
  rw [e]; rfl
theorem z_cell_nO {cy : Nat → ClassId} {κ a : Nat} {u : z_St} {b : Nat} (h : b ≠ a) : z_cell cy (z_nO κ a u) b = z_cell cy u b := by
  have e1 : z_kd b (z_nO κ a u) = z_kd b u := va_up_ne _ _ h
  have e2 : (fun f' => z_gI f' b (z_nO κ a u)) = fun f' => z_gI f' b u := funext fun f' => if_neg h
  have e3 : (fun f' => z_gR f' b (z_nO κ a u)) = fun f' => z_gR f' b u := funext fun f' => if_neg h
  unfold z_cell
  rw [e1, e2, e3]; rfl
theorem z_cell_nA {cy : Nat → ClassId} {κ a n : Nat} {u : z_St} {b : Nat} (h : b ≠ a) : z_cell cy (z_nA κ a n u) b = z_cell cy u b := by
  have e1 : z_kd b (z_nA κ a n u) = z_kd b u := va_up_ne _ _ h
  have e0 : z_ln b (z_nA κ a n u) = z_ln b u := va_up_ne _ _ h
  have e2 : (fun j => z_aI b j (z_nA κ a n u)) = fun j => z_aI b j u := funext fun f' => if_neg h
  have e3 : (fun j => z_aR b j (z_nA κ a n u)) = fun j => z_aR b j u := funext fun f' => if_neg h
  unfold z_cell
  rw [e0, e1, e2, e3]; rfl
theorem z_nrf {ty : FieldType} (h : (∃ n, ty = .object n) ∨ ∃ t, ty = .array t) (r : Option Nat) : narrow ty (va_rf r) = va_rf r ∧ fits ty (va_rf r) = true := by
  rcases h with ⟨n, rfl⟩ | ⟨t, rfl⟩ <;> cases r <;> exact ⟨rfl, rfl⟩
section ZB
variable {p : Program} {l : Launch} {e : Env} {R : Room} {s : State} {m : MethodId} {args : Array Value} {below : List Frame} {meth : Method} {c : Code} {Q : State → Prop} {cc : ByteArray} {nL : Nat} {own : String} {A : Nat → Prop} {k n : Nat} {pc : Nat} {lv : List (Nat × Value)} {st : List Value} {D : va_G} {cy : Nat → ClassId} {t0 mi : Nat} {u0 u : z_St}
theorem z_recvC {s : State} {a κ : Nat} {q : vw_C} (hE : z_EC D cy A t0 mi s) (hk : z_kd a u = κ ∧ κ ≠ 0) (hκ : κ < 10) (hc : vwCl[κ - 1]? = some q) : ∀ H : Heap, z_hC D cy A t0 u0 u H → ∃ cell : Cell, H[a]? = some cell ∧ cell.vm.isStatics = false ∧ s.vm.findClass q.1 = some cell.cls := fun H h => by
  have hat := (h.1 a (by rw [hk.1]; exact hk.2) (by rw [hk.1]; omega)).1
  rw [z_cell_o hk.1 hκ] at hat
  exact va_recv (q0 := 0) hE.1 (z_one hat) hc rfl
theorem z_cget {κ k0 index N a : Nat} {C ref : String} {T : u_T} {v : Value} (S : CallFix p m c cc nL s args z_T own) (hE : z_EC D cy A t0 mi s) (hk : z_kd a u = κ ∧ κ ≠ 0) (hκ : κ < 10) (hc : vwCl[κ - 1]? = some (C, T, N)) (hws : ∀ w ∈ u_ws C T N, w ∈ z_T) (hk0 : k0 < N) (hlink : Cond.fieldLink own index ref (T k0).2.1 (T k0).2.2.1 ∈ z_T) (hsame : ∀ x, s.fieldFound? (T k0).1 (T k0).2.1 (T k0).2.2.1 = some x → s.fieldFound? ref (T k0).2.1 (T k0).2.2.1 = some x) (hv : (z_fF κ (fun f => z_gI f a u) (fun f => z_gR f a u))[k0]? = some v) (hdg : decode cc pc = .ok (.getfield index, 3)) (kk : z_V A (z_hC D cy A t0 u0) p l e R s m args below meth c nL Q k n u (pc + 3) lv (v :: st)) : z_V A (z_hC D cy A t0 u0) p l e R s m args below meth c nL Q k n u pc lv (.ref a :: st) := fun H locs ls h1 h2 h3 => by
  have hat := (h1.1 a (by rw [hk.1]; exact hk.2) (by rw [hk.1]; omega)).1
  rw [z_cell_o hk.1 hκ] at hat
  exact va_get S.1 S.2.1 S.2.2.2.2 hws S.2.2.2.1 hE.1 (z_one hat) 0 rfl hc k0 hk0 (S.2.2.2.2 _ hlink) hsame hv hdg (kk H locs ls h1 h2 h3)
theorem z_cput {κ k0 index N a : Nat} {C ref : String} {T : u_T} {ty0 : Nat → FieldType} {x : Value} {ty : FieldType} {u' : z_St} (S : CallFix p m c cc nL s args z_T own) (hE : z_EC D cy A t0 mi s) (hk : z_kd a u = κ ∧ κ ≠ 0) (hκ : κ < 10) (hc : vwCl[κ - 1]? = some (C, T, N)) (hws : ∀ w ∈ u_ws C T N, w ∈ z_T) (hty : ∀ k, k < N → parseFieldDescriptor (T k).2.2.1 = some (ty0 k)) (hnm : ∀ a, a < N → ∀ b, b < N → a ≠ b → (T a).2.1 ≠ (T b).2.1) (hk0 : k0 < N) (hlink : Cond.fieldLink own index ref (T k0).2.1 (T k0).2.2.1 ∈ z_T) (hsame : ∀ x, s.fieldFound? (T k0).1 (T k0).2.1 (T k0).2.2.1 = some x → s.fieldFound? ref (T k0).2.1 (T k0).2.2.1 = some x) (hfin : (T k0).2.2.2 = false ∨ ((T k0).2.2.2 = true ∧ meth.name = "<init>" ∧ (T k0).1 = own)) (hd : parseFieldDescriptor (T k0).2.2.1 = some ty) (hn : narrow ty x = x) (hfit : fits ty x = true) (hlen : k0 < (z_fF κ (fun f => z_gI f a u) (fun f => z_gR f a u)).length)
    (hset : z_fF κ (fun f => z_gI f a u') (fun f => z_gR f a u') = (z_fF κ (fun f => z_gI f a u) (fun f => z_gR f a u)).set k0 x) (hk' : ∀ b, z_kd b u' = z_kd b u) (hl' : ∀ b, z_ln b u' = z_ln b u) (ho : ∀ b, b ≠ a → z_cell cy u' b = z_cell cy u b) (hdg : decode cc pc = .ok (.putfield index, 3)) (kk : z_V A (z_hC D cy A t0 u0) p l e R s m args below meth c nL Q k n u' (pc + 3) lv st) : z_V A (z_hC D cy A t0 u0) p l e R s m args below meth c nL Q k n u pc lv (x :: .ref a :: st) := fun H locs ls h1 h2 h3 => by
  have hA := (h1.1 a (by rw [hk.1]; exact hk.2) (by rw [hk.1]; omega)).2
  have hat := (h1.1 a (by rw [hk.1]; exact hk.2) (by rw [hk.1]; omega)).1
  rw [z_cell_o hk.1 hκ] at hat
  have hap := va_apart (own := own) S.2.2.2.2 hws ty0 hty hnm hE.1 hc
  obtain ⟨r, q0, cell, q1, q2, q3, q4⟩ := hat
  have hr : r = (C, T, N) := Option.some.inj (q0.symm.trans hc)
  subst hr
  obtain ⟨hS, hfc, kC, hkC, hkind⟩ := hE.1.1 (κ - 1) _ hc
  obtain ⟨cf, kf, fi, f, hi, hsl⟩ := hS k0 hk0
  have hlay := S.2.2.2.2 _ (hws _ (u_in_lay hk0))
  have hst := (u_facts hfc hkC (u_lays S.2.2.2.2 hws hk0) hi).1
  have fin : ∀ (H1 : Heap), H1[a]? = some (cell.setSlot ((D.2 (κ - 1)) k0) x) → (∀ q, q ≠ a → H1[q]? = H[q]?) → z_hC D cy A t0 u0 u' H1 := fun H1 e1 e3 => by
    refine h1.put a hk' hl' ho ?_ e3
    rw [z_cell_o ((hk' a).trans hk.1) hκ, hset]
    exact ⟨_, hc, t_OB.to (V := updV (vp_V (z_fF κ (fun f => z_gI f a u) (fun f => z_gR f a u))) k0 x) ⟨_, e1, q2, q3, t_set q4 hap hk0 x⟩ (fun j _ => vp_updV_set hlen x j)⟩
  rcases hfin with hfin | ⟨hfin, hin2, hdecl⟩
  · unfold u_lay at hlay
    rw [if_neg (by rw [hfin]; decide)] at hlay
    have h6 := u_store hfc hkC hkind hlay hi hd hn hfit
    refine W.putK S.1 S.2.1 (f := f) ⟨S.2.2.2.1, S.2.2.2.2 _ hlink, ⟨_, _, _, hsame _ hi⟩, hst⟩ (by rw [q2]; exact h6) q1 q3 (by rw [hsl]; exact k2_hasslot (q4 k0 hk0)) rfl rfl hdg fun H' e1 e2 e3 => ?_
    rw [hsl] at e1 ⊢
    exact kk H' _ ls (fin H' e1 e3) (h2.put e2 e3 hA) h3
  · unfold u_lay at hlay
    rw [if_pos hfin] at hlay
    have hcf : m.cls = cf := by
      obtain ⟨_, _, c', _, _, _, -, -, hf', -, -, -, hown2, -⟩ := Cond.laysFinal_spec hlay
      have e1 : c' = cf := by have := hi.symm.trans hf'; simp at this; exact this.1.symm
      rw [hdecl] at hown2
      rw [← e1]; exact Option.some.inj (S.2.2.2.1.symm.trans hown2)
    have h6 := u_fits hfc hkC hkind (Or.inr hlay) hi hd hn hfit
    refine W.putFinK S.1 S.2.1 S.2.2.2.1 (S.2.2.2.2 _ hlink) (hsame _ hi) hst hcf hin2 (by rw [q2]; exact h6) q1 q3 (by rw [hsl]; exact k2_hasslot (q4 k0 hk0)) rfl rfl hdg fun H' e1 e2 e3 => ?_
    rw [hsl] at e1 ⊢
    exact kk H' _ ls (fin H' e1 e3) (h2.put e2 e3 hA) h3
theorem z_cald {a : Nat} {i : Int32} (S : CallFix p m c cc nL s args z_T own) (hE : z_EC D cy A t0 mi s) (hk : z_kd a u = 10 ∧ 10 ≠ 0) (hin : vp_in i (z_ln a u)) (hdg : decode cc pc = .ok (.iaload, 1)) (kk : z_V A (z_hC D cy A t0 u0) p l e R s m args below meth c nL Q k n u (pc + 1) lv (.int (z_aI a i.toNatClampNeg u) :: st)) : z_V A (z_hC D cy A t0 u0) p l e R s m args below meth c nL Q k n u pc lv (.int i :: .ref a :: st) := fun H locs ls h1 h2 h3 => by
  have hat := (h1.1 a (by rw [hk.1]; decide) (by rw [hk.1]; decide)).1
  rw [z_cell_i hk.1] at hat
  exact va_iald S.1 S.2.1 hE.1 (z_one hat) 0 0 rfl rfl hin hdg (kk H locs ls h1 h2 h3)
theorem z_cast {a : Nat} {i x : Int32} (S : CallFix p m c cc nL s args z_T own) (hE : z_EC D cy A t0 mi s) (hk : z_kd a u = 10 ∧ 10 ≠ 0) (hin : vp_in i (z_ln a u)) (hdg : decode cc pc = .ok (.iastore, 1)) (kk : z_V A (z_hC D cy A t0 u0) p l e R s m args below meth c nL Q k n (z_sI a i.toNatClampNeg x u) (pc + 1) lv st) : z_V A (z_hC D cy A t0 u0) p l e R s m args below meth c nL Q k n u pc lv (.int x :: .int i :: .ref a :: st) := fun H locs ls h1 h2 h3 => by
  have hA := (h1.1 a (by rw [hk.1]; decide) (by rw [hk.1]; decide)).2
  have hat := (h1.1 a (by rw [hk.1]; decide) (by rw [hk.1]; decide)).1
  rw [z_cell_i hk.1] at hat
  refine W.iast S.1 S.2.1 hat ((hE.1.2 0 _ rfl).1 (z_ln a u) (fun q => .int (z_aI a q u))) (fun q => by cases q) (by show ¬ (i < 0 ∨ (arrV _ _ _).slots.size ≤ _); rw [arrV_size]; exact hin) rfl rfl hdg fun H1 e z oq => ?_
  refine kk H1 _ ls (h1.put a (fun _ => rfl) (fun _ => rfl) (fun b hb => z_cell_sI hb) ?_ oq) (h2.put z oq hA) h3
  rw [z_cell_i (u := z_sI a i.toNatClampNeg x u) hk.1]
  show H1[a]? = some (vp_cell _ _)
  rw [e, vp_cell_i, vp_cell_i, arrV_store]
  show some (arrV _ (z_ln a u) _) = some (arrV _ (z_ln a u) _)
  congr 2
  funext q
  by_cases hq : q = i.toNatClampNeg
  · subst hq
    simp [updV, z_aI, z_sI, z_up]
  · simp [updV, z_aI, z_sI, z_up, hq]
theorem z_caald {a κ : Nat} {C : String} {i : Int32} (S : CallFix p m c cc nL s args z_T own) (hE : z_EC D cy A t0 mi s) (hk : z_kd a u = κ ∧ κ ≠ 0) (hκ : 10 < κ ∧ κ < 16) (hty : (z_tys cy)[κ - 9]? = some (cy (κ - 9), .object C)) (hin : vp_in i (z_ln a u)) (hdg : decode cc pc = .ok (.aaload, 1)) (kk : z_V A (z_hC D cy A t0 u0) p l e R s m args below meth c nL Q k n u (pc + 1) lv (va_rf (z_aR a i.toNatClampNeg u) :: st)) : z_V A (z_hC D cy A t0 u0) p l e R s m args below meth c nL Q k n u pc lv (.int i :: .ref a :: st) := fun H locs ls h1 h2 h3 => by
  have hat := (h1.1 a (by rw [hk.1]; exact hk.2) (by rw [hk.1]; omega)).1
  rw [z_cell_q hk.1 hκ.1] at hat
  exact va_aldq (f := fun j => z_aR a j u) S.1 S.2.1 hE.1 (z_one hat) 0 (κ - 9) rfl hty hin hdg (kk H locs ls h1 h2 h3)
theorem z_caast {a v κ κv : Nat} {C : String} {q : vw_C} {i : Int32} (S : CallFix p m c cc nL s args z_T own) (hE : z_EC D cy A t0 mi s) (hk : z_kd a u = κ ∧ κ ≠ 0) (hκ : 10 < κ ∧ κ < 16) (hty : (z_tys cy)[κ - 9]? = some (cy (κ - 9), .object C)) (hkv : z_kd v u = κv ∧ κv ≠ 0) (hκv : κv < 10) (hcv : vwCl[κv - 1]? = some q) (hasg : ∀ comp c0 : ClassId, s.vm.findClass C = some comp → ClassAt s q.1 c0 → s.vm.assignable c0 comp = true) (hin : vp_in i (z_ln a u)) (hdg : decode cc pc = .ok (.aastore, 1)) (kk : z_V A (z_hC D cy A t0 u0) p l e R s m args below meth c nL Q k n (z_sR a i.toNatClampNeg (some v) u) (pc + 1) lv st) : z_V A (z_hC D cy A t0 u0) p l e R s m args below meth c nL Q k n u pc lv (.ref v :: .int i :: .ref a :: st) := fun H locs ls h1 h2 h3 => by
  have hA := (h1.1 a (by rw [hk.1]; exact hk.2) (by rw [hk.1]; omega)).2
  have hat := (h1.1 a (by rw [hk.1]; exact hk.2) (by rw [hk.1]; omega)).1
  rw [z_cell_q hk.1 hκ.1] at hat
  have hlt : i.toNatClampNeg < z_ln a u := Nat.not_le.mp fun q => hin (Or.inr q)
  have h0 : ¬ i < 0 := fun q => hin (Or.inl q)
  obtain ⟨cellV, g1, g2, g3⟩ := z_recvC hE hkv hκv hcv H h1
  have hcls := (hE.1.1 (κv - 1) q hcv).2
  obtain ⟨kA, comp, k1, k2, k3, -⟩ := (hE.1.2 (κ - 9) _ hty).2
  have hcc : D.1 (κv - 1) = cellV.cls := Option.some.inj (hcls.1.symm.trans g3)
  obtain ⟨kE, hkE, -⟩ := Vm.findClass_spec k3
  obtain ⟨kC, hkC, -⟩ := hcls.2
  refine W.aast S.1 S.2.1 hat (fun q h => by cases h) (fun h => by cases h) k1 k2 rfl hkE ⟨h0, by show _ < (arrV _ _ _).slots.size; rw [arrV_size]; exact hlt⟩ g1 (fun q h => by rw [h] at g2; cases g2) (by rw [← hcc]; exact hkC) (by rw [← hcc]; exact hasg comp _ k3 hcls) rfl rfl hdg fun H1 e z oq => ?_
  refine kk H1 _ ls (h1.put a (fun _ => rfl) (fun _ => rfl) (fun b hb => z_cell_sR hb) ?_ oq) (h2.put z oq hA) h3
  rw [z_cell_q (u := z_sR a i.toNatClampNeg (some v) u) hk.1 hκ.1]
  show H1[a]? = some (vp_cell _ _)
  rw [e, vp_cell_q, vp_cell_q, arrV_store]
  show some (arrV _ (z_ln a u) _) = some (arrV _ (z_ln a u) _)
  congr 2
  funext q
  by_cases hq : q = i.toNatClampNeg
  · subst hq
    simp [updV, z_aR, z_sR, z_up, va_rf]
  · simp [updV, z_aR, z_sR, z_up, hq]
theorem z_caastN {a κ : Nat} {C : String} {i : Int32} (S : CallFix p m c cc nL s args z_T own) (hE : z_EC D cy A t0 mi s) (hk : z_kd a u = κ ∧ κ ≠ 0) (hκ : 10 < κ ∧ κ < 16) (hty : (z_tys cy)[κ - 9]? = some (cy (κ - 9), .object C)) (hin : vp_in i (z_ln a u)) (hdg : decode cc pc = .ok (.aastore, 1)) (kk : z_V A (z_hC D cy A t0 u0) p l e R s m args below meth c nL Q k n (z_sR a i.toNatClampNeg none u) (pc + 1) lv st) : z_V A (z_hC D cy A t0 u0) p l e R s m args below meth c nL Q k n u pc lv (.null :: .int i :: .ref a :: st) := fun H locs ls h1 h2 h3 => by
  have hA := (h1.1 a (by rw [hk.1]; exact hk.2) (by rw [hk.1]; omega)).2
  have hat := (h1.1 a (by rw [hk.1]; exact hk.2) (by rw [hk.1]; omega)).1
  rw [z_cell_q hk.1 hκ.1] at hat
  refine va_WaastN (C := C) S.1 S.2.1 hat ((hE.1.2 (κ - 9) _ hty).1 (z_ln a u) (fun j => va_rf (z_aR a j u))) (fun h => by cases h) (by show ¬ (i < 0 ∨ (arrV _ _ _).slots.size ≤ _); rw [arrV_size]; exact hin) rfl rfl hdg fun H1 e z oq => ?_
  refine kk H1 _ ls (h1.put a (fun _ => rfl) (fun _ => rfl) (fun b hb => z_cell_sR hb) ?_ oq) (h2.put z oq hA) h3
  rw [z_cell_q (u := z_sR a i.toNatClampNeg none u) hk.1 hκ.1]
  show H1[a]? = some (vp_cell _ _)
  rw [e, vp_cell_q, vp_cell_q, arrV_store]
  show some (arrV _ (z_ln a u) _) = some (arrV _ (z_ln a u) _)
  congr 2
  funext q
  by_cases hq : q = i.toNatClampNeg
  · subst hq
    simp [updV, z_aR, z_sR, z_up, va_rf]
  · simp [updV, z_aR, z_sR, z_up, hq]
theorem z_calen {a κ : Nat} {ty : FieldType} (S : CallFix p m c cc nL s args z_T own) (hE : z_EC D cy A t0 mi s) (hk : z_kd a u = κ ∧ κ ≠ 0) (hκ : 10 < κ ∧ κ < 16) (hty : (z_tys cy)[κ - 9]? = some (cy (κ - 9), ty)) (hdg : decode cc pc = .ok (.arraylength, 1)) (kk : z_V A (z_hC D cy A t0 u0) p l e R s m args below meth c nL Q k n u (pc + 1) lv (.int (nI (z_ln a u)) :: st)) : z_V A (z_hC D cy A t0 u0) p l e R s m args below meth c nL Q k n u pc lv (.ref a :: st) := fun H locs ls h1 h2 h3 => by
  have hat := (h1.1 a (by rw [hk.1]; exact hk.2) (by rw [hk.1]; omega)).1
  rw [z_cell_q hk.1 hκ.1] at hat
  exact va_alen S.1 S.2.1 hE.1 (z_one hat) 0 (κ - 9) rfl hty rfl hdg (kk H locs ls h1 h2 h3)
theorem z_calenS {a : Nat} (S : CallFix p m c cc nL s args z_T own) (hE : z_EC D cy A t0 mi s) (hk : z_kd a u = 16 ∧ 16 ≠ 0) (hdg : decode cc pc = .ok (.arraylength, 1)) (kk : z_V A (z_hC D cy A t0 u0) p l e R s m args below meth c nL Q k n u (pc + 1) lv (.int 0 :: st)) : z_V A (z_hC D cy A t0 u0) p l e R s m args below meth c nL Q k n u pc lv (.ref a :: st) := fun H locs ls h1 h2 h3 => by
  obtain ⟨-, -, -, -, -, -, -, h9, -⟩ := hE
  have ha := (h1.2.1 a hk.1).1
  subst ha
  exact va_tlen S.1 S.2.1 h9 h2 (by decide) hdg (kk H locs ls h1 h2 h3)
theorem z_fresh {H : Heap} {locs : List Loc} (hE : z_EC D cy A t0 mi s) (h1 : z_hC D cy A t0 u0 u H) (h2 : va_S A s.heap H locs) : z_kd H.size u = 0 := by
  by_cases h0 : z_kd H.size u = 0
  · exact h0
  · exfalso
    by_cases h16 : z_kd H.size u = 16
    · obtain ⟨-, -, -, -, -, -, -, ⟨cell, g1, -⟩, -⟩ := hE
      have hlt := (Array.getElem?_eq_some_iff.mp g1).1
      have := (h1.2.1 _ h16).1
      have h3 := h2.1
      omega
    · have := (h1.1 _ h0 h16).1.lt
      exact Nat.lt_irrefl _ this
theorem z_cnew {κ index N : Nat} {C : String} {T : u_T} {ty0 : Nat → FieldType} (S : CallFix p m c cc nL s args z_T own) (hE : z_EC D cy A t0 mi s) (hκ : κ < 10 ∧ κ ≠ 0) (hc : vwCl[κ - 1]? = some (C, T, N)) (hws : ∀ w ∈ u_ws C T N, w ∈ z_T) (hty : ∀ k, k < N → parseFieldDescriptor (T k).2.2.1 = some (ty0 k)) (hcl : Cond.classLink own index C ∈ z_T) (hinst : Cond.instantiable C N ∈ z_T) (hini : Cond.initialized C ∈ z_T) (hfs : ∀ j, j < N → defaultValue (ty0 j) = vp_V (z_fF κ (fun _ => 0) (fun _ => none)) j) (hcells : k + 1 ≤ R.cells) (hslots : n + N ≤ R.slots) (hdg : decode cc pc = .ok (.new index, 3)) (kk : ∀ a : Nat, z_kd a u = 0 → z_V A (z_hC D cy A t0 u0) p l e R s m args below meth c nL Q (k + 1) (n + N) (z_nO κ a u) (pc + 3) lv (.ref a :: st)) : z_V A (z_hC D cy A t0 u0) p l e R s m args below meth c nL Q k n u pc lv st := fun H locs ls h1 h2 h3 => by
  have hKn := hE.1.1 (κ - 1) _ hc
  refine W.newcK S.1 S.2.1 S.2.2.2.1 (S.2.2.2.2 _ hcl) (S.2.2.2.2 _ hinst) (S.2.2.2.2 _ hini) rfl hdg hcells hslots hKn.2.1 rfl fun H1 kC hkC e1 z1 o1 => ?_
  have h0 := z_fresh hE h1 h2
  have hAs : A H.size := hE.2.1 _ h2.1
  have hkd : z_kd H.size (z_nO κ H.size u) = κ := va_up_self _ _ _
  refine kk H.size h0 H1 locs ls (h1.new H.size h0 (fun b hb => va_up_ne _ _ hb) (fun b hb => rfl) (fun b hb => z_cell_nO hb) ?_ hAs (by rw [hkd]; omega) o1) ⟨Nat.le_trans h2.1 (by omega), fun x g1 g2 => (o1 x (Nat.lt_of_lt_of_le g1 h2.1)).trans (h2.2.1 x g1 g2), h2.2.2⟩ h3
  rw [z_cell_o hkd hκ.1]
  have e2 : (fun f => z_gI f H.size (z_nO κ H.size u)) = fun _ => 0 := funext fun f => if_pos rfl
  have e3 : (fun f => z_gR f H.size (z_nO κ H.size u)) = fun _ => none := funext fun f => if_pos rfl
  rw [e2, e3]
  exact ⟨_, hc, (u_born ty0 S.2.2.2.2 hws hKn hkC e1 hty).to hfs⟩
theorem z_cnewI {i : Int32} {N' : Nat} (S : CallFix p m c cc nL s args z_T own) (hE : z_EC D cy A t0 mi s) (harr : Cond.arrayClass .int ∈ z_T) (hn : ¬ i < 0) (hN : i.toNatClampNeg = N') (hbytes : N' * componentBytes .int ≤ 536870912) (hcells : k + 1 ≤ R.cells) (hslots : n + N' ≤ R.slots) (hdg : decode cc pc = .ok (.newarray .int, 2)) (kk : ∀ a : Nat, z_kd a u = 0 → z_V A (z_hC D cy A t0 u0) p l e R s m args below meth c nL Q (k + 1) (n + N') (z_nA 10 a N' u) (pc + 2) lv (.ref a :: st)) : z_V A (z_hC D cy A t0 u0) p l e R s m args below meth c nL Q k n u pc lv (.int i :: st) := fun H locs ls h1 h2 h3 => by
  refine va_newaK (atype := .int) S.1 S.2.1 (S.2.2.2.2 _ harr) rfl hdg rfl hn hN hbytes hcells hslots rfl fun H1 cA e1 z1 o1 hAr hNm => ?_
  have h0 := z_fresh hE h1 h2
  have hAs : A H.size := hE.2.1 _ h2.1
  have hkd : z_kd H.size (z_nA 10 H.size N' u) = 10 := va_up_self _ _ _
  have hcA : cA = cy 0 := Option.some.inj (hNm.symm.trans (hE.1.2 0 _ rfl).2)
  refine kk H.size h0 H1 locs ls (h1.new H.size h0 (fun b hb => va_up_ne _ _ hb) (fun b hb => va_up_ne _ _ hb) (fun b hb => z_cell_nA hb) ?_ hAs (by rw [hkd]; decide) o1) ⟨Nat.le_trans h2.1 (by omega), fun x g1 g2 => (o1 x (Nat.lt_of_lt_of_le g1 h2.1)).trans (h2.2.1 x g1 g2), h2.2.2⟩ h3
  rw [z_cell_i hkd]
  have e0 : z_ln H.size (z_nA 10 H.size N' u) = N' := va_up_self _ _ _
  have e2 : (fun j => z_aI H.size j (z_nA 10 H.size N' u)) = fun _ => 0 := funext fun f => if_pos rfl
  rw [e0, e2, ← hcA]
  exact e1
theorem z_cnewR {i : Int32} {κ N' index : Nat} {C : String} (S : CallFix p m c cc nL s args z_T own) (hE : z_EC D cy A t0 mi s) (hκ : 10 < κ ∧ κ < 16) (hty : (z_tys cy)[κ - 9]? = some (cy (κ - 9), .object C)) (hcl : Cond.classLink own index C ∈ z_T) (hover : va_AO C s) (hn : ¬ i < 0) (hN : i.toNatClampNeg = N') (hbytes : N' * 4 ≤ 536870912) (hcells : k + 1 ≤ R.cells) (hslots : n + N' ≤ R.slots) (hdg : decode cc pc = .ok (.anewarray index, 3)) (kk : ∀ a : Nat, z_kd a u = 0 → z_V A (z_hC D cy A t0 u0) p l e R s m args below meth c nL Q (k + 1) (n + N') (z_nA κ a N' u) (pc + 3) lv (.ref a :: st)) : z_V A (z_hC D cy A t0 u0) p l e R s m args below meth c nL Q k n u pc lv (.int i :: st) := fun H locs ls h1 h2 h3 => by
  subst hN
  refine W.anew S.1 S.2.1 S.2.2.2.1 (S.2.2.2.2 _ hcl) (va_AO.use hover) rfl hdg rfl hn hbytes hcells hslots fun cA kA comp f1 f2 f3 f4 => ?_
  generalize hH1 : H.push ({ cls := cA, slots := Array.replicate i.toNatClampNeg .null, vm := .none } : Cell) = H1
  have z1 : H1.size = H.size + 1 := by rw [← hH1, Array.size_push]
  have e1 : H1[H.size]? = some (arrV cA i.toNatClampNeg (fun _ => .null)) := by rw [← hH1, Array.getElem?_push_size, ← arrV_new]
  have o1 : ∀ q : Nat, q < H.size → H1[q]? = H[q]? := fun q hq => by rw [← hH1, Array.getElem?_push, if_neg (Nat.ne_of_lt hq)]
  have h0 := z_fresh hE h1 h2
  have hAs : A H.size := hE.2.1 _ h2.1
  have hkd : z_kd H.size (z_nA κ H.size i.toNatClampNeg u) = κ := va_up_self _ _ _
  have hcA : cA = cy (κ - 9) := by
    obtain ⟨kA2, comp2, -, -, -, g4⟩ := (hE.1.2 (κ - 9) _ hty).2
    exact Option.some.inj (f1.symm.trans g4)
  refine kk H.size h0 H1 locs ls (h1.new H.size h0 (fun b hb => va_up_ne _ _ hb) (fun b hb => va_up_ne _ _ hb) (fun b hb => z_cell_nA hb) ?_ hAs (by rw [hkd]; omega) o1) ⟨Nat.le_trans h2.1 (by omega), fun x g1 g2 => (o1 x (Nat.lt_of_lt_of_le g1 h2.1)).trans (h2.2.1 x g1 g2), h2.2.2⟩ h3
  rw [z_cell_q hkd hκ.1]
  have e0 : z_ln H.size (z_nA κ H.size i.toNatClampNeg u) = i.toNatClampNeg := va_up_self _ _ _
  have e2 : (fun j => z_aR H.size j (z_nA κ H.size i.toNatClampNeg u)) = fun _ => none := funext fun f => if_pos rfl
  rw [e0, e2, ← hcA]
  show H1[H.size]? = some (vp_cell _ _)
  rw [vp_cell_q]
  exact e1
theorem z_mmax {index : Nat} {x y : Int32} (S : CallFix p m c cc nL s args z_T own) (hlink : Cond.methodLink own index Lib.Math.max.name ∈ z_T) (hstat : Cond.static Lib.Math.max.name ∈ z_T) (hini : Cond.initialized "java/lang/Math" ∈ z_T) (hcode : Cond.code Lib.Math.max.name Lib.Math.max.code 2 (some .int) ∈ z_T) (hf : 1 ≤ R.frames) (hlo : z_sm st + 13 ≤ R.locals) (hc : k ≤ R.cells) (hs : n ≤ R.slots) {σ : Type} {hp : σ → Heap → Prop} {u : σ} (hdg : decode cc pc = .ok (.invokestatic index, 3)) (kk : z_V A hp p l e R s m args below meth c nL Q k n u (pc + 3) lv (.int (if x < y then y else x) :: st)) : z_V A hp p l e R s m args below meth c nL Q k n u pc lv (.int y :: .int x :: st) := fun H locs ls h1 h2 h3 =>
  va_mmax S.1 S.2.1 (S.2.2.1.trans h3.1.symm) S.2.2.2.1 (S.2.2.2.2 _ hlink) (S.2.2.2.2 _ hstat) (S.2.2.2.2 _ hini) (S.2.2.2.2 _ hcode) hf hlo hc hs hdg (kk H locs ls h1 h2 h3)
theorem z_mmin {index : Nat} {x y : Int32} (S : CallFix p m c cc nL s args z_T own) (hlink : Cond.methodLink own index Lib.Math.min.name ∈ z_T) (hstat : Cond.static Lib.Math.min.name ∈ z_T) (hini : Cond.initialized "java/lang/Math" ∈ z_T) (hcode : Cond.code Lib.Math.min.name Lib.Math.min.code 2 (some .int) ∈ z_T) (hf : 1 ≤ R.frames) (hlo : z_sm st + 13 ≤ R.locals) (hc : k ≤ R.cells) (hs : n ≤ R.slots) {σ : Type} {hp : σ → Heap → Prop} {u : σ} (hdg : decode cc pc = .ok (.invokestatic index, 3)) (kk : z_V A hp p l e R s m args below meth c nL Q k n u (pc + 3) lv (.int (if y < x then y else x) :: st)) : z_V A hp p l e R s m args below meth c nL Q k n u pc lv (.int y :: .int x :: st) := fun H locs ls h1 h2 h3 =>
  va_mmin S.1 S.2.1 (S.2.2.1.trans h3.1.symm) S.2.2.2.1 (S.2.2.2.2 _ hlink) (S.2.2.2.2 _ hstat) (S.2.2.2.2 _ hini) (S.2.2.2.2 _ hcode) hf hlo hc hs hdg (kk H locs ls h1 h2 h3)
theorem z_obj {index a : Nat} (S : CallFix p m c cc nL s args z_T own) (hlink : Cond.methodLink own index Lib.objectInit ∈ z_T) (hins : Cond.instanceMethod Lib.objectInit ∈ z_T) (hcode : Cond.code Lib.objectInit ⟨#[0xb1]⟩ 1 none ∈ z_T) (hf : 1 ≤ R.frames) (hlo : z_sm st + 12 ≤ R.locals) {σ : Type} {hp : σ → Heap → Prop} {u : σ} (hdg : decode cc pc = .ok (.invokespecial index, 3)) (kk : z_V A hp p l e R s m args below meth c nL Q k n u (pc + 3) lv st) : z_V A hp p l e R s m args below meth c nL Q k n u pc lv (.ref a :: st) := fun H locs ls h1 h2 h3 =>
  W.objInit S.1 S.2.1 S.2.2.2.1 (S.2.2.2.2 _ hlink) (S.2.2.2.2 _ hins) (S.2.2.2.2 _ hcode) rfl (h3.1.trans S.2.2.1.symm) rfl hdg hf (by show 2 * 0 + z_sm st + 12 ≤ _; omega) (kk H locs ls h1 h2 h3)
theorem z_cst {index a κ : Nat} {q : vw_C} (S : CallFix p m c cc nL s args z_T own) (hE : z_EC D cy A t0 mi s) (hk : z_kd a u = κ ∧ κ ≠ 0) (hκ : κ < 10) (hc : vwCl[κ - 1]? = some q) (hlink : Cond.classLink own index q.1 ∈ z_T) (hdg : decode cc pc = .ok (.checkcast index, 3)) (kk : z_V A (z_hC D cy A t0 u0) p l e R s m args below meth c nL Q k n u (pc + 3) lv (.ref a :: st)) : z_V A (z_hC D cy A t0 u0) p l e R s m args below meth c nL Q k n u pc lv (.ref a :: st) := fun H locs ls h1 h2 h3 =>
  va_castS S.1 S.2.1 S.2.2.2.1 (S.2.2.2.2 _ hlink) (hE.1.1 (κ - 1) q hc).2 (z_recvC hE hk hκ hc H h1) hdg (kk H locs ls h1 h2 h3)
end ZB
end
section
section
variable {p : Program} {l : Launch} {e : Env} {R : Room} {s : State} {m : MethodId} {args : Array Value} {below : List Frame} {meth : Method} {c : Code} {H : Heap} {locs : List Loc} {cells slots : Nat} {Q : State → Prop}
variable {mc ms : Nat} {free : Addr → Prop} {A0 A1 : Nat → Prop} {H0 : Heap} {a : Array Value} {pc : Nat} {ls : Array Slot} {st0 rest : List Value}
theorem vx_callq {S SX : Type} {post : Option Nat → S → Prop} {px : SX → Prop} {B : S → State → Prop} {BX : String → SX → State → Prop} {AX : Nat → Prop} (hr : vx_Run p l e R s m args below meth c H locs cells slots mc ms (F0 m pc ls st0) rest (va_Qq post B A1 a) (vx_X px BX AX) free) (hS : va_S A0 H0 H locs) (hA : ∀ q, q < H.size → A1 q → A0 q) (hf : ∀ q, free q → A0 q) (hAX : ∀ q, q < H.size → AX q → A0 q)
    (kx : ∀ (E : String) (ce : Cell) (q9 : Addr) (u : SX) (t : State) (H1 : Heap) (locs1 : List Loc), t.heap = H1 → s.vm.Alike t.vm → px u → BX E u t → H.size ≤ H1.size → (∀ q : Nat, q < H.size → ¬ AX q → H1[q]? = H[q]?) → va_S A0 H0 H1 locs1 → H1[q9]? = some ce → ce.vm = .none → s.vm.findClass E = some ce.cls → vx_W p l e R s m args below meth c H1 locs1 (cells + mc) (slots + ms) Q (F0 m pc ls rest) q9)
    (kk : ∀ (r : Option Nat) (u : S) (t : State) (H1 : Heap) (locs1 : List Loc), t.heap = H1 → s.vm.Alike t.vm → post r u → B u t → H.size ≤ H1.size → (∀ q : Nat, q < H.size → ¬ A1 q → H1[q]? = H[q]?) → va_S A0 H0 H1 locs1 → W p l e R s m args below meth c H1 locs1 (cells + mc) (slots + ms) Q (F0 m (pc + 3) ls (va_rf r :: rest))) : W p l e R s m args below meth c H locs cells slots Q (F0 m pc ls st0) := by
  intro T hT X
  rcases hr T hT X with ⟨v, st₀, t, T', L, h0, X', hL, e1, e2, ⟨⟨r, u, hv, hp, hb⟩, hF⟩, st⟩ | ⟨q, st₀, t, T', L, E, ce, h0, X', hL, e1, e2, ⟨u, hp, hb, hF⟩, hce, hcv, hcl, st⟩
  · cases hv
    obtain ⟨k1, k2, k3⟩ := vx_keep h0 e1 hS hA hf hL hF
    obtain ⟨t2, a1, b1⟩ := kk r u t T'.heap (locs ++ L) e1.symm (by rw [← e2]; exact X'.warmed.alike) hp hb k1 k2 k3 T' rfl X'
    exact ⟨t2, st t2 a1, b1⟩
  · obtain ⟨k1, k2, k3⟩ := vx_keep h0 e1 hS hAX hf hL hF
    obtain ⟨t2, a1, b1⟩ := kx E ce q u t T'.heap (locs ++ L) e1.symm (by rw [← e2]; exact X'.warmed.alike) hp hb k1 k2 k3 (by rw [e1]; exact hce) hcv hcl T' rfl X'
    exact ⟨t2, st.trans a1, b1⟩
end
def zx_X {σ : Type} (px : String → σ → Prop) (hp : σ → Heap → Prop) (A : Nat → Prop) : String → State → State → Prop := vx_X (fun (_ : σ) => True) (fun E (u' : σ) t => px E u' ∧ hp u' t.heap) A
def zx_Mi {σ : Type} (l : Launch) (y : MethodName) (ws : List Cond) (rm : Room) (avs : List Value) (E : State → Prop) (hp : σ → Heap → Prop) (u : σ) (post : Int32 → σ → Prop) (px : String → σ → Prop) (mc ms : Nat) (A : Nat → Prop) : Prop := vx_Met l y ws rm (va_Pc avs (fun U => E U ∧ hp u U.heap)) (va_Qi post (fun (u' : σ) t => hp u' t.heap) A) (zx_X px hp A) mc ms A
def zx_Mv {σ : Type} (l : Launch) (y : MethodName) (ws : List Cond) (rm : Room) (avs : List Value) (E : State → Prop) (hp : σ → Heap → Prop) (u : σ) (post : σ → Prop) (px : String → σ → Prop) (mc ms : Nat) (A : Nat → Prop) : Prop := vx_Met l y ws rm (va_Pc avs (fun U => E U ∧ hp u U.heap)) (va_Qv post (fun (u' : σ) t => hp u' t.heap) A) (zx_X px hp A) mc ms A
def zx_Mq {σ : Type} (l : Launch) (y : MethodName) (ws : List Cond) (rm : Room) (avs : List Value) (E : State → Prop) (hp : σ → Heap → Prop) (u : σ) (post : Option Nat → σ → Prop) (px : String → σ → Prop) (mc ms : Nat) (A : Nat → Prop) : Prop := vx_Met l y ws rm (va_Pc avs (fun U => E U ∧ hp u U.heap)) (va_Qq post (fun (u' : σ) t => hp u' t.heap) A) (zx_X px hp A) mc ms A
theorem zx_met {σ : Type} {l : Launch} {y : MethodName} {cc : ByteArray} {nL : Nat} {ret : Option FieldType} {rm : Room} {avs : List Value} {E : State → Prop} {hp : σ → Heap → Prop} {u : σ} {Qc : Array Value → State → Outcome → State → Prop} {XC : String → State → State → Prop} {mc ms : Nat} {A : Nat → Prop} (hy : plainName y.cls = true) (hsz : (lg_sl avs).length ≤ nL)
    (body : ∀ p e s m args below meth c, CallFix p m c cc nL s args z_T y.cls → meth.locks = false → meth.sig.returnType = ret → meth.name = y.name → (∀ x ∈ c.exceptionTable.toList, False) → E s → z_V A hp p l e rm s m args below meth c nL (vx_MQ below Qc XC args s mc ms A) 0 0 u 0 (lv_args 0 avs) []) : vx_Met l y (Cond.code y cc nL ret :: z_T) rm (va_Pc avs (fun U => E U ∧ hp u U.heap)) Qc XC mc ms A := by
  refine vx_ofW (cc := cc) (maxL := nL) (ret := ret) hy rfl ?_
  intro p e s m args below meth c s₁ B hml htb hv
  obtain ⟨rfl, hE, hh⟩ := hv
  have hts := atoms_spec (ws := Cond.code y cc nL ret :: z_T) B.pre
  have hV := body p e s m avs.toArray below meth c ⟨B.exec, B.bytes, hml, findClass_of_methodNamed B.named, fun w hw => hts w (List.mem_cons_of_mem _ hw)⟩ B.notSynchronized B.returns (name_of_methodNamed B.named B.method).1 htb hE
  have hl := lv_entry avs (n := nL) hsz
  rw [lg_entry_eq]
  exact hV s.heap [] _ hh va_S.rf hl
section ZX
variable {p : Program} {l : Launch} {e : Env} {R : Room} {s : State} {m : MethodId} {args : Array Value} {below : List Frame} {meth : Method} {c : Code} {Q : State → Prop} {cc : ByteArray} {nL : Nat} {own : String} {A : Nat → Prop} {σ : Type} {hp : σ → Heap → Prop} {k n : Nat} {u : σ} {pc : Nat} {lv : List (Nat × Value)} {st : List Value} {XC : String → State → State → Prop}
theorem zx_iret {post : Int32 → σ → Prop} {mc ms : Nat} {v : Int32} (S : CallFix p m c cc nL s args z_T own) (hr : meth.sig.returnType = some .int) (hlk : meth.locks = false) (hdg : decode cc pc = .ok (.ireturn, 1)) (hk : k ≤ mc) (hn : n ≤ ms) (h0 : post v u) : z_V A hp p l e R s m args below meth c nL (vx_MQ below (va_Qi post (fun (u' : σ) t => hp u' t.heap) A) XC args s mc ms A) k n u pc lv [.int v] := fun H locs ls h1 h2 h3 => vx_ret (z_iret S hr hlk hdg hk hn h0 H locs ls h1 h2 h3)
theorem zx_zret {post : Int32 → σ → Prop} {mc ms : Nat} {v : Int32} (S : CallFix p m c cc nL s args z_T own) (hr : meth.sig.returnType = some .boolean) (hlk : meth.locks = false) (hdg : decode cc pc = .ok (.ireturn, 1)) (hk : k ≤ mc) (hn : n ≤ ms) (hb : narrow .boolean (.int v) = .int v) (h0 : post v u) : z_V A hp p l e R s m args below meth c nL (vx_MQ below (va_Qi post (fun (u' : σ) t => hp u' t.heap) A) XC args s mc ms A) k n u pc lv [.int v] := fun H locs ls h1 h2 h3 => vx_ret (z_zret S hr hlk hdg hk hn hb h0 H locs ls h1 h2 h3)
theorem zx_vret {post : σ → Prop} {mc ms : Nat} (S : CallFix p m c cc nL s args z_T own) (hr : meth.sig.returnType = none) (hlk : meth.locks = false) (hdg : decode cc pc = .ok (.return_, 1)) (hk : k ≤ mc) (hn : n ≤ ms) (h0 : post u) : z_V A hp p l e R s m args below meth c nL (vx_MQ below (va_Qv post (fun (u' : σ) t => hp u' t.heap) A) XC args s mc ms A) k n u pc lv [] := fun H locs ls h1 h2 h3 => vx_ret (z_vret S hr hlk hdg hk hn h0 H locs ls h1 h2 h3)
theorem zx_aret {post : Option Nat → σ → Prop} {mc ms : Nat} {v : Option Nat} {rt : FieldType} (S : CallFix p m c cc nL s args z_T own) (hr : meth.sig.returnType = some rt) (hrt : (∃ n, rt = .object n) ∨ ∃ t, rt = .array t) (hlk : meth.locks = false) (hdg : decode cc pc = .ok (.areturn, 1)) (hk : k ≤ mc) (hn : n ≤ ms) (h0 : post v u) : z_V A hp p l e R s m args below meth c nL (vx_MQ below (va_Qq post (fun (u' : σ) t => hp u' t.heap) A) XC args s mc ms A) k n u pc lv [va_rf v] := fun H locs ls h1 h2 h3 => vx_ret (z_aret S hr hrt hlk hdg hk hn h0 H locs ls h1 h2 h3)
theorem zx_callVi {E : State → Prop} {hp' : σ → Heap → Prop} {post : Int32 → σ → Prop} {px px' : String → σ → Prop} {Qc : Array Value → State → Outcome → State → Prop} {y : MethodName} {b : Nat} {bytes : ByteArray} {maxL N mc ms mc0 ms0 index : Nat} {ret : Option FieldType} {rm : Room} {C : String} {As st0 : List Value} (S : CallFix p m c cc nL s args z_T own) (hEo : z_Eok E A) (hEs : E s) (htb : ∀ x ∈ c.exceptionTable.toList, False) (hlk : meth.locks = false) (hM : zx_Mi l y (Cond.code y bytes maxL ret :: z_T) rm (.ref b :: As) E hp' u post px' mc ms A) (g : GoodIn z_T (wsV own index C y (Cond.code y bytes maxL ret :: z_T))) (hd : y.cls = C ∧ y.cls ≠ "java/lang/invoke/MethodHandle" ∧ y.cls ≠ "java/lang/invoke/VarHandle" ∧ (parseMethodDescriptor y.desc).map (fun d => d.parameters.length) = some N) (hR : rm.frames + 1 ≤ R.frames ∧ 8 + (maxL + 11) + rm.locals ≤ R.locals) (hrc : rm.cells = mc) (hrs : rm.slots = ms) (hrv : ∀ H : Heap, hp u H → ∃ cell : Cell, H[b]? = some cell ∧ cell.vm.isStatics = false ∧ s.vm.findClass C = some cell.cls) (hin : ∀ H : Heap, hp u H → hp' u H) (hout : ∀ (H H1 : Heap) (u' : σ), hp u H → hp' u' H1 → hp u' H1) (hpx : ∀ (E : String) (u' : σ), px' E u' → px E u') (hn : As.length = N) (hsm : z_sm st ≤ 8) (hdg : decode cc pc = .ok (.invokevirtual index, 3)) (hf : k + mc ≤ R.cells ∧ n + ms ≤ R.slots) (hf0 : k + mc ≤ mc0 ∧ n + ms ≤ ms0) (hst : st0 = As.reverse ++ .ref b :: st)
    (kk : ∀ r u', post r u' → z_V A hp p l e R s m args below meth c nL (vx_MQ below Qc (zx_X px hp A) args s mc0 ms0 A) (k + mc) (n + ms) u' (pc + 3) lv (.int r :: st)) : z_V A hp p l e R s m args below meth c nL (vx_MQ below Qc (zx_X px hp A) args s mc0 ms0 A) k n u pc lv st0 := fun H locs ls h1 h2 h3 => by
  subst hst
  exact vx_calli (vx_runV (As := As) (rest := st) S hM (cwV N S.2.2.2.2 g rfl hrc hrs hd hR) ⟨z_blind hEo, hrv H h1, fun U hU hW => ⟨rfl, hEo.2 s U H locs hEs h2 hU hW, by rw [hU]; exact hin H h1⟩⟩ rfl hn h3.1 rfl (z_room hsm) hdg hf) h2 (fun q _ h => h) (fun q h => h) (fun q _ h => h) (fun E ce q9 u' t H1 locs1 ht hvm _ hB hz1 hk1 hS hce hcv hcl => vx_out (fun x hx => (htb x hx).elim) hlk hce hcv hcl (fun t2 ht2 ha2 => ⟨u', trivial, ⟨hpx E u' hB.1, by rw [ht2]; exact hout H H1 u' h1 (by rw [← ht]; exact hB.2)⟩, hS.F ht2⟩) hS.2.2 hf0.1 hf0.2) (fun r u' t H1 locs1 ht hvm hw hB hz1 hk1 hS => kk r u' hw H1 locs1 ls (hout H H1 u' h1 (by rw [← ht]; exact hB)) hS h3)
theorem zx_callVv {E : State → Prop} {hp' : σ → Heap → Prop} {post : σ → Prop} {px px' : String → σ → Prop} {Qc : Array Value → State → Outcome → State → Prop} {y : MethodName} {b : Nat} {bytes : ByteArray} {maxL N mc ms mc0 ms0 index : Nat} {ret : Option FieldType} {rm : Room} {C : String} {As st0 : List Value} (S : CallFix p m c cc nL s args z_T own) (hEo : z_Eok E A) (hEs : E s) (htb : ∀ x ∈ c.exceptionTable.toList, False) (hlk : meth.locks = false) (hM : zx_Mv l y (Cond.code y bytes maxL ret :: z_T) rm (.ref b :: As) E hp' u post px' mc ms A) (g : GoodIn z_T (wsV own index C y (Cond.code y bytes maxL ret :: z_T))) (hd : y.cls = C ∧ y.cls ≠ "java/lang/invoke/MethodHandle" ∧ y.cls ≠ "java/lang/invoke/VarHandle" ∧ (parseMethodDescriptor y.desc).map (fun d => d.parameters.length) = some N) (hR : rm.frames + 1 ≤ R.frames ∧ 8 + (maxL + 11) + rm.locals ≤ R.locals) (hrc : rm.cells = mc) (hrs : rm.slots = ms) (hrv : ∀ H : Heap, hp u H → ∃ cell : Cell, H[b]? = some cell ∧ cell.vm.isStatics = false ∧ s.vm.findClass C = some cell.cls) (hin : ∀ H : Heap, hp u H → hp' u H) (hout : ∀ (H H1 : Heap) (u' : σ), hp u H → hp' u' H1 → hp u' H1) (hpx : ∀ (E : String) (u' : σ), px' E u' → px E u') (hn : As.length = N) (hsm : z_sm st ≤ 8) (hdg : decode cc pc = .ok (.invokevirtual index, 3)) (hf : k + mc ≤ R.cells ∧ n + ms ≤ R.slots) (hf0 : k + mc ≤ mc0 ∧ n + ms ≤ ms0) (hst : st0 = As.reverse ++ .ref b :: st)
    (kk : ∀ u', post u' → z_V A hp p l e R s m args below meth c nL (vx_MQ below Qc (zx_X px hp A) args s mc0 ms0 A) (k + mc) (n + ms) u' (pc + 3) lv st) : z_V A hp p l e R s m args below meth c nL (vx_MQ below Qc (zx_X px hp A) args s mc0 ms0 A) k n u pc lv st0 := fun H locs ls h1 h2 h3 => by
  subst hst
  exact vx_callv (vx_runV (As := As) (rest := st) S hM (cwV N S.2.2.2.2 g rfl hrc hrs hd hR) ⟨z_blind hEo, hrv H h1, fun U hU hW => ⟨rfl, hEo.2 s U H locs hEs h2 hU hW, by rw [hU]; exact hin H h1⟩⟩ rfl hn h3.1 rfl (z_room hsm) hdg hf) h2 (fun q _ h => h) (fun q h => h) (fun q _ h => h) (fun E ce q9 u' t H1 locs1 ht hvm _ hB hz1 hk1 hS hce hcv hcl => vx_out (fun x hx => (htb x hx).elim) hlk hce hcv hcl (fun t2 ht2 ha2 => ⟨u', trivial, ⟨hpx E u' hB.1, by rw [ht2]; exact hout H H1 u' h1 (by rw [← ht]; exact hB.2)⟩, hS.F ht2⟩) hS.2.2 hf0.1 hf0.2) (fun u' t H1 locs1 ht hvm hw hB hz1 hk1 hS => kk u' hw H1 locs1 ls (hout H H1 u' h1 (by rw [← ht]; exact hB)) hS h3)
theorem zx_callVq {E : State → Prop} {hp' : σ → Heap → Prop} {post : Option Nat → σ → Prop} {px px' : String → σ → Prop} {Qc : Array Value → State → Outcome → State → Prop} {y : MethodName} {b : Nat} {bytes : ByteArray} {maxL N mc ms mc0 ms0 index : Nat} {ret : Option FieldType} {rm : Room} {C : String} {As st0 : List Value} (S : CallFix p m c cc nL s args z_T own) (hEo : z_Eok E A) (hEs : E s) (htb : ∀ x ∈ c.exceptionTable.toList, False) (hlk : meth.locks = false) (hM : zx_Mq l y (Cond.code y bytes maxL ret :: z_T) rm (.ref b :: As) E hp' u post px' mc ms A) (g : GoodIn z_T (wsV own index C y (Cond.code y bytes maxL ret :: z_T))) (hd : y.cls = C ∧ y.cls ≠ "java/lang/invoke/MethodHandle" ∧ y.cls ≠ "java/lang/invoke/VarHandle" ∧ (parseMethodDescriptor y.desc).map (fun d => d.parameters.length) = some N) (hR : rm.frames + 1 ≤ R.frames ∧ 8 + (maxL + 11) + rm.locals ≤ R.locals) (hrc : rm.cells = mc) (hrs : rm.slots = ms) (hrv : ∀ H : Heap, hp u H → ∃ cell : Cell, H[b]? = some cell ∧ cell.vm.isStatics = false ∧ s.vm.findClass C = some cell.cls) (hin : ∀ H : Heap, hp u H → hp' u H) (hout : ∀ (H H1 : Heap) (u' : σ), hp u H → hp' u' H1 → hp u' H1) (hpx : ∀ (E : String) (u' : σ), px' E u' → px E u') (hn : As.length = N) (hsm : z_sm st ≤ 8) (hdg : decode cc pc = .ok (.invokevirtual index, 3)) (hf : k + mc ≤ R.cells ∧ n + ms ≤ R.slots) (hf0 : k + mc ≤ mc0 ∧ n + ms ≤ ms0) (hst : st0 = As.reverse ++ .ref b :: st)
    (kk : ∀ r u', post r u' → z_V A hp p l e R s m args below meth c nL (vx_MQ below Qc (zx_X px hp A) args s mc0 ms0 A) (k + mc) (n + ms) u' (pc + 3) lv (va_rf r :: st)) : z_V A hp p l e R s m args below meth c nL (vx_MQ below Qc (zx_X px hp A) args s mc0 ms0 A) k n u pc lv st0 := fun H locs ls h1 h2 h3 => by
  subst hst
  exact vx_callq (vx_runV (As := As) (rest := st) S hM (cwV N S.2.2.2.2 g rfl hrc hrs hd hR) ⟨z_blind hEo, hrv H h1, fun U hU hW => ⟨rfl, hEo.2 s U H locs hEs h2 hU hW, by rw [hU]; exact hin H h1⟩⟩ rfl hn h3.1 rfl (z_room hsm) hdg hf) h2 (fun q _ h => h) (fun q h => h) (fun q _ h => h) (fun E ce q9 u' t H1 locs1 ht hvm _ hB hz1 hk1 hS hce hcv hcl => vx_out (fun x hx => (htb x hx).elim) hlk hce hcv hcl (fun t2 ht2 ha2 => ⟨u', trivial, ⟨hpx E u' hB.1, by rw [ht2]; exact hout H H1 u' h1 (by rw [← ht]; exact hB.2)⟩, hS.F ht2⟩) hS.2.2 hf0.1 hf0.2) (fun r u' t H1 locs1 ht hvm hw hB hz1 hk1 hS => kk r u' hw H1 locs1 ls (hout H H1 u' h1 (by rw [← ht]; exact hB)) hS h3)
theorem z_callINv {E : State → Prop} {hp' : σ → Heap → Prop} {post : σ → Prop} {y : MethodName} {b : Nat} {bytes : ByteArray} {maxL N mc ms index : Nat} {host : String} {rm : Room} {As st0 : List Value} (S : CallFix p m c cc nL s args z_T own) (hEo : z_Eok E A) (hEs : E s) (hM : z_Mv l y (Cond.code y bytes maxL none :: z_T) rm (.ref b :: As) E hp' u post mc ms A) (g : GoodIn z_T (Cond.code y bytes maxL none :: z_T)) (hini : Cond.initialized y.cls ∈ z_T) (hlk : va_Nw (.methodLinkNest own index y host) s) (hins : Cond.instanceMethod y ∈ z_T) (hy1 : y.name = "<init>") (hd : y.cls ≠ "java/lang/invoke/MethodHandle" ∧ y.cls ≠ "java/lang/invoke/VarHandle" ∧ (parseMethodDescriptor y.desc).map (fun d => d.parameters.length) = some N) (hR : rm.frames + 1 ≤ R.frames ∧ 8 + (maxL + 11) + rm.locals ≤ R.locals) (hrc : rm.cells = mc) (hrs : rm.slots = ms) (hin : ∀ H : Heap, hp u H → hp' u H) (hout : ∀ (H H1 : Heap) (u' : σ), hp u H → hp' u' H1 → hp u' H1) (hn : As.length = N) (hsm : z_sm st ≤ 8) (hdg : decode cc pc = .ok (.invokespecial index, 3)) (hf : k + mc ≤ R.cells ∧ n + ms ≤ R.slots) (hst : st0 = As.reverse ++ .ref b :: st)
    (kk : ∀ u', post u' → z_V A hp p l e R s m args below meth c nL Q (k + mc) (n + ms) u' (pc + 3) lv st) : z_V A hp p l e R s m args below meth c nL Q k n u pc lv st0 := fun H locs ls h1 h2 h3 => by
  subst hst
  exact va_callv (va_runIN (As := As) (rest := st) S hM ⟨va_cnB N S.2.2.2.2 g rfl hrc hrs hlk (S.2.2.2.2 _ hini) hd hR, hy1, S.2.2.2.2 _ hins⟩ ⟨z_blind hEo, fun U hU hW => ⟨rfl, hEo.2 s U H locs hEs h2 hU hW, by rw [hU]; exact hin H h1⟩⟩ rfl hn h3.1 rfl (z_room hsm) hdg hf) h2 (fun q _ h => h) (fun q h => h) (fun u' t H1 locs1 ht hvm hw hB hz1 hk1 hS => kk u' hw H1 locs1 ls (hout H H1 u' h1 (by rw [← ht]; exact hB)) hS h3)
theorem z_callSNi {E : State → Prop} {hp' : σ → Heap → Prop} {post : Int32 → σ → Prop} {y : MethodName} {bytes : ByteArray} {maxL N mc ms index : Nat} {host : String} {ret : Option FieldType} {rm : Room} {As st0 : List Value} (S : CallFix p m c cc nL s args z_T own) (hEo : z_Eok E A) (hEs : E s) (hM : z_Mi l y (Cond.code y bytes maxL ret :: z_T) rm As E hp' u post mc ms A) (g : GoodIn z_T (Cond.code y bytes maxL ret :: z_T)) (hini : Cond.initialized y.cls ∈ z_T) (hlk : va_Nw (.methodLinkNest own index y host) s) (hsta : Cond.static y ∈ z_T) (hd : y.cls ≠ "java/lang/invoke/MethodHandle" ∧ y.cls ≠ "java/lang/invoke/VarHandle" ∧ (parseMethodDescriptor y.desc).map (fun d => d.parameters.length) = some N) (hR : rm.frames + 1 ≤ R.frames ∧ 8 + (maxL + 11) + rm.locals ≤ R.locals) (hrc : rm.cells = mc) (hrs : rm.slots = ms) (hin : ∀ H : Heap, hp u H → hp' u H) (hout : ∀ (H H1 : Heap) (u' : σ), hp u H → hp' u' H1 → hp u' H1) (hn : As.length = N) (hsm : z_sm st ≤ 8) (hdg : decode cc pc = .ok (.invokestatic index, 3)) (hf : k + mc ≤ R.cells ∧ n + ms ≤ R.slots) (hst : st0 = As.reverse ++ st)
    (kk : ∀ r u', post r u' → z_V A hp p l e R s m args below meth c nL Q (k + mc) (n + ms) u' (pc + 3) lv (.int r :: st)) : z_V A hp p l e R s m args below meth c nL Q k n u pc lv st0 := fun H locs ls h1 h2 h3 => by
  subst hst
  exact va_calli (va_runSN (As := As) (rest := st) S hM ⟨va_cnB N S.2.2.2.2 g rfl hrc hrs hlk (S.2.2.2.2 _ hini) hd hR, S.2.2.2.2 _ hsta, trivial⟩ ⟨z_blind hEo, fun U hU hW => ⟨rfl, hEo.2 s U H locs hEs h2 hU hW, by rw [hU]; exact hin H h1⟩⟩ rfl hn h3.1 rfl (z_room hsm) hdg hf) h2 (fun q _ h => h) (fun q h => h) (fun r u' t H1 locs1 ht hvm hw hB hz1 hk1 hS => kk r u' hw H1 locs1 ls (hout H H1 u' h1 (by rw [← ht]; exact hB)) hS h3)
end ZX
section ZY
variable {p : Program} {l : Launch} {e : Env} {R : Room} {s : State} {m : MethodId} {args : Array Value} {below : List Frame} {meth : Method} {c : Code} {Q : State → Prop} {cc : ByteArray} {nL : Nat} {own : String} {A : Nat → Prop} {k n : Nat} {pc : Nat} {lv : List (Nat × Value)} {st : List Value} {D : va_G} {cy : Nat → ClassId} {t0 mi : Nat} {u0 u : z_St}
theorem zx_throw {cls text : String} {names : List String} {ik is ic mc ms : Nat} {px : String → z_St → Prop} {Qc : Array Value → State → Outcome → State → Prop} (S : CallFix p m c cc nL s args z_T "MessageBank") (hE : z_EC D cy A t0 mi s) (hl : l.stackTraces = false) (htb : ∀ x ∈ c.exceptionTable.toList, False) (hlk : meth.locks = false) (hcls : Bundle.fit cls = true) (hnames : ∀ n ∈ names, Bundle.fit n = true) (hk : Cond.classLink "MessageBank" ik cls ∈ z_T) (hini : Cond.initialized cls ∈ z_T) (hstr : (is, text) ∈ z_strs) (hat1 : ∀ w ∈ (vx_atS "MessageBank" ic cls names).filter goodWord, w ∈ z_T) (hat2 : ∀ w ∈ (vx_atS "MessageBank" ic cls names).filter (fun w => !goodWord w), w ∈ zx_B) (hgood : ∀ w ∈ Cond.classLink "MessageBank" ik cls :: Cond.initialized cls :: vx_atS "MessageBank" ic cls names, vx_ot w = true)
    (d0 : decode cc pc = .ok (.new ik, 3)) (d3 : decode cc (pc + 3) = .ok (.dup, 1)) (d4 : decode cc (pc + 4) = .ok (.ldc is, 2)) (d6 : decode cc (pc + 6) = .ok (.invokespecial ic, 3)) (d9 : decode cc (pc + 9) = .ok (.athrow, 1)) (hRf : names.length + 3 < R.frames) (hRl : z_sm st + (13 * (names.length + 1) + 43) ≤ R.locals) (hRc : k + 1 ≤ R.cells) (hRs : n + 6 ≤ R.slots) (hc : k + 1 ≤ mc) (hs : n + 6 ≤ ms) (hpx : px cls u) : z_V A (z_hC D cy A t0 u0) p l e R s m args below meth c nL (vx_MQ below Qc (zx_X px (z_hC D cy A t0 u0) A) args s mc ms A) k n u pc lv st := fun H locs ls h1 h2 h3 => by
  obtain ⟨g1, g2, hU, hN, g5, -, -, -, g10, -⟩ := hE
  obtain ⟨sa, hsa⟩ := g5 _ hstr
  exact vx_throwS (A := A) (own := "MessageBank") S.1 S.2.1 hl S.2.2.2.1 hcls hnames (S.2.2.2.2 _ hk) (S.2.2.2.2 _ hini) hsa (vx_hat (fun w hw => S.2.2.2.2 _ (hat1 w hw)) hat2 (zx_Bof g10 args)) hgood hU hN h2 (h3.1.trans S.2.2.1.symm) d0 d3 d4 d6 d9 (fun x hx => (htb x hx).elim) hRf hRl hRc hRs hlk (fun t ha hsz hk2 => ⟨u, trivial, ⟨hpx, h1.kept (fun q hq _ => hk2 q hq)⟩, ⟨Nat.le_trans h2.1 hsz, fun q hq hqA => (hk2 q (Nat.lt_of_lt_of_le hq h2.1)).trans (h2.2.1 q hq hqA)⟩⟩) h2.2.2 hc hs
end ZY
end
section
theorem z_kO {κ κ' a b : Nat} {u : z_St} (h0 : z_kd a u = 0) (hk : z_kd b u = κ ∧ κ ≠ 0) : z_kd b (z_nO κ' a u) = κ ∧ κ ≠ 0 := by
  have hb : b ≠ a := fun e => by subst e; rw [h0] at hk; exact hk.2 hk.1.symm
  exact ⟨(va_up_ne _ _ hb).trans hk.1, hk.2⟩
theorem z_kA {κ κ' a b N : Nat} {u : z_St} (h0 : z_kd a u = 0) (hk : z_kd b u = κ ∧ κ ≠ 0) : z_kd b (z_nA κ' a N u) = κ ∧ κ ≠ 0 := by
  have hb : b ≠ a := fun e => by subst e; rw [h0] at hk; exact hk.2 hk.1.symm
  exact ⟨(va_up_ne _ _ hb).trans hk.1, hk.2⟩
theorem z_kOs {κ a : Nat} {u : z_St} (h : κ ≠ 0) : z_kd a (z_nO κ a u) = κ ∧ κ ≠ 0 := ⟨va_up_self _ _ _, h⟩
theorem z_kAs {κ a N : Nat} {u : z_St} (h : κ ≠ 0) : z_kd a (z_nA κ a N u) = κ ∧ κ ≠ 0 := ⟨va_up_self _ _ _, h⟩
/-- entries of one array of references into another -/
def z_cR (a0 a sp dp n : Nat) (u : z_St) : z_St := (u.1, u.2.1, u.2.2.1, u.2.2.2.1, u.2.2.2.2.1, fun b j => if b = a then va_cpy (fun i => z_aR a0 i u) (fun i => z_aR a i u) sp dp n j else u.2.2.2.2.2 b j)
theorem z_cell_cR {cy : Nat → ClassId} {a0 a sp dp n : Nat} {u : z_St} {b : Nat} (h : b ≠ a) : z_cell cy (z_cR a0 a sp dp n u) b = z_cell cy u b := by
  have e : (fun j' => z_aR b j' (z_cR a0 a sp dp n u)) = fun j' => z_aR b j' u := funext fun j' => if_neg h
  unfold z_cell
  rw [e]; rfl
section ZC
variable {p : Program} {l : Launch} {e : Env} {R : Room} {s : State} {m : MethodId} {args : Array Value} {below : List Frame} {meth : Method} {c : Code} {Q : State → Prop} {cc : ByteArray} {nL : Nat} {own : String} {A : Nat → Prop} {k n : Nat} {pc : Nat} {lv : List (Nat × Value)} {st : List Value} {D : va_G} {cy : Nat → ClassId} {t0 mi : Nat} {u0 u : z_St}
theorem z_ciret {post : Int32 → z_St → Prop} {mc ms : Nat} {v : Int32} (S : CallFix p m c cc nL s args z_T own) (hr : meth.sig.returnType = some .int) (hlk : meth.locks = false) (hdg : decode cc pc = .ok (.ireturn, 1)) (hk : k ≤ mc) (hn : n ≤ ms) (h0 : post v u) : z_V A (z_hC D cy A t0 u0) p l e R s m args below meth c nL (MQ below (va_Qi (fun r (u' : z_St) => post r u' ∧ z_mono u0 u') (fun (u' : z_St) t => z_hC D cy A t0 u0 u' t.heap) A) args s mc ms A) k n u pc lv [.int v] := fun H locs ls h1 h2 h3 => z_iret S hr hlk hdg hk hn ⟨h0, h1.2.2⟩ H locs ls h1 h2 h3
theorem z_czret {post : Int32 → z_St → Prop} {mc ms : Nat} {v : Int32} (S : CallFix p m c cc nL s args z_T own) (hr : meth.sig.returnType = some .boolean) (hlk : meth.locks = false) (hdg : decode cc pc = .ok (.ireturn, 1)) (hk : k ≤ mc) (hn : n ≤ ms) (hb : narrow .boolean (.int v) = .int v) (h0 : post v u) : z_V A (z_hC D cy A t0 u0) p l e R s m args below meth c nL (MQ below (va_Qi (fun r (u' : z_St) => post r u' ∧ z_mono u0 u') (fun (u' : z_St) t => z_hC D cy A t0 u0 u' t.heap) A) args s mc ms A) k n u pc lv [.int v] := fun H locs ls h1 h2 h3 => z_zret S hr hlk hdg hk hn hb ⟨h0, h1.2.2⟩ H locs ls h1 h2 h3
theorem z_cvret {post : z_St → Prop} {mc ms : Nat} (S : CallFix p m c cc nL s args z_T own) (hr : meth.sig.returnType = none) (hlk : meth.locks = false) (hdg : decode cc pc = .ok (.return_, 1)) (hk : k ≤ mc) (hn : n ≤ ms) (h0 : post u) : z_V A (z_hC D cy A t0 u0) p l e R s m args below meth c nL (MQ below (va_Qv (fun (u' : z_St) => post u' ∧ z_mono u0 u') (fun (u' : z_St) t => z_hC D cy A t0 u0 u' t.heap) A) args s mc ms A) k n u pc lv [] := fun H locs ls h1 h2 h3 => z_vret S hr hlk hdg hk hn ⟨h0, h1.2.2⟩ H locs ls h1 h2 h3
theorem z_caret {post : Option Nat → z_St → Prop} {mc ms : Nat} {rt : FieldType} (v : Option Nat) (S : CallFix p m c cc nL s args z_T own) (hr : meth.sig.returnType = some rt) (hrt : (∃ n, rt = .object n) ∨ ∃ t, rt = .array t) (hlk : meth.locks = false) (hdg : decode cc pc = .ok (.areturn, 1)) (hk : k ≤ mc) (hn : n ≤ ms) (h0 : post v u) : z_V A (z_hC D cy A t0 u0) p l e R s m args below meth c nL (MQ below (va_Qq (fun r (u' : z_St) => post r u' ∧ z_mono u0 u') (fun (u' : z_St) t => z_hC D cy A t0 u0 u' t.heap) A) args s mc ms A) k n u pc lv [va_rf v] := fun H locs ls h1 h2 h3 => z_aret (v := v) S hr hrt hlk hdg hk hn ⟨h0, h1.2.2⟩ H locs ls h1 h2 h3
theorem z_cxiret {post : Int32 → z_St → Prop} {XC : String → State → State → Prop} {mc ms : Nat} {v : Int32} (S : CallFix p m c cc nL s args z_T own) (hr : meth.sig.returnType = some .int) (hlk : meth.locks = false) (hdg : decode cc pc = .ok (.ireturn, 1)) (hk : k ≤ mc) (hn : n ≤ ms) (h0 : post v u) : z_V A (z_hC D cy A t0 u0) p l e R s m args below meth c nL (vx_MQ below (va_Qi (fun r (u' : z_St) => post r u' ∧ z_mono u0 u') (fun (u' : z_St) t => z_hC D cy A t0 u0 u' t.heap) A) XC args s mc ms A) k n u pc lv [.int v] := fun H locs ls h1 h2 h3 => zx_iret S hr hlk hdg hk hn ⟨h0, h1.2.2⟩ H locs ls h1 h2 h3
theorem z_cxzret {post : Int32 → z_St → Prop} {XC : String → State → State → Prop} {mc ms : Nat} {v : Int32} (S : CallFix p m c cc nL s args z_T own) (hr : meth.sig.returnType = some .boolean) (hlk : meth.locks = false) (hdg : decode cc pc = .ok (.ireturn, 1)) (hk : k ≤ mc) (hn : n ≤ ms) (hb : narrow .boolean (.int v) = .int v) (h0 : post v u) : z_V A (z_hC D cy A t0 u0) p l e R s m args below meth c nL (vx_MQ below (va_Qi (fun r (u' : z_St) => post r u' ∧ z_mono u0 u') (fun (u' : z_St) t => z_hC D cy A t0 u0 u' t.heap) A) XC args s mc ms A) k n u pc lv [.int v] := fun H locs ls h1 h2 h3 => zx_zret S hr hlk hdg hk hn hb ⟨h0, h1.2.2⟩ H locs ls h1 h2 h3
theorem z_cxvret {post : z_St → Prop} {XC : String → State → State → Prop} {mc ms : Nat} (S : CallFix p m c cc nL s args z_T own) (hr : meth.sig.returnType = none) (hlk : meth.locks = false) (hdg : decode cc pc = .ok (.return_, 1)) (hk : k ≤ mc) (hn : n ≤ ms) (h0 : post u) : z_V A (z_hC D cy A t0 u0) p l e R s m args below meth c nL (vx_MQ below (va_Qv (fun (u' : z_St) => post u' ∧ z_mono u0 u') (fun (u' : z_St) t => z_hC D cy A t0 u0 u' t.heap) A) XC args s mc ms A) k n u pc lv [] := fun H locs ls h1 h2 h3 => zx_vret S hr hlk hdg hk hn ⟨h0, h1.2.2⟩ H locs ls h1 h2 h3
theorem z_cxaret {post : Option Nat → z_St → Prop} {XC : String → State → State → Prop} {mc ms : Nat} {rt : FieldType} (v : Option Nat) (S : CallFix p m c cc nL s args z_T own) (hr : meth.sig.returnType = some rt) (hrt : (∃ n, rt = .object n) ∨ ∃ t, rt = .array t) (hlk : meth.locks = false) (hdg : decode cc pc = .ok (.areturn, 1)) (hk : k ≤ mc) (hn : n ≤ ms) (h0 : post v u) : z_V A (z_hC D cy A t0 u0) p l e R s m args below meth c nL (vx_MQ below (va_Qq (fun r (u' : z_St) => post r u' ∧ z_mono u0 u') (fun (u' : z_St) t => z_hC D cy A t0 u0 u' t.heap) A) XC args s mc ms A) k n u pc lv [va_rf v] := fun H locs ls h1 h2 h3 => zx_aret (v := v) S hr hrt hlk hdg hk hn ⟨h0, h1.2.2⟩ H locs ls h1 h2 h3
theorem z_tabOut {σ : Type} {hp : σ → Heap → Prop} {v : σ} {dflt lo hi : Int} {offs : Array Int} {len : Nat} {x : Int32} (tgt : Nat) (S : CallFix p m c cc nL s args z_T own) (hdg : decode cc pc = .ok (.tableswitch dflt lo hi offs, len)) (h : x.toInt < lo ∨ hi < x.toInt) (ht : (pc : Int) + dflt = (tgt : Int)) (kk : z_V A hp p l e R s m args below meth c nL Q k n v tgt lv st) : z_V A hp p l e R s m args below meth c nL Q k n v pc lv (.int x :: st) := fun H locs ls h1 h2 h3 => lv_tableOut S.1 S.2.1 hdg h ht (kk H locs ls h1 h2 h3)
theorem z_tabIn {σ : Type} {hp : σ → Heap → Prop} {v : σ} {dflt lo hi off : Int} {offs : Array Int} {len : Nat} {x : Int32} (tgt : Nat) (S : CallFix p m c cc nL s args z_T own) (hdg : decode cc pc = .ok (.tableswitch dflt lo hi offs, len)) (g1 : ¬ x.toInt < lo) (g2 : ¬ hi < x.toInt) (ho : offs[(x.toInt - lo).toNat]? = some off) (ht : (pc : Int) + off = (tgt : Int)) (kk : z_V A hp p l e R s m args below meth c nL Q k n v tgt lv st) : z_V A hp p l e R s m args below meth c nL Q k n v pc lv (.int x :: st) := fun H locs ls h1 h2 h3 => lv_tableIn S.1 S.2.1 hdg g1 g2 ho ht (kk H locs ls h1 h2 h3)
theorem z_ldc {σ : Type} {hp : σ → Heap → Prop} {v : σ} {index : Nat} {x : Int32} (S : CallFix p m c cc nL s args z_T own) (hc : Cond.constant own index x ∈ z_T) (hdg : decode cc pc = .ok (.ldc index, 2)) (kk : z_V A hp p l e R s m args below meth c nL Q k n v (pc + 2) lv (.int x :: st)) : z_V A hp p l e R s m args below meth c nL Q k n v pc lv st := fun H locs ls h1 h2 h3 => lv_ldc S.1 S.2.1 S.2.2.2.1 (S.2.2.2.2 _ hc) hdg (kk H locs ls h1 h2 h3)
theorem z_calenB {a : Nat} (S : CallFix p m c cc nL s args z_T own) (hE : z_EC D cy A t0 mi s) (hk : z_kd a u = 15 ∨ z_kd a u = 16) (hdg : decode cc pc = .ok (.arraylength, 1)) (kk : z_V A (z_hC D cy A t0 u0) p l e R s m args below meth c nL Q k n u (pc + 1) lv (.int (nI (z_ln a u)) :: st)) : z_V A (z_hC D cy A t0 u0) p l e R s m args below meth c nL Q k n u pc lv (.ref a :: st) := fun H locs ls h1 h2 h3 => by
  rcases hk with hk | hk
  · exact z_calen (κ := 15) S hE ⟨hk, by decide⟩ (by decide) rfl hdg kk H locs ls h1 h2 h3
  · refine z_calenS S hE ⟨hk, by decide⟩ hdg ?_ H locs ls h1 h2 h3
    rw [(h1.2.1 a hk).2] at kk
    exact kk
theorem z_cgetsD (S : CallFix p m c cc nL s args z_T "java/util/ArrayList") (hE : z_EC D cy A t0 mi s) (hlink : Cond.fieldLink "java/util/ArrayList" 39 "java/util/ArrayList" "DEFAULTCAPACITY_EMPTY_ELEMENTDATA" "[Ljava/lang/Object;" ∈ z_T) (hdg : decode cc pc = .ok (.getstatic 39, 3)) (kk : z_V A (z_hC D cy A t0 u0) p l e R s m args below meth c nL Q k n u (pc + 3) lv (.ref t0 :: st)) : z_V A (z_hC D cy A t0 u0) p l e R s m args below meth c nL Q k n u pc lv st := fun H locs ls h1 h2 h3 => by
  obtain ⟨-, -, -, -, -, -, h8, -⟩ := hE
  exact va_gets S.1 S.2.1 h8 h2 S.2.2.2.1 (S.2.2.2.2 _ hlink) (fun _ h => h) hdg (kk H locs ls h1 h2 h3)
theorem z_cgetsI (S : CallFix p m c cc nL s args z_T "MessageBank$Line") (hE : z_EC D cy A t0 mi s) (hdg : decode cc pc = .ok (.getstatic 79, 3)) (kk : ∀ t : Nat, va_T .int t 8 (fun j => .int (z_ichI j)) A s s.heap → z_V A (z_hC D cy A t0 u0) p l e R s m args below meth c nL Q k n u (pc + 3) lv (.ref t :: st)) : z_V A (z_hC D cy A t0 u0) p l e R s m args below meth c nL Q k n u pc lv st := fun H locs ls h1 h2 h3 => by
  obtain ⟨-, -, -, -, -, ⟨t, h6, h7⟩, -, -, ⟨-, -, -, -, -, n5, -⟩, -⟩ := hE
  exact va_getsN S.1 S.2.1 h6 h2 S.2.2.2.1 (va_Nw.use rfl n5) (fun _ h => h) hdg (kk t h7 H locs ls h1 h2 h3)
theorem z_cich {t : Nat} {i : Int32} (S : CallFix p m c cc nL s args z_T own) (hT : va_T .int t 8 (fun j => .int (z_ichI j)) A s s.heap) (hin : vp_in i 8) (hdg : decode cc pc = .ok (.iaload, 1)) (kk : z_V A (z_hC D cy A t0 u0) p l e R s m args below meth c nL Q k n u (pc + 1) lv (.int (z_ichI i.toNatClampNeg) :: st)) : z_V A (z_hC D cy A t0 u0) p l e R s m args below meth c nL Q k n u pc lv (.int i :: .ref t :: st) := fun H locs ls h1 h2 h3 => va_ti S.1 S.2.1 hT h2 hin rfl hdg (kk H locs ls h1 h2 h3)
theorem z_cldcM {index : Nat} (S : CallFix p m c cc nL s args z_T own) (hE : z_EC D cy A t0 mi s) (hlink : Cond.classLink own index "[Ljava/lang/Object;" ∈ z_T) (hdg : decode cc pc = .ok (.ldc index, 2)) (kk : z_V A (z_hC D cy A t0 u0) p l e R s m args below meth c nL Q k n u (pc + 2) lv (.ref mi :: st)) : z_V A (z_hC D cy A t0 u0) p l e R s m args below meth c nL Q k n u pc lv st := fun H locs ls h1 h2 h3 => by
  obtain ⟨-, -, -, -, -, -, -, -, -, h11, -⟩ := hE
  exact va_ldcM S.1 S.2.1 S.2.2.2.1 (S.2.2.2.2 _ hlink) h11 hdg (kk H locs ls h1 h2 h3)
theorem z_cgetC {index a : Nat} (S : CallFix p m c cc nL s args z_T own) (hE : z_EC D cy A t0 mi s) (hk : z_kd a u = 15 ∧ 15 ≠ 0) (hlink : Cond.methodLink own index ⟨"java/lang/Object", "getClass", "()Ljava/lang/Class;"⟩ ∈ z_T) (hsel : Cond.selects "[Ljava/lang/Object;" ⟨"java/lang/Object", "getClass", "()Ljava/lang/Class;"⟩ ⟨"java/lang/Object", "getClass", "()Ljava/lang/Class;"⟩ ∈ z_T) (hinst : Cond.instanceMethod ⟨"java/lang/Object", "getClass", "()Ljava/lang/Class;"⟩ ∈ z_T) (hnat : Cond.native ⟨"java/lang/Object", "getClass", "()Ljava/lang/Class;"⟩ ∈ z_T) (hf : 1 ≤ R.frames) (hlo : z_sm st + 14 ≤ R.locals) (hdg : decode cc pc = .ok (.invokevirtual index, 3)) (kk : z_V A (z_hC D cy A t0 u0) p l e R s m args below meth c nL Q k n u (pc + 3) lv (.ref mi :: st)) : z_V A (z_hC D cy A t0 u0) p l e R s m args below meth c nL Q k n u pc lv (.ref a :: st) := fun H locs ls h1 h2 h3 => by
  obtain ⟨hK, -, -, -, -, -, -, -, -, h11, h12⟩ := hE
  have hat := (h1.1 a (by rw [hk.1]; decide) (by rw [hk.1]; decide)).1
  rw [z_cell_q hk.1 (by decide)] at hat
  have hnm := va_nmO (nm := "[Ljava/lang/Object;") (hK.2 6 _ rfl).2 (by decide)
  exact va_getC S.1 S.2.1 (h3.1.trans S.2.2.1.symm).symm S.2.2.2.1 (S.2.2.2.2 _ hlink) (va_Dc.use h12) (S.2.2.2.2 _ hsel) (S.2.2.2.2 _ hinst) (S.2.2.2.2 _ hnat) h11 ⟨_, hat, rfl, hnm⟩ hf hlo hdg (kk H locs ls h1 h2 h3)
theorem z_cnewRb {i : Int32} {κ index : Nat} {C : String} (B : Nat) (S : CallFix p m c cc nL s args z_T own) (hE : z_EC D cy A t0 mi s) (hκ : 10 < κ ∧ κ < 16) (hty : (z_tys cy)[κ - 9]? = some (cy (κ - 9), .object C)) (hcl : Cond.classLink own index C ∈ z_T) (hover : va_AO C s) (hn : ¬ i < 0) (hN : i.toNatClampNeg ≤ B) (hbytes : B * 4 ≤ 536870912) (hcells : k + 1 ≤ R.cells) (hslots : n + B ≤ R.slots) (hdg : decode cc pc = .ok (.anewarray index, 3)) (kk : ∀ a : Nat, z_kd a u = 0 → z_V A (z_hC D cy A t0 u0) p l e R s m args below meth c nL Q (k + 1) (n + B) (z_nA κ a i.toNatClampNeg u) (pc + 3) lv (.ref a :: st)) : z_V A (z_hC D cy A t0 u0) p l e R s m args below meth c nL Q k n u pc lv (.int i :: st) :=
  z_cnewR S hE hκ hty hcl hover hn rfl (by omega) hcells (by omega) hdg (fun a h0 => z_widen (Nat.le_refl _) (by omega) (kk a h0))
theorem z_ccopy {a0 a index : Nat} {sp dp n' : Int32} (S : CallFix p m c cc nL s args z_T own) (hE : z_EC D cy A t0 mi s) (hk0 : z_kd a0 u = 15 ∧ 15 ≠ 0) (hk : z_kd a u = 15 ∧ 15 ≠ 0) (hlink : Cond.methodLink own index arraycopyName ∈ z_T) (hnat : Cond.native arraycopyName ∈ z_T) (hstat : Cond.static arraycopyName ∈ z_T) (hini : Cond.initialized "java/lang/System" ∈ z_T) (g1 : ¬ sp < 0) (g2 : ¬ dp < 0) (g3 : ¬ n' < 0) (g4 : sp.toNatClampNeg + n'.toNatClampNeg ≤ z_ln a0 u) (g5 : dp.toNatClampNeg + n'.toNatClampNeg ≤ z_ln a u) (hel : ∀ i : Nat, i < n'.toNatClampNeg → ∀ y : Nat, z_aR a0 (sp.toNatClampNeg + i) u = some y → z_kd y u = 5) (hf : 1 ≤ R.frames) (hlo : z_sm st + (nativeFrameWords "java/lang/System" "arraycopy" 5 + 11) ≤ R.locals) (hdg : decode cc pc = .ok (.invokestatic index, 3)) (kk : z_V A (z_hC D cy A t0 u0) p l e R s m args below meth c nL Q k n (z_cR a0 a sp.toNatClampNeg dp.toNatClampNeg n'.toNatClampNeg u) (pc + 3) lv st) : z_V A (z_hC D cy A t0 u0) p l e R s m args below meth c nL Q k n u pc lv (.int n' :: .int dp :: .ref a :: .int sp :: .ref a0 :: st) := fun H locs ls h1 h2 h3 => by
  have nn : ∀ z : Int32, ¬ z < 0 → z.toInt = (z.toNatClampNeg : Int) := fun z hz => by
    have hz0 : (0 : Int) ≤ z.toInt := by
      have := Int32.not_lt.mp hz
      simpa using Int32.le_iff_toInt_le.mp this
    show z.toInt = ((z.toInt.toNat : Nat) : Int)
    omega
  have hA := (h1.1 a (by rw [hk.1]; decide) (by rw [hk.1]; decide)).2
  have hat := (h1.1 a (by rw [hk.1]; decide) (by rw [hk.1]; decide)).1
  have hat0 := (h1.1 a0 (by rw [hk0.1]; decide) (by rw [hk0.1]; decide)).1
  rw [z_cell_q hk.1 (by decide)] at hat
  rw [z_cell_q hk0.1 (by decide)] at hat0
  have hty := hE.1.2 6 _ rfl
  have hNW : z_NW s := by
    obtain ⟨-, -, -, -, -, -, -, -, h10, -⟩ := hE
    exact h10
  have hce : ∀ (i : Nat), i < n'.toNatClampNeg → ∀ y : Nat, z_aR a0 (sp.toNatClampNeg + i) u = some y → va_Any "java/lang/Object" s H y := fun i hi y hy => by
    have hky := hel i hi y hy
    have haty := (h1.1 y (by rw [hky]; decide) (by rw [hky]; decide)).1
    rw [z_cell_o hky (by decide)] at haty
    obtain ⟨-, -, -, -, -, -, n6, -⟩ := id hNW
    exact va_rAny (q0 := 0) hE.1 (z_one haty) rfl rfl (vb_asgC n6)
  obtain ⟨-, k0, hk0', cm0, hkk0⟩ := hty.1 (z_ln a0 u) (fun j => va_rf (z_aR a0 j u))
  obtain ⟨-, k1, hk1, cm1, hkk1⟩ := hty.1 (z_ln a u) (fun j => va_rf (z_aR a j u))
  intro T hT X
  obtain ⟨vm', X', step⟩ := X.arraycopy S.1 S.2.2.2.1 (S.2.2.2.2 _ hlink) (S.2.2.2.2 _ hnat) (S.2.2.2.2 _ hstat) (S.2.2.2.2 _ hini) (src := a0) (dst := a) (cs := vp_cell (cy 6) (z_ln a0 u, .inr (.inr (.inr (.inr (fun j => z_aR a0 j u)))))) (cd := vp_cell (cy 6) (z_ln a u, .inr (.inr (.inr (.inr (fun j => z_aR a j u)))))) (srcPos := sp) (destPos := dp) (n := n') (by rw [hT]; exact hat0) (by rw [hT]; exact hat)
    (fun _ h => by cases h) (fun _ h => by cases h) (fun h => by cases h) (fun h => by cases h) hk0' hk1 hkk0 hkk1 rfl g1 g2 g3
    (by rw [nn sp g1, nn n' g3]; show ¬ _ > ((arrV (cy 6) (z_ln a0 u) (fun j => va_rf (z_aR a0 j u))).slots.size : Int); rw [arrV_size]; omega)
    (by rw [nn dp g2, nn n' g3]; show ¬ _ > ((arrV (cy 6) (z_ln a u) (fun j => va_rf (z_aR a j u))).slots.size : Int); rw [arrV_size]; omega)
    (fun vm₁ hal i hi => by
      have e1 : (vp_cell (cy 6) (z_ln a0 u, .inr (.inr (.inr (.inr (fun j => z_aR a0 j u)))))).slots.getD (sp.toNatClampNeg + i) .null = va_rf (z_aR a0 (sp.toNatClampNeg + i) u) := by
        show (arrV (cy 6) (z_ln a0 u) (fun j => va_rf (z_aR a0 j u))).slots.getD _ _ = _
        rw [Array.getD_eq_getD_getElem?, arrV_read _ _ (by omega)]
        rfl
      rw [e1]
      cases hy : z_aR a0 (sp.toNatClampNeg + i) u with
      | none => exact ⟨rfl, trivial⟩
      | some y =>
        obtain ⟨cellV, f1, f2, ⟨kC, hkC⟩, hasg⟩ := hce i hi y hy
        obtain ⟨kA, comp, r1, r2, r3, -⟩ := hty.2
        cases hk1.symm.trans r1
        cases hkk1.symm.trans r2
        obtain ⟨kE, hkE, -⟩ := Vm.findClass_spec r3
        obtain ⟨kC', hkC', -⟩ := hal.2.2 _ _ hkC
        obtain ⟨kE', hkE', -⟩ := hal.2.2 _ _ hkE
        refine ⟨rfl, cellV, (show T.heap[y]? = some cellV by rw [hT]; exact f1), (fun q h => by rw [h] at f2; cases f2), ⟨kC', hkC'⟩, ⟨kE', hkE'⟩, ?_⟩
        show vm₁.assignable _ _ = true
        rw [hal.assignable]
        exact hasg _ r3)
    (g := F0 m pc ls (.int n' :: .int dp :: .ref a :: .int sp :: .ref a0 :: st)) rfl (by rw [S.2.2.1, h3.1]) (rest := st) rfl (by rw [S.2.1]; exact hdg) hf (by show 2 * 0 + _ + _ ≤ _; have := hlo; unfold z_sm at this; omega)
  have ec : copied (vp_cell (cy 6) (z_ln a0 u, .inr (.inr (.inr (.inr (fun j => z_aR a0 j u)))))) (vp_cell (cy 6) (z_ln a u, .inr (.inr (.inr (.inr (fun j => z_aR a j u)))))) sp dp n' = vp_cell (cy 6) (z_ln a u, .inr (.inr (.inr (.inr (va_cpy (fun j => z_aR a0 j u) (fun j => z_aR a j u) sp.toNatClampNeg dp.toNatClampNeg n'.toNatClampNeg))))) := by
    rw [vp_cell_q, vp_cell_q, vp_cell_q]
    exact va_copied (fun z => va_rf z) (cy 6) (cy 6) (fun j => z_aR a0 j u) (fun j => z_aR a j u) g4
  rw [ec] at X' step
  have hl : a < H.size := hat.lt
  have oq : ∀ q : Nat, q ≠ a → (H.setIfInBounds a (vp_cell (cy 6) (z_ln a u, .inr (.inr (.inr (.inr (va_cpy (fun j => z_aR a0 j u) (fun j => z_aR a j u) sp.toNatClampNeg dp.toNatClampNeg n'.toNatClampNeg)))))))[q]? = H[q]? := fun q hq => by simp [Array.getElem?_setIfInBounds, Ne.symm hq]
  obtain ⟨t, b1, b2⟩ := kk _ _ ls (h1.put a (fun _ => rfl) (fun _ => rfl) (fun b hb => z_cell_cR hb) (by
      rw [z_cell_q (u := z_cR a0 a sp.toNatClampNeg dp.toNatClampNeg n'.toNatClampNeg u) hk.1 (by decide)]
      have ee : (fun j => z_aR a j (z_cR a0 a sp.toNatClampNeg dp.toNatClampNeg n'.toNatClampNeg u)) = va_cpy (fun j => z_aR a0 j u) (fun j => z_aR a j u) sp.toNatClampNeg dp.toNatClampNeg n'.toNatClampNeg := funext fun j => if_pos rfl
      rw [ee]
      show (H.setIfInBounds a _)[a]? = some _
      simp [Array.getElem?_setIfInBounds, hl]
      rfl) oq) ⟨by simp; exact h2.1, fun q f1 f2 => by
      rw [oq q (fun e0 => f2 (by rw [e0]; exact hA))]
      exact h2.2.1 q f1 f2, fun q hq => by
      rcases List.mem_append.mp hq with h | h
      · exact h2.2.2 q h
      · obtain ⟨z, -, hz⟩ := List.mem_map.mp h
        rw [← hz]
        exact hA⟩ h3 _ (show ((T.setVm vm').setCell a _).heap = _ by rw [← hT]; rfl) X'
  exact ⟨t, step t b1, b2⟩
end ZC
end
section
def z_ownN (own : String) (ic : Nat) (X : String) (ix : Nat) (bx : ByteArray) (Y0 : String) (names : List String) : List Cond :=
  Bundle.throwableAtoms ++ Bundle.throwableSAtoms ++ (Bundle.passSAtoms X Y0 ix bx ++ Bundle.chainSAtoms Y0 names) ++
  [.methodLink own ic (Bundle.initS X), .instantiable X 6, .castable X X, .selects X Bundle.tFill0 Bundle.tFill0, .selects X Bundle.tFill Bundle.tFill,
   .lays X Bundle.tN "cause" "Ljava/lang/Throwable;", .lays X Bundle.tN "stackTrace" Bundle.steD, .lays X Bundle.tN "suppressedExceptions" Bundle.listD, .lays X Bundle.tN "detailMessage" "Ljava/lang/String;",
   .isRef (.static Bundle.tN "UNASSIGNED_STACK" Bundle.steD), .isRef (.static Bundle.tN "SUPPRESSED_SENTINEL" Bundle.listD),
   .fieldLink Bundle.tN 198 Bundle.tN "backtrace" "Ljava/lang/Object;", .lays Bundle.tN Bundle.tN "backtrace" "Ljava/lang/Object;", .lays X Bundle.tN "backtrace" "Ljava/lang/Object;"]
def z_atN (own : String) (ic : Nat) (X : String) (ix : Nat) (bx : ByteArray) (Y0 : String) (names : List String) : List Cond := (z_ownN own ic X ix bx Y0 names).filter vx_no
section ZN
variable {p : Program} {l : Launch} {e : Env} {R : Room} {s : State} {m₀ : MethodId} {args : Array Value} {below : List Frame} {meth : Method} {c : Code} {W : State} {locs : List Loc} {cells slots : Nat}
set_option maxHeartbeats 1000000 in
theorem z_ctorThrowN (X : Stand p l e R s m₀ args below meth c W locs cells slots) (hexec : p.tables.exec = Jvm.exec) (htr : e.platform.stackTraces = false) {own cls Y0 : String} {names : List String} {ic ix : Nat} {bx : ByteArray} (b0 : decode bx 0 = .ok (.aload_n 0, 1)) (b1 : decode bx 1 = .ok (.aload_n 1, 1)) (b2 : decode bx 2 = .ok (.invokespecial ix, 3)) (b5 : decode bx 5 = .ok (.return_, 1)) (hY0 : Bundle.fit Y0 = true)
    (hown : s.vm.findClass own = some m₀.cls) (hcls : Bundle.fit cls = true) (hnames : ∀ n ∈ names, Bundle.fit n = true)
    (h : ∀ a ∈ z_ownN own ic cls ix bx Y0 names, a.before args s = true)
    (hlocs : ∀ x ∈ locs, ∀ cell, s.heap[x.base]? = some cell → cell.vm.isStatics = false)
    {a : Addr} {cX : ClassId} {kX : Class} (hfoundX : s.vm.findClass cls = some cX) (hkX : s.vm.classes[cX]? = some kX) (hcell : W.heap[a]? = some (freshCell cX kX)) (hnew : s.heap.size ≤ a)
    {msg : Value} (hmsg : msg.isRef = true)
    {g : JFrame} (hg : g.method = m₀) (hsize : g.locals.size = c.maxLocals) (hlocked : g.locked = none) (hentered : g.entered = []) {rest : List Value} (hstack : g.stack = msg :: .ref a :: .ref a :: rest)
    (hd6 : decode c.code g.pc = .ok (.invokespecial ic, 3)) (hd9 : decode c.code (g.pc + 3) = .ok (.athrow, 1)) (hout : ∀ x ∈ c.exceptionTable.toList, covers x (g.pc + 3) = false)
    (hRframes : names.length + 4 < R.frames) (hRlocals : 2 * g.monitorRoom + ((Value.ref a :: rest).map fun v => v.category).sum + (13 * (names.length + 2) + 42) ≤ R.locals) (hlocks : meth.locks = false := by first | assumption | exact BodyLoose.notSynchronized (by assumption) | exact Body.notSynchronized (by assumption)) :
    ∃ U : State, Steps p.tables e below (W.setTop g) U ∧ U.status = .running ∧ Ended U below (.threw a) ∧ s.WarmedH U.vm ∧ s.sameButNew ({ U with vm := s.vm } : State) locs cells slots ∧
      ∃ ce, U.heap[a]? = some ce ∧ Bundle.OwnCell args s cls a msg ce := by
  have howns : e.platform.frameOwnsMonitors = true := by rw [X.admits.platform]
  have hfin : e.platform.finalization = false := by rw [X.admits.platform]
  have hpl : e.platform.magicAccessors = ({} : Platform).magicAccessors := by rw [X.admits.platform]
  have a' : ∀ x, x ∈ z_ownN own ic cls ix bx Y0 names → x.holds args s none s [] = true := fun x hx => h x hx
  obtain ⟨T, Z0, L, -, Y⟩ := ThrowableC.of_atoms (args := args) howns hfin hpl (fun x hx => h x (by simp [z_ownN, hx]))
  obtain ⟨Z, M, LZ, LM, hnZ⟩ := Init0T.ofS_atoms (args := args) hpl L Y (fun x hx => h x (by simp [z_ownN, hx]))
  obtain ⟨P1, L1, hP1m, hP1s⟩ := PassC.ofS_atoms (args := args) (s := s) hpl (X := cls) (Y := Y0) (Bundle.fit_spec hcls).1 (Bundle.fit_spec hY0).2 b0 b1 b2 b5 (fun x hx => h x (by simp [z_ownN, hx]))
  obtain ⟨P2, Ps, hlen, L2, hL0, hP2m, hlink1', hlink'⟩ := Bundle.chainS (args := args) hpl hnZ names Y0 hY0 hnames (fun x hx => h x (by simp [z_ownN, hx]))
  have hP12 : P1.sup = P2.m := Option.some.inj (hP1s.symm.trans hP2m)
              
  have hfound : s.vm.findClass cls = some P1.m.cls := findClass_of_methodNamed hP1m
  cases Option.some.inj (hfoundX.symm.trans hfound)
  obtain ⟨c1, kX', hc1, hk, hord, -, -, hn6⟩ := Cond.instantiable_spec (a' (.instantiable cls 6) (by simp [z_ownN]))
  cases Option.some.inj (hc1.symm.trans hfound)
  cases Option.some.inj (hkX.symm.trans hk)
  have hsel0 : selectMethod e.platform s.vm P1.m.cls T.fill0 = .method T.fill0 := by
    obtain ⟨c2, r2, m2, q1, q2, q3, q4, -⟩ := Cond.selects_spec (a' (.selects cls Bundle.tFill0 Bundle.tFill0) (by simp [z_ownN]))
    cases Option.some.inj (q1.symm.trans hfound)
    cases Option.some.inj (q2.symm.trans (State.methodFound?_of_named Y.fill0 (by decide)))
    cases Option.some.inj (q3.symm.trans Y.fill0)
    rw [Launch.admits_selectMethod X.admits]; exact q4
  have hselF : selectMethod e.platform s.vm P1.m.cls T.fill = .method T.fill := by
    obtain ⟨c2, r2, m2, q1, q2, q3, q4, -⟩ := Cond.selects_spec (a' (.selects cls Bundle.tFill Bundle.tFill) (by simp [z_ownN]))
    cases Option.some.inj (q1.symm.trans hfound)
    cases Option.some.inj (q2.symm.trans (State.methodFound?_of_named Y.fill (by decide)))
    cases Option.some.inj (q3.symm.trans Y.fill)
    rw [Launch.admits_selectMethod X.admits]; exact q4
  obtain ⟨cellS0, hcS0, hiss⟩ := Y.statics
  obtain ⟨u0, hu0⟩ := Cond.staticRefV Y.unassigned L.unassignedStatic L.statics hcS0 hiss (a' (.isRef (.static Bundle.tN "UNASSIGNED_STACK" Bundle.steD)) (by simp [z_ownN]))
  obtain ⟨sen, hsen⟩ := Cond.staticRefV Y.sentinel L.sentinelStatic L.statics hcS0 hiss (a' (.isRef (.static Bundle.tN "SUPPRESSED_SENTINEL" Bundle.listD)) (by simp [z_ownN]))
  obtain ⟨ci198, i198, fB, hk198, hg198, ha198, hsB, -, hnB, htB, hffB⟩ := Cond.ownField (t := .object "java/lang/Object") Y.found L.cls (by decide +kernel) (a' (.fieldLink Bundle.tN 198 Bundle.tN "backtrace" "Ljava/lang/Object;") (by simp [z_ownN])) (a' (.lays Bundle.tN Bundle.tN "backtrace" "Ljava/lang/Object;") (by simp [z_ownN])) e.platform hpl
  obtain ⟨cellS, hcS', heS, -, hkeep⟩ := X.same.2.2.2.2.2 T.aS cellS0 hcS0
  have hcellS : W.heap[T.aS]? = some cellS := hcS'
  have hout' : ∀ i, (⟨T.aS, i⟩ : Loc) ∉ locs := fun i hmem => by
    have := hlocs _ hmem cellS0 hcS0
    rw [hiss] at this; cases this
  have hknownS : cellS.vm ≠ .unknown := by
    rw [heS]; intro hu
    rw [show cellS0.vm = .unknown from hu] at hiss
    cases hiss
  have hneS : T.aS ≠ a := Nat.ne_of_lt (Nat.lt_of_lt_of_le (Array.getElem?_eq_some_iff.mp hcS0).1 hnew)
  obtain ⟨iM, hffM⟩ := Y.msg
  obtain ⟨tyC, dC, hdC, hdnC⟩ := Cond.laysAt hfound hk Y.cause (a' (.lays cls Bundle.tN "cause" "Ljava/lang/Throwable;") (by simp [z_ownN]))
  obtain ⟨tyS, dS, hdS, hdnS⟩ := Cond.laysAt hfound hk Y.stack (a' (.lays cls Bundle.tN "stackTrace" Bundle.steD) (by simp [z_ownN]))
  obtain ⟨tyP, dP, hdP, hdnP⟩ := Cond.laysAt hfound hk Y.supp (a' (.lays cls Bundle.tN "suppressedExceptions" Bundle.listD) (by simp [z_ownN]))
  obtain ⟨tyM, dM, hdM, hdnM⟩ := Cond.laysAt hfound hk hffM (a' (.lays cls Bundle.tN "detailMessage" "Ljava/lang/String;") (by simp [z_ownN]))
  obtain ⟨tyB, dB, hdB, hdnB⟩ := Cond.laysAt hfound hk hffB (a' (.lays cls Bundle.tN "backtrace" "Ljava/lang/Object;") (by simp [z_ownN]))
  have bC := Cond.laysApart hdB hdC hdnB hdnC (by rw [hnB, Y.causeName]; decide)
  have bS := Cond.laysApart hdB hdS hdnB hdnS (by rw [hnB, Y.stackName]; decide)
  have bP := Cond.laysApart hdB hdP hdnB hdnP (by rw [hnB, Y.suppName]; decide)
  have hskip : SkipFacts T e.platform s (fun u => u) u0 ((preparedCellV T.toThrowableT (freshCell P1.m.cls kX) a u0 sen).withEntry W.cur) :=
    ⟨{ ci198 := ci198, i198 := i198, fBack := fB }, ⟨hk198, hg198, ha198, hsB⟩, by
      have := fresh_default (c := P1.m.cls) tyB
      rw [htB] at this
      simpa [preparedCellV, Cell.setSlot, Cell.withEntry, Array.getElem?_setIfInBounds, bC, bS, bP, bC.symm, bS.symm, bP.symm, defaultValue] using this, fun _ _ => rfl⟩
                                     
  obtain ⟨tm, methC, cdC, kC, vm₁, hnC, -, -, -, -, -, -, -, hW₁, st1⟩ := Steps.initColdS (tb := p.tables) (e := e) (below := below) (s := s) (U := W) X.here hexec X.warmed hpl hown (t := Bundle.initS cls) rfl rfl (Bundle.fit_spec hcls).2
    (a' (.methodLink own ic (Bundle.initS cls)) (by simp [z_ownN])) (h (.instanceMethod (Bundle.initS cls)) (by simp [z_ownN, Bundle.passSAtoms])) (bytes := bx) (maxL := 2) (h (.code (Bundle.initS cls) bx 2 none) (by simp [z_ownN, Bundle.passSAtoms]))
    (f := g) hg (a := a) (msg := msg) (rest := .ref a :: rest) hstack hd6
  cases Option.some.inj (hnC.symm.trans hP1m)
  have X₁ := X.noted hW₁
                                 
  obtain ⟨vm₂, X₂, st2⟩ := X₁.ctorMessageOffV hexec (g := { g with stack := .ref a :: rest }) hg hsize T L Z LZ M LM (P1 :: P2 :: Ps)
    (fun P hP => by rcases List.mem_cons.mp hP with rfl | hP; exact L1; rcases List.mem_cons.mp hP with rfl | hP; exact L2; exact hL0 P hP) ⟨hP12, hlink1', hlink'⟩ (u0 := u0) (sen := sen) (self := a) hmsg (cell := freshCell P1.m.cls kX) (cellS := cellS)
    hcell (fun _ => by simp) (by simp) rfl rfl hsel0 hselF hcellS hneS hknownS (by rw [hkeep _ (hout' _)]; exact hu0) (by rw [hkeep _ (hout' _)]; exact hsen)
    (Takes.of_laid hk hord tyC (by rw [Y.causeType]; rfl)) (Takes.of_laid hk hord tyS (by rw [Y.stackType]; exact fits_refV_array _ u0)) (Takes.of_laid hk hord tyP (by rw [Y.suppType]; exact fits_refV_object _ sen))
    (Takes.of_laid hk hord tyM (by rw [Y.msgType]; exact fits_refV_object _ ⟨msg, hmsg⟩)) Y.objLocals hskip htr [] hd6
    (by simp only [List.length_cons, hlen]; omega) (by simp only [List.length_cons, hlen]; exact hRlocals)
                                    
  obtain ⟨hwalk, hrun, hended, hWU, hsame⟩ := X₂.athrowLeaves hexec (g := { g with stack := .ref a :: rest, pc := g.pc + 3 }) hg hlocked hentered hout (a := a) (rest := rest) rfl hd9
  obtain ⟨c3, c4, hc3, hc4, hasg⟩ := Cond.castable_spec (a' (.castable cls cls) (by simp [z_ownN]))
  cases Option.some.inj (hc3.symm.trans hfound)
  cases Option.some.inj (hc4.symm.trans hfound)
  have hlt : a < ((W.setVm vm₁).setVm vm₂).heap.size := (Array.getElem?_eq_some_iff.mp hcell).1
  have hU := heapAt_setCell_self (s := (W.setVm vm₁).setVm vm₂) (plainBareV T.toThrowableT (freshCell P1.m.cls kX) a u0 sen msg) hlt
  have hnM : T.fMsg.name = "detailMessage" := (State.fieldFound?_type hffM (t := .object "java/lang/String") (by decide +kernel)).1
  have nCS := Cond.laysApart hdC hdS hdnC hdnS (by rw [Y.causeName, Y.stackName]; decide)
  have nCP := Cond.laysApart hdC hdP hdnC hdnP (by rw [Y.causeName, Y.suppName]; decide)
  have nCM := Cond.laysApart hdC hdM hdnC hdnM (by rw [Y.causeName, hnM]; decide)
  have nSP := Cond.laysApart hdS hdP hdnS hdnP (by rw [Y.stackName, Y.suppName]; decide)
  have nSM := Cond.laysApart hdS hdM hdnS hdnM (by rw [Y.stackName, hnM]; decide)
  have nPM := Cond.laysApart hdP hdM hdnP hdnM (by rw [Y.suppName, hnM]; decide)
  have lC : T.fCause.slot < kX.instanceTypes.size := (Array.getElem?_eq_some_iff.mp tyC).1
  have lS : T.fStack.slot < kX.instanceTypes.size := (Array.getElem?_eq_some_iff.mp tyS).1
  have lP : T.fSupp.slot < kX.instanceTypes.size := (Array.getElem?_eq_some_iff.mp tyP).1
  have lM : T.fMsg.slot < kX.instanceTypes.size := (Array.getElem?_eq_some_iff.mp tyM).1
  have evU : ∀ o, (Term.static Bundle.tN "UNASSIGNED_STACK" Bundle.steD).eval args s o [] s = some u0.v := by
    intro o
    simp [Term.eval, State.fieldNamed?, Y.unassigned, L.unassignedStatic, L.statics, hcS0, hiss, hu0]
  have evS : ∀ o, (Term.static Bundle.tN "SUPPRESSED_SENTINEL" Bundle.listD).eval args s o [] s = some sen.v := by
    intro o
    simp [Term.eval, State.fieldNamed?, Y.sentinel, L.sentinelStatic, L.statics, hcS0, hiss, hsen]
  refine ⟨_, st1 _ (fun acts => ?_), hrun, hended, hWU, hsame.weaken (fun y hy hlt' => ?_) (Nat.le_refl _) (Nat.le_refl _), _, hU, ?_⟩
  · rw [doInvoke_state]
    exact st2 _ hwalk
  · rcases List.mem_append.mp hy with h1 | h1
    · exact h1
    · exfalso
      have hb : y.base = a := by
        simp only [List.mem_cons, List.not_mem_nil, or_false] at h1
        rcases h1 with rfl | rfl | rfl | rfl | rfl <;> rfl
      rw [hb] at hlt'
      exact Nat.not_lt.mpr hnew hlt'
  · exact { cls := hfound, self := hasg, monitor := rfl, hash := rfl, vm := rfl, size := by simp [plainBareV, preparedCellV, Cell.setSlot, hn6]
            cause := ⟨_, _, _, _, Y.cause, by simp [plainBareV, preparedCellV, Cell.setSlot, nCS.symm, nCP.symm, nCM.symm, lC]⟩
            stack := ⟨_, _, _, _, u0, Y.stack, by simp [plainBareV, preparedCellV, Cell.setSlot, nSM.symm, lS], evU⟩
            supp := ⟨_, _, _, _, sen, Y.supp, by simp [plainBareV, preparedCellV, Cell.setSlot, nSP, nPM.symm, lP], evS⟩
            msg := ⟨_, _, _, _, hffM, by simp [plainBareV, preparedCellV, Cell.setSlot, lM]⟩
            other := fun O f d c k i fd hf hy n1 n2 n3 n4 => by
              obtain ⟨ty, dd, hdd, hddn⟩ := Cond.laysAt hfound hk hf hy
              have m1 := Cond.laysApart hdd hdC hddn hdnC (by rw [Y.causeName]; exact n1)
              have m2 := Cond.laysApart hdd hdS hddn hdnS (by rw [Y.stackName]; exact n2)
              have m3 := Cond.laysApart hdd hdP hddn hdnP (by rw [Y.suppName]; exact n3)
              have m4 := Cond.laysApart hdd hdM hddn hdnM (by rw [hnM]; exact n4)
              have := fresh_default (c := P1.m.cls) ty
              simpa [plainBareV, preparedCellV, Cell.setSlot, Array.getElem?_setIfInBounds, m1, m2, m3, m4, m1.symm, m2.symm, m3.symm, m4.symm] using this }
end ZN
section ZN2
variable {p : Program} {l : Launch} {e : Env} {R : Room} {s : State} {m : MethodId} {args : Array Value} {below : List Frame} {meth : Method} {c : Code} {H : Heap} {locs : List Loc} {cells slots : Nat} {Q : State → Prop}
variable {mc ms : Nat} {free : Addr → Prop} {A0 A1 : Nat → Prop} {H0 : Heap} {a : Array Value} {ls : Array Slot} {st0 rest : List Value}
variable {Qc : Array Value → State → Outcome → State → Prop} {XC : String → State → State → Prop}
theorem z_throwN {cc : ByteArray} {pc : Nat} (hexec : p.tables.exec = Jvm.exec) (hb : c.code = cc) (hl : l.stackTraces = false) {own cls Y0 text : String} {names : List String} {ik is ic ix mc ms sa : Nat} {bx : ByteArray} (b0 : decode bx 0 = .ok (.aload_n 0, 1)) (b1 : decode bx 1 = .ok (.aload_n 1, 1)) (b2 : decode bx 2 = .ok (.invokespecial ix, 3)) (b5 : decode bx 5 = .ok (.return_, 1)) (hY0 : Bundle.fit Y0 = true) {A : Nat → Prop}
    (hown : s.vm.findClass own = some m.cls) (hcls : Bundle.fit cls = true) (hnames : ∀ n ∈ names, Bundle.fit n = true)
    (hk : (Cond.classLink own ik cls).before args s = true) (hini : (Cond.initialized cls).before args s = true) (hstr : vk_R own is text sa s) (hat : ∀ w ∈ z_atN own ic cls ix bx Y0 names, w.before args s = true)
    (hgood : ∀ w ∈ Cond.classLink own ik cls :: Cond.initialized cls :: z_atN own ic cls ix bx Y0 names, vx_ot w = true)
    (hU : vx_Zq Bundle.tN "UNASSIGNED_STACK" Bundle.steD A s s.heap) (hN : vx_Zq Bundle.tN "SUPPRESSED_SENTINEL" Bundle.listD A s s.heap) (hS : va_S A s.heap H locs) (hsize : ls.size = c.maxLocals)
    (d0 : decode cc pc = .ok (.new ik, 3)) (d3 : decode cc (pc + 3) = .ok (.dup, 1)) (d4 : decode cc (pc + 4) = .ok (.ldc is, 2)) (d6 : decode cc (pc + 6) = .ok (.invokespecial ic, 3)) (d9 : decode cc (pc + 9) = .ok (.athrow, 1))
    (hout : ∀ x ∈ c.exceptionTable.toList, covers x (pc + 9) = false)
    (hRframes : names.length + 4 < R.frames) (hRlocals : (rest.map fun v => v.category).sum + (13 * (names.length + 2) + 43) ≤ R.locals) (hRcells : cells + 1 ≤ R.cells) (hRslots : slots + 6 ≤ R.slots) (hlocks : meth.locks = false)
    (hx : ∀ t : State, s.vm.Alike t.vm → H.size ≤ t.heap.size → (∀ q : Nat, q < H.size → t.heap[q]? = H[q]?) → XC cls s t)
    (hf : ∀ z ∈ locs, free z.base) (hc : cells + 1 ≤ mc) (hs : slots + 6 ≤ ms) :
    W p l e R s m args below meth c H locs cells slots (vx_MQ below Qc XC args s mc ms free) (F0 m pc ls rest) := by
  intro T hT X
  have htr : e.platform.stackTraces = false := (show e.platform.stackTraces = l.stackTraces by rw [X.admits.platform]).trans hl
  have Y := vx_rebase X (R' := { frames := R.frames, locals := R.locals, cells := 1, slots := 6 }) (Nat.le_refl _) (Nat.le_refl _) hRcells hRslots
  obtain ⟨s', hA⟩ : ∃ z, z = (T.setVm s.vm).setFrames (.invoking m args :: below) := ⟨_, rfl⟩
  rw [← hA] at Y
  have hvm : s'.vm = s.vm := by rw [hA]; rfl
  have hhp : s'.heap = H := by rw [hA]; exact hT
  have hW0 : s.WarmedH s'.vm := by rw [hvm]; exact State.WarmedH.refl s
  have hat' : ∀ w ∈ z_atN own ic cls ix bx Y0 names, w.before args s' = true := fun w hw => vx_ot_at hW0 hvm.symm (hgood w (List.mem_cons_of_mem _ (List.mem_cons_of_mem _ hw))) (hat w hw)
  have hk' : (Cond.classLink own ik cls).before args s' = true := vx_ot_at hW0 hvm.symm (hgood _ List.mem_cons_self) hk
  have hini' : (Cond.initialized cls).before args s' = true := vx_ot_at hW0 hvm.symm (hgood _ (List.mem_cons_of_mem _ List.mem_cons_self)) hini
  have hU' : vx_Zq Bundle.tN "UNASSIGNED_STACK" Bundle.steD A s' s'.heap := by rw [hhp]; exact vx_Zq.moved hW0.alike (hU.kept hS.2.1)
  have hN' : vx_Zq Bundle.tN "SUPPRESSED_SENTINEL" Bundle.listD A s' s'.heap := by rw [hhp]; exact vx_Zq.moved hW0.alike (hN.kept hS.2.1)
  have h : ∀ w ∈ z_ownN own ic cls ix bx Y0 names, w.before args s' = true := vx_own hat' (vx_isRefq hU'.1) (vx_isRefq hN'.1) hU'.2.word hN'.2.word
  have hown' : s'.vm.findClass own = some m.cls := by rw [hvm]; exact hown
  have hins : (Cond.instantiable cls 6).before args s' = true := h _ (by simp [z_ownN])
  obtain ⟨vm₁, cX, kX, hfX, hkX, -, -, X₁, st1⟩ := Y.newCold hexec (own := own) (C := cls) (index := ik) (n := 6) hown' hk' hins hini'
    (g := F0 m pc ls rest) rfl (by rw [hb]; exact d0) (Nat.le_refl _) (Nat.le_refl _)
  generalize hT1 : (T.setVm vm₁).pushCell { cls := cX, slots := kX.instanceTypes.map defaultValue, vm := .none } = T1 at X₁ st1
  have hcat : (Value.ref T.heap.size).category = 1 := rfl
  have hcellA : T1.heap[T.heap.size]? = some (freshCell cX kX) := by rw [← hT1]; exact State.heap_pushCell_size _ _
  have d3' : decode c.code (pc + 3) = .ok (.dup, 1) := by rw [hb]; exact d3
  have d4' : decode c.code (pc + 4) = .ok (.ldc is, 2) := by rw [hb]; exact d4
  have hstr' : vk_R own is text sa s' := vk_R.warm hW0 hstr
  obtain ⟨U, hsteps, hrun, hend, hW, hsame, ce, hce, hO⟩ := z_ctorThrowN X₁ hexec htr b0 b1 b2 b5 hY0 (own := own) (cls := cls) (names := names) (ic := ic) hown' hcls hnames h (fun x hx => nomatch hx) hfX hkX hcellA (by rw [hhp, hT]; exact Nat.le_refl _) (msg := .ref sa) rfl
    (g := { method := m, pc := pc + 6, locals := ls, stack := .ref sa :: .ref T.heap.size :: .ref T.heap.size :: rest, locked := none }) rfl hsize rfl rfl (rest := rest) rfl
    (by rw [hb]; exact d6) (by rw [hb]; exact d9) hout hRframes (by simp only [List.map_cons, List.sum_cons, hcat]; omega) hlocks
  obtain ⟨f1, f2⟩ := vx_frame hsame
  rw [hhp] at f1 f2
  have hWs : s.WarmedH U.vm := State.WarmedH.trans hW0 hW
  have hcl : s.vm.findClass cls = some ce.cls := by
    have h9 := hO.cls
    rw [hvm] at h9
    exact h9
  have hall : s.sameButNew ({ U with vm := s.vm } : State) locs mc ms := by
    subst hA
    obtain ⟨e1, e2⟩ := hsame
    rw [State.setFrames_setFrames] at e1
    have h2 : (T.setVm s.vm).sameButNew ({ U with vm := s.vm } : State) [] (0 + 1) (0 + 6) := ⟨e1, e2⟩
    have h3 := X.same.trans h2
    rw [List.append_nil] at h3
    exact h3.mono hc hs
  refine ⟨U, ?_, .threw T.heap.size, hrun, hend, Or.inr ⟨T.heap.size, rfl, cls, ce, locs, hx U hWs.alike f1 (fun q hq => f2 q hq (fun z hz => nomatch hz)), hce, hO.vm, hcl, hWs, hall, hf⟩⟩
  refine st1 _ ?_
  show Steps p.tables e below (T1.setTop { method := m, pc := pc + 3, locals := ls, stack := .ref T.heap.size :: rest, locked := none }) _
  jvm_step X₁.here [X₁.here.top, hexec, d3', Value.category]
  exact X₁.ldcString hexec (own := own) (text := text) (index := is) (a := sa) hown' hstr'.1 hstr'.2
    (g := { method := m, pc := pc + 4, locals := ls, stack := .ref T.heap.size :: .ref T.heap.size :: rest, locked := none }) rfl d4' _ hsteps
end ZN2
section ZN3
variable {p : Program} {l : Launch} {e : Env} {R : Room} {s : State} {m : MethodId} {args : Array Value} {below : List Frame} {meth : Method} {c : Code} {Q : State → Prop} {cc : ByteArray} {nL : Nat} {own : String} {A : Nat → Prop} {k n : Nat} {pc : Nat} {lv : List (Nat × Value)} {st : List Value} {D : va_G} {cy : Nat → ClassId} {t0 mi : Nat} {u0 u : z_St}
theorem zx_throwN {cls Y0 text : String} {names : List String} {ik is ic ix mc ms : Nat} {bx : ByteArray} {px : String → z_St → Prop} {Qc : Array Value → State → Outcome → State → Prop} (S : CallFix p m c cc nL s args z_T "MessageBank") (hE : z_EC D cy A t0 mi s) (hl : l.stackTraces = false) (htb : ∀ x ∈ c.exceptionTable.toList, False) (hlk : meth.locks = false) (b0 : decode bx 0 = .ok (.aload_n 0, 1)) (b1 : decode bx 1 = .ok (.aload_n 1, 1)) (b2 : decode bx 2 = .ok (.invokespecial ix, 3)) (b5 : decode bx 5 = .ok (.return_, 1)) (hY0 : Bundle.fit Y0 = true) (hcls : Bundle.fit cls = true) (hnames : ∀ n ∈ names, Bundle.fit n = true) (hk : Cond.classLink "MessageBank" ik cls ∈ z_T) (hini : Cond.initialized cls ∈ z_T) (hstr : (is, text) ∈ z_strs) (hat1 : ∀ w ∈ (z_atN "MessageBank" ic cls ix bx Y0 names).filter goodWord, w ∈ z_T) (hat2 : ∀ w ∈ (z_atN "MessageBank" ic cls ix bx Y0 names).filter (fun w => !goodWord w), w ∈ zx_B) (hgood : ∀ w ∈ Cond.classLink "MessageBank" ik cls :: Cond.initialized cls :: z_atN "MessageBank" ic cls ix bx Y0 names, vx_ot w = true)
    (d0 : decode cc pc = .ok (.new ik, 3)) (d3 : decode cc (pc + 3) = .ok (.dup, 1)) (d4 : decode cc (pc + 4) = .ok (.ldc is, 2)) (d6 : decode cc (pc + 6) = .ok (.invokespecial ic, 3)) (d9 : decode cc (pc + 9) = .ok (.athrow, 1)) (hRf : names.length + 4 < R.frames) (hRl : z_sm st + (13 * (names.length + 2) + 43) ≤ R.locals) (hRc : k + 1 ≤ R.cells) (hRs : n + 6 ≤ R.slots) (hc : k + 1 ≤ mc) (hs : n + 6 ≤ ms) (hpx : px cls u) : z_V A (z_hC D cy A t0 u0) p l e R s m args below meth c nL (vx_MQ below Qc (zx_X px (z_hC D cy A t0 u0) A) args s mc ms A) k n u pc lv st := fun H locs ls h1 h2 h3 => by
  obtain ⟨g1, g2, hU, hN, g5, -, -, -, g10, -⟩ := hE
  obtain ⟨sa, hsa⟩ := g5 _ hstr
  exact z_throwN (A := A) (own := "MessageBank") S.1 S.2.1 hl b0 b1 b2 b5 hY0 S.2.2.2.1 hcls hnames (S.2.2.2.2 _ hk) (S.2.2.2.2 _ hini) hsa (vx_hat (fun w hw => S.2.2.2.2 _ (hat1 w hw)) hat2 (zx_Bof g10 args)) hgood hU hN h2 (h3.1.trans S.2.2.1.symm) d0 d3 d4 d6 d9 (fun x hx => (htb x hx).elim) hRf hRl hRc hRs hlk (fun t ha hsz hk2 => ⟨u, trivial, ⟨hpx, h1.kept (fun q hq _ => hk2 q hq)⟩, ⟨Nat.le_trans h2.1 hsz, fun q hq hqA => (hk2 q (Nat.lt_of_lt_of_le hq h2.1)).trans (h2.2.1 q hq hqA)⟩⟩) h2.2.2 hc hs
end ZN3
end
