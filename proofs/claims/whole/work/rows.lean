section
-- ===== PART A: goes FIRST, ahead of the names: the tables' words, and 'selects' of the private methods out of them =====
/-- a private method of a class that the tables say can be made, by its rows of tables_1 -/
def lw_okq (q : MethodName × Nat) : Prop := (q.1.cls ≠ "java/lang/invoke/MethodHandle" ∧ q.1.cls ≠ "java/lang/invoke/VarHandle") ∧ Cond.instantiable q.1.cls q.2 ∈ tables_1 ∧ Cond.privateMethod q.1 ∈ tables_1 ∧ Cond.instanceMethod q.1 ∈ tables_1
theorem lw_p0 : lw_okq (⟨"BlockCross$Tape", "hasRoom", "()Z"⟩, 2) := ⟨⟨by decide +kernel, by decide +kernel⟩, List.mem_of_getElem? (i := 29) (by decide +kernel), List.mem_of_getElem? (i := 251) (by decide +kernel), List.mem_of_getElem? (i := 252) (by decide +kernel)⟩
theorem lw_p1 : lw_okq (⟨"BlockCross$Tape", "put", "(I)V"⟩, 2) := ⟨⟨by decide +kernel, by decide +kernel⟩, List.mem_of_getElem? (i := 29) (by decide +kernel), List.mem_of_getElem? (i := 255) (by decide +kernel), List.mem_of_getElem? (i := 256) (by decide +kernel)⟩
theorem lw_p2 : lw_okq (⟨"BlockCross$Reader", "read", "(LBlockCross$Desk;)I"⟩, 7) := ⟨⟨by decide +kernel, by decide +kernel⟩, List.mem_of_getElem? (i := 45) (by decide +kernel), List.mem_of_getElem? (i := 267) (by decide +kernel), List.mem_of_getElem? (i := 268) (by decide +kernel)⟩
theorem lw_p3 : lw_okq (⟨"BlockCross$Desk", "clear", "()V"⟩, 15) := ⟨⟨by decide +kernel, by decide +kernel⟩, List.mem_of_getElem? (i := 75) (by decide +kernel), List.mem_of_getElem? (i := 271) (by decide +kernel), List.mem_of_getElem? (i := 272) (by decide +kernel)⟩
theorem lw_p4 : lw_okq (⟨"BlockCross$Reader", "scan", "()V"⟩, 7) := ⟨⟨by decide +kernel, by decide +kernel⟩, List.mem_of_getElem? (i := 45) (by decide +kernel), List.mem_of_getElem? (i := 275) (by decide +kernel), List.mem_of_getElem? (i := 276) (by decide +kernel)⟩
theorem lw_p5 : lw_okq (⟨"BlockCross$Tape", "byteAt", "(I)I"⟩, 2) := ⟨⟨by decide +kernel, by decide +kernel⟩, List.mem_of_getElem? (i := 29) (by decide +kernel), List.mem_of_getElem? (i := 282) (by decide +kernel), List.mem_of_getElem? (i := 283) (by decide +kernel)⟩
theorem lw_p6 : lw_okq (⟨"BlockCross$Reader", "scanName", "()V"⟩, 7) := ⟨⟨by decide +kernel, by decide +kernel⟩, List.mem_of_getElem? (i := 45) (by decide +kernel), List.mem_of_getElem? (i := 289) (by decide +kernel), List.mem_of_getElem? (i := 290) (by decide +kernel)⟩
theorem lw_p7 : lw_okq (⟨"BlockCross$Reader", "readMid", "(LBlockCross$Desk;)Z"⟩, 7) := ⟨⟨by decide +kernel, by decide +kernel⟩, List.mem_of_getElem? (i := 45) (by decide +kernel), List.mem_of_getElem? (i := 299) (by decide +kernel), List.mem_of_getElem? (i := 300) (by decide +kernel)⟩
theorem lw_p8 : lw_okq (⟨"BlockCross$Reader", "spells", "(Ljava/lang/String;)Z"⟩, 7) := ⟨⟨by decide +kernel, by decide +kernel⟩, List.mem_of_getElem? (i := 45) (by decide +kernel), List.mem_of_getElem? (i := 304) (by decide +kernel), List.mem_of_getElem? (i := 305) (by decide +kernel)⟩
theorem lw_p9 : lw_okq (⟨"BlockCross$Reader", "refuse", "(I)Z"⟩, 7) := ⟨⟨by decide +kernel, by decide +kernel⟩, List.mem_of_getElem? (i := 45) (by decide +kernel), List.mem_of_getElem? (i := 356) (by decide +kernel), List.mem_of_getElem? (i := 357) (by decide +kernel)⟩
theorem lw_p10 : lw_okq (⟨"BlockCross$Reader", "readNumber", "(II)Z"⟩, 7) := ⟨⟨by decide +kernel, by decide +kernel⟩, List.mem_of_getElem? (i := 45) (by decide +kernel), List.mem_of_getElem? (i := 360) (by decide +kernel), List.mem_of_getElem? (i := 361) (by decide +kernel)⟩
theorem lw_p11 : lw_okq (⟨"BlockCross$Reader", "readSign", "()Z"⟩, 7) := ⟨⟨by decide +kernel, by decide +kernel⟩, List.mem_of_getElem? (i := 45) (by decide +kernel), List.mem_of_getElem? (i := 364) (by decide +kernel), List.mem_of_getElem? (i := 365) (by decide +kernel)⟩
theorem lw_p12 : lw_okq (⟨"BlockCross$Reader", "readOrder", "(LBlockCross$Desk;)Z"⟩, 7) := ⟨⟨by decide +kernel, by decide +kernel⟩, List.mem_of_getElem? (i := 45) (by decide +kernel), List.mem_of_getElem? (i := 368) (by decide +kernel), List.mem_of_getElem? (i := 369) (by decide +kernel)⟩
theorem lw_p13 : lw_okq (⟨"BlockCross$Desk", "add", "(IIIII)V"⟩, 15) := ⟨⟨by decide +kernel, by decide +kernel⟩, List.mem_of_getElem? (i := 75) (by decide +kernel), List.mem_of_getElem? (i := 374) (by decide +kernel), List.mem_of_getElem? (i := 375) (by decide +kernel)⟩
theorem lw_p14 : lw_okq (⟨"BlockCross$Desk", "copy", "(LBlockCross$Desk;)V"⟩, 15) := ⟨⟨by decide +kernel, by decide +kernel⟩, List.mem_of_getElem? (i := 75) (by decide +kernel), List.mem_of_getElem? (i := 378) (by decide +kernel), List.mem_of_getElem? (i := 379) (by decide +kernel)⟩
theorem lw_p15 : lw_okq (⟨"BlockCross$Past", "forget", "()V"⟩, 3) := ⟨⟨by decide +kernel, by decide +kernel⟩, List.mem_of_getElem? (i := 208) (by decide +kernel), List.mem_of_getElem? (i := 385) (by decide +kernel), List.mem_of_getElem? (i := 386) (by decide +kernel)⟩
def lw_privs_1 : List (MethodName × Nat) := [(⟨"BlockCross$Tape", "hasRoom", "()Z"⟩, 2), (⟨"BlockCross$Tape", "put", "(I)V"⟩, 2), (⟨"BlockCross$Reader", "read", "(LBlockCross$Desk;)I"⟩, 7), (⟨"BlockCross$Desk", "clear", "()V"⟩, 15), (⟨"BlockCross$Reader", "scan", "()V"⟩, 7), (⟨"BlockCross$Tape", "byteAt", "(I)I"⟩, 2), (⟨"BlockCross$Reader", "scanName", "()V"⟩, 7), (⟨"BlockCross$Reader", "readMid", "(LBlockCross$Desk;)Z"⟩, 7), (⟨"BlockCross$Reader", "spells", "(Ljava/lang/String;)Z"⟩, 7), (⟨"BlockCross$Reader", "refuse", "(I)Z"⟩, 7), (⟨"BlockCross$Reader", "readNumber", "(II)Z"⟩, 7), (⟨"BlockCross$Reader", "readSign", "()Z"⟩, 7), (⟨"BlockCross$Reader", "readOrder", "(LBlockCross$Desk;)Z"⟩, 7), (⟨"BlockCross$Desk", "add", "(IIIII)V"⟩, 15), (⟨"BlockCross$Desk", "copy", "(LBlockCross$Desk;)V"⟩, 15), (⟨"BlockCross$Past", "forget", "()V"⟩, 3)]
theorem lw_r1 : ∀ q ∈ lw_privs_1, lw_okq q := List.forall_mem_cons.mpr ⟨lw_p0, List.forall_mem_cons.mpr ⟨lw_p1, List.forall_mem_cons.mpr ⟨lw_p2, List.forall_mem_cons.mpr ⟨lw_p3, List.forall_mem_cons.mpr ⟨lw_p4, List.forall_mem_cons.mpr ⟨lw_p5, List.forall_mem_cons.mpr ⟨lw_p6, List.forall_mem_cons.mpr ⟨lw_p7, List.forall_mem_cons.mpr ⟨lw_p8, List.forall_mem_cons.mpr ⟨lw_p9, List.forall_mem_cons.mpr ⟨lw_p10, List.forall_mem_cons.mpr ⟨lw_p11, List.forall_mem_cons.mpr ⟨lw_p12, List.forall_mem_cons.mpr ⟨lw_p13, List.forall_mem_cons.mpr ⟨lw_p14, List.forall_mem_cons.mpr ⟨lw_p15, fun _ h => absurd h List.not_mem_nil⟩⟩⟩⟩⟩⟩⟩⟩⟩⟩⟩⟩⟩⟩⟩⟩
theorem lw_p16 : lw_okq (⟨"BlockCross$Desk", "openOrders", "()I"⟩, 15) := ⟨⟨by decide +kernel, by decide +kernel⟩, List.mem_of_getElem? (i := 75) (by decide +kernel), List.mem_of_getElem? (i := 398) (by decide +kernel), List.mem_of_getElem? (i := 399) (by decide +kernel)⟩
theorem lw_p17 : lw_okq (⟨"BlockCross$Desk", "isOpen", "(I)Z"⟩, 15) := ⟨⟨by decide +kernel, by decide +kernel⟩, List.mem_of_getElem? (i := 75) (by decide +kernel), List.mem_of_getElem? (i := 402) (by decide +kernel), List.mem_of_getElem? (i := 403) (by decide +kernel)⟩
theorem lw_p18 : lw_okq (⟨"BlockCross$Desk", "has", "(I)Z"⟩, 15) := ⟨⟨by decide +kernel, by decide +kernel⟩, List.mem_of_getElem? (i := 75) (by decide +kernel), List.mem_of_getElem? (i := 406) (by decide +kernel), List.mem_of_getElem? (i := 407) (by decide +kernel)⟩
theorem lw_p19 : lw_okq (⟨"BlockCross$Desk", "openAhead", "(I)I"⟩, 15) := ⟨⟨by decide +kernel, by decide +kernel⟩, List.mem_of_getElem? (i := 75) (by decide +kernel), List.mem_of_getElem? (i := 415) (by decide +kernel), List.mem_of_getElem? (i := 416) (by decide +kernel)⟩
theorem lw_p20 : lw_okq (⟨"BlockCross$Desk", "isAhead", "(II)Z"⟩, 15) := ⟨⟨by decide +kernel, by decide +kernel⟩, List.mem_of_getElem? (i := 75) (by decide +kernel), List.mem_of_getElem? (i := 419) (by decide +kernel), List.mem_of_getElem? (i := 420) (by decide +kernel)⟩
theorem lw_p21 : lw_okq (⟨"BlockCross$Desk", "willingOrders", "(I)I"⟩, 15) := ⟨⟨by decide +kernel, by decide +kernel⟩, List.mem_of_getElem? (i := 75) (by decide +kernel), List.mem_of_getElem? (i := 430) (by decide +kernel), List.mem_of_getElem? (i := 431) (by decide +kernel)⟩
theorem lw_p22 : lw_okq (⟨"BlockCross$Desk", "isWilling", "(II)Z"⟩, 15) := ⟨⟨by decide +kernel, by decide +kernel⟩, List.mem_of_getElem? (i := 75) (by decide +kernel), List.mem_of_getElem? (i := 434) (by decide +kernel), List.mem_of_getElem? (i := 435) (by decide +kernel)⟩
theorem lw_p23 : lw_okq (⟨"BlockCross$Cross", "choose", "(II)V"⟩, 10) := ⟨⟨by decide +kernel, by decide +kernel⟩, List.mem_of_getElem? (i := 149) (by decide +kernel), List.mem_of_getElem? (i := 438) (by decide +kernel), List.mem_of_getElem? (i := 439) (by decide +kernel)⟩
theorem lw_p24 : lw_okq (⟨"BlockCross$Cross", "arrange", "(I)V"⟩, 10) := ⟨⟨by decide +kernel, by decide +kernel⟩, List.mem_of_getElem? (i := 149) (by decide +kernel), List.mem_of_getElem? (i := 442) (by decide +kernel), List.mem_of_getElem? (i := 443) (by decide +kernel)⟩
theorem lw_p25 : lw_okq (⟨"BlockCross$Sums", "clear", "()V"⟩, 4) := ⟨⟨by decide +kernel, by decide +kernel⟩, List.mem_of_getElem? (i := 155) (by decide +kernel), List.mem_of_getElem? (i := 450) (by decide +kernel), List.mem_of_getElem? (i := 451) (by decide +kernel)⟩
theorem lw_p26 : lw_okq (⟨"BlockCross$Cross", "addSize", "(II)V"⟩, 10) := ⟨⟨by decide +kernel, by decide +kernel⟩, List.mem_of_getElem? (i := 149) (by decide +kernel), List.mem_of_getElem? (i := 454) (by decide +kernel), List.mem_of_getElem? (i := 455) (by decide +kernel)⟩
theorem lw_p27 : lw_okq (⟨"BlockCross$Sums", "addHigh", "(III)V"⟩, 4) := ⟨⟨by decide +kernel, by decide +kernel⟩, List.mem_of_getElem? (i := 155) (by decide +kernel), List.mem_of_getElem? (i := 459) (by decide +kernel), List.mem_of_getElem? (i := 460) (by decide +kernel)⟩
theorem lw_p28 : lw_okq (⟨"BlockCross$Cross", "descend", "(II)V"⟩, 10) := ⟨⟨by decide +kernel, by decide +kernel⟩, List.mem_of_getElem? (i := 149) (by decide +kernel), List.mem_of_getElem? (i := 466) (by decide +kernel), List.mem_of_getElem? (i := 467) (by decide +kernel)⟩
theorem lw_p29 : lw_okq (⟨"BlockCross$Sums", "most", "()I"⟩, 4) := ⟨⟨by decide +kernel, by decide +kernel⟩, List.mem_of_getElem? (i := 155) (by decide +kernel), List.mem_of_getElem? (i := 470) (by decide +kernel), List.mem_of_getElem? (i := 471) (by decide +kernel)⟩
theorem lw_p30 : lw_okq (⟨"BlockCross$Cross", "addLeast", "(II)V"⟩, 10) := ⟨⟨by decide +kernel, by decide +kernel⟩, List.mem_of_getElem? (i := 149) (by decide +kernel), List.mem_of_getElem? (i := 478) (by decide +kernel), List.mem_of_getElem? (i := 479) (by decide +kernel)⟩
theorem lw_p31 : lw_okq (⟨"BlockCross$Cross", "leastOf", "(I)I"⟩, 10) := ⟨⟨by decide +kernel, by decide +kernel⟩, List.mem_of_getElem? (i := 149) (by decide +kernel), List.mem_of_getElem? (i := 482) (by decide +kernel), List.mem_of_getElem? (i := 483) (by decide +kernel)⟩
def lw_privs_2 : List (MethodName × Nat) := [(⟨"BlockCross$Desk", "openOrders", "()I"⟩, 15), (⟨"BlockCross$Desk", "isOpen", "(I)Z"⟩, 15), (⟨"BlockCross$Desk", "has", "(I)Z"⟩, 15), (⟨"BlockCross$Desk", "openAhead", "(I)I"⟩, 15), (⟨"BlockCross$Desk", "isAhead", "(II)Z"⟩, 15), (⟨"BlockCross$Desk", "willingOrders", "(I)I"⟩, 15), (⟨"BlockCross$Desk", "isWilling", "(II)Z"⟩, 15), (⟨"BlockCross$Cross", "choose", "(II)V"⟩, 10), (⟨"BlockCross$Cross", "arrange", "(I)V"⟩, 10), (⟨"BlockCross$Sums", "clear", "()V"⟩, 4), (⟨"BlockCross$Cross", "addSize", "(II)V"⟩, 10), (⟨"BlockCross$Sums", "addHigh", "(III)V"⟩, 4), (⟨"BlockCross$Cross", "descend", "(II)V"⟩, 10), (⟨"BlockCross$Sums", "most", "()I"⟩, 4), (⟨"BlockCross$Cross", "addLeast", "(II)V"⟩, 10), (⟨"BlockCross$Cross", "leastOf", "(I)I"⟩, 10)]
theorem lw_r2 : ∀ q ∈ lw_privs_2, lw_okq q := List.forall_mem_cons.mpr ⟨lw_p16, List.forall_mem_cons.mpr ⟨lw_p17, List.forall_mem_cons.mpr ⟨lw_p18, List.forall_mem_cons.mpr ⟨lw_p19, List.forall_mem_cons.mpr ⟨lw_p20, List.forall_mem_cons.mpr ⟨lw_p21, List.forall_mem_cons.mpr ⟨lw_p22, List.forall_mem_cons.mpr ⟨lw_p23, List.forall_mem_cons.mpr ⟨lw_p24, List.forall_mem_cons.mpr ⟨lw_p25, List.forall_mem_cons.mpr ⟨lw_p26, List.forall_mem_cons.mpr ⟨lw_p27, List.forall_mem_cons.mpr ⟨lw_p28, List.forall_mem_cons.mpr ⟨lw_p29, List.forall_mem_cons.mpr ⟨lw_p30, List.forall_mem_cons.mpr ⟨lw_p31, fun _ h => absurd h List.not_mem_nil⟩⟩⟩⟩⟩⟩⟩⟩⟩⟩⟩⟩⟩⟩⟩⟩
theorem lw_p32 : lw_okq (⟨"BlockCross$Sums", "addLow", "(III)V"⟩, 4) := ⟨⟨by decide +kernel, by decide +kernel⟩, List.mem_of_getElem? (i := 155) (by decide +kernel), List.mem_of_getElem? (i := 486) (by decide +kernel), List.mem_of_getElem? (i := 487) (by decide +kernel)⟩
theorem lw_p33 : lw_okq (⟨"BlockCross$Cross", "share", "()V"⟩, 10) := ⟨⟨by decide +kernel, by decide +kernel⟩, List.mem_of_getElem? (i := 149) (by decide +kernel), List.mem_of_getElem? (i := 495) (by decide +kernel), List.mem_of_getElem? (i := 496) (by decide +kernel)⟩
theorem lw_p34 : lw_okq (⟨"BlockCross$Cross", "gather", "(I)V"⟩, 10) := ⟨⟨by decide +kernel, by decide +kernel⟩, List.mem_of_getElem? (i := 149) (by decide +kernel), List.mem_of_getElem? (i := 499) (by decide +kernel), List.mem_of_getElem? (i := 500) (by decide +kernel)⟩
theorem lw_p35 : lw_okq (⟨"BlockCross$Sums", "spare", "(III)I"⟩, 4) := ⟨⟨by decide +kernel, by decide +kernel⟩, List.mem_of_getElem? (i := 155) (by decide +kernel), List.mem_of_getElem? (i := 503) (by decide +kernel), List.mem_of_getElem? (i := 504) (by decide +kernel)⟩
theorem lw_p36 : lw_okq (⟨"BlockCross$Desk", "sizeAcross", "(I)I"⟩, 15) := ⟨⟨by decide +kernel, by decide +kernel⟩, List.mem_of_getElem? (i := 75) (by decide +kernel), List.mem_of_getElem? (i := 513) (by decide +kernel), List.mem_of_getElem? (i := 514) (by decide +kernel)⟩
theorem lw_p37 : lw_okq (⟨"BlockCross$Cross", "mostOf", "(I)I"⟩, 10) := ⟨⟨by decide +kernel, by decide +kernel⟩, List.mem_of_getElem? (i := 149) (by decide +kernel), List.mem_of_getElem? (i := 522) (by decide +kernel), List.mem_of_getElem? (i := 523) (by decide +kernel)⟩
theorem lw_p38 : lw_okq (⟨"BlockCross", "volumeAt", "(I)I"⟩, 6) := ⟨⟨by decide +kernel, by decide +kernel⟩, List.mem_of_getElem? (i := 21) (by decide +kernel), List.mem_of_getElem? (i := 530) (by decide +kernel), List.mem_of_getElem? (i := 531) (by decide +kernel)⟩
theorem lw_p39 : lw_okq (⟨"BlockCross$Cross", "suppose", "(II)V"⟩, 10) := ⟨⟨by decide +kernel, by decide +kernel⟩, List.mem_of_getElem? (i := 149) (by decide +kernel), List.mem_of_getElem? (i := 538) (by decide +kernel), List.mem_of_getElem? (i := 539) (by decide +kernel)⟩
theorem lw_p40 : lw_okq (⟨"BlockCross$Past", "keep", "(LBlockCross$Desk;)V"⟩, 3) := ⟨⟨by decide +kernel, by decide +kernel⟩, List.mem_of_getElem? (i := 208) (by decide +kernel), List.mem_of_getElem? (i := 560) (by decide +kernel), List.mem_of_getElem? (i := 561) (by decide +kernel)⟩
theorem lw_p41 : lw_okq (⟨"BlockCross", "change", "([III)I"⟩, 6) := ⟨⟨by decide +kernel, by decide +kernel⟩, List.mem_of_getElem? (i := 21) (by decide +kernel), List.mem_of_getElem? (i := 575) (by decide +kernel), List.mem_of_getElem? (i := 576) (by decide +kernel)⟩
theorem lw_p42 : lw_okq (⟨"BlockCross$Desk", "trade", "(I[II)V"⟩, 15) := ⟨⟨by decide +kernel, by decide +kernel⟩, List.mem_of_getElem? (i := 75) (by decide +kernel), List.mem_of_getElem? (i := 587) (by decide +kernel), List.mem_of_getElem? (i := 588) (by decide +kernel)⟩
theorem lw_p43 : lw_okq (⟨"BlockCross$Desk", "firmsOf", "(II)I"⟩, 15) := ⟨⟨by decide +kernel, by decide +kernel⟩, List.mem_of_getElem? (i := 75) (by decide +kernel), List.mem_of_getElem? (i := 591) (by decide +kernel), List.mem_of_getElem? (i := 592) (by decide +kernel)⟩
theorem lw_p44 : lw_okq (⟨"BlockCross$Past", "restore", "(LBlockCross$Desk;)Z"⟩, 3) := ⟨⟨by decide +kernel, by decide +kernel⟩, List.mem_of_getElem? (i := 208) (by decide +kernel), List.mem_of_getElem? (i := 601) (by decide +kernel), List.mem_of_getElem? (i := 602) (by decide +kernel)⟩
theorem lw_p45 : lw_okq (⟨"java/lang/Throwable", "fillInStackTrace", "(I)Ljava/lang/Throwable;"⟩, 6) := ⟨⟨by decide +kernel, by decide +kernel⟩, List.mem_of_getElem? (i := 649) (by decide +kernel), List.mem_of_getElem? (i := 647) (by decide +kernel), List.mem_of_getElem? (i := 648) (by decide +kernel)⟩
theorem lw_p46 : lw_okq (⟨"BlockCrossModel", "lays", "(I)V"⟩, 28) := ⟨⟨by decide +kernel, by decide +kernel⟩, List.mem_of_getElem? (i := 684) (by decide +kernel), List.mem_of_getElem? (i := 682) (by decide +kernel), List.mem_of_getElem? (i := 683) (by decide +kernel)⟩
theorem lw_p47 : lw_okq (⟨"BlockCrossModel", "go", "()V"⟩, 28) := ⟨⟨by decide +kernel, by decide +kernel⟩, List.mem_of_getElem? (i := 684) (by decide +kernel), List.mem_of_getElem? (i := 788) (by decide +kernel), List.mem_of_getElem? (i := 789) (by decide +kernel)⟩
def lw_privs_3 : List (MethodName × Nat) := [(⟨"BlockCross$Sums", "addLow", "(III)V"⟩, 4), (⟨"BlockCross$Cross", "share", "()V"⟩, 10), (⟨"BlockCross$Cross", "gather", "(I)V"⟩, 10), (⟨"BlockCross$Sums", "spare", "(III)I"⟩, 4), (⟨"BlockCross$Desk", "sizeAcross", "(I)I"⟩, 15), (⟨"BlockCross$Cross", "mostOf", "(I)I"⟩, 10), (⟨"BlockCross", "volumeAt", "(I)I"⟩, 6), (⟨"BlockCross$Cross", "suppose", "(II)V"⟩, 10), (⟨"BlockCross$Past", "keep", "(LBlockCross$Desk;)V"⟩, 3), (⟨"BlockCross", "change", "([III)I"⟩, 6), (⟨"BlockCross$Desk", "trade", "(I[II)V"⟩, 15), (⟨"BlockCross$Desk", "firmsOf", "(II)I"⟩, 15), (⟨"BlockCross$Past", "restore", "(LBlockCross$Desk;)Z"⟩, 3), (⟨"java/lang/Throwable", "fillInStackTrace", "(I)Ljava/lang/Throwable;"⟩, 6), (⟨"BlockCrossModel", "lays", "(I)V"⟩, 28), (⟨"BlockCrossModel", "go", "()V"⟩, 28)]
theorem lw_r3 : ∀ q ∈ lw_privs_3, lw_okq q := List.forall_mem_cons.mpr ⟨lw_p32, List.forall_mem_cons.mpr ⟨lw_p33, List.forall_mem_cons.mpr ⟨lw_p34, List.forall_mem_cons.mpr ⟨lw_p35, List.forall_mem_cons.mpr ⟨lw_p36, List.forall_mem_cons.mpr ⟨lw_p37, List.forall_mem_cons.mpr ⟨lw_p38, List.forall_mem_cons.mpr ⟨lw_p39, List.forall_mem_cons.mpr ⟨lw_p40, List.forall_mem_cons.mpr ⟨lw_p41, List.forall_mem_cons.mpr ⟨lw_p42, List.forall_mem_cons.mpr ⟨lw_p43, List.forall_mem_cons.mpr ⟨lw_p44, List.forall_mem_cons.mpr ⟨lw_p45, List.forall_mem_cons.mpr ⟨lw_p46, List.forall_mem_cons.mpr ⟨lw_p47, fun _ h => absurd h List.not_mem_nil⟩⟩⟩⟩⟩⟩⟩⟩⟩⟩⟩⟩⟩⟩⟩⟩
theorem lw_p48 : lw_okq (⟨"BlockCrossModel", "tapeAt", "(I)I"⟩, 28) := ⟨⟨by decide +kernel, by decide +kernel⟩, List.mem_of_getElem? (i := 684) (by decide +kernel), List.mem_of_getElem? (i := 798) (by decide +kernel), List.mem_of_getElem? (i := 799) (by decide +kernel)⟩
theorem lw_p49 : lw_okq (⟨"BlockCrossModel", "readLine", "(Z)Z"⟩, 28) := ⟨⟨by decide +kernel, by decide +kernel⟩, List.mem_of_getElem? (i := 684) (by decide +kernel), List.mem_of_getElem? (i := 804) (by decide +kernel), List.mem_of_getElem? (i := 805) (by decide +kernel)⟩
theorem lw_p50 : lw_okq (⟨"BlockCrossModel", "is", "(IIII)Z"⟩, 28) := ⟨⟨by decide +kernel, by decide +kernel⟩, List.mem_of_getElem? (i := 684) (by decide +kernel), List.mem_of_getElem? (i := 808) (by decide +kernel), List.mem_of_getElem? (i := 809) (by decide +kernel)⟩
theorem lw_p51 : lw_okq (⟨"BlockCrossModel", "readMid", "()Z"⟩, 28) := ⟨⟨by decide +kernel, by decide +kernel⟩, List.mem_of_getElem? (i := 684) (by decide +kernel), List.mem_of_getElem? (i := 812) (by decide +kernel), List.mem_of_getElem? (i := 813) (by decide +kernel)⟩
theorem lw_p52 : lw_okq (⟨"BlockCrossModel", "told", "(III)Z"⟩, 28) := ⟨⟨by decide +kernel, by decide +kernel⟩, List.mem_of_getElem? (i := 684) (by decide +kernel), List.mem_of_getElem? (i := 816) (by decide +kernel), List.mem_of_getElem? (i := 817) (by decide +kernel)⟩
theorem lw_p53 : lw_okq (⟨"BlockCrossModel", "bad", "(I)Z"⟩, 28) := ⟨⟨by decide +kernel, by decide +kernel⟩, List.mem_of_getElem? (i := 684) (by decide +kernel), List.mem_of_getElem? (i := 820) (by decide +kernel), List.mem_of_getElem? (i := 821) (by decide +kernel)⟩
theorem lw_p54 : lw_okq (⟨"BlockCrossModel", "readOrder", "(Z)Z"⟩, 28) := ⟨⟨by decide +kernel, by decide +kernel⟩, List.mem_of_getElem? (i := 684) (by decide +kernel), List.mem_of_getElem? (i := 827) (by decide +kernel), List.mem_of_getElem? (i := 828) (by decide +kernel)⟩
theorem lw_p55 : lw_okq (⟨"BlockCrossModel", "readEnd", "()Z"⟩, 28) := ⟨⟨by decide +kernel, by decide +kernel⟩, List.mem_of_getElem? (i := 684) (by decide +kernel), List.mem_of_getElem? (i := 831) (by decide +kernel), List.mem_of_getElem? (i := 832) (by decide +kernel)⟩
theorem lw_p56 : lw_okq (⟨"BlockCrossModel", "openSet", "()I"⟩, 28) := ⟨⟨by decide +kernel, by decide +kernel⟩, List.mem_of_getElem? (i := 684) (by decide +kernel), List.mem_of_getElem? (i := 843) (by decide +kernel), List.mem_of_getElem? (i := 844) (by decide +kernel)⟩
theorem lw_p57 : lw_okq (⟨"BlockCrossModel", "isOpen", "(I)Z"⟩, 28) := ⟨⟨by decide +kernel, by decide +kernel⟩, List.mem_of_getElem? (i := 684) (by decide +kernel), List.mem_of_getElem? (i := 847) (by decide +kernel), List.mem_of_getElem? (i := 848) (by decide +kernel)⟩
theorem lw_p58 : lw_okq (⟨"BlockCrossModel", "isOrder", "(I)Z"⟩, 28) := ⟨⟨by decide +kernel, by decide +kernel⟩, List.mem_of_getElem? (i := 684) (by decide +kernel), List.mem_of_getElem? (i := 851) (by decide +kernel), List.mem_of_getElem? (i := 852) (by decide +kernel)⟩
theorem lw_p59 : lw_okq (⟨"BlockCrossModel", "its", "(II)I"⟩, 28) := ⟨⟨by decide +kernel, by decide +kernel⟩, List.mem_of_getElem? (i := 684) (by decide +kernel), List.mem_of_getElem? (i := 855) (by decide +kernel), List.mem_of_getElem? (i := 856) (by decide +kernel)⟩
theorem lw_p60 : lw_okq (⟨"BlockCrossModel", "refuse", "()I"⟩, 28) := ⟨⟨by decide +kernel, by decide +kernel⟩, List.mem_of_getElem? (i := 684) (by decide +kernel), List.mem_of_getElem? (i := 863) (by decide +kernel), List.mem_of_getElem? (i := 864) (by decide +kernel)⟩
theorem lw_p61 : lw_okq (⟨"BlockCrossModel", "isWilling", "(II)Z"⟩, 28) := ⟨⟨by decide +kernel, by decide +kernel⟩, List.mem_of_getElem? (i := 684) (by decide +kernel), List.mem_of_getElem? (i := 867) (by decide +kernel), List.mem_of_getElem? (i := 868) (by decide +kernel)⟩
theorem lw_p62 : lw_okq (⟨"BlockCrossModel", "laysRanks", "()V"⟩, 28) := ⟨⟨by decide +kernel, by decide +kernel⟩, List.mem_of_getElem? (i := 684) (by decide +kernel), List.mem_of_getElem? (i := 875) (by decide +kernel), List.mem_of_getElem? (i := 876) (by decide +kernel)⟩
theorem lw_p63 : lw_okq (⟨"BlockCrossModel", "isAhead", "(II)Z"⟩, 28) := ⟨⟨by decide +kernel, by decide +kernel⟩, List.mem_of_getElem? (i := 684) (by decide +kernel), List.mem_of_getElem? (i := 879) (by decide +kernel), List.mem_of_getElem? (i := 880) (by decide +kernel)⟩
def lw_privs_4 : List (MethodName × Nat) := [(⟨"BlockCrossModel", "tapeAt", "(I)I"⟩, 28), (⟨"BlockCrossModel", "readLine", "(Z)Z"⟩, 28), (⟨"BlockCrossModel", "is", "(IIII)Z"⟩, 28), (⟨"BlockCrossModel", "readMid", "()Z"⟩, 28), (⟨"BlockCrossModel", "told", "(III)Z"⟩, 28), (⟨"BlockCrossModel", "bad", "(I)Z"⟩, 28), (⟨"BlockCrossModel", "readOrder", "(Z)Z"⟩, 28), (⟨"BlockCrossModel", "readEnd", "()Z"⟩, 28), (⟨"BlockCrossModel", "openSet", "()I"⟩, 28), (⟨"BlockCrossModel", "isOpen", "(I)Z"⟩, 28), (⟨"BlockCrossModel", "isOrder", "(I)Z"⟩, 28), (⟨"BlockCrossModel", "its", "(II)I"⟩, 28), (⟨"BlockCrossModel", "refuse", "()I"⟩, 28), (⟨"BlockCrossModel", "isWilling", "(II)Z"⟩, 28), (⟨"BlockCrossModel", "laysRanks", "()V"⟩, 28), (⟨"BlockCrossModel", "isAhead", "(II)Z"⟩, 28)]
theorem lw_r4 : ∀ q ∈ lw_privs_4, lw_okq q := List.forall_mem_cons.mpr ⟨lw_p48, List.forall_mem_cons.mpr ⟨lw_p49, List.forall_mem_cons.mpr ⟨lw_p50, List.forall_mem_cons.mpr ⟨lw_p51, List.forall_mem_cons.mpr ⟨lw_p52, List.forall_mem_cons.mpr ⟨lw_p53, List.forall_mem_cons.mpr ⟨lw_p54, List.forall_mem_cons.mpr ⟨lw_p55, List.forall_mem_cons.mpr ⟨lw_p56, List.forall_mem_cons.mpr ⟨lw_p57, List.forall_mem_cons.mpr ⟨lw_p58, List.forall_mem_cons.mpr ⟨lw_p59, List.forall_mem_cons.mpr ⟨lw_p60, List.forall_mem_cons.mpr ⟨lw_p61, List.forall_mem_cons.mpr ⟨lw_p62, List.forall_mem_cons.mpr ⟨lw_p63, fun _ h => absurd h List.not_mem_nil⟩⟩⟩⟩⟩⟩⟩⟩⟩⟩⟩⟩⟩⟩⟩⟩
theorem lw_p64 : lw_okq (⟨"BlockCrossModel", "laysBounds", "()V"⟩, 28) := ⟨⟨by decide +kernel, by decide +kernel⟩, List.mem_of_getElem? (i := 684) (by decide +kernel), List.mem_of_getElem? (i := 887) (by decide +kernel), List.mem_of_getElem? (i := 888) (by decide +kernel)⟩
theorem lw_p65 : lw_okq (⟨"BlockCrossModel", "laysChosen", "(II)V"⟩, 28) := ⟨⟨by decide +kernel, by decide +kernel⟩, List.mem_of_getElem? (i := 684) (by decide +kernel), List.mem_of_getElem? (i := 891) (by decide +kernel), List.mem_of_getElem? (i := 892) (by decide +kernel)⟩
theorem lw_p66 : lw_okq (⟨"BlockCrossModel", "laysVolumes", "(I)Z"⟩, 28) := ⟨⟨by decide +kernel, by decide +kernel⟩, List.mem_of_getElem? (i := 684) (by decide +kernel), List.mem_of_getElem? (i := 898) (by decide +kernel), List.mem_of_getElem? (i := 899) (by decide +kernel)⟩
theorem lw_p67 : lw_okq (⟨"BlockCrossModel", "laysFills", "()V"⟩, 28) := ⟨⟨by decide +kernel, by decide +kernel⟩, List.mem_of_getElem? (i := 684) (by decide +kernel), List.mem_of_getElem? (i := 909) (by decide +kernel), List.mem_of_getElem? (i := 910) (by decide +kernel)⟩
theorem lw_p68 : lw_okq (⟨"BlockCrossModel", "choosesNow", "()V"⟩, 28) := ⟨⟨by decide +kernel, by decide +kernel⟩, List.mem_of_getElem? (i := 684) (by decide +kernel), List.mem_of_getElem? (i := 913) (by decide +kernel), List.mem_of_getElem? (i := 914) (by decide +kernel)⟩
theorem lw_p69 : lw_okq (⟨"BlockCrossModel", "isOther", "(II)Z"⟩, 28) := ⟨⟨by decide +kernel, by decide +kernel⟩, List.mem_of_getElem? (i := 684) (by decide +kernel), List.mem_of_getElem? (i := 921) (by decide +kernel), List.mem_of_getElem? (i := 922) (by decide +kernel)⟩
theorem lw_p70 : lw_okq (⟨"BlockCrossModel", "canTrade", "(I)Z"⟩, 28) := ⟨⟨by decide +kernel, by decide +kernel⟩, List.mem_of_getElem? (i := 684) (by decide +kernel), List.mem_of_getElem? (i := 925) (by decide +kernel), List.mem_of_getElem? (i := 926) (by decide +kernel)⟩
theorem lw_p71 : lw_okq (⟨"BlockCrossModel", "snap", "()V"⟩, 28) := ⟨⟨by decide +kernel, by decide +kernel⟩, List.mem_of_getElem? (i := 684) (by decide +kernel), List.mem_of_getElem? (i := 953) (by decide +kernel), List.mem_of_getElem? (i := 954) (by decide +kernel)⟩
theorem lw_p72 : lw_okq (⟨"BlockCrossModel", "becomes", "(II)I"⟩, 28) := ⟨⟨by decide +kernel, by decide +kernel⟩, List.mem_of_getElem? (i := 684) (by decide +kernel), List.mem_of_getElem? (i := 965) (by decide +kernel), List.mem_of_getElem? (i := 966) (by decide +kernel)⟩
theorem lw_p73 : lw_okq (⟨"BlockCrossModel", "leaksOf", "(I)I"⟩, 28) := ⟨⟨by decide +kernel, by decide +kernel⟩, List.mem_of_getElem? (i := 684) (by decide +kernel), List.mem_of_getElem? (i := 977) (by decide +kernel), List.mem_of_getElem? (i := 978) (by decide +kernel)⟩
def lw_privs_5 : List (MethodName × Nat) := [(⟨"BlockCrossModel", "laysBounds", "()V"⟩, 28), (⟨"BlockCrossModel", "laysChosen", "(II)V"⟩, 28), (⟨"BlockCrossModel", "laysVolumes", "(I)Z"⟩, 28), (⟨"BlockCrossModel", "laysFills", "()V"⟩, 28), (⟨"BlockCrossModel", "choosesNow", "()V"⟩, 28), (⟨"BlockCrossModel", "isOther", "(II)Z"⟩, 28), (⟨"BlockCrossModel", "canTrade", "(I)Z"⟩, 28), (⟨"BlockCrossModel", "snap", "()V"⟩, 28), (⟨"BlockCrossModel", "becomes", "(II)I"⟩, 28), (⟨"BlockCrossModel", "leaksOf", "(I)I"⟩, 28)]
theorem lw_r5 : ∀ q ∈ lw_privs_5, lw_okq q := List.forall_mem_cons.mpr ⟨lw_p64, List.forall_mem_cons.mpr ⟨lw_p65, List.forall_mem_cons.mpr ⟨lw_p66, List.forall_mem_cons.mpr ⟨lw_p67, List.forall_mem_cons.mpr ⟨lw_p68, List.forall_mem_cons.mpr ⟨lw_p69, List.forall_mem_cons.mpr ⟨lw_p70, List.forall_mem_cons.mpr ⟨lw_p71, List.forall_mem_cons.mpr ⟨lw_p72, List.forall_mem_cons.mpr ⟨lw_p73, fun _ h => absurd h List.not_mem_nil⟩⟩⟩⟩⟩⟩⟩⟩⟩⟩
def lw_privs : List (MethodName × Nat) := lw_privs_1 ++ (lw_privs_2 ++ (lw_privs_3 ++ (lw_privs_4 ++ (lw_privs_5))))
def lw_tbl : List Cond := k2_sels lw_privs ++ tables_1
theorem lw_privs_ok : ∀ q ∈ lw_privs, lw_okq q := by
  show ∀ q ∈ lw_privs_1 ++ (lw_privs_2 ++ (lw_privs_3 ++ (lw_privs_4 ++ (lw_privs_5)))), lw_okq q
  exact List.forall_mem_append.mpr ⟨lw_r1, List.forall_mem_append.mpr ⟨lw_r2, List.forall_mem_append.mpr ⟨lw_r3, List.forall_mem_append.mpr ⟨lw_r4, lw_r5⟩⟩⟩⟩
-- ===== end of PART A; then your names; then what follows =====
def RX0 : String := "BlockCross$Cross"
def TX0 : u_T := fun k => match k with
  | 0 => ("BlockCross$Cross", "desk", "LBlockCross$Desk;", true)
  | 1 => ("BlockCross$Cross", "sums", "LBlockCross$Sums;", true)
  | 2 => ("BlockCross$Cross", "ranked", "[I", true)
  | 3 => ("BlockCross$Cross", "shares", "[I", true)
  | 4 => ("BlockCross$Cross", "many", "I", false)
  | 5 => ("BlockCross$Cross", "supposed", "I", false)
  | 6 => ("BlockCross$Cross", "supposedLeast", "I", false)
  | 7 => ("BlockCross$Cross", "must", "I", false)
  | 8 => ("BlockCross$Cross", "volume", "I", false)
  | _ => ("BlockCross$Cross", "set", "I", false)
def tyX0 : Nat → FieldType := fun k => match k with
  | 0 => .object "BlockCross$Desk"
  | 1 => .object "BlockCross$Sums"
  | 2 => .array .int
  | 3 => .array .int
  | 4 => .int
  | 5 => .int
  | 6 => .int
  | 7 => .int
  | 8 => .int
  | _ => .int
abbrev wsX00 : List Cond := u_ws RX0 TX0 10
theorem nmX0 : ∀ a, a < 10 → ∀ b, b < 10 → a ≠ b → (TX0 a).2.1 ≠ (TX0 b).2.1 := by decide +kernel
theorem tyX0_ok : ∀ k, k < 10 → parseFieldDescriptor (TX0 k).2.2.1 = some (tyX0 k) := by decide +kernel
abbrev cX0_init : ByteArray := prog_2_method_1_code
def yX0_init : MethodName := ⟨RX0, "<init>", "(LBlockCross$Desk;)V"⟩
abbrev cX0_suppose : ByteArray := prog_2_method_2_code
def yX0_suppose : MethodName := ⟨RX0, "suppose", "(II)V"⟩
abbrev cX0_choose : ByteArray := prog_2_method_3_code
def yX0_choose : MethodName := ⟨RX0, "choose", "(II)V"⟩
abbrev cX0_descend : ByteArray := prog_2_method_4_code
def yX0_descend : MethodName := ⟨RX0, "descend", "(II)V"⟩
abbrev cX0_mostOf : ByteArray := prog_2_method_5_code
def yX0_mostOf : MethodName := ⟨RX0, "mostOf", "(I)I"⟩
abbrev cX0_share : ByteArray := prog_2_method_6_code
def yX0_share : MethodName := ⟨RX0, "share", "()V"⟩
abbrev cX0_arrange : ByteArray := prog_2_method_7_code
def yX0_arrange : MethodName := ⟨RX0, "arrange", "(I)V"⟩
abbrev cX0_gather : ByteArray := prog_2_method_8_code
def yX0_gather : MethodName := ⟨RX0, "gather", "(I)V"⟩
abbrev cX0_addLeast : ByteArray := prog_2_method_9_code
def yX0_addLeast : MethodName := ⟨RX0, "addLeast", "(II)V"⟩
abbrev cX0_addSize : ByteArray := prog_2_method_10_code
def yX0_addSize : MethodName := ⟨RX0, "addSize", "(II)V"⟩
abbrev cX0_leastOf : ByteArray := prog_2_method_11_code
def yX0_leastOf : MethodName := ⟨RX0, "leastOf", "(I)I"⟩
def RX1 : String := "BlockCross$Desk"
def TX1 : u_T := fun k => match k with
  | 0 => ("BlockCross$Desk", "side", "[I", true)
  | 1 => ("BlockCross$Desk", "size", "[I", true)
  | 2 => ("BlockCross$Desk", "least", "[I", true)
  | 3 => ("BlockCross$Desk", "limit", "[I", true)
  | 4 => ("BlockCross$Desk", "firm", "[I", true)
  | 5 => ("BlockCross$Desk", "state", "[I", true)
  | 6 => ("BlockCross$Desk", "filled", "[I", true)
  | 7 => ("BlockCross$Desk", "leaks", "[I", true)
  | 8 => ("BlockCross$Desk", "count", "I", false)
  | 9 => ("BlockCross$Desk", "midpoint", "I", false)
  | 10 => ("BlockCross$Desk", "runs", "I", false)
  | 11 => ("BlockCross$Desk", "total", "I", false)
  | 12 => ("BlockCross$Desk", "latestVolume", "I", false)
  | 13 => ("BlockCross$Desk", "latestMidpoint", "I", false)
  | _ => ("BlockCross$Desk", "latestOrders", "I", false)
def tyX1 : Nat → FieldType := fun k => match k with
  | 0 => .array .int
  | 1 => .array .int
  | 2 => .array .int
  | 3 => .array .int
  | 4 => .array .int
  | 5 => .array .int
  | 6 => .array .int
  | 7 => .array .int
  | 8 => .int
  | 9 => .int
  | 10 => .int
  | 11 => .int
  | 12 => .int
  | 13 => .int
  | _ => .int
abbrev wsX10 : List Cond := u_ws RX1 TX1 15
theorem nmX1 : ∀ a, a < 15 → ∀ b, b < 15 → a ≠ b → (TX1 a).2.1 ≠ (TX1 b).2.1 := by decide +kernel
theorem tyX1_ok : ∀ k, k < 15 → parseFieldDescriptor (TX1 k).2.2.1 = some (tyX1 k) := by decide +kernel
abbrev cX1_init : ByteArray := prog_3_method_1_code
def yX1_init : MethodName := ⟨RX1, "<init>", "()V"⟩
abbrev cX1_clear : ByteArray := prog_3_method_2_code
def yX1_clear : MethodName := ⟨RX1, "clear", "()V"⟩
abbrev cX1_copy : ByteArray := prog_3_method_3_code
def yX1_copy : MethodName := ⟨RX1, "copy", "(LBlockCross$Desk;)V"⟩
abbrev cX1_add : ByteArray := prog_3_method_4_code
def yX1_add : MethodName := ⟨RX1, "add", "(IIIII)V"⟩
abbrev cX1_has : ByteArray := prog_3_method_5_code
def yX1_has : MethodName := ⟨RX1, "has", "(I)Z"⟩
abbrev cX1_isOpen : ByteArray := prog_3_method_6_code
def yX1_isOpen : MethodName := ⟨RX1, "isOpen", "(I)Z"⟩
abbrev cX1_isWilling : ByteArray := prog_3_method_7_code
def yX1_isWilling : MethodName := ⟨RX1, "isWilling", "(II)Z"⟩
abbrev cX1_openOrders : ByteArray := prog_3_method_8_code
def yX1_openOrders : MethodName := ⟨RX1, "openOrders", "()I"⟩
abbrev cX1_willingOrders : ByteArray := prog_3_method_9_code
def yX1_willingOrders : MethodName := ⟨RX1, "willingOrders", "(I)I"⟩
abbrev cX1_isAhead : ByteArray := prog_3_method_10_code
def yX1_isAhead : MethodName := ⟨RX1, "isAhead", "(II)Z"⟩
abbrev cX1_openAhead : ByteArray := prog_3_method_11_code
def yX1_openAhead : MethodName := ⟨RX1, "openAhead", "(I)I"⟩
abbrev cX1_sizeAcross : ByteArray := prog_3_method_12_code
def yX1_sizeAcross : MethodName := ⟨RX1, "sizeAcross", "(I)I"⟩
abbrev cX1_trade : ByteArray := prog_3_method_13_code
def yX1_trade : MethodName := ⟨RX1, "trade", "(I[II)V"⟩
abbrev cX1_firmsOf : ByteArray := prog_3_method_14_code
def yX1_firmsOf : MethodName := ⟨RX1, "firmsOf", "(II)I"⟩
def RX2 : String := "BlockCross$Past"
def TX2 : u_T := fun k => match k with
  | 0 => ("BlockCross$Past", "desks", "[LBlockCross$Desk;", true)
  | 1 => ("BlockCross$Past", "next", "I", false)
  | _ => ("BlockCross$Past", "kept", "I", false)
def tyX2 : Nat → FieldType := fun k => match k with
  | 0 => .array (.object "BlockCross$Desk")
  | 1 => .int
  | _ => .int
abbrev wsX20 : List Cond := u_ws RX2 TX2 3
theorem nmX2 : ∀ a, a < 3 → ∀ b, b < 3 → a ≠ b → (TX2 a).2.1 ≠ (TX2 b).2.1 := by decide +kernel
theorem tyX2_ok : ∀ k, k < 3 → parseFieldDescriptor (TX2 k).2.2.1 = some (tyX2 k) := by decide +kernel
abbrev cX2_init : ByteArray := prog_4_method_1_code
def yX2_init : MethodName := ⟨RX2, "<init>", "()V"⟩
abbrev cX2_keep : ByteArray := prog_4_method_2_code
def yX2_keep : MethodName := ⟨RX2, "keep", "(LBlockCross$Desk;)V"⟩
abbrev cX2_restore : ByteArray := prog_4_method_3_code
def yX2_restore : MethodName := ⟨RX2, "restore", "(LBlockCross$Desk;)Z"⟩
abbrev cX2_forget : ByteArray := prog_4_method_4_code
def yX2_forget : MethodName := ⟨RX2, "forget", "()V"⟩
def RX3 : String := "BlockCross$Reader"
def TX3 : u_T := fun k => match k with
  | 0 => ("BlockCross$Reader", "tape", "LBlockCross$Tape;", true)
  | 1 => ("BlockCross$Reader", "at", "I", false)
  | 2 => ("BlockCross$Reader", "start", "I", false)
  | 3 => ("BlockCross$Reader", "token", "I", false)
  | 4 => ("BlockCross$Reader", "value", "I", false)
  | 5 => ("BlockCross$Reader", "kind", "I", false)
  | _ => ("BlockCross$Reader", "place", "I", false)
def tyX3 : Nat → FieldType := fun k => match k with
  | 0 => .object "BlockCross$Tape"
  | 1 => .int
  | 2 => .int
  | 3 => .int
  | 4 => .int
  | 5 => .int
  | _ => .int
abbrev wsX30 : List Cond := u_ws RX3 TX3 7
theorem nmX3 : ∀ a, a < 7 → ∀ b, b < 7 → a ≠ b → (TX3 a).2.1 ≠ (TX3 b).2.1 := by decide +kernel
theorem tyX3_ok : ∀ k, k < 7 → parseFieldDescriptor (TX3 k).2.2.1 = some (tyX3 k) := by decide +kernel
abbrev cX3_init : ByteArray := prog_5_method_1_code
def yX3_init : MethodName := ⟨RX3, "<init>", "(LBlockCross$Tape;)V"⟩
abbrev cX3_read : ByteArray := prog_5_method_2_code
def yX3_read : MethodName := ⟨RX3, "read", "(LBlockCross$Desk;)I"⟩
abbrev cX3_readMid : ByteArray := prog_5_method_3_code
def yX3_readMid : MethodName := ⟨RX3, "readMid", "(LBlockCross$Desk;)Z"⟩
abbrev cX3_readOrder : ByteArray := prog_5_method_4_code
def yX3_readOrder : MethodName := ⟨RX3, "readOrder", "(LBlockCross$Desk;)Z"⟩
abbrev cX3_readNumber : ByteArray := prog_5_method_5_code
def yX3_readNumber : MethodName := ⟨RX3, "readNumber", "(II)Z"⟩
abbrev cX3_readSign : ByteArray := prog_5_method_6_code
def yX3_readSign : MethodName := ⟨RX3, "readSign", "()Z"⟩
abbrev cX3_refuse : ByteArray := prog_5_method_7_code
def yX3_refuse : MethodName := ⟨RX3, "refuse", "(I)Z"⟩
abbrev cX3_scan : ByteArray := prog_5_method_8_code
def yX3_scan : MethodName := ⟨RX3, "scan", "()V"⟩
abbrev cX3_scanName : ByteArray := prog_5_method_9_code
def yX3_scanName : MethodName := ⟨RX3, "scanName", "()V"⟩
abbrev cX3_spells : ByteArray := prog_5_method_10_code
def yX3_spells : MethodName := ⟨RX3, "spells", "(Ljava/lang/String;)Z"⟩
abbrev cX3_isBlank : ByteArray := prog_5_method_11_code
def yX3_isBlank : MethodName := ⟨RX3, "isBlank", "(I)Z"⟩
abbrev cX3_isLetter : ByteArray := prog_5_method_12_code
def yX3_isLetter : MethodName := ⟨RX3, "isLetter", "(I)Z"⟩
abbrev cX3_isDigit : ByteArray := prog_5_method_13_code
def yX3_isDigit : MethodName := ⟨RX3, "isDigit", "(I)Z"⟩
def RX4 : String := "BlockCross$Sums"
def TX4 : u_T := fun k => match k with
  | 0 => ("BlockCross$Sums", "low", "[I", true)
  | 1 => ("BlockCross$Sums", "high", "[I", true)
  | 2 => ("BlockCross$Sums", "lowOfSide", "[I", true)
  | _ => ("BlockCross$Sums", "highOfSide", "[I", true)
def tyX4 : Nat → FieldType := fun k => match k with
  | 0 => .array .int
  | 1 => .array .int
  | 2 => .array .int
  | _ => .array .int
abbrev wsX40 : List Cond := u_ws RX4 TX4 4
theorem nmX4 : ∀ a, a < 4 → ∀ b, b < 4 → a ≠ b → (TX4 a).2.1 ≠ (TX4 b).2.1 := by decide +kernel
theorem tyX4_ok : ∀ k, k < 4 → parseFieldDescriptor (TX4 k).2.2.1 = some (tyX4 k) := by decide +kernel
abbrev cX4_init : ByteArray := prog_6_method_1_code
def yX4_init : MethodName := ⟨RX4, "<init>", "()V"⟩
abbrev cX4_clear : ByteArray := prog_6_method_2_code
def yX4_clear : MethodName := ⟨RX4, "clear", "()V"⟩
abbrev cX4_isCell : ByteArray := prog_6_method_3_code
def yX4_isCell : MethodName := ⟨RX4, "isCell", "(II)Z"⟩
abbrev cX4_addLow : ByteArray := prog_6_method_4_code
def yX4_addLow : MethodName := ⟨RX4, "addLow", "(III)V"⟩
abbrev cX4_addHigh : ByteArray := prog_6_method_5_code
def yX4_addHigh : MethodName := ⟨RX4, "addHigh", "(III)V"⟩
abbrev cX4_most : ByteArray := prog_6_method_6_code
def yX4_most : MethodName := ⟨RX4, "most", "()I"⟩
abbrev cX4_spare : ByteArray := prog_6_method_7_code
def yX4_spare : MethodName := ⟨RX4, "spare", "(III)I"⟩
def RX5 : String := "BlockCross$Tape"
def TX5 : u_T := fun k => match k with
  | 0 => ("BlockCross$Tape", "bytes", "[I", true)
  | _ => ("BlockCross$Tape", "length", "I", false)
def tyX5 : Nat → FieldType := fun k => match k with
  | 0 => .array .int
  | _ => .int
abbrev wsX50 : List Cond := u_ws RX5 TX5 2
theorem nmX5 : ∀ a, a < 2 → ∀ b, b < 2 → a ≠ b → (TX5 a).2.1 ≠ (TX5 b).2.1 := by decide +kernel
theorem tyX5_ok : ∀ k, k < 2 → parseFieldDescriptor (TX5 k).2.2.1 = some (tyX5 k) := by decide +kernel
abbrev cX5_init : ByteArray := prog_7_method_1_code
def yX5_init : MethodName := ⟨RX5, "<init>", "()V"⟩
abbrev cX5_hasRoom : ByteArray := prog_7_method_2_code
def yX5_hasRoom : MethodName := ⟨RX5, "hasRoom", "()Z"⟩
abbrev cX5_put : ByteArray := prog_7_method_3_code
def yX5_put : MethodName := ⟨RX5, "put", "(I)V"⟩
abbrev cX5_byteAt : ByteArray := prog_7_method_4_code
def yX5_byteAt : MethodName := ⟨RX5, "byteAt", "(I)I"⟩
def RX6 : String := "BlockCross"
def TX6 : u_T := fun k => match k with
  | 0 => ("BlockCross", "tape", "LBlockCross$Tape;", true)
  | 1 => ("BlockCross", "reader", "LBlockCross$Reader;", true)
  | 2 => ("BlockCross", "desk", "LBlockCross$Desk;", true)
  | 3 => ("BlockCross", "draft", "LBlockCross$Desk;", true)
  | 4 => ("BlockCross", "cross", "LBlockCross$Cross;", true)
  | _ => ("BlockCross", "past", "LBlockCross$Past;", true)
def tyX6 : Nat → FieldType := fun k => match k with
  | 0 => .object "BlockCross$Tape"
  | 1 => .object "BlockCross$Reader"
  | 2 => .object "BlockCross$Desk"
  | 3 => .object "BlockCross$Desk"
  | 4 => .object "BlockCross$Cross"
  | _ => .object "BlockCross$Past"
abbrev wsX60 : List Cond := u_ws RX6 TX6 6
theorem nmX6 : ∀ a, a < 6 → ∀ b, b < 6 → a ≠ b → (TX6 a).2.1 ≠ (TX6 b).2.1 := by decide +kernel
theorem tyX6_ok : ∀ k, k < 6 → parseFieldDescriptor (TX6 k).2.2.1 = some (tyX6 k) := by decide +kernel
abbrev cX6_init : ByteArray := prog_1_method_1_code
def yX6_init : MethodName := ⟨RX6, "<init>", "()V"⟩
abbrev cX6_feed : ByteArray := prog_1_method_2_code
def yX6_feed : MethodName := ⟨RX6, "feed", "(IIIII)I"⟩
abbrev cX6_end : ByteArray := prog_1_method_3_code
def yX6_end : MethodName := ⟨RX6, "end", "(I)Z"⟩
abbrev cX6_text : ByteArray := prog_1_method_4_code
def yX6_text : MethodName := ⟨RX6, "text", "()I"⟩
abbrev cX6_fault : ByteArray := prog_1_method_5_code
def yX6_fault : MethodName := ⟨RX6, "fault", "()I"⟩
abbrev cX6_now : ByteArray := prog_1_method_6_code
def yX6_now : MethodName := ⟨RX6, "now", "(I)I"⟩
abbrev cX6_order : ByteArray := prog_1_method_7_code
def yX6_order : MethodName := ⟨RX6, "order", "(II)I"⟩
abbrev cX6_rank : ByteArray := prog_1_method_8_code
def yX6_rank : MethodName := ⟨RX6, "rank", "(I)I"⟩
abbrev cX6_chosen : ByteArray := prog_1_method_9_code
def yX6_chosen : MethodName := ⟨RX6, "chosen", "(II)I"⟩
abbrev cX6_fill : ByteArray := prog_1_method_10_code
def yX6_fill : MethodName := ⟨RX6, "fill", "(I)I"⟩
abbrev cX6_why : ByteArray := prog_1_method_11_code
def yX6_why : MethodName := ⟨RX6, "why", "(I)I"⟩
abbrev cX6_volume : ByteArray := prog_1_method_12_code
def yX6_volume : MethodName := ⟨RX6, "volume", "(I)I"⟩
abbrev cX6_best : ByteArray := prog_1_method_13_code
def yX6_best : MethodName := ⟨RX6, "best", "()I"⟩
abbrev cX6_were : ByteArray := prog_1_method_14_code
def yX6_were : MethodName := ⟨RX6, "were", "(II)I"⟩
abbrev cX6_worth : ByteArray := prog_1_method_15_code
def yX6_worth : MethodName := ⟨RX6, "worth", "(I)I"⟩
abbrev cX6_reach : ByteArray := prog_1_method_16_code
def yX6_reach : MethodName := ⟨RX6, "reach", "(I)I"⟩
abbrev cX6_come : ByteArray := prog_1_method_17_code
def yX6_come : MethodName := ⟨RX6, "come", "(IIIII)I"⟩
abbrev cX6_withdraw : ByteArray := prog_1_method_18_code
def yX6_withdraw : MethodName := ⟨RX6, "withdraw", "(I)I"⟩
abbrev cX6_amend : ByteArray := prog_1_method_19_code
def yX6_amend : MethodName := ⟨RX6, "amend", "(III)I"⟩
abbrev cX6_mid : ByteArray := prog_1_method_20_code
def yX6_mid : MethodName := ⟨RX6, "mid", "(I)I"⟩
abbrev cX6_run : ByteArray := prog_1_method_21_code
def yX6_run : MethodName := ⟨RX6, "run", "()I"⟩
abbrev cX6_undo : ByteArray := prog_1_method_22_code
def yX6_undo : MethodName := ⟨RX6, "undo", "()I"⟩
abbrev cX6_volumeAt : ByteArray := prog_1_method_23_code
def yX6_volumeAt : MethodName := ⟨RX6, "volumeAt", "(I)I"⟩
abbrev cX6_change : ByteArray := prog_1_method_24_code
def yX6_change : MethodName := ⟨RX6, "change", "([III)I"⟩
abbrev cX6_isPrice : ByteArray := prog_1_method_25_code
def yX6_isPrice : MethodName := ⟨RX6, "isPrice", "(I)Z"⟩
abbrev cX6_isIn : ByteArray := prog_1_method_26_code
def yX6_isIn : MethodName := ⟨RX6, "isIn", "(II)Z"⟩
def RX7 : String := "BlockCrossModel"
def TX7 : u_T := fun k => match k with
  | 0 => ("BlockCrossModel", "thrown", "I", false)
  | 1 => ("BlockCrossModel", "tape", "[I", true)
  | 2 => ("BlockCrossModel", "taped", "I", false)
  | 3 => ("BlockCrossModel", "size", "I", false)
  | 4 => ("BlockCrossModel", "to", "I", false)
  | 5 => ("BlockCrossModel", "from", "I", false)
  | 6 => ("BlockCrossModel", "sort", "I", false)
  | 7 => ("BlockCrossModel", "number", "I", false)
  | 8 => ("BlockCrossModel", "fault", "I", false)
  | 9 => ("BlockCrossModel", "place", "I", false)
  | 10 => ("BlockCrossModel", "word", "J", false)
  | 11 => ("BlockCrossModel", "now", "[I", true)
  | 12 => ("BlockCrossModel", "read", "[I", true)
  | 13 => ("BlockCrossModel", "snaps", "[I", true)
  | 14 => ("BlockCrossModel", "snapMany", "I", false)
  | 15 => ("BlockCrossModel", "ranked", "[I", true)
  | 16 => ("BlockCrossModel", "rankedMany", "I", false)
  | 17 => ("BlockCrossModel", "low", "[I", true)
  | 18 => ("BlockCrossModel", "high", "[I", true)
  | 19 => ("BlockCrossModel", "buyLow", "[I", true)
  | 20 => ("BlockCrossModel", "buyHigh", "[I", true)
  | 21 => ("BlockCrossModel", "sellLow", "[I", true)
  | 22 => ("BlockCrossModel", "sellHigh", "[I", true)
  | 23 => ("BlockCrossModel", "floor", "I", false)
  | 24 => ("BlockCrossModel", "ceiling", "I", false)
  | 25 => ("BlockCrossModel", "chosenSet", "I", false)
  | 26 => ("BlockCrossModel", "chosenVolume", "I", false)
  | _ => ("BlockCrossModel", "fills", "[I", true)
def tyX7 : Nat → FieldType := fun k => match k with
  | 0 => .int
  | 1 => .array .int
  | 2 => .int
  | 3 => .int
  | 4 => .int
  | 5 => .int
  | 6 => .int
  | 7 => .int
  | 8 => .int
  | 9 => .int
  | 10 => .long
  | 11 => .array .int
  | 12 => .array .int
  | 13 => .array .int
  | 14 => .int
  | 15 => .array .int
  | 16 => .int
  | 17 => .array .int
  | 18 => .array .int
  | 19 => .array .int
  | 20 => .array .int
  | 21 => .array .int
  | 22 => .array .int
  | 23 => .int
  | 24 => .int
  | 25 => .int
  | 26 => .int
  | _ => .array .int
abbrev wsX70 : List Cond := u_ws RX7 TX7 28
theorem nmX7 : ∀ a, a < 28 → ∀ b, b < 28 → a ≠ b → (TX7 a).2.1 ≠ (TX7 b).2.1 := by decide +kernel
theorem tyX7_ok : ∀ k, k < 28 → parseFieldDescriptor (TX7 k).2.2.1 = some (tyX7 k) := by decide +kernel
abbrev cX7_thrown : ByteArray := prog_9_method_1_code
def yX7_thrown : MethodName := ⟨RX7, "thrown", "()I"⟩
abbrev cX7_refuse : ByteArray := prog_9_method_2_code
def yX7_refuse : MethodName := ⟨RX7, "refuse", "()I"⟩
abbrev cX7_isIn : ByteArray := prog_9_method_3_code
def yX7_isIn : MethodName := ⟨RX7, "isIn", "(III)Z"⟩
abbrev cX7_has : ByteArray := prog_9_method_4_code
def yX7_has : MethodName := ⟨RX7, "has", "(II)Z"⟩
abbrev cX7_lays : ByteArray := prog_9_method_5_code
def yX7_lays : MethodName := ⟨RX7, "lays", "(I)V"⟩
abbrev cX7_feed : ByteArray := prog_9_method_6_code
def yX7_feed : MethodName := ⟨RX7, "feed", "(IIIII)I"⟩
abbrev cX7_end : ByteArray := prog_9_method_7_code
def yX7_end : MethodName := ⟨RX7, "end", "(I)Z"⟩
abbrev cX7_tapeAt : ByteArray := prog_9_method_8_code
def yX7_tapeAt : MethodName := ⟨RX7, "tapeAt", "(I)I"⟩
abbrev cX7_isDigit : ByteArray := prog_9_method_9_code
def yX7_isDigit : MethodName := ⟨RX7, "isDigit", "(I)Z"⟩
abbrev cX7_isLetter : ByteArray := prog_9_method_10_code
def yX7_isLetter : MethodName := ⟨RX7, "isLetter", "(I)Z"⟩
abbrev cX7_go : ByteArray := prog_9_method_11_code
def yX7_go : MethodName := ⟨RX7, "go", "()V"⟩
abbrev cX7_is : ByteArray := prog_9_method_12_code
def yX7_is : MethodName := ⟨RX7, "is", "(IIII)Z"⟩
abbrev cX7_bad : ByteArray := prog_9_method_13_code
def yX7_bad : MethodName := ⟨RX7, "bad", "(I)Z"⟩
abbrev cX7_init : ByteArray := prog_9_method_14_code
def yX7_init : MethodName := ⟨RX7, "<init>", "()V"⟩
abbrev cX7_clears : ByteArray := prog_9_method_15_code
def yX7_clears : MethodName := ⟨RX7, "clears", "([I)V"⟩
abbrev cX7_told : ByteArray := prog_9_method_16_code
def yX7_told : MethodName := ⟨RX7, "told", "(III)Z"⟩
abbrev cX7_readMid : ByteArray := prog_9_method_17_code
def yX7_readMid : MethodName := ⟨RX7, "readMid", "()Z"⟩
abbrev cX7_readOrder : ByteArray := prog_9_method_18_code
def yX7_readOrder : MethodName := ⟨RX7, "readOrder", "(Z)Z"⟩
abbrev cX7_readLine : ByteArray := prog_9_method_19_code
def yX7_readLine : MethodName := ⟨RX7, "readLine", "(Z)Z"⟩
abbrev cX7_readEnd : ByteArray := prog_9_method_20_code
def yX7_readEnd : MethodName := ⟨RX7, "readEnd", "()Z"⟩
abbrev cX7_text : ByteArray := prog_9_method_21_code
def yX7_text : MethodName := ⟨RX7, "text", "()I"⟩
abbrev cX7_fault : ByteArray := prog_9_method_22_code
def yX7_fault : MethodName := ⟨RX7, "fault", "()I"⟩
abbrev cX7_isOrder : ByteArray := prog_9_method_23_code
def yX7_isOrder : MethodName := ⟨RX7, "isOrder", "(I)Z"⟩
abbrev cX7_its : ByteArray := prog_9_method_24_code
def yX7_its : MethodName := ⟨RX7, "its", "(II)I"⟩
abbrev cX7_isOpen : ByteArray := prog_9_method_25_code
def yX7_isOpen : MethodName := ⟨RX7, "isOpen", "(I)Z"⟩
abbrev cX7_isWilling : ByteArray := prog_9_method_26_code
def yX7_isWilling : MethodName := ⟨RX7, "isWilling", "(II)Z"⟩
abbrev cX7_openSet : ByteArray := prog_9_method_27_code
def yX7_openSet : MethodName := ⟨RX7, "openSet", "()I"⟩
abbrev cX7_now : ByteArray := prog_9_method_28_code
def yX7_now : MethodName := ⟨RX7, "now", "(I)I"⟩
abbrev cX7_order : ByteArray := prog_9_method_29_code
def yX7_order : MethodName := ⟨RX7, "order", "(II)I"⟩
abbrev cX7_isAhead : ByteArray := prog_9_method_30_code
def yX7_isAhead : MethodName := ⟨RX7, "isAhead", "(II)Z"⟩
abbrev cX7_laysRanks : ByteArray := prog_9_method_31_code
def yX7_laysRanks : MethodName := ⟨RX7, "laysRanks", "()V"⟩
abbrev cX7_rank : ByteArray := prog_9_method_32_code
def yX7_rank : MethodName := ⟨RX7, "rank", "(I)I"⟩
abbrev cX7_laysBounds : ByteArray := prog_9_method_33_code
def yX7_laysBounds : MethodName := ⟨RX7, "laysBounds", "()V"⟩
abbrev cX7_sum : ByteArray := prog_9_method_34_code
def yX7_sum : MethodName := ⟨RX7, "sum", "([I)I"⟩
abbrev cX7_laysVolumes : ByteArray := prog_9_method_35_code
def yX7_laysVolumes : MethodName := ⟨RX7, "laysVolumes", "(I)Z"⟩
abbrev cX7_laysChosen : ByteArray := prog_9_method_36_code
def yX7_laysChosen : MethodName := ⟨RX7, "laysChosen", "(II)V"⟩
abbrev cX7_choosesNow : ByteArray := prog_9_method_37_code
def yX7_choosesNow : MethodName := ⟨RX7, "choosesNow", "()V"⟩
abbrev cX7_chosen : ByteArray := prog_9_method_38_code
def yX7_chosen : MethodName := ⟨RX7, "chosen", "(II)I"⟩
abbrev cX7_laysFills : ByteArray := prog_9_method_39_code
def yX7_laysFills : MethodName := ⟨RX7, "laysFills", "()V"⟩
abbrev cX7_fill : ByteArray := prog_9_method_40_code
def yX7_fill : MethodName := ⟨RX7, "fill", "(I)I"⟩
abbrev cX7_isOther : ByteArray := prog_9_method_41_code
def yX7_isOther : MethodName := ⟨RX7, "isOther", "(II)Z"⟩
abbrev cX7_canTrade : ByteArray := prog_9_method_42_code
def yX7_canTrade : MethodName := ⟨RX7, "canTrade", "(I)Z"⟩
abbrev cX7_why : ByteArray := prog_9_method_43_code
def yX7_why : MethodName := ⟨RX7, "why", "(I)I"⟩
abbrev cX7_volume : ByteArray := prog_9_method_44_code
def yX7_volume : MethodName := ⟨RX7, "volume", "(I)I"⟩
abbrev cX7_best : ByteArray := prog_9_method_45_code
def yX7_best : MethodName := ⟨RX7, "best", "()I"⟩
abbrev cX7_were : ByteArray := prog_9_method_46_code
def yX7_were : MethodName := ⟨RX7, "were", "(II)I"⟩
abbrev cX7_worth : ByteArray := prog_9_method_47_code
def yX7_worth : MethodName := ⟨RX7, "worth", "(I)I"⟩
abbrev cX7_reach : ByteArray := prog_9_method_48_code
def yX7_reach : MethodName := ⟨RX7, "reach", "(I)I"⟩
abbrev cX7_snap : ByteArray := prog_9_method_49_code
def yX7_snap : MethodName := ⟨RX7, "snap", "()V"⟩
abbrev cX7_come : ByteArray := prog_9_method_50_code
def yX7_come : MethodName := ⟨RX7, "come", "(IIIII)I"⟩
abbrev cX7_withdraw : ByteArray := prog_9_method_51_code
def yX7_withdraw : MethodName := ⟨RX7, "withdraw", "(I)I"⟩
abbrev cX7_becomes : ByteArray := prog_9_method_52_code
def yX7_becomes : MethodName := ⟨RX7, "becomes", "(II)I"⟩
abbrev cX7_amend : ByteArray := prog_9_method_53_code
def yX7_amend : MethodName := ⟨RX7, "amend", "(III)I"⟩
abbrev cX7_mid : ByteArray := prog_9_method_54_code
def yX7_mid : MethodName := ⟨RX7, "mid", "(I)I"⟩
abbrev cX7_leaksOf : ByteArray := prog_9_method_55_code
def yX7_leaksOf : MethodName := ⟨RX7, "leaksOf", "(I)I"⟩
abbrev cX7_run : ByteArray := prog_9_method_56_code
def yX7_run : MethodName := ⟨RX7, "run", "()I"⟩
abbrev cX7_undo : ByteArray := prog_9_method_57_code
def yX7_undo : MethodName := ⟨RX7, "undo", "()I"⟩
def RJx145de : String := "java/io/Serializable"
def TJx145de : u_T := fun k => match k with
  | _ => ("", "", "", false)
def tyJx145de : Nat → FieldType := fun k => match k with
  | _ => .int
abbrev wsJx145de0 : List Cond := u_ws RJx145de TJx145de 0
theorem nmJx145de : ∀ a, a < 0 → ∀ b, b < 0 → a ≠ b → (TJx145de a).2.1 ≠ (TJx145de b).2.1 := by decide +kernel
theorem tyJx145de_ok : ∀ k, k < 0 → parseFieldDescriptor (TJx145de k).2.2.1 = some (tyJx145de k) := by decide +kernel
def RJx9f9b0 : String := "java/lang/CharSequence"
def TJx9f9b0 : u_T := fun k => match k with
  | _ => ("", "", "", false)
def tyJx9f9b0 : Nat → FieldType := fun k => match k with
  | _ => .int
abbrev wsJx9f9b00 : List Cond := u_ws RJx9f9b0 TJx9f9b0 0
theorem nmJx9f9b0 : ∀ a, a < 0 → ∀ b, b < 0 → a ≠ b → (TJx9f9b0 a).2.1 ≠ (TJx9f9b0 b).2.1 := by decide +kernel
theorem tyJx9f9b0_ok : ∀ k, k < 0 → parseFieldDescriptor (TJx9f9b0 k).2.2.1 = some (tyJx9f9b0 k) := by decide +kernel
def RJxb160c : String := "java/lang/Comparable"
def TJxb160c : u_T := fun k => match k with
  | _ => ("", "", "", false)
def tyJxb160c : Nat → FieldType := fun k => match k with
  | _ => .int
abbrev wsJxb160c0 : List Cond := u_ws RJxb160c TJxb160c 0
theorem nmJxb160c : ∀ a, a < 0 → ∀ b, b < 0 → a ≠ b → (TJxb160c a).2.1 ≠ (TJxb160c b).2.1 := by decide +kernel
theorem tyJxb160c_ok : ∀ k, k < 0 → parseFieldDescriptor (TJxb160c k).2.2.1 = some (tyJxb160c k) := by decide +kernel
def RJ6 : String := "java/lang/Integer"
def TJ6 : u_T := fun k => match k with
  | _ => ("", "", "", false)
def tyJ6 : Nat → FieldType := fun k => match k with
  | _ => .int
abbrev wsJ60 : List Cond := u_ws RJ6 TJ6 0
theorem nmJ6 : ∀ a, a < 0 → ∀ b, b < 0 → a ≠ b → (TJ6 a).2.1 ≠ (TJ6 b).2.1 := by decide +kernel
theorem tyJ6_ok : ∀ k, k < 0 → parseFieldDescriptor (TJ6 k).2.2.1 = some (tyJ6 k) := by decide +kernel
abbrev cJ6_bitCount_0f7a4 : ByteArray := prog_14_method_49_code
def yJ6_bitCount_0f7a4 : MethodName := ⟨RJ6, "bitCount", "(I)I"⟩
def RJ9 : String := "java/lang/Math"
def TJ9 : u_T := fun k => match k with
  | _ => ("", "", "", false)
def tyJ9 : Nat → FieldType := fun k => match k with
  | _ => .int
abbrev wsJ90 : List Cond := u_ws RJ9 TJ9 0
theorem nmJ9 : ∀ a, a < 0 → ∀ b, b < 0 → a ≠ b → (TJ9 a).2.1 ≠ (TJ9 b).2.1 := by decide +kernel
theorem tyJ9_ok : ∀ k, k < 0 → parseFieldDescriptor (TJ9 k).2.2.1 = some (tyJ9 k) := by decide +kernel
abbrev cJ9_max_7cf53 : ByteArray := prog_15_method_65_code
def yJ9_max_7cf53 : MethodName := ⟨RJ9, "max", "(II)I"⟩
abbrev cJ9_min_7cf53 : ByteArray := prog_15_method_69_code
def yJ9_min_7cf53 : MethodName := ⟨RJ9, "min", "(II)I"⟩
def RJ0 : String := "java/lang/String"
def TJ0 : u_T := fun k => match k with
  | _ => ("", "", "", false)
def tyJ0 : Nat → FieldType := fun k => match k with
  | _ => .int
abbrev wsJ00 : List Cond := u_ws RJ0 TJ0 0
theorem nmJ0 : ∀ a, a < 0 → ∀ b, b < 0 → a ≠ b → (TJ0 a).2.1 ≠ (TJ0 b).2.1 := by decide +kernel
theorem tyJ0_ok : ∀ k, k < 0 → parseFieldDescriptor (TJ0 k).2.2.1 = some (tyJ0 k) := by decide +kernel
abbrev cJ0_length_8abf5 : ByteArray := prog_17_method_54_code
def yJ0_length_8abf5 : MethodName := ⟨RJ0, "length", "()I"⟩
abbrev cJ0_charAt_5068e : ByteArray := prog_17_method_56_code
def yJ0_charAt_5068e : MethodName := ⟨RJ0, "charAt", "(I)C"⟩
abbrev cJ0_coder_7d493 : ByteArray := prog_17_method_152_code
def yJ0_coder_7d493 : MethodName := ⟨RJ0, "coder", "()B"⟩
abbrev cJ0_isLatin1_aae02 : ByteArray := prog_17_method_154_code
def yJ0_isLatin1_aae02 : MethodName := ⟨RJ0, "isLatin1", "()Z"⟩
abbrev cJ0_checkIndex_df160 : ByteArray := prog_17_method_155_code
def yJ0_checkIndex_df160 : MethodName := ⟨RJ0, "checkIndex", "(II)V"⟩
def RJ1 : String := "java/lang/StringLatin1"
def TJ1 : u_T := fun k => match k with
  | _ => ("", "", "", false)
def tyJ1 : Nat → FieldType := fun k => match k with
  | _ => .int
abbrev wsJ10 : List Cond := u_ws RJ1 TJ1 0
theorem nmJ1 : ∀ a, a < 0 → ∀ b, b < 0 → a ≠ b → (TJ1 a).2.1 ≠ (TJ1 b).2.1 := by decide +kernel
theorem tyJ1_ok : ∀ k, k < 0 → parseFieldDescriptor (TJ1 k).2.2.1 = some (tyJ1 k) := by decide +kernel
abbrev cJ1_charAt_3b067 : ByteArray := prog_18_method_2_code
def yJ1_charAt_3b067 : MethodName := ⟨RJ1, "charAt", "([BI)C"⟩
def RJ2 : String := "java/lang/StringUTF16"
def TJ2 : u_T := fun k => match k with
  | _ => ("", "", "", false)
def tyJ2 : Nat → FieldType := fun k => match k with
  | _ => .int
abbrev wsJ20 : List Cond := u_ws RJ2 TJ2 0
theorem nmJ2 : ∀ a, a < 0 → ∀ b, b < 0 → a ≠ b → (TJ2 a).2.1 ≠ (TJ2 b).2.1 := by decide +kernel
theorem tyJ2_ok : ∀ k, k < 0 → parseFieldDescriptor (TJ2 k).2.2.1 = some (tyJ2 k) := by decide +kernel
abbrev cJ2_getChar_3b067 : ByteArray := prog_19_method_5_code
def yJ2_getChar_3b067 : MethodName := ⟨RJ2, "getChar", "([BI)C"⟩
abbrev cJ2_length_9d52b : ByteArray := prog_19_method_6_code
def yJ2_length_9d52b : MethodName := ⟨RJ2, "length", "([B)I"⟩
abbrev cJ2_charAt_3b067 : ByteArray := prog_19_method_83_code
def yJ2_charAt_3b067 : MethodName := ⟨RJ2, "charAt", "([BI)C"⟩
abbrev cJ2_checkIndex_2214a : ByteArray := prog_19_method_91_code
def yJ2_checkIndex_2214a : MethodName := ⟨RJ2, "checkIndex", "(I[B)V"⟩
def RJ10 : String := "java/lang/System"
def TJ10 : u_T := fun k => match k with
  | _ => ("", "", "", false)
def tyJ10 : Nat → FieldType := fun k => match k with
  | _ => .int
abbrev wsJ100 : List Cond := u_ws RJ10 TJ10 0
theorem nmJ10 : ∀ a, a < 0 → ∀ b, b < 0 → a ≠ b → (TJ10 a).2.1 ≠ (TJ10 b).2.1 := by decide +kernel
theorem tyJ10_ok : ∀ k, k < 0 → parseFieldDescriptor (TJ10 k).2.2.1 = some (tyJ10 k) := by decide +kernel
def RJxfd54e : String := "java/lang/constant/Constable"
def TJxfd54e : u_T := fun k => match k with
  | _ => ("", "", "", false)
def tyJxfd54e : Nat → FieldType := fun k => match k with
  | _ => .int
abbrev wsJxfd54e0 : List Cond := u_ws RJxfd54e TJxfd54e 0
theorem nmJxfd54e : ∀ a, a < 0 → ∀ b, b < 0 → a ≠ b → (TJxfd54e a).2.1 ≠ (TJxfd54e b).2.1 := by decide +kernel
theorem tyJxfd54e_ok : ∀ k, k < 0 → parseFieldDescriptor (TJxfd54e k).2.2.1 = some (tyJxfd54e k) := by decide +kernel
def RJx3cf43 : String := "java/lang/constant/ConstantDesc"
def TJx3cf43 : u_T := fun k => match k with
  | _ => ("", "", "", false)
def tyJx3cf43 : Nat → FieldType := fun k => match k with
  | _ => .int
abbrev wsJx3cf430 : List Cond := u_ws RJx3cf43 TJx3cf43 0
theorem nmJx3cf43 : ∀ a, a < 0 → ∀ b, b < 0 → a ≠ b → (TJx3cf43 a).2.1 ≠ (TJx3cf43 b).2.1 := by decide +kernel
theorem tyJx3cf43_ok : ∀ k, k < 0 → parseFieldDescriptor (TJx3cf43 k).2.2.1 = some (tyJx3cf43 k) := by decide +kernel
def RJ3 : String := "jdk/internal/util/Preconditions"
def TJ3 : u_T := fun k => match k with
  | _ => ("", "", "", false)
def tyJ3 : Nat → FieldType := fun k => match k with
  | _ => .int
abbrev wsJ30 : List Cond := u_ws RJ3 TJ3 0
theorem nmJ3 : ∀ a, a < 0 → ∀ b, b < 0 → a ≠ b → (TJ3 a).2.1 ≠ (TJ3 b).2.1 := by decide +kernel
theorem tyJ3_ok : ∀ k, k < 0 → parseFieldDescriptor (TJ3 k).2.2.1 = some (tyJ3 k) := by decide +kernel
abbrev cJ3_checkIndex_8e157 : ByteArray := prog_25_method_11_code
def yJ3_checkIndex_8e157 : MethodName := ⟨RJ3, "checkIndex", "(IILjava/util/function/BiFunction;)I"⟩
def RL : String := "BlockCrossLaw"
abbrev cL_order : ByteArray := method_3_code
def yL_order : MethodName := ⟨RL, "order", "(LBlockCross;II[J)I"⟩
abbrev cL_law : ByteArray := code
def yL_law : MethodName := ⟨RL, "law", "([I)Z"⟩
abbrev vwCl : List vw_C := [(RX0, TX0, 10), (RX1, TX1, 15), (RX2, TX2, 3), (RX3, TX3, 7), (RX4, TX4, 4), (RX5, TX5, 2), (RX6, TX6, 6), (RX7, TX7, 28)]
end
section
/-- the layout: (0, class, fields) an object, (1, n, _) ints, (2, n, _) longs, (3, n, refs) references; a field: (0,_) int, (1,_) long, (2, cell) -/
def bc_lay (k : Nat) : Nat × Nat × List (Nat × Nat) := match k with
  | 0 => (0, 6, [(2, 1), (2, 3), (2, 4), (2, 13), (2, 22), (2, 30)]) -- BlockCross
  | 1 => (0, 5, [(2, 2), (0, 0)]) -- Tape
  | 2 => (1, 440, []) -- Tape.bytes
  | 3 => (0, 3, [(2, 1), (0, 0), (0, 0), (0, 0), (0, 0), (0, 0), (0, 0)]) -- Reader
  | 4 => (0, 1, [(2, 5), (2, 6), (2, 7), (2, 8), (2, 9), (2, 10), (2, 11), (2, 12), (0, 0), (0, 0), (0, 0), (0, 0), (0, 0), (0, 0), (0, 0)]) -- desk
  | 5 => (1, 24, []) -- desk.side
  | 6 => (1, 24, []) -- desk.size
  | 7 => (1, 24, []) -- desk.least
  | 8 => (1, 24, []) -- desk.limit
  | 9 => (1, 24, []) -- desk.firm
  | 10 => (1, 24, []) -- desk.state
  | 11 => (1, 24, []) -- desk.filled
  | 12 => (1, 24, []) -- desk.leaks
  | 13 => (0, 1, [(2, 14), (2, 15), (2, 16), (2, 17), (2, 18), (2, 19), (2, 20), (2, 21), (0, 0), (0, 0), (0, 0), (0, 0), (0, 0), (0, 0), (0, 0)]) -- draft
  | 14 => (1, 24, []) -- draft.side
  | 15 => (1, 24, []) -- draft.size
  | 16 => (1, 24, []) -- draft.least
  | 17 => (1, 24, []) -- draft.limit
  | 18 => (1, 24, []) -- draft.firm
  | 19 => (1, 24, []) -- draft.state
  | 20 => (1, 24, []) -- draft.filled
  | 21 => (1, 24, []) -- draft.leaks
  | 22 => (0, 0, [(2, 4), (2, 23), (2, 28), (2, 29), (0, 0), (0, 0), (0, 0), (0, 0), (0, 0), (0, 0)]) -- Cross
  | 23 => (0, 4, [(2, 24), (2, 25), (2, 26), (2, 27)]) -- Sums
  | 24 => (1, 12, []) -- Sums.low
  | 25 => (1, 12, []) -- Sums.high
  | 26 => (1, 2, []) -- Sums.lowOfSide
  | 27 => (1, 2, []) -- Sums.highOfSide
  | 28 => (1, 10, []) -- Cross.ranked
  | 29 => (1, 24, []) -- Cross.shares
  | 30 => (0, 2, [(2, 31), (0, 0), (0, 0)]) -- Past
  | 31 => (3, 8, [(2, 32), (2, 41), (2, 50), (2, 59), (2, 68), (2, 77), (2, 86), (2, 95)]) -- Past.desks
  | 32 => (0, 1, [(2, 33), (2, 34), (2, 35), (2, 36), (2, 37), (2, 38), (2, 39), (2, 40), (0, 0), (0, 0), (0, 0), (0, 0), (0, 0), (0, 0), (0, 0)]) -- kept0
  | 33 => (1, 24, []) -- kept0.side
  | 34 => (1, 24, []) -- kept0.size
  | 35 => (1, 24, []) -- kept0.least
  | 36 => (1, 24, []) -- kept0.limit
  | 37 => (1, 24, []) -- kept0.firm
  | 38 => (1, 24, []) -- kept0.state
  | 39 => (1, 24, []) -- kept0.filled
  | 40 => (1, 24, []) -- kept0.leaks
  | 41 => (0, 1, [(2, 42), (2, 43), (2, 44), (2, 45), (2, 46), (2, 47), (2, 48), (2, 49), (0, 0), (0, 0), (0, 0), (0, 0), (0, 0), (0, 0), (0, 0)]) -- kept1
  | 42 => (1, 24, []) -- kept1.side
  | 43 => (1, 24, []) -- kept1.size
  | 44 => (1, 24, []) -- kept1.least
  | 45 => (1, 24, []) -- kept1.limit
  | 46 => (1, 24, []) -- kept1.firm
  | 47 => (1, 24, []) -- kept1.state
  | 48 => (1, 24, []) -- kept1.filled
  | 49 => (1, 24, []) -- kept1.leaks
  | 50 => (0, 1, [(2, 51), (2, 52), (2, 53), (2, 54), (2, 55), (2, 56), (2, 57), (2, 58), (0, 0), (0, 0), (0, 0), (0, 0), (0, 0), (0, 0), (0, 0)]) -- kept2
  | 51 => (1, 24, []) -- kept2.side
  | 52 => (1, 24, []) -- kept2.size
  | 53 => (1, 24, []) -- kept2.least
  | 54 => (1, 24, []) -- kept2.limit
  | 55 => (1, 24, []) -- kept2.firm
  | 56 => (1, 24, []) -- kept2.state
  | 57 => (1, 24, []) -- kept2.filled
  | 58 => (1, 24, []) -- kept2.leaks
  | 59 => (0, 1, [(2, 60), (2, 61), (2, 62), (2, 63), (2, 64), (2, 65), (2, 66), (2, 67), (0, 0), (0, 0), (0, 0), (0, 0), (0, 0), (0, 0), (0, 0)]) -- kept3
  | 60 => (1, 24, []) -- kept3.side
  | 61 => (1, 24, []) -- kept3.size
  | 62 => (1, 24, []) -- kept3.least
  | 63 => (1, 24, []) -- kept3.limit
  | 64 => (1, 24, []) -- kept3.firm
  | 65 => (1, 24, []) -- kept3.state
  | 66 => (1, 24, []) -- kept3.filled
  | 67 => (1, 24, []) -- kept3.leaks
  | 68 => (0, 1, [(2, 69), (2, 70), (2, 71), (2, 72), (2, 73), (2, 74), (2, 75), (2, 76), (0, 0), (0, 0), (0, 0), (0, 0), (0, 0), (0, 0), (0, 0)]) -- kept4
  | 69 => (1, 24, []) -- kept4.side
  | 70 => (1, 24, []) -- kept4.size
  | 71 => (1, 24, []) -- kept4.least
  | 72 => (1, 24, []) -- kept4.limit
  | 73 => (1, 24, []) -- kept4.firm
  | 74 => (1, 24, []) -- kept4.state
  | 75 => (1, 24, []) -- kept4.filled
  | 76 => (1, 24, []) -- kept4.leaks
  | 77 => (0, 1, [(2, 78), (2, 79), (2, 80), (2, 81), (2, 82), (2, 83), (2, 84), (2, 85), (0, 0), (0, 0), (0, 0), (0, 0), (0, 0), (0, 0), (0, 0)]) -- kept5
  | 78 => (1, 24, []) -- kept5.side
  | 79 => (1, 24, []) -- kept5.size
  | 80 => (1, 24, []) -- kept5.least
  | 81 => (1, 24, []) -- kept5.limit
  | 82 => (1, 24, []) -- kept5.firm
  | 83 => (1, 24, []) -- kept5.state
  | 84 => (1, 24, []) -- kept5.filled
  | 85 => (1, 24, []) -- kept5.leaks
  | 86 => (0, 1, [(2, 87), (2, 88), (2, 89), (2, 90), (2, 91), (2, 92), (2, 93), (2, 94), (0, 0), (0, 0), (0, 0), (0, 0), (0, 0), (0, 0), (0, 0)]) -- kept6
  | 87 => (1, 24, []) -- kept6.side
  | 88 => (1, 24, []) -- kept6.size
  | 89 => (1, 24, []) -- kept6.least
  | 90 => (1, 24, []) -- kept6.limit
  | 91 => (1, 24, []) -- kept6.firm
  | 92 => (1, 24, []) -- kept6.state
  | 93 => (1, 24, []) -- kept6.filled
  | 94 => (1, 24, []) -- kept6.leaks
  | 95 => (0, 1, [(2, 96), (2, 97), (2, 98), (2, 99), (2, 100), (2, 101), (2, 102), (2, 103), (0, 0), (0, 0), (0, 0), (0, 0), (0, 0), (0, 0), (0, 0)]) -- kept7
  | 96 => (1, 24, []) -- kept7.side
  | 97 => (1, 24, []) -- kept7.size
  | 98 => (1, 24, []) -- kept7.least
  | 99 => (1, 24, []) -- kept7.limit
  | 100 => (1, 24, []) -- kept7.firm
  | 101 => (1, 24, []) -- kept7.state
  | 102 => (1, 24, []) -- kept7.filled
  | 103 => (1, 24, []) -- kept7.leaks
  | 104 => (0, 7, [(0, 0), (2, 105), (0, 0), (0, 0), (0, 0), (0, 0), (0, 0), (0, 0), (0, 0), (0, 0), (1, 0), (2, 106), (2, 107), (2, 108), (0, 0), (2, 109), (0, 0), (2, 110), (2, 111), (2, 112), (2, 113), (2, 114), (2, 115), (0, 0), (0, 0), (0, 0), (0, 0), (2, 116)]) -- Model
  | 105 => (1, 440, []) -- Model.tape
  | 106 => (1, 223, []) -- Model.now
  | 107 => (1, 223, []) -- Model.read
  | 108 => (1, 1784, []) -- Model.snaps
  | 109 => (1, 10, []) -- Model.ranked
  | 110 => (1, 24, []) -- Model.low
  | 111 => (1, 24, []) -- Model.high
  | 112 => (1, 6, []) -- Model.buyLow
  | 113 => (1, 6, []) -- Model.buyHigh
  | 114 => (1, 6, []) -- Model.sellLow
  | 115 => (1, 6, []) -- Model.sellHigh
  | 116 => (1, 24, []) -- Model.fills
  | 117 => (2, 1, []) -- out
  | _ => (9, 0, [])
/-- the methods: name, bytes, locals, answer; 0 static, else 1 + the class of the receiver; parameters -/
def bc_MT (k : Nat) : (MethodName × ByteArray × Nat × Option FieldType) × Nat × Nat := match k with
  | 0 => ((yX0_init, cX0_init, 2, none), 1, 1)
  | 1 => ((yX0_suppose, cX0_suppose, 3, none), 1, 2)
  | 2 => ((yX0_choose, cX0_choose, 4, none), 1, 2)
  | 3 => ((yX0_descend, cX0_descend, 5, none), 1, 2)
  | 4 => ((yX0_mostOf, cX0_mostOf, 2, some FieldType.int), 1, 1)
  | 5 => ((yX0_share, cX0_share, 6, none), 1, 0)
  | 6 => ((yX0_arrange, cX0_arrange, 4, none), 1, 1)
  | 7 => ((yX0_gather, cX0_gather, 3, none), 1, 1)
  | 8 => ((yX0_addLeast, cX0_addLeast, 3, none), 1, 2)
  | 9 => ((yX0_addSize, cX0_addSize, 3, none), 1, 2)
  | 10 => ((yX0_leastOf, cX0_leastOf, 2, some FieldType.int), 1, 1)
  | 11 => ((yX1_init, cX1_init, 1, none), 2, 0)
  | 12 => ((yX1_clear, cX1_clear, 1, none), 2, 0)
  | 13 => ((yX1_copy, cX1_copy, 2, none), 2, 1)
  | 14 => ((yX1_add, cX1_add, 6, none), 2, 5)
  | 15 => ((yX1_has, cX1_has, 2, some FieldType.boolean), 2, 1)
  | 16 => ((yX1_isOpen, cX1_isOpen, 2, some FieldType.boolean), 2, 1)
  | 17 => ((yX1_isWilling, cX1_isWilling, 3, some FieldType.boolean), 2, 2)
  | 18 => ((yX1_openOrders, cX1_openOrders, 3, some FieldType.int), 2, 0)
  | 19 => ((yX1_willingOrders, cX1_willingOrders, 4, some FieldType.int), 2, 1)
  | 20 => ((yX1_isAhead, cX1_isAhead, 3, some FieldType.boolean), 2, 2)
  | 21 => ((yX1_openAhead, cX1_openAhead, 4, some FieldType.int), 2, 1)
  | 22 => ((yX1_sizeAcross, cX1_sizeAcross, 4, some FieldType.int), 2, 1)
  | 23 => ((yX1_trade, cX1_trade, 7, none), 2, 3)
  | 24 => ((yX1_firmsOf, cX1_firmsOf, 5, some FieldType.int), 2, 2)
  | 25 => ((yX2_init, cX2_init, 2, none), 3, 0)
  | 26 => ((yX2_keep, cX2_keep, 2, none), 3, 1)
  | 27 => ((yX2_restore, cX2_restore, 3, some FieldType.boolean), 3, 1)
  | 28 => ((yX2_forget, cX2_forget, 1, none), 3, 0)
  | 29 => ((yX3_init, cX3_init, 2, none), 4, 1)
  | 30 => ((yX3_read, cX3_read, 3, some FieldType.int), 4, 1)
  | 31 => ((yX3_readMid, cX3_readMid, 2, some FieldType.boolean), 4, 1)
  | 32 => ((yX3_readOrder, cX3_readOrder, 6, some FieldType.boolean), 4, 1)
  | 33 => ((yX3_readNumber, cX3_readNumber, 3, some FieldType.boolean), 4, 2)
  | 34 => ((yX3_readSign, cX3_readSign, 1, some FieldType.boolean), 4, 0)
  | 35 => ((yX3_refuse, cX3_refuse, 2, some FieldType.boolean), 4, 1)
  | 36 => ((yX3_scan, cX3_scan, 2, none), 4, 0)
  | 37 => ((yX3_scanName, cX3_scanName, 4, none), 4, 0)
  | 38 => ((yX3_spells, cX3_spells, 3, some FieldType.boolean), 4, 1)
  | 39 => ((yX3_isBlank, cX3_isBlank, 1, some FieldType.boolean), 0, 1)
  | 40 => ((yX3_isLetter, cX3_isLetter, 1, some FieldType.boolean), 0, 1)
  | 41 => ((yX3_isDigit, cX3_isDigit, 1, some FieldType.boolean), 0, 1)
  | 42 => ((yX4_init, cX4_init, 1, none), 5, 0)
  | 43 => ((yX4_clear, cX4_clear, 2, none), 5, 0)
  | 44 => ((yX4_isCell, cX4_isCell, 2, some FieldType.boolean), 0, 2)
  | 45 => ((yX4_addLow, cX4_addLow, 4, none), 5, 3)
  | 46 => ((yX4_addHigh, cX4_addHigh, 4, none), 5, 3)
  | 47 => ((yX4_most, cX4_most, 6, some FieldType.int), 5, 0)
  | 48 => ((yX4_spare, cX4_spare, 6, some FieldType.int), 5, 3)
  | 49 => ((yX5_init, cX5_init, 1, none), 6, 0)
  | 50 => ((yX5_hasRoom, cX5_hasRoom, 1, some FieldType.boolean), 6, 0)
  | 51 => ((yX5_put, cX5_put, 3, none), 6, 1)
  | 52 => ((yX5_byteAt, cX5_byteAt, 2, some FieldType.int), 6, 1)
  | 53 => ((yX6_init, cX6_init, 1, none), 7, 0)
  | 54 => ((yX6_feed, cX6_feed, 6, some FieldType.int), 7, 5)
  | 55 => ((yX6_end, cX6_end, 2, some FieldType.boolean), 7, 1)
  | 56 => ((yX6_text, cX6_text, 2, some FieldType.int), 7, 0)
  | 57 => ((yX6_fault, cX6_fault, 1, some FieldType.int), 7, 0)
  | 58 => ((yX6_now, cX6_now, 2, some FieldType.int), 7, 1)
  | 59 => ((yX6_order, cX6_order, 3, some FieldType.int), 7, 2)
  | 60 => ((yX6_rank, cX6_rank, 3, some FieldType.int), 7, 1)
  | 61 => ((yX6_chosen, cX6_chosen, 3, some FieldType.int), 7, 2)
  | 62 => ((yX6_fill, cX6_fill, 2, some FieldType.int), 7, 1)
  | 63 => ((yX6_why, cX6_why, 4, some FieldType.int), 7, 1)
  | 64 => ((yX6_volume, cX6_volume, 3, some FieldType.int), 7, 1)
  | 65 => ((yX6_best, cX6_best, 6, some FieldType.int), 7, 0)
  | 66 => ((yX6_were, cX6_were, 4, some FieldType.int), 7, 2)
  | 67 => ((yX6_worth, cX6_worth, 4, some FieldType.int), 7, 1)
  | 68 => ((yX6_reach, cX6_reach, 6, some FieldType.int), 7, 1)
  | 69 => ((yX6_come, cX6_come, 7, some FieldType.int), 7, 5)
  | 70 => ((yX6_withdraw, cX6_withdraw, 2, some FieldType.int), 7, 1)
  | 71 => ((yX6_amend, cX6_amend, 4, some FieldType.int), 7, 3)
  | 72 => ((yX6_mid, cX6_mid, 3, some FieldType.int), 7, 1)
  | 73 => ((yX6_run, cX6_run, 1, some FieldType.int), 7, 0)
  | 74 => ((yX6_undo, cX6_undo, 1, some FieldType.int), 7, 0)
  | 75 => ((yX6_volumeAt, cX6_volumeAt, 2, some FieldType.int), 7, 1)
  | 76 => ((yX6_change, cX6_change, 5, some FieldType.int), 7, 3)
  | 77 => ((yX6_isPrice, cX6_isPrice, 1, some FieldType.boolean), 0, 1)
  | 78 => ((yX6_isIn, cX6_isIn, 2, some FieldType.boolean), 0, 2)
  | 79 => ((yX7_thrown, cX7_thrown, 1, some FieldType.int), 8, 0)
  | 80 => ((yX7_refuse, cX7_refuse, 1, some FieldType.int), 8, 0)
  | 81 => ((yX7_isIn, cX7_isIn, 3, some FieldType.boolean), 0, 3)
  | 82 => ((yX7_has, cX7_has, 2, some FieldType.boolean), 0, 2)
  | 83 => ((yX7_lays, cX7_lays, 3, none), 8, 1)
  | 84 => ((yX7_feed, cX7_feed, 6, some FieldType.int), 8, 5)
  | 85 => ((yX7_end, cX7_end, 2, some FieldType.boolean), 8, 1)
  | 86 => ((yX7_tapeAt, cX7_tapeAt, 2, some FieldType.int), 8, 1)
  | 87 => ((yX7_isDigit, cX7_isDigit, 1, some FieldType.boolean), 0, 1)
  | 88 => ((yX7_isLetter, cX7_isLetter, 1, some FieldType.boolean), 0, 1)
  | 89 => ((yX7_go, cX7_go, 5, none), 8, 0)
  | 90 => ((yX7_is, cX7_is, 7, some FieldType.boolean), 8, 4)
  | 91 => ((yX7_bad, cX7_bad, 2, some FieldType.boolean), 8, 1)
  | 92 => ((yX7_init, cX7_init, 1, none), 8, 0)
  | 93 => ((yX7_clears, cX7_clears, 2, none), 0, 1)
  | 94 => ((yX7_told, cX7_told, 4, some FieldType.boolean), 8, 3)
  | 95 => ((yX7_readMid, cX7_readMid, 1, some FieldType.boolean), 8, 0)
  | 96 => ((yX7_readOrder, cX7_readOrder, 3, some FieldType.boolean), 8, 1)
  | 97 => ((yX7_readLine, cX7_readLine, 3, some FieldType.boolean), 8, 1)
  | 98 => ((yX7_readEnd, cX7_readEnd, 1, some FieldType.boolean), 8, 0)
  | 99 => ((yX7_text, cX7_text, 3, some FieldType.int), 8, 0)
  | 100 => ((yX7_fault, cX7_fault, 1, some FieldType.int), 8, 0)
  | 101 => ((yX7_isOrder, cX7_isOrder, 2, some FieldType.boolean), 8, 1)
  | 102 => ((yX7_its, cX7_its, 3, some FieldType.int), 8, 2)
  | 103 => ((yX7_isOpen, cX7_isOpen, 2, some FieldType.boolean), 8, 1)
  | 104 => ((yX7_isWilling, cX7_isWilling, 3, some FieldType.boolean), 8, 2)
  | 105 => ((yX7_openSet, cX7_openSet, 3, some FieldType.int), 8, 0)
  | 106 => ((yX7_now, cX7_now, 2, some FieldType.int), 8, 1)
  | 107 => ((yX7_order, cX7_order, 3, some FieldType.int), 8, 2)
  | 108 => ((yX7_isAhead, cX7_isAhead, 3, some FieldType.boolean), 8, 2)
  | 109 => ((yX7_laysRanks, cX7_laysRanks, 3, none), 8, 0)
  | 110 => ((yX7_rank, cX7_rank, 2, some FieldType.int), 8, 1)
  | 111 => ((yX7_laysBounds, cX7_laysBounds, 2, none), 8, 0)
  | 112 => ((yX7_sum, cX7_sum, 3, some FieldType.int), 0, 1)
  | 113 => ((yX7_laysVolumes, cX7_laysVolumes, 8, some FieldType.boolean), 8, 1)
  | 114 => ((yX7_laysChosen, cX7_laysChosen, 7, none), 8, 2)
  | 115 => ((yX7_choosesNow, cX7_choosesNow, 1, none), 8, 0)
  | 116 => ((yX7_chosen, cX7_chosen, 3, some FieldType.int), 8, 2)
  | 117 => ((yX7_laysFills, cX7_laysFills, 8, none), 8, 0)
  | 118 => ((yX7_fill, cX7_fill, 2, some FieldType.int), 8, 1)
  | 119 => ((yX7_isOther, cX7_isOther, 3, some FieldType.boolean), 8, 2)
  | 120 => ((yX7_canTrade, cX7_canTrade, 4, some FieldType.boolean), 8, 1)
  | 121 => ((yX7_why, cX7_why, 5, some FieldType.int), 8, 1)
  | 122 => ((yX7_volume, cX7_volume, 3, some FieldType.int), 8, 1)
  | 123 => ((yX7_best, cX7_best, 6, some FieldType.int), 8, 0)
  | 124 => ((yX7_were, cX7_were, 3, some FieldType.int), 8, 2)
  | 125 => ((yX7_worth, cX7_worth, 3, some FieldType.int), 8, 1)
  | 126 => ((yX7_reach, cX7_reach, 5, some FieldType.int), 8, 1)
  | 127 => ((yX7_snap, cX7_snap, 2, none), 8, 0)
  | 128 => ((yX7_come, cX7_come, 8, some FieldType.int), 8, 5)
  | 129 => ((yX7_withdraw, cX7_withdraw, 2, some FieldType.int), 8, 1)
  | 130 => ((yX7_becomes, cX7_becomes, 4, some FieldType.int), 8, 2)
  | 131 => ((yX7_amend, cX7_amend, 4, some FieldType.int), 8, 3)
  | 132 => ((yX7_mid, cX7_mid, 2, some FieldType.int), 8, 1)
  | 133 => ((yX7_leaksOf, cX7_leaksOf, 4, some FieldType.int), 8, 1)
  | 134 => ((yX7_run, cX7_run, 5, some FieldType.int), 8, 0)
  | 135 => ((yX7_undo, cX7_undo, 2, some FieldType.int), 8, 0)
  | 136 => ((yJ6_bitCount_0f7a4, cJ6_bitCount_0f7a4, 1, some FieldType.int), 0, 1)
  | 137 => ((yJ9_max_7cf53, cJ9_max_7cf53, 2, some FieldType.int), 0, 2)
  | 138 => ((yJ9_min_7cf53, cJ9_min_7cf53, 2, some FieldType.int), 0, 2)
  | 139 => ((yJ0_length_8abf5, cJ0_length_8abf5, 1, some FieldType.int), 91, 0)
  | 140 => ((yJ0_charAt_5068e, cJ0_charAt_5068e, 2, some FieldType.char), 91, 1)
  | 141 => ((yJ0_coder_7d493, cJ0_coder_7d493, 1, some FieldType.byte), 91, 0)
  | 142 => ((yJ0_isLatin1_aae02, cJ0_isLatin1_aae02, 1, some FieldType.boolean), 91, 0)
  | 143 => ((yJ0_checkIndex_df160, cJ0_checkIndex_df160, 2, none), 0, 2)
  | 144 => ((yJ1_charAt_3b067, cJ1_charAt_3b067, 2, some FieldType.char), 0, 2)
  | 145 => ((yJ2_getChar_3b067, cJ2_getChar_3b067, 2, some FieldType.char), 0, 2)
  | 146 => ((yJ2_length_9d52b, cJ2_length_9d52b, 1, some FieldType.int), 0, 1)
  | 147 => ((yJ2_charAt_3b067, cJ2_charAt_3b067, 2, some FieldType.char), 0, 2)
  | 148 => ((yJ2_checkIndex_2214a, cJ2_checkIndex_2214a, 2, none), 0, 2)
  | 149 => ((yJ3_checkIndex_8e157, cJ3_checkIndex_8e157, 3, some FieldType.int), 0, 3)
  | _ => ((yX0_init, cX0_init, 0, none), 0, 0)
def bc_MP (k : Nat) : Nat × Nat × Nat × Nat := match k with
  | 1 => (614, 613, 39, 79)
  | 2 => (514, 513, 23, 79)
  | 3 => (542, 541, 28, 79)
  | 4 => (598, 597, 37, 79)
  | 5 => (571, 570, 33, 79)
  | 6 => (518, 517, 24, 79)
  | 7 => (575, 574, 34, 79)
  | 8 => (554, 553, 30, 79)
  | 9 => (530, 529, 26, 79)
  | 10 => (558, 557, 31, 79)
  | 12 => (347, 346, 3, 78)
  | 13 => (454, 453, 14, 78)
  | 14 => (450, 449, 13, 78)
  | 15 => (482, 481, 18, 78)
  | 16 => (478, 477, 17, 78)
  | 17 => (510, 509, 22, 78)
  | 18 => (474, 473, 16, 78)
  | 19 => (506, 505, 21, 78)
  | 20 => (495, 494, 20, 78)
  | 21 => (491, 490, 19, 78)
  | 22 => (589, 588, 36, 78)
  | 23 => (663, 662, 42, 78)
  | 24 => (667, 666, 43, 78)
  | 26 => (636, 635, 40, 81)
  | 27 => (677, 676, 44, 81)
  | 28 => (461, 460, 15, 81)
  | 30 => (343, 342, 2, 77)
  | 31 => (375, 374, 7, 77)
  | 32 => (444, 443, 12, 77)
  | 33 => (436, 435, 10, 77)
  | 34 => (440, 439, 11, 77)
  | 35 => (432, 431, 9, 77)
  | 36 => (351, 350, 4, 77)
  | 37 => (365, 364, 6, 77)
  | 38 => (380, 379, 8, 77)
  | 39 => (361, 360, 0, 77)
  | 40 => (368, 367, 0, 77)
  | 41 => (371, 370, 0, 77)
  | 43 => (526, 525, 25, 80)
  | 44 => (538, 537, 0, 80)
  | 45 => (562, 561, 32, 80)
  | 46 => (535, 534, 27, 80)
  | 47 => (546, 545, 29, 80)
  | 48 => (579, 578, 35, 80)
  | 50 => (327, 326, 0, 76)
  | 51 => (331, 330, 1, 76)
  | 52 => (358, 357, 5, 76)
  | 54 => (323, 321, 322, 75)
  | 55 => (335, 333, 334, 75)
  | 56 => (339, 337, 338, 75)
  | 57 => (466, 464, 465, 75)
  | 58 => (470, 468, 469, 75)
  | 59 => (685, 683, 684, 75)
  | 60 => (486, 484, 485, 75)
  | 61 => (499, 497, 498, 75)
  | 62 => (566, 564, 565, 75)
  | 63 => (584, 582, 583, 75)
  | 64 => (594, 592, 593, 75)
  | 65 => (602, 600, 601, 75)
  | 66 => (610, 608, 609, 75)
  | 67 => (618, 616, 617, 75)
  | 68 => (622, 620, 621, 75)
  | 69 => (626, 624, 625, 75)
  | 70 => (643, 641, 642, 75)
  | 71 => (647, 645, 646, 75)
  | 72 => (655, 653, 654, 75)
  | 73 => (659, 657, 658, 75)
  | 74 => (673, 671, 672, 75)
  | 75 => (606, 605, 38, 75)
  | 76 => (651, 650, 41, 75)
  | 77 => (502, 501, 0, 75)
  | 78 => (521, 520, 0, 75)
  | 79 => (750, 748, 749, 82)
  | 80 => (939, 938, 60, 82)
  | 81 => (899, 898, 0, 82)
  | 82 => (970, 969, 0, 82)
  | 83 => (759, 757, 46, 82)
  | 84 => (754, 752, 753, 82)
  | 85 => (763, 761, 762, 82)
  | 86 => (874, 873, 48, 82)
  | 87 => (870, 869, 0, 82)
  | 88 => (867, 866, 0, 82)
  | 89 => (864, 863, 47, 82)
  | 90 => (884, 883, 50, 82)
  | 91 => (896, 895, 53, 82)
  | 93 => (771, 770, 0, 82)
  | 94 => (892, 891, 52, 82)
  | 95 => (888, 887, 51, 82)
  | 96 => (903, 902, 54, 82)
  | 97 => (880, 879, 49, 82)
  | 98 => (907, 906, 55, 82)
  | 99 => (860, 858, 859, 82)
  | 100 => (911, 909, 910, 82)
  | 101 => (927, 926, 58, 82)
  | 102 => (931, 930, 59, 82)
  | 103 => (923, 922, 57, 82)
  | 104 => (943, 942, 61, 82)
  | 105 => (919, 918, 56, 82)
  | 106 => (915, 913, 914, 82)
  | 107 => (935, 933, 934, 82)
  | 108 => (955, 954, 63, 82)
  | 109 => (951, 950, 62, 82)
  | 110 => (947, 945, 946, 82)
  | 111 => (963, 962, 64, 82)
  | 112 => (977, 976, 0, 82)
  | 113 => (974, 973, 66, 82)
  | 114 => (967, 966, 65, 82)
  | 115 => (989, 988, 68, 82)
  | 116 => (959, 957, 958, 82)
  | 117 => (985, 984, 67, 82)
  | 118 => (981, 979, 980, 82)
  | 119 => (997, 996, 69, 82)
  | 120 => (1001, 1000, 70, 82)
  | 121 => (993, 991, 992, 82)
  | 122 => (1005, 1003, 1004, 82)
  | 123 => (1009, 1007, 1008, 82)
  | 124 => (1013, 1011, 1012, 82)
  | 125 => (1017, 1015, 1016, 82)
  | 126 => (1021, 1019, 1020, 82)
  | 127 => (1029, 1028, 71, 82)
  | 128 => (1025, 1023, 1024, 82)
  | 129 => (1033, 1031, 1032, 82)
  | 130 => (1041, 1040, 72, 82)
  | 131 => (1037, 1035, 1036, 82)
  | 132 => (1045, 1043, 1044, 82)
  | 133 => (1053, 1052, 73, 82)
  | 134 => (1049, 1047, 1048, 82)
  | 135 => (1057, 1055, 1056, 82)
  | 136 => (629, 628, 0, 93)
  | _ => (0, 0, 0, 0)
def bc_gl0 : List Nat := [1, 2, 3, 4, 5, 6, 7, 8, 9, 10, 12, 13, 14, 15, 16, 17, 18, 19, 20, 21, 22, 23, 24, 26]
def bc_gl1 : List Nat := [27, 28, 30, 31, 32, 33, 34, 35, 36, 37, 38, 39, 40, 41, 43, 44, 45, 46, 47, 48, 50, 51, 52, 54]
def bc_gl2 : List Nat := [55, 56, 57, 58, 59, 60, 61, 62, 63, 64, 65, 66, 67, 68, 69, 70, 71, 72, 73, 74, 75, 76, 77, 78]
def bc_gl3 : List Nat := [79, 80, 81, 82, 83, 84, 85, 86, 87, 88, 89, 90, 91, 93, 94, 95, 96, 97, 98, 99, 100, 101, 102, 103]
def bc_gl4 : List Nat := [104, 105, 106, 107, 108, 109, 110, 111, 112, 113, 114, 115, 116, 117, 118, 119, 120, 121, 122, 123, 124, 125, 126, 127]
def bc_gl5 : List Nat := [128, 129, 130, 131, 132, 133, 134, 135, 136]
def bc_gl : List Nat := bc_gl0 ++ (bc_gl1 ++ (bc_gl2 ++ (bc_gl3 ++ (bc_gl4 ++ (bc_gl5)))))
def bc_good (mi : Nat) : Bool := bc_gl.contains mi
set_option maxRecDepth 100000 in
theorem bc_mc0 : ∀ mi ∈ bc_gl0, lw_tbl[(bc_MP mi).1]? = some (Cond.code (bc_MT mi).1.1 (bc_MT mi).1.2.1 (bc_MT mi).1.2.2.1 (bc_MT mi).1.2.2.2) := List.forall_mem_cons.mpr ⟨rfl, List.forall_mem_cons.mpr ⟨rfl, List.forall_mem_cons.mpr ⟨rfl, List.forall_mem_cons.mpr ⟨rfl, List.forall_mem_cons.mpr ⟨rfl, List.forall_mem_cons.mpr ⟨rfl, List.forall_mem_cons.mpr ⟨rfl, List.forall_mem_cons.mpr ⟨rfl, List.forall_mem_cons.mpr ⟨rfl, List.forall_mem_cons.mpr ⟨rfl, List.forall_mem_cons.mpr ⟨rfl, List.forall_mem_cons.mpr ⟨rfl, List.forall_mem_cons.mpr ⟨rfl, List.forall_mem_cons.mpr ⟨rfl, List.forall_mem_cons.mpr ⟨rfl, List.forall_mem_cons.mpr ⟨rfl, List.forall_mem_cons.mpr ⟨rfl, List.forall_mem_cons.mpr ⟨rfl, List.forall_mem_cons.mpr ⟨rfl, List.forall_mem_cons.mpr ⟨rfl, List.forall_mem_cons.mpr ⟨rfl, List.forall_mem_cons.mpr ⟨rfl, List.forall_mem_cons.mpr ⟨rfl, List.forall_mem_cons.mpr ⟨rfl, fun _ h => by cases h⟩⟩⟩⟩⟩⟩⟩⟩⟩⟩⟩⟩⟩⟩⟩⟩⟩⟩⟩⟩⟩⟩⟩⟩
set_option maxRecDepth 100000 in
theorem bc_mc1 : ∀ mi ∈ bc_gl1, lw_tbl[(bc_MP mi).1]? = some (Cond.code (bc_MT mi).1.1 (bc_MT mi).1.2.1 (bc_MT mi).1.2.2.1 (bc_MT mi).1.2.2.2) := List.forall_mem_cons.mpr ⟨rfl, List.forall_mem_cons.mpr ⟨rfl, List.forall_mem_cons.mpr ⟨rfl, List.forall_mem_cons.mpr ⟨rfl, List.forall_mem_cons.mpr ⟨rfl, List.forall_mem_cons.mpr ⟨rfl, List.forall_mem_cons.mpr ⟨rfl, List.forall_mem_cons.mpr ⟨rfl, List.forall_mem_cons.mpr ⟨rfl, List.forall_mem_cons.mpr ⟨rfl, List.forall_mem_cons.mpr ⟨rfl, List.forall_mem_cons.mpr ⟨rfl, List.forall_mem_cons.mpr ⟨rfl, List.forall_mem_cons.mpr ⟨rfl, List.forall_mem_cons.mpr ⟨rfl, List.forall_mem_cons.mpr ⟨rfl, List.forall_mem_cons.mpr ⟨rfl, List.forall_mem_cons.mpr ⟨rfl, List.forall_mem_cons.mpr ⟨rfl, List.forall_mem_cons.mpr ⟨rfl, List.forall_mem_cons.mpr ⟨rfl, List.forall_mem_cons.mpr ⟨rfl, List.forall_mem_cons.mpr ⟨rfl, List.forall_mem_cons.mpr ⟨rfl, fun _ h => by cases h⟩⟩⟩⟩⟩⟩⟩⟩⟩⟩⟩⟩⟩⟩⟩⟩⟩⟩⟩⟩⟩⟩⟩⟩
set_option maxRecDepth 100000 in
theorem bc_mc2 : ∀ mi ∈ bc_gl2, lw_tbl[(bc_MP mi).1]? = some (Cond.code (bc_MT mi).1.1 (bc_MT mi).1.2.1 (bc_MT mi).1.2.2.1 (bc_MT mi).1.2.2.2) := List.forall_mem_cons.mpr ⟨rfl, List.forall_mem_cons.mpr ⟨rfl, List.forall_mem_cons.mpr ⟨rfl, List.forall_mem_cons.mpr ⟨rfl, List.forall_mem_cons.mpr ⟨rfl, List.forall_mem_cons.mpr ⟨rfl, List.forall_mem_cons.mpr ⟨rfl, List.forall_mem_cons.mpr ⟨rfl, List.forall_mem_cons.mpr ⟨rfl, List.forall_mem_cons.mpr ⟨rfl, List.forall_mem_cons.mpr ⟨rfl, List.forall_mem_cons.mpr ⟨rfl, List.forall_mem_cons.mpr ⟨rfl, List.forall_mem_cons.mpr ⟨rfl, List.forall_mem_cons.mpr ⟨rfl, List.forall_mem_cons.mpr ⟨rfl, List.forall_mem_cons.mpr ⟨rfl, List.forall_mem_cons.mpr ⟨rfl, List.forall_mem_cons.mpr ⟨rfl, List.forall_mem_cons.mpr ⟨rfl, List.forall_mem_cons.mpr ⟨rfl, List.forall_mem_cons.mpr ⟨rfl, List.forall_mem_cons.mpr ⟨rfl, List.forall_mem_cons.mpr ⟨rfl, fun _ h => by cases h⟩⟩⟩⟩⟩⟩⟩⟩⟩⟩⟩⟩⟩⟩⟩⟩⟩⟩⟩⟩⟩⟩⟩⟩
set_option maxRecDepth 100000 in
theorem bc_mc3 : ∀ mi ∈ bc_gl3, lw_tbl[(bc_MP mi).1]? = some (Cond.code (bc_MT mi).1.1 (bc_MT mi).1.2.1 (bc_MT mi).1.2.2.1 (bc_MT mi).1.2.2.2) := List.forall_mem_cons.mpr ⟨rfl, List.forall_mem_cons.mpr ⟨rfl, List.forall_mem_cons.mpr ⟨rfl, List.forall_mem_cons.mpr ⟨rfl, List.forall_mem_cons.mpr ⟨rfl, List.forall_mem_cons.mpr ⟨rfl, List.forall_mem_cons.mpr ⟨rfl, List.forall_mem_cons.mpr ⟨rfl, List.forall_mem_cons.mpr ⟨rfl, List.forall_mem_cons.mpr ⟨rfl, List.forall_mem_cons.mpr ⟨rfl, List.forall_mem_cons.mpr ⟨rfl, List.forall_mem_cons.mpr ⟨rfl, List.forall_mem_cons.mpr ⟨rfl, List.forall_mem_cons.mpr ⟨rfl, List.forall_mem_cons.mpr ⟨rfl, List.forall_mem_cons.mpr ⟨rfl, List.forall_mem_cons.mpr ⟨rfl, List.forall_mem_cons.mpr ⟨rfl, List.forall_mem_cons.mpr ⟨rfl, List.forall_mem_cons.mpr ⟨rfl, List.forall_mem_cons.mpr ⟨rfl, List.forall_mem_cons.mpr ⟨rfl, List.forall_mem_cons.mpr ⟨rfl, fun _ h => by cases h⟩⟩⟩⟩⟩⟩⟩⟩⟩⟩⟩⟩⟩⟩⟩⟩⟩⟩⟩⟩⟩⟩⟩⟩
set_option maxRecDepth 100000 in
theorem bc_mc4 : ∀ mi ∈ bc_gl4, lw_tbl[(bc_MP mi).1]? = some (Cond.code (bc_MT mi).1.1 (bc_MT mi).1.2.1 (bc_MT mi).1.2.2.1 (bc_MT mi).1.2.2.2) := List.forall_mem_cons.mpr ⟨rfl, List.forall_mem_cons.mpr ⟨rfl, List.forall_mem_cons.mpr ⟨rfl, List.forall_mem_cons.mpr ⟨rfl, List.forall_mem_cons.mpr ⟨rfl, List.forall_mem_cons.mpr ⟨rfl, List.forall_mem_cons.mpr ⟨rfl, List.forall_mem_cons.mpr ⟨rfl, List.forall_mem_cons.mpr ⟨rfl, List.forall_mem_cons.mpr ⟨rfl, List.forall_mem_cons.mpr ⟨rfl, List.forall_mem_cons.mpr ⟨rfl, List.forall_mem_cons.mpr ⟨rfl, List.forall_mem_cons.mpr ⟨rfl, List.forall_mem_cons.mpr ⟨rfl, List.forall_mem_cons.mpr ⟨rfl, List.forall_mem_cons.mpr ⟨rfl, List.forall_mem_cons.mpr ⟨rfl, List.forall_mem_cons.mpr ⟨rfl, List.forall_mem_cons.mpr ⟨rfl, List.forall_mem_cons.mpr ⟨rfl, List.forall_mem_cons.mpr ⟨rfl, List.forall_mem_cons.mpr ⟨rfl, List.forall_mem_cons.mpr ⟨rfl, fun _ h => by cases h⟩⟩⟩⟩⟩⟩⟩⟩⟩⟩⟩⟩⟩⟩⟩⟩⟩⟩⟩⟩⟩⟩⟩⟩
set_option maxRecDepth 100000 in
theorem bc_mc5 : ∀ mi ∈ bc_gl5, lw_tbl[(bc_MP mi).1]? = some (Cond.code (bc_MT mi).1.1 (bc_MT mi).1.2.1 (bc_MT mi).1.2.2.1 (bc_MT mi).1.2.2.2) := List.forall_mem_cons.mpr ⟨rfl, List.forall_mem_cons.mpr ⟨rfl, List.forall_mem_cons.mpr ⟨rfl, List.forall_mem_cons.mpr ⟨rfl, List.forall_mem_cons.mpr ⟨rfl, List.forall_mem_cons.mpr ⟨rfl, List.forall_mem_cons.mpr ⟨rfl, List.forall_mem_cons.mpr ⟨rfl, List.forall_mem_cons.mpr ⟨rfl, fun _ h => by cases h⟩⟩⟩⟩⟩⟩⟩⟩⟩
theorem bc_mc : ∀ mi ∈ bc_gl, lw_tbl[(bc_MP mi).1]? = some (Cond.code (bc_MT mi).1.1 (bc_MT mi).1.2.1 (bc_MT mi).1.2.2.1 (bc_MT mi).1.2.2.2) := (List.forall_mem_append.mpr ⟨bc_mc0, (List.forall_mem_append.mpr ⟨bc_mc1, (List.forall_mem_append.mpr ⟨bc_mc2, (List.forall_mem_append.mpr ⟨bc_mc3, (List.forall_mem_append.mpr ⟨bc_mc4, bc_mc5⟩)⟩)⟩)⟩)⟩)
def bc_NC : Nat := 118
def bc_NM : Nat := 150
end
section
/-! THE SYSTEM AS A PURE PICTURE: cells by number (bc_lay), ints as unbounded Int, references by the number of their cell -/
abbrev bc_AV : Type := Int ⊕ (Int ⊕ Nat)
abbrev bc_AH : Type := Nat → Nat → Int
abbrev bc_ZT : Type := va_G × (Nat → Nat) × ClassId × ClassId × ClassId
abbrev bc_En : Type := Nat × Instr × Nat × List Nat
def bc_GW : List Cond := lw_tbl.filter goodWord
def bc_isN (w : Cond) : Bool := match w with
  | .fieldLinkNest .. => true
  | .methodLinkNest .. => true
  | _ => false
def bc_NW : List Cond := lw_tbl.filter bc_isN
def bc_inG (i : Nat) (w : Cond) : Bool := decide (lw_tbl[i]? = some w) && goodWord w
def bc_inN (i : Nat) (w : Cond) : Bool := decide (lw_tbl[i]? = some w) && bc_isN w
theorem bc_inG_mem {i : Nat} {w : Cond} (h : bc_inG i w = true) : w ∈ bc_GW := by
  simp only [bc_inG, Bool.and_eq_true, decide_eq_true_eq] at h
  exact List.mem_filter.mpr ⟨List.mem_of_getElem? h.1, h.2⟩
theorem bc_inN_mem {i : Nat} {w : Cond} (h : bc_inN i w = true) : w ∈ bc_NW := by
  simp only [bc_inN, Bool.and_eq_true, decide_eq_true_eq] at h
  exact List.mem_filter.mpr ⟨List.mem_of_getElem? h.1, h.2⟩
theorem bc_GW_good {w : Cond} (h : w ∈ bc_GW) : (w.onTables && w.keeps) = true ∨ ∃ ty, w = .arrayClass ty := good_of_word (List.mem_filter.mp h).2
-- what an abstract value, field, cell is in the machine
def bc_cv (ad : Nat → Nat) (v : bc_AV) : Value := match v with
  | .inl x => .int (Int32.ofInt x)
  | .inr (.inl x) => .long (Int64.ofInt x)
  | .inr (.inr r) => .ref (ad r)
def bc_cat (v : bc_AV) : Nat := match v with
  | .inl _ => 1
  | .inr (.inl _) => 2
  | .inr (.inr _) => 1
theorem bc_cv_cat (ad : Nat → Nat) (v : bc_AV) : (bc_cv ad v).category = bc_cat v := by
  rcases v with x | x | x <;> rfl
def bc_fv (ad : Nat → Nat) (x : Int) (c : Nat × Nat) : Value := match c.1 with
  | 0 => .int (Int32.ofInt x)
  | 1 => .long (Int64.ofInt x)
  | _ => .ref (ad c.2)
def bc_fs (ad : Nat → Nat) (g : Nat → Int) (fs : List (Nat × Nat)) : List Value := (List.range fs.length).map (fun j => bc_fv ad (g j) (fs.getD j (9, 0)))
def bc_E (Z : bc_ZT) (h : bc_AH) (k : Nat) : va_E := match bc_lay k with
  | (0, ci, fs) => .inr (ci, bc_fs Z.2.1 (h k) fs)
  | (1, n, _) => .inl (Z.2.2.1, n, .inl (fun j => Int32.ofInt (h k j)))
  | (2, n, _) => .inl (Z.2.2.2.1, n, .inr (.inl (fun j => Int64.ofInt (h k j))))
  | (_, n, fs) => .inl (Z.2.2.2.2, n, .inr (.inr (.inr (.inr (fun j => some (Z.2.1 (fs.getD j (0, 0)).2))))))
def bc_WS (Z : bc_ZT) (h : bc_AH) : va_W := (List.range bc_NC).map (fun k => (Z.2.1 k, bc_E Z h k))
def bc_up (h : bc_AH) (k j : Nat) (v : Int) : bc_AH := fun a b => if a = k then (if b = j then v else h a b) else h a b
def bc_cpy (h : bc_AH) (a b n : Nat) : bc_AH := fun k j => if k = b then (if j < n then h a j else h k j) else h k j
theorem bc_fs_len (ad : Nat → Nat) (g : Nat → Int) (fs : List (Nat × Nat)) : (bc_fs ad g fs).length = fs.length := by simp [bc_fs]
theorem bc_fs_get (ad : Nat → Nat) (g : Nat → Int) {fs : List (Nat × Nat)} {k : Nat} (hk : k < fs.length) : (bc_fs ad g fs)[k]? = some (bc_fv ad (g k) (fs.getD k (9, 0))) := by
  simp [bc_fs, List.getElem?_map, List.getElem?_range hk]
theorem bc_fs_set (ad : Nat → Nat) (g : Nat → Int) {fs : List (Nat × Nat)} {k : Nat} (v : Int) {w : Value} (hw : bc_fv ad v (fs.getD k (9, 0)) = w) : (bc_fs ad g fs).set k w = bc_fs ad (fun j => if j = k then v else g j) fs := by
  apply List.ext_getElem?
  intro i
  rw [List.getElem?_set, bc_fs_len]
  by_cases hi : i < fs.length
  · rw [bc_fs_get ad _ hi, bc_fs_get ad _ hi]
    by_cases hki : k = i
    · subst hki
      simp [hi, ← hw]
    · have : ¬ i = k := fun q => hki q.symm
      simp [hki, this]
  · have h1 : (bc_fs ad g fs)[i]? = none := List.getElem?_eq_none (by rw [bc_fs_len]; omega)
    have h2 : (bc_fs ad (fun j => if j = k then v else g j) fs)[i]? = none := List.getElem?_eq_none (by rw [bc_fs_len]; omega)
    rw [h1, h2]
    by_cases hki : k = i
    · subst hki
      simp [hi]
    · simp [hki]
theorem bc_WS_len (Z : bc_ZT) (h : bc_AH) : (bc_WS Z h).length = bc_NC := by simp [bc_WS]
theorem bc_WS_get (Z : bc_ZT) (h : bc_AH) {k : Nat} (hk : k < bc_NC) : (bc_WS Z h)[k]? = some (Z.2.1 k, bc_E Z h k) := by
  simp [bc_WS, List.getElem?_map, List.getElem?_range hk]
theorem bc_WS_set (Z : bc_ZT) (h h' : bc_AH) (k : Nat) {E : va_E} (hE : bc_E Z h' k = E) (ho : ∀ j, j ≠ k → bc_E Z h' j = bc_E Z h j) : (bc_WS Z h).set k (Z.2.1 k, E) = bc_WS Z h' := by
  apply List.ext_getElem?
  intro i
  rw [List.getElem?_set, bc_WS_len]
  by_cases hi : i < bc_NC
  · rw [bc_WS_get Z _ hi, bc_WS_get Z _ hi]
    by_cases hki : k = i
    · subst hki
      simp [hi, hE]
    · simp [hki, ho i (fun q => hki q.symm)]
  · have h1 : (bc_WS Z h)[i]? = none := List.getElem?_eq_none (by rw [bc_WS_len]; omega)
    have h2 : (bc_WS Z h')[i]? = none := List.getElem?_eq_none (by rw [bc_WS_len]; omega)
    rw [h1, h2]
    by_cases hki : k = i
    · subst hki
      simp [hi]
    · simp [hki]
theorem bc_E_congr (Z : bc_ZT) {h h' : bc_AH} {k : Nat} (e : h' k = h k) : bc_E Z h' k = bc_E Z h k := by
  unfold bc_E
  rw [e]
theorem bc_E_up_ne (Z : bc_ZT) (h : bc_AH) {k j : Nat} (i : Nat) (v : Int) (hj : j ≠ k) : bc_E Z (bc_up h k i v) j = bc_E Z h j := bc_E_congr Z (by funext b; simp [bc_up, hj])
theorem bc_E_0 (Z : bc_ZT) (h : bc_AH) {k ci : Nat} {fs : List (Nat × Nat)} (e : bc_lay k = (0, ci, fs)) : bc_E Z h k = .inr (ci, bc_fs Z.2.1 (h k) fs) := by
  unfold bc_E; rw [e]; rfl
theorem bc_E_1 (Z : bc_ZT) (h : bc_AH) {k n : Nat} {fs : List (Nat × Nat)} (e : bc_lay k = (1, n, fs)) : bc_E Z h k = .inl (Z.2.2.1, n, .inl (fun j => Int32.ofInt (h k j))) := by
  unfold bc_E; rw [e]; rfl
theorem bc_E_3 (Z : bc_ZT) (h : bc_AH) {k n : Nat} {fs : List (Nat × Nat)} (e : bc_lay k = (3, n, fs)) : bc_E Z h k = .inl (Z.2.2.2.2, n, .inr (.inr (.inr (.inr (fun j => some (Z.2.1 (fs.getD j (0, 0)).2)))))) := by
  unfold bc_E; rw [e]; rfl
theorem bc_lay_out {k : Nat} (hk : ¬ k < bc_NC) : bc_lay k = (9, 0, []) := by
  unfold bc_NC at hk
  unfold bc_lay
  split <;> first | rfl | omega
theorem bc_lay_lt {k t n : Nat} {fs : List (Nat × Nat)} (h : bc_lay k = (t, n, fs)) (ht : t ≠ 9) : k < bc_NC := by
  by_cases hk : k < bc_NC
  · exact hk
  · rw [bc_lay_out hk] at h
    cases h
    exact absurd rfl ht
theorem bc_lay_n {k : Nat} (hk : k < bc_NC) : (bc_lay k).2.1 < 2000 := by
  have h : ∀ k, k < bc_NC → (bc_lay k).2.1 < 2000 := by decide +kernel
  exact h k hk
-- the script's and the literals' own cells are outside; tables
def bc_tys (Z : bc_ZT) : List (ClassId × FieldType) := [(Z.2.2.1, .int), (Z.2.2.2.1, .long), (Z.2.2.2.2, .object "BlockCross$Desk")]
def bc_lit (i : Nat) : Nat × String := match i with
  | 0 => (45, "mid")
  | 1 => (69, "buy")
  | _ => (71, "sell")
def bc_slen : List Nat := [3, 3, 4]
def bc_sbyt : List (List Int32) := [[109, 105, 100], [98, 117, 121], [115, 101, 108, 108]]
def bc_ST (Z : bc_ZT) (A : Nat → Prop) (U : State) (H0 : Heap) : Prop :=
  (∀ i, i < 3 → vk_R "BlockCross$Reader" (bc_lit i).1 (bc_lit i).2 (Z.2.1 (1000 + i)) U) ∧
  vk_S 3 bc_slen bc_sbyt (fun i => Z.2.1 (1000 + i)) (fun i => Z.2.1 (1100 + i)) A U H0 ∧
  va_Z "java/lang/String" "COMPACT_STRINGS" "Z" (.int 1) A U H0 ∧
  va_Zq "jdk/internal/util/Preconditions" "SIOOBE_FORMATTER" "Ljava/util/function/BiFunction;" A U H0
def bc_WK (Z : bc_ZT) (A : Nat → Prop) (U : State) (H0 : Heap) : Prop :=
  va_K Z.1 vwCl (bc_tys Z) U ∧ (∀ w ∈ bc_NW, va_Nw w U) ∧ (∀ i j, i < bc_NC → j < bc_NC → Z.2.1 i = Z.2.1 j → i = j) ∧ (∀ k, k < bc_NC → A (Z.2.1 k)) ∧ bc_ST Z A U H0
theorem bc_Nw_warm {w : Cond} (hw : bc_isN w = true) {s U : State} (hW : s.WarmedH U.vm) (h : va_Nw w s) : va_Nw w U := by
  cases w <;> first | exact va_Nw.warmF hW h | exact va_Nw.warmM hW h | (simp [bc_isN] at hw)
theorem bc_WK_warm {Z : bc_ZT} {A : Nat → Prop} {s U : State} {H0 : Heap} (hW : s.WarmedH U.vm) (h : bc_WK Z A s H0) : bc_WK Z A U H0 := by
  obtain ⟨h1, h2, h3, h4, h5, h6, h7, h8⟩ := h
  exact ⟨va_K.moved hW.alike h1, fun w hw => bc_Nw_warm (List.mem_filter.mp hw).2 hW (h2 w hw), h3, h4, fun i hi => (h5 i hi).warm hW, h6.moved hW.alike, h7.moved hW.alike, h8.moved hW.alike⟩
theorem bc_WK_same {Z : bc_ZT} {A : Nat → Prop} {s U : State} {H0 : Heap} (hW : U.vm = s.vm) (h : bc_WK Z A s H0) : bc_WK Z A U H0 := by
  obtain ⟨h1, h2, h3, h4, h5, h6, h7, h8⟩ := h
  have ha : s.vm.Alike U.vm := by rw [hW]; exact Vm.Alike.refl s.vm
  exact ⟨va_K.moved ha h1, fun w hw => (by
    have hn := (List.mem_filter.mp hw).2
    have hz := h2 w hw
    cases w <;> first | (exact va_Nw.same rfl hW.symm hz) | (simp [bc_isN] at hn)), h3, h4, fun i hi => (h5 i hi).same hW, h6.moved ha, h7.moved ha, h8.moved ha⟩
theorem bc_WK_kept {Z : bc_ZT} {A B : Nat → Prop} {s : State} {H0 H1 : Heap} (h : bc_WK Z A s H0) (hq : ∀ a : Nat, a < H0.size → ¬ A a → H1[a]? = H0[a]?) (hAB : ∀ q, B q → A q) (hB : ∀ k, k < bc_NC → B (Z.2.1 k)) : bc_WK Z B s H1 := by
  obtain ⟨h1, h2, h3, h4, h5, h6, h7, h8⟩ := h
  exact ⟨h1, h2, h3, hB, h5, (h6.kept hq).narrow hAB, (h7.kept hq).narrow hAB, (h8.kept hq).narrow hAB⟩
theorem bc_WK_D {Z : bc_ZT} {A : Nat → Prop} {U : State} {H0 : Heap} (h : bc_WK Z A U H0) (g : bc_AH) : va_D A (bc_WS Z g) := by
  obtain ⟨-, -, h3, h4, -⟩ := h
  have hb : ∀ (i : Nat) (q : Nat × va_E), (bc_WS Z g)[i]? = some q → i < bc_NC ∧ q.1 = Z.2.1 i := by
    intro i q hq
    have hi : i < bc_NC := by
      have := (List.getElem?_eq_some_iff.mp hq).1
      rwa [bc_WS_len] at this
    rw [bc_WS_get Z g hi] at hq
    cases hq
    exact ⟨hi, rfl⟩
  refine ⟨fun i j x y hx hy e => ?_, fun k q hq => ?_⟩
  · obtain ⟨a1, a2⟩ := hb i x hx
    obtain ⟨b1, b2⟩ := hb j y hy
    exact h3 i j a1 b1 (by rw [← a2, ← b2]; exact e)
  · obtain ⟨a1, a2⟩ := hb k q hq
    rw [a2]
    exact h4 k a1
-- a method, its words, its room, its contract
abbrev bc_y (mi : Nat) : MethodName := (bc_MT mi).1.1
abbrev bc_by (mi : Nat) : ByteArray := (bc_MT mi).1.2.1
abbrev bc_mL (mi : Nat) : Nat := (bc_MT mi).1.2.2.1
abbrev bc_rt (mi : Nat) : Option FieldType := (bc_MT mi).1.2.2.2
def bc_ws (mi : Nat) : List Cond := .code (bc_y mi) (bc_by mi) (bc_mL mi) (bc_rt mi) :: bc_GW
def bc_rm (d : Nat) : Room := { frames := d + 1, cells := 0, slots := 0, locals := 64 * (d + 1) }
def bc_A (Z : bc_ZT) (sz : Nat) : Nat → Prop := fun q => (∃ k, k < bc_NC ∧ q = Z.2.1 k) ∨ sz ≤ q
def bc_Q (Z : bc_ZT) (post : Option bc_AV → bc_AH → Prop) (A : Nat → Prop) : Array Value → State → Outcome → State → Prop := fun _ st oc t => (∃ (r : Option bc_AV) (h' : bc_AH), oc = .returned (r.map (bc_cv Z.2.1)) ∧ post r h' ∧ va_P Z.1 vwCl (bc_WS Z h') t.heap) ∧ va_F A st t
def bc_Pre (Z : bc_ZT) (sz : Nat) (args : List bc_AV) (h : bc_AH) : Array Value → State → Prop := va_Pc (args.map (bc_cv Z.2.1)) (fun U => U.heap.size = sz ∧ bc_WK Z (bc_A Z sz) U U.heap ∧ va_P Z.1 vwCl (bc_WS Z h) U.heap)
/-- the contract: method mi, at call depth d, from these arguments and this picture, returns r and leaves a picture h' with post r h' -/
def bc_OKr (d mi : Nat) (args : List bc_AV) (h : bc_AH) (post : Option bc_AV → bc_AH → Prop) : Prop :=
  ∀ (l : Launch) (Z : bc_ZT) (sz : Nat), Met l (bc_y mi) (bc_ws mi) (bc_rm d) (bc_Pre Z sz args h) (bc_Q Z post (bc_A Z sz)) 0 0 (bc_A Z sz)
def bc_L (Z : bc_ZT) (ls : Array Slot) (nL : Nat) (loc : List (Option bc_AV)) : Prop := ls.size = nL ∧ lv_wf ls ∧ ∀ (i : Nat) (v : bc_AV), loc[i]? = some (some v) → ls[i]? = some (.val (bc_cv Z.2.1 v))
def bc_X (mi : Nat) (p : Program) (s : State) (m : MethodId) (args : Array Value) (meth : Method) (c : Code) : Prop :=
  p.tables.exec = Jvm.exec ∧ c.code = bc_by mi ∧ c.maxLocals = bc_mL mi ∧ meth.sig.returnType = bc_rt mi ∧ (∀ w ∈ bc_ws mi, w.before args s = true) ∧ s.vm.findClass (bc_y mi).cls = some m.cls ∧ meth.locks = false
/-- inside method mi (its callees at depth d): from here it comes to its end, with post -/
def bc_ATr (d mi : Nat) (post : Option bc_AV → bc_AH → Prop) (pc : Nat) (loc : List (Option bc_AV)) (st : List bc_AV) (h : bc_AH) : Prop :=
  ∀ (p : Program) (l : Launch) (e : Env) (s : State) (m : MethodId) (args : Array Value) (below : List Frame) (meth : Method) (c : Code) (Z : bc_ZT) (A : Nat → Prop) (H : Heap) (locs : List Loc) (ls : Array Slot),
    bc_X mi p s m args meth c → (∀ q, s.heap.size ≤ q → A q) → bc_WK Z A s s.heap → va_P Z.1 vwCl (bc_WS Z h) H → va_S A s.heap H locs → bc_L Z ls (bc_mL mi) loc →
    W p l e (bc_rm (d + 1)) s m args below meth c H locs 0 0 (MQ below (bc_Q Z post A) args s 0 0 A) (F0 m pc ls (st.map (bc_cv Z.2.1)))
theorem bc_ATr_weak {d mi : Nat} {post : Option bc_AV → bc_AH → Prop} {pc : Nat} {loc loc' : List (Option bc_AV)} {st : List bc_AV} {h : bc_AH} (k : bc_ATr d mi post pc loc' st h) (hl : ∀ (i : Nat) (v : bc_AV), loc'[i]? = some (some v) → loc[i]? = some (some v)) : bc_ATr d mi post pc loc st h := by
  intro p l e s m args below meth c Z A H locs ls hX hA hW hP hS hL
  exact k p l e s m args below meth c Z A H locs ls hX hA hW hP hS ⟨hL.1, hL.2.1, fun i v hi => hL.2.2 i v (hl i v hi)⟩
end
section
/-! ONE LEMMA AN INSTRUCTION, over bc_ATr -/
def bc_vr (x : Int) : Prop := -2147483648 ≤ x ∧ x ≤ 2147483647
def bc_vl (x : Int) : Prop := -9223372036854775808 ≤ x ∧ x ≤ 9223372036854775807
theorem bc_ti {x : Int} (h : bc_vr x) : (Int32.ofInt x).toInt = x := by
  unfold bc_vr at h
  exact Int32.toInt_ofInt_of_le (by omega) (by omega)
theorem bc_tl {x : Int} (h : bc_vl x) : (Int64.ofInt x).toInt = x := by
  unfold bc_vl at h
  exact Int64.toInt_ofInt_of_le (by omega) (by omega)
theorem bc_eq {x y : Int} (hx : bc_vr x) (hy : bc_vr y) : Int32.ofInt x = Int32.ofInt y ↔ x = y := by
  constructor
  · intro h
    rw [← bc_ti hx, ← bc_ti hy, h]
  · intro h
    rw [h]
theorem bc_lt {x y : Int} (hx : bc_vr x) (hy : bc_vr y) : Int32.ofInt x < Int32.ofInt y ↔ x < y := by
  rw [Int32.lt_iff_toInt_lt, bc_ti hx, bc_ti hy]
theorem bc_le {x y : Int} (hx : bc_vr x) (hy : bc_vr y) : Int32.ofInt x ≤ Int32.ofInt y ↔ x ≤ y := by
  rw [Int32.le_iff_toInt_le, bc_ti hx, bc_ti hy]
theorem bc_in {i : Int} {n : Nat} (h0 : 0 ≤ i) (h1 : i < n) (hn : n < 2000) : vp_in (Int32.ofInt i) n := by
  rw [vp_in_iff, bc_ti ⟨by omega, by omega⟩]
  exact ⟨h0, h1⟩
theorem bc_cl {i : Int} (h0 : 0 ≤ i) (h1 : i < 2000) : (Int32.ofInt i).toNatClampNeg = i.toNat := by
  show (Int32.ofInt i).toInt.toNat = i.toNat
  rw [bc_ti ⟨by omega, by omega⟩]
-- int functions that are not homomorphic: by the machine's own
def bc_and (x y : Int) : Int := (Int32.ofInt x &&& Int32.ofInt y).toInt
def bc_or (x y : Int) : Int := (Int32.ofInt x ||| Int32.ofInt y).toInt
def bc_xor (x y : Int) : Int := (Int32.ofInt x ^^^ Int32.ofInt y).toInt
def bc_shl (x y : Int) : Int := (Int32.ofInt x <<< (Int32.ofInt y &&& 31)).toInt
def bc_shr (x y : Int) : Int := (Int32.ofInt x >>> (Int32.ofInt y &&& 31)).toInt
def bc_ushr (x y : Int) : Int := ((Int32.ofInt x).toUInt32 >>> ((Int32.ofInt y).toUInt32 &&& Int32.toUInt32 31)).toInt32.toInt
section Steps
variable {d mi : Nat} {post : Option bc_AV → bc_AH → Prop} {pc : Nat} {loc : List (Option bc_AV)} {st : List bc_AV} {h : bc_AH}
theorem bc_go {pc' : Nat} {st' : List bc_AV} (hn : bc_ATr d mi post pc' loc st' h)
    (k : ∀ (p : Program) (l : Launch) (e : Env) (R : Room) (s : State) (m : MethodId) (args : Array Value) (below : List Frame) (meth : Method) (c : Code) (H : Heap) (locs : List Loc) (cells slots : Nat) (Q : State → Prop) (ls : Array Slot) (ad : Nat → Nat), p.tables.exec = Jvm.exec → c.code = bc_by mi → s.vm.findClass (bc_y mi).cls = some m.cls → (∀ w ∈ bc_ws mi, w.before args s = true) →
      W p l e R s m args below meth c H locs cells slots Q (F0 m pc' ls (st'.map (bc_cv ad))) → W p l e R s m args below meth c H locs cells slots Q (F0 m pc ls (st.map (bc_cv ad)))) : bc_ATr d mi post pc loc st h := by
  intro p l e s m args below meth c Z A H locs ls hX hA hW hP hS hL
  exact k p l e _ s m args below meth c H locs 0 0 _ ls Z.2.1 hX.1 hX.2.1 hX.2.2.2.2.2.1 hX.2.2.2.2.1 (hn p l e s m args below meth c Z A H locs ls hX hA hW hP hS hL)
theorem bc_s_iconst {n : Int} (hd : decode (bc_by mi) pc = .ok (.iconst n, 1)) (hn : bc_ATr d mi post (pc + 1) loc (.inl n :: st) h) : bc_ATr d mi post pc loc st h :=
  bc_go hn (fun _ _ _ _ _ _ _ _ _ _ _ _ _ _ _ _ _ hx hb _ _ w => lv_iconst hx hb hd rfl w)
theorem bc_s_bipush {n : Int} (hd : decode (bc_by mi) pc = .ok (.bipush n, 2)) (h1 : -128 ≤ n) (h2 : n ≤ 127) (hn : bc_ATr d mi post (pc + 2) loc (.inl n :: st) h) : bc_ATr d mi post pc loc st h :=
  bc_go hn (fun _ _ _ _ _ _ _ _ _ _ _ _ _ _ _ _ _ hx hb _ _ w => lv_bipush hx hb hd (by
    apply Int32.toInt_inj.mp
    rw [Int8.toInt_toInt32, Int8.toInt_ofInt_of_le (by omega) (by omega), bc_ti ⟨by omega, by omega⟩]) w)
theorem bc_s_sipush {n : Int} (hd : decode (bc_by mi) pc = .ok (.sipush n, 3)) (h1 : -32768 ≤ n) (h2 : n ≤ 32767) (hn : bc_ATr d mi post (pc + 3) loc (.inl n :: st) h) : bc_ATr d mi post pc loc st h :=
  bc_go hn (fun _ _ _ _ _ _ _ _ _ _ _ _ _ _ _ _ _ hx hb _ _ w => lv_sipush hx hb hd (by
    apply Int32.toInt_inj.mp
    rw [Int16.toInt_toInt32, Int16.toInt_ofInt_of_le (by omega) (by omega), bc_ti ⟨by omega, by omega⟩]) w)
theorem bc_s_lconst {n : Fin 2} (hd : decode (bc_by mi) pc = .ok (.lconst n, 1)) (hn : bc_ATr d mi post (pc + 1) loc (.inr (.inl ((n : Nat) : Int)) :: st) h) : bc_ATr d mi post pc loc st h :=
  bc_go hn (fun _ _ _ _ _ _ _ _ _ _ _ _ _ _ _ _ _ hx hb _ _ w => lv_lconst hx hb hd rfl w)
theorem bc_s_ldcw {i v : Nat} (hd : decode (bc_by mi) pc = .ok (.ldc_w i, 3)) (hw : Cond.constant (bc_y mi).cls i (Int32.ofInt (v : Int)) ∈ bc_GW) (hn : bc_ATr d mi post (pc + 3) loc (.inl ((v : Nat) : Int) :: st) h) : bc_ATr d mi post pc loc st h :=
  bc_go hn (fun _ _ _ _ _ _ _ _ _ _ _ _ _ _ _ _ _ hx hb ho ht w => lv_ldcw hx hb ho (ht _ (List.mem_cons_of_mem _ hw)) hd w)
theorem bc_s_ldc2 {i v : Nat} (hd : decode (bc_by mi) pc = .ok (.ldc2_w i, 3)) (hw : Cond.constantLong (bc_y mi).cls i (Int64.ofInt (v : Int)) ∈ bc_GW) (hn : bc_ATr d mi post (pc + 3) loc (.inr (.inl ((v : Nat) : Int)) :: st) h) : bc_ATr d mi post pc loc st h :=
  bc_go hn (fun _ _ _ _ _ _ _ _ _ _ _ _ _ _ _ _ _ hx hb ho ht w => lv_ldc2 hx hb ho (ht _ (List.mem_cons_of_mem _ hw)) hd w)
theorem bc_s_iadd {x y : Int} (hd : decode (bc_by mi) pc = .ok (.iadd, 1)) (hn : bc_ATr d mi post (pc + 1) loc (.inl (x + y) :: st) h) : bc_ATr d mi post pc loc (.inl y :: .inl x :: st) h :=
  bc_go hn (fun _ _ _ _ _ _ _ _ _ _ _ _ _ _ _ _ _ hx hb _ _ w => lv_iadd hx hb hd (by rw [← Int32.ofInt_add]; exact w))
theorem bc_s_isub {x y : Int} (hd : decode (bc_by mi) pc = .ok (.isub, 1)) (hn : bc_ATr d mi post (pc + 1) loc (.inl (x - y) :: st) h) : bc_ATr d mi post pc loc (.inl y :: .inl x :: st) h :=
  bc_go hn (fun _ _ _ _ _ _ _ _ _ _ _ _ _ _ _ _ _ hx hb _ _ w => lv_isub hx hb hd (by rw [← Int32.ofInt_sub]; exact w))
theorem bc_s_imul {x y : Int} (hd : decode (bc_by mi) pc = .ok (.imul, 1)) (hn : bc_ATr d mi post (pc + 1) loc (.inl (x * y) :: st) h) : bc_ATr d mi post pc loc (.inl y :: .inl x :: st) h :=
  bc_go hn (fun _ _ _ _ _ _ _ _ _ _ _ _ _ _ _ _ _ hx hb _ _ w => lv_imul hx hb hd (by rw [← Int32.ofInt_mul]; exact w))
theorem bc_s_ladd {x y : Int} (hd : decode (bc_by mi) pc = .ok (.ladd, 1)) (hn : bc_ATr d mi post (pc + 1) loc (.inr (.inl (x + y)) :: st) h) : bc_ATr d mi post pc loc (.inr (.inl y) :: .inr (.inl x) :: st) h :=
  bc_go hn (fun _ _ _ _ _ _ _ _ _ _ _ _ _ _ _ _ _ hx hb _ _ w => lv_ladd hx hb hd (by rw [← Int64.ofInt_add]; exact w))
theorem bc_s_lsub {x y : Int} (hd : decode (bc_by mi) pc = .ok (.lsub, 1)) (hn : bc_ATr d mi post (pc + 1) loc (.inr (.inl (x - y)) :: st) h) : bc_ATr d mi post pc loc (.inr (.inl y) :: .inr (.inl x) :: st) h :=
  bc_go hn (fun _ _ _ _ _ _ _ _ _ _ _ _ _ _ _ _ _ hx hb _ _ w => lv_lsub hx hb hd (by rw [← Int64.ofInt_sub]; exact w))
theorem bc_s_lmul {x y : Int} (hd : decode (bc_by mi) pc = .ok (.lmul, 1)) (hn : bc_ATr d mi post (pc + 1) loc (.inr (.inl (x * y)) :: st) h) : bc_ATr d mi post pc loc (.inr (.inl y) :: .inr (.inl x) :: st) h :=
  bc_go hn (fun _ _ _ _ _ _ _ _ _ _ _ _ _ _ _ _ _ hx hb _ _ w => lv_lmul hx hb hd (by rw [← Int64.ofInt_mul]; exact w))
theorem bc_s_i2l {x : Int} (hd : decode (bc_by mi) pc = .ok (.i2l, 1)) (hv : bc_vr x) (hn : bc_ATr d mi post (pc + 1) loc (.inr (.inl x) :: st) h) : bc_ATr d mi post pc loc (.inl x :: st) h :=
  bc_go hn (fun _ _ _ _ _ _ _ _ _ _ _ _ _ _ _ _ _ hx hb _ _ w => lv_i2l hx hb hd (by
    apply Int64.toInt_inj.mp
    rw [Int32.toInt_toInt64, bc_ti hv, bc_tl (by unfold bc_vr at hv; exact ⟨by omega, by omega⟩)]) w)
theorem bc_s_lcmp {x y : Int} (hd : decode (bc_by mi) pc = .ok (.lcmp, 1)) (hx : bc_vl x) (hy : bc_vl y) (hn : bc_ATr d mi post (pc + 1) loc (.inl (if x < y then -1 else if x = y then 0 else 1) :: st) h) : bc_ATr d mi post pc loc (.inr (.inl y) :: .inr (.inl x) :: st) h :=
  bc_go hn (fun _ _ _ _ _ _ _ _ _ _ _ _ _ _ _ _ _ hx' hb _ _ w => W.lcmp hx' hb hd (by
    have e : lg_cmp (Int64.ofInt x) (Int64.ofInt y) = Int32.ofInt (if x < y then -1 else if x = y then 0 else 1) := by
      have h1 : Int64.ofInt x < Int64.ofInt y ↔ x < y := by rw [Int64.lt_iff_toInt_lt, bc_tl hx, bc_tl hy]
      have h3 : Int64.ofInt y < Int64.ofInt x ↔ y < x := by rw [Int64.lt_iff_toInt_lt, bc_tl hx, bc_tl hy]
      have h2 : Int64.ofInt x = Int64.ofInt y ↔ x = y := by rw [← Int64.toInt_inj, bc_tl hx, bc_tl hy]
      unfold lg_cmp
      by_cases c1 : x < y
      · have c2 : ¬ y < x := by omega
        have c3 : ¬ x = y := by omega
        simp [h1, h2, h3, c1, c2, c3]
      · by_cases c2 : x = y
        · subst c2
          simp
        · have c3 : y < x := by omega
          simp [h1, h2, h3, c1, c2, c3]
    rw [e]; exact w))
theorem bc_s_idiv {x y : Int} (hd : decode (bc_by mi) pc = .ok (.idiv, 1)) (h1 : 0 ≤ x) (h2 : bc_vr x) (h3 : 0 < y) (h4 : bc_vr y) (hn : bc_ATr d mi post (pc + 1) loc (.inl (x / y) :: st) h) : bc_ATr d mi post pc loc (.inl y :: .inl x :: st) h :=
  bc_go hn (fun _ _ _ _ _ _ _ _ _ _ _ _ _ _ _ _ _ hx hb _ _ w => by
    obtain ⟨a, rfl⟩ := Int.eq_ofNat_of_zero_le h1
    obtain ⟨b, rfl⟩ := Int.eq_ofNat_of_zero_le (Int.le_of_lt h3)
    unfold bc_vr at h2 h4
    have e := pk_div (a := a) (d := b) (by omega) (by omega) (by omega)
    refine lv_idiv hx hb hd (fun q => ?_) ?_
    · have := (bc_eq (x := (b : Int)) (y := 0) h4 ⟨by omega, by omega⟩).mp q
      omega
    · have e2 : Int32.ofInt (a : Int) / Int32.ofInt (b : Int) = Int32.ofInt ((a : Int) / (b : Int)) := e
      rw [e2]; exact w)
theorem bc_s_irem {x y : Int} (hd : decode (bc_by mi) pc = .ok (.irem, 1)) (h1 : 0 ≤ x) (h2 : bc_vr x) (h3 : 0 < y) (h4 : bc_vr y) (hn : bc_ATr d mi post (pc + 1) loc (.inl (x % y) :: st) h) : bc_ATr d mi post pc loc (.inl y :: .inl x :: st) h :=
  bc_go hn (fun _ _ _ _ _ _ _ _ _ _ _ _ _ _ _ _ _ hx hb _ _ w => by
    obtain ⟨a, rfl⟩ := Int.eq_ofNat_of_zero_le h1
    obtain ⟨b, rfl⟩ := Int.eq_ofNat_of_zero_le (Int.le_of_lt h3)
    unfold bc_vr at h2 h4
    have e := pk_rem (a := a) (d := b) (by omega) (by omega) (by omega)
    refine lv_irem hx hb hd (fun q => ?_) ?_
    · have := (bc_eq (x := (b : Int)) (y := 0) h4 ⟨by omega, by omega⟩).mp q
      omega
    · have e2 : Int32.ofInt (a : Int) - Int32.ofInt (a : Int) / Int32.ofInt (b : Int) * Int32.ofInt (b : Int) = Int32.ofInt ((a : Int) % (b : Int)) := e
      rw [e2]; exact w)
theorem bc_oi (x : Int32) : Int32.ofInt x.toInt = x := Int32.ofInt_toInt x
theorem bc_s_iand {x y : Int} (hd : decode (bc_by mi) pc = .ok (.iand, 1)) (hn : bc_ATr d mi post (pc + 1) loc (.inl (bc_and x y) :: st) h) : bc_ATr d mi post pc loc (.inl y :: .inl x :: st) h :=
  bc_go hn (fun _ _ _ _ _ _ _ _ _ _ _ _ _ _ _ _ _ hx hb _ _ w => lv_iand hx hb hd (by rw [← bc_oi (_ &&& _)]; exact w))
theorem bc_s_ior {x y : Int} (hd : decode (bc_by mi) pc = .ok (.ior, 1)) (hn : bc_ATr d mi post (pc + 1) loc (.inl (bc_or x y) :: st) h) : bc_ATr d mi post pc loc (.inl y :: .inl x :: st) h :=
  bc_go hn (fun _ _ _ _ _ _ _ _ _ _ _ _ _ _ _ _ _ hx hb _ _ w => lv_ior hx hb hd (by rw [← bc_oi (_ ||| _)]; exact w))
theorem bc_s_ixor {x y : Int} (hd : decode (bc_by mi) pc = .ok (.ixor, 1)) (hn : bc_ATr d mi post (pc + 1) loc (.inl (bc_xor x y) :: st) h) : bc_ATr d mi post pc loc (.inl y :: .inl x :: st) h :=
  bc_go hn (fun _ _ _ _ _ _ _ _ _ _ _ _ _ _ _ _ _ hx hb _ _ w => lv_ixor hx hb hd (by rw [← bc_oi (_ ^^^ _)]; exact w))
theorem bc_s_ishl {x y : Int} (hd : decode (bc_by mi) pc = .ok (.ishl, 1)) (hn : bc_ATr d mi post (pc + 1) loc (.inl (bc_shl x y) :: st) h) : bc_ATr d mi post pc loc (.inl y :: .inl x :: st) h :=
  bc_go hn (fun _ _ _ _ _ _ _ _ _ _ _ _ _ _ _ _ _ hx hb _ _ w => lv_ishl hx hb hd (by rw [← bc_oi (_ <<< _)]; exact w))
theorem bc_s_ishr {x y : Int} (hd : decode (bc_by mi) pc = .ok (.ishr, 1)) (hn : bc_ATr d mi post (pc + 1) loc (.inl (bc_shr x y) :: st) h) : bc_ATr d mi post pc loc (.inl y :: .inl x :: st) h :=
  bc_go hn (fun _ _ _ _ _ _ _ _ _ _ _ _ _ _ _ _ _ hx hb _ _ w => lv_ishr hx hb hd (by rw [← bc_oi (_ >>> _)]; exact w))
theorem bc_s_iushr {x y : Int} (hd : decode (bc_by mi) pc = .ok (.iushr, 1)) (hn : bc_ATr d mi post (pc + 1) loc (.inl (bc_ushr x y) :: st) h) : bc_ATr d mi post pc loc (.inl y :: .inl x :: st) h :=
  bc_go hn (fun _ _ _ _ _ _ _ _ _ _ _ _ _ _ _ _ _ hx hb _ _ w => lv_iushr hx hb hd rfl (by rw [← bc_oi (UInt32.toInt32 _)]; exact w))
theorem bc_s_dup {v : bc_AV} (hd : decode (bc_by mi) pc = .ok (.dup, 1)) (hv : bc_cat v = 1) (hn : bc_ATr d mi post (pc + 1) loc (v :: v :: st) h) : bc_ATr d mi post pc loc (v :: st) h :=
  bc_go hn (fun _ _ _ _ _ _ _ _ _ _ _ _ _ _ _ _ ad hx hb _ _ w => lv_dup hx hb hd (by rw [bc_cv_cat]; exact hv) w)
theorem bc_s_dup2 {v u : bc_AV} (hd : decode (bc_by mi) pc = .ok (.dup2, 1)) (hv : bc_cat v = 1) (hu : bc_cat u = 1) (hn : bc_ATr d mi post (pc + 1) loc (v :: u :: v :: u :: st) h) : bc_ATr d mi post pc loc (v :: u :: st) h :=
  bc_go hn (fun _ _ _ _ _ _ _ _ _ _ _ _ _ _ _ _ ad hx hb _ _ w => lv_dup2_11 hx hb hd (by rw [bc_cv_cat]; exact hv) (by rw [bc_cv_cat]; exact hu) w)
theorem bc_s_goto {off : Int} {t : Nat} (hd : decode (bc_by mi) pc = .ok (.goto off, 3)) (ht : (pc : Int) + off = (t : Int)) (hn : bc_ATr d mi post t loc st h) : bc_ATr d mi post pc loc st h :=
  bc_go hn (fun _ _ _ _ _ _ _ _ _ _ _ _ _ _ _ _ _ hx hb _ _ w => lv_goto hx hb hd ht w)
theorem bc_s_ifnonnull {off : Int} {t : Nat} {x : Nat} (hd : decode (bc_by mi) pc = .ok (.ifnonnull off, 3)) (ht : (pc : Int) + off = (t : Int)) (hn : bc_ATr d mi post t loc st h) : bc_ATr d mi post pc loc (.inr (.inr x) :: st) h :=
  bc_go hn (fun _ _ _ _ _ _ _ _ _ _ _ _ _ _ _ _ _ hx hb _ _ w => lv_ifnonnull hx hb hd ht w)
end Steps
end
section
/-! locals, branches, fields, arrays, calls, ends, over bc_ATr -/
def bc_lg (o : Option (Option bc_AV)) : Bool := match o with
  | some (some (.inr (.inl _))) => true
  | _ => false
def bc_lvo (ad : Nat → Nat) : Nat → List (Option bc_AV) → List (Nat × Value)
  | _, [] => []
  | i, none :: r => bc_lvo ad (i + 1) r
  | i, some v :: r => (i, bc_cv ad v) :: bc_lvo ad (i + 1) r
theorem bc_lvo_mem (ad : Nat → Nat) : ∀ (loc : List (Option bc_AV)) (b j : Nat) (v : bc_AV), loc[j]? = some (some v) → (b + j, bc_cv ad v) ∈ bc_lvo ad b loc := by
  intro loc
  induction loc with
  | nil => intro b j v h; simp at h
  | cons a r ih =>
    intro b j v h
    cases j with
    | zero =>
      simp at h
      subst h
      exact List.mem_cons_self
    | succ j =>
      simp at h
      have := ih (b + 1) j v h
      have e : b + (j + 1) = b + 1 + j := by omega
      rw [e]
      cases a with
      | none => exact this
      | some a => exact List.mem_cons_of_mem _ this
theorem bc_lvo_of (ad : Nat → Nat) : ∀ (loc : List (Option bc_AV)) (b : Nat) (q : Nat × Value), q ∈ bc_lvo ad b loc → ∃ (j : Nat) (v : bc_AV), q = (b + j, bc_cv ad v) ∧ loc[j]? = some (some v) := by
  intro loc
  induction loc with
  | nil => intro b q h; cases h
  | cons a r ih =>
    intro b q h
    have tail : q ∈ bc_lvo ad (b + 1) r → ∃ (j : Nat) (v : bc_AV), q = (b + j, bc_cv ad v) ∧ (a :: r)[j]? = some (some v) := by
      intro h
      obtain ⟨j, v, e, hj⟩ := ih (b + 1) q h
      exact ⟨j + 1, v, by rw [e]; congr 1; omega, by simpa using hj⟩
    cases a with
    | none => exact tail h
    | some a =>
      rcases List.mem_cons.mp h with e | h
      · exact ⟨0, a, e, rfl⟩
      · exact tail h
theorem bc_L_has {Z : bc_ZT} {ls : Array Slot} {nL : Nat} {loc : List (Option bc_AV)} (h : bc_L Z ls nL loc) : lv_has ls nL (bc_lvo Z.2.1 0 loc) := by
  refine ⟨h.1, h.2.1, fun q hq => ?_⟩
  obtain ⟨j, v, e, hj⟩ := bc_lvo_of Z.2.1 loc 0 q hq
  rw [e, Nat.zero_add]
  exact h.2.2 j v hj
theorem bc_L_set1 {Z : bc_ZT} {ls : Array Slot} {nL i : Nat} {loc : List (Option bc_AV)} {v : bc_AV} (hlg : ∀ j, j + 1 = i → bc_lg loc[j]? = false)
    (h : lv_has ls nL ((i, bc_cv Z.2.1 v) :: (bc_lvo Z.2.1 0 loc).filter (fun q => !(q.1 == i) && !(q.1 + 1 == i && q.2.category == 2)))) : bc_L Z ls nL (loc.set i (some v)) := by
  refine ⟨h.1, h.2.1, fun j u hj => ?_⟩
  rw [List.getElem?_set] at hj
  by_cases hij : i = j
  · subst hij
    simp at hj
    have e : v = u := by
      have := hj.2
      exact this
    rw [← e]
    exact h.2.2 (i, bc_cv Z.2.1 v) List.mem_cons_self
  · rw [if_neg hij] at hj
    refine h.2.2 (j, bc_cv Z.2.1 u) (List.mem_cons_of_mem _ (List.mem_filter.mpr ⟨?_, ?_⟩))
    · have := bc_lvo_mem Z.2.1 loc 0 j u hj
      rwa [Nat.zero_add] at this
    · have h1 : (j == i) = false := by simp; exact fun q => hij q.symm
      have h2 : (j + 1 == i && (bc_cv Z.2.1 u).category == 2) = false := by
        by_cases hj1 : j + 1 = i
        · have := hlg j hj1
          rw [hj] at this
          rcases u with x | x | x
          · simp [bc_cv, Value.category]
          · cases this
          · simp [bc_cv, Value.category]
        · simp [hj1]
      simp only [h1, h2]; rfl
section Steps
variable {d mi : Nat} {post : Option bc_AV → bc_AH → Prop} {pc : Nat} {loc : List (Option bc_AV)} {st : List bc_AV} {h : bc_AH}
theorem bc_s_iload {i : Nat} {x : Int} (hd : decode (bc_by mi) pc = .ok (.iload i, 2)) (hl : loc[i]? = some (some (.inl x))) (hn : bc_ATr d mi post (pc + 2) loc (.inl x :: st) h) : bc_ATr d mi post pc loc st h := by
  intro p l e s m args below meth c Z A H locs ls hX hA hW hP hS hL
  exact lv_iload hX.1 hX.2.1 hd (hL.2.2 i _ hl) (hn p l e s m args below meth c Z A H locs ls hX hA hW hP hS hL)
theorem bc_s_iload_n {k : Fin 4} {i : Nat} {x : Int} (hd : decode (bc_by mi) pc = .ok (.iload_n k, 1)) (hi : (k : Nat) = i) (hl : loc[i]? = some (some (.inl x))) (hn : bc_ATr d mi post (pc + 1) loc (.inl x :: st) h) : bc_ATr d mi post pc loc st h := by
  intro p l e s m args below meth c Z A H locs ls hX hA hW hP hS hL
  exact lv_iload_n hX.1 hX.2.1 hd hi (hL.2.2 i _ hl) (hn p l e s m args below meth c Z A H locs ls hX hA hW hP hS hL)
theorem bc_s_lload {i : Nat} {x : Int} (hd : decode (bc_by mi) pc = .ok (.lload i, 2)) (hl : loc[i]? = some (some (.inr (.inl x)))) (hn : bc_ATr d mi post (pc + 2) loc (.inr (.inl x) :: st) h) : bc_ATr d mi post pc loc st h := by
  intro p l e s m args below meth c Z A H locs ls hX hA hW hP hS hL
  exact lv_lload hX.1 hX.2.1 hd (hL.2.2 i _ hl) (hn p l e s m args below meth c Z A H locs ls hX hA hW hP hS hL)
theorem bc_s_aload {i : Nat} {x : Nat} (hd : decode (bc_by mi) pc = .ok (.aload i, 2)) (hl : loc[i]? = some (some (.inr (.inr x)))) (hn : bc_ATr d mi post (pc + 2) loc (.inr (.inr x) :: st) h) : bc_ATr d mi post pc loc st h := by
  intro p l e s m args below meth c Z A H locs ls hX hA hW hP hS hL
  exact lv_aload hX.1 hX.2.1 hd (hL.2.2 i _ hl) (hn p l e s m args below meth c Z A H locs ls hX hA hW hP hS hL)
theorem bc_s_aload_n {k : Fin 4} {i : Nat} {x : Nat} (hd : decode (bc_by mi) pc = .ok (.aload_n k, 1)) (hi : (k : Nat) = i) (hl : loc[i]? = some (some (.inr (.inr x)))) (hn : bc_ATr d mi post (pc + 1) loc (.inr (.inr x) :: st) h) : bc_ATr d mi post pc loc st h := by
  intro p l e s m args below meth c Z A H locs ls hX hA hW hP hS hL
  exact lv_aload_n hX.1 hX.2.1 hd hi (hL.2.2 i _ hl) (hn p l e s m args below meth c Z A H locs ls hX hA hW hP hS hL)
theorem bc_s_istore {i : Nat} {x : Int} (hd : decode (bc_by mi) pc = .ok (.istore i, 2)) (hi : i < bc_mL mi) (hlg : ∀ j, j + 1 = i → bc_lg loc[j]? = false) (hn : bc_ATr d mi post (pc + 2) (loc.set i (some (.inl x))) st h) : bc_ATr d mi post pc loc (.inl x :: st) h := by
  intro p l e s m args below meth c Z A H locs ls hX hA hW hP hS hL
  exact lv_istore hX.1 hX.2.1 hd (bc_L_has hL) hi rfl (fun ls' h' => hn p l e s m args below meth c Z A H locs ls' hX hA hW hP hS (bc_L_set1 hlg h'))
theorem bc_s_istore_n {k : Fin 4} {i : Nat} {x : Int} (hd : decode (bc_by mi) pc = .ok (.istore_n k, 1)) (hk : (k : Nat) = i) (hi : i < bc_mL mi) (hlg : ∀ j, j + 1 = i → bc_lg loc[j]? = false) (hn : bc_ATr d mi post (pc + 1) (loc.set i (some (.inl x))) st h) : bc_ATr d mi post pc loc (.inl x :: st) h := by
  intro p l e s m args below meth c Z A H locs ls hX hA hW hP hS hL
  exact lv_istore_n hX.1 hX.2.1 hd hk (bc_L_has hL) hi rfl (fun ls' h' => hn p l e s m args below meth c Z A H locs ls' hX hA hW hP hS (bc_L_set1 hlg h'))
theorem bc_s_iinc {i : Nat} {n x : Int} (hd : decode (bc_by mi) pc = .ok (.iinc i n, 3)) (hl : loc[i]? = some (some (.inl x))) (hi : i < bc_mL mi) (hlg : ∀ j, j + 1 = i → bc_lg loc[j]? = false) (hn : bc_ATr d mi post (pc + 3) (loc.set i (some (.inl (x + n)))) st h) : bc_ATr d mi post pc loc st h := by
  intro p l e s m args below meth c Z A H locs ls hX hA hW hP hS hL
  have hm := bc_lvo_mem Z.2.1 loc 0 i _ hl
  rw [Nat.zero_add] at hm
  obtain ⟨k, hk⟩ := List.getElem?_of_mem hm
  exact lv_iinc (k := k) hX.1 hX.2.1 hd (bc_L_has hL) hk (by rw [← Int32.ofInt_add]) hi rfl (fun ls' h' => hn p l e s m args below meth c Z A H locs ls' hX hA hW hP hS (bc_L_set1 (v := .inl (x + n)) hlg h'))
/-- a long is stored: the two places -/
theorem bc_s_lstore {i : Nat} {x : Int} (hd : decode (bc_by mi) pc = .ok (.lstore i, 2)) (hi : i + 1 < bc_mL mi) (hlg : ∀ j, j + 1 = i → bc_lg loc[j]? = false) (hn : bc_ATr d mi post (pc + 2) ((loc.set (i + 1) none).set i (some (.inr (.inl x)))) st h) : bc_ATr d mi post pc loc (.inr (.inl x) :: st) h := by
  intro p l e s m args below meth c Z A H locs ls hX hA hW hP hS hL
  refine lv_lstore hX.1 hX.2.1 hd (bc_L_has hL) hi rfl (fun ls' h' => hn p l e s m args below meth c Z A H locs ls' hX hA hW hP hS ⟨h'.1, h'.2.1, fun j u hj => ?_⟩)
  rw [List.getElem?_set] at hj
  by_cases hij : i = j
  · subst hij
    simp at hj
    rw [← hj.2]
    exact h'.2.2 (i, Value.long (Int64.ofInt x)) List.mem_cons_self
  · rw [if_neg hij, List.getElem?_set] at hj
    by_cases hij2 : i + 1 = j
    · subst hij2
      simp at hj
    · rw [if_neg hij2] at hj
      refine h'.2.2 (j, bc_cv Z.2.1 u) (List.mem_cons_of_mem _ (List.mem_filter.mpr ⟨?_, ?_⟩))
      · have := bc_lvo_mem Z.2.1 loc 0 j u hj
        rwa [Nat.zero_add] at this
      · have h1 : (j == i) = false := by simp; exact fun q => hij q.symm
        have h3 : (j == i + 1) = false := by simp; exact fun q => hij2 q.symm
        have h2 : (j + 1 == i && (bc_cv Z.2.1 u).category == 2) = false := by
          by_cases hj1 : j + 1 = i
          · have := hlg j hj1
            rw [hj] at this
            rcases u with x | x | x
            · simp [bc_cv, Value.category]
            · cases this
            · simp [bc_cv, Value.category]
          · simp [hj1]
        simp only [h1, h2, h3]; rfl
-- branches
def bc_cc (k : Jvm.ClassFile.Cond) (x y : Int) : Prop := match k with
  | .eq => x = y
  | .ne => ¬ x = y
  | .lt => x < y
  | .ge => y ≤ x
  | .gt => y < x
  | .le => x ≤ y
theorem bc_s_icmp {k : Jvm.ClassFile.Cond} {off : Int} {t : Nat} {x y : Int} (hd : decode (bc_by mi) pc = .ok (.if_icmp k off, 3)) (ht : (pc : Int) + off = (t : Int)) (hx : bc_vr x) (hy : bc_vr y) (h1 : bc_cc k x y → bc_ATr d mi post t loc st h) (h2 : ¬ bc_cc k x y → bc_ATr d mi post (pc + 3) loc st h) : bc_ATr d mi post pc loc (.inl y :: .inl x :: st) h := by
  intro p l e s m args below meth c Z A H locs ls hX hA hW hP hS hL
  have k1 := fun q => h1 q p l e s m args below meth c Z A H locs ls hX hA hW hP hS hL
  have k2 := fun q => h2 q p l e s m args below meth c Z A H locs ls hX hA hW hP hS hL
  have e1 := bc_eq hx hy
  have e2 := bc_lt hx hy
  have e3 := bc_lt hy hx
  have e4 := bc_le hx hy
  have e5 := bc_le hy hx
  cases k with
  | eq => exact lv_icmp_eq hX.1 hX.2.1 hd ht (fun q => k1 (e1.mp q)) (fun q => k2 (fun z => q (e1.mpr z)))
  | ne => exact lv_icmp_ne hX.1 hX.2.1 hd ht (fun q => k1 (fun z => q (e1.mpr z))) (fun q => k2 (fun z => z (e1.mp q)))
  | lt => exact lv_icmp_lt hX.1 hX.2.1 hd ht (fun q => k1 (e2.mp q)) (fun q => k2 (fun z => q (e2.mpr z)))
  | ge => exact lv_icmp_ge hX.1 hX.2.1 hd ht (fun q => k1 (e5.mp q)) (fun q => k2 (fun z => q (e5.mpr z)))
  | gt => exact lv_icmp_gt hX.1 hX.2.1 hd ht (fun q => k1 (e3.mp q)) (fun q => k2 (fun z => q (e3.mpr z)))
  | le => exact lv_icmp_le hX.1 hX.2.1 hd ht (fun q => k1 (e4.mp q)) (fun q => k2 (fun z => q (e4.mpr z)))
theorem bc_s_if {k : Jvm.ClassFile.Cond} {off : Int} {t : Nat} {x : Int} (hd : decode (bc_by mi) pc = .ok (.ifCond k off, 3)) (ht : (pc : Int) + off = (t : Int)) (hx : bc_vr x) (h1 : bc_cc k x 0 → bc_ATr d mi post t loc st h) (h2 : ¬ bc_cc k x 0 → bc_ATr d mi post (pc + 3) loc st h) : bc_ATr d mi post pc loc (.inl x :: st) h := by
  intro p l e s m args below meth c Z A H locs ls hX hA hW hP hS hL
  have k1 := fun q => h1 q p l e s m args below meth c Z A H locs ls hX hA hW hP hS hL
  have k2 := fun q => h2 q p l e s m args below meth c Z A H locs ls hX hA hW hP hS hL
  have hy : bc_vr 0 := ⟨by omega, by omega⟩
  have e1 := bc_eq hx hy
  have e2 := bc_lt hx hy
  have e3 := bc_lt hy hx
  have e4 := bc_le hx hy
  have e5 := bc_le hy hx
  cases k with
  | eq => exact lv_if_eq hX.1 hX.2.1 hd ht (fun q => k1 (e1.mp q)) (fun q => k2 (fun z => q (e1.mpr z)))
  | ne => exact lv_if_ne hX.1 hX.2.1 hd ht (fun q => k1 (fun z => q (e1.mpr z))) (fun q => k2 (fun z => z (e1.mp q)))
  | lt => exact lv_if_lt hX.1 hX.2.1 hd ht (fun q => k1 (e2.mp q)) (fun q => k2 (fun z => q (e2.mpr z)))
  | ge => exact lv_if_ge hX.1 hX.2.1 hd ht (fun q => k1 (e5.mp q)) (fun q => k2 (fun z => q (e5.mpr z)))
  | gt => exact lv_if_gt hX.1 hX.2.1 hd ht (fun q => k1 (e3.mp q)) (fun q => k2 (fun z => q (e3.mpr z)))
  | le => exact lv_if_le hX.1 hX.2.1 hd ht (fun q => k1 (e4.mp q)) (fun q => k2 (fun z => q (e4.mpr z)))
/-- the cases of a switch, from lo on: each its target -/
def bc_sw (J : Nat → Prop) (x : Int) : Int → List Nat → Prop
  | _, [] => True
  | lo, t :: ts => (x = lo → J t) ∧ bc_sw J x (lo + 1) ts
theorem bc_sw_at {J : Nat → Prop} {x : Int} : ∀ (ts : List Nat) (lo : Int) (k : Nat) (t : Nat), bc_sw J x lo ts → ts[k]? = some t → x = lo + k → J t := by
  intro ts
  induction ts with
  | nil => intro lo k t _ h; simp at h
  | cons a ts ih =>
    intro lo k t hs hk hx
    cases k with
    | zero => simp at hk; subst hk; exact hs.1 (by omega)
    | succ k => simp at hk; exact ih (lo + 1) k t hs.2 hk (by omega)
def bc_swok (pc : Nat) : List Int → List Nat → Bool
  | [], [] => true
  | o :: os, t :: ts => decide ((pc : Int) + o = (t : Int)) && bc_swok pc os ts
  | _, _ => false
theorem bc_swok_at {pc : Nat} : ∀ (os : List Int) (ts : List Nat), bc_swok pc os ts = true → ∀ (k t : Nat), ts[k]? = some t → ∃ o, os[k]? = some o ∧ (pc : Int) + o = (t : Int) := by
  intro os
  induction os with
  | nil => intro ts h k t hk; cases ts with
    | nil => simp at hk
    | cons _ _ => cases h
  | cons o os ih =>
    intro ts h k t hk
    cases ts with
    | nil => cases h
    | cons t0 ts =>
      simp only [bc_swok, Bool.and_eq_true, decide_eq_true_eq] at h
      cases k with
      | zero => simp at hk; subst hk; exact ⟨o, rfl, h.1⟩
      | succ k => simp at hk; obtain ⟨o', a, b⟩ := ih ts h.2 k t hk; exact ⟨o', by simpa using a, b⟩
theorem bc_s_switch {df lo hi : Int} {offs : Array Int} {len : Nat} {x : Int} {td : Nat} {ts : List Nat} (hd : decode (bc_by mi) pc = .ok (.tableswitch df lo hi offs, len)) (hx : bc_vr x) (hdf : (pc : Int) + df = (td : Int)) (hok : bc_swok pc offs.toList ts = true) (hlen : hi - lo + 1 = (ts.length : Int))
    (hs : bc_sw (fun t => bc_ATr d mi post t loc st h) x lo ts) (ho : (x < lo ∨ hi < x) → bc_ATr d mi post td loc st h) : bc_ATr d mi post pc loc (.inl x :: st) h := by
  intro p l e s m args below meth c Z A H locs ls hX hA hW hP hS hL
  by_cases hin : x < lo ∨ hi < x
  · exact lv_tableOut hX.1 hX.2.1 hd (by rw [bc_ti hx]; exact hin) hdf (ho hin p l e s m args below meth c Z A H locs ls hX hA hW hP hS hL)
  · have h1 : ¬ x < lo := fun q => hin (Or.inl q)
    have h2 : ¬ hi < x := fun q => hin (Or.inr q)
    have hk : (x - lo).toNat < ts.length := by omega
    obtain ⟨o, a, b⟩ := bc_swok_at offs.toList ts hok (x - lo).toNat _ (List.getElem?_eq_getElem hk)
    have hat := bc_sw_at ts lo (x - lo).toNat _ hs (List.getElem?_eq_getElem hk) (by omega)
    exact lv_tableIn hX.1 hX.2.1 hd (by rw [bc_ti hx]; exact h1) (by rw [bc_ti hx]; exact h2) (off := o) (by rw [bc_ti hx]; simpa using a) b (hat p l e s m args below meth c Z A H locs ls hX hA hW hP hS hL)
end Steps
end
section
/-! fields, arrays, calls, ends, over bc_ATr -/
theorem bc_cl_in : ∀ (ci : Nat) (q : vw_C), vwCl[ci]? = some q → ∀ w ∈ u_ws q.1 q.2.1 q.2.2, w ∈ bc_GW := by
  have h : ∀ q ∈ vwCl, (u_ws q.1 q.2.1 q.2.2).all (fun w => decide (w ∈ lw_tbl) && goodWord w) = true := by
    refine List.forall_mem_cons.mpr ⟨by decide +kernel, List.forall_mem_cons.mpr ⟨by decide +kernel, List.forall_mem_cons.mpr ⟨by decide +kernel, List.forall_mem_cons.mpr ⟨by decide +kernel, List.forall_mem_cons.mpr ⟨by decide +kernel, List.forall_mem_cons.mpr ⟨by decide +kernel, List.forall_mem_cons.mpr ⟨by decide +kernel, List.forall_mem_cons.mpr ⟨by decide +kernel, fun _ h => by cases h⟩⟩⟩⟩⟩⟩⟩⟩
  intro ci q hq w hw
  have h1 := List.all_eq_true.mp (h q (List.mem_of_getElem? hq)) w hw
  simp only [Bool.and_eq_true, decide_eq_true_eq] at h1
  exact List.mem_filter.mpr h1
theorem bc_cl_ty : ∀ (ci : Nat) (q : vw_C), vwCl[ci]? = some q → (∃ ty0 : Nat → FieldType, ∀ k, k < q.2.2 → parseFieldDescriptor (q.2.1 k).2.2.1 = some (ty0 k)) ∧ ∀ a, a < q.2.2 → ∀ b, b < q.2.2 → a ≠ b → (q.2.1 a).2.1 ≠ (q.2.1 b).2.1 := by
  have h : ∀ q ∈ vwCl, (∃ ty0 : Nat → FieldType, ∀ k, k < q.2.2 → parseFieldDescriptor (q.2.1 k).2.2.1 = some (ty0 k)) ∧ ∀ a, a < q.2.2 → ∀ b, b < q.2.2 → a ≠ b → (q.2.1 a).2.1 ≠ (q.2.1 b).2.1 := by
    refine List.forall_mem_cons.mpr ⟨⟨⟨tyX0, tyX0_ok⟩, nmX0⟩, List.forall_mem_cons.mpr ⟨⟨⟨tyX1, tyX1_ok⟩, nmX1⟩, List.forall_mem_cons.mpr ⟨⟨⟨tyX2, tyX2_ok⟩, nmX2⟩, List.forall_mem_cons.mpr ⟨⟨⟨tyX3, tyX3_ok⟩, nmX3⟩, List.forall_mem_cons.mpr ⟨⟨⟨tyX4, tyX4_ok⟩, nmX4⟩, List.forall_mem_cons.mpr ⟨⟨⟨tyX5, tyX5_ok⟩, nmX5⟩, List.forall_mem_cons.mpr ⟨⟨⟨tyX6, tyX6_ok⟩, nmX6⟩, List.forall_mem_cons.mpr ⟨⟨⟨tyX7, tyX7_ok⟩, nmX7⟩, fun _ h => by cases h⟩⟩⟩⟩⟩⟩⟩⟩
  exact fun ci q hq => h q (List.mem_of_getElem? hq)
/-- the class of an object: its fields are as many as the layout tells -/
theorem bc_lay_cl : ∀ k, k < bc_NC → (bc_lay k).1 = 0 → ∃ q, vwCl[(bc_lay k).2.1]? = some q ∧ q.2.2 = (bc_lay k).2.2.length := by
  have h : ∀ k, k < bc_NC → (bc_lay k).1 = 0 → (vwCl[(bc_lay k).2.1]?).map (fun q => q.2.2) = some (bc_lay k).2.2.length := by decide +kernel
  intro k hk h0
  have h1 := h k hk h0
  cases hq : vwCl[(bc_lay k).2.1]? with
  | none => rw [hq] at h1; cases h1
  | some q => rw [hq] at h1; exact ⟨q, rfl, Option.some.inj h1⟩
/-- the word of a field's link: of its own class or of a nest mate -/
def bc_fw (own : String) (idx ci k pos nest : Nat) : Bool := match vwCl[ci]? with
  | some q => if nest = 0 then bc_inG pos (.fieldLink own idx (q.2.1 k).1 (q.2.1 k).2.1 (q.2.1 k).2.2.1) else bc_inN pos (.fieldLinkNest own idx (q.2.1 k).1 (q.2.1 k).2.1 (q.2.1 k).2.2.1 "BlockCross")
  | none => false
section Steps
variable {d mi : Nat} {post : Option bc_AV → bc_AH → Prop} {pc : Nat} {loc : List (Option bc_AV)} {st : List bc_AV} {h : bc_AH}
theorem bc_s_get {idx ci k pos nest r : Nat} {fs : List (Nat × Nat)} {v : bc_AV} (hd : decode (bc_by mi) pc = .ok (.getfield idx, 3)) (hw : bc_fw (bc_y mi).cls idx ci k pos nest = true) (hl : bc_lay r = (0, ci, fs)) (hk : k < fs.length)
    (hv : ∀ ad, bc_fv ad (h r k) (fs.getD k (9, 0)) = bc_cv ad v) (hn : bc_ATr d mi post (pc + 3) loc (v :: st) h) : bc_ATr d mi post pc loc (.inr (.inr r) :: st) h := by
  intro p l e s m args below meth c Z A H locs ls hX hA hW hP hS hL
  have hN := hn p l e s m args below meth c Z A H locs ls hX hA hW hP hS hL
  obtain ⟨hx, hb, hml, hr, hts, hown, hlk⟩ := hX
  have hr := bc_lay_lt hl (by decide)
  obtain ⟨q, hq, hqn⟩ := bc_lay_cl r hr (by rw [hl])
  rw [hl] at hq hqn
  have hge := bc_WS_get Z h hr
  rw [bc_E_0 Z h hl] at hge
  have hfg : (bc_fs Z.2.1 (h r) fs)[k]? = some (bc_cv Z.2.1 v) := by rw [bc_fs_get _ _ hk, hv]
  unfold bc_fw at hw
  simp only [hq] at hw
  obtain ⟨C, T, N⟩ := q
  dsimp only at hw hqn
  have hkN : k < N := by rw [hqn]; exact hk
  by_cases hne : nest = 0
  · rw [if_pos hne] at hw
    exact va_get (C := C) (T := T) (N := N) hx hb hts (fun w h' => List.mem_cons_of_mem _ (bc_cl_in ci _ hq w h')) hown hW.1 hP r hge hq k hkN (hts _ (List.mem_cons_of_mem _ (bc_inG_mem hw))) (fun _ h9 => h9) hfg hd hN
  · rw [if_neg hne] at hw
    exact va_getN (C := C) (T := T) (N := N) hx hb hts (fun w h' => List.mem_cons_of_mem _ (bc_cl_in ci _ hq w h')) hown hW.1 hP r hge hq k hkN (va_Nw.use rfl (hW.2.1 _ (bc_inN_mem hw))) (fun _ h9 => h9) hfg hd hN
/-- an int, or a long, is put: the field's descriptor, not final -/
def bc_fp (ci k : Nat) (ty : FieldType) : Bool := match vwCl[ci]? with
  | some q => decide (parseFieldDescriptor (q.2.1 k).2.2.1 = some ty) && !(q.2.1 k).2.2.2
  | none => false
theorem bc_s_put {idx ci k pos nest r : Nat} {fs : List (Nat × Nat)} {v : bc_AV} {x : Int} {ty : FieldType} (hd : decode (bc_by mi) pc = .ok (.putfield idx, 3)) (hw : bc_fw (bc_y mi).cls idx ci k pos nest = true) (hf : bc_fp ci k ty = true) (hl : bc_lay r = (0, ci, fs)) (hk : k < fs.length)
    (hv : ∀ ad, bc_fv ad x (fs.getD k (9, 0)) = bc_cv ad v) (hnar : ∀ ad, narrow ty (bc_cv ad v) = bc_cv ad v) (hfit : ∀ ad, fits ty (bc_cv ad v) = true) (hn : bc_ATr d mi post (pc + 3) loc st (bc_up h r k x)) : bc_ATr d mi post pc loc (v :: .inr (.inr r) :: st) h := by
  intro p l e s m args below meth c Z A H locs ls hX hA hW hP hS hL
  have hN := fun H1 locs1 hP1 hS1 => hn p l e s m args below meth c Z A H1 locs1 ls hX hA hW hP1 hS1 hL
  obtain ⟨hx, hb, hml, hr, hts, hown, hlk⟩ := hX
  have hr := bc_lay_lt hl (by decide)
  obtain ⟨q, hq, hqn⟩ := bc_lay_cl r hr (by rw [hl])
  rw [hl] at hq hqn
  have hge := bc_WS_get Z h hr
  rw [bc_E_0 Z h hl] at hge
  obtain ⟨⟨ty0, hty⟩, hnm⟩ := bc_cl_ty ci q hq
  unfold bc_fw at hw
  unfold bc_fp at hf
  dsimp only at hq
  simp only [hq, Bool.and_eq_true, decide_eq_true_eq] at hw hf
  obtain ⟨C, T, N⟩ := q
  dsimp only at hw hf hqn hty hnm
  have hkN : k < N := by rw [hqn]; exact hk
  have hset : (bc_WS Z h).set r (Z.2.1 r, .inr (ci, (bc_fs Z.2.1 (h r) fs).set k (bc_cv Z.2.1 v))) = bc_WS Z (bc_up h r k x) := by
    refine bc_WS_set Z h _ r ?_ (fun j hj => bc_E_up_ne Z h k x hj)
    rw [bc_E_0 Z _ hl, bc_fs_set Z.2.1 (h r) x (hv Z.2.1)]
    have e : bc_up h r k x r = fun j => if j = k then x else h r j := by funext b; simp [bc_up]
    rw [e]
  have hin : ∀ w ∈ u_ws C T N, w ∈ bc_ws mi := fun w h' => List.mem_cons_of_mem _ (bc_cl_in ci _ hq w h')
  have hfin : (T k).2.2.2 = false := by
    have := hf.2
    simpa using this
  have hlen : k < (bc_fs Z.2.1 (h r) fs).length := by rw [bc_fs_len]; exact hk
  by_cases hne : nest = 0
  · rw [if_pos hne] at hw
    exact va_put (C := C) (T := T) (N := N) hx hb hts hin ty0 hty hnm hown hW.1 hP (bc_WK_D hW h) hS r hge hq k hkN (hts _ (List.mem_cons_of_mem _ (bc_inG_mem hw))) (fun _ h9 => h9) hfin hf.1 (hnar Z.2.1) (hfit Z.2.1) hlen hd (fun H1 locs1 hP1 _ hS1 => hN H1 locs1 (by rw [← hset]; exact hP1) hS1)
  · rw [if_neg hne] at hw
    exact va_putN (C := C) (T := T) (N := N) hx hb hts hin ty0 hty hnm hown hW.1 hP (bc_WK_D hW h) hS r hge hq k hkN (va_Nw.use rfl (hW.2.1 _ (bc_inN_mem hw))) (fun _ h9 => h9) hfin hf.1 (hnar Z.2.1) (hfit Z.2.1) hlen hd (fun H1 locs1 hP1 _ hS1 => hN H1 locs1 (by rw [← hset]; exact hP1) hS1)
theorem bc_s_iald {r n : Nat} {fs : List (Nat × Nat)} {i : Int} (hd : decode (bc_by mi) pc = .ok (.iaload, 1)) (hl : bc_lay r = (1, n, fs)) (h0 : 0 ≤ i) (h1 : i < n) (hn : bc_ATr d mi post (pc + 1) loc (.inl (h r i.toNat) :: st) h) : bc_ATr d mi post pc loc (.inl i :: .inr (.inr r) :: st) h := by
  intro p l e s m args below meth c Z A H locs ls hX hA hW hP hS hL
  have hN := hn p l e s m args below meth c Z A H locs ls hX hA hW hP hS hL
  have hr := bc_lay_lt hl (by decide)
  have hn2 : n < 2000 := by have := bc_lay_n hr; rw [hl] at this; exact this
  have hge := bc_WS_get Z h hr
  rw [bc_E_1 Z h hl] at hge
  refine va_iald hX.1 hX.2.1 hW.1 hP r 0 hge rfl (bc_in h0 h1 hn2) hd ?_
  rw [bc_cl h0 (by omega)]
  exact hN
theorem bc_s_iast {r n : Nat} {fs : List (Nat × Nat)} {i x : Int} (hd : decode (bc_by mi) pc = .ok (.iastore, 1)) (hl : bc_lay r = (1, n, fs)) (h0 : 0 ≤ i) (h1 : i < n) (hn : bc_ATr d mi post (pc + 1) loc st (bc_up h r i.toNat x)) : bc_ATr d mi post pc loc (.inl x :: .inl i :: .inr (.inr r) :: st) h := by
  intro p l e s m args below meth c Z A H locs ls hX hA hW hP hS hL
  have hN := fun H1 locs1 hP1 hS1 => hn p l e s m args below meth c Z A H1 locs1 ls hX hA hW hP1 hS1 hL
  have hr := bc_lay_lt hl (by decide)
  have hn2 : n < 2000 := by have := bc_lay_n hr; rw [hl] at this; exact this
  have hge := bc_WS_get Z h hr
  rw [bc_E_1 Z h hl] at hge
  have hset : (bc_WS Z h).set r (Z.2.1 r, .inl (Z.2.2.1, n, .inl (upd (fun j => Int32.ofInt (h r j)) (Int32.ofInt i).toNatClampNeg (Int32.ofInt x)))) = bc_WS Z (bc_up h r i.toNat x) := by
    refine bc_WS_set Z h _ r ?_ (fun j hj => bc_E_up_ne Z h _ x hj)
    rw [bc_E_1 Z _ hl, bc_cl h0 (by omega)]
    have e : (fun j => Int32.ofInt (bc_up h r i.toNat x r j)) = upd (fun j => Int32.ofInt (h r j)) i.toNat (Int32.ofInt x) := by
      funext b
      unfold upd bc_up
      by_cases hb : b = i.toNat <;> simp [hb]
    rw [e]
  exact va_iast hX.1 hX.2.1 hW.1 hP (bc_WK_D hW h) hS r 0 hge rfl (bc_in h0 h1 hn2) hd (fun H1 locs1 hP1 _ hS1 => hN H1 locs1 (by rw [← hset]; exact hP1) hS1)
theorem bc_s_alen {r n : Nat} {fs : List (Nat × Nat)} (hd : decode (bc_by mi) pc = .ok (.arraylength, 1)) (hl : bc_lay r = (1, n, fs)) (hn : bc_ATr d mi post (pc + 1) loc (.inl (n : Int) :: st) h) : bc_ATr d mi post pc loc (.inr (.inr r) :: st) h := by
  intro p l e s m args below meth c Z A H locs ls hX hA hW hP hS hL
  have hN := hn p l e s m args below meth c Z A H locs ls hX hA hW hP hS hL
  have hr := bc_lay_lt hl (by decide)
  have hge := bc_WS_get Z h hr
  rw [bc_E_1 Z h hl] at hge
  exact va_alen hX.1 hX.2.1 hW.1 hP r 0 hge rfl rfl hd hN
theorem bc_s_aald {r n : Nat} {fs : List (Nat × Nat)} {i : Int} (hd : decode (bc_by mi) pc = .ok (.aaload, 1)) (hl : bc_lay r = (3, n, fs)) (h0 : 0 ≤ i) (h1 : i < n) (hn : bc_ATr d mi post (pc + 1) loc (.inr (.inr (fs.getD i.toNat (0, 0)).2) :: st) h) : bc_ATr d mi post pc loc (.inl i :: .inr (.inr r) :: st) h := by
  intro p l e s m args below meth c Z A H locs ls hX hA hW hP hS hL
  have hN := hn p l e s m args below meth c Z A H locs ls hX hA hW hP hS hL
  have hr := bc_lay_lt hl (by decide)
  have hn2 : n < 2000 := by have := bc_lay_n hr; rw [hl] at this; exact this
  have hge := bc_WS_get Z h hr
  rw [bc_E_3 Z h hl] at hge
  refine va_aldq hX.1 hX.2.1 hW.1 hP r 2 hge rfl (bc_in h0 h1 hn2) hd ?_
  rw [bc_cl h0 (by omega)]
  exact hN
theorem bc_s_ireturn {x : Int} (hd : decode (bc_by mi) pc = .ok (.ireturn, 1)) (hr : bc_rt mi = some .int ∨ (bc_rt mi = some .boolean ∧ (x = 0 ∨ x = 1))) (hp : post (some (.inl x)) h) : bc_ATr d mi post pc loc [.inl x] h := by
  intro p l e s m args below meth c Z A H locs ls hX hA hW hP hS hL
  obtain ⟨hx, hb, hml, hret, hts, hown, hlk⟩ := hX
  have hq : ∀ t : State, t.heap = H → s.WarmedH t.vm → bc_Q Z post A args s (.returned (some (.int (Int32.ofInt x)))) t := fun t ht _ => ⟨⟨some (.inl x), h, rfl, hp, by rw [ht]; exact hP⟩, hS.F ht⟩
  rcases hr with hr | ⟨hr, hx01⟩
  · exact W.iret hx hb (by rw [hret, hr]) hq hS.2.2 hd hlk
  · exact W.zret hx hb (ty := .boolean) (by rw [hret, hr]) (by rcases hx01 with q | q <;> subst q <;> decide +kernel) hq hS.2.2 hd hlk
theorem bc_s_return (hd : decode (bc_by mi) pc = .ok (.return_, 1)) (hr : bc_rt mi = none) (hp : post none h) : bc_ATr d mi post pc loc [] h := by
  intro p l e s m args below meth c Z A H locs ls hX hA hW hP hS hL
  obtain ⟨hx, hb, hml, hret, hts, hown, hlk⟩ := hX
  exact W.vret hx hb (by rw [hret, hr]) (fun t ht _ => ⟨⟨none, h, rfl, hp, by rw [ht]; exact hP⟩, hS.F ht⟩) hS.2.2 hd hlk
theorem bc_s_ldcS {idx i : Nat} (hd : decode (bc_by mi) pc = .ok (.ldc idx, 2)) (hi : i < 3) (hy : (bc_y mi).cls = "BlockCross$Reader") (hx : (bc_lit i).1 = idx) (hn : bc_ATr d mi post (pc + 2) loc (.inr (.inr (1000 + i)) :: st) h) : bc_ATr d mi post pc loc st h := by
  intro p l e s m args below meth c Z A H locs ls hX hA hW hP hS hL
  have hN := hn p l e s m args below meth c Z A H locs ls hX hA hW hP hS hL
  have hZ := hW.2.2.2.2.1 i hi
  rw [hx] at hZ
  exact va_ldcS hX.1 hX.2.1 (by rw [← hy]; exact hX.2.2.2.2.2.1) hZ hd hN
end Steps
end
section
/-! calls: the callee by its contract bc_OKr -/
/-- a method's own words are there -/
def bc_mok (mi : Nat) : Bool :=
  (if (bc_MT mi).2.1 = 0 then bc_inG (bc_MP mi).2.1 (.static (bc_y mi)) else (bc_inG (bc_MP mi).2.1 (.instanceMethod (bc_y mi)) && bc_inG (bc_MP mi).2.2.1 (.selects (bc_y mi).cls (bc_y mi) (bc_y mi)))) &&
  bc_inG (bc_MP mi).2.2.2 (.initialized (bc_y mi).cls) && decide ((bc_y mi).cls ≠ "java/lang/invoke/MethodHandle") && decide ((bc_y mi).cls ≠ "java/lang/invoke/VarHandle") && plainName (bc_y mi).cls && decide ((parseMethodDescriptor (bc_y mi).desc).map (fun d => d.parameters.length) = some (bc_MT mi).2.2) && decide (bc_mL mi ≤ 40)
theorem bc_mok0 : ∀ mi ∈ bc_gl0, bc_mok mi = true := by decide +kernel
theorem bc_mok1 : ∀ mi ∈ bc_gl1, bc_mok mi = true := by decide +kernel
theorem bc_mok2 : ∀ mi ∈ bc_gl2, bc_mok mi = true := by decide +kernel
theorem bc_mok3 : ∀ mi ∈ bc_gl3, bc_mok mi = true := by decide +kernel
theorem bc_mok4 : ∀ mi ∈ bc_gl4, bc_mok mi = true := by decide +kernel
theorem bc_mok5 : ∀ mi ∈ bc_gl5, bc_mok mi = true := by decide +kernel
theorem bc_mok_all (mi : Nat) (h : bc_good mi = true) : bc_mok mi = true := by
  have hm : mi ∈ bc_gl := by simpa [bc_good] using h
  have ha : ∀ mi ∈ bc_gl, bc_mok mi = true := List.forall_mem_append.mpr ⟨bc_mok0, List.forall_mem_append.mpr ⟨bc_mok1, List.forall_mem_append.mpr ⟨bc_mok2, List.forall_mem_append.mpr ⟨bc_mok3, List.forall_mem_append.mpr ⟨bc_mok4, bc_mok5⟩⟩⟩⟩⟩
  exact ha mi hm
theorem bc_mcode (mi : Nat) (h : bc_good mi = true) : Cond.code (bc_y mi) (bc_by mi) (bc_mL mi) (bc_rt mi) ∈ bc_GW := by
  have hm : mi ∈ bc_gl := by simpa [bc_good] using h
  exact List.mem_filter.mpr ⟨List.mem_of_getElem? (bc_mc mi hm), rfl⟩
theorem bc_ws_good (mi mj : Nat) (hj : Cond.code (bc_y mj) (bc_by mj) (bc_mL mj) (bc_rt mj) ∈ bc_GW) : GoodIn (bc_ws mi) (bc_ws mj) := by
  intro w hw
  have hm : w ∈ bc_GW := by
    rcases List.mem_cons.mp hw with e | h
    · rw [e]; exact hj
    · exact h
  exact ⟨List.mem_cons_of_mem _ hm, bc_GW_good hm⟩
theorem bc_GW_in {mi : Nat} {ws : List Cond} (h : ∀ w ∈ ws, w ∈ bc_GW) : GoodIn (bc_ws mi) ws := fun w hw => ⟨List.mem_cons_of_mem _ (h w hw), bc_GW_good (h w hw)⟩
/-- the link of a call: own class (0) or a nest mate (else) -/
def bc_cw (own : String) (idx mj pos nest : Nat) : Bool := if nest = 0 then bc_inG pos (.methodLink own idx (bc_y mj)) else bc_inN pos (.methodLinkNest own idx (bc_y mj) "BlockCross")
section Calls
variable {p : Program} {l : Launch} {e : Env} {R : Room} {s : State} {m : MethodId} {args : Array Value} {below : List Frame} {meth : Method} {c : Code} {H : Heap} {locs : List Loc} {Q : State → Prop}
theorem bc_callQ {pc : Nat} {ls : Array Slot} {rest st0 : List Value} {a : Array Value} {A0 A1 : Nat → Prop} {H0 : Heap} {free : Addr → Prop} {Z : bc_ZT} {post : Option bc_AV → bc_AH → Prop} {cells slots mc ms : Nat} (hr : va_Run p l e R s m args below meth c H locs cells slots mc ms (F0 m pc ls st0) rest (bc_Q Z post A1 a) free) (hS : va_S A0 H0 H locs) (hA : ∀ q, q < H.size → A1 q → A0 q) (hf : ∀ q, free q → A0 q)
    (kk : ∀ (r : Option bc_AV) (h' : bc_AH) (H1 : Heap) (locs1 : List Loc), post r h' → va_P Z.1 vwCl (bc_WS Z h') H1 → va_S A0 H0 H1 locs1 → W p l e R s m args below meth c H1 locs1 (cells + mc) (slots + ms) Q (F0 m (pc + 3) ls ((r.map (bc_cv Z.2.1)).toList ++ rest))) : W p l e R s m args below meth c H locs cells slots Q (F0 m pc ls st0) := by
  intro T hT X
  obtain ⟨v, st₀, t, T', L, h0, X', hL, e1, e2, ⟨⟨r, h', hv, hp, hb⟩, hz, hk⟩, st⟩ := hr T hT X
  cases hv
  rw [h0] at hz hk
  obtain ⟨t2, a1, b1⟩ := kk r h' T'.heap (locs ++ L) hp (by rw [e1]; exact hb)
    ⟨Nat.le_trans hS.1 (by rw [e1]; exact hz), fun q h1 h2 => by rw [e1, hk q (Nat.lt_of_lt_of_le h1 hS.1) (fun z => h2 (hA q (Nat.lt_of_lt_of_le h1 hS.1) z))]; exact hS.2.1 q h1 h2, fun q hq => by
      rcases List.mem_append.mp hq with h | h
      · exact hS.2.2 q h
      · exact hf _ (hL q h)⟩ T' rfl X'
  exact ⟨t2, st t2 a1, b1⟩
theorem bc_blind (Z : bc_ZT) (sz : Nat) (as : List bc_AV) (h : bc_AH) : FrameBlind (bc_Pre Z sz as h) := by
  intro a U g mk q
  obtain ⟨q0, q1, q2, q3⟩ := q
  exact ⟨q0, q1, bc_WK_same (U := U.calling g mk a) (s := U) rfl q2, q3⟩
theorem bc_pre {Z : bc_ZT} {A : Nat → Prop} {as : List bc_AV} {h : bc_AH} (hA : ∀ q, s.heap.size ≤ q → A q) (hW : bc_WK Z A s s.heap) (hP : va_P Z.1 vwCl (bc_WS Z h) H) (hS : va_S A s.heap H locs) : ∀ U : State, U.heap = H → s.WarmedH U.vm → bc_Pre Z H.size as h (as.map (bc_cv Z.2.1)).toArray U := by
  intro U hU hWm
  refine ⟨rfl, by rw [hU], ?_, by rw [hU]; exact hP⟩
  rw [hU]
  refine bc_WK_warm hWm (bc_WK_kept hW (fun a h1 h2 => hS.2.1 a h1 h2) (fun q hq => ?_) (fun k hk => Or.inl ⟨k, hk, rfl⟩))
  rcases hq with ⟨k, hk, rfl⟩ | hq
  · exact hW.2.2.2.1 k hk
  · exact hA q (Nat.le_trans hS.1 hq)
end Calls
def bc_pop : Nat → List bc_AV → List bc_AV → Option (List bc_AV × List bc_AV)
  | 0, acc, st => some (acc, st)
  | _ + 1, _, [] => none
  | n + 1, acc, v :: st => bc_pop n (v :: acc) st
theorem bc_pop_spec : ∀ (n : Nat) (acc st as st' : List bc_AV), bc_pop n acc st = some (as, st') → ∃ bs, st = bs.reverse ++ st' ∧ as = bs ++ acc ∧ bs.length = n := by
  intro n
  induction n with
  | zero => intro acc st as st' h; cases h; exact ⟨[], rfl, rfl, rfl⟩
  | succ n ih =>
    intro acc st as st' h
    cases st with
    | nil => cases h
    | cons v st =>
      obtain ⟨bs, h1, h2, h3⟩ := ih (v :: acc) st as st' h
      exact ⟨bs ++ [v], by rw [h1]; simp, by rw [h2]; simp, by simp [h3]⟩
section Steps
variable {d mi : Nat} {post : Option bc_AV → bc_AH → Prop} {pc : Nat} {loc : List (Option bc_AV)} {st : List bc_AV} {h : bc_AH}
theorem bc_catsum (ad : Nat → Nat) (st : List bc_AV) : ((st.map (bc_cv ad)).map fun v => v.category).sum = (st.map bc_cat).sum := by
  rw [List.map_map]
  congr 1
  apply List.map_congr_left
  intro v _
  exact bc_cv_cat ad v
theorem bc_s_static {idx mj pos nest : Nat} {as st' : List bc_AV} (hd : decode (bc_by mi) pc = .ok (.invokestatic idx, 3)) (hg : bc_good mj = true) (hk : (bc_MT mj).2.1 = 0) (hw : bc_cw (bc_y mi).cls idx mj pos nest = true) (hp : bc_pop (bc_MT mj).2.2 [] st = some (as, st')) (hc : (st'.map bc_cat).sum ≤ 8)
    {P : Option bc_AV → bc_AH → Prop} (hM : bc_OKr d mj as h P) (hkk : ∀ r h', P r h' → bc_ATr d mi post (pc + 3) loc (r.toList ++ st') h') : bc_ATr d mi post pc loc st h := by
  intro p l e s m args below meth c Z A H locs ls hX hA hW hP hS hL
  have hX0 := hX
  obtain ⟨hx, hb, hml, hr, hts, hown, hlk⟩ := hX
  have hmk := bc_mok_all mj hg
  unfold bc_mok at hmk
  rw [if_pos hk] at hmk
  simp only [Bool.and_eq_true, decide_eq_true_eq] at hmk
  have k1 := bc_mcode mj hg
  obtain ⟨⟨⟨⟨⟨⟨k2, k4⟩, k5⟩, k6⟩, k7⟩, k8⟩, k9⟩ := hmk
  obtain ⟨bs, e1, e2, e3⟩ := bc_pop_spec _ _ _ _ _ hp
  rw [List.append_nil] at e2
  subst e2
  have hR : (bc_rm d).frames + 1 ≤ (bc_rm (d + 1)).frames ∧ 8 + (bc_mL mj + 11) + (bc_rm d).locals ≤ (bc_rm (d + 1)).locals := by
    unfold bc_rm
    exact ⟨by dsimp only; omega, by dsimp only; omega⟩
  have hst : st.map (bc_cv Z.2.1) = (as.map (bc_cv Z.2.1)).reverse ++ st'.map (bc_cv Z.2.1) := by rw [e1]; simp
  have hlen : (as.map (bc_cv Z.2.1)).length = (bc_MT mj).2.2 := by simp [e3]
  have hroom : 2 * (F0 m pc ls (st.map (bc_cv Z.2.1))).monitorRoom + ((st'.map (bc_cv Z.2.1)).map fun v => v.category).sum ≤ 8 := lv_room (by rw [bc_catsum]; exact hc)
  have hfree : ∀ q, bc_A Z H.size q → A q := by
    intro q hq
    rcases hq with ⟨k, hk, rfl⟩ | hq
    · exact hW.2.2.2.1 k hk
    · exact hA q (Nat.le_trans hS.1 hq)
  have hrun : va_Run p l e (bc_rm (d + 1)) s m args below meth c H locs 0 0 0 0 (F0 m pc ls (st.map (bc_cv Z.2.1))) (st'.map (bc_cv Z.2.1)) (bc_Q Z P (bc_A Z H.size) (as.map (bc_cv Z.2.1)).toArray) (bc_A Z H.size) := by
    unfold bc_cw at hw
    by_cases hne : nest = 0
    · rw [if_pos hne] at hw
      refine va_runS (Ts := bc_ws mi) (own := (bc_y mi).cls) (nL := bc_mL mi) ⟨hx, hb, hml, hown, hts⟩ (hM l Z H.size) (va_cwS (bc_MT mj).2.2 hts (bc_GW_in (fun w hw' => ?_)) rfl rfl rfl ⟨k5, k6, k8⟩ hR) ⟨bc_blind Z _ as h, bc_pre hA hW hP hS⟩ rfl hlen hL.1 hst hroom hd ⟨Nat.le_refl _, Nat.le_refl _⟩
      rcases List.mem_append.mp hw' with h1 | h1
      · rcases List.mem_cons.mp h1 with e | h1
        · rw [e]; exact bc_inG_mem hw
        · rcases List.mem_cons.mp h1 with e | h1
          · rw [e]; exact bc_inG_mem k2
          · rcases List.mem_cons.mp h1 with e | h1
            · rw [e]; exact bc_inG_mem k4
            · cases h1
      · rcases List.mem_cons.mp h1 with e | h1
        · rw [e]; exact k1
        · exact h1
    · rw [if_neg hne] at hw
      exact va_runSN (Ts := bc_ws mi) (own := (bc_y mi).cls) (nL := bc_mL mi) ⟨hx, hb, hml, hown, hts⟩ (hM l Z H.size) ⟨va_cnB (bc_MT mj).2.2 hts (bc_ws_good mi mj k1) rfl rfl rfl (hW.2.1 _ (bc_inN_mem hw)) (hts _ (List.mem_cons_of_mem _ (bc_inG_mem k4))) ⟨k5, k6, k8⟩ hR, hts _ (List.mem_cons_of_mem _ (bc_inG_mem k2)), trivial⟩ ⟨bc_blind Z _ as h, bc_pre hA hW hP hS⟩ rfl hlen hL.1 hst hroom hd ⟨Nat.le_refl _, Nat.le_refl _⟩
  refine bc_callQ hrun hS (fun q _ hq => hfree q hq) hfree (fun r h' H1 locs1 hp1 hP1 hS1 => ?_)
  have := hkk r h' hp1 p l e s m args below meth c Z A H1 locs1 ls hX0 hA hW hP1 hS1 hL
  rw [List.map_append] at this
  cases r <;> exact this
theorem bc_s_virtual {idx mj pos nest r : Nat} {as st' : List bc_AV} (hd : decode (bc_by mi) pc = .ok (.invokevirtual idx, 3)) (hg : bc_good mj = true) (hw : bc_cw (bc_y mi).cls idx mj pos nest = true) (hp : bc_pop ((bc_MT mj).2.2 + 1) [] st = some (.inr (.inr r) :: as, st')) (hc : (st'.map bc_cat).sum ≤ 8)
    (hr0 : (bc_lay r).1 = 0) (hr1 : (bc_MT mj).2.1 = (bc_lay r).2.1 + 1) (hcls : (vwCl[(bc_lay r).2.1]?).map (fun q => q.1) = some (bc_y mj).cls)
    {P : Option bc_AV → bc_AH → Prop} (hM : bc_OKr d mj (.inr (.inr r) :: as) h P) (hkk : ∀ r h', P r h' → bc_ATr d mi post (pc + 3) loc (r.toList ++ st') h') : bc_ATr d mi post pc loc st h := by
  intro p l e s m args below meth c Z A H locs ls hX hA hW hP hS hL
  have hX0 := hX
  obtain ⟨hx, hb, hml, hr, hts, hown, hlk⟩ := hX
  have hmk := bc_mok_all mj hg
  unfold bc_mok at hmk
  rw [if_neg (by rw [hr1]; omega)] at hmk
  simp only [Bool.and_eq_true, decide_eq_true_eq] at hmk
  have k1 := bc_mcode mj hg
  obtain ⟨⟨⟨⟨⟨⟨⟨k2, k3⟩, k4⟩, k5⟩, k6⟩, k7⟩, k8⟩, k9⟩ := hmk
  obtain ⟨bs, e1, e2, e3⟩ := bc_pop_spec _ _ _ _ _ hp
  rw [List.append_nil] at e2
  subst e2
  have hR : (bc_rm d).frames + 1 ≤ (bc_rm (d + 1)).frames ∧ 8 + (bc_mL mj + 11) + (bc_rm d).locals ≤ (bc_rm (d + 1)).locals := by
    unfold bc_rm
    exact ⟨by dsimp only; omega, by dsimp only; omega⟩
  have hst : st.map (bc_cv Z.2.1) = (as.map (bc_cv Z.2.1)).reverse ++ .ref (Z.2.1 r) :: st'.map (bc_cv Z.2.1) := by rw [e1]; simp; rfl
  have hlen : (as.map (bc_cv Z.2.1)).length = (bc_MT mj).2.2 := by simp at e3; simp [e3]
  have hroom : 2 * (F0 m pc ls (st.map (bc_cv Z.2.1))).monitorRoom + ((st'.map (bc_cv Z.2.1)).map fun v => v.category).sum ≤ 8 := lv_room (by rw [bc_catsum]; exact hc)
  have hfree : ∀ q, bc_A Z H.size q → A q := by
    intro q hq
    rcases hq with ⟨k, hk, rfl⟩ | hq
    · exact hW.2.2.2.1 k hk
    · exact hA q (Nat.le_trans hS.1 hq)
  have hrlt : r < bc_NC := by
    by_cases hk : r < bc_NC
    · exact hk
    · rw [bc_lay_out hk] at hr0; cases hr0
  obtain ⟨q, hq, -⟩ := bc_lay_cl r hrlt hr0
  have hqc : q.1 = (bc_y mj).cls := by rw [hq] at hcls; exact Option.some.inj hcls
  have hrecv : ∃ cell : Cell, H[Z.2.1 r]? = some cell ∧ cell.vm.isStatics = false ∧ s.vm.findClass (bc_y mj).cls = some cell.cls := by
    have hge := bc_WS_get Z h hrlt
    rw [bc_E_0 Z h (k := r) (ci := (bc_lay r).2.1) (fs := (bc_lay r).2.2) (by rw [← hr0])] at hge
    have := va_recv hW.1 hP hq hge
    rw [hqc] at this
    exact this
  have hpre : PreV s H (bc_y mj).cls (Z.2.1 r) (bc_Pre Z H.size (.inr (.inr r) :: as) h) (as.map (bc_cv Z.2.1)) := ⟨bc_blind Z _ _ h, hrecv, bc_pre (as := .inr (.inr r) :: as) hA hW hP hS⟩
  have hrun : va_Run p l e (bc_rm (d + 1)) s m args below meth c H locs 0 0 0 0 (F0 m pc ls (st.map (bc_cv Z.2.1))) (st'.map (bc_cv Z.2.1)) (bc_Q Z P (bc_A Z H.size) (Value.ref (Z.2.1 r) :: as.map (bc_cv Z.2.1)).toArray) (bc_A Z H.size) := by
    unfold bc_cw at hw
    by_cases hne : nest = 0
    · rw [if_pos hne] at hw
      refine va_runV (Ts := bc_ws mi) (own := (bc_y mi).cls) (nL := bc_mL mi) ⟨hx, hb, hml, hown, hts⟩ (hM l Z H.size) (cwV (bc_MT mj).2.2 hts (bc_GW_in (fun w hw' => ?_)) rfl rfl rfl ⟨rfl, k5, k6, k8⟩ hR) hpre rfl hlen hL.1 hst hroom hd ⟨Nat.le_refl _, Nat.le_refl _⟩
      rcases List.mem_append.mp hw' with h1 | h1
      · rcases List.mem_cons.mp h1 with e | h1
        · rw [e]; exact bc_inG_mem hw
        · rcases List.mem_cons.mp h1 with e | h1
          · rw [e]; exact bc_inG_mem k2
          · rcases List.mem_cons.mp h1 with e | h1
            · rw [e]; exact bc_inG_mem k3
            · rcases List.mem_cons.mp h1 with e | h1
              · rw [e]; exact bc_inG_mem k4
              · cases h1
      · rcases List.mem_cons.mp h1 with e | h1
        · rw [e]; exact k1
        · exact h1
    · rw [if_neg hne] at hw
      exact va_runVN (Ts := bc_ws mi) (own := (bc_y mi).cls) (nL := bc_mL mi) ⟨hx, hb, hml, hown, hts⟩ (hM l Z H.size) ⟨va_cnB (bc_MT mj).2.2 hts (bc_ws_good mi mj k1) rfl rfl rfl (hW.2.1 _ (bc_inN_mem hw)) (hts _ (List.mem_cons_of_mem _ (bc_inG_mem k4))) ⟨k5, k6, k8⟩ hR, hts _ (List.mem_cons_of_mem _ (bc_inG_mem k2)), hts _ (List.mem_cons_of_mem _ (bc_inG_mem k3))⟩ hpre rfl hlen hL.1 hst hroom hd ⟨Nat.le_refl _, Nat.le_refl _⟩
  refine bc_callQ hrun hS (fun q _ hq => hfree q hq) hfree (fun r h' H1 locs1 hp1 hP1 hS1 => ?_)
  have := hkk r h' hp1 p l e s m args below meth c Z A H1 locs1 ls hX0 hA hW hP1 hS1 hL
  rw [List.map_append] at this
  cases r <;> exact this
end Steps
end
section
/-! Math.min, Math.max, System.arraycopy; the walk of a method as a proposition (bc_vc), and that it is sound -/
set_option maxRecDepth 100000 in
theorem bc_w_min : lw_tbl[354]? = some (Cond.code Lib.Math.min.name Lib.Math.min.code 2 (some .int)) := rfl
set_option maxRecDepth 100000 in
theorem bc_w_max : lw_tbl[550]? = some (Cond.code Lib.Math.max.name Lib.Math.max.code 2 (some .int)) := rfl
theorem bc_w_min2 : bc_inG 353 (.static Lib.Math.min.name) = true ∧ bc_inG 549 (.static Lib.Math.max.name) = true ∧ bc_inG 83 (.initialized "java/lang/Math") = true := by decide +kernel
theorem bc_w_cpy : bc_inG 456 (.static arraycopyName) = true ∧ bc_inG 457 (.native arraycopyName) = true ∧ bc_inG 88 (.initialized "java/lang/System") = true := by decide +kernel
theorem bc_gw {i : Nat} {w : Cond} (h : lw_tbl[i]? = some w) (hg : goodWord w = true) : w ∈ bc_GW := List.mem_filter.mpr ⟨List.mem_of_getElem? h, hg⟩
def bc_cs : List bc_AV → Nat
  | [] => 0
  | v :: r => bc_cat v + bc_cs r
theorem bc_cs_eq : ∀ st : List bc_AV, (st.map bc_cat).sum = bc_cs st := by
  intro st
  induction st with
  | nil => rfl
  | cons v r ih => simp [bc_cs, ih]
section Steps
variable {d mi : Nat} {post : Option bc_AV → bc_AH → Prop} {pc : Nat} {loc : List (Option bc_AV)} {st : List bc_AV} {h : bc_AH}
theorem bc_s_min {idx pos : Nat} {x y : Int} (hd : decode (bc_by mi) pc = .ok (.invokestatic idx, 3)) (hw : bc_inG pos (.methodLink (bc_y mi).cls idx Lib.Math.min.name) = true) (hx : bc_vr x) (hy : bc_vr y) (hc : bc_cs st ≤ 8) (hn : bc_ATr d mi post (pc + 3) loc (.inl (min x y) :: st) h) : bc_ATr d mi post pc loc (.inl y :: .inl x :: st) h := by
  intro p l e s m args below meth c Z A H locs ls hX hA hW hP hS hL
  have hN := hn p l e s m args below meth c Z A H locs ls hX hA hW hP hS hL
  obtain ⟨hx', hb, hml, hr, hts, hown, hlk⟩ := hX
  refine va_mmin hx' hb (by rw [hml, hL.1]) hown (hts _ (List.mem_cons_of_mem _ (bc_inG_mem hw))) (hts _ (List.mem_cons_of_mem _ (bc_inG_mem bc_w_min2.1))) (hts _ (List.mem_cons_of_mem _ (bc_inG_mem bc_w_min2.2.2))) (hts _ (List.mem_cons_of_mem _ (bc_gw bc_w_min rfl))) ?_ ?_ (Nat.le_refl _) (Nat.le_refl _) hd ?_
  · unfold bc_rm; dsimp only; omega
  · rw [bc_catsum, bc_cs_eq]; unfold bc_rm; dsimp only; omega
  · have e2 : (if Int32.ofInt y < Int32.ofInt x then Int32.ofInt y else Int32.ofInt x) = Int32.ofInt (min x y) := by
      by_cases q : y < x
      · rw [if_pos ((bc_lt hy hx).mpr q)]; congr 1; omega
      · rw [if_neg (fun z => q ((bc_lt hy hx).mp z))]; congr 1; omega
    rw [e2]; exact hN
theorem bc_s_max {idx pos : Nat} {x y : Int} (hd : decode (bc_by mi) pc = .ok (.invokestatic idx, 3)) (hw : bc_inG pos (.methodLink (bc_y mi).cls idx Lib.Math.max.name) = true) (hx : bc_vr x) (hy : bc_vr y) (hc : bc_cs st ≤ 8) (hn : bc_ATr d mi post (pc + 3) loc (.inl (max x y) :: st) h) : bc_ATr d mi post pc loc (.inl y :: .inl x :: st) h := by
  intro p l e s m args below meth c Z A H locs ls hX hA hW hP hS hL
  have hN := hn p l e s m args below meth c Z A H locs ls hX hA hW hP hS hL
  obtain ⟨hx', hb, hml, hr, hts, hown, hlk⟩ := hX
  refine va_mmax hx' hb (by rw [hml, hL.1]) hown (hts _ (List.mem_cons_of_mem _ (bc_inG_mem hw))) (hts _ (List.mem_cons_of_mem _ (bc_inG_mem bc_w_min2.2.1))) (hts _ (List.mem_cons_of_mem _ (bc_inG_mem bc_w_min2.2.2))) (hts _ (List.mem_cons_of_mem _ (bc_gw bc_w_max rfl))) ?_ ?_ (Nat.le_refl _) (Nat.le_refl _) hd ?_
  · unfold bc_rm; dsimp only; omega
  · rw [bc_catsum, bc_cs_eq]; unfold bc_rm; dsimp only; omega
  · have e2 : (if Int32.ofInt x < Int32.ofInt y then Int32.ofInt y else Int32.ofInt x) = Int32.ofInt (max x y) := by
      by_cases q : x < y
      · rw [if_pos ((bc_lt hx hy).mpr q)]; congr 1; omega
      · rw [if_neg (fun z => q ((bc_lt hx hy).mp z))]; congr 1; omega
    rw [e2]; exact hN
theorem bc_s_cpy {idx pos a b na nb : Nat} {fa fb : List (Nat × Nat)} {n : Int} (hd : decode (bc_by mi) pc = .ok (.invokestatic idx, 3)) (hw : bc_inG pos (.methodLink (bc_y mi).cls idx arraycopyName) = true) (h0 : 0 ≤ n) (ha : bc_lay a = (1, na, fa)) (hb : bc_lay b = (1, nb, fb)) (hna : n ≤ na) (hnb : n ≤ nb) (hc : bc_cs st ≤ 8) (hn : bc_ATr d mi post (pc + 3) loc st (bc_cpy h a b n.toNat)) : bc_ATr d mi post pc loc (.inl n :: .inl 0 :: .inr (.inr b) :: .inl 0 :: .inr (.inr a) :: st) h := by
  intro p l e s m args below meth c Z A H locs ls hX hA hW hP hS hL
  have hN := fun H1 locs1 hP1 hS1 => hn p l e s m args below meth c Z A H1 locs1 ls hX hA hW hP1 hS1 hL
  obtain ⟨hx', hb', hml, hr, hts, hown, hlk⟩ := hX
  have hra := bc_lay_lt ha (by decide)
  have hrb := bc_lay_lt hb (by decide)
  have hn2 : na < 2000 := by have := bc_lay_n hra; rw [ha] at this; exact this
  have hga := bc_WS_get Z h hra
  rw [bc_E_1 Z h ha] at hga
  have hgb := bc_WS_get Z h hrb
  rw [bc_E_1 Z h hb] at hgb
  have hnn : (Int32.ofInt n).toNatClampNeg = n.toNat := bc_cl h0 (by omega)
  have hz : (Int32.ofInt 0).toNatClampNeg = 0 := by decide +kernel
  have hz2 : ¬ Int32.ofInt 0 < 0 := by decide +kernel
  have hset : (bc_WS Z h).set b (Z.2.1 b, .inl (Z.2.2.1, nb, .inl (va_cpy (fun j => Int32.ofInt (h a j)) (fun j => Int32.ofInt (h b j)) (Int32.ofInt 0).toNatClampNeg (Int32.ofInt 0).toNatClampNeg (Int32.ofInt n).toNatClampNeg))) = bc_WS Z (bc_cpy h a b n.toNat) := by
    refine bc_WS_set Z h _ b ?_ (fun j hj => bc_E_congr Z (by funext q; simp [bc_cpy, hj]))
    rw [bc_E_1 Z _ hb, hnn, hz]
    have e2 : (fun j => Int32.ofInt (bc_cpy h a b n.toNat b j)) = va_cpy (fun j => Int32.ofInt (h a j)) (fun j => Int32.ofInt (h b j)) 0 0 n.toNat := by
      funext j
      unfold va_cpy bc_cpy
      by_cases hj : j < n.toNat <;> simp [hj]
    rw [e2]
  refine va_copyi hx' hb' (by rw [hml, hL.1]) hown (hts _ (List.mem_cons_of_mem _ (bc_inG_mem hw))) (hts _ (List.mem_cons_of_mem _ (bc_inG_mem bc_w_cpy.2.1))) (hts _ (List.mem_cons_of_mem _ (bc_inG_mem bc_w_cpy.1))) (hts _ (List.mem_cons_of_mem _ (bc_inG_mem bc_w_cpy.2.2))) hW.1 hP (bc_WK_D hW h) hS a b 0 0 hga hgb rfl rfl rfl hz2 hz2 ?_ ?_ ?_ (fun i _ => rfl) ?_ ?_ hd (fun H1 locs1 hP1 _ hS1 => hN H1 locs1 (by rw [← hset]; exact hP1) hS1)
  · rw [show (0 : Int32) = Int32.ofInt 0 from rfl, bc_lt ⟨by omega, by omega⟩ ⟨by omega, by omega⟩]; omega
  · rw [hnn, hz]; omega
  · rw [hnn, hz]; omega
  · unfold bc_rm; dsimp only; omega
  · rw [bc_catsum, bc_cs_eq]
    have : nativeFrameWords "java/lang/System" "arraycopy" 5 = 7 := by decide +kernel
    rw [this]; unfold bc_rm; dsimp only; omega
end Steps
-- what a step needs of locals, stack, layout
def bc_nth : List (Option bc_AV) → Nat → Option bc_AV
  | [], _ => none
  | v :: _, 0 => v
  | _ :: r, n + 1 => bc_nth r n
theorem bc_nth_eq : ∀ (loc : List (Option bc_AV)) (i : Nat) (v : bc_AV), bc_nth loc i = some v → loc[i]? = some (some v) := by
  intro loc
  induction loc with
  | nil => intro i v h; cases h
  | cons a r ih =>
    intro i v h
    cases i with
    | zero => simp [bc_nth] at h; simp [h]
    | succ i => simpa using ih i v h
def bc_set : List (Option bc_AV) → Nat → Option bc_AV → List (Option bc_AV)
  | [], _, _ => []
  | _ :: r, 0, v => v :: r
  | a :: r, n + 1, v => a :: bc_set r n v
theorem bc_set_eq : ∀ (loc : List (Option bc_AV)) (i : Nat) (v : Option bc_AV), bc_set loc i v = loc.set i v := by
  intro loc
  induction loc with
  | nil => intro i v; rfl
  | cons a r ih =>
    intro i v
    cases i with
    | zero => rfl
    | succ i => simp [bc_set, ih]
/-- no long lies just ahead of place i -/
def bc_nl (loc : List (Option bc_AV)) (i : Nat) : Prop := match i with
  | 0 => True
  | j + 1 => match bc_nth loc j with
    | some (.inr (.inl _)) => False
    | _ => True
theorem bc_nl_of {loc : List (Option bc_AV)} {i : Nat} (h : bc_nl loc i) : ∀ j, j + 1 = i → bc_lg loc[j]? = false := by
  intro j hj
  subst hj
  unfold bc_nl at h
  cases hq : loc[j]? with
  | none => rfl
  | some o =>
    cases o with
    | none => rfl
    | some v =>
      rcases v with x | x | x
      · rfl
      · exfalso
        have e : bc_nth loc j = some (.inr (.inl x)) := by
          clear h
          revert j
          induction loc with
          | nil => intro j hq; simp at hq
          | cons a r ih =>
            intro j hq
            cases j with
            | zero => simp at hq; simp [bc_nth, hq]
            | succ j => simp at hq; exact ih j hq
        dsimp only at h
        rw [e] at h
        exact h
      · rfl
def bc_fn : List (Nat × Nat) → Nat → Nat × Nat
  | [], _ => (9, 0)
  | a :: _, 0 => a
  | _ :: l, n + 1 => bc_fn l n
theorem bc_fn_eq : ∀ (l : List (Nat × Nat)) (k : Nat), bc_fn l k = l.getD k (9, 0) := by
  intro l
  induction l with
  | nil => intro k; rfl
  | cons a l ih =>
    intro k
    cases k with
    | zero => rfl
    | succ k => simp [bc_fn, ih]
theorem bc_fn_lt {l : List (Nat × Nat)} {k a b : Nat} (h : bc_fn l k = (a, b)) (ha : a ≠ 9) : k < l.length := by
  by_cases hk : k < l.length
  · exact hk
  · rw [bc_fn_eq, List.getD_eq_getElem?_getD, List.getElem?_eq_none (by omega)] at h
    cases h
    exact absurd rfl ha
def bc_k1 (st : List bc_AV) (k : Int → List bc_AV → Prop) : Prop := match st with
  | .inl x :: r => k x r
  | _ => False
def bc_k2 (st : List bc_AV) (k : Int → Int → List bc_AV → Prop) : Prop := match st with
  | .inl y :: .inl x :: r => k x y r
  | _ => False
def bc_kL (st : List bc_AV) (k : Int → List bc_AV → Prop) : Prop := match st with
  | .inr (.inl x) :: r => k x r
  | _ => False
def bc_kL2 (st : List bc_AV) (k : Int → Int → List bc_AV → Prop) : Prop := match st with
  | .inr (.inl y) :: .inr (.inl x) :: r => k x y r
  | _ => False
def bc_kR (st : List bc_AV) (k : Nat → List bc_AV → Prop) : Prop := match st with
  | .inr (.inr a) :: r => k a r
  | _ => False
def bc_kIR (st : List bc_AV) (k : Int → Nat → List bc_AV → Prop) : Prop := match st with
  | .inl i :: .inr (.inr a) :: r => k i a r
  | _ => False
def bc_kIIR (st : List bc_AV) (k : Int → Int → Nat → List bc_AV → Prop) : Prop := match st with
  | .inl x :: .inl i :: .inr (.inr a) :: r => k x i a r
  | _ => False
theorem bc_k1_of {st : List bc_AV} {k : Int → List bc_AV → Prop} (h : bc_k1 st k) : ∃ x r, st = .inl x :: r ∧ k x r := by
  unfold bc_k1 at h; split at h
  · exact ⟨_, _, rfl, h⟩
  · exact h.elim
theorem bc_k2_of {st : List bc_AV} {k : Int → Int → List bc_AV → Prop} (h : bc_k2 st k) : ∃ x y r, st = .inl y :: .inl x :: r ∧ k x y r := by
  unfold bc_k2 at h; split at h
  · exact ⟨_, _, _, rfl, h⟩
  · exact h.elim
theorem bc_kL_of {st : List bc_AV} {k : Int → List bc_AV → Prop} (h : bc_kL st k) : ∃ x r, st = .inr (.inl x) :: r ∧ k x r := by
  unfold bc_kL at h; split at h
  · exact ⟨_, _, rfl, h⟩
  · exact h.elim
theorem bc_kL2_of {st : List bc_AV} {k : Int → Int → List bc_AV → Prop} (h : bc_kL2 st k) : ∃ x y r, st = .inr (.inl y) :: .inr (.inl x) :: r ∧ k x y r := by
  unfold bc_kL2 at h; split at h
  · exact ⟨_, _, _, rfl, h⟩
  · exact h.elim
theorem bc_kR_of {st : List bc_AV} {k : Nat → List bc_AV → Prop} (h : bc_kR st k) : ∃ a r, st = .inr (.inr a) :: r ∧ k a r := by
  unfold bc_kR at h; split at h
  · exact ⟨_, _, rfl, h⟩
  · exact h.elim
theorem bc_kIR_of {st : List bc_AV} {k : Int → Nat → List bc_AV → Prop} (h : bc_kIR st k) : ∃ i a r, st = .inl i :: .inr (.inr a) :: r ∧ k i a r := by
  unfold bc_kIR at h; split at h
  · exact ⟨_, _, _, rfl, h⟩
  · exact h.elim
theorem bc_kIIR_of {st : List bc_AV} {k : Int → Int → Nat → List bc_AV → Prop} (h : bc_kIIR st k) : ∃ x i a r, st = .inl x :: .inl i :: .inr (.inr a) :: r ∧ k x i a r := by
  unfold bc_kIIR at h; split at h
  · exact ⟨_, _, _, _, rfl, h⟩
  · exact h.elim
/-- a field is read: of an object of class ci, place k -/
def bc_gf (L : Nat × Nat × List (Nat × Nat)) (ci k : Nat) (x : Int) (kk : bc_AV → Prop) : Prop := match L with
  | (0, c, fs) => c = ci ∧ (match bc_fn fs k with
    | (0, _) => kk (.inl x)
    | (1, _) => kk (.inr (.inl x))
    | (2, r) => kk (.inr (.inr r))
    | _ => False)
  | _ => False
/-- a field is put: tag 0 an int, 1 a long -/
def bc_pf (L : Nat × Nat × List (Nat × Nat)) (ci k tag : Nat) (kk : Prop) : Prop := match L with
  | (0, c, fs) => c = ci ∧ bc_fn fs k = (tag, 0) ∧ kk
  | _ => False
def bc_ar (L : Nat × Nat × List (Nat × Nat)) (kk : Nat → Prop) : Prop := match L with
  | (1, n, _) => kk n
  | _ => False
def bc_arr (L : Nat × Nat × List (Nat × Nat)) (kk : Nat → List (Nat × Nat) → Prop) : Prop := match L with
  | (3, n, fs) => kk n fs
  | _ => False
def bc_ldI (loc : List (Option bc_AV)) (i : Nat) (k : Int → Prop) : Prop := match bc_nth loc i with
  | some (.inl x) => k x
  | _ => False
def bc_ldL (loc : List (Option bc_AV)) (i : Nat) (k : Int → Prop) : Prop := match bc_nth loc i with
  | some (.inr (.inl x)) => k x
  | _ => False
def bc_ldR (loc : List (Option bc_AV)) (i : Nat) (k : Nat → Prop) : Prop := match bc_nth loc i with
  | some (.inr (.inr x)) => k x
  | _ => False
theorem bc_ldI_of {loc : List (Option bc_AV)} {i : Nat} {k : Int → Prop} (h : bc_ldI loc i k) : ∃ x, loc[i]? = some (some (.inl x)) ∧ k x := by
  unfold bc_ldI at h; split at h
  · exact ⟨_, bc_nth_eq _ _ _ (by assumption), h⟩
  · exact h.elim
theorem bc_ldL_of {loc : List (Option bc_AV)} {i : Nat} {k : Int → Prop} (h : bc_ldL loc i k) : ∃ x, loc[i]? = some (some (.inr (.inl x))) ∧ k x := by
  unfold bc_ldL at h; split at h
  · exact ⟨_, bc_nth_eq _ _ _ (by assumption), h⟩
  · exact h.elim
theorem bc_ldR_of {loc : List (Option bc_AV)} {i : Nat} {k : Nat → Prop} (h : bc_ldR loc i k) : ∃ x, loc[i]? = some (some (.inr (.inr x))) ∧ k x := by
  unfold bc_ldR at h; split at h
  · exact ⟨_, bc_nth_eq _ _ _ (by assumption), h⟩
  · exact h.elim
theorem bc_ar_of {L : Nat × Nat × List (Nat × Nat)} {kk : Nat → Prop} (h : bc_ar L kk) : ∃ n fs, L = (1, n, fs) ∧ kk n := by
  unfold bc_ar at h; split at h
  · exact ⟨_, _, rfl, h⟩
  · exact h.elim
theorem bc_arr_of {L : Nat × Nat × List (Nat × Nat)} {kk : Nat → List (Nat × Nat) → Prop} (h : bc_arr L kk) : ∃ n fs, L = (3, n, fs) ∧ kk n fs := by
  unfold bc_arr at h; split at h
  · exact ⟨_, _, rfl, h⟩
  · exact h.elim
theorem bc_gf_of {L : Nat × Nat × List (Nat × Nat)} {ci k : Nat} {x : Int} {kk : bc_AV → Prop} (h : bc_gf L ci k x kk) : ∃ fs v, L = (0, ci, fs) ∧ k < fs.length ∧ (∀ ad, bc_fv ad x (fs.getD k (9, 0)) = bc_cv ad v) ∧ kk v := by
  unfold bc_gf at h
  split at h
  · rename_i c fs
    obtain ⟨h1, h2⟩ := h
    subst h1
    split at h2
    · rename_i b hb; exact ⟨fs, _, rfl, bc_fn_lt hb (by decide), fun ad => by rw [← bc_fn_eq, hb]; rfl, h2⟩
    · rename_i b hb; exact ⟨fs, _, rfl, bc_fn_lt hb (by decide), fun ad => by rw [← bc_fn_eq, hb]; rfl, h2⟩
    · rename_i b hb; exact ⟨fs, _, rfl, bc_fn_lt hb (by decide), fun ad => by rw [← bc_fn_eq, hb]; rfl, h2⟩
    · exact h2.elim
  · exact h.elim
theorem bc_pf_of {L : Nat × Nat × List (Nat × Nat)} {ci k tag : Nat} {kk : Prop} (h : bc_pf L ci k tag kk) (ht : tag ≠ 9) : ∃ fs, L = (0, ci, fs) ∧ k < fs.length ∧ fs.getD k (9, 0) = (tag, 0) ∧ kk := by
  unfold bc_pf at h
  split at h
  · rename_i c fs
    obtain ⟨h1, h2, h3⟩ := h
    subst h1
    exact ⟨fs, rfl, bc_fn_lt h2 ht, by rw [← bc_fn_eq]; exact h2, h3⟩
  · exact h.elim
end
section
/-! the links of fields and methods, each word at its place in the tables -/
def bc_cn (k : Nat) : String := match k with
  | 0 => RX0
  | 1 => RX1
  | 2 => RX2
  | 3 => RX3
  | 4 => RX4
  | 5 => RX5
  | 6 => RX6
  | 7 => RX7
  | _ => RJ6
def bc_own (mi : Nat) : Nat := match mi with
  | 1 => 0
  | 2 => 0
  | 3 => 0
  | 4 => 0
  | 5 => 0
  | 6 => 0
  | 7 => 0
  | 8 => 0
  | 9 => 0
  | 10 => 0
  | 12 => 1
  | 13 => 1
  | 14 => 1
  | 15 => 1
  | 16 => 1
  | 17 => 1
  | 18 => 1
  | 19 => 1
  | 20 => 1
  | 21 => 1
  | 22 => 1
  | 23 => 1
  | 24 => 1
  | 26 => 2
  | 27 => 2
  | 28 => 2
  | 30 => 3
  | 31 => 3
  | 32 => 3
  | 33 => 3
  | 34 => 3
  | 35 => 3
  | 36 => 3
  | 37 => 3
  | 38 => 3
  | 39 => 3
  | 40 => 3
  | 41 => 3
  | 43 => 4
  | 44 => 4
  | 45 => 4
  | 46 => 4
  | 47 => 4
  | 48 => 4
  | 50 => 5
  | 51 => 5
  | 52 => 5
  | 54 => 6
  | 55 => 6
  | 56 => 6
  | 57 => 6
  | 58 => 6
  | 59 => 6
  | 60 => 6
  | 61 => 6
  | 62 => 6
  | 63 => 6
  | 64 => 6
  | 65 => 6
  | 66 => 6
  | 67 => 6
  | 68 => 6
  | 69 => 6
  | 70 => 6
  | 71 => 6
  | 72 => 6
  | 73 => 6
  | 74 => 6
  | 75 => 6
  | 76 => 6
  | 77 => 6
  | 78 => 6
  | 79 => 7
  | 80 => 7
  | 81 => 7
  | 82 => 7
  | 83 => 7
  | 84 => 7
  | 85 => 7
  | 86 => 7
  | 87 => 7
  | 88 => 7
  | 89 => 7
  | 90 => 7
  | 91 => 7
  | 93 => 7
  | 94 => 7
  | 95 => 7
  | 96 => 7
  | 97 => 7
  | 98 => 7
  | 99 => 7
  | 100 => 7
  | 101 => 7
  | 102 => 7
  | 103 => 7
  | 104 => 7
  | 105 => 7
  | 106 => 7
  | 107 => 7
  | 108 => 7
  | 109 => 7
  | 110 => 7
  | 111 => 7
  | 112 => 7
  | 113 => 7
  | 114 => 7
  | 115 => 7
  | 116 => 7
  | 117 => 7
  | 118 => 7
  | 119 => 7
  | 120 => 7
  | 121 => 7
  | 122 => 7
  | 123 => 7
  | 124 => 7
  | 125 => 7
  | 126 => 7
  | 127 => 7
  | 128 => 7
  | 129 => 7
  | 130 => 7
  | 131 => 7
  | 132 => 7
  | 133 => 7
  | 134 => 7
  | 135 => 7
  | 136 => 8
  | _ => 0
theorem bc_own0 : ∀ mi ∈ bc_gl0, bc_cn (bc_own mi) = (bc_y mi).cls := List.forall_mem_cons.mpr ⟨rfl, List.forall_mem_cons.mpr ⟨rfl, List.forall_mem_cons.mpr ⟨rfl, List.forall_mem_cons.mpr ⟨rfl, List.forall_mem_cons.mpr ⟨rfl, List.forall_mem_cons.mpr ⟨rfl, List.forall_mem_cons.mpr ⟨rfl, List.forall_mem_cons.mpr ⟨rfl, List.forall_mem_cons.mpr ⟨rfl, List.forall_mem_cons.mpr ⟨rfl, List.forall_mem_cons.mpr ⟨rfl, List.forall_mem_cons.mpr ⟨rfl, List.forall_mem_cons.mpr ⟨rfl, List.forall_mem_cons.mpr ⟨rfl, List.forall_mem_cons.mpr ⟨rfl, List.forall_mem_cons.mpr ⟨rfl, List.forall_mem_cons.mpr ⟨rfl, List.forall_mem_cons.mpr ⟨rfl, List.forall_mem_cons.mpr ⟨rfl, List.forall_mem_cons.mpr ⟨rfl, List.forall_mem_cons.mpr ⟨rfl, List.forall_mem_cons.mpr ⟨rfl, List.forall_mem_cons.mpr ⟨rfl, List.forall_mem_cons.mpr ⟨rfl, fun _ h => by cases h⟩⟩⟩⟩⟩⟩⟩⟩⟩⟩⟩⟩⟩⟩⟩⟩⟩⟩⟩⟩⟩⟩⟩⟩
theorem bc_own1 : ∀ mi ∈ bc_gl1, bc_cn (bc_own mi) = (bc_y mi).cls := List.forall_mem_cons.mpr ⟨rfl, List.forall_mem_cons.mpr ⟨rfl, List.forall_mem_cons.mpr ⟨rfl, List.forall_mem_cons.mpr ⟨rfl, List.forall_mem_cons.mpr ⟨rfl, List.forall_mem_cons.mpr ⟨rfl, List.forall_mem_cons.mpr ⟨rfl, List.forall_mem_cons.mpr ⟨rfl, List.forall_mem_cons.mpr ⟨rfl, List.forall_mem_cons.mpr ⟨rfl, List.forall_mem_cons.mpr ⟨rfl, List.forall_mem_cons.mpr ⟨rfl, List.forall_mem_cons.mpr ⟨rfl, List.forall_mem_cons.mpr ⟨rfl, List.forall_mem_cons.mpr ⟨rfl, List.forall_mem_cons.mpr ⟨rfl, List.forall_mem_cons.mpr ⟨rfl, List.forall_mem_cons.mpr ⟨rfl, List.forall_mem_cons.mpr ⟨rfl, List.forall_mem_cons.mpr ⟨rfl, List.forall_mem_cons.mpr ⟨rfl, List.forall_mem_cons.mpr ⟨rfl, List.forall_mem_cons.mpr ⟨rfl, List.forall_mem_cons.mpr ⟨rfl, fun _ h => by cases h⟩⟩⟩⟩⟩⟩⟩⟩⟩⟩⟩⟩⟩⟩⟩⟩⟩⟩⟩⟩⟩⟩⟩⟩
theorem bc_own2 : ∀ mi ∈ bc_gl2, bc_cn (bc_own mi) = (bc_y mi).cls := List.forall_mem_cons.mpr ⟨rfl, List.forall_mem_cons.mpr ⟨rfl, List.forall_mem_cons.mpr ⟨rfl, List.forall_mem_cons.mpr ⟨rfl, List.forall_mem_cons.mpr ⟨rfl, List.forall_mem_cons.mpr ⟨rfl, List.forall_mem_cons.mpr ⟨rfl, List.forall_mem_cons.mpr ⟨rfl, List.forall_mem_cons.mpr ⟨rfl, List.forall_mem_cons.mpr ⟨rfl, List.forall_mem_cons.mpr ⟨rfl, List.forall_mem_cons.mpr ⟨rfl, List.forall_mem_cons.mpr ⟨rfl, List.forall_mem_cons.mpr ⟨rfl, List.forall_mem_cons.mpr ⟨rfl, List.forall_mem_cons.mpr ⟨rfl, List.forall_mem_cons.mpr ⟨rfl, List.forall_mem_cons.mpr ⟨rfl, List.forall_mem_cons.mpr ⟨rfl, List.forall_mem_cons.mpr ⟨rfl, List.forall_mem_cons.mpr ⟨rfl, List.forall_mem_cons.mpr ⟨rfl, List.forall_mem_cons.mpr ⟨rfl, List.forall_mem_cons.mpr ⟨rfl, fun _ h => by cases h⟩⟩⟩⟩⟩⟩⟩⟩⟩⟩⟩⟩⟩⟩⟩⟩⟩⟩⟩⟩⟩⟩⟩⟩
theorem bc_own3 : ∀ mi ∈ bc_gl3, bc_cn (bc_own mi) = (bc_y mi).cls := List.forall_mem_cons.mpr ⟨rfl, List.forall_mem_cons.mpr ⟨rfl, List.forall_mem_cons.mpr ⟨rfl, List.forall_mem_cons.mpr ⟨rfl, List.forall_mem_cons.mpr ⟨rfl, List.forall_mem_cons.mpr ⟨rfl, List.forall_mem_cons.mpr ⟨rfl, List.forall_mem_cons.mpr ⟨rfl, List.forall_mem_cons.mpr ⟨rfl, List.forall_mem_cons.mpr ⟨rfl, List.forall_mem_cons.mpr ⟨rfl, List.forall_mem_cons.mpr ⟨rfl, List.forall_mem_cons.mpr ⟨rfl, List.forall_mem_cons.mpr ⟨rfl, List.forall_mem_cons.mpr ⟨rfl, List.forall_mem_cons.mpr ⟨rfl, List.forall_mem_cons.mpr ⟨rfl, List.forall_mem_cons.mpr ⟨rfl, List.forall_mem_cons.mpr ⟨rfl, List.forall_mem_cons.mpr ⟨rfl, List.forall_mem_cons.mpr ⟨rfl, List.forall_mem_cons.mpr ⟨rfl, List.forall_mem_cons.mpr ⟨rfl, List.forall_mem_cons.mpr ⟨rfl, fun _ h => by cases h⟩⟩⟩⟩⟩⟩⟩⟩⟩⟩⟩⟩⟩⟩⟩⟩⟩⟩⟩⟩⟩⟩⟩⟩
theorem bc_own4 : ∀ mi ∈ bc_gl4, bc_cn (bc_own mi) = (bc_y mi).cls := List.forall_mem_cons.mpr ⟨rfl, List.forall_mem_cons.mpr ⟨rfl, List.forall_mem_cons.mpr ⟨rfl, List.forall_mem_cons.mpr ⟨rfl, List.forall_mem_cons.mpr ⟨rfl, List.forall_mem_cons.mpr ⟨rfl, List.forall_mem_cons.mpr ⟨rfl, List.forall_mem_cons.mpr ⟨rfl, List.forall_mem_cons.mpr ⟨rfl, List.forall_mem_cons.mpr ⟨rfl, List.forall_mem_cons.mpr ⟨rfl, List.forall_mem_cons.mpr ⟨rfl, List.forall_mem_cons.mpr ⟨rfl, List.forall_mem_cons.mpr ⟨rfl, List.forall_mem_cons.mpr ⟨rfl, List.forall_mem_cons.mpr ⟨rfl, List.forall_mem_cons.mpr ⟨rfl, List.forall_mem_cons.mpr ⟨rfl, List.forall_mem_cons.mpr ⟨rfl, List.forall_mem_cons.mpr ⟨rfl, List.forall_mem_cons.mpr ⟨rfl, List.forall_mem_cons.mpr ⟨rfl, List.forall_mem_cons.mpr ⟨rfl, List.forall_mem_cons.mpr ⟨rfl, fun _ h => by cases h⟩⟩⟩⟩⟩⟩⟩⟩⟩⟩⟩⟩⟩⟩⟩⟩⟩⟩⟩⟩⟩⟩⟩⟩
theorem bc_own5 : ∀ mi ∈ bc_gl5, bc_cn (bc_own mi) = (bc_y mi).cls := List.forall_mem_cons.mpr ⟨rfl, List.forall_mem_cons.mpr ⟨rfl, List.forall_mem_cons.mpr ⟨rfl, List.forall_mem_cons.mpr ⟨rfl, List.forall_mem_cons.mpr ⟨rfl, List.forall_mem_cons.mpr ⟨rfl, List.forall_mem_cons.mpr ⟨rfl, List.forall_mem_cons.mpr ⟨rfl, List.forall_mem_cons.mpr ⟨rfl, fun _ h => by cases h⟩⟩⟩⟩⟩⟩⟩⟩⟩
theorem bc_own_ok : ∀ mi ∈ bc_gl, bc_cn (bc_own mi) = (bc_y mi).cls := (List.forall_mem_append.mpr ⟨bc_own0, (List.forall_mem_append.mpr ⟨bc_own1, (List.forall_mem_append.mpr ⟨bc_own2, (List.forall_mem_append.mpr ⟨bc_own3, (List.forall_mem_append.mpr ⟨bc_own4, bc_own5⟩)⟩)⟩)⟩)⟩)
def bc_LF0 : List (Nat × Nat × Nat × Nat × Nat × Nat) := [(0, 25, 0, 5, 253, 0), (0, 33, 0, 6, 254, 0), (0, 12, 0, 1, 248, 0), (0, 43, 0, 4, 252, 0), (0, 18, 0, 2, 249, 0), (0, 50, 0, 7, 255, 0), (0, 53, 0, 8, 256, 0), (0, 56, 0, 9, 258, 0), (0, 22, 0, 3, 250, 0), (0, 29, 0, 0, 247, 0), (0, 86, 1, 0, 155, 1), (0, 89, 1, 4, 166, 1), (0, 96, 1, 1, 158, 1), (0, 109, 1, 8, 177, 1), (0, 118, 1, 2, 162, 1), (1, 43, 1, 8, 174, 0), (1, 46, 1, 9, 178, 0), (1, 49, 1, 10, 181, 0), (1, 52, 1, 11, 183, 0), (1, 36, 1, 12, 185, 0), (1, 40, 1, 13, 187, 0), (1, 55, 1, 14, 189, 0), (1, 9, 1, 0, 154, 0), (1, 15, 1, 1, 157, 0), (1, 18, 1, 2, 160, 0), (1, 21, 1, 3, 163, 0), (1, 24, 1, 4, 165, 0), (1, 27, 1, 5, 168, 0), (1, 30, 1, 6, 170, 0), (1, 33, 1, 7, 172, 0)]
theorem bc_LF0_ok : ∀ q ∈ bc_LF0, bc_fw (bc_cn q.1) q.2.1 q.2.2.1 q.2.2.2.1 q.2.2.2.2.1 q.2.2.2.2.2 = true := by decide +kernel
def bc_LF1 : List (Nat × Nat × Nat × Nat × Nat × Nat) := [(2, 16, 2, 1, 291, 0), (2, 11, 2, 0, 290, 0), (2, 24, 2, 2, 292, 0), (3, 20, 3, 1, 125, 0), (3, 24, 3, 5, 129, 0), (3, 30, 3, 3, 127, 0), (3, 9, 3, 0, 124, 0), (3, 33, 5, 1, 110, 1), (3, 59, 3, 4, 128, 0), (3, 62, 1, 9, 179, 1), (3, 73, 1, 8, 175, 1), (3, 80, 3, 2, 126, 0), (3, 83, 3, 6, 132, 0), (4, 9, 4, 0, 234, 0), (4, 15, 4, 1, 235, 0), (4, 18, 4, 2, 236, 0), (4, 21, 4, 3, 237, 0), (5, 15, 5, 1, 109, 0), (5, 11, 5, 0, 108, 0), (6, 10, 6, 0, 301, 0), (6, 59, 5, 1, 111, 1), (6, 21, 6, 1, 302, 0), (6, 32, 6, 3, 304, 0), (6, 67, 3, 6, 131, 1), (6, 28, 6, 2, 303, 0), (6, 47, 6, 5, 306, 0), (6, 76, 3, 5, 130, 1), (6, 79, 1, 8, 176, 1), (6, 86, 1, 9, 180, 1), (6, 89, 1, 10, 182, 1)]
theorem bc_LF1_ok : ∀ q ∈ bc_LF1, bc_fw (bc_cn q.1) q.2.1 q.2.2.1 q.2.2.2.1 q.2.2.2.2.1 q.2.2.2.2.2 = true := by decide +kernel
def bc_LF2 : List (Nat × Nat × Nat × Nat × Nat × Nat) := [(6, 92, 1, 11, 184, 1), (6, 95, 1, 12, 186, 1), (6, 98, 1, 13, 188, 1), (6, 101, 1, 14, 190, 1), (6, 104, 2, 2, 293, 1), (6, 40, 6, 4, 305, 0), (6, 160, 0, 8, 257, 1), (6, 163, 0, 9, 259, 1), (6, 169, 0, 3, 251, 1), (6, 121, 1, 2, 161, 1), (6, 114, 1, 0, 156, 1), (6, 124, 1, 3, 164, 1), (6, 118, 1, 1, 159, 1), (6, 130, 1, 5, 169, 1), (7, 1, 7, 0, 772, 0), (7, 7, 7, 1, 773, 0), (7, 11, 7, 2, 774, 0), (7, 18, 7, 3, 775, 0), (7, 21, 7, 4, 776, 0), (7, 24, 7, 5, 777, 0), (7, 27, 7, 6, 778, 0), (7, 37, 7, 10, 782, 0), (7, 41, 7, 7, 779, 0), (7, 52, 7, 8, 780, 0), (7, 55, 7, 9, 781, 0), (7, 67, 7, 12, 784, 0), (7, 64, 7, 11, 783, 0), (7, 132, 7, 14, 786, 0), (7, 156, 7, 16, 788, 0), (7, 73, 7, 15, 787, 0)]
theorem bc_LF2_ok : ∀ q ∈ bc_LF2, bc_fw (bc_cn q.1) q.2.1 q.2.2.1 q.2.2.2.1 q.2.2.2.2.1 q.2.2.2.2.2 = true := by decide +kernel
def bc_LF3 : List (Nat × Nat × Nat × Nat × Nat × Nat) := [(7, 76, 7, 17, 789, 0), (7, 79, 7, 18, 790, 0), (7, 82, 7, 19, 791, 0), (7, 85, 7, 20, 792, 0), (7, 88, 7, 21, 793, 0), (7, 91, 7, 22, 794, 0), (7, 172, 7, 23, 795, 0), (7, 175, 7, 24, 796, 0), (7, 178, 7, 25, 797, 0), (7, 181, 7, 26, 798, 0), (7, 94, 7, 27, 799, 0), (7, 70, 7, 13, 785, 0)]
theorem bc_LF3_ok : ∀ q ∈ bc_LF3, bc_fw (bc_cn q.1) q.2.1 q.2.2.1 q.2.2.2.1 q.2.2.2.2.1 q.2.2.2.2.2 = true := by decide +kernel
def bc_LF : List (Nat × Nat × Nat × Nat × Nat × Nat) := bc_LF0 ++ (bc_LF1 ++ (bc_LF2 ++ (bc_LF3)))
theorem bc_LF_ok : ∀ q ∈ bc_LF, bc_fw (bc_cn q.1) q.2.1 q.2.2.1 q.2.2.2.1 q.2.2.2.2.1 q.2.2.2.2.2 = true := (List.forall_mem_append.mpr ⟨bc_LF0_ok, (List.forall_mem_append.mpr ⟨bc_LF1_ok, (List.forall_mem_append.mpr ⟨bc_LF2_ok, bc_LF3_ok⟩)⟩)⟩)
def bc_LM0 : List (Nat × Nat × Nat × Nat × Nat) := [(0, 36, 6, 515, 0), (0, 40, 43, 523, 1), (0, 46, 9, 527, 0), (0, 59, 3, 539, 0), (0, 62, 47, 543, 1), (0, 66, 8, 551, 0), (0, 69, 78, 519, 1), (0, 73, 7, 572, 0), (0, 76, 15, 531, 1), (0, 82, 10, 555, 0), (0, 92, 48, 576, 1), (0, 105, 45, 559, 1), (0, 112, 20, 522, 1), (0, 115, 46, 532, 1), (1, 64, 15, 479, 0), (1, 68, 16, 475, 0), (1, 71, 17, 507, 0), (1, 75, 20, 492, 0), (1, 78, 24, 664, 0), (1, 82, 78, 668, 1), (2, 20, 13, 637, 1), (3, 15, 12, 344, 1), (3, 27, 36, 348, 0), (3, 38, 31, 372, 0), (3, 42, 32, 441, 0), (3, 47, 38, 377, 0), (3, 51, 35, 429, 0), (3, 55, 33, 433, 0), (3, 65, 34, 437, 0), (3, 76, 14, 447, 1)]
theorem bc_LM0_ok : ∀ q ∈ bc_LM0, bc_cw (bc_cn q.1) q.2.1 q.2.2.1 q.2.2.2.1 q.2.2.2.2 = true := by decide +kernel
def bc_LM1 : List (Nat × Nat × Nat × Nat × Nat) := [(3, 92, 52, 355, 1), (3, 96, 39, 359, 0), (3, 99, 37, 362, 0), (3, 102, 40, 366, 0), (3, 105, 41, 369, 0), (4, 24, 44, 536, 0), (6, 51, 50, 324, 1), (6, 55, 51, 328, 1), (6, 63, 30, 340, 1), (6, 70, 13, 451, 1), (6, 73, 28, 458, 1), (6, 82, 18, 471, 1), (6, 143, 16, 487, 1), (6, 146, 21, 488, 1), (6, 150, 77, 500, 0), (6, 153, 19, 503, 1), (6, 156, 2, 511, 1), (6, 107, 15, 567, 1), (6, 166, 5, 568, 1), (6, 133, 17, 585, 1), (6, 172, 22, 586, 1), (6, 175, 78, 590, 0), (6, 178, 4, 595, 1), (6, 181, 75, 603, 0), (6, 184, 1, 611, 1), (6, 187, 136, 627, 0), (6, 192, 26, 633, 1), (6, 195, 14, 639, 1), (6, 199, 76, 648, 0), (6, 203, 23, 660, 1)]
theorem bc_LM1_ok : ∀ q ∈ bc_LM1, bc_cw (bc_cn q.1) q.2.1 q.2.2.1 q.2.2.2.1 q.2.2.2.2 = true := by decide +kernel
def bc_LM2 : List (Nat × Nat × Nat × Nat × Nat) := [(6, 207, 27, 674, 1), (7, 14, 83, 755, 0), (7, 30, 88, 865, 0), (7, 34, 87, 868, 0), (7, 44, 86, 871, 0), (7, 101, 91, 893, 0), (7, 104, 81, 897, 0), (7, 108, 89, 861, 0), (7, 111, 94, 889, 0), (7, 114, 90, 881, 0), (7, 118, 95, 885, 0), (7, 122, 96, 900, 0), (7, 97, 93, 769, 0), (7, 126, 97, 877, 0), (7, 129, 98, 904, 0), (7, 135, 101, 924, 0), (7, 138, 102, 928, 0), (7, 142, 103, 920, 0), (7, 145, 105, 916, 0), (7, 149, 80, 936, 0), (7, 152, 104, 940, 0), (7, 159, 108, 952, 0), (7, 162, 109, 948, 0), (7, 165, 82, 968, 0), (7, 168, 112, 975, 0), (7, 184, 113, 971, 0), (7, 187, 111, 960, 0), (7, 190, 114, 964, 0), (7, 194, 115, 986, 0), (7, 197, 117, 982, 0)]
theorem bc_LM2_ok : ∀ q ∈ bc_LM2, bc_cw (bc_cn q.1) q.2.1 q.2.2.1 q.2.2.2.1 q.2.2.2.2 = true := by decide +kernel
def bc_LM3 : List (Nat × Nat × Nat × Nat × Nat) := [(7, 200, 119, 994, 0), (7, 203, 120, 998, 0), (7, 206, 127, 1026, 0), (7, 209, 130, 1038, 0), (7, 212, 133, 1050, 0)]
theorem bc_LM3_ok : ∀ q ∈ bc_LM3, bc_cw (bc_cn q.1) q.2.1 q.2.2.1 q.2.2.2.1 q.2.2.2.2 = true := by decide +kernel
def bc_LM : List (Nat × Nat × Nat × Nat × Nat) := bc_LM0 ++ (bc_LM1 ++ (bc_LM2 ++ (bc_LM3)))
theorem bc_LM_ok : ∀ q ∈ bc_LM, bc_cw (bc_cn q.1) q.2.1 q.2.2.1 q.2.2.2.1 q.2.2.2.2 = true := (List.forall_mem_append.mpr ⟨bc_LM0_ok, (List.forall_mem_append.mpr ⟨bc_LM1_ok, (List.forall_mem_append.mpr ⟨bc_LM2_ok, bc_LM3_ok⟩)⟩)⟩)
end
section
/-! a step, the walk, and that they are sound -/
/-! the two judgements, closed to unfolding -/
theorem bc_ATx : ∃ P : Nat → Nat → (Option bc_AV → bc_AH → Prop) → Nat → List (Option bc_AV) → List bc_AV → bc_AH → Prop, P = bc_ATr := ⟨_, rfl⟩
noncomputable def bc_AT : Nat → Nat → (Option bc_AV → bc_AH → Prop) → Nat → List (Option bc_AV) → List bc_AV → bc_AH → Prop := Classical.choose bc_ATx
theorem bc_AT_eq : bc_AT = bc_ATr := Classical.choose_spec bc_ATx
theorem bc_OKx : ∃ P : Nat → Nat → List bc_AV → bc_AH → (Option bc_AV → bc_AH → Prop) → Prop, P = bc_OKr := ⟨_, rfl⟩
noncomputable def bc_OK : Nat → Nat → List bc_AV → bc_AH → (Option bc_AV → bc_AH → Prop) → Prop := Classical.choose bc_OKx
theorem bc_OK_eq : bc_OK = bc_OKr := Classical.choose_spec bc_OKx
def bc_fi (k : Fin 4) : Nat := k.val
theorem bc_fi0 : bc_fi 0 = 0 := rfl
theorem bc_fi1 : bc_fi 1 = 1 := rfl
theorem bc_fi2 : bc_fi 2 = 2 := rfl
theorem bc_fi3 : bc_fi 3 = 3 := rfl
def bc_step (d mi : Nat) (post : Option bc_AV → bc_AH → Prop) (e : bc_En) (nx : List (Option bc_AV) → List bc_AV → bc_AH → Prop) (jp : Nat → List Nat → List (Option bc_AV) → List bc_AV → bc_AH → Prop) (loc : List (Option bc_AV)) (st : List bc_AV) (h : bc_AH) : Prop :=
  match e.2.1 with
  | .iconst n => nx loc (.inl n :: st) h
  | .bipush n => nx loc (.inl n :: st) h
  | .sipush n => nx loc (.inl n :: st) h
  | .lconst n => nx loc (.inr (.inl ((n : Nat) : Int)) :: st) h
  | .ldc _ => (match e.2.2.2 with
    | [i] => nx loc (.inr (.inr (1000 + i)) :: st) h
    | _ => False)
  | .ldc_w _ => (match e.2.2.2 with
    | [_, v] => nx loc (.inl ((v : Nat) : Int) :: st) h
    | _ => False)
  | .ldc2_w _ => (match e.2.2.2 with
    | [_, v] => nx loc (.inr (.inl ((v : Nat) : Int)) :: st) h
    | _ => False)
  | .iload i => bc_ldI loc i (fun x => nx loc (.inl x :: st) h)
  | .iload_n k => bc_ldI loc (bc_fi k) (fun x => nx loc (.inl x :: st) h)
  | .lload i => bc_ldL loc i (fun x => nx loc (.inr (.inl x) :: st) h)
  | .aload i => bc_ldR loc i (fun x => nx loc (.inr (.inr x) :: st) h)
  | .aload_n k => bc_ldR loc (bc_fi k) (fun x => nx loc (.inr (.inr x) :: st) h)
  | .istore i => bc_k1 st (fun x st' => bc_nl loc i ∧ nx (bc_set loc i (some (.inl x))) st' h)
  | .istore_n k => bc_k1 st (fun x st' => bc_nl loc (bc_fi k) ∧ nx (bc_set loc (bc_fi k) (some (.inl x))) st' h)
  | .lstore i => bc_kL st (fun x st' => bc_nl loc i ∧ nx (bc_set (bc_set loc (i + 1) none) i (some (.inr (.inl x)))) st' h)
  | .iinc i n => bc_ldI loc i (fun x => bc_nl loc i ∧ nx (bc_set loc i (some (.inl (x + n)))) st h)
  | .iadd => bc_k2 st (fun x y st' => nx loc (.inl (x + y) :: st') h)
  | .isub => bc_k2 st (fun x y st' => nx loc (.inl (x - y) :: st') h)
  | .imul => bc_k2 st (fun x y st' => nx loc (.inl (x * y) :: st') h)
  | .idiv => bc_k2 st (fun x y st' => 0 ≤ x ∧ bc_vr x ∧ 0 < y ∧ bc_vr y ∧ nx loc (.inl (x / y) :: st') h)
  | .irem => bc_k2 st (fun x y st' => 0 ≤ x ∧ bc_vr x ∧ 0 < y ∧ bc_vr y ∧ nx loc (.inl (x % y) :: st') h)
  | .iand => bc_k2 st (fun x y st' => nx loc (.inl (bc_and x y) :: st') h)
  | .ior => bc_k2 st (fun x y st' => nx loc (.inl (bc_or x y) :: st') h)
  | .ixor => bc_k2 st (fun x y st' => nx loc (.inl (bc_xor x y) :: st') h)
  | .ishl => bc_k2 st (fun x y st' => nx loc (.inl (bc_shl x y) :: st') h)
  | .ishr => bc_k2 st (fun x y st' => nx loc (.inl (bc_shr x y) :: st') h)
  | .iushr => bc_k2 st (fun x y st' => nx loc (.inl (bc_ushr x y) :: st') h)
  | .i2l => bc_k1 st (fun x st' => bc_vr x ∧ nx loc (.inr (.inl x) :: st') h)
  | .ladd => bc_kL2 st (fun x y st' => nx loc (.inr (.inl (x + y)) :: st') h)
  | .lsub => bc_kL2 st (fun x y st' => nx loc (.inr (.inl (x - y)) :: st') h)
  | .lmul => bc_kL2 st (fun x y st' => nx loc (.inr (.inl (x * y)) :: st') h)
  | .lcmp => bc_kL2 st (fun x y st' => bc_vl x ∧ bc_vl y ∧ nx loc (.inl (if x < y then -1 else if x = y then 0 else 1) :: st') h)
  | .dup => (match st with
    | v :: st' => bc_cat v = 1 ∧ nx loc (v :: v :: st') h
    | _ => False)
  | .dup2 => (match st with
    | v :: u :: st' => bc_cat v = 1 ∧ bc_cat u = 1 ∧ nx loc (v :: u :: v :: u :: st') h
    | _ => False)
  | .goto _ => (match e.2.2.2 with
    | t :: ms => jp t ms loc st h
    | _ => False)
  | .ifnonnull _ => (match e.2.2.2 with
    | t :: ms => bc_kR st (fun _ st' => jp t ms loc st' h)
    | _ => False)
  | .if_icmp k _ => (match e.2.2.2 with
    | t :: ms => bc_k2 st (fun x y st' => bc_vr x ∧ bc_vr y ∧ (bc_cc k x y → jp t ms loc st' h) ∧ (¬ bc_cc k x y → nx loc st' h))
    | _ => False)
  | .ifCond k _ => (match e.2.2.2 with
    | t :: ms => bc_k1 st (fun x st' => bc_vr x ∧ (bc_cc k x 0 → jp t ms loc st' h) ∧ (¬ bc_cc k x 0 → nx loc st' h))
    | _ => False)
  | .tableswitch _ lo hi _ => (match e.2.2.2 with
    | td :: ts => bc_k1 st (fun x st' => bc_vr x ∧ bc_sw (fun t => jp t [] loc st' h) x lo ts ∧ ((x < lo ∨ hi < x) → jp td [] loc st' h))
    | _ => False)
  | .getfield _ => (match e.2.2.2 with
    | [ci, k, _] => bc_kR st (fun r st' => bc_gf (bc_lay r) ci k (h r k) (fun v => nx loc (v :: st') h))
    | _ => False)
  | .putfield _ => (match e.2.2.2, st with
    | [ci, k, _], .inl x :: .inr (.inr r) :: st' => bc_pf (bc_lay r) ci k 0 (nx loc st' (bc_up h r k x))
    | [ci, k, _], .inr (.inl x) :: .inr (.inr r) :: st' => bc_pf (bc_lay r) ci k 1 (nx loc st' (bc_up h r k x))
    | _, _ => False)
  | .iaload => bc_kIR st (fun i r st' => bc_ar (bc_lay r) (fun n => 0 ≤ i ∧ i < n ∧ nx loc (.inl (h r i.toNat) :: st') h))
  | .iastore => bc_kIIR st (fun x i r st' => bc_ar (bc_lay r) (fun n => 0 ≤ i ∧ i < n ∧ nx loc st' (bc_up h r i.toNat x)))
  | .arraylength => bc_kR st (fun r st' => bc_ar (bc_lay r) (fun n => nx loc (.inl (n : Int) :: st') h))
  | .aaload => bc_kIR st (fun i r st' => bc_arr (bc_lay r) (fun n fs => 0 ≤ i ∧ i < n ∧ nx loc (.inr (.inr (fs.getD i.toNat (0, 0)).2) :: st') h))
  | .ireturn => (match e.2.2.2, st with
    | [0], [.inl x] => post (some (.inl x)) h
    | [_], [.inl x] => (x = 0 ∨ x = 1) ∧ post (some (.inl x)) h
    | _, _ => False)
  | .return_ => (match st with
    | [] => post none h
    | _ => False)
  | .invokestatic _ => (match e.2.2.2 with
    | [mj, _, np] => (match bc_pop np [] st with
      | some (as, st') => bc_cs st' ≤ 8 ∧ bc_OK d mj as h (fun r h' => nx loc (r.toList ++ st') h')
      | none => False)
    | [1, _] => bc_k2 st (fun x y st' => bc_vr x ∧ bc_vr y ∧ bc_cs st' ≤ 8 ∧ nx loc (.inl (min x y) :: st') h)
    | [_, _] => bc_k2 st (fun x y st' => bc_vr x ∧ bc_vr y ∧ bc_cs st' ≤ 8 ∧ nx loc (.inl (max x y) :: st') h)
    | [_] => (match st with
      | .inl n :: .inl dp :: .inr (.inr b) :: .inl sp :: .inr (.inr a) :: st' => dp = 0 ∧ sp = 0 ∧ 0 ≤ n ∧ bc_ar (bc_lay a) (fun na => n ≤ na) ∧ bc_ar (bc_lay b) (fun nb => n ≤ nb) ∧ bc_cs st' ≤ 8 ∧ nx loc st' (bc_cpy h a b n.toNat)
      | _ => False)
    | _ => False)
  | .invokevirtual _ => (match e.2.2.2 with
    | [mj, _, np, ci] => (match bc_pop (np + 1) [] st with
      | some (.inr (.inr r) :: as, st') => (bc_lay r).1 = 0 ∧ (bc_lay r).2.1 = ci ∧ bc_cs st' ≤ 8 ∧ bc_OK d mj (.inr (.inr r) :: as) h (fun r h' => nx loc (r.toList ++ st') h')
      | _ => False)
    | _ => False)
  | _ => False
/-- what is checked of a row of code by program -/
def bc_ok2 (mi : Nat) (e : bc_En) : Bool := match e.2.1 with
  | .iconst _ => e.2.2.1 == 1
  | .bipush n => e.2.2.1 == 2 && decide (-128 ≤ n) && decide (n ≤ 127)
  | .sipush n => e.2.2.1 == 3 && decide (-32768 ≤ n) && decide (n ≤ 32767)
  | .lconst _ => e.2.2.1 == 1
  | .ldc idx => e.2.2.1 == 2 && (match e.2.2.2 with
    | [i] => decide (i < 3) && bc_own mi == 3 && (bc_lit i).1 == idx
    | _ => false)
  | .ldc_w idx => e.2.2.1 == 3 && (match e.2.2.2 with
    | [p, v] => bc_inG p (.constant (bc_cn (bc_own mi)) idx (Int32.ofInt ((v : Nat) : Int)))
    | _ => false)
  | .ldc2_w idx => e.2.2.1 == 3 && (match e.2.2.2 with
    | [p, v] => bc_inG p (.constantLong (bc_cn (bc_own mi)) idx (Int64.ofInt ((v : Nat) : Int)))
    | _ => false)
  | .iload _ => e.2.2.1 == 2
  | .iload_n _ => e.2.2.1 == 1
  | .lload _ => e.2.2.1 == 2
  | .aload _ => e.2.2.1 == 2
  | .aload_n _ => e.2.2.1 == 1
  | .istore i => e.2.2.1 == 2 && decide (i < bc_mL mi)
  | .istore_n k => e.2.2.1 == 1 && decide ((k : Nat) < bc_mL mi)
  | .lstore i => e.2.2.1 == 2 && decide (i + 1 < bc_mL mi)
  | .iinc i _ => e.2.2.1 == 3 && decide (i < bc_mL mi)
  | .goto off => e.2.2.1 == 3 && (match e.2.2.2 with
    | t :: _ => decide ((e.1 : Int) + off = (t : Int))
    | _ => false)
  | .ifnonnull off => e.2.2.1 == 3 && (match e.2.2.2 with
    | t :: _ => decide ((e.1 : Int) + off = (t : Int))
    | _ => false)
  | .if_icmp _ off => e.2.2.1 == 3 && (match e.2.2.2 with
    | t :: _ => decide ((e.1 : Int) + off = (t : Int))
    | _ => false)
  | .ifCond _ off => e.2.2.1 == 3 && (match e.2.2.2 with
    | t :: _ => decide ((e.1 : Int) + off = (t : Int))
    | _ => false)
  | .tableswitch df lo hi offs => (match e.2.2.2 with
    | td :: ts => decide ((e.1 : Int) + df = (td : Int)) && bc_swok e.1 offs.toList ts && decide (hi - lo + 1 = (ts.length : Int))
    | _ => false)
  | .getfield idx => e.2.2.1 == 3 && (match e.2.2.2 with
    | [ci, k, j] => (match bc_LF[j]? with
      | some q => q.1 == bc_own mi && q.2.1 == idx && q.2.2.1 == ci && q.2.2.2.1 == k
      | none => false)
    | _ => false)
  | .putfield idx => e.2.2.1 == 3 && (match e.2.2.2 with
    | [ci, k, j] => (match bc_LF[j]? with
      | some q => q.1 == bc_own mi && q.2.1 == idx && q.2.2.1 == ci && q.2.2.2.1 == k && (bc_fp ci k .int || bc_fp ci k .long)
      | none => false)
    | _ => false)
  | .ireturn => e.2.2.1 == 1 && (match e.2.2.2 with
    | [0] => decide (bc_rt mi = some .int)
    | [_] => decide (bc_rt mi = some .boolean)
    | _ => false)
  | .return_ => e.2.2.1 == 1 && decide (bc_rt mi = none)
  | .invokestatic idx => e.2.2.1 == 3 && (match e.2.2.2 with
    | [mj, j, np] => bc_good mj && (bc_MT mj).2.1 == 0 && (bc_MT mj).2.2 == np && (match bc_LM[j]? with
      | some q => q.1 == bc_own mi && q.2.1 == idx && q.2.2.1 == mj
      | none => false)
    | [1, p] => bc_inG p (.methodLink (bc_cn (bc_own mi)) idx Lib.Math.min.name)
    | [2, p] => bc_inG p (.methodLink (bc_cn (bc_own mi)) idx Lib.Math.max.name)
    | [p] => bc_inG p (.methodLink (bc_cn (bc_own mi)) idx arraycopyName)
    | _ => false)
  | .invokevirtual idx => e.2.2.1 == 3 && (match e.2.2.2 with
    | [mj, j, np, ci] => bc_good mj && (bc_MT mj).2.1 == ci + 1 && (bc_MT mj).2.2 == np && decide (ci < 8) && bc_own mj == ci && (match bc_LM[j]? with
      | some q => q.1 == bc_own mi && q.2.1 == idx && q.2.2.1 == mj
      | none => false)
    | _ => false)
  | _ => e.2.2.1 == 1
def bc_isM (e : bc_En) : Bool := match e.2.1 with
  | .nop => e.2.2.1 == 0
  | _ => false
def bc_ok (mi : Nat) (e : bc_En) : Bool := decide (decode (bc_by mi) e.1 = .ok (e.2.1, e.2.2.1)) && bc_ok2 mi e
def bc_okm (mi : Nat) (e : bc_En) : Bool := bc_isM e || bc_ok mi e
def bc_chain : List bc_En → Bool
  | [] => true
  | [_] => true
  | e :: f :: r => f.1 == e.1 + e.2.2.1 && bc_chain (f :: r)
def bc_code (mi : Nat) (k : List bc_En) : Bool := bc_good mi && k.all (bc_okm mi) && bc_chain k
theorem bc_cls {mi : Nat} (hg : bc_good mi = true) : bc_cn (bc_own mi) = (bc_y mi).cls := bc_own_ok mi (by simpa [bc_good] using hg)
theorem bc_cl_nm : ∀ ci, ci < 8 → (vwCl[ci]?).map (fun q => q.1) = some (bc_cn ci) := by
  intro ci h
  match ci, h with
  | 0, _ => rfl
  | 1, _ => rfl
  | 2, _ => rfl
  | 3, _ => rfl
  | 4, _ => rfl
  | 5, _ => rfl
  | 6, _ => rfl
  | 7, _ => rfl
/-- the tag of a field in the layout is its type -/
theorem bc_ftag {r ci k : Nat} {fs : List (Nat × Nat)} (h2 : bc_lay r = (0, ci, fs)) (h3 : k < fs.length) : (bc_fp ci k .int = true → (fs.getD k (9, 0)).1 = 0) ∧ (bc_fp ci k .long = true → (fs.getD k (9, 0)).1 = 1) := by
  have h : ∀ r, r < bc_NC → (bc_lay r).1 = 0 → ∀ k, k < (bc_lay r).2.2.length → (bc_fp (bc_lay r).2.1 k .int = true → ((bc_lay r).2.2.getD k (9, 0)).1 = 0) ∧ (bc_fp (bc_lay r).2.1 k .long = true → ((bc_lay r).2.2.getD k (9, 0)).1 = 1) := by decide +kernel
  have := h r (bc_lay_lt h2 (by decide)) (by rw [h2]) k (by rw [h2]; exact h3)
  rw [h2] at this
  exact this
theorem bc_ftag_int {r ci k : Nat} {fs : List (Nat × Nat)} (h2 : bc_lay r = (0, ci, fs)) (h3 : k < fs.length) (h4 : fs.getD k (9, 0) = (0, 0)) (h5 : bc_fp ci k .int = true ∨ bc_fp ci k .long = true) : bc_fp ci k .int = true := by
  rcases h5 with h | h
  · exact h
  · have := (bc_ftag h2 h3).2 h
    rw [h4] at this
    cases this
theorem bc_ftag_long {r ci k : Nat} {fs : List (Nat × Nat)} (h2 : bc_lay r = (0, ci, fs)) (h3 : k < fs.length) (h4 : fs.getD k (9, 0) = (1, 0)) (h5 : bc_fp ci k .int = true ∨ bc_fp ci k .long = true) : bc_fp ci k .long = true := by
  rcases h5 with h | h
  · have := (bc_ftag h2 h3).1 h
    rw [h4] at this
    cases this
  · exact h
theorem bc_step_sound {d mi : Nat} {post : Option bc_AV → bc_AH → Prop} {e : bc_En} {nx : List (Option bc_AV) → List bc_AV → bc_AH → Prop} {jp : Nat → List Nat → List (Option bc_AV) → List bc_AV → bc_AH → Prop} {loc : List (Option bc_AV)} {st : List bc_AV} {h : bc_AH}
    (hg : bc_good mi = true) (hok : bc_ok mi e = true) (hnx : ∀ loc st h, nx loc st h → bc_ATr d mi post (e.1 + e.2.2.1) loc st h) (hjp : ∀ t ms loc st h, jp t ms loc st h → bc_ATr d mi post t loc st h)
    (hs : bc_step d mi post e nx jp loc st h) : bc_ATr d mi post e.1 loc st h := by
  obtain ⟨pc, i, len, aux⟩ := e
  unfold bc_ok at hok
  simp only [Bool.and_eq_true, decide_eq_true_eq] at hok
  obtain ⟨hdec, hok⟩ := hok
  dsimp only at hdec hok hnx hs ⊢
  have hcl := bc_cls hg
  cases i <;> unfold bc_step at hs <;> dsimp only at hs <;> (try exact hs.elim) <;> unfold bc_ok2 at hok <;> simp only [Bool.and_eq_true, decide_eq_true_eq, beq_iff_eq] at hok
  case iconst n => subst hok; exact bc_s_iconst hdec (hnx _ _ _ hs)
  case bipush n => obtain ⟨⟨rfl, h1⟩, h2⟩ := hok; exact bc_s_bipush hdec h1 h2 (hnx _ _ _ hs)
  case sipush n => obtain ⟨⟨rfl, h1⟩, h2⟩ := hok; exact bc_s_sipush hdec h1 h2 (hnx _ _ _ hs)
  case lconst n => subst hok; exact bc_s_lconst hdec (hnx _ _ _ hs)
  case ldc idx =>
    obtain ⟨rfl, hok⟩ := hok
    split at hs
    · simp only [Bool.and_eq_true, decide_eq_true_eq, beq_iff_eq] at hok
      obtain ⟨⟨h1, h2⟩, h3⟩ := hok
      exact bc_s_ldcS hdec h1 (by rw [← hcl, h2]; rfl) h3 (hnx _ _ _ hs)
    · exact hs.elim
  case ldc_w idx =>
    obtain ⟨rfl, hok⟩ := hok
    split at hs
    · dsimp only at hok
      rw [hcl] at hok
      exact bc_s_ldcw hdec (bc_inG_mem hok) (hnx _ _ _ hs)
    · exact hs.elim
  case ldc2_w idx =>
    obtain ⟨rfl, hok⟩ := hok
    split at hs
    · dsimp only at hok
      rw [hcl] at hok
      exact bc_s_ldc2 hdec (bc_inG_mem hok) (hnx _ _ _ hs)
    · exact hs.elim
  case iload i => subst hok; obtain ⟨x, h1, h2⟩ := bc_ldI_of hs; exact bc_s_iload hdec h1 (hnx _ _ _ h2)
  case iload_n i => subst hok; obtain ⟨x, h1, h2⟩ := bc_ldI_of hs; exact bc_s_iload_n hdec rfl h1 (hnx _ _ _ h2)
  case lload i => subst hok; obtain ⟨x, h1, h2⟩ := bc_ldL_of hs; exact bc_s_lload hdec h1 (hnx _ _ _ h2)
  case aload i => subst hok; obtain ⟨x, h1, h2⟩ := bc_ldR_of hs; exact bc_s_aload hdec h1 (hnx _ _ _ h2)
  case aload_n i => subst hok; obtain ⟨x, h1, h2⟩ := bc_ldR_of hs; exact bc_s_aload_n hdec rfl h1 (hnx _ _ _ h2)
  case istore i =>
    obtain ⟨rfl, hi⟩ := hok
    obtain ⟨x, r, rfl, h1, h2⟩ := bc_k1_of hs
    rw [bc_set_eq] at h2
    exact bc_s_istore hdec hi (bc_nl_of h1) (hnx _ _ _ h2)
  case istore_n i =>
    obtain ⟨rfl, hi⟩ := hok
    obtain ⟨x, r, rfl, h1, h2⟩ := bc_k1_of hs
    rw [bc_set_eq] at h2
    exact bc_s_istore_n hdec rfl hi (bc_nl_of h1) (hnx _ _ _ h2)
  case lstore i =>
    obtain ⟨rfl, hi⟩ := hok
    obtain ⟨x, r, rfl, h1, h2⟩ := bc_kL_of hs
    rw [bc_set_eq, bc_set_eq] at h2
    exact bc_s_lstore hdec hi (bc_nl_of h1) (hnx _ _ _ h2)
  case iinc i n =>
    obtain ⟨rfl, hi⟩ := hok
    obtain ⟨x, h0, h1, h2⟩ := bc_ldI_of hs
    rw [bc_set_eq] at h2
    exact bc_s_iinc hdec h0 hi (bc_nl_of h1) (hnx _ _ _ h2)
  case iadd => subst hok; obtain ⟨x, y, r, rfl, h1⟩ := bc_k2_of hs; exact bc_s_iadd hdec (hnx _ _ _ h1)
  case isub => subst hok; obtain ⟨x, y, r, rfl, h1⟩ := bc_k2_of hs; exact bc_s_isub hdec (hnx _ _ _ h1)
  case imul => subst hok; obtain ⟨x, y, r, rfl, h1⟩ := bc_k2_of hs; exact bc_s_imul hdec (hnx _ _ _ h1)
  case idiv => subst hok; obtain ⟨x, y, r, rfl, h1, h2, h3, h4, h5⟩ := bc_k2_of hs; exact bc_s_idiv hdec h1 h2 h3 h4 (hnx _ _ _ h5)
  case irem => subst hok; obtain ⟨x, y, r, rfl, h1, h2, h3, h4, h5⟩ := bc_k2_of hs; exact bc_s_irem hdec h1 h2 h3 h4 (hnx _ _ _ h5)
  case iand => subst hok; obtain ⟨x, y, r, rfl, h1⟩ := bc_k2_of hs; exact bc_s_iand hdec (hnx _ _ _ h1)
  case ior => subst hok; obtain ⟨x, y, r, rfl, h1⟩ := bc_k2_of hs; exact bc_s_ior hdec (hnx _ _ _ h1)
  case ixor => subst hok; obtain ⟨x, y, r, rfl, h1⟩ := bc_k2_of hs; exact bc_s_ixor hdec (hnx _ _ _ h1)
  case ishl => subst hok; obtain ⟨x, y, r, rfl, h1⟩ := bc_k2_of hs; exact bc_s_ishl hdec (hnx _ _ _ h1)
  case ishr => subst hok; obtain ⟨x, y, r, rfl, h1⟩ := bc_k2_of hs; exact bc_s_ishr hdec (hnx _ _ _ h1)
  case iushr => subst hok; obtain ⟨x, y, r, rfl, h1⟩ := bc_k2_of hs; exact bc_s_iushr hdec (hnx _ _ _ h1)
  case i2l => subst hok; obtain ⟨x, r, rfl, h1, h2⟩ := bc_k1_of hs; exact bc_s_i2l hdec h1 (hnx _ _ _ h2)
  case ladd => subst hok; obtain ⟨x, y, r, rfl, h1⟩ := bc_kL2_of hs; exact bc_s_ladd hdec (hnx _ _ _ h1)
  case lsub => subst hok; obtain ⟨x, y, r, rfl, h1⟩ := bc_kL2_of hs; exact bc_s_lsub hdec (hnx _ _ _ h1)
  case lmul => subst hok; obtain ⟨x, y, r, rfl, h1⟩ := bc_kL2_of hs; exact bc_s_lmul hdec (hnx _ _ _ h1)
  case lcmp => subst hok; obtain ⟨x, y, r, rfl, h1, h2, h3⟩ := bc_kL2_of hs; exact bc_s_lcmp hdec h1 h2 (hnx _ _ _ h3)
  case dup =>
    subst hok
    split at hs
    · exact bc_s_dup hdec hs.1 (hnx _ _ _ hs.2)
    · exact hs.elim
  case dup2 =>
    subst hok
    split at hs
    · exact bc_s_dup2 hdec hs.1 hs.2.1 (hnx _ _ _ hs.2.2)
    · exact hs.elim
  case goto off =>
    obtain ⟨rfl, hok⟩ := hok
    split at hs
    · simp only [decide_eq_true_eq] at hok
      exact bc_s_goto hdec hok (hjp _ _ _ _ _ hs)
    · exact hs.elim
  case ifnonnull off =>
    obtain ⟨rfl, hok⟩ := hok
    split at hs
    · simp only [decide_eq_true_eq] at hok
      obtain ⟨a, r, rfl, h1⟩ := bc_kR_of hs
      exact bc_s_ifnonnull hdec hok (hjp _ _ _ _ _ h1)
    · exact hs.elim
  case if_icmp k off =>
    obtain ⟨rfl, hok⟩ := hok
    split at hs
    · simp only [decide_eq_true_eq] at hok
      obtain ⟨x, y, r, rfl, h1, h2, h3, h4⟩ := bc_k2_of hs
      exact bc_s_icmp hdec hok h1 h2 (fun q => hjp _ _ _ _ _ (h3 q)) (fun q => hnx _ _ _ (h4 q))
    · exact hs.elim
  case ifCond k off =>
    obtain ⟨rfl, hok⟩ := hok
    split at hs
    · simp only [decide_eq_true_eq] at hok
      obtain ⟨x, r, rfl, h1, h3, h4⟩ := bc_k1_of hs
      exact bc_s_if hdec hok h1 (fun q => hjp _ _ _ _ _ (h3 q)) (fun q => hnx _ _ _ (h4 q))
    · exact hs.elim
  case tableswitch df lo hi offs =>
    split at hs
    · simp only [Bool.and_eq_true, decide_eq_true_eq] at hok
      obtain ⟨⟨h1, h2⟩, h3⟩ := hok
      obtain ⟨x, r, rfl, h4, h5, h6⟩ := bc_k1_of hs
      refine bc_s_switch hdec h4 h1 h2 h3 ?_ (fun q => hjp _ _ _ _ _ (h6 q))
      have mono : ∀ (ts : List Nat) (lo : Int), bc_sw (fun t => jp t [] loc r h) x lo ts → bc_sw (fun t => bc_ATr d mi post t loc r h) x lo ts := by
        intro ts
        induction ts with
        | nil => intro lo _; trivial
        | cons t ts ih => intro lo hq; exact ⟨fun q => hjp _ _ _ _ _ (hq.1 q), ih _ hq.2⟩
      exact mono _ _ h5
    · exact hs.elim
  case getfield idx =>
    obtain ⟨rfl, hok⟩ := hok
    split at hs
    · dsimp only at hok
      split at hok
      · rename_i q hq
        simp only [Bool.and_eq_true, beq_iff_eq] at hok
        obtain ⟨⟨⟨e1, e2⟩, e3⟩, e4⟩ := hok
        have hw := bc_LF_ok q (List.mem_of_getElem? hq)
        rw [e1, e2, e3, e4, hcl] at hw
        obtain ⟨r, st', rfl, h1⟩ := bc_kR_of hs
        obtain ⟨fs, v, h2, h3, h4, h5⟩ := bc_gf_of h1
        exact bc_s_get hdec hw h2 h3 h4 (hnx _ _ _ h5)
      · cases hok
    · exact hs.elim
  case putfield idx =>
    obtain ⟨rfl, hok⟩ := hok
    split at hs
    · dsimp only at hok
      split at hok
      · rename_i q hq
        simp only [Bool.and_eq_true, beq_iff_eq, Bool.or_eq_true] at hok
        obtain ⟨⟨⟨⟨e1, e2⟩, e3⟩, e4⟩, e5⟩ := hok
        have hw := bc_LF_ok q (List.mem_of_getElem? hq)
        rw [e1, e2, e3, e4, hcl] at hw
        obtain ⟨fs, h2, h3, h4, h5⟩ := bc_pf_of hs (by decide)
        have hty := bc_ftag_int h2 h3 h4 e5
        exact bc_s_put (ty := .int) hdec hw hty h2 h3 (fun ad => by rw [h4]; rfl) (fun _ => rfl) (fun _ => rfl) (hnx _ _ _ h5)
      · cases hok
    · dsimp only at hok
      split at hok
      · rename_i q hq
        simp only [Bool.and_eq_true, beq_iff_eq, Bool.or_eq_true] at hok
        obtain ⟨⟨⟨⟨e1, e2⟩, e3⟩, e4⟩, e5⟩ := hok
        have hw := bc_LF_ok q (List.mem_of_getElem? hq)
        rw [e1, e2, e3, e4, hcl] at hw
        obtain ⟨fs, h2, h3, h4, h5⟩ := bc_pf_of hs (by decide)
        have hty := bc_ftag_long h2 h3 h4 e5
        exact bc_s_put (ty := .long) hdec hw hty h2 h3 (fun ad => by rw [h4]; rfl) (fun _ => rfl) (fun _ => rfl) (hnx _ _ _ h5)
      · cases hok
    · exact hs.elim
  case iaload =>
    subst hok
    obtain ⟨i, r, st', rfl, h1⟩ := bc_kIR_of hs
    obtain ⟨n, fs, h2, h3, h4, h5⟩ := bc_ar_of h1
    exact bc_s_iald hdec h2 h3 h4 (hnx _ _ _ h5)
  case iastore =>
    subst hok
    obtain ⟨x, i, r, st', rfl, h1⟩ := bc_kIIR_of hs
    obtain ⟨n, fs, h2, h3, h4, h5⟩ := bc_ar_of h1
    exact bc_s_iast hdec h2 h3 h4 (hnx _ _ _ h5)
  case arraylength =>
    subst hok
    obtain ⟨r, st', rfl, h1⟩ := bc_kR_of hs
    obtain ⟨n, fs, h2, h3⟩ := bc_ar_of h1
    exact bc_s_alen hdec h2 (hnx _ _ _ h3)
  case aaload =>
    subst hok
    obtain ⟨i, r, st', rfl, h1⟩ := bc_kIR_of hs
    obtain ⟨n, fs, h2, h3, h4, h5⟩ := bc_arr_of h1
    exact bc_s_aald hdec h2 h3 h4 (hnx _ _ _ h5)
  case ireturn =>
    obtain ⟨rfl, hok⟩ := hok
    split at hs
    · simp only [decide_eq_true_eq] at hok
      exact bc_s_ireturn hdec (Or.inl hok) hs
    · rename_i q _ _ hq0
      split at hok
      · rename_i heq
        cases heq
        exact (hq0 rfl).elim
      · simp only [decide_eq_true_eq] at hok
        exact bc_s_ireturn hdec (Or.inr ⟨hok, hs.1⟩) hs.2
      · cases hok
    · exact hs.elim
  case return_ =>
    obtain ⟨rfl, hok⟩ := hok
    split at hs
    · exact bc_s_return hdec hok hs
    · exact hs.elim
  case invokestatic idx =>
    obtain ⟨rfl, hok⟩ := hok
    split at hs
    · rename_i mj j np
      split at hs
      · rename_i as st' hp
        dsimp only at hok
        simp only [Bool.and_eq_true, beq_iff_eq] at hok
        obtain ⟨⟨⟨g1, g2⟩, g3⟩, hok⟩ := hok
        split at hok
        · rename_i q hq
          simp only [Bool.and_eq_true, beq_iff_eq] at hok
          obtain ⟨⟨e1, e2⟩, e3⟩ := hok
          have hw := bc_LM_ok q (List.mem_of_getElem? hq)
          rw [e1, e2, e3, hcl] at hw
          exact bc_s_static hdec g1 g2 hw (by rw [g3]; exact hp) (by rw [bc_cs_eq]; exact hs.1) (by rw [← bc_OK_eq]; exact hs.2) (fun r h' q => hnx _ _ _ q)
        · cases hok
      · exact hs.elim
    · rename_i p
      obtain ⟨x, y, r, rfl, h1, h2, h3, h4⟩ := bc_k2_of hs
      rw [hcl] at hok
      exact bc_s_min hdec hok h1 h2 h3 (hnx _ _ _ h4)
    · rename_i a p hne
      obtain ⟨x, y, r, rfl, h1, h2, h3, h4⟩ := bc_k2_of hs
      split at hok
      · rename_i heq; cases heq
      · rename_i heq; cases heq; exact absurd rfl hne
      · rename_i heq
        cases heq
        rw [hcl] at hok
        exact bc_s_max hdec hok h1 h2 h3 (hnx _ _ _ h4)
      · rename_i heq; cases heq
      · cases hok
    · split at hs
      · obtain ⟨rfl, rfl, h3, h4, h5, h6, h7⟩ := hs
        obtain ⟨na, fa, ha, hna⟩ := bc_ar_of h4
        obtain ⟨nb, fb, hb, hnb⟩ := bc_ar_of h5
        rw [hcl] at hok
        exact bc_s_cpy hdec hok h3 ha hb hna hnb h6 (hnx _ _ _ h7)
      · exact hs.elim
    · exact hs.elim
  case invokevirtual idx =>
    obtain ⟨rfl, hok⟩ := hok
    split at hs
    · rename_i mj j np ci
      split at hs
      · rename_i r as st' hp
        simp only [Bool.and_eq_true, beq_iff_eq, decide_eq_true_eq] at hok
        obtain ⟨⟨⟨⟨⟨g1, g2⟩, g3⟩, g4⟩, g5⟩, hok⟩ := hok
        obtain ⟨s1, s2, s3, s4⟩ := hs
        split at hok
        · rename_i q hq
          simp only [Bool.and_eq_true, beq_iff_eq] at hok
          obtain ⟨⟨e1, e2⟩, e3⟩ := hok
          have hw := bc_LM_ok q (List.mem_of_getElem? hq)
          rw [e1, e2, e3, hcl] at hw
          refine bc_s_virtual hdec g1 hw (by rw [g3]; exact hp) (by rw [bc_cs_eq]; exact s3) s1 (by rw [g2, s2]) ?_ (by rw [← bc_OK_eq]; exact s4) (fun r h' q => hnx _ _ _ q)
          rw [s2, bc_cl_nm ci g4, ← bc_cls g1, g5]
        · cases hok
      · exact hs.elim
    · exact hs.elim
-- loop heads: rows '.nop' of no length, at each the locals that live there (0 none, 1 lives)
def bc_mk : List Nat → List (Option bc_AV) → List (Option bc_AV)
  | 0 :: bs, _ :: vs => none :: bc_mk bs vs
  | (_ + 1) :: bs, v :: vs => v :: bc_mk bs vs
  | _, _ => []
theorem bc_mk_at : ∀ (m : List Nat) (loc : List (Option bc_AV)) (i : Nat) (v : bc_AV), (bc_mk m loc)[i]? = some (some v) → loc[i]? = some (some v) := by
  intro m
  induction m with
  | nil => intro loc i v h; simp [bc_mk] at h
  | cons b bs ih =>
    intro loc i v h
    cases loc with
    | nil => cases b <;> simp [bc_mk] at h
    | cons a r =>
      cases b with
      | succ b =>
        cases i with
        | zero => simpa [bc_mk] using h
        | succ i => simp [bc_mk] at h; simpa using ih r i v h
      | zero =>
        cases i with
        | zero => simp [bc_mk] at h
        | succ i => simp [bc_mk] at h; simpa using ih r i v h
/-- a jump: ahead (no mask) the walk goes on there; back it's a loop's head -/
def bc_jmp (d mi : Nat) (post : Option bc_AV → bc_AH → Prop) (fw : Nat → List (Option bc_AV) → List bc_AV → bc_AH → Prop) (t : Nat) (mk : List Nat) (loc : List (Option bc_AV)) (st : List bc_AV) (h : bc_AH) : Prop := match mk with
  | [] => fw t loc st h
  | b :: bs => bc_AT d mi post t (bc_mk (b :: bs) loc) st h
def bc_one (d mi : Nat) (post : Option bc_AV → bc_AH → Prop) (e : bc_En) (fl : Bool) (nx : List (Option bc_AV) → List bc_AV → bc_AH → Prop) (fw : Nat → List (Option bc_AV) → List bc_AV → bc_AH → Prop) (loc : List (Option bc_AV)) (st : List bc_AV) (h : bc_AH) : Prop :=
  match bc_isM e with
  | true => (match fl with
    | true => nx loc st h
    | false => bc_AT d mi post e.1 (bc_mk e.2.2.2 loc) st h)
  | false => bc_step d mi post e nx (bc_jmp d mi post fw) loc st h
def bc_vc (d mi : Nat) (post : Option bc_AV → bc_AH → Prop) : List bc_En → Option Nat → Bool → List (Option bc_AV) → List bc_AV → bc_AH → Prop
  | [], _, _, _, _, _ => False
  | e :: rest, sk, fl, loc, st, h => match sk with
    | some t => if e.1 = t then bc_one d mi post e fl (bc_vc d mi post rest none false) (fun t => bc_vc d mi post rest (some t) false) loc st h else bc_vc d mi post rest (some t) fl loc st h
    | none => bc_one d mi post e fl (bc_vc d mi post rest none false) (fun t => bc_vc d mi post rest (some t) false) loc st h
theorem bc_vc_sound {d mi : Nat} {post : Option bc_AV → bc_AH → Prop} (hg : bc_good mi = true) : ∀ (code : List bc_En), code.all (bc_okm mi) = true → bc_chain code = true →
    ∀ (loc : List (Option bc_AV)) (st : List bc_AV) (h : bc_AH) (fl : Bool), (∀ t, bc_vc d mi post code (some t) fl loc st h → bc_ATr d mi post t loc st h) ∧ (∀ e rest, code = e :: rest → bc_vc d mi post code none fl loc st h → bc_ATr d mi post e.1 loc st h) := by
  intro code
  induction code with
  | nil => intro _ _ loc st h fl; exact ⟨fun t q => q.elim, fun e rest q => by cases q⟩
  | cons e rest ih =>
    intro hall hch loc st h fl
    rw [List.all_cons, Bool.and_eq_true] at hall
    have hch' : bc_chain rest = true := by
      cases rest with
      | nil => rfl
      | cons f r => simp only [bc_chain, Bool.and_eq_true] at hch; exact hch.2
    have IH := ih hall.2 hch'
    have hnx : ∀ loc st h, bc_vc d mi post rest none false loc st h → bc_ATr d mi post (e.1 + e.2.2.1) loc st h := by
      intro loc st h q
      cases rest with
      | nil => exact q.elim
      | cons f r =>
        have := (IH loc st h false).2 f r rfl q
        simp only [bc_chain, Bool.and_eq_true, beq_iff_eq] at hch
        rw [hch.1] at this
        exact this
    have hjp : ∀ t mk loc st h, bc_jmp d mi post (fun t => bc_vc d mi post rest (some t) false) t mk loc st h → bc_ATr d mi post t loc st h := by
      intro t mk loc st h q
      unfold bc_jmp at q
      split at q
      · exact (IH loc st h false).1 t q
      · rw [bc_AT_eq] at q
        exact bc_ATr_weak q (fun i v hv => bc_mk_at _ _ _ _ hv)
    have here : bc_one d mi post e fl (bc_vc d mi post rest none false) (fun t => bc_vc d mi post rest (some t) false) loc st h → bc_ATr d mi post e.1 loc st h := by
      intro q
      unfold bc_one at q
      split at q
      · rename_i hM
        split at q
        · have h1 := hnx loc st h q
          have h2 : e.2.2.1 = 0 := by
            unfold bc_isM at hM
            split at hM
            · simpa using hM
            · cases hM
          rw [h2, Nat.add_zero] at h1
          exact h1
        · rw [bc_AT_eq] at q
          exact bc_ATr_weak q (fun i v hv => bc_mk_at _ _ _ _ hv)
      · rename_i hM
        have h1 : bc_ok mi e = true := by
          have := hall.1
          unfold bc_okm at this
          rw [hM, Bool.false_or] at this
          exact this
        exact bc_step_sound hg h1 hnx hjp q
    refine ⟨fun t q => ?_, fun e' rest' he q => ?_⟩
    · unfold bc_vc at q
      dsimp only at q
      split at q
      · rename_i het
        rw [← het]
        exact here q
      · exact (IH loc st h fl).1 t q
    · cases he
      unfold bc_vc at q
      exact here q
/-- from a loop's head -/
theorem bc_at {d mi : Nat} {post : Option bc_AV → bc_AH → Prop} {k : List bc_En} (hk : bc_code mi k = true) {t : Nat} {loc : List (Option bc_AV)} {st : List bc_AV} {h : bc_AH} (q : bc_vc d mi post k (some t) true loc st h) : bc_AT d mi post t loc st h := by
  unfold bc_code at hk
  simp only [Bool.and_eq_true] at hk
  rw [bc_AT_eq]
  exact (bc_vc_sound hk.1.1 k hk.1.2 hk.2 loc st h true).1 t q
/-- the locals at a method's entry -/
def bc_ent (args : List bc_AV) (n : Nat) : List (Option bc_AV) := args.map some ++ List.replicate (n - args.length) none
theorem bc_lv_args (ad : Nat → Nat) : ∀ (args : List bc_AV) (b : Nat), (∀ v ∈ args, bc_cat v = 1) → ∀ (i : Nat) (v : bc_AV), args[i]? = some v → (b + i, bc_cv ad v) ∈ lv_args b (args.map (bc_cv ad)) := by
  intro args
  induction args with
  | nil => intro b _ i v h; simp at h
  | cons a r ih =>
    intro b hc i v h
    have ha : (bc_cv ad a).category = 1 := by rw [bc_cv_cat]; exact hc a List.mem_cons_self
    cases i with
    | zero => simp at h; subst h; simp [lv_args]
    | succ i =>
      simp at h
      have := ih (b + 1) (fun v hv => hc v (List.mem_cons_of_mem _ hv)) i v h
      simp only [List.map_cons, lv_args, ha]
      refine List.mem_cons_of_mem _ ?_
      have e : b + (i + 1) = b + 1 + i := by omega
      rw [e]
      exact this
/-- a method's contract out of its walk -/
theorem bc_ok_of {d mi : Nat} {post : Option bc_AV → bc_AH → Prop} {k : List bc_En} (hk : bc_code mi k = true) {args : List bc_AV} {h : bc_AH} (h0 : ∃ e r, k = e :: r ∧ e.1 = 0) (hc : ∀ v ∈ args, bc_cat v = 1) (hn : args.length ≤ bc_mL mi)
    (q : bc_vc d mi post k none false (bc_ent args (bc_mL mi)) [] h) : bc_OK (d + 1) mi args h post := by
  rw [bc_OK_eq]
  intro l Z sz
  unfold bc_code at hk
  simp only [Bool.and_eq_true] at hk
  obtain ⟨e0, r0, rfl, he0⟩ := h0
  have hat := (bc_vc_sound hk.1.1 _ hk.1.2 hk.2 _ _ h false).2 e0 r0 rfl q
  rw [he0] at hat
  have hmk := bc_mok_all mi hk.1.1
  have hpl : plainName (bc_y mi).cls = true := by
    unfold bc_mok at hmk
    simp only [Bool.and_eq_true] at hmk
    exact hmk.1.1.2
  refine Met.ofW (cc := bc_by mi) (maxL := bc_mL mi) (ret := bc_rt mi) hpl rfl ?_
  intro p e s m args' below meth c s₁ B hml hv
  obtain ⟨rfl, hsz, hW, hP⟩ := hv
  subst hsz
  have hsl : ∀ (vs : List bc_AV), (∀ v ∈ vs, bc_cat v = 1) → (lg_sl (vs.map (bc_cv Z.2.1))).length = vs.length := by
    intro vs
    induction vs with
    | nil => intro _; rfl
    | cons a r ih =>
      intro hcs
      have ha : (bc_cv Z.2.1 a).category = 1 := by rw [bc_cv_cat]; exact hcs a List.mem_cons_self
      have := ih (fun v hv => hcs v (List.mem_cons_of_mem _ hv))
      have e2 : lg_sl ((a :: r).map (bc_cv Z.2.1)) = [.val (bc_cv Z.2.1 a)] ++ lg_sl (r.map (bc_cv Z.2.1)) := by simp [lg_sl, ha]
      rw [e2, List.length_append, this]
      simp
      omega
  have hl := lv_entry (args.map (bc_cv Z.2.1)) (n := bc_mL mi) (by rw [hsl args hc]; exact hn)
  rw [lg_entry_eq]
  have hlL : bc_L Z (lg_sl (args.map (bc_cv Z.2.1)) ++ List.replicate (bc_mL mi - (lg_sl (args.map (bc_cv Z.2.1))).length) Slot.unset).toArray (bc_mL mi) (bc_ent args (bc_mL mi)) := by
    refine ⟨hl.1, hl.2.1, fun i v hi => ?_⟩
    unfold bc_ent at hi
    have hi2 : args[i]? = some v := by
      by_cases hlt : i < args.length
      · rw [List.getElem?_append_left (by simpa using hlt)] at hi
        simpa using hi
      · rw [List.getElem?_append_right (by simpa using hlt)] at hi
        rw [List.getElem?_replicate] at hi
        split at hi <;> simp at hi
    have := bc_lv_args Z.2.1 args 0 hc i v hi2
    rw [Nat.zero_add] at this
    exact hl.2.2 (i, bc_cv Z.2.1 v) this
  exact hat p l e s m _ below meth c Z (bc_A Z s.heap.size) s.heap [] _ ⟨B.exec, B.bytes, hml, B.returns, atoms_spec (ws := bc_ws mi) B.pre, findClass_of_methodNamed B.named, B.notSynchronized⟩ (fun q hq => Or.inr hq) hW hP va_S.rf hlL
def bc_en : List bc_AV → Nat → List (Option bc_AV)
  | _, 0 => []
  | [], n + 1 => none :: bc_en [] n
  | a :: r, n + 1 => some a :: bc_en r n
theorem bc_en_nil : ∀ n, bc_en [] n = List.replicate n none := by
  intro n
  induction n with
  | zero => rfl
  | succ n ih => rw [bc_en, ih, List.replicate_succ]
theorem bc_en_eq : ∀ (args : List bc_AV) (n : Nat), args.length ≤ n → bc_en args n = bc_ent args n := by
  intro args
  induction args with
  | nil => intro n _; rw [bc_en_nil]; simp [bc_ent]
  | cons a r ih =>
    intro n h
    cases n with
    | zero => simp at h
    | succ n =>
      simp at h
      rw [bc_en, ih n h]
      simp [bc_ent]
/-- the same, with the locals written out -/
theorem bc_run {d mi n : Nat} {post : Option bc_AV → bc_AH → Prop} {k : List bc_En} {e : bc_En} {r : List bc_En} (hk : bc_code mi k = true) (hm : bc_mL mi = n) (h0 : k = e :: r) (h1 : e.1 = 0) {args : List bc_AV} {h : bc_AH} (hc : args.all (fun v => bc_cat v == 1) = true) (hn : args.length ≤ n)
    (q : bc_vc d mi post k none false (bc_en args n) [] h) : bc_OK (d + 1) mi args h post := by
  subst hm
  rw [bc_en_eq args _ hn] at q
  refine bc_ok_of hk ⟨e, r, h0, h1⟩ (fun v hv => ?_) hn q
  have := List.all_eq_true.mp hc v hv
  simpa using this
end
section
def k_X0_suppose : List bc_En := [(0, .aload_n 0, 1, []), (1, .iload_n 1, 1, []), (2, .putfield 25, 3, [0, 5, 0]), (5, .aload_n 0, 1, []), (6, .iload_n 2, 1, []), (7, .putfield 33, 3, [0, 6, 1]), (10, .return_, 1, [])]
theorem ck_X0_suppose : bc_code 1 k_X0_suppose = true := by decide +kernel
def k_X0_choose : List bc_En := [(0, .aload_n 0, 1, []), (1, .iload_n 1, 1, []), (2, .invokevirtual 36, 3, [6, 0, 1, 0]), (5, .aload_n 0, 1, []), (6, .getfield 12, 3, [0, 1, 2]), (9, .invokevirtual 40, 3, [43, 1, 0, 4]), (12, .iconst 0, 1, []), (13, .istore_n 3, 1, []), (14, .nop, 0, [1, 0, 1, 1]), (14, .iload_n 3, 1, []), (15, .aload_n 0, 1, []), (16, .getfield 43, 3, [0, 4, 3]), (19, .if_icmp .ge 26, 3, [45]), (22, .iload_n 3, 1, []), (23, .bipush 10, 2, []), (25, .if_icmp .ge 20, 3, [45]), (28, .aload_n 0, 1, []), (29, .aload_n 0, 1, []), (30, .getfield 18, 3, [0, 2, 4]), (33, .iload_n 3, 1, []), (34, .iaload, 1, []), (35, .iconst 1, 1, []), (36, .invokevirtual 46, 3, [9, 2, 2, 0]), (39, .iinc 3 1, 3, []), (42, .goto (-28), 3, [14, 1, 0, 1, 1]), (45, .aload_n 0, 1, []), (46, .iload_n 2, 1, []), (47, .putfield 50, 3, [0, 7, 5]), (50, .aload_n 0, 1, []), (51, .iconst 0, 1, []), (52, .putfield 53, 3, [0, 8, 6]), (55, .aload_n 0, 1, []), (56, .iconst 0, 1, []), (57, .putfield 56, 3, [0, 9, 7]), (60, .aload_n 0, 1, []), (61, .iconst 0, 1, []), (62, .iconst 0, 1, []), (63, .invokevirtual 59, 3, [3, 3, 2, 0]), (66, .return_, 1, [])]
theorem ck_X0_choose : bc_code 2 k_X0_choose = true := by decide +kernel
def k_X0_descend : List bc_En := [(0, .aload_n 0, 1, []), (1, .getfield 12, 3, [0, 1, 2]), (4, .invokevirtual 62, 3, [47, 4, 0, 4]), (7, .istore_n 3, 1, []), (8, .iload_n 3, 1, []), (9, .aload_n 0, 1, []), (10, .getfield 53, 3, [0, 8, 6]), (13, .if_icmp .gt 4, 3, [17]), (16, .return_, 1, []), (17, .iload_n 1, 1, []), (18, .ifCond .lt 17, 3, [35]), (21, .iload_n 1, 1, []), (22, .aload_n 0, 1, []), (23, .getfield 43, 3, [0, 4, 3]), (26, .if_icmp .ge 9, 3, [35]), (29, .iload_n 1, 1, []), (30, .bipush 10, 2, []), (32, .if_icmp .lt 14, 3, [46]), (35, .aload_n 0, 1, []), (36, .iload_n 3, 1, []), (37, .putfield 53, 3, [0, 8, 6]), (40, .aload_n 0, 1, []), (41, .iload_n 2, 1, []), (42, .putfield 56, 3, [0, 9, 7]), (45, .return_, 1, []), (46, .aload_n 0, 1, []), (47, .getfield 18, 3, [0, 2, 4]), (50, .iload_n 1, 1, []), (51, .iaload, 1, []), (52, .istore 4, 2, []), (54, .aload_n 0, 1, []), (55, .iload 4, 2, []), (57, .iconst 1, 1, []), (58, .invokevirtual 66, 3, [8, 5, 2, 0]), (61, .aload_n 0, 1, []), (62, .iload_n 1, 1, []), (63, .iconst 1, 1, []), (64, .iadd, 1, []), (65, .iload_n 2, 1, []), (66, .iconst 1, 1, []), (67, .iload 4, 2, []), (69, .ishl, 1, []), (70, .ior, 1, []), (71, .invokevirtual 59, 3, [3, 3, 2, 0]), (74, .aload_n 0, 1, []), (75, .iload 4, 2, []), (77, .iconst (-1), 1, []), (78, .invokevirtual 66, 3, [8, 5, 2, 0]), (81, .iload 4, 2, []), (83, .aload_n 0, 1, []), (84, .getfield 50, 3, [0, 7, 5]), (87, .invokestatic 69, 3, [78, 6, 2]), (90, .ifCond .ne 25, 3, [115]), (93, .aload_n 0, 1, []), (94, .iload 4, 2, []), (96, .iconst (-1), 1, []), (97, .invokevirtual 46, 3, [9, 2, 2, 0]), (100, .aload_n 0, 1, []), (101, .iload_n 1, 1, []), (102, .iconst 1, 1, []), (103, .iadd, 1, []), (104, .iload_n 2, 1, []), (105, .invokevirtual 59, 3, [3, 3, 2, 0]), (108, .aload_n 0, 1, []), (109, .iload 4, 2, []), (111, .iconst 1, 1, []), (112, .invokevirtual 46, 3, [9, 2, 2, 0]), (115, .return_, 1, [])]
theorem ck_X0_descend : bc_code 3 k_X0_descend = true := by decide +kernel
def k_X0_mostOf : List bc_En := [(0, .aload_n 0, 1, []), (1, .iload_n 1, 1, []), (2, .invokevirtual 73, 3, [7, 7, 1, 0]), (5, .aload_n 0, 1, []), (6, .getfield 12, 3, [0, 1, 2]), (9, .invokevirtual 62, 3, [47, 4, 0, 4]), (12, .ireturn, 1, [0])]
theorem ck_X0_mostOf : bc_code 4 k_X0_mostOf = true := by decide +kernel
def k_X0_arrange : List bc_En := [(0, .aload_n 0, 1, []), (1, .iconst 0, 1, []), (2, .putfield 43, 3, [0, 4, 3]), (5, .iconst 0, 1, []), (6, .istore_n 2, 1, []), (7, .nop, 0, [1, 1, 1, 0]), (7, .iload_n 2, 1, []), (8, .aload_n 0, 1, []), (9, .getfield 29, 3, [0, 0, 9]), (12, .getfield 109, 3, [1, 8, 13]), (15, .if_icmp .ge 91, 3, [106]), (18, .iload_n 2, 1, []), (19, .iload_n 1, 1, []), (20, .invokestatic 69, 3, [78, 6, 2]), (23, .ifCond .eq 77, 3, [100]), (26, .aload_n 0, 1, []), (27, .getfield 43, 3, [0, 4, 3]), (30, .bipush 10, 2, []), (32, .if_icmp .ge 68, 3, [100]), (35, .aload_n 0, 1, []), (36, .getfield 43, 3, [0, 4, 3]), (39, .istore_n 3, 1, []), (40, .nop, 0, [1, 1, 1, 1]), (40, .iload_n 3, 1, []), (41, .ifCond .le 42, 3, [83]), (44, .aload_n 0, 1, []), (45, .getfield 29, 3, [0, 0, 9]), (48, .iload_n 2, 1, []), (49, .aload_n 0, 1, []), (50, .getfield 18, 3, [0, 2, 4]), (53, .iload_n 3, 1, []), (54, .iconst 1, 1, []), (55, .isub, 1, []), (56, .iaload, 1, []), (57, .invokevirtual 112, 3, [20, 12, 2, 1]), (60, .ifCond .eq 23, 3, [83]), (63, .aload_n 0, 1, []), (64, .getfield 18, 3, [0, 2, 4]), (67, .iload_n 3, 1, []), (68, .aload_n 0, 1, []), (69, .getfield 18, 3, [0, 2, 4]), (72, .iload_n 3, 1, []), (73, .iconst 1, 1, []), (74, .isub, 1, []), (75, .iaload, 1, []), (76, .iastore, 1, []), (77, .iinc 3 (-1), 3, []), (80, .goto (-40), 3, [40, 1, 1, 1, 1]), (83, .aload_n 0, 1, []), (84, .getfield 18, 3, [0, 2, 4]), (87, .iload_n 3, 1, []), (88, .iload_n 2, 1, []), (89, .iastore, 1, []), (90, .aload_n 0, 1, []), (91, .dup, 1, []), (92, .getfield 43, 3, [0, 4, 3]), (95, .iconst 1, 1, []), (96, .iadd, 1, []), (97, .putfield 43, 3, [0, 4, 3]), (100, .iinc 2 1, 3, []), (103, .goto (-96), 3, [7, 1, 1, 1, 0]), (106, .return_, 1, [])]
theorem ck_X0_arrange : bc_code 6 k_X0_arrange = true := by decide +kernel
def k_X0_gather : List bc_En := [(0, .aload_n 0, 1, []), (1, .getfield 12, 3, [0, 1, 2]), (4, .invokevirtual 40, 3, [43, 1, 0, 4]), (7, .iconst 0, 1, []), (8, .istore_n 2, 1, []), (9, .nop, 0, [1, 1, 1]), (9, .iload_n 2, 1, []), (10, .aload_n 0, 1, []), (11, .getfield 29, 3, [0, 0, 9]), (14, .getfield 109, 3, [1, 8, 13]), (17, .if_icmp .ge 29, 3, [46]), (20, .iload_n 2, 1, []), (21, .iload_n 1, 1, []), (22, .invokestatic 69, 3, [78, 6, 2]), (25, .ifCond .eq 15, 3, [40]), (28, .aload_n 0, 1, []), (29, .iload_n 2, 1, []), (30, .iconst 1, 1, []), (31, .invokevirtual 66, 3, [8, 5, 2, 0]), (34, .aload_n 0, 1, []), (35, .iload_n 2, 1, []), (36, .iconst 1, 1, []), (37, .invokevirtual 46, 3, [9, 2, 2, 0]), (40, .iinc 2 1, 3, []), (43, .goto (-34), 3, [9, 1, 1, 1]), (46, .return_, 1, [])]
theorem ck_X0_gather : bc_code 7 k_X0_gather = true := by decide +kernel
def k_X0_addLeast : List bc_En := [(0, .aload_n 0, 1, []), (1, .getfield 29, 3, [0, 0, 9]), (4, .iload_n 1, 1, []), (5, .invokevirtual 76, 3, [15, 8, 1, 1]), (8, .ifCond .eq 35, 3, [43]), (11, .aload_n 0, 1, []), (12, .getfield 12, 3, [0, 1, 2]), (15, .aload_n 0, 1, []), (16, .getfield 29, 3, [0, 0, 9]), (19, .getfield 86, 3, [1, 0, 10]), (22, .iload_n 1, 1, []), (23, .iaload, 1, []), (24, .aload_n 0, 1, []), (25, .getfield 29, 3, [0, 0, 9]), (28, .getfield 89, 3, [1, 4, 11]), (31, .iload_n 1, 1, []), (32, .iaload, 1, []), (33, .iload_n 2, 1, []), (34, .aload_n 0, 1, []), (35, .iload_n 1, 1, []), (36, .invokevirtual 82, 3, [10, 9, 1, 0]), (39, .imul, 1, []), (40, .invokevirtual 105, 3, [45, 11, 3, 4]), (43, .return_, 1, [])]
theorem ck_X0_addLeast : bc_code 8 k_X0_addLeast = true := by decide +kernel
def k_X0_addSize : List bc_En := [(0, .aload_n 0, 1, []), (1, .getfield 29, 3, [0, 0, 9]), (4, .iload_n 1, 1, []), (5, .invokevirtual 76, 3, [15, 8, 1, 1]), (8, .ifCond .eq 39, 3, [47]), (11, .aload_n 0, 1, []), (12, .getfield 12, 3, [0, 1, 2]), (15, .aload_n 0, 1, []), (16, .getfield 29, 3, [0, 0, 9]), (19, .getfield 86, 3, [1, 0, 10]), (22, .iload_n 1, 1, []), (23, .iaload, 1, []), (24, .aload_n 0, 1, []), (25, .getfield 29, 3, [0, 0, 9]), (28, .getfield 89, 3, [1, 4, 11]), (31, .iload_n 1, 1, []), (32, .iaload, 1, []), (33, .iload_n 2, 1, []), (34, .aload_n 0, 1, []), (35, .getfield 29, 3, [0, 0, 9]), (38, .getfield 96, 3, [1, 1, 12]), (41, .iload_n 1, 1, []), (42, .iaload, 1, []), (43, .imul, 1, []), (44, .invokevirtual 115, 3, [46, 13, 3, 4]), (47, .return_, 1, [])]
theorem ck_X0_addSize : bc_code 9 k_X0_addSize = true := by decide +kernel
def k_X0_leastOf : List bc_En := [(0, .iload_n 1, 1, []), (1, .aload_n 0, 1, []), (2, .getfield 25, 3, [0, 5, 0]), (5, .if_icmp .ne 8, 3, [13]), (8, .aload_n 0, 1, []), (9, .getfield 33, 3, [0, 6, 1]), (12, .ireturn, 1, [0]), (13, .aload_n 0, 1, []), (14, .getfield 29, 3, [0, 0, 9]), (17, .iload_n 1, 1, []), (18, .invokevirtual 76, 3, [15, 8, 1, 1]), (21, .ifCond .eq 15, 3, [36]), (24, .aload_n 0, 1, []), (25, .getfield 29, 3, [0, 0, 9]), (28, .getfield 118, 3, [1, 2, 14]), (31, .iload_n 1, 1, []), (32, .iaload, 1, []), (33, .goto 4, 3, [37]), (36, .iconst 0, 1, []), (37, .ireturn, 1, [0])]
theorem ck_X0_leastOf : bc_code 10 k_X0_leastOf = true := by decide +kernel
def k_X1_has : List bc_En := [(0, .iload_n 1, 1, []), (1, .ifCond .lt 21, 3, [22]), (4, .iload_n 1, 1, []), (5, .aload_n 0, 1, []), (6, .getfield 43, 3, [1, 8, 15]), (9, .if_icmp .ge 13, 3, [22]), (12, .iload_n 1, 1, []), (13, .bipush 24, 2, []), (15, .if_icmp .ge 7, 3, [22]), (18, .iconst 1, 1, []), (19, .goto 4, 3, [23]), (22, .iconst 0, 1, []), (23, .ireturn, 1, [1])]
theorem ck_X1_has : bc_code 15 k_X1_has = true := by decide +kernel
def k_X1_isOpen : List bc_En := [(0, .aload_n 0, 1, []), (1, .iload_n 1, 1, []), (2, .invokevirtual 64, 3, [15, 14, 1, 1]), (5, .ifCond .eq 16, 3, [21]), (8, .aload_n 0, 1, []), (9, .getfield 27, 3, [1, 5, 27]), (12, .iload_n 1, 1, []), (13, .iaload, 1, []), (14, .ifCond .ne 7, 3, [21]), (17, .iconst 1, 1, []), (18, .goto 4, 3, [22]), (21, .iconst 0, 1, []), (22, .ireturn, 1, [1])]
theorem ck_X1_isOpen : bc_code 16 k_X1_isOpen = true := by decide +kernel
def k_X1_isWilling : List bc_En := [(0, .aload_n 0, 1, []), (1, .iload_n 1, 1, []), (2, .invokevirtual 68, 3, [16, 15, 1, 1]), (5, .ifCond .ne 5, 3, [10]), (8, .iconst 0, 1, []), (9, .ireturn, 1, [1]), (10, .aload_n 0, 1, []), (11, .getfield 9, 3, [1, 0, 22]), (14, .iload_n 1, 1, []), (15, .iaload, 1, []), (16, .iconst 1, 1, []), (17, .if_icmp .ne 21, 3, [38]), (20, .aload_n 0, 1, []), (21, .getfield 21, 3, [1, 3, 25]), (24, .iload_n 1, 1, []), (25, .iaload, 1, []), (26, .iload_n 2, 1, []), (27, .if_icmp .lt 7, 3, [34]), (30, .iconst 1, 1, []), (31, .goto 22, 3, [53]), (34, .iconst 0, 1, []), (35, .goto 18, 3, [53]), (38, .aload_n 0, 1, []), (39, .getfield 21, 3, [1, 3, 25]), (42, .iload_n 1, 1, []), (43, .iaload, 1, []), (44, .iload_n 2, 1, []), (45, .if_icmp .gt 7, 3, [52]), (48, .iconst 1, 1, []), (49, .goto 4, 3, [53]), (52, .iconst 0, 1, []), (53, .ireturn, 1, [1])]
theorem ck_X1_isWilling : bc_code 17 k_X1_isWilling = true := by decide +kernel
def k_X1_openOrders : List bc_En := [(0, .iconst 0, 1, []), (1, .istore_n 1, 1, []), (2, .iconst 0, 1, []), (3, .istore_n 2, 1, []), (4, .nop, 0, [1, 1, 1]), (4, .iload_n 2, 1, []), (5, .aload_n 0, 1, []), (6, .getfield 43, 3, [1, 8, 15]), (9, .if_icmp .ge 23, 3, [32]), (12, .aload_n 0, 1, []), (13, .iload_n 2, 1, []), (14, .invokevirtual 68, 3, [16, 15, 1, 1]), (17, .ifCond .eq 9, 3, [26]), (20, .iload_n 1, 1, []), (21, .iconst 1, 1, []), (22, .iload_n 2, 1, []), (23, .ishl, 1, []), (24, .ior, 1, []), (25, .istore_n 1, 1, []), (26, .iinc 2 1, 3, []), (29, .goto (-25), 3, [4, 1, 1, 1]), (32, .iload_n 1, 1, []), (33, .ireturn, 1, [0])]
theorem ck_X1_openOrders : bc_code 18 k_X1_openOrders = true := by decide +kernel
def k_X1_willingOrders : List bc_En := [(0, .iconst 0, 1, []), (1, .istore_n 2, 1, []), (2, .iconst 0, 1, []), (3, .istore_n 3, 1, []), (4, .nop, 0, [1, 1, 1, 1]), (4, .iload_n 3, 1, []), (5, .aload_n 0, 1, []), (6, .getfield 43, 3, [1, 8, 15]), (9, .if_icmp .ge 24, 3, [33]), (12, .aload_n 0, 1, []), (13, .iload_n 3, 1, []), (14, .iload_n 1, 1, []), (15, .invokevirtual 71, 3, [17, 16, 2, 1]), (18, .ifCond .eq 9, 3, [27]), (21, .iload_n 2, 1, []), (22, .iconst 1, 1, []), (23, .iload_n 3, 1, []), (24, .ishl, 1, []), (25, .ior, 1, []), (26, .istore_n 2, 1, []), (27, .iinc 3 1, 3, []), (30, .goto (-26), 3, [4, 1, 1, 1, 1]), (33, .iload_n 2, 1, []), (34, .ireturn, 1, [0])]
theorem ck_X1_willingOrders : bc_code 19 k_X1_willingOrders = true := by decide +kernel
def k_X1_isAhead : List bc_En := [(0, .aload_n 0, 1, []), (1, .iload_n 1, 1, []), (2, .invokevirtual 64, 3, [15, 14, 1, 1]), (5, .ifCond .eq 11, 3, [16]), (8, .aload_n 0, 1, []), (9, .iload_n 2, 1, []), (10, .invokevirtual 64, 3, [15, 14, 1, 1]), (13, .ifCond .ne 5, 3, [18]), (16, .iconst 0, 1, []), (17, .ireturn, 1, [1]), (18, .aload_n 0, 1, []), (19, .getfield 15, 3, [1, 1, 23]), (22, .iload_n 1, 1, []), (23, .iaload, 1, []), (24, .aload_n 0, 1, []), (25, .getfield 15, 3, [1, 1, 23]), (28, .iload_n 2, 1, []), (29, .iaload, 1, []), (30, .if_icmp .gt 23, 3, [53]), (33, .aload_n 0, 1, []), (34, .getfield 15, 3, [1, 1, 23]), (37, .iload_n 1, 1, []), (38, .iaload, 1, []), (39, .aload_n 0, 1, []), (40, .getfield 15, 3, [1, 1, 23]), (43, .iload_n 2, 1, []), (44, .iaload, 1, []), (45, .if_icmp .ne 12, 3, [57]), (48, .iload_n 1, 1, []), (49, .iload_n 2, 1, []), (50, .if_icmp .ge 7, 3, [57]), (53, .iconst 1, 1, []), (54, .goto 4, 3, [58]), (57, .iconst 0, 1, []), (58, .ireturn, 1, [1])]
theorem ck_X1_isAhead : bc_code 20 k_X1_isAhead = true := by decide +kernel
def k_X4_clear : List bc_En := [(0, .iconst 0, 1, []), (1, .istore_n 1, 1, []), (2, .nop, 0, [1, 1]), (2, .iload_n 1, 1, []), (3, .bipush 12, 2, []), (5, .if_icmp .ge 23, 3, [28]), (8, .aload_n 0, 1, []), (9, .getfield 9, 3, [4, 0, 43]), (12, .iload_n 1, 1, []), (13, .iconst 0, 1, []), (14, .iastore, 1, []), (15, .aload_n 0, 1, []), (16, .getfield 15, 3, [4, 1, 44]), (19, .iload_n 1, 1, []), (20, .iconst 0, 1, []), (21, .iastore, 1, []), (22, .iinc 1 1, 3, []), (25, .goto (-23), 3, [2, 1, 1]), (28, .iconst 0, 1, []), (29, .istore_n 1, 1, []), (30, .nop, 0, [1, 1]), (30, .iload_n 1, 1, []), (31, .iconst 2, 1, []), (32, .if_icmp .ge 23, 3, [55]), (35, .aload_n 0, 1, []), (36, .getfield 18, 3, [4, 2, 45]), (39, .iload_n 1, 1, []), (40, .iconst 0, 1, []), (41, .iastore, 1, []), (42, .aload_n 0, 1, []), (43, .getfield 21, 3, [4, 3, 46]), (46, .iload_n 1, 1, []), (47, .iconst 0, 1, []), (48, .iastore, 1, []), (49, .iinc 1 1, 3, []), (52, .goto (-22), 3, [30, 1, 1]), (55, .return_, 1, [])]
theorem ck_X4_clear : bc_code 43 k_X4_clear = true := by decide +kernel
def k_X4_isCell : List bc_En := [(0, .iload_n 0, 1, []), (1, .ifCond .eq 8, 3, [9]), (4, .iload_n 0, 1, []), (5, .iconst 1, 1, []), (6, .if_icmp .ne 17, 3, [23]), (9, .iload_n 1, 1, []), (10, .ifCond .lt 13, 3, [23]), (13, .iload_n 1, 1, []), (14, .bipush 6, 2, []), (16, .if_icmp .ge 7, 3, [23]), (19, .iconst 1, 1, []), (20, .goto 4, 3, [24]), (23, .iconst 0, 1, []), (24, .ireturn, 1, [1])]
theorem ck_X4_isCell : bc_code 44 k_X4_isCell = true := by decide +kernel
def k_X4_addLow : List bc_En := [(0, .iload_n 1, 1, []), (1, .iload_n 2, 1, []), (2, .invokestatic 24, 3, [44, 35, 2]), (5, .ifCond .eq 28, 3, [33]), (8, .aload_n 0, 1, []), (9, .getfield 9, 3, [4, 0, 43]), (12, .iload_n 1, 1, []), (13, .bipush 6, 2, []), (15, .imul, 1, []), (16, .iload_n 2, 1, []), (17, .iadd, 1, []), (18, .dup2, 1, []), (19, .iaload, 1, []), (20, .iload_n 3, 1, []), (21, .iadd, 1, []), (22, .iastore, 1, []), (23, .aload_n 0, 1, []), (24, .getfield 18, 3, [4, 2, 45]), (27, .iload_n 1, 1, []), (28, .dup2, 1, []), (29, .iaload, 1, []), (30, .iload_n 3, 1, []), (31, .iadd, 1, []), (32, .iastore, 1, []), (33, .return_, 1, [])]
theorem ck_X4_addLow : bc_code 45 k_X4_addLow = true := by decide +kernel
def k_X4_addHigh : List bc_En := [(0, .iload_n 1, 1, []), (1, .iload_n 2, 1, []), (2, .invokestatic 24, 3, [44, 35, 2]), (5, .ifCond .eq 28, 3, [33]), (8, .aload_n 0, 1, []), (9, .getfield 15, 3, [4, 1, 44]), (12, .iload_n 1, 1, []), (13, .bipush 6, 2, []), (15, .imul, 1, []), (16, .iload_n 2, 1, []), (17, .iadd, 1, []), (18, .dup2, 1, []), (19, .iaload, 1, []), (20, .iload_n 3, 1, []), (21, .iadd, 1, []), (22, .iastore, 1, []), (23, .aload_n 0, 1, []), (24, .getfield 21, 3, [4, 3, 46]), (27, .iload_n 1, 1, []), (28, .dup2, 1, []), (29, .iaload, 1, []), (30, .iload_n 3, 1, []), (31, .iadd, 1, []), (32, .iastore, 1, []), (33, .return_, 1, [])]
theorem ck_X4_addHigh : bc_code 46 k_X4_addHigh = true := by decide +kernel
def k_X4_most : List bc_En := [(0, .aload_n 0, 1, []), (1, .getfield 21, 3, [4, 3, 46]), (4, .iconst 0, 1, []), (5, .iaload, 1, []), (6, .aload_n 0, 1, []), (7, .getfield 21, 3, [4, 3, 46]), (10, .iconst 1, 1, []), (11, .iaload, 1, []), (12, .invokestatic 28, 3, [1, 547]), (15, .istore_n 1, 1, []), (16, .aload_n 0, 1, []), (17, .getfield 18, 3, [4, 2, 45]), (20, .iconst 0, 1, []), (21, .iaload, 1, []), (22, .aload_n 0, 1, []), (23, .getfield 18, 3, [4, 2, 45]), (26, .iconst 1, 1, []), (27, .iaload, 1, []), (28, .invokestatic 34, 3, [2, 548]), (31, .istore_n 2, 1, []), (32, .iconst 0, 1, []), (33, .istore_n 3, 1, []), (34, .nop, 0, [1, 1, 1, 1, 0, 0]), (34, .iload_n 3, 1, []), (35, .bipush 6, 2, []), (37, .if_icmp .ge 79, 3, [116]), (40, .aload_n 0, 1, []), (41, .getfield 21, 3, [4, 3, 46]), (44, .iconst 0, 1, []), (45, .iaload, 1, []), (46, .aload_n 0, 1, []), (47, .getfield 15, 3, [4, 1, 44]), (50, .iload_n 3, 1, []), (51, .iaload, 1, []), (52, .isub, 1, []), (53, .istore 4, 2, []), (55, .aload_n 0, 1, []), (56, .getfield 21, 3, [4, 3, 46]), (59, .iconst 1, 1, []), (60, .iaload, 1, []), (61, .aload_n 0, 1, []), (62, .getfield 15, 3, [4, 1, 44]), (65, .bipush 6, 2, []), (67, .iload_n 3, 1, []), (68, .iadd, 1, []), (69, .iaload, 1, []), (70, .isub, 1, []), (71, .istore 5, 2, []), (73, .aload_n 0, 1, []), (74, .getfield 9, 3, [4, 0, 43]), (77, .iload_n 3, 1, []), (78, .iaload, 1, []), (79, .iload 5, 2, []), (81, .if_icmp .gt 17, 3, [98]), (84, .aload_n 0, 1, []), (85, .getfield 9, 3, [4, 0, 43]), (88, .bipush 6, 2, []), (90, .iload_n 3, 1, []), (91, .iadd, 1, []), (92, .iaload, 1, []), (93, .iload 4, 2, []), (95, .if_icmp .le 5, 3, [100]), (98, .iconst (-1), 1, []), (99, .ireturn, 1, [0]), (100, .iload_n 1, 1, []), (101, .iload 4, 2, []), (103, .iload 5, 2, []), (105, .iadd, 1, []), (106, .invokestatic 28, 3, [1, 547]), (109, .istore_n 1, 1, []), (110, .iinc 3 1, 3, []), (113, .goto (-79), 3, [34, 1, 1, 1, 1, 0, 0]), (116, .iload_n 2, 1, []), (117, .iload_n 1, 1, []), (118, .if_icmp .gt 7, 3, [125]), (121, .iload_n 1, 1, []), (122, .goto 4, 3, [126]), (125, .iconst (-1), 1, []), (126, .ireturn, 1, [0])]
theorem ck_X4_most : bc_code 47 k_X4_most = true := by decide +kernel
def k_X6_isIn : List bc_En := [(0, .iload_n 1, 1, []), (1, .iload_n 0, 1, []), (2, .iushr, 1, []), (3, .iconst 1, 1, []), (4, .iand, 1, []), (5, .iconst 1, 1, []), (6, .if_icmp .ne 7, 3, [13]), (9, .iconst 1, 1, []), (10, .goto 4, 3, [14]), (13, .iconst 0, 1, []), (14, .ireturn, 1, [1])]
theorem ck_X6_isIn : bc_code 78 k_X6_isIn = true := by decide +kernel
def k_X7_isIn : List bc_En := [(0, .iload_n 0, 1, []), (1, .iload_n 1, 1, []), (2, .if_icmp .lt 12, 3, [14]), (5, .iload_n 0, 1, []), (6, .iload_n 2, 1, []), (7, .if_icmp .gt 7, 3, [14]), (10, .iconst 1, 1, []), (11, .goto 4, 3, [15]), (14, .iconst 0, 1, []), (15, .ireturn, 1, [1])]
theorem ck_X7_isIn : bc_code 81 k_X7_isIn = true := by decide +kernel
def k_X7_has : List bc_En := [(0, .iload_n 0, 1, []), (1, .iload_n 1, 1, []), (2, .ishr, 1, []), (3, .iconst 1, 1, []), (4, .iand, 1, []), (5, .iconst 1, 1, []), (6, .if_icmp .ne 7, 3, [13]), (9, .iconst 1, 1, []), (10, .goto 4, 3, [14]), (13, .iconst 0, 1, []), (14, .ireturn, 1, [1])]
theorem ck_X7_has : bc_code 82 k_X7_has = true := by decide +kernel
def k_X7_isOrder : List bc_En := [(0, .iload_n 1, 1, []), (1, .iconst 0, 1, []), (2, .aload_n 0, 1, []), (3, .getfield 64, 3, [7, 11, 86]), (6, .iconst 0, 1, []), (7, .iaload, 1, []), (8, .iconst 1, 1, []), (9, .isub, 1, []), (10, .invokestatic 104, 3, [81, 66, 3]), (13, .ireturn, 1, [1])]
theorem ck_X7_isOrder : bc_code 101 k_X7_isOrder = true := by decide +kernel
def k_X7_its : List bc_En := [(0, .aload_n 0, 1, []), (1, .getfield 64, 3, [7, 11, 86]), (4, .bipush 7, 2, []), (6, .bipush 9, 2, []), (8, .iload_n 1, 1, []), (9, .imul, 1, []), (10, .iadd, 1, []), (11, .iload_n 2, 1, []), (12, .iadd, 1, []), (13, .iaload, 1, []), (14, .ireturn, 1, [0])]
theorem ck_X7_its : bc_code 102 k_X7_its = true := by decide +kernel
def k_X7_isOpen : List bc_En := [(0, .aload_n 0, 1, []), (1, .iload_n 1, 1, []), (2, .invokevirtual 135, 3, [101, 75, 1, 7]), (5, .ifCond .eq 16, 3, [21]), (8, .aload_n 0, 1, []), (9, .iload_n 1, 1, []), (10, .iconst 5, 1, []), (11, .invokevirtual 138, 3, [102, 76, 2, 7]), (14, .ifCond .ne 7, 3, [21]), (17, .iconst 1, 1, []), (18, .goto 4, 3, [22]), (21, .iconst 0, 1, []), (22, .ireturn, 1, [1])]
theorem ck_X7_isOpen : bc_code 103 k_X7_isOpen = true := by decide +kernel
def k_X7_isWilling : List bc_En := [(0, .aload_n 0, 1, []), (1, .iload_n 1, 1, []), (2, .invokevirtual 142, 3, [103, 77, 1, 7]), (5, .ifCond .eq 40, 3, [45]), (8, .aload_n 0, 1, []), (9, .iload_n 1, 1, []), (10, .iconst 0, 1, []), (11, .invokevirtual 138, 3, [102, 76, 2, 7]), (14, .iconst 1, 1, []), (15, .if_icmp .ne 16, 3, [31]), (18, .aload_n 0, 1, []), (19, .iload_n 1, 1, []), (20, .iconst 3, 1, []), (21, .invokevirtual 138, 3, [102, 76, 2, 7]), (24, .iload_n 2, 1, []), (25, .if_icmp .lt 20, 3, [45]), (28, .goto 13, 3, [41]), (31, .aload_n 0, 1, []), (32, .iload_n 1, 1, []), (33, .iconst 3, 1, []), (34, .invokevirtual 138, 3, [102, 76, 2, 7]), (37, .iload_n 2, 1, []), (38, .if_icmp .gt 7, 3, [45]), (41, .iconst 1, 1, []), (42, .goto 4, 3, [46]), (45, .iconst 0, 1, []), (46, .ireturn, 1, [1])]
theorem ck_X7_isWilling : bc_code 104 k_X7_isWilling = true := by decide +kernel
def k_X7_openSet : List bc_En := [(0, .iconst 0, 1, []), (1, .istore_n 1, 1, []), (2, .iconst 0, 1, []), (3, .istore_n 2, 1, []), (4, .nop, 0, [1, 1, 1]), (4, .iload_n 2, 1, []), (5, .aload_n 0, 1, []), (6, .getfield 64, 3, [7, 11, 86]), (9, .iconst 0, 1, []), (10, .iaload, 1, []), (11, .if_icmp .ge 23, 3, [34]), (14, .aload_n 0, 1, []), (15, .iload_n 2, 1, []), (16, .invokevirtual 142, 3, [103, 77, 1, 7]), (19, .ifCond .eq 9, 3, [28]), (22, .iload_n 1, 1, []), (23, .iconst 1, 1, []), (24, .iload_n 2, 1, []), (25, .ishl, 1, []), (26, .ior, 1, []), (27, .istore_n 1, 1, []), (28, .iinc 2 1, 3, []), (31, .goto (-27), 3, [4, 1, 1, 1]), (34, .iload_n 1, 1, []), (35, .ireturn, 1, [0])]
theorem ck_X7_openSet : bc_code 105 k_X7_openSet = true := by decide +kernel
end
section
def k_X7_isAhead : List bc_En := [(0, .aload_n 0, 1, []), (1, .iload_n 1, 1, []), (2, .iconst 1, 1, []), (3, .invokevirtual 138, 3, [102, 76, 2, 7]), (6, .aload_n 0, 1, []), (7, .iload_n 2, 1, []), (8, .iconst 1, 1, []), (9, .invokevirtual 138, 3, [102, 76, 2, 7]), (12, .if_icmp .eq 26, 3, [38]), (15, .aload_n 0, 1, []), (16, .iload_n 1, 1, []), (17, .iconst 1, 1, []), (18, .invokevirtual 138, 3, [102, 76, 2, 7]), (21, .aload_n 0, 1, []), (22, .iload_n 2, 1, []), (23, .iconst 1, 1, []), (24, .invokevirtual 138, 3, [102, 76, 2, 7]), (27, .if_icmp .le 7, 3, [34]), (30, .iconst 1, 1, []), (31, .goto 17, 3, [48]), (34, .iconst 0, 1, []), (35, .goto 13, 3, [48]), (38, .iload_n 1, 1, []), (39, .iload_n 2, 1, []), (40, .if_icmp .ge 7, 3, [47]), (43, .iconst 1, 1, []), (44, .goto 4, 3, [48]), (47, .iconst 0, 1, []), (48, .ireturn, 1, [1])]
theorem ck_X7_isAhead : bc_code 108 k_X7_isAhead = true := by decide +kernel
def k_X7_laysRanks : List bc_En := [(0, .aload_n 0, 1, []), (1, .iconst 0, 1, []), (2, .putfield 156, 3, [7, 16, 88]), (5, .iconst 0, 1, []), (6, .istore_n 1, 1, []), (7, .nop, 0, [1, 1, 0]), (7, .iload_n 1, 1, []), (8, .aload_n 0, 1, []), (9, .getfield 64, 3, [7, 11, 86]), (12, .iconst 0, 1, []), (13, .iaload, 1, []), (14, .if_icmp .ge 82, 3, [96]), (17, .aload_n 0, 1, []), (18, .iload_n 1, 1, []), (19, .invokevirtual 142, 3, [103, 77, 1, 7]), (22, .ifCond .ne 6, 3, [28]), (25, .goto 65, 3, [90]), (28, .aload_n 0, 1, []), (29, .getfield 156, 3, [7, 16, 88]), (32, .istore_n 2, 1, []), (33, .nop, 0, [1, 1, 1]), (33, .iload_n 2, 1, []), (34, .ifCond .le 39, 3, [73]), (37, .aload_n 0, 1, []), (38, .iload_n 1, 1, []), (39, .aload_n 0, 1, []), (40, .getfield 73, 3, [7, 15, 89]), (43, .iload_n 2, 1, []), (44, .iconst 1, 1, []), (45, .isub, 1, []), (46, .iaload, 1, []), (47, .invokevirtual 159, 3, [108, 81, 2, 7]), (50, .ifCond .eq 23, 3, [73]), (53, .aload_n 0, 1, []), (54, .getfield 73, 3, [7, 15, 89]), (57, .iload_n 2, 1, []), (58, .aload_n 0, 1, []), (59, .getfield 73, 3, [7, 15, 89]), (62, .iload_n 2, 1, []), (63, .iconst 1, 1, []), (64, .isub, 1, []), (65, .iaload, 1, []), (66, .iastore, 1, []), (67, .iinc 2 (-1), 3, []), (70, .goto (-37), 3, [33, 1, 1, 1]), (73, .aload_n 0, 1, []), (74, .getfield 73, 3, [7, 15, 89]), (77, .iload_n 2, 1, []), (78, .iload_n 1, 1, []), (79, .iastore, 1, []), (80, .aload_n 0, 1, []), (81, .dup, 1, []), (82, .getfield 156, 3, [7, 16, 88]), (85, .iconst 1, 1, []), (86, .iadd, 1, []), (87, .putfield 156, 3, [7, 16, 88]), (90, .iinc 1 1, 3, []), (93, .goto (-86), 3, [7, 1, 1, 0]), (96, .return_, 1, [])]
theorem ck_X7_laysRanks : bc_code 109 k_X7_laysRanks = true := by decide +kernel
def k_X7_laysBounds : List bc_En := [(0, .iconst 0, 1, []), (1, .istore_n 1, 1, []), (2, .nop, 0, [1, 1]), (2, .iload_n 1, 1, []), (3, .bipush 24, 2, []), (5, .if_icmp .ge 33, 3, [38]), (8, .aload_n 0, 1, []), (9, .getfield 76, 3, [7, 17, 90]), (12, .iload_n 1, 1, []), (13, .aload_n 0, 1, []), (14, .iload_n 1, 1, []), (15, .iconst 2, 1, []), (16, .invokevirtual 138, 3, [102, 76, 2, 7]), (19, .iastore, 1, []), (20, .aload_n 0, 1, []), (21, .getfield 79, 3, [7, 18, 91]), (24, .iload_n 1, 1, []), (25, .aload_n 0, 1, []), (26, .iload_n 1, 1, []), (27, .iconst 1, 1, []), (28, .invokevirtual 138, 3, [102, 76, 2, 7]), (31, .iastore, 1, []), (32, .iinc 1 1, 3, []), (35, .goto (-33), 3, [2, 1, 1]), (38, .return_, 1, [])]
theorem ck_X7_laysBounds : bc_code 111 k_X7_laysBounds = true := by decide +kernel
def k_X7_sum : List bc_En := [(0, .iconst 0, 1, []), (1, .istore_n 1, 1, []), (2, .iconst 0, 1, []), (3, .istore_n 2, 1, []), (4, .nop, 0, [1, 1, 1]), (4, .iload_n 2, 1, []), (5, .bipush 6, 2, []), (7, .if_icmp .ge 15, 3, [22]), (10, .iload_n 1, 1, []), (11, .aload_n 0, 1, []), (12, .iload_n 2, 1, []), (13, .iaload, 1, []), (14, .iadd, 1, []), (15, .istore_n 1, 1, []), (16, .iinc 2 1, 3, []), (19, .goto (-15), 3, [4, 1, 1, 1]), (22, .iload_n 1, 1, []), (23, .ireturn, 1, [0])]
theorem ck_X7_sum : bc_code 112 k_X7_sum = true := by decide +kernel
end
section
/-! the walk, row by row, as rewriting -/
def bc_kv (d mi : Nat) (post : Option bc_AV → bc_AH → Prop) (rest : List bc_En) (loc : List (Option bc_AV)) (st : List bc_AV) : Option bc_AV → bc_AH → Prop := fun r h => bc_vc d mi post rest none false loc (r.toList ++ st) h
def bc_gk (d mi : Nat) (post : Option bc_AV → bc_AH → Prop) (rest : List bc_En) (loc : List (Option bc_AV)) (st : List bc_AV) (h : bc_AH) : bc_AV → Prop := fun v => bc_vc d mi post rest none false loc (v :: st) h
section VCL
variable {d mi : Nat} {post : Option bc_AV → bc_AH → Prop} {pc l : Nat} {a : List Nat} {rest : List bc_En} {loc : List (Option bc_AV)} {st : List bc_AV} {h : bc_AH}
theorem vl_iconst {n : Int} : bc_vc d mi post ((pc, .iconst n, l, a) :: rest) none false loc st h = (bc_vc d mi post rest none false loc (.inl n :: st) h) := rfl
theorem vl_bipush {n : Int} : bc_vc d mi post ((pc, .bipush n, l, a) :: rest) none false loc st h = (bc_vc d mi post rest none false loc (.inl n :: st) h) := rfl
theorem vl_sipush {n : Int} : bc_vc d mi post ((pc, .sipush n, l, a) :: rest) none false loc st h = (bc_vc d mi post rest none false loc (.inl n :: st) h) := rfl
theorem vl_lconst {n : Fin 2} : bc_vc d mi post ((pc, .lconst n, l, a) :: rest) none false loc st h = (bc_vc d mi post rest none false loc (.inr (.inl ((n : Nat) : Int)) :: st) h) := rfl
theorem vl_ldc {n i : Nat} : bc_vc d mi post ((pc, .ldc n, l, [i]) :: rest) none false loc st h = (bc_vc d mi post rest none false loc (.inr (.inr (1000 + i)) :: st) h) := rfl
theorem vl_ldcw {n p v : Nat} : bc_vc d mi post ((pc, .ldc_w n, l, [p, v]) :: rest) none false loc st h = (bc_vc d mi post rest none false loc (.inl ((v : Nat) : Int) :: st) h) := rfl
theorem vl_ldc2 {n p v : Nat} : bc_vc d mi post ((pc, .ldc2_w n, l, [p, v]) :: rest) none false loc st h = (bc_vc d mi post rest none false loc (.inr (.inl ((v : Nat) : Int)) :: st) h) := rfl
theorem vl_iload0 {x : Int} {r : List (Option bc_AV)} : bc_vc d mi post ((pc, .iload_n 0, l, a) :: rest) none false (some (.inl x) :: r) st h = (bc_vc d mi post rest none false (some (.inl x) :: r) (.inl x :: st) h) := rfl
theorem vl_aload0 {x : Nat} {r : List (Option bc_AV)} : bc_vc d mi post ((pc, .aload_n 0, l, a) :: rest) none false (some (.inr (.inr x)) :: r) st h = (bc_vc d mi post rest none false (some (.inr (.inr x)) :: r) (.inr (.inr x) :: st) h) := rfl
theorem vl_istore0 {b : Option bc_AV} {x : Int} {r : List (Option bc_AV)} : bc_vc d mi post ((pc, .istore_n 0, l, a) :: rest) none false (b :: r) (.inl x :: st) h = (bc_nl (b :: r) 0 ∧ bc_vc d mi post rest none false (some (.inl x) :: r) (st) h) := rfl
theorem vl_iinc0 {x n : Int} {r : List (Option bc_AV)} : bc_vc d mi post ((pc, .iinc 0 n, l, a) :: rest) none false (some (.inl x) :: r) st h = (bc_nl (some (.inl x) :: r) 0 ∧ bc_vc d mi post rest none false (some (.inl (x + n)) :: r) (st) h) := rfl
theorem vl_iload1 {a0 : Option bc_AV} {x : Int} {r : List (Option bc_AV)} : bc_vc d mi post ((pc, .iload_n 1, l, a) :: rest) none false (a0 :: some (.inl x) :: r) st h = (bc_vc d mi post rest none false (a0 :: some (.inl x) :: r) (.inl x :: st) h) := rfl
theorem vl_aload1 {a0 : Option bc_AV} {x : Nat} {r : List (Option bc_AV)} : bc_vc d mi post ((pc, .aload_n 1, l, a) :: rest) none false (a0 :: some (.inr (.inr x)) :: r) st h = (bc_vc d mi post rest none false (a0 :: some (.inr (.inr x)) :: r) (.inr (.inr x) :: st) h) := rfl
theorem vl_istore1 {a0 : Option bc_AV} {b : Option bc_AV} {x : Int} {r : List (Option bc_AV)} : bc_vc d mi post ((pc, .istore_n 1, l, a) :: rest) none false (a0 :: b :: r) (.inl x :: st) h = (bc_nl (a0 :: b :: r) 1 ∧ bc_vc d mi post rest none false (a0 :: some (.inl x) :: r) (st) h) := rfl
theorem vl_iinc1 {a0 : Option bc_AV} {x n : Int} {r : List (Option bc_AV)} : bc_vc d mi post ((pc, .iinc 1 n, l, a) :: rest) none false (a0 :: some (.inl x) :: r) st h = (bc_nl (a0 :: some (.inl x) :: r) 1 ∧ bc_vc d mi post rest none false (a0 :: some (.inl (x + n)) :: r) (st) h) := rfl
theorem vl_iload2 {a0 a1 : Option bc_AV} {x : Int} {r : List (Option bc_AV)} : bc_vc d mi post ((pc, .iload_n 2, l, a) :: rest) none false (a0 :: a1 :: some (.inl x) :: r) st h = (bc_vc d mi post rest none false (a0 :: a1 :: some (.inl x) :: r) (.inl x :: st) h) := rfl
theorem vl_aload2 {a0 a1 : Option bc_AV} {x : Nat} {r : List (Option bc_AV)} : bc_vc d mi post ((pc, .aload_n 2, l, a) :: rest) none false (a0 :: a1 :: some (.inr (.inr x)) :: r) st h = (bc_vc d mi post rest none false (a0 :: a1 :: some (.inr (.inr x)) :: r) (.inr (.inr x) :: st) h) := rfl
theorem vl_istore2 {a0 a1 : Option bc_AV} {b : Option bc_AV} {x : Int} {r : List (Option bc_AV)} : bc_vc d mi post ((pc, .istore_n 2, l, a) :: rest) none false (a0 :: a1 :: b :: r) (.inl x :: st) h = (bc_nl (a0 :: a1 :: b :: r) 2 ∧ bc_vc d mi post rest none false (a0 :: a1 :: some (.inl x) :: r) (st) h) := rfl
theorem vl_iinc2 {a0 a1 : Option bc_AV} {x n : Int} {r : List (Option bc_AV)} : bc_vc d mi post ((pc, .iinc 2 n, l, a) :: rest) none false (a0 :: a1 :: some (.inl x) :: r) st h = (bc_nl (a0 :: a1 :: some (.inl x) :: r) 2 ∧ bc_vc d mi post rest none false (a0 :: a1 :: some (.inl (x + n)) :: r) (st) h) := rfl
theorem vl_iload3 {a0 a1 a2 : Option bc_AV} {x : Int} {r : List (Option bc_AV)} : bc_vc d mi post ((pc, .iload_n 3, l, a) :: rest) none false (a0 :: a1 :: a2 :: some (.inl x) :: r) st h = (bc_vc d mi post rest none false (a0 :: a1 :: a2 :: some (.inl x) :: r) (.inl x :: st) h) := rfl
theorem vl_aload3 {a0 a1 a2 : Option bc_AV} {x : Nat} {r : List (Option bc_AV)} : bc_vc d mi post ((pc, .aload_n 3, l, a) :: rest) none false (a0 :: a1 :: a2 :: some (.inr (.inr x)) :: r) st h = (bc_vc d mi post rest none false (a0 :: a1 :: a2 :: some (.inr (.inr x)) :: r) (.inr (.inr x) :: st) h) := rfl
theorem vl_istore3 {a0 a1 a2 : Option bc_AV} {b : Option bc_AV} {x : Int} {r : List (Option bc_AV)} : bc_vc d mi post ((pc, .istore_n 3, l, a) :: rest) none false (a0 :: a1 :: a2 :: b :: r) (.inl x :: st) h = (bc_nl (a0 :: a1 :: a2 :: b :: r) 3 ∧ bc_vc d mi post rest none false (a0 :: a1 :: a2 :: some (.inl x) :: r) (st) h) := rfl
theorem vl_iinc3 {a0 a1 a2 : Option bc_AV} {x n : Int} {r : List (Option bc_AV)} : bc_vc d mi post ((pc, .iinc 3 n, l, a) :: rest) none false (a0 :: a1 :: a2 :: some (.inl x) :: r) st h = (bc_nl (a0 :: a1 :: a2 :: some (.inl x) :: r) 3 ∧ bc_vc d mi post rest none false (a0 :: a1 :: a2 :: some (.inl (x + n)) :: r) (st) h) := rfl
theorem vl_iload4 {a0 a1 a2 a3 : Option bc_AV} {x : Int} {r : List (Option bc_AV)} : bc_vc d mi post ((pc, .iload 4, l, a) :: rest) none false (a0 :: a1 :: a2 :: a3 :: some (.inl x) :: r) st h = (bc_vc d mi post rest none false (a0 :: a1 :: a2 :: a3 :: some (.inl x) :: r) (.inl x :: st) h) := rfl
theorem vl_istore4 {a0 a1 a2 a3 : Option bc_AV} {b : Option bc_AV} {x : Int} {r : List (Option bc_AV)} : bc_vc d mi post ((pc, .istore 4, l, a) :: rest) none false (a0 :: a1 :: a2 :: a3 :: b :: r) (.inl x :: st) h = (bc_nl (a0 :: a1 :: a2 :: a3 :: b :: r) 4 ∧ bc_vc d mi post rest none false (a0 :: a1 :: a2 :: a3 :: some (.inl x) :: r) (st) h) := rfl
theorem vl_iinc4 {a0 a1 a2 a3 : Option bc_AV} {x n : Int} {r : List (Option bc_AV)} : bc_vc d mi post ((pc, .iinc 4 n, l, a) :: rest) none false (a0 :: a1 :: a2 :: a3 :: some (.inl x) :: r) st h = (bc_nl (a0 :: a1 :: a2 :: a3 :: some (.inl x) :: r) 4 ∧ bc_vc d mi post rest none false (a0 :: a1 :: a2 :: a3 :: some (.inl (x + n)) :: r) (st) h) := rfl
theorem vl_iload5 {a0 a1 a2 a3 a4 : Option bc_AV} {x : Int} {r : List (Option bc_AV)} : bc_vc d mi post ((pc, .iload 5, l, a) :: rest) none false (a0 :: a1 :: a2 :: a3 :: a4 :: some (.inl x) :: r) st h = (bc_vc d mi post rest none false (a0 :: a1 :: a2 :: a3 :: a4 :: some (.inl x) :: r) (.inl x :: st) h) := rfl
theorem vl_istore5 {a0 a1 a2 a3 a4 : Option bc_AV} {b : Option bc_AV} {x : Int} {r : List (Option bc_AV)} : bc_vc d mi post ((pc, .istore 5, l, a) :: rest) none false (a0 :: a1 :: a2 :: a3 :: a4 :: b :: r) (.inl x :: st) h = (bc_nl (a0 :: a1 :: a2 :: a3 :: a4 :: b :: r) 5 ∧ bc_vc d mi post rest none false (a0 :: a1 :: a2 :: a3 :: a4 :: some (.inl x) :: r) (st) h) := rfl
theorem vl_iinc5 {a0 a1 a2 a3 a4 : Option bc_AV} {x n : Int} {r : List (Option bc_AV)} : bc_vc d mi post ((pc, .iinc 5 n, l, a) :: rest) none false (a0 :: a1 :: a2 :: a3 :: a4 :: some (.inl x) :: r) st h = (bc_nl (a0 :: a1 :: a2 :: a3 :: a4 :: some (.inl x) :: r) 5 ∧ bc_vc d mi post rest none false (a0 :: a1 :: a2 :: a3 :: a4 :: some (.inl (x + n)) :: r) (st) h) := rfl
theorem vl_iload6 {a0 a1 a2 a3 a4 a5 : Option bc_AV} {x : Int} {r : List (Option bc_AV)} : bc_vc d mi post ((pc, .iload 6, l, a) :: rest) none false (a0 :: a1 :: a2 :: a3 :: a4 :: a5 :: some (.inl x) :: r) st h = (bc_vc d mi post rest none false (a0 :: a1 :: a2 :: a3 :: a4 :: a5 :: some (.inl x) :: r) (.inl x :: st) h) := rfl
theorem vl_istore6 {a0 a1 a2 a3 a4 a5 : Option bc_AV} {b : Option bc_AV} {x : Int} {r : List (Option bc_AV)} : bc_vc d mi post ((pc, .istore 6, l, a) :: rest) none false (a0 :: a1 :: a2 :: a3 :: a4 :: a5 :: b :: r) (.inl x :: st) h = (bc_nl (a0 :: a1 :: a2 :: a3 :: a4 :: a5 :: b :: r) 6 ∧ bc_vc d mi post rest none false (a0 :: a1 :: a2 :: a3 :: a4 :: a5 :: some (.inl x) :: r) (st) h) := rfl
theorem vl_iinc6 {a0 a1 a2 a3 a4 a5 : Option bc_AV} {x n : Int} {r : List (Option bc_AV)} : bc_vc d mi post ((pc, .iinc 6 n, l, a) :: rest) none false (a0 :: a1 :: a2 :: a3 :: a4 :: a5 :: some (.inl x) :: r) st h = (bc_nl (a0 :: a1 :: a2 :: a3 :: a4 :: a5 :: some (.inl x) :: r) 6 ∧ bc_vc d mi post rest none false (a0 :: a1 :: a2 :: a3 :: a4 :: a5 :: some (.inl (x + n)) :: r) (st) h) := rfl
theorem vl_iload7 {a0 a1 a2 a3 a4 a5 a6 : Option bc_AV} {x : Int} {r : List (Option bc_AV)} : bc_vc d mi post ((pc, .iload 7, l, a) :: rest) none false (a0 :: a1 :: a2 :: a3 :: a4 :: a5 :: a6 :: some (.inl x) :: r) st h = (bc_vc d mi post rest none false (a0 :: a1 :: a2 :: a3 :: a4 :: a5 :: a6 :: some (.inl x) :: r) (.inl x :: st) h) := rfl
theorem vl_istore7 {a0 a1 a2 a3 a4 a5 a6 : Option bc_AV} {b : Option bc_AV} {x : Int} {r : List (Option bc_AV)} : bc_vc d mi post ((pc, .istore 7, l, a) :: rest) none false (a0 :: a1 :: a2 :: a3 :: a4 :: a5 :: a6 :: b :: r) (.inl x :: st) h = (bc_nl (a0 :: a1 :: a2 :: a3 :: a4 :: a5 :: a6 :: b :: r) 7 ∧ bc_vc d mi post rest none false (a0 :: a1 :: a2 :: a3 :: a4 :: a5 :: a6 :: some (.inl x) :: r) (st) h) := rfl
theorem vl_iinc7 {a0 a1 a2 a3 a4 a5 a6 : Option bc_AV} {x n : Int} {r : List (Option bc_AV)} : bc_vc d mi post ((pc, .iinc 7 n, l, a) :: rest) none false (a0 :: a1 :: a2 :: a3 :: a4 :: a5 :: a6 :: some (.inl x) :: r) st h = (bc_nl (a0 :: a1 :: a2 :: a3 :: a4 :: a5 :: a6 :: some (.inl x) :: r) 7 ∧ bc_vc d mi post rest none false (a0 :: a1 :: a2 :: a3 :: a4 :: a5 :: a6 :: some (.inl (x + n)) :: r) (st) h) := rfl
theorem vl_lload5 {a0 a1 a2 a3 a4 : Option bc_AV} {x : Int} {r : List (Option bc_AV)} : bc_vc d mi post ((pc, .lload 5, l, a) :: rest) none false (a0 :: a1 :: a2 :: a3 :: a4 :: some (.inr (.inl x)) :: r) st h = (bc_vc d mi post rest none false (a0 :: a1 :: a2 :: a3 :: a4 :: some (.inr (.inl x)) :: r) (.inr (.inl x) :: st) h) := rfl
theorem vl_lstore5 {a0 a1 a2 a3 a4 b b2 : Option bc_AV} {x : Int} {r : List (Option bc_AV)} : bc_vc d mi post ((pc, .lstore 5, l, a) :: rest) none false (a0 :: a1 :: a2 :: a3 :: a4 :: b :: b2 :: r) (.inr (.inl x) :: st) h = (bc_nl (a0 :: a1 :: a2 :: a3 :: a4 :: b :: b2 :: r) 5 ∧ bc_vc d mi post rest none false (a0 :: a1 :: a2 :: a3 :: a4 :: some (.inr (.inl x)) :: none :: r) (st) h) := rfl
theorem vl_iadd {x y : Int} : bc_vc d mi post ((pc, .iadd, l, a) :: rest) none false loc (.inl y :: .inl x :: st) h = (bc_vc d mi post rest none false loc (.inl (x + y) :: st) h) := rfl
theorem vl_isub {x y : Int} : bc_vc d mi post ((pc, .isub, l, a) :: rest) none false loc (.inl y :: .inl x :: st) h = (bc_vc d mi post rest none false loc (.inl (x - y) :: st) h) := rfl
theorem vl_imul {x y : Int} : bc_vc d mi post ((pc, .imul, l, a) :: rest) none false loc (.inl y :: .inl x :: st) h = (bc_vc d mi post rest none false loc (.inl (x * y) :: st) h) := rfl
theorem vl_iand {x y : Int} : bc_vc d mi post ((pc, .iand, l, a) :: rest) none false loc (.inl y :: .inl x :: st) h = (bc_vc d mi post rest none false loc (.inl (bc_and x y) :: st) h) := rfl
theorem vl_ior {x y : Int} : bc_vc d mi post ((pc, .ior, l, a) :: rest) none false loc (.inl y :: .inl x :: st) h = (bc_vc d mi post rest none false loc (.inl (bc_or x y) :: st) h) := rfl
theorem vl_ixor {x y : Int} : bc_vc d mi post ((pc, .ixor, l, a) :: rest) none false loc (.inl y :: .inl x :: st) h = (bc_vc d mi post rest none false loc (.inl (bc_xor x y) :: st) h) := rfl
theorem vl_ishl {x y : Int} : bc_vc d mi post ((pc, .ishl, l, a) :: rest) none false loc (.inl y :: .inl x :: st) h = (bc_vc d mi post rest none false loc (.inl (bc_shl x y) :: st) h) := rfl
theorem vl_ishr {x y : Int} : bc_vc d mi post ((pc, .ishr, l, a) :: rest) none false loc (.inl y :: .inl x :: st) h = (bc_vc d mi post rest none false loc (.inl (bc_shr x y) :: st) h) := rfl
theorem vl_iushr {x y : Int} : bc_vc d mi post ((pc, .iushr, l, a) :: rest) none false loc (.inl y :: .inl x :: st) h = (bc_vc d mi post rest none false loc (.inl (bc_ushr x y) :: st) h) := rfl
theorem vl_idiv {x y : Int} : bc_vc d mi post ((pc, .idiv, l, a) :: rest) none false loc (.inl y :: .inl x :: st) h = (0 ≤ x ∧ bc_vr x ∧ 0 < y ∧ bc_vr y ∧ bc_vc d mi post rest none false loc (.inl (x / y) :: st) h) := rfl
theorem vl_irem {x y : Int} : bc_vc d mi post ((pc, .irem, l, a) :: rest) none false loc (.inl y :: .inl x :: st) h = (0 ≤ x ∧ bc_vr x ∧ 0 < y ∧ bc_vr y ∧ bc_vc d mi post rest none false loc (.inl (x % y) :: st) h) := rfl
theorem vl_ladd {x y : Int} : bc_vc d mi post ((pc, .ladd, l, a) :: rest) none false loc (.inr (.inl y) :: .inr (.inl x) :: st) h = (bc_vc d mi post rest none false loc (.inr (.inl (x + y)) :: st) h) := rfl
theorem vl_lsub {x y : Int} : bc_vc d mi post ((pc, .lsub, l, a) :: rest) none false loc (.inr (.inl y) :: .inr (.inl x) :: st) h = (bc_vc d mi post rest none false loc (.inr (.inl (x - y)) :: st) h) := rfl
theorem vl_lmul {x y : Int} : bc_vc d mi post ((pc, .lmul, l, a) :: rest) none false loc (.inr (.inl y) :: .inr (.inl x) :: st) h = (bc_vc d mi post rest none false loc (.inr (.inl (x * y)) :: st) h) := rfl
theorem vl_lcmp {x y : Int} : bc_vc d mi post ((pc, .lcmp, l, a) :: rest) none false loc (.inr (.inl y) :: .inr (.inl x) :: st) h = (bc_vl x ∧ bc_vl y ∧ bc_vc d mi post rest none false loc (.inl (if x < y then -1 else if x = y then 0 else 1) :: st) h) := rfl
theorem vl_i2l {x : Int} : bc_vc d mi post ((pc, .i2l, l, a) :: rest) none false loc (.inl x :: st) h = (bc_vr x ∧ bc_vc d mi post rest none false loc (.inr (.inl x) :: st) h) := rfl
theorem vl_dup {v : bc_AV} : bc_vc d mi post ((pc, .dup, l, a) :: rest) none false loc (v :: st) h = (bc_cat v = 1 ∧ bc_vc d mi post rest none false loc (v :: v :: st) h) := rfl
theorem vl_dup2 {v u : bc_AV} : bc_vc d mi post ((pc, .dup2, l, a) :: rest) none false loc (v :: u :: st) h = (bc_cat v = 1 ∧ bc_cat u = 1 ∧ bc_vc d mi post rest none false loc (v :: u :: v :: u :: st) h) := rfl
theorem vl_gotoF {o : Int} {t : Nat} : bc_vc d mi post ((pc, .goto o, l, [t]) :: rest) none false loc st h = (bc_vc d mi post rest (some t) false loc st h) := rfl
theorem vl_gotoB {o : Int} {t b : Nat} {bs : List Nat} : bc_vc d mi post ((pc, .goto o, l, (t :: b :: bs)) :: rest) none false loc st h = (bc_AT d mi post t (bc_mk (b :: bs) loc) st h) := rfl
theorem vl_nnF {o : Int} {t x : Nat} : bc_vc d mi post ((pc, .ifnonnull o, l, [t]) :: rest) none false loc (.inr (.inr x) :: st) h = (bc_vc d mi post rest (some t) false loc st h) := rfl
theorem vl_ic_eqF {x y o : Int} {t : Nat} : bc_vc d mi post ((pc, .if_icmp .eq o, l, [t]) :: rest) none false loc (.inl y :: .inl x :: st) h = (bc_vr x ∧ bc_vr y ∧ (x = y → bc_vc d mi post rest (some t) false loc st h) ∧ (¬ (x = y) → bc_vc d mi post rest none false loc (st) h)) := rfl
theorem vl_if_eqF {x o : Int} {t : Nat} : bc_vc d mi post ((pc, .ifCond .eq o, l, [t]) :: rest) none false loc (.inl x :: st) h = (bc_vr x ∧ (x = 0 → bc_vc d mi post rest (some t) false loc st h) ∧ (¬ (x = 0) → bc_vc d mi post rest none false loc (st) h)) := rfl
theorem vl_ic_eqB {x y o : Int} {t b : Nat} {bs : List Nat} : bc_vc d mi post ((pc, .if_icmp .eq o, l, (t :: b :: bs)) :: rest) none false loc (.inl y :: .inl x :: st) h = (bc_vr x ∧ bc_vr y ∧ (x = y → bc_AT d mi post t (bc_mk (b :: bs) loc) st h) ∧ (¬ (x = y) → bc_vc d mi post rest none false loc (st) h)) := rfl
theorem vl_if_eqB {x o : Int} {t b : Nat} {bs : List Nat} : bc_vc d mi post ((pc, .ifCond .eq o, l, (t :: b :: bs)) :: rest) none false loc (.inl x :: st) h = (bc_vr x ∧ (x = 0 → bc_AT d mi post t (bc_mk (b :: bs) loc) st h) ∧ (¬ (x = 0) → bc_vc d mi post rest none false loc (st) h)) := rfl
theorem vl_ic_neF {x y o : Int} {t : Nat} : bc_vc d mi post ((pc, .if_icmp .ne o, l, [t]) :: rest) none false loc (.inl y :: .inl x :: st) h = (bc_vr x ∧ bc_vr y ∧ (¬ x = y → bc_vc d mi post rest (some t) false loc st h) ∧ (¬ (¬ x = y) → bc_vc d mi post rest none false loc (st) h)) := rfl
theorem vl_if_neF {x o : Int} {t : Nat} : bc_vc d mi post ((pc, .ifCond .ne o, l, [t]) :: rest) none false loc (.inl x :: st) h = (bc_vr x ∧ (¬ x = 0 → bc_vc d mi post rest (some t) false loc st h) ∧ (¬ (¬ x = 0) → bc_vc d mi post rest none false loc (st) h)) := rfl
theorem vl_ic_neB {x y o : Int} {t b : Nat} {bs : List Nat} : bc_vc d mi post ((pc, .if_icmp .ne o, l, (t :: b :: bs)) :: rest) none false loc (.inl y :: .inl x :: st) h = (bc_vr x ∧ bc_vr y ∧ (¬ x = y → bc_AT d mi post t (bc_mk (b :: bs) loc) st h) ∧ (¬ (¬ x = y) → bc_vc d mi post rest none false loc (st) h)) := rfl
theorem vl_if_neB {x o : Int} {t b : Nat} {bs : List Nat} : bc_vc d mi post ((pc, .ifCond .ne o, l, (t :: b :: bs)) :: rest) none false loc (.inl x :: st) h = (bc_vr x ∧ (¬ x = 0 → bc_AT d mi post t (bc_mk (b :: bs) loc) st h) ∧ (¬ (¬ x = 0) → bc_vc d mi post rest none false loc (st) h)) := rfl
theorem vl_ic_ltF {x y o : Int} {t : Nat} : bc_vc d mi post ((pc, .if_icmp .lt o, l, [t]) :: rest) none false loc (.inl y :: .inl x :: st) h = (bc_vr x ∧ bc_vr y ∧ (x < y → bc_vc d mi post rest (some t) false loc st h) ∧ (¬ (x < y) → bc_vc d mi post rest none false loc (st) h)) := rfl
theorem vl_if_ltF {x o : Int} {t : Nat} : bc_vc d mi post ((pc, .ifCond .lt o, l, [t]) :: rest) none false loc (.inl x :: st) h = (bc_vr x ∧ (x < 0 → bc_vc d mi post rest (some t) false loc st h) ∧ (¬ (x < 0) → bc_vc d mi post rest none false loc (st) h)) := rfl
theorem vl_ic_ltB {x y o : Int} {t b : Nat} {bs : List Nat} : bc_vc d mi post ((pc, .if_icmp .lt o, l, (t :: b :: bs)) :: rest) none false loc (.inl y :: .inl x :: st) h = (bc_vr x ∧ bc_vr y ∧ (x < y → bc_AT d mi post t (bc_mk (b :: bs) loc) st h) ∧ (¬ (x < y) → bc_vc d mi post rest none false loc (st) h)) := rfl
theorem vl_if_ltB {x o : Int} {t b : Nat} {bs : List Nat} : bc_vc d mi post ((pc, .ifCond .lt o, l, (t :: b :: bs)) :: rest) none false loc (.inl x :: st) h = (bc_vr x ∧ (x < 0 → bc_AT d mi post t (bc_mk (b :: bs) loc) st h) ∧ (¬ (x < 0) → bc_vc d mi post rest none false loc (st) h)) := rfl
theorem vl_ic_geF {x y o : Int} {t : Nat} : bc_vc d mi post ((pc, .if_icmp .ge o, l, [t]) :: rest) none false loc (.inl y :: .inl x :: st) h = (bc_vr x ∧ bc_vr y ∧ (y ≤ x → bc_vc d mi post rest (some t) false loc st h) ∧ (¬ (y ≤ x) → bc_vc d mi post rest none false loc (st) h)) := rfl
theorem vl_if_geF {x o : Int} {t : Nat} : bc_vc d mi post ((pc, .ifCond .ge o, l, [t]) :: rest) none false loc (.inl x :: st) h = (bc_vr x ∧ (0 ≤ x → bc_vc d mi post rest (some t) false loc st h) ∧ (¬ (0 ≤ x) → bc_vc d mi post rest none false loc (st) h)) := rfl
theorem vl_ic_geB {x y o : Int} {t b : Nat} {bs : List Nat} : bc_vc d mi post ((pc, .if_icmp .ge o, l, (t :: b :: bs)) :: rest) none false loc (.inl y :: .inl x :: st) h = (bc_vr x ∧ bc_vr y ∧ (y ≤ x → bc_AT d mi post t (bc_mk (b :: bs) loc) st h) ∧ (¬ (y ≤ x) → bc_vc d mi post rest none false loc (st) h)) := rfl
theorem vl_if_geB {x o : Int} {t b : Nat} {bs : List Nat} : bc_vc d mi post ((pc, .ifCond .ge o, l, (t :: b :: bs)) :: rest) none false loc (.inl x :: st) h = (bc_vr x ∧ (0 ≤ x → bc_AT d mi post t (bc_mk (b :: bs) loc) st h) ∧ (¬ (0 ≤ x) → bc_vc d mi post rest none false loc (st) h)) := rfl
theorem vl_ic_gtF {x y o : Int} {t : Nat} : bc_vc d mi post ((pc, .if_icmp .gt o, l, [t]) :: rest) none false loc (.inl y :: .inl x :: st) h = (bc_vr x ∧ bc_vr y ∧ (y < x → bc_vc d mi post rest (some t) false loc st h) ∧ (¬ (y < x) → bc_vc d mi post rest none false loc (st) h)) := rfl
theorem vl_if_gtF {x o : Int} {t : Nat} : bc_vc d mi post ((pc, .ifCond .gt o, l, [t]) :: rest) none false loc (.inl x :: st) h = (bc_vr x ∧ (0 < x → bc_vc d mi post rest (some t) false loc st h) ∧ (¬ (0 < x) → bc_vc d mi post rest none false loc (st) h)) := rfl
theorem vl_ic_gtB {x y o : Int} {t b : Nat} {bs : List Nat} : bc_vc d mi post ((pc, .if_icmp .gt o, l, (t :: b :: bs)) :: rest) none false loc (.inl y :: .inl x :: st) h = (bc_vr x ∧ bc_vr y ∧ (y < x → bc_AT d mi post t (bc_mk (b :: bs) loc) st h) ∧ (¬ (y < x) → bc_vc d mi post rest none false loc (st) h)) := rfl
theorem vl_if_gtB {x o : Int} {t b : Nat} {bs : List Nat} : bc_vc d mi post ((pc, .ifCond .gt o, l, (t :: b :: bs)) :: rest) none false loc (.inl x :: st) h = (bc_vr x ∧ (0 < x → bc_AT d mi post t (bc_mk (b :: bs) loc) st h) ∧ (¬ (0 < x) → bc_vc d mi post rest none false loc (st) h)) := rfl
theorem vl_ic_leF {x y o : Int} {t : Nat} : bc_vc d mi post ((pc, .if_icmp .le o, l, [t]) :: rest) none false loc (.inl y :: .inl x :: st) h = (bc_vr x ∧ bc_vr y ∧ (x ≤ y → bc_vc d mi post rest (some t) false loc st h) ∧ (¬ (x ≤ y) → bc_vc d mi post rest none false loc (st) h)) := rfl
theorem vl_if_leF {x o : Int} {t : Nat} : bc_vc d mi post ((pc, .ifCond .le o, l, [t]) :: rest) none false loc (.inl x :: st) h = (bc_vr x ∧ (x ≤ 0 → bc_vc d mi post rest (some t) false loc st h) ∧ (¬ (x ≤ 0) → bc_vc d mi post rest none false loc (st) h)) := rfl
theorem vl_ic_leB {x y o : Int} {t b : Nat} {bs : List Nat} : bc_vc d mi post ((pc, .if_icmp .le o, l, (t :: b :: bs)) :: rest) none false loc (.inl y :: .inl x :: st) h = (bc_vr x ∧ bc_vr y ∧ (x ≤ y → bc_AT d mi post t (bc_mk (b :: bs) loc) st h) ∧ (¬ (x ≤ y) → bc_vc d mi post rest none false loc (st) h)) := rfl
theorem vl_if_leB {x o : Int} {t b : Nat} {bs : List Nat} : bc_vc d mi post ((pc, .ifCond .le o, l, (t :: b :: bs)) :: rest) none false loc (.inl x :: st) h = (bc_vr x ∧ (x ≤ 0 → bc_AT d mi post t (bc_mk (b :: bs) loc) st h) ∧ (¬ (x ≤ 0) → bc_vc d mi post rest none false loc (st) h)) := rfl
theorem vl_sw {df lo hi x : Int} {offs : Array Int} {td : Nat} {ts : List Nat} : bc_vc d mi post ((pc, .tableswitch df lo hi offs, l, (td :: ts)) :: rest) none false loc (.inl x :: st) h = (bc_vr x ∧ bc_sw (fun t => bc_vc d mi post rest (some t) false loc st h) x lo ts ∧ ((x < lo ∨ hi < x) → bc_vc d mi post rest (some td) false loc st h)) := rfl
theorem vl_get {i ci k j r : Nat} : bc_vc d mi post ((pc, .getfield i, l, [ci, k, j]) :: rest) none false loc (.inr (.inr r) :: st) h = (bc_gf (bc_lay r) ci k (h r k) (bc_gk d mi post rest loc st h)) := rfl
theorem vl_putI {i ci k j r : Nat} {x : Int} : bc_vc d mi post ((pc, .putfield i, l, [ci, k, j]) :: rest) none false loc (.inl x :: .inr (.inr r) :: st) h = (bc_pf (bc_lay r) ci k 0 (bc_vc d mi post rest none false loc (st) (bc_up h r k x))) := rfl
theorem vl_putL {i ci k j r : Nat} {x : Int} : bc_vc d mi post ((pc, .putfield i, l, [ci, k, j]) :: rest) none false loc (.inr (.inl x) :: .inr (.inr r) :: st) h = (bc_pf (bc_lay r) ci k 1 (bc_vc d mi post rest none false loc (st) (bc_up h r k x))) := rfl
theorem vl_iald {i : Int} {r : Nat} : bc_vc d mi post ((pc, .iaload, l, a) :: rest) none false loc (.inl i :: .inr (.inr r) :: st) h = (bc_ar (bc_lay r) (fun n => 0 ≤ i ∧ i < n ∧ bc_vc d mi post rest none false loc (.inl (h r i.toNat) :: st) h)) := rfl
theorem vl_iast {i x : Int} {r : Nat} : bc_vc d mi post ((pc, .iastore, l, a) :: rest) none false loc (.inl x :: .inl i :: .inr (.inr r) :: st) h = (bc_ar (bc_lay r) (fun n => 0 ≤ i ∧ i < n ∧ bc_vc d mi post rest none false loc (st) (bc_up h r i.toNat x))) := rfl
theorem vl_alen {r : Nat} : bc_vc d mi post ((pc, .arraylength, l, a) :: rest) none false loc (.inr (.inr r) :: st) h = (bc_ar (bc_lay r) (fun n => bc_vc d mi post rest none false loc (.inl (n : Int) :: st) h)) := rfl
theorem vl_aald {i : Int} {r : Nat} : bc_vc d mi post ((pc, .aaload, l, a) :: rest) none false loc (.inl i :: .inr (.inr r) :: st) h = (bc_arr (bc_lay r) (fun n fs => 0 ≤ i ∧ i < n ∧ bc_vc d mi post rest none false loc (.inr (.inr (fs.getD i.toNat (0, 0)).2) :: st) h)) := rfl
theorem vl_iretI {x : Int} : bc_vc d mi post ((pc, .ireturn, l, [0]) :: rest) none false loc [.inl x] h = (post (some (.inl x)) h) := rfl
theorem vl_iretZ {x : Int} : bc_vc d mi post ((pc, .ireturn, l, [1]) :: rest) none false loc [.inl x] h = ((x = 0 ∨ x = 1) ∧ post (some (.inl x)) h) := rfl
theorem vl_ret : bc_vc d mi post ((pc, .return_, l, a) :: rest) none false loc [] h = (post none h) := rfl
theorem vl_mark : bc_vc d mi post ((pc, .nop, 0, a) :: rest) none false loc st h = (bc_AT d mi post pc (bc_mk a loc) st h) := rfl
theorem vl_markT : bc_vc d mi post ((pc, .nop, 0, a) :: rest) none true loc st h = bc_vc d mi post rest none false loc st h := rfl
theorem vl_skip {i : Instr} {t : Nat} {fl : Bool} : bc_vc d mi post ((pc, i, l, a) :: rest) (some t) fl loc st h = if pc = t then bc_vc d mi post ((pc, i, l, a) :: rest) none fl loc st h else bc_vc d mi post rest (some t) fl loc st h := rfl
theorem vl_st0 {i mj j : Nat} : bc_vc d mi post ((pc, .invokestatic i, l, [mj, j, 0]) :: rest) none false loc (st) h = (bc_cs st ≤ 8 ∧ bc_OK d mj [] h (bc_kv d mi post rest loc st)) := rfl
theorem vl_vi0 {r ci : Nat} {i mj j : Nat} : bc_vc d mi post ((pc, .invokevirtual i, l, [mj, j, 0, ci]) :: rest) none false loc (.inr (.inr r) :: st) h = ((bc_lay r).1 = 0 ∧ (bc_lay r).2.1 = ci ∧ bc_cs st ≤ 8 ∧ bc_OK d mj [.inr (.inr r)] h (bc_kv d mi post rest loc st)) := rfl
theorem vl_st1 {i mj j : Nat} {v0 : bc_AV} : bc_vc d mi post ((pc, .invokestatic i, l, [mj, j, 1]) :: rest) none false loc (v0 :: st) h = (bc_cs st ≤ 8 ∧ bc_OK d mj [v0] h (bc_kv d mi post rest loc st)) := rfl
theorem vl_vi1 {r ci : Nat} {i mj j : Nat} {v0 : bc_AV} : bc_vc d mi post ((pc, .invokevirtual i, l, [mj, j, 1, ci]) :: rest) none false loc (v0 :: .inr (.inr r) :: st) h = ((bc_lay r).1 = 0 ∧ (bc_lay r).2.1 = ci ∧ bc_cs st ≤ 8 ∧ bc_OK d mj [.inr (.inr r), v0] h (bc_kv d mi post rest loc st)) := rfl
theorem vl_st2 {i mj j : Nat} {v0 v1 : bc_AV} : bc_vc d mi post ((pc, .invokestatic i, l, [mj, j, 2]) :: rest) none false loc (v1 :: v0 :: st) h = (bc_cs st ≤ 8 ∧ bc_OK d mj [v0, v1] h (bc_kv d mi post rest loc st)) := rfl
theorem vl_vi2 {r ci : Nat} {i mj j : Nat} {v0 v1 : bc_AV} : bc_vc d mi post ((pc, .invokevirtual i, l, [mj, j, 2, ci]) :: rest) none false loc (v1 :: v0 :: .inr (.inr r) :: st) h = ((bc_lay r).1 = 0 ∧ (bc_lay r).2.1 = ci ∧ bc_cs st ≤ 8 ∧ bc_OK d mj [.inr (.inr r), v0, v1] h (bc_kv d mi post rest loc st)) := rfl
theorem vl_st3 {i mj j : Nat} {v0 v1 v2 : bc_AV} : bc_vc d mi post ((pc, .invokestatic i, l, [mj, j, 3]) :: rest) none false loc (v2 :: v1 :: v0 :: st) h = (bc_cs st ≤ 8 ∧ bc_OK d mj [v0, v1, v2] h (bc_kv d mi post rest loc st)) := rfl
theorem vl_vi3 {r ci : Nat} {i mj j : Nat} {v0 v1 v2 : bc_AV} : bc_vc d mi post ((pc, .invokevirtual i, l, [mj, j, 3, ci]) :: rest) none false loc (v2 :: v1 :: v0 :: .inr (.inr r) :: st) h = ((bc_lay r).1 = 0 ∧ (bc_lay r).2.1 = ci ∧ bc_cs st ≤ 8 ∧ bc_OK d mj [.inr (.inr r), v0, v1, v2] h (bc_kv d mi post rest loc st)) := rfl
theorem vl_st4 {i mj j : Nat} {v0 v1 v2 v3 : bc_AV} : bc_vc d mi post ((pc, .invokestatic i, l, [mj, j, 4]) :: rest) none false loc (v3 :: v2 :: v1 :: v0 :: st) h = (bc_cs st ≤ 8 ∧ bc_OK d mj [v0, v1, v2, v3] h (bc_kv d mi post rest loc st)) := rfl
theorem vl_vi4 {r ci : Nat} {i mj j : Nat} {v0 v1 v2 v3 : bc_AV} : bc_vc d mi post ((pc, .invokevirtual i, l, [mj, j, 4, ci]) :: rest) none false loc (v3 :: v2 :: v1 :: v0 :: .inr (.inr r) :: st) h = ((bc_lay r).1 = 0 ∧ (bc_lay r).2.1 = ci ∧ bc_cs st ≤ 8 ∧ bc_OK d mj [.inr (.inr r), v0, v1, v2, v3] h (bc_kv d mi post rest loc st)) := rfl
theorem vl_st5 {i mj j : Nat} {v0 v1 v2 v3 v4 : bc_AV} : bc_vc d mi post ((pc, .invokestatic i, l, [mj, j, 5]) :: rest) none false loc (v4 :: v3 :: v2 :: v1 :: v0 :: st) h = (bc_cs st ≤ 8 ∧ bc_OK d mj [v0, v1, v2, v3, v4] h (bc_kv d mi post rest loc st)) := rfl
theorem vl_vi5 {r ci : Nat} {i mj j : Nat} {v0 v1 v2 v3 v4 : bc_AV} : bc_vc d mi post ((pc, .invokevirtual i, l, [mj, j, 5, ci]) :: rest) none false loc (v4 :: v3 :: v2 :: v1 :: v0 :: .inr (.inr r) :: st) h = ((bc_lay r).1 = 0 ∧ (bc_lay r).2.1 = ci ∧ bc_cs st ≤ 8 ∧ bc_OK d mj [.inr (.inr r), v0, v1, v2, v3, v4] h (bc_kv d mi post rest loc st)) := rfl
theorem vl_st6 {i mj j : Nat} {v0 v1 v2 v3 v4 v5 : bc_AV} : bc_vc d mi post ((pc, .invokestatic i, l, [mj, j, 6]) :: rest) none false loc (v5 :: v4 :: v3 :: v2 :: v1 :: v0 :: st) h = (bc_cs st ≤ 8 ∧ bc_OK d mj [v0, v1, v2, v3, v4, v5] h (bc_kv d mi post rest loc st)) := rfl
theorem vl_vi6 {r ci : Nat} {i mj j : Nat} {v0 v1 v2 v3 v4 v5 : bc_AV} : bc_vc d mi post ((pc, .invokevirtual i, l, [mj, j, 6, ci]) :: rest) none false loc (v5 :: v4 :: v3 :: v2 :: v1 :: v0 :: .inr (.inr r) :: st) h = ((bc_lay r).1 = 0 ∧ (bc_lay r).2.1 = ci ∧ bc_cs st ≤ 8 ∧ bc_OK d mj [.inr (.inr r), v0, v1, v2, v3, v4, v5] h (bc_kv d mi post rest loc st)) := rfl
theorem vl_min {i p : Nat} {x y : Int} : bc_vc d mi post ((pc, .invokestatic i, l, [1, p]) :: rest) none false loc (.inl y :: .inl x :: st) h = (bc_vr x ∧ bc_vr y ∧ bc_cs st ≤ 8 ∧ bc_vc d mi post rest none false loc (.inl (min x y) :: st) h) := rfl
theorem vl_max {i p : Nat} {x y : Int} : bc_vc d mi post ((pc, .invokestatic i, l, [2, p]) :: rest) none false loc (.inl y :: .inl x :: st) h = (bc_vr x ∧ bc_vr y ∧ bc_cs st ≤ 8 ∧ bc_vc d mi post rest none false loc (.inl (max x y) :: st) h) := rfl
theorem vl_cpy {i p b c : Nat} {n dp sp : Int} : bc_vc d mi post ((pc, .invokestatic i, l, [p]) :: rest) none false loc (.inl n :: .inl dp :: .inr (.inr b) :: .inl sp :: .inr (.inr c) :: st) h = (dp = 0 ∧ sp = 0 ∧ 0 ≤ n ∧ bc_ar (bc_lay c) (fun na => n ≤ na) ∧ bc_ar (bc_lay b) (fun nb => n ≤ nb) ∧ bc_cs st ≤ 8 ∧ bc_vc d mi post rest none false loc (st) (bc_cpy h c b n.toNat)) := rfl
end VCL
def bc_gv (c : Nat × Nat) (x : Int) (kk : bc_AV → Prop) : Prop := match c with
  | (0, _) => kk (.inl x)
  | (1, _) => kk (.inr (.inl x))
  | (2, r) => kk (.inr (.inr r))
  | _ => False
section VCK
variable {d mi : Nat} {post : Option bc_AV → bc_AH → Prop} {rest : List bc_En} {loc : List (Option bc_AV)} {st : List bc_AV} {h : bc_AH}
theorem vk_kvs {v : bc_AV} : bc_kv d mi post rest loc st (some v) h = bc_vc d mi post rest none false loc (v :: st) h := rfl
theorem vk_kvn : bc_kv d mi post rest loc st none h = bc_vc d mi post rest none false loc st h := rfl
theorem vk_gf0 {c ci k : Nat} {fs : List (Nat × Nat)} {x : Int} : bc_gf (0, c, fs) ci k x (bc_gk d mi post rest loc st h) = (c = ci ∧ bc_gv (bc_fn fs k) x (bc_gk d mi post rest loc st h)) := rfl
theorem vk_gv0 {b : Nat} {x : Int} : bc_gv (0, b) x (bc_gk d mi post rest loc st h) = bc_vc d mi post rest none false loc (.inl x :: st) h := rfl
theorem vk_gv1 {b : Nat} {x : Int} : bc_gv (1, b) x (bc_gk d mi post rest loc st h) = bc_vc d mi post rest none false loc (.inr (.inl x) :: st) h := rfl
theorem vk_gv2 {b : Nat} {x : Int} : bc_gv (2, b) x (bc_gk d mi post rest loc st h) = bc_vc d mi post rest none false loc (.inr (.inr b) :: st) h := rfl
theorem vk_pf {c ci k t : Nat} {fs : List (Nat × Nat)} {K : Prop} : bc_pf (0, c, fs) ci k t K = (c = ci ∧ bc_fn fs k = (t, 0) ∧ K) := rfl
theorem vk_ar {n : Nat} {fs : List (Nat × Nat)} {K : Nat → Prop} : bc_ar (1, n, fs) K = K n := rfl
theorem vk_arr {n : Nat} {fs : List (Nat × Nat)} {K : Nat → List (Nat × Nat) → Prop} : bc_arr (3, n, fs) K = K n fs := rfl
end VCK
end
section
/-! PURE WORDS: a desk is a row D of ints as the reference lays it: D 0 count, D 1 midpoint, D 2 runs, D 3 all, D 4 D 5 D 6 the latest; order o from 7 + 9 o on: 0 side, 1 size, 2 least, 3 limit, 4 firm, 5 state, 7 fills, 8 leaks -/
def pd_ob (D : Nat → Int) (o : Nat) : Bool := decide ((o : Int) < D 0) && decide (D (7 + 9 * o + 5) = 0)
def pd_wb (D : Nat → Int) (m : Int) (o : Nat) : Bool := pd_ob D o && (if D (7 + 9 * o) = 1 then decide (m ≤ D (7 + 9 * o + 3)) else decide (D (7 + 9 * o + 3) ≤ m))
theorem pd_ob_iff {D : Nat → Int} {o : Nat} : pd_ob D o = true ↔ (o : Int) < D 0 ∧ D (7 + 9 * o + 5) = 0 := by simp [pd_ob]
theorem pd_wb_iff {D : Nat → Int} {m : Int} {o : Nat} : pd_wb D m o = true ↔ pd_ob D o = true ∧ ((D (7 + 9 * o) = 1 ∧ m ≤ D (7 + 9 * o + 3)) ∨ (¬ D (7 + 9 * o) = 1 ∧ D (7 + 9 * o + 3) ≤ m)) := by
  unfold pd_wb
  by_cases hs : D (7 + 9 * o) = 1 <;> simp [hs]
/-- the ranges of one order -/
def pd_O (D : Nat → Int) (o : Nat) : Prop := (D (7 + 9 * o) = 0 ∨ D (7 + 9 * o) = 1) ∧ (0 ≤ D (7 + 9 * o + 1) ∧ D (7 + 9 * o + 1) ≤ 999) ∧ (0 ≤ D (7 + 9 * o + 2) ∧ D (7 + 9 * o + 2) ≤ 999) ∧ (0 ≤ D (7 + 9 * o + 3) ∧ D (7 + 9 * o + 3) ≤ 999) ∧ (0 ≤ D (7 + 9 * o + 4) ∧ D (7 + 9 * o + 4) ≤ 5) ∧ (0 ≤ D (7 + 9 * o + 5) ∧ D (7 + 9 * o + 5) ≤ 2) ∧ (D (7 + 9 * o + 5) = 0 → 1 ≤ D (7 + 9 * o + 2) ∧ D (7 + 9 * o + 2) ≤ D (7 + 9 * o + 1))
def pd_V (D : Nat → Int) : Prop := (0 ≤ D 0 ∧ D 0 ≤ 24) ∧ (0 ≤ D 1 ∧ D 1 ≤ 999) ∧ ∀ o : Nat, (o : Int) < D 0 → pd_O D o
/-- the class's desk at cell c holds D -/
def pd_C (c : Nat) (D : Nat → Int) (h : bc_AH) : Prop := (h c 8 = D 0 ∧ h c 9 = D 1 ∧ h c 10 = D 2 ∧ h c 11 = D 3 ∧ h c 12 = D 4 ∧ h c 13 = D 5 ∧ h c 14 = D 6) ∧ ∀ o : Nat, (o : Int) < D 0 → h (c + 1) o = D (7 + 9 * o) ∧ h (c + 2) o = D (7 + 9 * o + 1) ∧ h (c + 3) o = D (7 + 9 * o + 2) ∧ h (c + 4) o = D (7 + 9 * o + 3) ∧ h (c + 5) o = D (7 + 9 * o + 4) ∧ h (c + 6) o = D (7 + 9 * o + 5) ∧ h (c + 7) o = D (7 + 9 * o + 7) ∧ h (c + 8) o = D (7 + 9 * o + 8)
/-- the reference's row at cell c holds D -/
def pd_M (c : Nat) (D : Nat → Int) (h : bc_AH) : Prop := ∀ i : Nat, i < 223 → h c i = D i
-- masks built bit by bit
def pd_mask (p : Nat → Bool) : Nat → Int
  | 0 => 0
  | i + 1 => if p i then bc_or (pd_mask p i) (bc_shl 1 i) else pd_mask p i
theorem bc_vr_ti (x : Int32) : bc_vr x.toInt := by
  have h1 := Int32.minValue_le_toInt x
  have h2 := Int32.toInt_le x
  have e1 : Int32.minValue.toInt = -2147483648 := by decide +kernel
  have e2 : Int32.maxValue.toInt = 2147483647 := by decide +kernel
  exact ⟨by omega, by omega⟩
theorem bc_vr_and (x y : Int) : bc_vr (bc_and x y) := bc_vr_ti _
theorem bc_vr_or (x y : Int) : bc_vr (bc_or x y) := bc_vr_ti _
theorem bc_vr_xor (x y : Int) : bc_vr (bc_xor x y) := bc_vr_ti _
theorem bc_vr_shl (x y : Int) : bc_vr (bc_shl x y) := bc_vr_ti _
theorem bc_vr_shr (x y : Int) : bc_vr (bc_shr x y) := bc_vr_ti _
theorem bc_vr_ushr (x y : Int) : bc_vr (bc_ushr x y) := bc_vr_ti _
-- bits (begun with rows of kit/laws/BITS.to-paste)
/-! rows on bits, shifts and unsigned numbers, to paste: each family out of a closed proof of our own, whole with what it rests on; each by itself clean at Lean in its own claim (generation 39, form 5). Take a family whole -/
/-! ===== Int32 by its bits: bt x i ===== -/
def bt (x : Int32) (i : Nat) : Bool := x.toBitVec.getLsbD i
theorem b_ext {x y : Int32} (h : ∀ i, i < 32 → bt x i = bt y i) : x = y := Int32.toBitVec_inj.mp (BitVec.eq_of_getLsbD_eq (fun i hi => h i hi))
theorem b_or (x y : Int32) (i : Nat) : bt (x ||| y) i = (bt x i || bt y i) := by unfold bt; rw [Int32.toBitVec_or, BitVec.getLsbD_or]
theorem b_and (x y : Int32) (i : Nat) : bt (x &&& y) i = (bt x i && bt y i) := by unfold bt; rw [Int32.toBitVec_and, BitVec.getLsbD_and]
theorem b_xor (x y : Int32) (i : Nat) : bt (x ^^^ y) i = (bt x i ^^ bt y i) := by unfold bt; rw [Int32.toBitVec_xor, BitVec.getLsbD_xor]
theorem b_big {x : Int32} {i : Nat} (h : 32 ≤ i) : bt x i = false := BitVec.getLsbD_of_ge _ _ h
theorem b_255 (i : Nat) : bt 255 i = decide (i < 8) := by
  rcases Nat.lt_or_ge i 32 with h | h
  · exact (by decide +kernel : ∀ i, i < 32 → bt 255 i = decide (i < 8)) i h
  · rw [b_big h, decide_eq_false (by omega)]
theorem b_65535 (i : Nat) : bt 65535 i = decide (i < 16) := by
  rcases Nat.lt_or_ge i 32 with h | h
  · exact (by decide +kernel : ∀ i, i < 32 → bt 65535 i = decide (i < 16)) i h
  · rw [b_big h, decide_eq_false (by omega)]
theorem b_m1 : ∀ i, i < 32 → bt (-1) i = true := by decide +kernel
theorem b_0 (i : Nat) : bt 0 i = false := BitVec.getLsbD_zero
theorem s_l : ∀ n, n < 32 → ((nI n &&& 31).toBitVec.smod 32).toNat = n := by decide +kernel
theorem s_u : ∀ n, n < 32 → (((nI n).toUInt32 &&& Int32.toUInt32 31).toBitVec % 32).toNat = n := by decide +kernel
theorem b_shl (n : Nat) (hn : n < 32) (x : Int32) {i : Nat} (hi : i < 32) : bt (x <<< (nI n &&& 31)) i = (decide (n ≤ i) && bt x (i - n)) := by
  unfold bt
  rw [Int32.toBitVec_shiftLeft]
  show (x.toBitVec <<< ((nI n &&& 31).toBitVec.smod 32).toNat).getLsbD i = _
  rw [s_l n hn, BitVec.getLsbD_shiftLeft]
  rcases Nat.lt_or_ge i n with h | h
  · simp [h, Nat.not_le.mpr h]
  · simp [hi, h, Nat.not_lt.mpr h]
theorem b_ushr (n : Nat) (hn : n < 32) (x : Int32) (i : Nat) : bt ((x.toUInt32 >>> ((nI n).toUInt32 &&& Int32.toUInt32 31)).toInt32) i = bt x (n + i) := by
  show (x.toUInt32 >>> ((nI n).toUInt32 &&& Int32.toUInt32 31)).toBitVec.getLsbD i = x.toUInt32.toBitVec.getLsbD (n + i)
  rw [UInt32.toBitVec_shiftRight]
  show (x.toUInt32.toBitVec >>> (((nI n).toUInt32 &&& Int32.toUInt32 31).toBitVec % 32).toNat).getLsbD i = _
  rw [s_u n hn, BitVec.getLsbD_ushiftRight]
theorem b_sshr (n : Nat) (hn : n < 32) (x : Int32) {i : Nat} (hi : i < 32) : bt (x >>> (nI n &&& 31)) i = if n + i < 32 then bt x (n + i) else bt x 31 := by
  unfold bt
  rw [Int32.toBitVec_shiftRight]
  show (x.toBitVec.sshiftRight ((nI n &&& 31).toBitVec.smod 32).toNat).getLsbD i = _
  rw [s_l n hn, BitVec.getLsbD_sshiftRight, BitVec.msb_eq_getLsbD_last]
  simp [hi]
theorem b_shl8 (x : Int32) {i : Nat} (hi : i < 32) : bt (x <<< ((8 : Int32) &&& 31)) i = (decide (8 ≤ i) && bt x (i - 8)) := b_shl 8 (by omega) x hi
theorem b_shl16 (x : Int32) {i : Nat} (hi : i < 32) : bt (x <<< ((16 : Int32) &&& 31)) i = (decide (16 ≤ i) && bt x (i - 16)) := b_shl 16 (by omega) x hi
theorem b_shl24 (x : Int32) {i : Nat} (hi : i < 32) : bt (x <<< ((24 : Int32) &&& 31)) i = (decide (24 ≤ i) && bt x (i - 24)) := b_shl 24 (by omega) x hi
-- bits of an int
def bc_bit (x : Int) (i : Nat) : Bool := (Int32.ofInt x).toBitVec.getLsbD i
theorem bc_bit_or (x y : Int) (i : Nat) : bc_bit (bc_or x y) i = (bc_bit x i || bc_bit y i) := by
  unfold bc_bit bc_or
  rw [bc_oi]
  simp
theorem bc_bit_and (x y : Int) (i : Nat) : bc_bit (bc_and x y) i = (bc_bit x i && bc_bit y i) := by
  unfold bc_bit bc_and
  rw [bc_oi]
  simp
theorem bc_bit_xor (x y : Int) (i : Nat) : bc_bit (bc_xor x y) i = (bc_bit x i ^^ bc_bit y i) := by
  unfold bc_bit bc_xor
  rw [bc_oi]
  simp
theorem bc_bit_0 (i : Nat) : bc_bit 0 i = false := by
  unfold bc_bit
  rw [show Int32.ofInt 0 = 0 from rfl]
  simp
theorem bc_bit_m1 (i : Nat) (hi : i < 32) : bc_bit (-1) i = true := by
  have h : ∀ i, i < 32 → bc_bit (-1) i = true := by decide +kernel
  exact h i hi
theorem bc_bit_shl (o i : Nat) (ho : o < 32) (hi : i < 32) : bc_bit (bc_shl 1 o) i = decide (i = o) := by
  have h : ∀ o : Nat, o < 32 → ∀ i : Nat, i < 32 → bc_bit (bc_shl 1 (o : Int)) i = decide (i = o) := by decide +kernel
  exact h o ho i hi
theorem bc_ext {x y : Int} (hx : bc_vr x) (hy : bc_vr y) (h : ∀ i, i < 32 → bc_bit x i = bc_bit y i) : x = y := by
  apply (bc_eq hx hy).mp
  apply Int32.toBitVec_inj.mp
  apply BitVec.eq_of_getLsbD_eq
  exact h
theorem bc_bit_1 (i : Nat) (hi : i < 32) : bc_bit 1 i = decide (i = 0) := by
  have h : ∀ i : Nat, i < 32 → bc_bit 1 i = decide (i = 0) := by decide +kernel
  exact h i hi
theorem bc_and1 (y : Int) : (bc_and y 1 = 1) ↔ bc_bit y 0 = true := by
  constructor
  · intro h
    have h1 : bc_bit (bc_and y 1) 0 = true := by rw [h, bc_bit_1 0 (by omega)]; rfl
    rw [bc_bit_and] at h1
    simp at h1
    exact h1.1
  · intro h
    refine bc_ext (bc_vr_and _ _) ⟨by omega, by omega⟩ (fun i hi => ?_)
    rw [bc_bit_and, bc_bit_1 i hi]
    by_cases h0 : i = 0
    · subst h0; simp [h]
    · simp [h0]
/-- (x >>> o & 1) == 1 -/
theorem bc_isin_u (x : Int) (o : Nat) (ho : o < 32) : (bc_and (bc_ushr x o) 1 = 1) ↔ bc_bit x o = true := by
  rw [bc_and1]
  have e : bc_bit (bc_ushr x o) 0 = bc_bit x o := by
    unfold bc_bit bc_ushr
    rw [bc_oi]
    exact b_ushr o ho (Int32.ofInt x) 0
  rw [e]
/-- (x >> o & 1) == 1 -/
theorem bc_isin_s (x : Int) (o : Nat) (ho : o < 32) : (bc_and (bc_shr x o) 1 = 1) ↔ bc_bit x o = true := by
  rw [bc_and1]
  have e : bc_bit (bc_shr x o) 0 = bc_bit x o := by
    unfold bc_bit bc_shr
    rw [bc_oi]
    have := b_sshr o ho (Int32.ofInt x) (i := 0) (by omega)
    rw [if_pos (by omega)] at this
    exact this
  rw [e]
theorem pd_mask_bit (p : Nat → Bool) : ∀ (n i : Nat), n ≤ 32 → i < 32 → bc_bit (pd_mask p n) i = (decide (i < n) && p i) := by
  intro n
  induction n with
  | zero => intro i _ _; rw [pd_mask, bc_bit_0]; simp
  | succ n ih =>
    intro i hn hi
    rw [pd_mask]
    by_cases hp : p n = true
    · rw [if_pos hp, bc_bit_or, ih i (by omega) hi, bc_bit_shl n i (by omega) hi]
      by_cases hin : i = n
      · subst hin; simp [hp]
      · have : (i < n + 1) ↔ i < n := by omega
        simp [hin, this]
    · rw [if_neg hp, ih i (by omega) hi]
      by_cases hin : i = n
      · subst hin; simp [hp]
      · have : (i < n + 1) ↔ i < n := by omega
        simp [this]
theorem pd_mask_vr (p : Nat → Bool) : ∀ n, bc_vr (pd_mask p n) := by
  intro n
  induction n with
  | zero => rw [pd_mask]; exact ⟨by omega, by omega⟩
  | succ n ih =>
    rw [pd_mask]
    split
    · exact bc_vr_or _ _
    · exact ih
theorem pd_mask_congr {p q : Nat → Bool} : ∀ n, (∀ i, i < n → p i = q i) → pd_mask p n = pd_mask q n := by
  intro n
  induction n with
  | zero => intro _; rfl
  | succ n ih =>
    intro h
    rw [pd_mask, pd_mask, h n (by omega), ih (fun i hi => h i (by omega))]
end
section
/-! the class: reads of the desk (cell 4) -/
section Desk
variable {d : Nat} {h : bc_AH} {post : Option bc_AV → bc_AH → Prop} {D : Nat → Int}
theorem c1_has (hC : pd_C 4 D h) (hV : pd_V D) {o : Int} (ho : bc_vr o) (k1 : 0 ≤ o → o < D 0 → post (some (.inl 1)) h) (k0 : ¬ (0 ≤ o ∧ o < D 0) → post (some (.inl 0)) h) : bc_OK (d + 1) 15 [.inr (.inr 4), .inl o] h post := by
  obtain ⟨⟨e0, -⟩, -⟩ := hC
  obtain ⟨⟨v0, v1⟩, -⟩ := hV
  refine bc_run (n := 2) ck_X1_has rfl rfl rfl rfl (Nat.le_of_ble_eq_true rfl) ?_
  simp only [k_X1_has, ↓vl_iconst, ↓vl_bipush, ↓vl_sipush, ↓vl_lconst, ↓vl_ldc, ↓vl_ldcw, ↓vl_ldc2, ↓vl_iload0, ↓vl_aload0, ↓vl_istore0, ↓vl_iinc0, ↓vl_iload1, ↓vl_aload1, ↓vl_istore1, ↓vl_iinc1, ↓vl_iload2, ↓vl_aload2, ↓vl_istore2, ↓vl_iinc2, ↓vl_iload3, ↓vl_aload3, ↓vl_istore3, ↓vl_iinc3, ↓vl_iload4, ↓vl_istore4, ↓vl_iinc4, ↓vl_iload5, ↓vl_istore5, ↓vl_iinc5, ↓vl_iload6, ↓vl_istore6, ↓vl_iinc6, ↓vl_iload7, ↓vl_istore7, ↓vl_iinc7, ↓vl_lload5, ↓vl_lstore5, ↓vl_iadd, ↓vl_isub, ↓vl_imul, ↓vl_iand, ↓vl_ior, ↓vl_ixor, ↓vl_ishl, ↓vl_ishr, ↓vl_iushr, ↓vl_idiv, ↓vl_irem, ↓vl_ladd, ↓vl_lsub, ↓vl_lmul, ↓vl_lcmp, ↓vl_i2l, ↓vl_dup, ↓vl_dup2, ↓vl_gotoF, ↓vl_gotoB, ↓vl_nnF, ↓vl_ic_eqF, ↓vl_if_eqF, ↓vl_ic_eqB, ↓vl_if_eqB, ↓vl_ic_neF, ↓vl_if_neF, ↓vl_ic_neB, ↓vl_if_neB, ↓vl_ic_ltF, ↓vl_if_ltF, ↓vl_ic_ltB, ↓vl_if_ltB, ↓vl_ic_geF, ↓vl_if_geF, ↓vl_ic_geB, ↓vl_if_geB, ↓vl_ic_gtF, ↓vl_if_gtF, ↓vl_ic_gtB, ↓vl_if_gtB, ↓vl_ic_leF, ↓vl_if_leF, ↓vl_ic_leB, ↓vl_if_leB, ↓vl_sw, ↓vl_get, ↓vl_putI, ↓vl_putL, ↓vl_iald, ↓vl_iast, ↓vl_alen, ↓vl_aald, ↓vl_iretI, ↓vl_iretZ, ↓vl_ret, ↓vl_mark, ↓vl_markT, ↓vl_skip, ↓vl_st0, ↓vl_vi0, ↓vl_st1, ↓vl_vi1, ↓vl_st2, ↓vl_vi2, ↓vl_st3, ↓vl_vi3, ↓vl_st4, ↓vl_vi4, ↓vl_st5, ↓vl_vi5, ↓vl_st6, ↓vl_vi6, ↓vl_min, ↓vl_max, ↓vl_cpy, ↓vk_kvs, ↓vk_kvn, ↓vk_gf0, ↓vk_gv0, ↓vk_gv1, ↓vk_gv2, ↓vk_pf, ↓vk_ar, ↓vk_arr, bc_lay, bc_fn, bc_mk, bc_cs, bc_cat, bc_nl, bc_nth, bc_en, bc_sw, true_and, and_true, ↓reduceIte, reduceCtorEq, Nat.reduceEqDiff, Nat.reduceLeDiff, Nat.reduceAdd, Nat.le_refl, Nat.zero_le, Int.cast_ofNat_Int, Int.reduceEq, eq_self, true_implies, false_implies, not_true_eq_false, not_false_eq_true, bc_vr, Int.reduceToNat, Int.toNat_natCast, Int.reduceLE, Int.reduceLT, Int.reduceNeg, true_or, or_true, forall_const, Int.reduceAdd, e0]
  repeat' (first | refine And.intro ?_ ?_ | intro _)
  all_goals first | exact ho.1 | exact ho.2 | omega | exact k0 (by omega) | exact k1 (by omega) (by omega)
theorem pd_C_at (hC : pd_C 4 D h) {o : Int} (h0 : 0 ≤ o) (h1 : o < D 0) : h 5 o.toNat = D (7 + 9 * o.toNat) ∧ h 6 o.toNat = D (7 + 9 * o.toNat + 1) ∧ h 7 o.toNat = D (7 + 9 * o.toNat + 2) ∧ h 8 o.toNat = D (7 + 9 * o.toNat + 3) ∧ h 9 o.toNat = D (7 + 9 * o.toNat + 4) ∧ h 10 o.toNat = D (7 + 9 * o.toNat + 5) ∧ h 11 o.toNat = D (7 + 9 * o.toNat + 7) ∧ h 12 o.toNat = D (7 + 9 * o.toNat + 8) := hC.2 o.toNat (by omega)
theorem pd_V_at (hV : pd_V D) {o : Int} (h0 : 0 ≤ o) (h1 : o < D 0) : pd_O D o.toNat := hV.2.2 o.toNat (by omega)
theorem c1_isOpen (hC : pd_C 4 D h) (hV : pd_V D) {o : Int} (ho : bc_vr o) (k1 : 0 ≤ o → o < D 0 → pd_ob D o.toNat = true → post (some (.inl 1)) h) (k0 : ¬ (0 ≤ o ∧ pd_ob D o.toNat = true) → post (some (.inl 0)) h) : bc_OK (d + 2) 16 [.inr (.inr 4), .inl o] h post := by
  refine bc_run (n := 2) ck_X1_isOpen rfl rfl rfl rfl (Nat.le_of_ble_eq_true rfl) ?_
  simp only [k_X1_isOpen, ↓vl_iconst, ↓vl_bipush, ↓vl_sipush, ↓vl_lconst, ↓vl_ldc, ↓vl_ldcw, ↓vl_ldc2, ↓vl_iload0, ↓vl_aload0, ↓vl_istore0, ↓vl_iinc0, ↓vl_iload1, ↓vl_aload1, ↓vl_istore1, ↓vl_iinc1, ↓vl_iload2, ↓vl_aload2, ↓vl_istore2, ↓vl_iinc2, ↓vl_iload3, ↓vl_aload3, ↓vl_istore3, ↓vl_iinc3, ↓vl_iload4, ↓vl_istore4, ↓vl_iinc4, ↓vl_iload5, ↓vl_istore5, ↓vl_iinc5, ↓vl_iload6, ↓vl_istore6, ↓vl_iinc6, ↓vl_iload7, ↓vl_istore7, ↓vl_iinc7, ↓vl_lload5, ↓vl_lstore5, ↓vl_iadd, ↓vl_isub, ↓vl_imul, ↓vl_iand, ↓vl_ior, ↓vl_ixor, ↓vl_ishl, ↓vl_ishr, ↓vl_iushr, ↓vl_idiv, ↓vl_irem, ↓vl_ladd, ↓vl_lsub, ↓vl_lmul, ↓vl_lcmp, ↓vl_i2l, ↓vl_dup, ↓vl_dup2, ↓vl_gotoF, ↓vl_gotoB, ↓vl_nnF, ↓vl_ic_eqF, ↓vl_if_eqF, ↓vl_ic_eqB, ↓vl_if_eqB, ↓vl_ic_neF, ↓vl_if_neF, ↓vl_ic_neB, ↓vl_if_neB, ↓vl_ic_ltF, ↓vl_if_ltF, ↓vl_ic_ltB, ↓vl_if_ltB, ↓vl_ic_geF, ↓vl_if_geF, ↓vl_ic_geB, ↓vl_if_geB, ↓vl_ic_gtF, ↓vl_if_gtF, ↓vl_ic_gtB, ↓vl_if_gtB, ↓vl_ic_leF, ↓vl_if_leF, ↓vl_ic_leB, ↓vl_if_leB, ↓vl_sw, ↓vl_get, ↓vl_putI, ↓vl_putL, ↓vl_iald, ↓vl_iast, ↓vl_alen, ↓vl_aald, ↓vl_iretI, ↓vl_iretZ, ↓vl_ret, ↓vl_mark, ↓vl_markT, ↓vl_skip, ↓vl_st0, ↓vl_vi0, ↓vl_st1, ↓vl_vi1, ↓vl_st2, ↓vl_vi2, ↓vl_st3, ↓vl_vi3, ↓vl_st4, ↓vl_vi4, ↓vl_st5, ↓vl_vi5, ↓vl_st6, ↓vl_vi6, ↓vl_min, ↓vl_max, ↓vl_cpy, ↓vk_kvs, ↓vk_kvn, ↓vk_gf0, ↓vk_gv0, ↓vk_gv1, ↓vk_gv2, ↓vk_pf, ↓vk_ar, ↓vk_arr, bc_lay, bc_fn, bc_mk, bc_cs, bc_cat, bc_nl, bc_nth, bc_en, bc_sw, true_and, and_true, ↓reduceIte, reduceCtorEq, Nat.reduceEqDiff, Nat.reduceLeDiff, Nat.reduceAdd, Nat.le_refl, Nat.zero_le, Int.cast_ofNat_Int, Int.reduceEq, eq_self, true_implies, false_implies, not_true_eq_false, not_false_eq_true, bc_vr, Int.reduceToNat, Int.toNat_natCast, Int.reduceLE, Int.reduceLT, Int.reduceNeg, true_or, or_true, forall_const, Int.reduceAdd]
  have v0 := hV.1
  refine c1_has hC hV ho (fun h1 h2 => ?_) (fun h1 => ?_)
  · obtain ⟨f0, f1, f2, f3, f4, f5, -⟩ := pd_C_at hC h1 h2
    obtain ⟨-, -, -, -, -, r5, -⟩ := pd_V_at hV h1 h2
    simp only [↓vl_iconst, ↓vl_bipush, ↓vl_sipush, ↓vl_lconst, ↓vl_ldc, ↓vl_ldcw, ↓vl_ldc2, ↓vl_iload0, ↓vl_aload0, ↓vl_istore0, ↓vl_iinc0, ↓vl_iload1, ↓vl_aload1, ↓vl_istore1, ↓vl_iinc1, ↓vl_iload2, ↓vl_aload2, ↓vl_istore2, ↓vl_iinc2, ↓vl_iload3, ↓vl_aload3, ↓vl_istore3, ↓vl_iinc3, ↓vl_iload4, ↓vl_istore4, ↓vl_iinc4, ↓vl_iload5, ↓vl_istore5, ↓vl_iinc5, ↓vl_iload6, ↓vl_istore6, ↓vl_iinc6, ↓vl_iload7, ↓vl_istore7, ↓vl_iinc7, ↓vl_lload5, ↓vl_lstore5, ↓vl_iadd, ↓vl_isub, ↓vl_imul, ↓vl_iand, ↓vl_ior, ↓vl_ixor, ↓vl_ishl, ↓vl_ishr, ↓vl_iushr, ↓vl_idiv, ↓vl_irem, ↓vl_ladd, ↓vl_lsub, ↓vl_lmul, ↓vl_lcmp, ↓vl_i2l, ↓vl_dup, ↓vl_dup2, ↓vl_gotoF, ↓vl_gotoB, ↓vl_nnF, ↓vl_ic_eqF, ↓vl_if_eqF, ↓vl_ic_eqB, ↓vl_if_eqB, ↓vl_ic_neF, ↓vl_if_neF, ↓vl_ic_neB, ↓vl_if_neB, ↓vl_ic_ltF, ↓vl_if_ltF, ↓vl_ic_ltB, ↓vl_if_ltB, ↓vl_ic_geF, ↓vl_if_geF, ↓vl_ic_geB, ↓vl_if_geB, ↓vl_ic_gtF, ↓vl_if_gtF, ↓vl_ic_gtB, ↓vl_if_gtB, ↓vl_ic_leF, ↓vl_if_leF, ↓vl_ic_leB, ↓vl_if_leB, ↓vl_sw, ↓vl_get, ↓vl_putI, ↓vl_putL, ↓vl_iald, ↓vl_iast, ↓vl_alen, ↓vl_aald, ↓vl_iretI, ↓vl_iretZ, ↓vl_ret, ↓vl_mark, ↓vl_markT, ↓vl_skip, ↓vl_st0, ↓vl_vi0, ↓vl_st1, ↓vl_vi1, ↓vl_st2, ↓vl_vi2, ↓vl_st3, ↓vl_vi3, ↓vl_st4, ↓vl_vi4, ↓vl_st5, ↓vl_vi5, ↓vl_st6, ↓vl_vi6, ↓vl_min, ↓vl_max, ↓vl_cpy, ↓vk_kvs, ↓vk_kvn, ↓vk_gf0, ↓vk_gv0, ↓vk_gv1, ↓vk_gv2, ↓vk_pf, ↓vk_ar, ↓vk_arr, bc_lay, bc_fn, bc_mk, bc_cs, bc_cat, bc_nl, bc_nth, bc_en, bc_sw, true_and, and_true, ↓reduceIte, reduceCtorEq, Nat.reduceEqDiff, Nat.reduceLeDiff, Nat.reduceAdd, Nat.le_refl, Nat.zero_le, Int.cast_ofNat_Int, Int.reduceEq, eq_self, true_implies, false_implies, not_true_eq_false, not_false_eq_true, bc_vr, Int.reduceToNat, Int.toNat_natCast, Int.reduceLE, Int.reduceLT, Int.reduceNeg, true_or, or_true, forall_const, Int.reduceAdd, f5]
    repeat' (first | refine And.intro ?_ ?_ | intro _)
    all_goals first | omega | (refine k1 h1 h2 ?_; rw [pd_ob_iff]; omega) | (refine k0 ?_; rw [pd_ob_iff]; omega)
  · simp only [↓vl_iconst, ↓vl_bipush, ↓vl_sipush, ↓vl_lconst, ↓vl_ldc, ↓vl_ldcw, ↓vl_ldc2, ↓vl_iload0, ↓vl_aload0, ↓vl_istore0, ↓vl_iinc0, ↓vl_iload1, ↓vl_aload1, ↓vl_istore1, ↓vl_iinc1, ↓vl_iload2, ↓vl_aload2, ↓vl_istore2, ↓vl_iinc2, ↓vl_iload3, ↓vl_aload3, ↓vl_istore3, ↓vl_iinc3, ↓vl_iload4, ↓vl_istore4, ↓vl_iinc4, ↓vl_iload5, ↓vl_istore5, ↓vl_iinc5, ↓vl_iload6, ↓vl_istore6, ↓vl_iinc6, ↓vl_iload7, ↓vl_istore7, ↓vl_iinc7, ↓vl_lload5, ↓vl_lstore5, ↓vl_iadd, ↓vl_isub, ↓vl_imul, ↓vl_iand, ↓vl_ior, ↓vl_ixor, ↓vl_ishl, ↓vl_ishr, ↓vl_iushr, ↓vl_idiv, ↓vl_irem, ↓vl_ladd, ↓vl_lsub, ↓vl_lmul, ↓vl_lcmp, ↓vl_i2l, ↓vl_dup, ↓vl_dup2, ↓vl_gotoF, ↓vl_gotoB, ↓vl_nnF, ↓vl_ic_eqF, ↓vl_if_eqF, ↓vl_ic_eqB, ↓vl_if_eqB, ↓vl_ic_neF, ↓vl_if_neF, ↓vl_ic_neB, ↓vl_if_neB, ↓vl_ic_ltF, ↓vl_if_ltF, ↓vl_ic_ltB, ↓vl_if_ltB, ↓vl_ic_geF, ↓vl_if_geF, ↓vl_ic_geB, ↓vl_if_geB, ↓vl_ic_gtF, ↓vl_if_gtF, ↓vl_ic_gtB, ↓vl_if_gtB, ↓vl_ic_leF, ↓vl_if_leF, ↓vl_ic_leB, ↓vl_if_leB, ↓vl_sw, ↓vl_get, ↓vl_putI, ↓vl_putL, ↓vl_iald, ↓vl_iast, ↓vl_alen, ↓vl_aald, ↓vl_iretI, ↓vl_iretZ, ↓vl_ret, ↓vl_mark, ↓vl_markT, ↓vl_skip, ↓vl_st0, ↓vl_vi0, ↓vl_st1, ↓vl_vi1, ↓vl_st2, ↓vl_vi2, ↓vl_st3, ↓vl_vi3, ↓vl_st4, ↓vl_vi4, ↓vl_st5, ↓vl_vi5, ↓vl_st6, ↓vl_vi6, ↓vl_min, ↓vl_max, ↓vl_cpy, ↓vk_kvs, ↓vk_kvn, ↓vk_gf0, ↓vk_gv0, ↓vk_gv1, ↓vk_gv2, ↓vk_pf, ↓vk_ar, ↓vk_arr, bc_lay, bc_fn, bc_mk, bc_cs, bc_cat, bc_nl, bc_nth, bc_en, bc_sw, true_and, and_true, ↓reduceIte, reduceCtorEq, Nat.reduceEqDiff, Nat.reduceLeDiff, Nat.reduceAdd, Nat.le_refl, Nat.zero_le, Int.cast_ofNat_Int, Int.reduceEq, eq_self, true_implies, false_implies, not_true_eq_false, not_false_eq_true, bc_vr, Int.reduceToNat, Int.toNat_natCast, Int.reduceLE, Int.reduceLT, Int.reduceNeg, true_or, or_true, forall_const, Int.reduceAdd]
    repeat' (first | refine And.intro ?_ ?_ | intro _)
    all_goals first | omega | (refine k0 ?_; rw [pd_ob_iff]; omega)
theorem c1_isWilling (hC : pd_C 4 D h) (hV : pd_V D) {o m : Int} (ho : bc_vr o) (hm : bc_vr m) (k1 : 0 ≤ o → o < D 0 → pd_wb D m o.toNat = true → post (some (.inl 1)) h) (k0 : ¬ (0 ≤ o ∧ pd_wb D m o.toNat = true) → post (some (.inl 0)) h) : bc_OK (d + 3) 17 [.inr (.inr 4), .inl o, .inl m] h post := by
  refine bc_run (n := 3) ck_X1_isWilling rfl rfl rfl rfl (Nat.le_of_ble_eq_true rfl) ?_
  simp only [k_X1_isWilling, ↓vl_iconst, ↓vl_bipush, ↓vl_sipush, ↓vl_lconst, ↓vl_ldc, ↓vl_ldcw, ↓vl_ldc2, ↓vl_iload0, ↓vl_aload0, ↓vl_istore0, ↓vl_iinc0, ↓vl_iload1, ↓vl_aload1, ↓vl_istore1, ↓vl_iinc1, ↓vl_iload2, ↓vl_aload2, ↓vl_istore2, ↓vl_iinc2, ↓vl_iload3, ↓vl_aload3, ↓vl_istore3, ↓vl_iinc3, ↓vl_iload4, ↓vl_istore4, ↓vl_iinc4, ↓vl_iload5, ↓vl_istore5, ↓vl_iinc5, ↓vl_iload6, ↓vl_istore6, ↓vl_iinc6, ↓vl_iload7, ↓vl_istore7, ↓vl_iinc7, ↓vl_lload5, ↓vl_lstore5, ↓vl_iadd, ↓vl_isub, ↓vl_imul, ↓vl_iand, ↓vl_ior, ↓vl_ixor, ↓vl_ishl, ↓vl_ishr, ↓vl_iushr, ↓vl_idiv, ↓vl_irem, ↓vl_ladd, ↓vl_lsub, ↓vl_lmul, ↓vl_lcmp, ↓vl_i2l, ↓vl_dup, ↓vl_dup2, ↓vl_gotoF, ↓vl_gotoB, ↓vl_nnF, ↓vl_ic_eqF, ↓vl_if_eqF, ↓vl_ic_eqB, ↓vl_if_eqB, ↓vl_ic_neF, ↓vl_if_neF, ↓vl_ic_neB, ↓vl_if_neB, ↓vl_ic_ltF, ↓vl_if_ltF, ↓vl_ic_ltB, ↓vl_if_ltB, ↓vl_ic_geF, ↓vl_if_geF, ↓vl_ic_geB, ↓vl_if_geB, ↓vl_ic_gtF, ↓vl_if_gtF, ↓vl_ic_gtB, ↓vl_if_gtB, ↓vl_ic_leF, ↓vl_if_leF, ↓vl_ic_leB, ↓vl_if_leB, ↓vl_sw, ↓vl_get, ↓vl_putI, ↓vl_putL, ↓vl_iald, ↓vl_iast, ↓vl_alen, ↓vl_aald, ↓vl_iretI, ↓vl_iretZ, ↓vl_ret, ↓vl_mark, ↓vl_markT, ↓vl_skip, ↓vl_st0, ↓vl_vi0, ↓vl_st1, ↓vl_vi1, ↓vl_st2, ↓vl_vi2, ↓vl_st3, ↓vl_vi3, ↓vl_st4, ↓vl_vi4, ↓vl_st5, ↓vl_vi5, ↓vl_st6, ↓vl_vi6, ↓vl_min, ↓vl_max, ↓vl_cpy, ↓vk_kvs, ↓vk_kvn, ↓vk_gf0, ↓vk_gv0, ↓vk_gv1, ↓vk_gv2, ↓vk_pf, ↓vk_ar, ↓vk_arr, bc_lay, bc_fn, bc_mk, bc_cs, bc_cat, bc_nl, bc_nth, bc_en, bc_sw, true_and, and_true, ↓reduceIte, reduceCtorEq, Nat.reduceEqDiff, Nat.reduceLeDiff, Nat.reduceAdd, Nat.le_refl, Nat.zero_le, Int.cast_ofNat_Int, Int.reduceEq, eq_self, true_implies, false_implies, not_true_eq_false, not_false_eq_true, bc_vr, Int.reduceToNat, Int.toNat_natCast, Int.reduceLE, Int.reduceLT, Int.reduceNeg, true_or, or_true, forall_const, Int.reduceAdd]
  have v0 := hV.1
  refine c1_isOpen hC hV ho (fun h1 h2 hob => ?_) (fun h1 => ?_)
  · obtain ⟨f0, f1, f2, f3, f4, f5, -⟩ := pd_C_at hC h1 h2
    obtain ⟨r0, r1, r2, r3, -, r5, -⟩ := pd_V_at hV h1 h2
    simp only [↓vl_iconst, ↓vl_bipush, ↓vl_sipush, ↓vl_lconst, ↓vl_ldc, ↓vl_ldcw, ↓vl_ldc2, ↓vl_iload0, ↓vl_aload0, ↓vl_istore0, ↓vl_iinc0, ↓vl_iload1, ↓vl_aload1, ↓vl_istore1, ↓vl_iinc1, ↓vl_iload2, ↓vl_aload2, ↓vl_istore2, ↓vl_iinc2, ↓vl_iload3, ↓vl_aload3, ↓vl_istore3, ↓vl_iinc3, ↓vl_iload4, ↓vl_istore4, ↓vl_iinc4, ↓vl_iload5, ↓vl_istore5, ↓vl_iinc5, ↓vl_iload6, ↓vl_istore6, ↓vl_iinc6, ↓vl_iload7, ↓vl_istore7, ↓vl_iinc7, ↓vl_lload5, ↓vl_lstore5, ↓vl_iadd, ↓vl_isub, ↓vl_imul, ↓vl_iand, ↓vl_ior, ↓vl_ixor, ↓vl_ishl, ↓vl_ishr, ↓vl_iushr, ↓vl_idiv, ↓vl_irem, ↓vl_ladd, ↓vl_lsub, ↓vl_lmul, ↓vl_lcmp, ↓vl_i2l, ↓vl_dup, ↓vl_dup2, ↓vl_gotoF, ↓vl_gotoB, ↓vl_nnF, ↓vl_ic_eqF, ↓vl_if_eqF, ↓vl_ic_eqB, ↓vl_if_eqB, ↓vl_ic_neF, ↓vl_if_neF, ↓vl_ic_neB, ↓vl_if_neB, ↓vl_ic_ltF, ↓vl_if_ltF, ↓vl_ic_ltB, ↓vl_if_ltB, ↓vl_ic_geF, ↓vl_if_geF, ↓vl_ic_geB, ↓vl_if_geB, ↓vl_ic_gtF, ↓vl_if_gtF, ↓vl_ic_gtB, ↓vl_if_gtB, ↓vl_ic_leF, ↓vl_if_leF, ↓vl_ic_leB, ↓vl_if_leB, ↓vl_sw, ↓vl_get, ↓vl_putI, ↓vl_putL, ↓vl_iald, ↓vl_iast, ↓vl_alen, ↓vl_aald, ↓vl_iretI, ↓vl_iretZ, ↓vl_ret, ↓vl_mark, ↓vl_markT, ↓vl_skip, ↓vl_st0, ↓vl_vi0, ↓vl_st1, ↓vl_vi1, ↓vl_st2, ↓vl_vi2, ↓vl_st3, ↓vl_vi3, ↓vl_st4, ↓vl_vi4, ↓vl_st5, ↓vl_vi5, ↓vl_st6, ↓vl_vi6, ↓vl_min, ↓vl_max, ↓vl_cpy, ↓vk_kvs, ↓vk_kvn, ↓vk_gf0, ↓vk_gv0, ↓vk_gv1, ↓vk_gv2, ↓vk_pf, ↓vk_ar, ↓vk_arr, bc_lay, bc_fn, bc_mk, bc_cs, bc_cat, bc_nl, bc_nth, bc_en, bc_sw, true_and, and_true, ↓reduceIte, reduceCtorEq, Nat.reduceEqDiff, Nat.reduceLeDiff, Nat.reduceAdd, Nat.le_refl, Nat.zero_le, Int.cast_ofNat_Int, Int.reduceEq, eq_self, true_implies, false_implies, not_true_eq_false, not_false_eq_true, bc_vr, Int.reduceToNat, Int.toNat_natCast, Int.reduceLE, Int.reduceLT, Int.reduceNeg, true_or, or_true, forall_const, Int.reduceAdd, f0, f3]
    have hm1 := hm.1
    have hm2 := hm.2
    repeat' (first | refine And.intro ?_ ?_ | intro _)
    all_goals first | omega | (refine k1 h1 h2 ?_; rw [pd_wb_iff]; refine ⟨hob, ?_⟩; omega) | (refine k0 ?_; rw [pd_wb_iff]; omega)
  · simp only [↓vl_iconst, ↓vl_bipush, ↓vl_sipush, ↓vl_lconst, ↓vl_ldc, ↓vl_ldcw, ↓vl_ldc2, ↓vl_iload0, ↓vl_aload0, ↓vl_istore0, ↓vl_iinc0, ↓vl_iload1, ↓vl_aload1, ↓vl_istore1, ↓vl_iinc1, ↓vl_iload2, ↓vl_aload2, ↓vl_istore2, ↓vl_iinc2, ↓vl_iload3, ↓vl_aload3, ↓vl_istore3, ↓vl_iinc3, ↓vl_iload4, ↓vl_istore4, ↓vl_iinc4, ↓vl_iload5, ↓vl_istore5, ↓vl_iinc5, ↓vl_iload6, ↓vl_istore6, ↓vl_iinc6, ↓vl_iload7, ↓vl_istore7, ↓vl_iinc7, ↓vl_lload5, ↓vl_lstore5, ↓vl_iadd, ↓vl_isub, ↓vl_imul, ↓vl_iand, ↓vl_ior, ↓vl_ixor, ↓vl_ishl, ↓vl_ishr, ↓vl_iushr, ↓vl_idiv, ↓vl_irem, ↓vl_ladd, ↓vl_lsub, ↓vl_lmul, ↓vl_lcmp, ↓vl_i2l, ↓vl_dup, ↓vl_dup2, ↓vl_gotoF, ↓vl_gotoB, ↓vl_nnF, ↓vl_ic_eqF, ↓vl_if_eqF, ↓vl_ic_eqB, ↓vl_if_eqB, ↓vl_ic_neF, ↓vl_if_neF, ↓vl_ic_neB, ↓vl_if_neB, ↓vl_ic_ltF, ↓vl_if_ltF, ↓vl_ic_ltB, ↓vl_if_ltB, ↓vl_ic_geF, ↓vl_if_geF, ↓vl_ic_geB, ↓vl_if_geB, ↓vl_ic_gtF, ↓vl_if_gtF, ↓vl_ic_gtB, ↓vl_if_gtB, ↓vl_ic_leF, ↓vl_if_leF, ↓vl_ic_leB, ↓vl_if_leB, ↓vl_sw, ↓vl_get, ↓vl_putI, ↓vl_putL, ↓vl_iald, ↓vl_iast, ↓vl_alen, ↓vl_aald, ↓vl_iretI, ↓vl_iretZ, ↓vl_ret, ↓vl_mark, ↓vl_markT, ↓vl_skip, ↓vl_st0, ↓vl_vi0, ↓vl_st1, ↓vl_vi1, ↓vl_st2, ↓vl_vi2, ↓vl_st3, ↓vl_vi3, ↓vl_st4, ↓vl_vi4, ↓vl_st5, ↓vl_vi5, ↓vl_st6, ↓vl_vi6, ↓vl_min, ↓vl_max, ↓vl_cpy, ↓vk_kvs, ↓vk_kvn, ↓vk_gf0, ↓vk_gv0, ↓vk_gv1, ↓vk_gv2, ↓vk_pf, ↓vk_ar, ↓vk_arr, bc_lay, bc_fn, bc_mk, bc_cs, bc_cat, bc_nl, bc_nth, bc_en, bc_sw, true_and, and_true, ↓reduceIte, reduceCtorEq, Nat.reduceEqDiff, Nat.reduceLeDiff, Nat.reduceAdd, Nat.le_refl, Nat.zero_le, Int.cast_ofNat_Int, Int.reduceEq, eq_self, true_implies, false_implies, not_true_eq_false, not_false_eq_true, bc_vr, Int.reduceToNat, Int.toNat_natCast, Int.reduceLE, Int.reduceLT, Int.reduceNeg, true_or, or_true, forall_const, Int.reduceAdd]
    repeat' (first | refine And.intro ?_ ?_ | intro _)
    all_goals first | omega | (refine k0 ?_; rw [pd_wb_iff]; exact fun q => h1 ⟨q.1, q.2.1⟩)
/-- openOrders() -/
theorem l1_openOrders (hC : pd_C 4 D h) (hV : pd_V D) (k : post (some (.inl (pd_mask (pd_ob D) (D 0).toNat))) h) : ∀ (n i : Nat), (i : Int) + n = D 0 → bc_AT (d + 2) 18 post 4 [some (.inr (.inr 4)), some (.inl (pd_mask (pd_ob D) i)), some (.inl (i : Int))] [] h := by
  have v0 := hV.1
  have e0 := hC.1.1
  intro n
  induction n with
  | zero =>
    intro i hi
    refine bc_at ck_X1_openOrders ?_
    simp only [k_X1_openOrders, ↓vl_iconst, ↓vl_bipush, ↓vl_sipush, ↓vl_lconst, ↓vl_ldc, ↓vl_ldcw, ↓vl_ldc2, ↓vl_iload0, ↓vl_aload0, ↓vl_istore0, ↓vl_iinc0, ↓vl_iload1, ↓vl_aload1, ↓vl_istore1, ↓vl_iinc1, ↓vl_iload2, ↓vl_aload2, ↓vl_istore2, ↓vl_iinc2, ↓vl_iload3, ↓vl_aload3, ↓vl_istore3, ↓vl_iinc3, ↓vl_iload4, ↓vl_istore4, ↓vl_iinc4, ↓vl_iload5, ↓vl_istore5, ↓vl_iinc5, ↓vl_iload6, ↓vl_istore6, ↓vl_iinc6, ↓vl_iload7, ↓vl_istore7, ↓vl_iinc7, ↓vl_lload5, ↓vl_lstore5, ↓vl_iadd, ↓vl_isub, ↓vl_imul, ↓vl_iand, ↓vl_ior, ↓vl_ixor, ↓vl_ishl, ↓vl_ishr, ↓vl_iushr, ↓vl_idiv, ↓vl_irem, ↓vl_ladd, ↓vl_lsub, ↓vl_lmul, ↓vl_lcmp, ↓vl_i2l, ↓vl_dup, ↓vl_dup2, ↓vl_gotoF, ↓vl_gotoB, ↓vl_nnF, ↓vl_ic_eqF, ↓vl_if_eqF, ↓vl_ic_eqB, ↓vl_if_eqB, ↓vl_ic_neF, ↓vl_if_neF, ↓vl_ic_neB, ↓vl_if_neB, ↓vl_ic_ltF, ↓vl_if_ltF, ↓vl_ic_ltB, ↓vl_if_ltB, ↓vl_ic_geF, ↓vl_if_geF, ↓vl_ic_geB, ↓vl_if_geB, ↓vl_ic_gtF, ↓vl_if_gtF, ↓vl_ic_gtB, ↓vl_if_gtB, ↓vl_ic_leF, ↓vl_if_leF, ↓vl_ic_leB, ↓vl_if_leB, ↓vl_sw, ↓vl_get, ↓vl_putI, ↓vl_putL, ↓vl_iald, ↓vl_iast, ↓vl_alen, ↓vl_aald, ↓vl_iretI, ↓vl_iretZ, ↓vl_ret, ↓vl_mark, ↓vl_markT, ↓vl_skip, ↓vl_st0, ↓vl_vi0, ↓vl_st1, ↓vl_vi1, ↓vl_st2, ↓vl_vi2, ↓vl_st3, ↓vl_vi3, ↓vl_st4, ↓vl_vi4, ↓vl_st5, ↓vl_vi5, ↓vl_st6, ↓vl_vi6, ↓vl_min, ↓vl_max, ↓vl_cpy, ↓vk_kvs, ↓vk_kvn, ↓vk_gf0, ↓vk_gv0, ↓vk_gv1, ↓vk_gv2, ↓vk_pf, ↓vk_ar, ↓vk_arr, bc_lay, bc_fn, bc_mk, bc_cs, bc_cat, bc_nl, bc_nth, bc_en, bc_sw, true_and, and_true, ↓reduceIte, reduceCtorEq, Nat.reduceEqDiff, Nat.reduceLeDiff, Nat.reduceAdd, Nat.le_refl, Nat.zero_le, Int.cast_ofNat_Int, Int.reduceEq, eq_self, true_implies, false_implies, not_true_eq_false, not_false_eq_true, bc_vr, Int.reduceToNat, Int.toNat_natCast, Int.reduceLE, Int.reduceLT, Int.reduceNeg, true_or, or_true, forall_const, Int.reduceAdd, e0]
    repeat' (first | refine And.intro ?_ ?_ | intro _)
    all_goals first | omega | (have e : i = (D 0).toNat := by omega
                               rw [e]; exact k)
  | succ n ih =>
    intro i hi
    refine bc_at ck_X1_openOrders ?_
    simp only [k_X1_openOrders, ↓vl_iconst, ↓vl_bipush, ↓vl_sipush, ↓vl_lconst, ↓vl_ldc, ↓vl_ldcw, ↓vl_ldc2, ↓vl_iload0, ↓vl_aload0, ↓vl_istore0, ↓vl_iinc0, ↓vl_iload1, ↓vl_aload1, ↓vl_istore1, ↓vl_iinc1, ↓vl_iload2, ↓vl_aload2, ↓vl_istore2, ↓vl_iinc2, ↓vl_iload3, ↓vl_aload3, ↓vl_istore3, ↓vl_iinc3, ↓vl_iload4, ↓vl_istore4, ↓vl_iinc4, ↓vl_iload5, ↓vl_istore5, ↓vl_iinc5, ↓vl_iload6, ↓vl_istore6, ↓vl_iinc6, ↓vl_iload7, ↓vl_istore7, ↓vl_iinc7, ↓vl_lload5, ↓vl_lstore5, ↓vl_iadd, ↓vl_isub, ↓vl_imul, ↓vl_iand, ↓vl_ior, ↓vl_ixor, ↓vl_ishl, ↓vl_ishr, ↓vl_iushr, ↓vl_idiv, ↓vl_irem, ↓vl_ladd, ↓vl_lsub, ↓vl_lmul, ↓vl_lcmp, ↓vl_i2l, ↓vl_dup, ↓vl_dup2, ↓vl_gotoF, ↓vl_gotoB, ↓vl_nnF, ↓vl_ic_eqF, ↓vl_if_eqF, ↓vl_ic_eqB, ↓vl_if_eqB, ↓vl_ic_neF, ↓vl_if_neF, ↓vl_ic_neB, ↓vl_if_neB, ↓vl_ic_ltF, ↓vl_if_ltF, ↓vl_ic_ltB, ↓vl_if_ltB, ↓vl_ic_geF, ↓vl_if_geF, ↓vl_ic_geB, ↓vl_if_geB, ↓vl_ic_gtF, ↓vl_if_gtF, ↓vl_ic_gtB, ↓vl_if_gtB, ↓vl_ic_leF, ↓vl_if_leF, ↓vl_ic_leB, ↓vl_if_leB, ↓vl_sw, ↓vl_get, ↓vl_putI, ↓vl_putL, ↓vl_iald, ↓vl_iast, ↓vl_alen, ↓vl_aald, ↓vl_iretI, ↓vl_iretZ, ↓vl_ret, ↓vl_mark, ↓vl_markT, ↓vl_skip, ↓vl_st0, ↓vl_vi0, ↓vl_st1, ↓vl_vi1, ↓vl_st2, ↓vl_vi2, ↓vl_st3, ↓vl_vi3, ↓vl_st4, ↓vl_vi4, ↓vl_st5, ↓vl_vi5, ↓vl_st6, ↓vl_vi6, ↓vl_min, ↓vl_max, ↓vl_cpy, ↓vk_kvs, ↓vk_kvn, ↓vk_gf0, ↓vk_gv0, ↓vk_gv1, ↓vk_gv2, ↓vk_pf, ↓vk_ar, ↓vk_arr, bc_lay, bc_fn, bc_mk, bc_cs, bc_cat, bc_nl, bc_nth, bc_en, bc_sw, true_and, and_true, ↓reduceIte, reduceCtorEq, Nat.reduceEqDiff, Nat.reduceLeDiff, Nat.reduceAdd, Nat.le_refl, Nat.zero_le, Int.cast_ofNat_Int, Int.reduceEq, eq_self, true_implies, false_implies, not_true_eq_false, not_false_eq_true, bc_vr, Int.reduceToNat, Int.toNat_natCast, Int.reduceLE, Int.reduceLT, Int.reduceNeg, true_or, or_true, forall_const, Int.reduceAdd, e0]
    refine ⟨⟨by omega, by omega⟩, ⟨by omega, by omega⟩, fun c => absurd c (by omega), fun c => c1_isOpen hC hV ⟨by omega, by omega⟩ (fun h1 h2 hob => ?_) (fun hob => ?_)⟩
    · simp only [↓vl_iconst, ↓vl_bipush, ↓vl_sipush, ↓vl_lconst, ↓vl_ldc, ↓vl_ldcw, ↓vl_ldc2, ↓vl_iload0, ↓vl_aload0, ↓vl_istore0, ↓vl_iinc0, ↓vl_iload1, ↓vl_aload1, ↓vl_istore1, ↓vl_iinc1, ↓vl_iload2, ↓vl_aload2, ↓vl_istore2, ↓vl_iinc2, ↓vl_iload3, ↓vl_aload3, ↓vl_istore3, ↓vl_iinc3, ↓vl_iload4, ↓vl_istore4, ↓vl_iinc4, ↓vl_iload5, ↓vl_istore5, ↓vl_iinc5, ↓vl_iload6, ↓vl_istore6, ↓vl_iinc6, ↓vl_iload7, ↓vl_istore7, ↓vl_iinc7, ↓vl_lload5, ↓vl_lstore5, ↓vl_iadd, ↓vl_isub, ↓vl_imul, ↓vl_iand, ↓vl_ior, ↓vl_ixor, ↓vl_ishl, ↓vl_ishr, ↓vl_iushr, ↓vl_idiv, ↓vl_irem, ↓vl_ladd, ↓vl_lsub, ↓vl_lmul, ↓vl_lcmp, ↓vl_i2l, ↓vl_dup, ↓vl_dup2, ↓vl_gotoF, ↓vl_gotoB, ↓vl_nnF, ↓vl_ic_eqF, ↓vl_if_eqF, ↓vl_ic_eqB, ↓vl_if_eqB, ↓vl_ic_neF, ↓vl_if_neF, ↓vl_ic_neB, ↓vl_if_neB, ↓vl_ic_ltF, ↓vl_if_ltF, ↓vl_ic_ltB, ↓vl_if_ltB, ↓vl_ic_geF, ↓vl_if_geF, ↓vl_ic_geB, ↓vl_if_geB, ↓vl_ic_gtF, ↓vl_if_gtF, ↓vl_ic_gtB, ↓vl_if_gtB, ↓vl_ic_leF, ↓vl_if_leF, ↓vl_ic_leB, ↓vl_if_leB, ↓vl_sw, ↓vl_get, ↓vl_putI, ↓vl_putL, ↓vl_iald, ↓vl_iast, ↓vl_alen, ↓vl_aald, ↓vl_iretI, ↓vl_iretZ, ↓vl_ret, ↓vl_mark, ↓vl_markT, ↓vl_skip, ↓vl_st0, ↓vl_vi0, ↓vl_st1, ↓vl_vi1, ↓vl_st2, ↓vl_vi2, ↓vl_st3, ↓vl_vi3, ↓vl_st4, ↓vl_vi4, ↓vl_st5, ↓vl_vi5, ↓vl_st6, ↓vl_vi6, ↓vl_min, ↓vl_max, ↓vl_cpy, ↓vk_kvs, ↓vk_kvn, ↓vk_gf0, ↓vk_gv0, ↓vk_gv1, ↓vk_gv2, ↓vk_pf, ↓vk_ar, ↓vk_arr, bc_lay, bc_fn, bc_mk, bc_cs, bc_cat, bc_nl, bc_nth, bc_en, bc_sw, true_and, and_true, ↓reduceIte, reduceCtorEq, Nat.reduceEqDiff, Nat.reduceLeDiff, Nat.reduceAdd, Nat.le_refl, Nat.zero_le, Int.cast_ofNat_Int, Int.reduceEq, eq_self, true_implies, false_implies, not_true_eq_false, not_false_eq_true, bc_vr, Int.reduceToNat, Int.toNat_natCast, Int.reduceLE, Int.reduceLT, Int.reduceNeg, true_or, or_true, forall_const, Int.reduceAdd]
      have e : pd_mask (pd_ob D) (i + 1) = bc_or (pd_mask (pd_ob D) i) (bc_shl 1 i) := by
        rw [pd_mask, if_pos (by simpa using hob)]
      have := ih (i + 1) (by omega)
      rw [e] at this
      exact this
    · simp only [↓vl_iconst, ↓vl_bipush, ↓vl_sipush, ↓vl_lconst, ↓vl_ldc, ↓vl_ldcw, ↓vl_ldc2, ↓vl_iload0, ↓vl_aload0, ↓vl_istore0, ↓vl_iinc0, ↓vl_iload1, ↓vl_aload1, ↓vl_istore1, ↓vl_iinc1, ↓vl_iload2, ↓vl_aload2, ↓vl_istore2, ↓vl_iinc2, ↓vl_iload3, ↓vl_aload3, ↓vl_istore3, ↓vl_iinc3, ↓vl_iload4, ↓vl_istore4, ↓vl_iinc4, ↓vl_iload5, ↓vl_istore5, ↓vl_iinc5, ↓vl_iload6, ↓vl_istore6, ↓vl_iinc6, ↓vl_iload7, ↓vl_istore7, ↓vl_iinc7, ↓vl_lload5, ↓vl_lstore5, ↓vl_iadd, ↓vl_isub, ↓vl_imul, ↓vl_iand, ↓vl_ior, ↓vl_ixor, ↓vl_ishl, ↓vl_ishr, ↓vl_iushr, ↓vl_idiv, ↓vl_irem, ↓vl_ladd, ↓vl_lsub, ↓vl_lmul, ↓vl_lcmp, ↓vl_i2l, ↓vl_dup, ↓vl_dup2, ↓vl_gotoF, ↓vl_gotoB, ↓vl_nnF, ↓vl_ic_eqF, ↓vl_if_eqF, ↓vl_ic_eqB, ↓vl_if_eqB, ↓vl_ic_neF, ↓vl_if_neF, ↓vl_ic_neB, ↓vl_if_neB, ↓vl_ic_ltF, ↓vl_if_ltF, ↓vl_ic_ltB, ↓vl_if_ltB, ↓vl_ic_geF, ↓vl_if_geF, ↓vl_ic_geB, ↓vl_if_geB, ↓vl_ic_gtF, ↓vl_if_gtF, ↓vl_ic_gtB, ↓vl_if_gtB, ↓vl_ic_leF, ↓vl_if_leF, ↓vl_ic_leB, ↓vl_if_leB, ↓vl_sw, ↓vl_get, ↓vl_putI, ↓vl_putL, ↓vl_iald, ↓vl_iast, ↓vl_alen, ↓vl_aald, ↓vl_iretI, ↓vl_iretZ, ↓vl_ret, ↓vl_mark, ↓vl_markT, ↓vl_skip, ↓vl_st0, ↓vl_vi0, ↓vl_st1, ↓vl_vi1, ↓vl_st2, ↓vl_vi2, ↓vl_st3, ↓vl_vi3, ↓vl_st4, ↓vl_vi4, ↓vl_st5, ↓vl_vi5, ↓vl_st6, ↓vl_vi6, ↓vl_min, ↓vl_max, ↓vl_cpy, ↓vk_kvs, ↓vk_kvn, ↓vk_gf0, ↓vk_gv0, ↓vk_gv1, ↓vk_gv2, ↓vk_pf, ↓vk_ar, ↓vk_arr, bc_lay, bc_fn, bc_mk, bc_cs, bc_cat, bc_nl, bc_nth, bc_en, bc_sw, true_and, and_true, ↓reduceIte, reduceCtorEq, Nat.reduceEqDiff, Nat.reduceLeDiff, Nat.reduceAdd, Nat.le_refl, Nat.zero_le, Int.cast_ofNat_Int, Int.reduceEq, eq_self, true_implies, false_implies, not_true_eq_false, not_false_eq_true, bc_vr, Int.reduceToNat, Int.toNat_natCast, Int.reduceLE, Int.reduceLT, Int.reduceNeg, true_or, or_true, forall_const, Int.reduceAdd]
      have e : pd_mask (pd_ob D) (i + 1) = pd_mask (pd_ob D) i := by
        rw [pd_mask, if_neg (by intro q; exact hob ⟨by omega, by simpa using q⟩)]
      have := ih (i + 1) (by omega)
      rw [e] at this
      exact this
theorem c1_openOrders (hC : pd_C 4 D h) (hV : pd_V D) (k : post (some (.inl (pd_mask (pd_ob D) (D 0).toNat))) h) : bc_OK (d + 3) 18 [.inr (.inr 4)] h post := by
  refine bc_run (n := 3) ck_X1_openOrders rfl rfl rfl rfl (Nat.le_of_ble_eq_true rfl) ?_
  simp only [k_X1_openOrders, ↓vl_iconst, ↓vl_bipush, ↓vl_sipush, ↓vl_lconst, ↓vl_ldc, ↓vl_ldcw, ↓vl_ldc2, ↓vl_iload0, ↓vl_aload0, ↓vl_istore0, ↓vl_iinc0, ↓vl_iload1, ↓vl_aload1, ↓vl_istore1, ↓vl_iinc1, ↓vl_iload2, ↓vl_aload2, ↓vl_istore2, ↓vl_iinc2, ↓vl_iload3, ↓vl_aload3, ↓vl_istore3, ↓vl_iinc3, ↓vl_iload4, ↓vl_istore4, ↓vl_iinc4, ↓vl_iload5, ↓vl_istore5, ↓vl_iinc5, ↓vl_iload6, ↓vl_istore6, ↓vl_iinc6, ↓vl_iload7, ↓vl_istore7, ↓vl_iinc7, ↓vl_lload5, ↓vl_lstore5, ↓vl_iadd, ↓vl_isub, ↓vl_imul, ↓vl_iand, ↓vl_ior, ↓vl_ixor, ↓vl_ishl, ↓vl_ishr, ↓vl_iushr, ↓vl_idiv, ↓vl_irem, ↓vl_ladd, ↓vl_lsub, ↓vl_lmul, ↓vl_lcmp, ↓vl_i2l, ↓vl_dup, ↓vl_dup2, ↓vl_gotoF, ↓vl_gotoB, ↓vl_nnF, ↓vl_ic_eqF, ↓vl_if_eqF, ↓vl_ic_eqB, ↓vl_if_eqB, ↓vl_ic_neF, ↓vl_if_neF, ↓vl_ic_neB, ↓vl_if_neB, ↓vl_ic_ltF, ↓vl_if_ltF, ↓vl_ic_ltB, ↓vl_if_ltB, ↓vl_ic_geF, ↓vl_if_geF, ↓vl_ic_geB, ↓vl_if_geB, ↓vl_ic_gtF, ↓vl_if_gtF, ↓vl_ic_gtB, ↓vl_if_gtB, ↓vl_ic_leF, ↓vl_if_leF, ↓vl_ic_leB, ↓vl_if_leB, ↓vl_sw, ↓vl_get, ↓vl_putI, ↓vl_putL, ↓vl_iald, ↓vl_iast, ↓vl_alen, ↓vl_aald, ↓vl_iretI, ↓vl_iretZ, ↓vl_ret, ↓vl_mark, ↓vl_markT, ↓vl_skip, ↓vl_st0, ↓vl_vi0, ↓vl_st1, ↓vl_vi1, ↓vl_st2, ↓vl_vi2, ↓vl_st3, ↓vl_vi3, ↓vl_st4, ↓vl_vi4, ↓vl_st5, ↓vl_vi5, ↓vl_st6, ↓vl_vi6, ↓vl_min, ↓vl_max, ↓vl_cpy, ↓vk_kvs, ↓vk_kvn, ↓vk_gf0, ↓vk_gv0, ↓vk_gv1, ↓vk_gv2, ↓vk_pf, ↓vk_ar, ↓vk_arr, bc_lay, bc_fn, bc_mk, bc_cs, bc_cat, bc_nl, bc_nth, bc_en, bc_sw, true_and, and_true, ↓reduceIte, reduceCtorEq, Nat.reduceEqDiff, Nat.reduceLeDiff, Nat.reduceAdd, Nat.le_refl, Nat.zero_le, Int.cast_ofNat_Int, Int.reduceEq, eq_self, true_implies, false_implies, not_true_eq_false, not_false_eq_true, bc_vr, Int.reduceToNat, Int.toNat_natCast, Int.reduceLE, Int.reduceLT, Int.reduceNeg, true_or, or_true, forall_const, Int.reduceAdd]
  have v0 := hV.1
  exact l1_openOrders hC hV k (D 0).toNat 0 (by omega)
theorem l1_willingOrders {m : Int} (hm : bc_vr m) (hC : pd_C 4 D h) (hV : pd_V D) (k : post (some (.inl (pd_mask (pd_wb D m) (D 0).toNat))) h) : ∀ (n i : Nat), (i : Int) + n = D 0 → bc_AT (d + 3) 19 post 4 [some (.inr (.inr 4)), some (.inl m), some (.inl (pd_mask (pd_wb D m) i)), some (.inl (i : Int))] [] h := by
  have v0 := hV.1
  have e0 := hC.1.1
  intro n
  induction n with
  | zero =>
    intro i hi
    refine bc_at ck_X1_willingOrders ?_
    simp only [k_X1_willingOrders, ↓vl_iconst, ↓vl_bipush, ↓vl_sipush, ↓vl_lconst, ↓vl_ldc, ↓vl_ldcw, ↓vl_ldc2, ↓vl_iload0, ↓vl_aload0, ↓vl_istore0, ↓vl_iinc0, ↓vl_iload1, ↓vl_aload1, ↓vl_istore1, ↓vl_iinc1, ↓vl_iload2, ↓vl_aload2, ↓vl_istore2, ↓vl_iinc2, ↓vl_iload3, ↓vl_aload3, ↓vl_istore3, ↓vl_iinc3, ↓vl_iload4, ↓vl_istore4, ↓vl_iinc4, ↓vl_iload5, ↓vl_istore5, ↓vl_iinc5, ↓vl_iload6, ↓vl_istore6, ↓vl_iinc6, ↓vl_iload7, ↓vl_istore7, ↓vl_iinc7, ↓vl_lload5, ↓vl_lstore5, ↓vl_iadd, ↓vl_isub, ↓vl_imul, ↓vl_iand, ↓vl_ior, ↓vl_ixor, ↓vl_ishl, ↓vl_ishr, ↓vl_iushr, ↓vl_idiv, ↓vl_irem, ↓vl_ladd, ↓vl_lsub, ↓vl_lmul, ↓vl_lcmp, ↓vl_i2l, ↓vl_dup, ↓vl_dup2, ↓vl_gotoF, ↓vl_gotoB, ↓vl_nnF, ↓vl_ic_eqF, ↓vl_if_eqF, ↓vl_ic_eqB, ↓vl_if_eqB, ↓vl_ic_neF, ↓vl_if_neF, ↓vl_ic_neB, ↓vl_if_neB, ↓vl_ic_ltF, ↓vl_if_ltF, ↓vl_ic_ltB, ↓vl_if_ltB, ↓vl_ic_geF, ↓vl_if_geF, ↓vl_ic_geB, ↓vl_if_geB, ↓vl_ic_gtF, ↓vl_if_gtF, ↓vl_ic_gtB, ↓vl_if_gtB, ↓vl_ic_leF, ↓vl_if_leF, ↓vl_ic_leB, ↓vl_if_leB, ↓vl_sw, ↓vl_get, ↓vl_putI, ↓vl_putL, ↓vl_iald, ↓vl_iast, ↓vl_alen, ↓vl_aald, ↓vl_iretI, ↓vl_iretZ, ↓vl_ret, ↓vl_mark, ↓vl_markT, ↓vl_skip, ↓vl_st0, ↓vl_vi0, ↓vl_st1, ↓vl_vi1, ↓vl_st2, ↓vl_vi2, ↓vl_st3, ↓vl_vi3, ↓vl_st4, ↓vl_vi4, ↓vl_st5, ↓vl_vi5, ↓vl_st6, ↓vl_vi6, ↓vl_min, ↓vl_max, ↓vl_cpy, ↓vk_kvs, ↓vk_kvn, ↓vk_gf0, ↓vk_gv0, ↓vk_gv1, ↓vk_gv2, ↓vk_pf, ↓vk_ar, ↓vk_arr, bc_lay, bc_fn, bc_mk, bc_cs, bc_cat, bc_nl, bc_nth, bc_en, bc_sw, true_and, and_true, ↓reduceIte, reduceCtorEq, Nat.reduceEqDiff, Nat.reduceLeDiff, Nat.reduceAdd, Nat.le_refl, Nat.zero_le, Int.cast_ofNat_Int, Int.reduceEq, eq_self, true_implies, false_implies, not_true_eq_false, not_false_eq_true, bc_vr, Int.reduceToNat, Int.toNat_natCast, Int.reduceLE, Int.reduceLT, Int.reduceNeg, true_or, or_true, forall_const, Int.reduceAdd, e0]
    repeat' (first | refine And.intro ?_ ?_ | intro _)
    all_goals first | omega | (have e : i = (D 0).toNat := by omega
                               rw [e]; exact k)
  | succ n ih =>
    intro i hi
    refine bc_at ck_X1_willingOrders ?_
    simp only [k_X1_willingOrders, ↓vl_iconst, ↓vl_bipush, ↓vl_sipush, ↓vl_lconst, ↓vl_ldc, ↓vl_ldcw, ↓vl_ldc2, ↓vl_iload0, ↓vl_aload0, ↓vl_istore0, ↓vl_iinc0, ↓vl_iload1, ↓vl_aload1, ↓vl_istore1, ↓vl_iinc1, ↓vl_iload2, ↓vl_aload2, ↓vl_istore2, ↓vl_iinc2, ↓vl_iload3, ↓vl_aload3, ↓vl_istore3, ↓vl_iinc3, ↓vl_iload4, ↓vl_istore4, ↓vl_iinc4, ↓vl_iload5, ↓vl_istore5, ↓vl_iinc5, ↓vl_iload6, ↓vl_istore6, ↓vl_iinc6, ↓vl_iload7, ↓vl_istore7, ↓vl_iinc7, ↓vl_lload5, ↓vl_lstore5, ↓vl_iadd, ↓vl_isub, ↓vl_imul, ↓vl_iand, ↓vl_ior, ↓vl_ixor, ↓vl_ishl, ↓vl_ishr, ↓vl_iushr, ↓vl_idiv, ↓vl_irem, ↓vl_ladd, ↓vl_lsub, ↓vl_lmul, ↓vl_lcmp, ↓vl_i2l, ↓vl_dup, ↓vl_dup2, ↓vl_gotoF, ↓vl_gotoB, ↓vl_nnF, ↓vl_ic_eqF, ↓vl_if_eqF, ↓vl_ic_eqB, ↓vl_if_eqB, ↓vl_ic_neF, ↓vl_if_neF, ↓vl_ic_neB, ↓vl_if_neB, ↓vl_ic_ltF, ↓vl_if_ltF, ↓vl_ic_ltB, ↓vl_if_ltB, ↓vl_ic_geF, ↓vl_if_geF, ↓vl_ic_geB, ↓vl_if_geB, ↓vl_ic_gtF, ↓vl_if_gtF, ↓vl_ic_gtB, ↓vl_if_gtB, ↓vl_ic_leF, ↓vl_if_leF, ↓vl_ic_leB, ↓vl_if_leB, ↓vl_sw, ↓vl_get, ↓vl_putI, ↓vl_putL, ↓vl_iald, ↓vl_iast, ↓vl_alen, ↓vl_aald, ↓vl_iretI, ↓vl_iretZ, ↓vl_ret, ↓vl_mark, ↓vl_markT, ↓vl_skip, ↓vl_st0, ↓vl_vi0, ↓vl_st1, ↓vl_vi1, ↓vl_st2, ↓vl_vi2, ↓vl_st3, ↓vl_vi3, ↓vl_st4, ↓vl_vi4, ↓vl_st5, ↓vl_vi5, ↓vl_st6, ↓vl_vi6, ↓vl_min, ↓vl_max, ↓vl_cpy, ↓vk_kvs, ↓vk_kvn, ↓vk_gf0, ↓vk_gv0, ↓vk_gv1, ↓vk_gv2, ↓vk_pf, ↓vk_ar, ↓vk_arr, bc_lay, bc_fn, bc_mk, bc_cs, bc_cat, bc_nl, bc_nth, bc_en, bc_sw, true_and, and_true, ↓reduceIte, reduceCtorEq, Nat.reduceEqDiff, Nat.reduceLeDiff, Nat.reduceAdd, Nat.le_refl, Nat.zero_le, Int.cast_ofNat_Int, Int.reduceEq, eq_self, true_implies, false_implies, not_true_eq_false, not_false_eq_true, bc_vr, Int.reduceToNat, Int.toNat_natCast, Int.reduceLE, Int.reduceLT, Int.reduceNeg, true_or, or_true, forall_const, Int.reduceAdd, e0]
    refine ⟨⟨by omega, by omega⟩, ⟨by omega, by omega⟩, fun c => absurd c (by omega), fun c => c1_isWilling hC hV ⟨by omega, by omega⟩ hm (fun h1 h2 hob => ?_) (fun hob => ?_)⟩
    · simp only [↓vl_iconst, ↓vl_bipush, ↓vl_sipush, ↓vl_lconst, ↓vl_ldc, ↓vl_ldcw, ↓vl_ldc2, ↓vl_iload0, ↓vl_aload0, ↓vl_istore0, ↓vl_iinc0, ↓vl_iload1, ↓vl_aload1, ↓vl_istore1, ↓vl_iinc1, ↓vl_iload2, ↓vl_aload2, ↓vl_istore2, ↓vl_iinc2, ↓vl_iload3, ↓vl_aload3, ↓vl_istore3, ↓vl_iinc3, ↓vl_iload4, ↓vl_istore4, ↓vl_iinc4, ↓vl_iload5, ↓vl_istore5, ↓vl_iinc5, ↓vl_iload6, ↓vl_istore6, ↓vl_iinc6, ↓vl_iload7, ↓vl_istore7, ↓vl_iinc7, ↓vl_lload5, ↓vl_lstore5, ↓vl_iadd, ↓vl_isub, ↓vl_imul, ↓vl_iand, ↓vl_ior, ↓vl_ixor, ↓vl_ishl, ↓vl_ishr, ↓vl_iushr, ↓vl_idiv, ↓vl_irem, ↓vl_ladd, ↓vl_lsub, ↓vl_lmul, ↓vl_lcmp, ↓vl_i2l, ↓vl_dup, ↓vl_dup2, ↓vl_gotoF, ↓vl_gotoB, ↓vl_nnF, ↓vl_ic_eqF, ↓vl_if_eqF, ↓vl_ic_eqB, ↓vl_if_eqB, ↓vl_ic_neF, ↓vl_if_neF, ↓vl_ic_neB, ↓vl_if_neB, ↓vl_ic_ltF, ↓vl_if_ltF, ↓vl_ic_ltB, ↓vl_if_ltB, ↓vl_ic_geF, ↓vl_if_geF, ↓vl_ic_geB, ↓vl_if_geB, ↓vl_ic_gtF, ↓vl_if_gtF, ↓vl_ic_gtB, ↓vl_if_gtB, ↓vl_ic_leF, ↓vl_if_leF, ↓vl_ic_leB, ↓vl_if_leB, ↓vl_sw, ↓vl_get, ↓vl_putI, ↓vl_putL, ↓vl_iald, ↓vl_iast, ↓vl_alen, ↓vl_aald, ↓vl_iretI, ↓vl_iretZ, ↓vl_ret, ↓vl_mark, ↓vl_markT, ↓vl_skip, ↓vl_st0, ↓vl_vi0, ↓vl_st1, ↓vl_vi1, ↓vl_st2, ↓vl_vi2, ↓vl_st3, ↓vl_vi3, ↓vl_st4, ↓vl_vi4, ↓vl_st5, ↓vl_vi5, ↓vl_st6, ↓vl_vi6, ↓vl_min, ↓vl_max, ↓vl_cpy, ↓vk_kvs, ↓vk_kvn, ↓vk_gf0, ↓vk_gv0, ↓vk_gv1, ↓vk_gv2, ↓vk_pf, ↓vk_ar, ↓vk_arr, bc_lay, bc_fn, bc_mk, bc_cs, bc_cat, bc_nl, bc_nth, bc_en, bc_sw, true_and, and_true, ↓reduceIte, reduceCtorEq, Nat.reduceEqDiff, Nat.reduceLeDiff, Nat.reduceAdd, Nat.le_refl, Nat.zero_le, Int.cast_ofNat_Int, Int.reduceEq, eq_self, true_implies, false_implies, not_true_eq_false, not_false_eq_true, bc_vr, Int.reduceToNat, Int.toNat_natCast, Int.reduceLE, Int.reduceLT, Int.reduceNeg, true_or, or_true, forall_const, Int.reduceAdd]
      have e : pd_mask (pd_wb D m) (i + 1) = bc_or (pd_mask (pd_wb D m) i) (bc_shl 1 i) := by
        rw [pd_mask, if_pos (by simpa using hob)]
      have := ih (i + 1) (by omega)
      rw [e] at this
      exact this
    · simp only [↓vl_iconst, ↓vl_bipush, ↓vl_sipush, ↓vl_lconst, ↓vl_ldc, ↓vl_ldcw, ↓vl_ldc2, ↓vl_iload0, ↓vl_aload0, ↓vl_istore0, ↓vl_iinc0, ↓vl_iload1, ↓vl_aload1, ↓vl_istore1, ↓vl_iinc1, ↓vl_iload2, ↓vl_aload2, ↓vl_istore2, ↓vl_iinc2, ↓vl_iload3, ↓vl_aload3, ↓vl_istore3, ↓vl_iinc3, ↓vl_iload4, ↓vl_istore4, ↓vl_iinc4, ↓vl_iload5, ↓vl_istore5, ↓vl_iinc5, ↓vl_iload6, ↓vl_istore6, ↓vl_iinc6, ↓vl_iload7, ↓vl_istore7, ↓vl_iinc7, ↓vl_lload5, ↓vl_lstore5, ↓vl_iadd, ↓vl_isub, ↓vl_imul, ↓vl_iand, ↓vl_ior, ↓vl_ixor, ↓vl_ishl, ↓vl_ishr, ↓vl_iushr, ↓vl_idiv, ↓vl_irem, ↓vl_ladd, ↓vl_lsub, ↓vl_lmul, ↓vl_lcmp, ↓vl_i2l, ↓vl_dup, ↓vl_dup2, ↓vl_gotoF, ↓vl_gotoB, ↓vl_nnF, ↓vl_ic_eqF, ↓vl_if_eqF, ↓vl_ic_eqB, ↓vl_if_eqB, ↓vl_ic_neF, ↓vl_if_neF, ↓vl_ic_neB, ↓vl_if_neB, ↓vl_ic_ltF, ↓vl_if_ltF, ↓vl_ic_ltB, ↓vl_if_ltB, ↓vl_ic_geF, ↓vl_if_geF, ↓vl_ic_geB, ↓vl_if_geB, ↓vl_ic_gtF, ↓vl_if_gtF, ↓vl_ic_gtB, ↓vl_if_gtB, ↓vl_ic_leF, ↓vl_if_leF, ↓vl_ic_leB, ↓vl_if_leB, ↓vl_sw, ↓vl_get, ↓vl_putI, ↓vl_putL, ↓vl_iald, ↓vl_iast, ↓vl_alen, ↓vl_aald, ↓vl_iretI, ↓vl_iretZ, ↓vl_ret, ↓vl_mark, ↓vl_markT, ↓vl_skip, ↓vl_st0, ↓vl_vi0, ↓vl_st1, ↓vl_vi1, ↓vl_st2, ↓vl_vi2, ↓vl_st3, ↓vl_vi3, ↓vl_st4, ↓vl_vi4, ↓vl_st5, ↓vl_vi5, ↓vl_st6, ↓vl_vi6, ↓vl_min, ↓vl_max, ↓vl_cpy, ↓vk_kvs, ↓vk_kvn, ↓vk_gf0, ↓vk_gv0, ↓vk_gv1, ↓vk_gv2, ↓vk_pf, ↓vk_ar, ↓vk_arr, bc_lay, bc_fn, bc_mk, bc_cs, bc_cat, bc_nl, bc_nth, bc_en, bc_sw, true_and, and_true, ↓reduceIte, reduceCtorEq, Nat.reduceEqDiff, Nat.reduceLeDiff, Nat.reduceAdd, Nat.le_refl, Nat.zero_le, Int.cast_ofNat_Int, Int.reduceEq, eq_self, true_implies, false_implies, not_true_eq_false, not_false_eq_true, bc_vr, Int.reduceToNat, Int.toNat_natCast, Int.reduceLE, Int.reduceLT, Int.reduceNeg, true_or, or_true, forall_const, Int.reduceAdd]
      have e : pd_mask (pd_wb D m) (i + 1) = pd_mask (pd_wb D m) i := by
        rw [pd_mask, if_neg (by intro q; exact hob ⟨by omega, by simpa using q⟩)]
      have := ih (i + 1) (by omega)
      rw [e] at this
      exact this
theorem c1_willingOrders {m : Int} (hm : bc_vr m) (hC : pd_C 4 D h) (hV : pd_V D) (k : post (some (.inl (pd_mask (pd_wb D m) (D 0).toNat))) h) : bc_OK (d + 4) 19 [.inr (.inr 4), .inl m] h post := by
  refine bc_run (n := 4) ck_X1_willingOrders rfl rfl rfl rfl (Nat.le_of_ble_eq_true rfl) ?_
  simp only [k_X1_willingOrders, ↓vl_iconst, ↓vl_bipush, ↓vl_sipush, ↓vl_lconst, ↓vl_ldc, ↓vl_ldcw, ↓vl_ldc2, ↓vl_iload0, ↓vl_aload0, ↓vl_istore0, ↓vl_iinc0, ↓vl_iload1, ↓vl_aload1, ↓vl_istore1, ↓vl_iinc1, ↓vl_iload2, ↓vl_aload2, ↓vl_istore2, ↓vl_iinc2, ↓vl_iload3, ↓vl_aload3, ↓vl_istore3, ↓vl_iinc3, ↓vl_iload4, ↓vl_istore4, ↓vl_iinc4, ↓vl_iload5, ↓vl_istore5, ↓vl_iinc5, ↓vl_iload6, ↓vl_istore6, ↓vl_iinc6, ↓vl_iload7, ↓vl_istore7, ↓vl_iinc7, ↓vl_lload5, ↓vl_lstore5, ↓vl_iadd, ↓vl_isub, ↓vl_imul, ↓vl_iand, ↓vl_ior, ↓vl_ixor, ↓vl_ishl, ↓vl_ishr, ↓vl_iushr, ↓vl_idiv, ↓vl_irem, ↓vl_ladd, ↓vl_lsub, ↓vl_lmul, ↓vl_lcmp, ↓vl_i2l, ↓vl_dup, ↓vl_dup2, ↓vl_gotoF, ↓vl_gotoB, ↓vl_nnF, ↓vl_ic_eqF, ↓vl_if_eqF, ↓vl_ic_eqB, ↓vl_if_eqB, ↓vl_ic_neF, ↓vl_if_neF, ↓vl_ic_neB, ↓vl_if_neB, ↓vl_ic_ltF, ↓vl_if_ltF, ↓vl_ic_ltB, ↓vl_if_ltB, ↓vl_ic_geF, ↓vl_if_geF, ↓vl_ic_geB, ↓vl_if_geB, ↓vl_ic_gtF, ↓vl_if_gtF, ↓vl_ic_gtB, ↓vl_if_gtB, ↓vl_ic_leF, ↓vl_if_leF, ↓vl_ic_leB, ↓vl_if_leB, ↓vl_sw, ↓vl_get, ↓vl_putI, ↓vl_putL, ↓vl_iald, ↓vl_iast, ↓vl_alen, ↓vl_aald, ↓vl_iretI, ↓vl_iretZ, ↓vl_ret, ↓vl_mark, ↓vl_markT, ↓vl_skip, ↓vl_st0, ↓vl_vi0, ↓vl_st1, ↓vl_vi1, ↓vl_st2, ↓vl_vi2, ↓vl_st3, ↓vl_vi3, ↓vl_st4, ↓vl_vi4, ↓vl_st5, ↓vl_vi5, ↓vl_st6, ↓vl_vi6, ↓vl_min, ↓vl_max, ↓vl_cpy, ↓vk_kvs, ↓vk_kvn, ↓vk_gf0, ↓vk_gv0, ↓vk_gv1, ↓vk_gv2, ↓vk_pf, ↓vk_ar, ↓vk_arr, bc_lay, bc_fn, bc_mk, bc_cs, bc_cat, bc_nl, bc_nth, bc_en, bc_sw, true_and, and_true, ↓reduceIte, reduceCtorEq, Nat.reduceEqDiff, Nat.reduceLeDiff, Nat.reduceAdd, Nat.le_refl, Nat.zero_le, Int.cast_ofNat_Int, Int.reduceEq, eq_self, true_implies, false_implies, not_true_eq_false, not_false_eq_true, bc_vr, Int.reduceToNat, Int.toNat_natCast, Int.reduceLE, Int.reduceLT, Int.reduceNeg, true_or, or_true, forall_const, Int.reduceAdd]
  have v0 := hV.1
  exact l1_willingOrders hm hC hV k (D 0).toNat 0 (by omega)
end Desk
end
section
/-! PURE: rank, lists of orders by rank -/
def pd_sz (D : Nat → Int) (o : Nat) : Int := D (7 + 9 * o + 1)
def pd_ah (D : Nat → Int) (a b : Nat) : Bool := decide (pd_sz D b < pd_sz D a) || (decide (pd_sz D a = pd_sz D b) && decide (a < b))
theorem pd_ah_iff {D : Nat → Int} {a b : Nat} : pd_ah D a b = true ↔ pd_sz D b < pd_sz D a ∨ (pd_sz D a = pd_sz D b ∧ a < b) := by simp [pd_ah]
theorem pd_ah_trans {D : Nat → Int} {a b c : Nat} (h1 : pd_ah D a b = true) (h2 : pd_ah D b c = true) : pd_ah D a c = true := by
  rw [pd_ah_iff] at *
  omega
theorem pd_ah_asymm {D : Nat → Int} {a b : Nat} (h1 : pd_ah D a b = true) : ¬ pd_ah D b a = true := by
  rw [pd_ah_iff] at *
  omega
theorem pd_ah_irr {D : Nat → Int} {a : Nat} : ¬ pd_ah D a a = true := by
  rw [pd_ah_iff]
  omega
theorem pd_ah_total {D : Nat → Int} {a b : Nat} (h : a ≠ b) (h1 : ¬ pd_ah D a b = true) : pd_ah D b a = true := by
  rw [pd_ah_iff] at *
  omega
def pd_ins (D : Nat → Int) (o : Nat) : List Nat → List Nat
  | [] => [o]
  | x :: r => if pd_ah D o x then o :: x :: r else x :: pd_ins D o r
def pd_rk (D : Nat → Int) (p : Nat → Bool) : Nat → List Nat
  | 0 => []
  | i + 1 => if p i then pd_ins D i (pd_rk D p i) else pd_rk D p i
theorem pd_ins_mem {D : Nat → Int} {o x : Nat} : ∀ l : List Nat, x ∈ pd_ins D o l ↔ x = o ∨ x ∈ l := by
  intro l
  induction l with
  | nil => simp [pd_ins]
  | cons a r ih =>
    rw [pd_ins]
    split
    · simp
    · rw [List.mem_cons, ih, List.mem_cons]
      constructor
      · rintro (h | h | h)
        · exact Or.inr (Or.inl h)
        · exact Or.inl h
        · exact Or.inr (Or.inr h)
      · rintro (h | h | h)
        · exact Or.inr (Or.inl h)
        · exact Or.inl h
        · exact Or.inr (Or.inr h)
theorem pd_rk_mem {D : Nat → Int} {p : Nat → Bool} {x : Nat} : ∀ n, x ∈ pd_rk D p n ↔ x < n ∧ p x = true := by
  intro n
  induction n with
  | zero => simp [pd_rk]
  | succ n ih =>
    rw [pd_rk]
    by_cases hp : p n = true
    · rw [if_pos hp, pd_ins_mem, ih]
      constructor
      · rintro (h | h)
        · subst h; exact ⟨by omega, hp⟩
        · exact ⟨by omega, h.2⟩
      · intro h
        by_cases hx : x = n
        · exact Or.inl hx
        · exact Or.inr ⟨by omega, h.2⟩
    · rw [if_neg hp, ih]
      constructor
      · intro h; exact ⟨by omega, h.2⟩
      · intro h
        by_cases hx : x = n
        · subst hx; exact absurd h.2 hp
        · exact ⟨by omega, h.2⟩
theorem pd_ins_sorted {D : Nat → Int} {o : Nat} : ∀ l : List Nat, o ∉ l → l.Pairwise (fun a b => pd_ah D a b = true) → (pd_ins D o l).Pairwise (fun a b => pd_ah D a b = true) := by
  intro l
  induction l with
  | nil => intro _ _; simp [pd_ins]
  | cons a r ih =>
    intro ho hs
    rw [List.pairwise_cons] at hs
    rw [pd_ins]
    split
    · rename_i h
      refine List.pairwise_cons.mpr ⟨fun b hb => ?_, List.pairwise_cons.mpr hs⟩
      rcases List.mem_cons.mp hb with e | hb
      · rw [e]; exact h
      · exact pd_ah_trans h (hs.1 b hb)
    · rename_i h
      refine List.pairwise_cons.mpr ⟨fun b hb => ?_, ih (fun q => ho (List.mem_cons_of_mem _ q)) hs.2⟩
      rcases (pd_ins_mem r).mp hb with e | hb
      · rw [e]; exact pd_ah_total (fun q => ho (by rw [q]; exact List.mem_cons_self)) h
      · exact hs.1 b hb
theorem pd_rk_sorted {D : Nat → Int} {p : Nat → Bool} : ∀ n, (pd_rk D p n).Pairwise (fun a b => pd_ah D a b = true) := by
  intro n
  induction n with
  | zero => simp [pd_rk]
  | succ n ih =>
    rw [pd_rk]
    split
    · exact pd_ins_sorted _ (fun q => by have := ((pd_rk_mem n).mp q).1; omega) ih
    · exact ih
theorem pd_sorted_nodup {D : Nat → Int} {l : List Nat} (h : l.Pairwise (fun a b => pd_ah D a b = true)) : l.Nodup := by
  refine List.Pairwise.imp (fun {a b} q e => ?_) h
  subst e
  exact pd_ah_irr q
theorem pd_rk_nodup {D : Nat → Int} {p : Nat → Bool} (n : Nat) : (pd_rk D p n).Nodup := pd_sorted_nodup (pd_rk_sorted n)
theorem pd_ins_filter {D : Nat → Int} {q : Nat → Bool} {o : Nat} : ∀ l : List Nat, l.Pairwise (fun a b => pd_ah D a b = true) → (pd_ins D o l).filter q = if q o then pd_ins D o (l.filter q) else l.filter q := by
  intro l
  induction l with
  | nil => intro _; by_cases hq : q o = true <;> simp [pd_ins, hq]
  | cons a r ih =>
    intro hs
    rw [List.pairwise_cons] at hs
    rw [pd_ins]
    by_cases hao : pd_ah D o a = true
    · rw [if_pos hao]
      by_cases hq : q o = true
      · rw [if_pos hq]
        by_cases ha : q a = true
        · simp [hq, ha, pd_ins, hao]
        · have hfr : pd_ins D o (r.filter q) = o :: r.filter q := by
            cases hf : r.filter q with
            | nil => simp [pd_ins]
            | cons b t =>
              have hb : b ∈ r.filter q := by rw [hf]; exact List.mem_cons_self
              have hab := hs.1 b (List.mem_filter.mp hb).1
              rw [pd_ins, if_pos (pd_ah_trans hao hab)]
          simp [hq, ha, hfr]
      · simp [hq]
    · rw [if_neg hao, List.filter_cons, ih hs.2, List.filter_cons]
      by_cases hq : q o = true
      · by_cases ha : q a = true
        · simp [hq, ha, pd_ins, hao]
        · simp [hq, ha]
      · by_cases ha : q a = true <;> simp [hq, ha]
theorem pd_rk_filter {D : Nat → Int} {p q : Nat → Bool} : ∀ n, (pd_rk D p n).filter q = pd_rk D (fun x => p x && q x) n := by
  intro n
  induction n with
  | zero => simp [pd_rk]
  | succ n ih =>
    rw [pd_rk, pd_rk]
    by_cases hp : p n = true
    · rw [if_pos hp, pd_ins_filter _ (pd_rk_sorted n), ih]
      by_cases hq : q n = true <;> simp [hp, hq]
    · rw [if_neg hp, ih]
      simp [hp]
theorem pd_rk_congr {D : Nat → Int} {p q : Nat → Bool} : ∀ n, (∀ i, i < n → p i = q i) → pd_rk D p n = pd_rk D q n := by
  intro n
  induction n with
  | zero => intro _; rfl
  | succ n ih =>
    intro h
    rw [pd_rk, pd_rk, h n (by omega), ih (fun i hi => h i (by omega))]
theorem pd_rk_len {D : Nat → Int} {p q : Nat → Bool} (n : Nat) (h : ∀ i, i < n → q i = true → p i = true) : (pd_rk D q n).length ≤ (pd_rk D p n).length := by
  have e : pd_rk D q n = (pd_rk D p n).filter q := by
    rw [pd_rk_filter]
    refine pd_rk_congr n (fun i hi => ?_)
    by_cases hq : q i = true
    · simp [hq, h i hi hq]
    · simp [hq]
  rw [e]
  exact List.length_filter_le _ _
/-- where a back insertion stops, the front one puts it -/
theorem pd_ins_at {D : Nat → Int} {o : Nat} : ∀ (l : List Nat) (k : Nat), k ≤ l.length → l.Pairwise (fun a b => pd_ah D a b = true) → (∀ (j x : Nat), k ≤ j → l[j]? = some x → pd_ah D o x = true) → (∀ x, l[k - 1]? = some x → 0 < k → ¬ pd_ah D o x = true) → pd_ins D o l = l.take k ++ o :: l.drop k := by
  intro l
  induction l with
  | nil => intro k hk _ _ _; simp at hk; subst hk; rfl
  | cons a r ih =>
    intro k hk hs h1 h2
    rw [List.pairwise_cons] at hs
    cases k with
    | zero =>
      rw [pd_ins, if_pos (h1 0 a (by omega) rfl)]
      rfl
    | succ k =>
      have hna : ¬ pd_ah D o a = true := by
        intro q
        have hk2 : k < (a :: r).length := by simp at hk ⊢; omega
        have hx := h2 ((a :: r)[k]) (by simp [List.getElem?_eq_getElem hk2]) (by omega)
        cases k with
        | zero => exact hx q
        | succ k =>
          refine hx (pd_ah_trans q (hs.1 _ ?_))
          simp
      rw [pd_ins, if_neg hna]
      have := ih k (by simpa using hk) hs.2 (fun j x hj hx => h1 (j + 1) x (by omega) (by simpa using hx)) (fun x hx hk0 => h2 x (by
        have e : k + 1 - 1 = (k - 1) + 1 := by omega
        rw [e]; simpa using hx) (by omega))
      rw [this]
      rfl
end
section
/-! PURE: sums by side and firm, volumes, the search -/
def pd_t6 (g : Nat → Int) : Int := g 0 + g 1 + g 2 + g 3 + g 4 + g 5
def pd_ce (H0 H1 : Nat → Int) : Nat → Int
  | 0 => min (pd_t6 H0) (pd_t6 H1)
  | f + 1 => min (pd_ce H0 H1 f) ((pd_t6 H0 - H0 f) + (pd_t6 H1 - H1 f))
def pd_my (L0 L1 H0 H1 : Nat → Int) : Nat → Bool
  | 0 => true
  | f + 1 => pd_my L0 L1 H0 H1 f && (decide (L0 f ≤ pd_t6 H1 - H1 f) && decide (L1 f ≤ pd_t6 H0 - H0 f))
def pd_can (L0 L1 H0 H1 : Nat → Int) : Bool := pd_my L0 L1 H0 H1 6 && (decide (pd_t6 L0 ≤ pd_ce H0 H1 6) && decide (pd_t6 L1 ≤ pd_ce H0 H1 6))
def pd_vol (L0 L1 H0 H1 : Nat → Int) : Int := if pd_can L0 L1 H0 H1 then pd_ce H0 H1 6 else -1
theorem pd_my_iff {L0 L1 H0 H1 : Nat → Int} : ∀ n, pd_my L0 L1 H0 H1 n = true ↔ ∀ f, f < n → L0 f ≤ pd_t6 H1 - H1 f ∧ L1 f ≤ pd_t6 H0 - H0 f := by
  intro n
  induction n with
  | zero => simp [pd_my]
  | succ n ih =>
    rw [pd_my, Bool.and_eq_true, ih]
    simp only [Bool.and_eq_true, decide_eq_true_eq]
    constructor
    · intro h f hf
      by_cases e : f = n
      · subst e; exact h.2
      · exact h.1 f (by omega)
    · intro h
      exact ⟨fun f hf => h f (by omega), h n (by omega)⟩
theorem pd_ce_le {H0 H1 : Nat → Int} : ∀ n, pd_ce H0 H1 n ≤ pd_t6 H0 ∧ pd_ce H0 H1 n ≤ pd_t6 H1 ∧ ∀ f, f < n → pd_ce H0 H1 n ≤ (pd_t6 H0 - H0 f) + (pd_t6 H1 - H1 f) := by
  intro n
  induction n with
  | zero => rw [pd_ce]; exact ⟨by omega, by omega, fun f hf => by omega⟩
  | succ n ih =>
    rw [pd_ce]
    refine ⟨by omega, by omega, fun f hf => ?_⟩
    by_cases e : f = n
    · subst e; omega
    · have := ih.2.2 f (by omega); omega
theorem pd_ce_ge {H0 H1 : Nat → Int} {x : Int} (h0 : x ≤ pd_t6 H0) (h1 : x ≤ pd_t6 H1) : ∀ n, (∀ f, f < n → x ≤ (pd_t6 H0 - H0 f) + (pd_t6 H1 - H1 f)) → x ≤ pd_ce H0 H1 n := by
  intro n
  induction n with
  | zero => intro _; rw [pd_ce]; omega
  | succ n ih =>
    intro h
    rw [pd_ce]
    have := ih (fun f hf => h f (by omega))
    have := h n (by omega)
    omega
/-- one firm's share is in the sum of all, and so are two -/
theorem pd_t6_one {g : Nat → Int} (h : ∀ f, f < 6 → 0 ≤ g f) {f : Nat} (hf : f < 6) : g f ≤ pd_t6 g := by
  have h0 := h 0 (by omega); have h1 := h 1 (by omega); have h2 := h 2 (by omega); have h3 := h 3 (by omega); have h4 := h 4 (by omega); have h5 := h 5 (by omega)
  unfold pd_t6
  match f, hf with
  | 0, _ => omega
  | 1, _ => omega
  | 2, _ => omega
  | 3, _ => omega
  | 4, _ => omega
  | 5, _ => omega
theorem pd_t6_two {g : Nat → Int} (h : ∀ f, f < 6 → 0 ≤ g f) {f k : Nat} (hf : f < 6) (hk : k < 6) (hne : f ≠ k) : g f + g k ≤ pd_t6 g := by
  have := pd_t6_one (g := fun j => if j = f then 0 else g j) (fun j hj => by
    by_cases e : j = f
    · simp [e]
    · simp [e]; exact h j hj) (f := k) hk
  have e2 : pd_t6 (fun j => if j = f then 0 else g j) = pd_t6 g - g f := by
    unfold pd_t6
    match f, hf with
    | 0, _ => simp; omega
    | 1, _ => simp; omega
    | 2, _ => simp; omega
    | 3, _ => simp; omega
    | 4, _ => simp; omega
    | 5, _ => simp
  rw [e2] at this
  have e3 : (if k = f then (0 : Int) else g k) = g k := if_neg (fun q => hne q.symm)
  simp only [e3] at this
  omega
theorem pd_t6_mono {g g' : Nat → Int} (h : ∀ f, f < 6 → g' f ≤ g f) : pd_t6 g' ≤ pd_t6 g := by
  have h0 := h 0 (by omega); have h1 := h 1 (by omega); have h2 := h 2 (by omega); have h3 := h 3 (by omega); have h4 := h 4 (by omega); have h5 := h 5 (by omega)
  unfold pd_t6
  omega
theorem pd_t6_mono1 {g g' : Nat → Int} (h : ∀ f, f < 6 → g' f ≤ g f) {k : Nat} (hk : k < 6) : pd_t6 g' - g' k ≤ pd_t6 g - g k := by
  have h0 := h 0 (by omega); have h1 := h 1 (by omega); have h2 := h 2 (by omega); have h3 := h 3 (by omega); have h4 := h 4 (by omega); have h5 := h 5 (by omega)
  unfold pd_t6
  match k, hk with
  | 0, _ => omega
  | 1, _ => omega
  | 2, _ => omega
  | 3, _ => omega
  | 4, _ => omega
  | 5, _ => omega
theorem pd_can_iff {L0 L1 H0 H1 : Nat → Int} : pd_can L0 L1 H0 H1 = true ↔ (∀ f, f < 6 → L0 f ≤ pd_t6 H1 - H1 f ∧ L1 f ≤ pd_t6 H0 - H0 f) ∧ pd_t6 L0 ≤ pd_ce H0 H1 6 ∧ pd_t6 L1 ≤ pd_ce H0 H1 6 := by
  unfold pd_can
  rw [Bool.and_eq_true, pd_my_iff]
  simp
theorem pd_ce_mono {H0 H1 G0 G1 : Nat → Int} (h0 : ∀ f, f < 6 → G0 f ≤ H0 f) (h1 : ∀ f, f < 6 → G1 f ≤ H1 f) : ∀ n, n ≤ 6 → pd_ce G0 G1 n ≤ pd_ce H0 H1 n := by
  intro n
  induction n with
  | zero => intro _; have := pd_t6_mono h0; have := pd_t6_mono h1; rw [pd_ce, pd_ce]; omega
  | succ n ih =>
    intro hn
    have := ih (by omega)
    have := pd_t6_mono1 h0 (k := n) (by omega)
    have := pd_t6_mono1 h1 (k := n) (by omega)
    rw [pd_ce, pd_ce]
    omega
theorem pd_vol_mono {L0 L1 H0 H1 K0 K1 G0 G1 : Nat → Int} (l0 : ∀ f, f < 6 → L0 f ≤ K0 f) (l1 : ∀ f, f < 6 → L1 f ≤ K1 f) (h0 : ∀ f, f < 6 → G0 f ≤ H0 f) (h1 : ∀ f, f < 6 → G1 f ≤ H1 f) (hn : ∀ f, f < 6 → 0 ≤ L0 f) : pd_vol K0 K1 G0 G1 ≤ pd_vol L0 L1 H0 H1 := by
  have c := pd_ce_mono h0 h1 6 (by omega)
  have t0 := pd_t6_mono l0
  have t1 := pd_t6_mono l1
  have tn : 0 ≤ pd_t6 L0 := by
    have h0 := hn 0 (by omega); have h1 := hn 1 (by omega); have h2 := hn 2 (by omega); have h3 := hn 3 (by omega); have h4 := hn 4 (by omega); have h5 := hn 5 (by omega)
    unfold pd_t6; omega
  unfold pd_vol
  by_cases hk : pd_can K0 K1 G0 G1 = true
  · have hk2 := pd_can_iff.mp hk
    have hl : pd_can L0 L1 H0 H1 = true := by
      rw [pd_can_iff]
      refine ⟨fun f hf => ?_, by omega, by omega⟩
      have a1 := hk2.1 f hf
      have a2 := l0 f hf
      have a3 := l1 f hf
      have a4 := pd_t6_mono1 h0 hf
      have a5 := pd_t6_mono1 h1 hf
      omega
    rw [if_pos hk, if_pos hl]
    exact c
  · rw [if_neg hk]
    split
    · rename_i hl
      have := (pd_can_iff.mp hl).2.1
      omega
    · omega
/-- what an order's firm must sell and buy together is no more than the most -/
theorem pd_own {L0 L1 H0 H1 : Nat → Int} (hm : ∀ f, f < 6 → L0 f ≤ pd_t6 H1 - H1 f ∧ L1 f ≤ pd_t6 H0 - H0 f) (a0 : ∀ f, f < 6 → 0 ≤ L0 f ∧ L0 f ≤ H0 f) (a1 : ∀ f, f < 6 → 0 ≤ L1 f ∧ L1 f ≤ H1 f) {f : Nat} (hf : f < 6) : L0 f + L1 f ≤ pd_ce H0 H1 6 := by
  have p0 : ∀ f, f < 6 → 0 ≤ H0 f := fun f hf => by have := a0 f hf; omega
  have p1 : ∀ f, f < 6 → 0 ≤ H1 f := fun f hf => by have := a1 f hf; omega
  have m := hm f hf
  have b0 := a0 f hf
  have b1 := a1 f hf
  refine pd_ce_ge (by omega) (by omega) 6 (fun g hg => ?_)
  by_cases e : g = f
  · subst e; omega
  · have := pd_t6_two p0 hf hg (fun q => e q.symm)
    have := pd_t6_two p1 hf hg (fun q => e q.symm)
    omega
-- sums over a list of orders
def pd_sf (D : Nat → Int) (g : Nat → Int) (s : Int) (f : Nat) : List Nat → Int
  | [] => 0
  | x :: r => (if D (7 + 9 * x) = s ∧ D (7 + 9 * x + 4) = (f : Int) then g x else 0) + pd_sf D g s f r
def pd_ss (D : Nat → Int) (g : Nat → Int) (s : Int) : List Nat → Int
  | [] => 0
  | x :: r => (if D (7 + 9 * x) = s then g x else 0) + pd_ss D g s r
theorem pd_sf_app (D g : Nat → Int) (s : Int) (f : Nat) : ∀ a b : List Nat, pd_sf D g s f (a ++ b) = pd_sf D g s f a + pd_sf D g s f b := by
  intro a b
  induction a with
  | nil => simp [pd_sf]
  | cons x r ih => rw [List.cons_append, pd_sf, ih, pd_sf]; omega
theorem pd_ss_eq {D : Nat → Int} (g : Nat → Int) (s : Int) : ∀ l : List Nat, (∀ x ∈ l, 0 ≤ D (7 + 9 * x + 4) ∧ D (7 + 9 * x + 4) ≤ 5) → pd_t6 (fun f => pd_sf D g s f l) = pd_ss D g s l := by
  intro l
  induction l with
  | nil => intro _; simp [pd_t6, pd_sf, pd_ss]
  | cons x r ih =>
    intro h
    have h1 := ih (fun y hy => h y (List.mem_cons_of_mem _ hy))
    have h2 := h x List.mem_cons_self
    simp only [pd_t6] at h1 ⊢
    simp only [pd_sf, pd_ss]
    by_cases hs : D (7 + 9 * x) = s
    · have : D (7 + 9 * x + 4) = 0 ∨ D (7 + 9 * x + 4) = 1 ∨ D (7 + 9 * x + 4) = 2 ∨ D (7 + 9 * x + 4) = 3 ∨ D (7 + 9 * x + 4) = 4 ∨ D (7 + 9 * x + 4) = 5 := by omega
      rcases this with e | e | e | e | e | e <;> simp [hs, e] <;> omega
    · simp [hs]; omega
theorem pd_sf_nn {D g : Nat → Int} {s : Int} {f : Nat} : ∀ l : List Nat, (∀ x ∈ l, 0 ≤ g x) → 0 ≤ pd_sf D g s f l := by
  intro l
  induction l with
  | nil => intro _; simp [pd_sf]
  | cons x r ih =>
    intro h
    have h1 := ih (fun y hy => h y (List.mem_cons_of_mem _ hy))
    have h2 := h x List.mem_cons_self
    rw [pd_sf]
    split <;> omega
theorem pd_sf_sub {D g : Nat → Int} {s : Int} {f : Nat} {a b : List Nat} (hab : a.Sublist b) (h : ∀ x ∈ b, 0 ≤ g x) : pd_sf D g s f a ≤ pd_sf D g s f b := by
  induction hab with
  | slnil => exact Int.le_refl _
  | cons x _ ih =>
    have h1 := ih (fun y hy => h y (List.mem_cons_of_mem _ hy))
    have h2 := h x List.mem_cons_self
    rw [pd_sf]
    split <;> omega
  | cons_cons x _ ih =>
    have h1 := ih (fun y hy => h y (List.mem_cons_of_mem _ hy))
    rw [pd_sf, pd_sf]
    omega
theorem pd_sf_le {D g g' : Nat → Int} {s : Int} {f : Nat} : ∀ l : List Nat, (∀ x ∈ l, g x ≤ g' x) → pd_sf D g s f l ≤ pd_sf D g' s f l := by
  intro l
  induction l with
  | nil => intro _; simp [pd_sf]
  | cons x r ih =>
    intro h
    have h1 := ih (fun y hy => h y (List.mem_cons_of_mem _ hy))
    have h2 := h x List.mem_cons_self
    rw [pd_sf, pd_sf]
    split <;> omega
/-- the volume of what is between 'must' (leasts of T) and 'may' (sizes of U); of a set: T = U -/
def pd_VM (D lo hi : Nat → Int) (T U : List Nat) : Int := pd_vol (fun f => pd_sf D lo 0 f T) (fun f => pd_sf D lo 1 f T) (fun f => pd_sf D hi 0 f U) (fun f => pd_sf D hi 1 f U)
theorem pd_VM_mono {D lo hi : Nat → Int} {T T' U U' : List Nat} (hT : T.Sublist T') (hU : U'.Sublist U) (hl : ∀ x ∈ T', 0 ≤ lo x) (hh : ∀ x ∈ U, 0 ≤ hi x) : pd_VM D lo hi T' U' ≤ pd_VM D lo hi T U :=
  pd_vol_mono (fun _ _ => pd_sf_sub hT hl) (fun _ _ => pd_sf_sub hT hl) (fun _ _ => pd_sf_sub hU hh) (fun _ _ => pd_sf_sub hU hh) (fun _ _ => pd_sf_nn T (fun x hx => hl x (hT.subset hx)))
-- the search
def pd_subs (must : Nat → Bool) : List Nat → List (List Nat)
  | [] => [[]]
  | x :: R => (pd_subs must R).map (fun S => x :: S) ++ (if must x then [] else pd_subs must R)
theorem pd_subs_sub {must : Nat → Bool} : ∀ (R S : List Nat), S ∈ pd_subs must R → S.Sublist R := by
  intro R
  induction R with
  | nil => intro S h; simp [pd_subs] at h; subst h; exact List.Sublist.refl _
  | cons x R ih =>
    intro S h
    rw [pd_subs, List.mem_append] at h
    rcases h with h | h
    · obtain ⟨S', h1, h2⟩ := List.mem_map.mp h
      rw [← h2]
      exact (ih S' h1).cons_cons x
    · split at h
      · cases h
      · exact (ih S h).cons x
theorem pd_subs_of {must : Nat → Bool} : ∀ (R S : List Nat), S.Sublist R → (∀ x ∈ R, must x = true → x ∈ S) → R.Nodup → S ∈ pd_subs must R := by
  intro R
  induction R with
  | nil => intro S h _ _; simp at h; subst h; simp [pd_subs]
  | cons x R ih =>
    intro S h hm hn
    rw [List.nodup_cons] at hn
    rw [pd_subs, List.mem_append]
    cases h with
    | cons _ h =>
      right
      have hx : ¬ must x = true := fun q => hn.1 (h.subset (hm x List.mem_cons_self q))
      rw [if_neg hx]
      exact ih S h (fun y hy q => hm y (List.mem_cons_of_mem _ hy) q) hn.2
    | cons_cons _ h =>
      left
      rename_i S'
      refine List.mem_map.mpr ⟨S', ih S' h (fun y hy q => ?_) hn.2, rfl⟩
      have := hm y (List.mem_cons_of_mem _ hy) q
      rcases List.mem_cons.mp this with e | e
      · subst e; exact absurd hy hn.1
      · exact e
def pd_scan (V : List Nat → Int) (mk : List Nat → Int) : List (List Nat) → Int × Int → Int × Int
  | [], a => a
  | S :: r, a => pd_scan V mk r (if a.1 < V S then (V S, mk S) else a)
theorem pd_scan_app (V mk : List Nat → Int) : ∀ (l m : List (List Nat)) (a : Int × Int), pd_scan V mk (l ++ m) a = pd_scan V mk m (pd_scan V mk l a) := by
  intro l
  induction l with
  | nil => intro m a; rfl
  | cons S r ih => intro m a; rw [List.cons_append, pd_scan, ih, pd_scan]
theorem pd_scan_map (V mk : List Nat → Int) (x : Nat) : ∀ (l : List (List Nat)) (a : Int × Int), pd_scan V mk (l.map (fun S => x :: S)) a = pd_scan (fun S => V (x :: S)) (fun S => mk (x :: S)) l a := by
  intro l
  induction l with
  | nil => intro a; rfl
  | cons S r ih => intro a; rw [List.map_cons, pd_scan, ih, pd_scan]
theorem pd_scan_id (V mk : List Nat → Int) : ∀ (l : List (List Nat)) (a : Int × Int), (∀ S ∈ l, V S ≤ a.1) → pd_scan V mk l a = a := by
  intro l
  induction l with
  | nil => intro a _; rfl
  | cons S r ih =>
    intro a h
    have := h S List.mem_cons_self
    rw [pd_scan, if_neg (by omega)]
    exact ih a (fun S' hS' => h S' (List.mem_cons_of_mem _ hS'))
theorem pd_scan_spec (V mk : List Nat → Int) : ∀ (l : List (List Nat)) (a : Int × Int), a.1 ≤ (pd_scan V mk l a).1 ∧ (∀ S ∈ l, V S ≤ (pd_scan V mk l a).1) ∧ (pd_scan V mk l a = a ∨ ∃ S ∈ l, pd_scan V mk l a = (V S, mk S) ∧ a.1 < V S) := by
  intro l
  induction l with
  | nil => intro a; exact ⟨Int.le_refl _, (fun S h => by cases h), Or.inl rfl⟩
  | cons S r ih =>
    intro a
    rw [pd_scan]
    by_cases hc : a.1 < V S
    · rw [if_pos hc]
      obtain ⟨h1, h2, h3⟩ := ih (V S, mk S)
      dsimp only at h1
      refine ⟨by omega, fun S' hS' => ?_, Or.inr ?_⟩
      · rcases List.mem_cons.mp hS' with e | e
        · rw [e]; exact h1
        · exact h2 S' e
      · rcases h3 with h3 | ⟨S', h4, h5, h6⟩
        · exact ⟨S, List.mem_cons_self, h3, hc⟩
        · exact ⟨S', List.mem_cons_of_mem _ h4, h5, by dsimp only at h6; omega⟩
    · rw [if_neg hc]
      obtain ⟨h1, h2, h3⟩ := ih a
      refine ⟨h1, fun S' hS' => ?_, ?_⟩
      · rcases List.mem_cons.mp hS' with e | e
        · rw [e]; omega
        · exact h2 S' e
      · rcases h3 with h3 | ⟨S', h4, h5, h6⟩
        · exact Or.inl h3
        · exact Or.inr ⟨S', List.mem_cons_of_mem _ h4, h5, h6⟩
def pd_mlk (m : Int) : List Nat → Int
  | [] => m
  | o :: r => pd_mlk (bc_or m (bc_shl 1 o)) r
def pd_ml (l : List Nat) : Int := pd_mlk 0 l
theorem pd_mlk_app (a : List Nat) : ∀ (m : Int) (b : List Nat), pd_mlk m (a ++ b) = pd_mlk (pd_mlk m a) b := by
  induction a with
  | nil => intro m b; rfl
  | cons x r ih => intro m b; rw [List.cons_append, pd_mlk, ih, pd_mlk]
theorem pd_mlk_bit : ∀ (l : List Nat) (m : Int) (i : Nat), (∀ x ∈ l, x < 32) → i < 32 → bc_bit (pd_mlk m l) i = (bc_bit m i || decide (i ∈ l)) := by
  intro l
  induction l with
  | nil => intro m i _ _; simp [pd_mlk]
  | cons x r ih =>
    intro m i h hi
    rw [pd_mlk, ih _ i (fun y hy => h y (List.mem_cons_of_mem _ hy)) hi, bc_bit_or, bc_bit_shl x i (h x List.mem_cons_self) hi]
    by_cases e : i = x
    · subst e; simp
    · simp [e]
theorem pd_ml_bit {l : List Nat} {i : Nat} (h : ∀ x ∈ l, x < 32) (hi : i < 32) : bc_bit (pd_ml l) i = decide (i ∈ l) := by
  unfold pd_ml
  rw [pd_mlk_bit l 0 i h hi, bc_bit_0]
  simp
theorem pd_mlk_vr : ∀ (l : List Nat) (m : Int), bc_vr m → bc_vr (pd_mlk m l) := by
  intro l
  induction l with
  | nil => intro m h; exact h
  | cons x r ih => intro m _; rw [pd_mlk]; exact ih _ (bc_vr_or _ _)
/-- what is chosen among the ranked orders R, those that 'must' tells in it: volume and mask -/
def pd_ch (D lo hi : Nat → Int) (must : Nat → Bool) (R : List Nat) : Int × Int := pd_scan (fun S => pd_VM D lo hi S S) pd_ml (pd_subs must R) (0, 0)
/-- the walk from one point of the search on: T taken, R open -/
def pd_dn (D lo hi : Nat → Int) (must : Nat → Bool) (T R : List Nat) (a : Int × Int) : Int × Int := pd_scan (fun S => pd_VM D lo hi (T ++ S) (T ++ S)) (fun S => pd_mlk (pd_ml T) S) (pd_subs must R) a
theorem pd_dn_cut {D lo hi : Nat → Int} {must : Nat → Bool} {T R : List Nat} {a : Int × Int} (hl : ∀ x ∈ T ++ R, 0 ≤ lo x) (hh : ∀ x ∈ T ++ R, 0 ≤ hi x) (h : pd_VM D lo hi T (T ++ R) ≤ a.1) : pd_dn D lo hi must T R a = a := by
  refine pd_scan_id _ _ _ _ (fun S hS => ?_)
  have hs := pd_subs_sub R S hS
  have h1 : (T ++ S).Sublist (T ++ R) := (List.Sublist.refl T).append hs
  have h2 : T.Sublist (T ++ S) := List.sublist_append_left _ _
  have := pd_VM_mono (D := D) (lo := lo) (hi := hi) h2 h1 (fun x hx => hl x (h1.subset hx)) hh
  omega
theorem pd_dn_nil {D lo hi : Nat → Int} {must : Nat → Bool} {T : List Nat} {a : Int × Int} : pd_dn D lo hi must T [] a = if a.1 < pd_VM D lo hi T T then (pd_VM D lo hi T T, pd_ml T) else a := by
  unfold pd_dn
  simp [pd_subs, pd_scan, pd_mlk]
theorem pd_dn_cons {D lo hi : Nat → Int} {must : Nat → Bool} {T R : List Nat} {x : Nat} {a : Int × Int} : pd_dn D lo hi must T (x :: R) a = if must x then pd_dn D lo hi must (T ++ [x]) R a else pd_dn D lo hi must T R (pd_dn D lo hi must (T ++ [x]) R a) := by
  have e : pd_scan (fun S => pd_VM D lo hi (T ++ S) (T ++ S)) (fun S => pd_mlk (pd_ml T) S) ((pd_subs must R).map (fun S => x :: S)) a = pd_dn D lo hi must (T ++ [x]) R a := by
    rw [pd_scan_map]
    unfold pd_dn
    have e1 : (fun S => pd_VM D lo hi (T ++ x :: S) (T ++ x :: S)) = (fun S => pd_VM D lo hi (T ++ [x] ++ S) (T ++ [x] ++ S)) := by
      funext S; rw [List.append_assoc]; rfl
    have e2 : (fun S => pd_mlk (pd_ml T) (x :: S)) = (fun S => pd_mlk (pd_ml (T ++ [x])) S) := by
      funext S
      unfold pd_ml
      rw [pd_mlk_app]
      rfl
    rw [e1, e2]
  show pd_scan _ _ (pd_subs must (x :: R)) a = _
  rw [pd_subs, pd_scan_app, e]
  split
  · rfl
  · rfl
theorem pd_dn_ch {D lo hi : Nat → Int} {must : Nat → Bool} {R : List Nat} : pd_dn D lo hi must [] R (0, 0) = pd_ch D lo hi must R := rfl
end
section
/-! the class: Sums (cells 23 to 27) -/
def pd_SG (L0 L1 H0 H1 : Nat → Int) (h : bc_AH) : Prop := (∀ f : Nat, f < 6 → h 24 f = L0 f ∧ h 24 (6 + f) = L1 f ∧ h 25 f = H0 f ∧ h 25 (6 + f) = H1 f) ∧ h 26 0 = pd_t6 L0 ∧ h 26 1 = pd_t6 L1 ∧ h 27 0 = pd_t6 H0 ∧ h 27 1 = pd_t6 H1
def pd_fr (a b : Nat) (h h' : bc_AH) : Prop := ∀ c : Nat, c < a ∨ b < c → h' c = h c
theorem pd_fr_refl {a b : Nat} {h : bc_AH} : pd_fr a b h h := fun _ _ => rfl
theorem pd_fr_trans {a b : Nat} {h h1 h2 : bc_AH} (x : pd_fr a b h h1) (y : pd_fr a b h1 h2) : pd_fr a b h h2 := fun c hc => (y c hc).trans (x c hc)
theorem pd_fr_wide {a b a' b' : Nat} {h h' : bc_AH} (x : pd_fr a b h h') (h1 : a' ≤ a) (h2 : b ≤ b') : pd_fr a' b' h h' := fun c hc => x c (by omega)
theorem pd_fr_up {a b k j : Nat} {v : Int} {h h' : bc_AH} (x : pd_fr a b h h') (h1 : a ≤ k) (h2 : k ≤ b) : pd_fr a b h (bc_up h' k j v) := fun c hc => by
  rw [← x c hc]
  funext q
  have : ¬ c = k := by omega
  simp [bc_up, this]
section Sums
variable {d : Nat} {h : bc_AH} {post : Option bc_AV → bc_AH → Prop}
theorem l4_clear2 {h0 : bc_AH} (k : ∀ h', pd_SG (fun _ => 0) (fun _ => 0) (fun _ => 0) (fun _ => 0) h' → pd_fr 24 27 h0 h' → post none h') : ∀ (n i : Nat) (h : bc_AH), i + n = 2 → (∀ j : Nat, j < 12 → h 24 j = 0 ∧ h 25 j = 0) → (∀ j : Nat, j < i → h 26 j = 0 ∧ h 27 j = 0) → pd_fr 24 27 h0 h → bc_AT d 43 post 30 [some (.inr (.inr 23)), some (.inl (i : Int))] [] h := by
  intro n
  induction n with
  | zero =>
    intro i h hi h1 h2 hf
    refine bc_at ck_X4_clear ?_
    simp only [k_X4_clear, ↓vl_iconst, ↓vl_bipush, ↓vl_sipush, ↓vl_lconst, ↓vl_ldc, ↓vl_ldcw, ↓vl_ldc2, ↓vl_iload0, ↓vl_aload0, ↓vl_istore0, ↓vl_iinc0, ↓vl_iload1, ↓vl_aload1, ↓vl_istore1, ↓vl_iinc1, ↓vl_iload2, ↓vl_aload2, ↓vl_istore2, ↓vl_iinc2, ↓vl_iload3, ↓vl_aload3, ↓vl_istore3, ↓vl_iinc3, ↓vl_iload4, ↓vl_istore4, ↓vl_iinc4, ↓vl_iload5, ↓vl_istore5, ↓vl_iinc5, ↓vl_iload6, ↓vl_istore6, ↓vl_iinc6, ↓vl_iload7, ↓vl_istore7, ↓vl_iinc7, ↓vl_lload5, ↓vl_lstore5, ↓vl_iadd, ↓vl_isub, ↓vl_imul, ↓vl_iand, ↓vl_ior, ↓vl_ixor, ↓vl_ishl, ↓vl_ishr, ↓vl_iushr, ↓vl_idiv, ↓vl_irem, ↓vl_ladd, ↓vl_lsub, ↓vl_lmul, ↓vl_lcmp, ↓vl_i2l, ↓vl_dup, ↓vl_dup2, ↓vl_gotoF, ↓vl_gotoB, ↓vl_nnF, ↓vl_ic_eqF, ↓vl_if_eqF, ↓vl_ic_eqB, ↓vl_if_eqB, ↓vl_ic_neF, ↓vl_if_neF, ↓vl_ic_neB, ↓vl_if_neB, ↓vl_ic_ltF, ↓vl_if_ltF, ↓vl_ic_ltB, ↓vl_if_ltB, ↓vl_ic_geF, ↓vl_if_geF, ↓vl_ic_geB, ↓vl_if_geB, ↓vl_ic_gtF, ↓vl_if_gtF, ↓vl_ic_gtB, ↓vl_if_gtB, ↓vl_ic_leF, ↓vl_if_leF, ↓vl_ic_leB, ↓vl_if_leB, ↓vl_sw, ↓vl_get, ↓vl_putI, ↓vl_putL, ↓vl_iald, ↓vl_iast, ↓vl_alen, ↓vl_aald, ↓vl_iretI, ↓vl_iretZ, ↓vl_ret, ↓vl_mark, ↓vl_markT, ↓vl_skip, ↓vl_st0, ↓vl_vi0, ↓vl_st1, ↓vl_vi1, ↓vl_st2, ↓vl_vi2, ↓vl_st3, ↓vl_vi3, ↓vl_st4, ↓vl_vi4, ↓vl_st5, ↓vl_vi5, ↓vl_st6, ↓vl_vi6, ↓vl_min, ↓vl_max, ↓vl_cpy, ↓vk_kvs, ↓vk_kvn, ↓vk_gf0, ↓vk_gv0, ↓vk_gv1, ↓vk_gv2, ↓vk_pf, ↓vk_ar, ↓vk_arr, bc_lay, bc_fn, bc_mk, bc_cs, bc_cat, bc_nl, bc_nth, bc_en, bc_sw, true_and, and_true, ↓reduceIte, reduceCtorEq, Nat.reduceEqDiff, Nat.reduceLeDiff, Nat.reduceAdd, Nat.le_refl, Nat.zero_le, Int.cast_ofNat_Int, Int.reduceEq, eq_self, true_implies, false_implies, not_true_eq_false, not_false_eq_true, bc_vr, Int.reduceToNat, Int.toNat_natCast, Int.reduceLE, Int.reduceLT, Int.reduceNeg, true_or, or_true, forall_const, Int.reduceAdd]
    refine ⟨⟨by omega, by omega⟩, fun _ => ?_, fun c => absurd c (by omega)⟩
    refine k h ⟨fun f hf => ⟨(h1 f (by omega)).1, (h1 (6 + f) (by omega)).1, (h1 f (by omega)).2, (h1 (6 + f) (by omega)).2⟩, ?_, ?_, ?_, ?_⟩ hf
    · rw [(h2 0 (by omega)).1]; rfl
    · rw [(h2 1 (by omega)).1]; rfl
    · rw [(h2 0 (by omega)).2]; rfl
    · rw [(h2 1 (by omega)).2]; rfl
  | succ n ih =>
    intro i h hi h1 h2 hf
    refine bc_at ck_X4_clear ?_
    simp only [k_X4_clear, ↓vl_iconst, ↓vl_bipush, ↓vl_sipush, ↓vl_lconst, ↓vl_ldc, ↓vl_ldcw, ↓vl_ldc2, ↓vl_iload0, ↓vl_aload0, ↓vl_istore0, ↓vl_iinc0, ↓vl_iload1, ↓vl_aload1, ↓vl_istore1, ↓vl_iinc1, ↓vl_iload2, ↓vl_aload2, ↓vl_istore2, ↓vl_iinc2, ↓vl_iload3, ↓vl_aload3, ↓vl_istore3, ↓vl_iinc3, ↓vl_iload4, ↓vl_istore4, ↓vl_iinc4, ↓vl_iload5, ↓vl_istore5, ↓vl_iinc5, ↓vl_iload6, ↓vl_istore6, ↓vl_iinc6, ↓vl_iload7, ↓vl_istore7, ↓vl_iinc7, ↓vl_lload5, ↓vl_lstore5, ↓vl_iadd, ↓vl_isub, ↓vl_imul, ↓vl_iand, ↓vl_ior, ↓vl_ixor, ↓vl_ishl, ↓vl_ishr, ↓vl_iushr, ↓vl_idiv, ↓vl_irem, ↓vl_ladd, ↓vl_lsub, ↓vl_lmul, ↓vl_lcmp, ↓vl_i2l, ↓vl_dup, ↓vl_dup2, ↓vl_gotoF, ↓vl_gotoB, ↓vl_nnF, ↓vl_ic_eqF, ↓vl_if_eqF, ↓vl_ic_eqB, ↓vl_if_eqB, ↓vl_ic_neF, ↓vl_if_neF, ↓vl_ic_neB, ↓vl_if_neB, ↓vl_ic_ltF, ↓vl_if_ltF, ↓vl_ic_ltB, ↓vl_if_ltB, ↓vl_ic_geF, ↓vl_if_geF, ↓vl_ic_geB, ↓vl_if_geB, ↓vl_ic_gtF, ↓vl_if_gtF, ↓vl_ic_gtB, ↓vl_if_gtB, ↓vl_ic_leF, ↓vl_if_leF, ↓vl_ic_leB, ↓vl_if_leB, ↓vl_sw, ↓vl_get, ↓vl_putI, ↓vl_putL, ↓vl_iald, ↓vl_iast, ↓vl_alen, ↓vl_aald, ↓vl_iretI, ↓vl_iretZ, ↓vl_ret, ↓vl_mark, ↓vl_markT, ↓vl_skip, ↓vl_st0, ↓vl_vi0, ↓vl_st1, ↓vl_vi1, ↓vl_st2, ↓vl_vi2, ↓vl_st3, ↓vl_vi3, ↓vl_st4, ↓vl_vi4, ↓vl_st5, ↓vl_vi5, ↓vl_st6, ↓vl_vi6, ↓vl_min, ↓vl_max, ↓vl_cpy, ↓vk_kvs, ↓vk_kvn, ↓vk_gf0, ↓vk_gv0, ↓vk_gv1, ↓vk_gv2, ↓vk_pf, ↓vk_ar, ↓vk_arr, bc_lay, bc_fn, bc_mk, bc_cs, bc_cat, bc_nl, bc_nth, bc_en, bc_sw, true_and, and_true, ↓reduceIte, reduceCtorEq, Nat.reduceEqDiff, Nat.reduceLeDiff, Nat.reduceAdd, Nat.le_refl, Nat.zero_le, Int.cast_ofNat_Int, Int.reduceEq, eq_self, true_implies, false_implies, not_true_eq_false, not_false_eq_true, bc_vr, Int.reduceToNat, Int.toNat_natCast, Int.reduceLE, Int.reduceLT, Int.reduceNeg, true_or, or_true, forall_const, Int.reduceAdd]
    refine ⟨⟨by omega, by omega⟩, fun c => absurd c (by omega), fun _ => ⟨by omega, by omega, by omega, by omega, ?_⟩⟩
    refine ih (i + 1) _ (by omega) (fun j hj => ?_) (fun j hj => ?_) (pd_fr_up (pd_fr_up hf (by omega) (by omega)) (by omega) (by omega))
    · simp [bc_up]; exact h1 j hj
    · by_cases e : j = i
      · subst e; simp [bc_up]
      · have e2 : ¬ j = i := e
        simp [bc_up, e2]; exact h2 j (by omega)
theorem l4_clear1 {h0 : bc_AH} (k : ∀ h', pd_SG (fun _ => 0) (fun _ => 0) (fun _ => 0) (fun _ => 0) h' → pd_fr 24 27 h0 h' → post none h') : ∀ (n i : Nat) (h : bc_AH), i + n = 12 → (∀ j : Nat, j < i → h 24 j = 0 ∧ h 25 j = 0) → pd_fr 24 27 h0 h → bc_AT d 43 post 2 [some (.inr (.inr 23)), some (.inl (i : Int))] [] h := by
  intro n
  induction n with
  | zero =>
    intro i h hi h1 hf
    refine bc_at ck_X4_clear ?_
    simp only [k_X4_clear, ↓vl_iconst, ↓vl_bipush, ↓vl_sipush, ↓vl_lconst, ↓vl_ldc, ↓vl_ldcw, ↓vl_ldc2, ↓vl_iload0, ↓vl_aload0, ↓vl_istore0, ↓vl_iinc0, ↓vl_iload1, ↓vl_aload1, ↓vl_istore1, ↓vl_iinc1, ↓vl_iload2, ↓vl_aload2, ↓vl_istore2, ↓vl_iinc2, ↓vl_iload3, ↓vl_aload3, ↓vl_istore3, ↓vl_iinc3, ↓vl_iload4, ↓vl_istore4, ↓vl_iinc4, ↓vl_iload5, ↓vl_istore5, ↓vl_iinc5, ↓vl_iload6, ↓vl_istore6, ↓vl_iinc6, ↓vl_iload7, ↓vl_istore7, ↓vl_iinc7, ↓vl_lload5, ↓vl_lstore5, ↓vl_iadd, ↓vl_isub, ↓vl_imul, ↓vl_iand, ↓vl_ior, ↓vl_ixor, ↓vl_ishl, ↓vl_ishr, ↓vl_iushr, ↓vl_idiv, ↓vl_irem, ↓vl_ladd, ↓vl_lsub, ↓vl_lmul, ↓vl_lcmp, ↓vl_i2l, ↓vl_dup, ↓vl_dup2, ↓vl_gotoF, ↓vl_gotoB, ↓vl_nnF, ↓vl_ic_eqF, ↓vl_if_eqF, ↓vl_ic_eqB, ↓vl_if_eqB, ↓vl_ic_neF, ↓vl_if_neF, ↓vl_ic_neB, ↓vl_if_neB, ↓vl_ic_ltF, ↓vl_if_ltF, ↓vl_ic_ltB, ↓vl_if_ltB, ↓vl_ic_geF, ↓vl_if_geF, ↓vl_ic_geB, ↓vl_if_geB, ↓vl_ic_gtF, ↓vl_if_gtF, ↓vl_ic_gtB, ↓vl_if_gtB, ↓vl_ic_leF, ↓vl_if_leF, ↓vl_ic_leB, ↓vl_if_leB, ↓vl_sw, ↓vl_get, ↓vl_putI, ↓vl_putL, ↓vl_iald, ↓vl_iast, ↓vl_alen, ↓vl_aald, ↓vl_iretI, ↓vl_iretZ, ↓vl_ret, ↓vl_mark, ↓vl_markT, ↓vl_skip, ↓vl_st0, ↓vl_vi0, ↓vl_st1, ↓vl_vi1, ↓vl_st2, ↓vl_vi2, ↓vl_st3, ↓vl_vi3, ↓vl_st4, ↓vl_vi4, ↓vl_st5, ↓vl_vi5, ↓vl_st6, ↓vl_vi6, ↓vl_min, ↓vl_max, ↓vl_cpy, ↓vk_kvs, ↓vk_kvn, ↓vk_gf0, ↓vk_gv0, ↓vk_gv1, ↓vk_gv2, ↓vk_pf, ↓vk_ar, ↓vk_arr, bc_lay, bc_fn, bc_mk, bc_cs, bc_cat, bc_nl, bc_nth, bc_en, bc_sw, true_and, and_true, ↓reduceIte, reduceCtorEq, Nat.reduceEqDiff, Nat.reduceLeDiff, Nat.reduceAdd, Nat.le_refl, Nat.zero_le, Int.cast_ofNat_Int, Int.reduceEq, eq_self, true_implies, false_implies, not_true_eq_false, not_false_eq_true, bc_vr, Int.reduceToNat, Int.toNat_natCast, Int.reduceLE, Int.reduceLT, Int.reduceNeg, true_or, or_true, forall_const, Int.reduceAdd]
    refine ⟨⟨by omega, by omega⟩, fun _ => ?_, fun c => absurd c (by omega)⟩
    exact l4_clear2 k 2 0 h (by omega) (fun j hj => h1 j (by omega)) (fun j hj => by omega) hf
  | succ n ih =>
    intro i h hi h1 hf
    refine bc_at ck_X4_clear ?_
    simp only [k_X4_clear, ↓vl_iconst, ↓vl_bipush, ↓vl_sipush, ↓vl_lconst, ↓vl_ldc, ↓vl_ldcw, ↓vl_ldc2, ↓vl_iload0, ↓vl_aload0, ↓vl_istore0, ↓vl_iinc0, ↓vl_iload1, ↓vl_aload1, ↓vl_istore1, ↓vl_iinc1, ↓vl_iload2, ↓vl_aload2, ↓vl_istore2, ↓vl_iinc2, ↓vl_iload3, ↓vl_aload3, ↓vl_istore3, ↓vl_iinc3, ↓vl_iload4, ↓vl_istore4, ↓vl_iinc4, ↓vl_iload5, ↓vl_istore5, ↓vl_iinc5, ↓vl_iload6, ↓vl_istore6, ↓vl_iinc6, ↓vl_iload7, ↓vl_istore7, ↓vl_iinc7, ↓vl_lload5, ↓vl_lstore5, ↓vl_iadd, ↓vl_isub, ↓vl_imul, ↓vl_iand, ↓vl_ior, ↓vl_ixor, ↓vl_ishl, ↓vl_ishr, ↓vl_iushr, ↓vl_idiv, ↓vl_irem, ↓vl_ladd, ↓vl_lsub, ↓vl_lmul, ↓vl_lcmp, ↓vl_i2l, ↓vl_dup, ↓vl_dup2, ↓vl_gotoF, ↓vl_gotoB, ↓vl_nnF, ↓vl_ic_eqF, ↓vl_if_eqF, ↓vl_ic_eqB, ↓vl_if_eqB, ↓vl_ic_neF, ↓vl_if_neF, ↓vl_ic_neB, ↓vl_if_neB, ↓vl_ic_ltF, ↓vl_if_ltF, ↓vl_ic_ltB, ↓vl_if_ltB, ↓vl_ic_geF, ↓vl_if_geF, ↓vl_ic_geB, ↓vl_if_geB, ↓vl_ic_gtF, ↓vl_if_gtF, ↓vl_ic_gtB, ↓vl_if_gtB, ↓vl_ic_leF, ↓vl_if_leF, ↓vl_ic_leB, ↓vl_if_leB, ↓vl_sw, ↓vl_get, ↓vl_putI, ↓vl_putL, ↓vl_iald, ↓vl_iast, ↓vl_alen, ↓vl_aald, ↓vl_iretI, ↓vl_iretZ, ↓vl_ret, ↓vl_mark, ↓vl_markT, ↓vl_skip, ↓vl_st0, ↓vl_vi0, ↓vl_st1, ↓vl_vi1, ↓vl_st2, ↓vl_vi2, ↓vl_st3, ↓vl_vi3, ↓vl_st4, ↓vl_vi4, ↓vl_st5, ↓vl_vi5, ↓vl_st6, ↓vl_vi6, ↓vl_min, ↓vl_max, ↓vl_cpy, ↓vk_kvs, ↓vk_kvn, ↓vk_gf0, ↓vk_gv0, ↓vk_gv1, ↓vk_gv2, ↓vk_pf, ↓vk_ar, ↓vk_arr, bc_lay, bc_fn, bc_mk, bc_cs, bc_cat, bc_nl, bc_nth, bc_en, bc_sw, true_and, and_true, ↓reduceIte, reduceCtorEq, Nat.reduceEqDiff, Nat.reduceLeDiff, Nat.reduceAdd, Nat.le_refl, Nat.zero_le, Int.cast_ofNat_Int, Int.reduceEq, eq_self, true_implies, false_implies, not_true_eq_false, not_false_eq_true, bc_vr, Int.reduceToNat, Int.toNat_natCast, Int.reduceLE, Int.reduceLT, Int.reduceNeg, true_or, or_true, forall_const, Int.reduceAdd]
    refine ⟨⟨by omega, by omega⟩, fun c => absurd c (by omega), fun _ => ⟨by omega, by omega, by omega, by omega, ?_⟩⟩
    refine ih (i + 1) _ (by omega) (fun j hj => ?_) (pd_fr_up (pd_fr_up hf (by omega) (by omega)) (by omega) (by omega))
    by_cases e : j = i
    · subst e; simp [bc_up]
    · have e2 : ¬ j = i := e
      simp [bc_up, e2]; exact h1 j (by omega)
theorem c4_clear (k : ∀ h', pd_SG (fun _ => 0) (fun _ => 0) (fun _ => 0) (fun _ => 0) h' → pd_fr 24 27 h h' → post none h') : bc_OK (d + 1) 43 [.inr (.inr 23)] h post := by
  refine bc_run (n := 2) ck_X4_clear rfl rfl rfl rfl (Nat.le_of_ble_eq_true rfl) ?_
  simp only [k_X4_clear, ↓vl_iconst, ↓vl_bipush, ↓vl_sipush, ↓vl_lconst, ↓vl_ldc, ↓vl_ldcw, ↓vl_ldc2, ↓vl_iload0, ↓vl_aload0, ↓vl_istore0, ↓vl_iinc0, ↓vl_iload1, ↓vl_aload1, ↓vl_istore1, ↓vl_iinc1, ↓vl_iload2, ↓vl_aload2, ↓vl_istore2, ↓vl_iinc2, ↓vl_iload3, ↓vl_aload3, ↓vl_istore3, ↓vl_iinc3, ↓vl_iload4, ↓vl_istore4, ↓vl_iinc4, ↓vl_iload5, ↓vl_istore5, ↓vl_iinc5, ↓vl_iload6, ↓vl_istore6, ↓vl_iinc6, ↓vl_iload7, ↓vl_istore7, ↓vl_iinc7, ↓vl_lload5, ↓vl_lstore5, ↓vl_iadd, ↓vl_isub, ↓vl_imul, ↓vl_iand, ↓vl_ior, ↓vl_ixor, ↓vl_ishl, ↓vl_ishr, ↓vl_iushr, ↓vl_idiv, ↓vl_irem, ↓vl_ladd, ↓vl_lsub, ↓vl_lmul, ↓vl_lcmp, ↓vl_i2l, ↓vl_dup, ↓vl_dup2, ↓vl_gotoF, ↓vl_gotoB, ↓vl_nnF, ↓vl_ic_eqF, ↓vl_if_eqF, ↓vl_ic_eqB, ↓vl_if_eqB, ↓vl_ic_neF, ↓vl_if_neF, ↓vl_ic_neB, ↓vl_if_neB, ↓vl_ic_ltF, ↓vl_if_ltF, ↓vl_ic_ltB, ↓vl_if_ltB, ↓vl_ic_geF, ↓vl_if_geF, ↓vl_ic_geB, ↓vl_if_geB, ↓vl_ic_gtF, ↓vl_if_gtF, ↓vl_ic_gtB, ↓vl_if_gtB, ↓vl_ic_leF, ↓vl_if_leF, ↓vl_ic_leB, ↓vl_if_leB, ↓vl_sw, ↓vl_get, ↓vl_putI, ↓vl_putL, ↓vl_iald, ↓vl_iast, ↓vl_alen, ↓vl_aald, ↓vl_iretI, ↓vl_iretZ, ↓vl_ret, ↓vl_mark, ↓vl_markT, ↓vl_skip, ↓vl_st0, ↓vl_vi0, ↓vl_st1, ↓vl_vi1, ↓vl_st2, ↓vl_vi2, ↓vl_st3, ↓vl_vi3, ↓vl_st4, ↓vl_vi4, ↓vl_st5, ↓vl_vi5, ↓vl_st6, ↓vl_vi6, ↓vl_min, ↓vl_max, ↓vl_cpy, ↓vk_kvs, ↓vk_kvn, ↓vk_gf0, ↓vk_gv0, ↓vk_gv1, ↓vk_gv2, ↓vk_pf, ↓vk_ar, ↓vk_arr, bc_lay, bc_fn, bc_mk, bc_cs, bc_cat, bc_nl, bc_nth, bc_en, bc_sw, true_and, and_true, ↓reduceIte, reduceCtorEq, Nat.reduceEqDiff, Nat.reduceLeDiff, Nat.reduceAdd, Nat.le_refl, Nat.zero_le, Int.cast_ofNat_Int, Int.reduceEq, eq_self, true_implies, false_implies, not_true_eq_false, not_false_eq_true, bc_vr, Int.reduceToNat, Int.toNat_natCast, Int.reduceLE, Int.reduceLT, Int.reduceNeg, true_or, or_true, forall_const, Int.reduceAdd]
  exact l4_clear1 k 12 0 h (by omega) (fun j hj => by omega) pd_fr_refl
theorem c4_isCell {s f : Int} (hs : s = 0 ∨ s = 1) (hf : 0 ≤ f ∧ f ≤ 5) (k : post (some (.inl 1)) h) : bc_OK (d + 1) 44 [.inl s, .inl f] h post := by
  refine bc_run (n := 2) ck_X4_isCell rfl rfl rfl rfl (Nat.le_of_ble_eq_true rfl) ?_
  simp only [k_X4_isCell, ↓vl_iconst, ↓vl_bipush, ↓vl_sipush, ↓vl_lconst, ↓vl_ldc, ↓vl_ldcw, ↓vl_ldc2, ↓vl_iload0, ↓vl_aload0, ↓vl_istore0, ↓vl_iinc0, ↓vl_iload1, ↓vl_aload1, ↓vl_istore1, ↓vl_iinc1, ↓vl_iload2, ↓vl_aload2, ↓vl_istore2, ↓vl_iinc2, ↓vl_iload3, ↓vl_aload3, ↓vl_istore3, ↓vl_iinc3, ↓vl_iload4, ↓vl_istore4, ↓vl_iinc4, ↓vl_iload5, ↓vl_istore5, ↓vl_iinc5, ↓vl_iload6, ↓vl_istore6, ↓vl_iinc6, ↓vl_iload7, ↓vl_istore7, ↓vl_iinc7, ↓vl_lload5, ↓vl_lstore5, ↓vl_iadd, ↓vl_isub, ↓vl_imul, ↓vl_iand, ↓vl_ior, ↓vl_ixor, ↓vl_ishl, ↓vl_ishr, ↓vl_iushr, ↓vl_idiv, ↓vl_irem, ↓vl_ladd, ↓vl_lsub, ↓vl_lmul, ↓vl_lcmp, ↓vl_i2l, ↓vl_dup, ↓vl_dup2, ↓vl_gotoF, ↓vl_gotoB, ↓vl_nnF, ↓vl_ic_eqF, ↓vl_if_eqF, ↓vl_ic_eqB, ↓vl_if_eqB, ↓vl_ic_neF, ↓vl_if_neF, ↓vl_ic_neB, ↓vl_if_neB, ↓vl_ic_ltF, ↓vl_if_ltF, ↓vl_ic_ltB, ↓vl_if_ltB, ↓vl_ic_geF, ↓vl_if_geF, ↓vl_ic_geB, ↓vl_if_geB, ↓vl_ic_gtF, ↓vl_if_gtF, ↓vl_ic_gtB, ↓vl_if_gtB, ↓vl_ic_leF, ↓vl_if_leF, ↓vl_ic_leB, ↓vl_if_leB, ↓vl_sw, ↓vl_get, ↓vl_putI, ↓vl_putL, ↓vl_iald, ↓vl_iast, ↓vl_alen, ↓vl_aald, ↓vl_iretI, ↓vl_iretZ, ↓vl_ret, ↓vl_mark, ↓vl_markT, ↓vl_skip, ↓vl_st0, ↓vl_vi0, ↓vl_st1, ↓vl_vi1, ↓vl_st2, ↓vl_vi2, ↓vl_st3, ↓vl_vi3, ↓vl_st4, ↓vl_vi4, ↓vl_st5, ↓vl_vi5, ↓vl_st6, ↓vl_vi6, ↓vl_min, ↓vl_max, ↓vl_cpy, ↓vk_kvs, ↓vk_kvn, ↓vk_gf0, ↓vk_gv0, ↓vk_gv1, ↓vk_gv2, ↓vk_pf, ↓vk_ar, ↓vk_arr, bc_lay, bc_fn, bc_mk, bc_cs, bc_cat, bc_nl, bc_nth, bc_en, bc_sw, true_and, and_true, ↓reduceIte, reduceCtorEq, Nat.reduceEqDiff, Nat.reduceLeDiff, Nat.reduceAdd, Nat.le_refl, Nat.zero_le, Int.cast_ofNat_Int, Int.reduceEq, eq_self, true_implies, false_implies, not_true_eq_false, not_false_eq_true, bc_vr, Int.reduceToNat, Int.toNat_natCast, Int.reduceLE, Int.reduceLT, Int.reduceNeg, true_or, or_true, forall_const, Int.reduceAdd]
  repeat' (first | refine And.intro ?_ ?_ | intro _)
  all_goals first | omega | exact k
/-- one cell grows -/
def pd_g1 (g : Nat → Int) (f : Int) (q : Int) : Nat → Int := fun j => if (j : Int) = f then g j + q else g j
theorem pd_g1_t6 {g : Nat → Int} {f q : Int} (hf : 0 ≤ f ∧ f ≤ 5) : pd_t6 (pd_g1 g f q) = pd_t6 g + q := by
  have : f = 0 ∨ f = 1 ∨ f = 2 ∨ f = 3 ∨ f = 4 ∨ f = 5 := by omega
  rcases this with e | e | e | e | e | e <;> subst e <;> simp [pd_t6, pd_g1] <;> omega
theorem c4_addLow {L0 L1 H0 H1 : Nat → Int} (hS : pd_SG L0 L1 H0 H1 h) {s f q : Int} (hs : s = 0 ∨ s = 1) (hf : 0 ≤ f ∧ f ≤ 5) (k : ∀ h', pd_SG (if s = 0 then pd_g1 L0 f q else L0) (if s = 1 then pd_g1 L1 f q else L1) H0 H1 h' → pd_fr 24 27 h h' → post none h') : bc_OK (d + 2) 45 [.inr (.inr 23), .inl s, .inl f, .inl q] h post := by
  refine bc_run (n := 4) ck_X4_addLow rfl rfl rfl rfl (Nat.le_of_ble_eq_true rfl) ?_
  simp only [k_X4_addLow, ↓vl_iconst, ↓vl_bipush, ↓vl_sipush, ↓vl_lconst, ↓vl_ldc, ↓vl_ldcw, ↓vl_ldc2, ↓vl_iload0, ↓vl_aload0, ↓vl_istore0, ↓vl_iinc0, ↓vl_iload1, ↓vl_aload1, ↓vl_istore1, ↓vl_iinc1, ↓vl_iload2, ↓vl_aload2, ↓vl_istore2, ↓vl_iinc2, ↓vl_iload3, ↓vl_aload3, ↓vl_istore3, ↓vl_iinc3, ↓vl_iload4, ↓vl_istore4, ↓vl_iinc4, ↓vl_iload5, ↓vl_istore5, ↓vl_iinc5, ↓vl_iload6, ↓vl_istore6, ↓vl_iinc6, ↓vl_iload7, ↓vl_istore7, ↓vl_iinc7, ↓vl_lload5, ↓vl_lstore5, ↓vl_iadd, ↓vl_isub, ↓vl_imul, ↓vl_iand, ↓vl_ior, ↓vl_ixor, ↓vl_ishl, ↓vl_ishr, ↓vl_iushr, ↓vl_idiv, ↓vl_irem, ↓vl_ladd, ↓vl_lsub, ↓vl_lmul, ↓vl_lcmp, ↓vl_i2l, ↓vl_dup, ↓vl_dup2, ↓vl_gotoF, ↓vl_gotoB, ↓vl_nnF, ↓vl_ic_eqF, ↓vl_if_eqF, ↓vl_ic_eqB, ↓vl_if_eqB, ↓vl_ic_neF, ↓vl_if_neF, ↓vl_ic_neB, ↓vl_if_neB, ↓vl_ic_ltF, ↓vl_if_ltF, ↓vl_ic_ltB, ↓vl_if_ltB, ↓vl_ic_geF, ↓vl_if_geF, ↓vl_ic_geB, ↓vl_if_geB, ↓vl_ic_gtF, ↓vl_if_gtF, ↓vl_ic_gtB, ↓vl_if_gtB, ↓vl_ic_leF, ↓vl_if_leF, ↓vl_ic_leB, ↓vl_if_leB, ↓vl_sw, ↓vl_get, ↓vl_putI, ↓vl_putL, ↓vl_iald, ↓vl_iast, ↓vl_alen, ↓vl_aald, ↓vl_iretI, ↓vl_iretZ, ↓vl_ret, ↓vl_mark, ↓vl_markT, ↓vl_skip, ↓vl_st0, ↓vl_vi0, ↓vl_st1, ↓vl_vi1, ↓vl_st2, ↓vl_vi2, ↓vl_st3, ↓vl_vi3, ↓vl_st4, ↓vl_vi4, ↓vl_st5, ↓vl_vi5, ↓vl_st6, ↓vl_vi6, ↓vl_min, ↓vl_max, ↓vl_cpy, ↓vk_kvs, ↓vk_kvn, ↓vk_gf0, ↓vk_gv0, ↓vk_gv1, ↓vk_gv2, ↓vk_pf, ↓vk_ar, ↓vk_arr, bc_lay, bc_fn, bc_mk, bc_cs, bc_cat, bc_nl, bc_nth, bc_en, bc_sw, true_and, and_true, ↓reduceIte, reduceCtorEq, Nat.reduceEqDiff, Nat.reduceLeDiff, Nat.reduceAdd, Nat.le_refl, Nat.zero_le, Int.cast_ofNat_Int, Int.reduceEq, eq_self, true_implies, false_implies, not_true_eq_false, not_false_eq_true, bc_vr, Int.reduceToNat, Int.toNat_natCast, Int.reduceLE, Int.reduceLT, Int.reduceNeg, true_or, or_true, forall_const, Int.reduceAdd]
  refine c4_isCell hs hf ?_
  simp only [↓vl_iconst, ↓vl_bipush, ↓vl_sipush, ↓vl_lconst, ↓vl_ldc, ↓vl_ldcw, ↓vl_ldc2, ↓vl_iload0, ↓vl_aload0, ↓vl_istore0, ↓vl_iinc0, ↓vl_iload1, ↓vl_aload1, ↓vl_istore1, ↓vl_iinc1, ↓vl_iload2, ↓vl_aload2, ↓vl_istore2, ↓vl_iinc2, ↓vl_iload3, ↓vl_aload3, ↓vl_istore3, ↓vl_iinc3, ↓vl_iload4, ↓vl_istore4, ↓vl_iinc4, ↓vl_iload5, ↓vl_istore5, ↓vl_iinc5, ↓vl_iload6, ↓vl_istore6, ↓vl_iinc6, ↓vl_iload7, ↓vl_istore7, ↓vl_iinc7, ↓vl_lload5, ↓vl_lstore5, ↓vl_iadd, ↓vl_isub, ↓vl_imul, ↓vl_iand, ↓vl_ior, ↓vl_ixor, ↓vl_ishl, ↓vl_ishr, ↓vl_iushr, ↓vl_idiv, ↓vl_irem, ↓vl_ladd, ↓vl_lsub, ↓vl_lmul, ↓vl_lcmp, ↓vl_i2l, ↓vl_dup, ↓vl_dup2, ↓vl_gotoF, ↓vl_gotoB, ↓vl_nnF, ↓vl_ic_eqF, ↓vl_if_eqF, ↓vl_ic_eqB, ↓vl_if_eqB, ↓vl_ic_neF, ↓vl_if_neF, ↓vl_ic_neB, ↓vl_if_neB, ↓vl_ic_ltF, ↓vl_if_ltF, ↓vl_ic_ltB, ↓vl_if_ltB, ↓vl_ic_geF, ↓vl_if_geF, ↓vl_ic_geB, ↓vl_if_geB, ↓vl_ic_gtF, ↓vl_if_gtF, ↓vl_ic_gtB, ↓vl_if_gtB, ↓vl_ic_leF, ↓vl_if_leF, ↓vl_ic_leB, ↓vl_if_leB, ↓vl_sw, ↓vl_get, ↓vl_putI, ↓vl_putL, ↓vl_iald, ↓vl_iast, ↓vl_alen, ↓vl_aald, ↓vl_iretI, ↓vl_iretZ, ↓vl_ret, ↓vl_mark, ↓vl_markT, ↓vl_skip, ↓vl_st0, ↓vl_vi0, ↓vl_st1, ↓vl_vi1, ↓vl_st2, ↓vl_vi2, ↓vl_st3, ↓vl_vi3, ↓vl_st4, ↓vl_vi4, ↓vl_st5, ↓vl_vi5, ↓vl_st6, ↓vl_vi6, ↓vl_min, ↓vl_max, ↓vl_cpy, ↓vk_kvs, ↓vk_kvn, ↓vk_gf0, ↓vk_gv0, ↓vk_gv1, ↓vk_gv2, ↓vk_pf, ↓vk_ar, ↓vk_arr, bc_lay, bc_fn, bc_mk, bc_cs, bc_cat, bc_nl, bc_nth, bc_en, bc_sw, true_and, and_true, ↓reduceIte, reduceCtorEq, Nat.reduceEqDiff, Nat.reduceLeDiff, Nat.reduceAdd, Nat.le_refl, Nat.zero_le, Int.cast_ofNat_Int, Int.reduceEq, eq_self, true_implies, false_implies, not_true_eq_false, not_false_eq_true, bc_vr, Int.reduceToNat, Int.toNat_natCast, Int.reduceLE, Int.reduceLT, Int.reduceNeg, true_or, or_true, forall_const, Int.reduceAdd]
  obtain ⟨s1, s2, s3, s4, s5⟩ := hS
  refine ⟨by omega, by omega, by omega, by omega, by omega, by omega, by omega, by omega, ?_⟩
  refine k _ ?_ (pd_fr_up (pd_fr_up pd_fr_refl (by omega) (by omega)) (by omega) (by omega))
  obtain ⟨a, ha⟩ := Int.eq_ofNat_of_zero_le hf.1
  subst ha
  rcases hs with e | e <;> subst e
  · have e1 : ((0 : Int) * 6 + (a : Int)).toNat = a := by omega
    simp only [e1]
    refine ⟨fun j hj => ?_, ?_, ?_, ?_, ?_⟩
    · obtain ⟨t1, t2, t3, t4⟩ := s1 j hj
      obtain ⟨u1, -⟩ := s1 a (by omega)
      have : ¬ 6 + j = a := by omega
      by_cases hja : j = a
      · subst hja; simp [bc_up, pd_g1, t1, t2, t3, t4, this]
      · have h2 : ¬ (j : Int) = (a : Int) := by omega
        simp [bc_up, pd_g1, t1, t2, t3, t4, this, hja, h2]
    · simp [bc_up, s2, pd_g1_t6 hf]
    · simp [bc_up, s3]
    · simp [bc_up, s4]
    · simp [bc_up, s5]
  · have e1 : ((1 : Int) * 6 + (a : Int)).toNat = 6 + a := by omega
    simp only [e1]
    refine ⟨fun j hj => ?_, ?_, ?_, ?_, ?_⟩
    · obtain ⟨t1, t2, t3, t4⟩ := s1 j hj
      obtain ⟨-, u1, -⟩ := s1 a (by omega)
      have : ¬ j = 6 + a := by omega
      by_cases hja : j = a
      · subst hja; simp [bc_up, pd_g1, t1, t2, t3, t4, this]
      · have h2 : ¬ (j : Int) = (a : Int) := by omega
        simp [bc_up, pd_g1, t1, t2, t3, t4, this, hja, h2]
    · simp [bc_up, s2]
    · simp [bc_up, s3, pd_g1_t6 hf]
    · simp [bc_up, s4]
    · simp [bc_up, s5]
theorem c4_addHigh {L0 L1 H0 H1 : Nat → Int} (hS : pd_SG L0 L1 H0 H1 h) {s f q : Int} (hs : s = 0 ∨ s = 1) (hf : 0 ≤ f ∧ f ≤ 5) (k : ∀ h', pd_SG L0 L1 (if s = 0 then pd_g1 H0 f q else H0) (if s = 1 then pd_g1 H1 f q else H1) h' → pd_fr 24 27 h h' → post none h') : bc_OK (d + 2) 46 [.inr (.inr 23), .inl s, .inl f, .inl q] h post := by
  refine bc_run (n := 4) ck_X4_addHigh rfl rfl rfl rfl (Nat.le_of_ble_eq_true rfl) ?_
  simp only [k_X4_addHigh, ↓vl_iconst, ↓vl_bipush, ↓vl_sipush, ↓vl_lconst, ↓vl_ldc, ↓vl_ldcw, ↓vl_ldc2, ↓vl_iload0, ↓vl_aload0, ↓vl_istore0, ↓vl_iinc0, ↓vl_iload1, ↓vl_aload1, ↓vl_istore1, ↓vl_iinc1, ↓vl_iload2, ↓vl_aload2, ↓vl_istore2, ↓vl_iinc2, ↓vl_iload3, ↓vl_aload3, ↓vl_istore3, ↓vl_iinc3, ↓vl_iload4, ↓vl_istore4, ↓vl_iinc4, ↓vl_iload5, ↓vl_istore5, ↓vl_iinc5, ↓vl_iload6, ↓vl_istore6, ↓vl_iinc6, ↓vl_iload7, ↓vl_istore7, ↓vl_iinc7, ↓vl_lload5, ↓vl_lstore5, ↓vl_iadd, ↓vl_isub, ↓vl_imul, ↓vl_iand, ↓vl_ior, ↓vl_ixor, ↓vl_ishl, ↓vl_ishr, ↓vl_iushr, ↓vl_idiv, ↓vl_irem, ↓vl_ladd, ↓vl_lsub, ↓vl_lmul, ↓vl_lcmp, ↓vl_i2l, ↓vl_dup, ↓vl_dup2, ↓vl_gotoF, ↓vl_gotoB, ↓vl_nnF, ↓vl_ic_eqF, ↓vl_if_eqF, ↓vl_ic_eqB, ↓vl_if_eqB, ↓vl_ic_neF, ↓vl_if_neF, ↓vl_ic_neB, ↓vl_if_neB, ↓vl_ic_ltF, ↓vl_if_ltF, ↓vl_ic_ltB, ↓vl_if_ltB, ↓vl_ic_geF, ↓vl_if_geF, ↓vl_ic_geB, ↓vl_if_geB, ↓vl_ic_gtF, ↓vl_if_gtF, ↓vl_ic_gtB, ↓vl_if_gtB, ↓vl_ic_leF, ↓vl_if_leF, ↓vl_ic_leB, ↓vl_if_leB, ↓vl_sw, ↓vl_get, ↓vl_putI, ↓vl_putL, ↓vl_iald, ↓vl_iast, ↓vl_alen, ↓vl_aald, ↓vl_iretI, ↓vl_iretZ, ↓vl_ret, ↓vl_mark, ↓vl_markT, ↓vl_skip, ↓vl_st0, ↓vl_vi0, ↓vl_st1, ↓vl_vi1, ↓vl_st2, ↓vl_vi2, ↓vl_st3, ↓vl_vi3, ↓vl_st4, ↓vl_vi4, ↓vl_st5, ↓vl_vi5, ↓vl_st6, ↓vl_vi6, ↓vl_min, ↓vl_max, ↓vl_cpy, ↓vk_kvs, ↓vk_kvn, ↓vk_gf0, ↓vk_gv0, ↓vk_gv1, ↓vk_gv2, ↓vk_pf, ↓vk_ar, ↓vk_arr, bc_lay, bc_fn, bc_mk, bc_cs, bc_cat, bc_nl, bc_nth, bc_en, bc_sw, true_and, and_true, ↓reduceIte, reduceCtorEq, Nat.reduceEqDiff, Nat.reduceLeDiff, Nat.reduceAdd, Nat.le_refl, Nat.zero_le, Int.cast_ofNat_Int, Int.reduceEq, eq_self, true_implies, false_implies, not_true_eq_false, not_false_eq_true, bc_vr, Int.reduceToNat, Int.toNat_natCast, Int.reduceLE, Int.reduceLT, Int.reduceNeg, true_or, or_true, forall_const, Int.reduceAdd]
  refine c4_isCell hs hf ?_
  simp only [↓vl_iconst, ↓vl_bipush, ↓vl_sipush, ↓vl_lconst, ↓vl_ldc, ↓vl_ldcw, ↓vl_ldc2, ↓vl_iload0, ↓vl_aload0, ↓vl_istore0, ↓vl_iinc0, ↓vl_iload1, ↓vl_aload1, ↓vl_istore1, ↓vl_iinc1, ↓vl_iload2, ↓vl_aload2, ↓vl_istore2, ↓vl_iinc2, ↓vl_iload3, ↓vl_aload3, ↓vl_istore3, ↓vl_iinc3, ↓vl_iload4, ↓vl_istore4, ↓vl_iinc4, ↓vl_iload5, ↓vl_istore5, ↓vl_iinc5, ↓vl_iload6, ↓vl_istore6, ↓vl_iinc6, ↓vl_iload7, ↓vl_istore7, ↓vl_iinc7, ↓vl_lload5, ↓vl_lstore5, ↓vl_iadd, ↓vl_isub, ↓vl_imul, ↓vl_iand, ↓vl_ior, ↓vl_ixor, ↓vl_ishl, ↓vl_ishr, ↓vl_iushr, ↓vl_idiv, ↓vl_irem, ↓vl_ladd, ↓vl_lsub, ↓vl_lmul, ↓vl_lcmp, ↓vl_i2l, ↓vl_dup, ↓vl_dup2, ↓vl_gotoF, ↓vl_gotoB, ↓vl_nnF, ↓vl_ic_eqF, ↓vl_if_eqF, ↓vl_ic_eqB, ↓vl_if_eqB, ↓vl_ic_neF, ↓vl_if_neF, ↓vl_ic_neB, ↓vl_if_neB, ↓vl_ic_ltF, ↓vl_if_ltF, ↓vl_ic_ltB, ↓vl_if_ltB, ↓vl_ic_geF, ↓vl_if_geF, ↓vl_ic_geB, ↓vl_if_geB, ↓vl_ic_gtF, ↓vl_if_gtF, ↓vl_ic_gtB, ↓vl_if_gtB, ↓vl_ic_leF, ↓vl_if_leF, ↓vl_ic_leB, ↓vl_if_leB, ↓vl_sw, ↓vl_get, ↓vl_putI, ↓vl_putL, ↓vl_iald, ↓vl_iast, ↓vl_alen, ↓vl_aald, ↓vl_iretI, ↓vl_iretZ, ↓vl_ret, ↓vl_mark, ↓vl_markT, ↓vl_skip, ↓vl_st0, ↓vl_vi0, ↓vl_st1, ↓vl_vi1, ↓vl_st2, ↓vl_vi2, ↓vl_st3, ↓vl_vi3, ↓vl_st4, ↓vl_vi4, ↓vl_st5, ↓vl_vi5, ↓vl_st6, ↓vl_vi6, ↓vl_min, ↓vl_max, ↓vl_cpy, ↓vk_kvs, ↓vk_kvn, ↓vk_gf0, ↓vk_gv0, ↓vk_gv1, ↓vk_gv2, ↓vk_pf, ↓vk_ar, ↓vk_arr, bc_lay, bc_fn, bc_mk, bc_cs, bc_cat, bc_nl, bc_nth, bc_en, bc_sw, true_and, and_true, ↓reduceIte, reduceCtorEq, Nat.reduceEqDiff, Nat.reduceLeDiff, Nat.reduceAdd, Nat.le_refl, Nat.zero_le, Int.cast_ofNat_Int, Int.reduceEq, eq_self, true_implies, false_implies, not_true_eq_false, not_false_eq_true, bc_vr, Int.reduceToNat, Int.toNat_natCast, Int.reduceLE, Int.reduceLT, Int.reduceNeg, true_or, or_true, forall_const, Int.reduceAdd]
  obtain ⟨s1, s2, s3, s4, s5⟩ := hS
  refine ⟨by omega, by omega, by omega, by omega, by omega, by omega, by omega, by omega, ?_⟩
  refine k _ ?_ (pd_fr_up (pd_fr_up pd_fr_refl (by omega) (by omega)) (by omega) (by omega))
  obtain ⟨a, ha⟩ := Int.eq_ofNat_of_zero_le hf.1
  subst ha
  rcases hs with e | e <;> subst e
  · have e1 : ((0 : Int) * 6 + (a : Int)).toNat = a := by omega
    simp only [e1]
    refine ⟨fun j hj => ?_, ?_, ?_, ?_, ?_⟩
    · obtain ⟨t1, t2, t3, t4⟩ := s1 j hj
      have : ¬ 6 + j = a := by omega
      by_cases hja : j = a
      · subst hja; simp [bc_up, pd_g1, t1, t2, t3, t4, this]
      · have h2 : ¬ (j : Int) = (a : Int) := by omega
        simp [bc_up, pd_g1, t1, t2, t3, t4, this, hja, h2]
    · simp [bc_up, s2]
    · simp [bc_up, s3]
    · simp [bc_up, s4, pd_g1_t6 hf]
    · simp [bc_up, s5]
  · have e1 : ((1 : Int) * 6 + (a : Int)).toNat = 6 + a := by omega
    simp only [e1]
    refine ⟨fun j hj => ?_, ?_, ?_, ?_, ?_⟩
    · obtain ⟨t1, t2, t3, t4⟩ := s1 j hj
      have : ¬ j = 6 + a := by omega
      by_cases hja : j = a
      · subst hja; simp [bc_up, pd_g1, t1, t2, t3, t4, this]
      · have h2 : ¬ (j : Int) = (a : Int) := by omega
        simp [bc_up, pd_g1, t1, t2, t3, t4, this, hja, h2]
    · simp [bc_up, s2]
    · simp [bc_up, s3]
    · simp [bc_up, s4]
    · simp [bc_up, s5, pd_g1_t6 hf]
def pd_bd (g : Nat → Int) : Prop := ∀ f : Nat, f < 6 → 0 ≤ g f ∧ g f ≤ 100000
theorem pd_bd_t6 {g : Nat → Int} (hg : pd_bd g) : 0 ≤ pd_t6 g ∧ pd_t6 g ≤ 600000 := by
  have h0 := hg 0 (by omega); have h1 := hg 1 (by omega); have h2 := hg 2 (by omega); have h3 := hg 3 (by omega); have h4 := hg 4 (by omega); have h5 := hg 5 (by omega)
  unfold pd_t6; omega
theorem pd_ce_bd {H0 H1 : Nat → Int} (h0 : pd_bd H0) (h1 : pd_bd H1) : ∀ n, n ≤ 6 → 0 ≤ pd_ce H0 H1 n ∧ pd_ce H0 H1 n ≤ 600000 := by
  have t0 := pd_bd_t6 h0
  have t1 := pd_bd_t6 h1
  intro n hn
  refine ⟨pd_ce_ge t0.1 t1.1 n (fun f hf => ?_), by have := (pd_ce_le (H0 := H0) (H1 := H1) n).1; omega⟩
  have := pd_t6_one (fun f hf => (h0 f hf).1) (f := f) (by omega)
  have := pd_t6_one (fun f hf => (h1 f hf).1) (f := f) (by omega)
  omega
set_option maxRecDepth 20000 in
theorem l4_most {L0 L1 H0 H1 : Nat → Int} (hS : pd_SG L0 L1 H0 H1 h) (b0 : pd_bd L0) (b1 : pd_bd L1) (b2 : pd_bd H0) (b3 : pd_bd H1) (k : post (some (.inl (pd_vol L0 L1 H0 H1))) h) : ∀ (n i : Nat), i + n = 6 → pd_my L0 L1 H0 H1 i = true → bc_AT d 47 post 34 [some (.inr (.inr 23)), some (.inl (pd_ce H0 H1 i)), some (.inl (max (pd_t6 L0) (pd_t6 L1))), some (.inl (i : Int)), none, none] [] h := by
  obtain ⟨s1, s2, s3, s4, s5⟩ := hS
  have t0 := pd_bd_t6 b0
  have t1 := pd_bd_t6 b1
  have t2 := pd_bd_t6 b2
  have t3 := pd_bd_t6 b3
  intro n
  induction n with
  | zero =>
    intro i hi hm
    have e : i = 6 := by omega
    subst e
    have cb := pd_ce_bd b2 b3 6 (by omega)
    refine bc_at ck_X4_most ?_
    simp only [k_X4_most, ↓vl_iconst, ↓vl_bipush, ↓vl_sipush, ↓vl_lconst, ↓vl_ldc, ↓vl_ldcw, ↓vl_ldc2, ↓vl_iload0, ↓vl_aload0, ↓vl_istore0, ↓vl_iinc0, ↓vl_iload1, ↓vl_aload1, ↓vl_istore1, ↓vl_iinc1, ↓vl_iload2, ↓vl_aload2, ↓vl_istore2, ↓vl_iinc2, ↓vl_iload3, ↓vl_aload3, ↓vl_istore3, ↓vl_iinc3, ↓vl_iload4, ↓vl_istore4, ↓vl_iinc4, ↓vl_iload5, ↓vl_istore5, ↓vl_iinc5, ↓vl_iload6, ↓vl_istore6, ↓vl_iinc6, ↓vl_iload7, ↓vl_istore7, ↓vl_iinc7, ↓vl_lload5, ↓vl_lstore5, ↓vl_iadd, ↓vl_isub, ↓vl_imul, ↓vl_iand, ↓vl_ior, ↓vl_ixor, ↓vl_ishl, ↓vl_ishr, ↓vl_iushr, ↓vl_idiv, ↓vl_irem, ↓vl_ladd, ↓vl_lsub, ↓vl_lmul, ↓vl_lcmp, ↓vl_i2l, ↓vl_dup, ↓vl_dup2, ↓vl_gotoF, ↓vl_gotoB, ↓vl_nnF, ↓vl_ic_eqF, ↓vl_if_eqF, ↓vl_ic_eqB, ↓vl_if_eqB, ↓vl_ic_neF, ↓vl_if_neF, ↓vl_ic_neB, ↓vl_if_neB, ↓vl_ic_ltF, ↓vl_if_ltF, ↓vl_ic_ltB, ↓vl_if_ltB, ↓vl_ic_geF, ↓vl_if_geF, ↓vl_ic_geB, ↓vl_if_geB, ↓vl_ic_gtF, ↓vl_if_gtF, ↓vl_ic_gtB, ↓vl_if_gtB, ↓vl_ic_leF, ↓vl_if_leF, ↓vl_ic_leB, ↓vl_if_leB, ↓vl_sw, ↓vl_get, ↓vl_putI, ↓vl_putL, ↓vl_iald, ↓vl_iast, ↓vl_alen, ↓vl_aald, ↓vl_iretI, ↓vl_iretZ, ↓vl_ret, ↓vl_mark, ↓vl_markT, ↓vl_skip, ↓vl_st0, ↓vl_vi0, ↓vl_st1, ↓vl_vi1, ↓vl_st2, ↓vl_vi2, ↓vl_st3, ↓vl_vi3, ↓vl_st4, ↓vl_vi4, ↓vl_st5, ↓vl_vi5, ↓vl_st6, ↓vl_vi6, ↓vl_min, ↓vl_max, ↓vl_cpy, ↓vk_kvs, ↓vk_kvn, ↓vk_gf0, ↓vk_gv0, ↓vk_gv1, ↓vk_gv2, ↓vk_pf, ↓vk_ar, ↓vk_arr, bc_lay, bc_fn, bc_mk, bc_cs, bc_cat, bc_nl, bc_nth, bc_en, bc_sw, true_and, and_true, ↓reduceIte, reduceCtorEq, Nat.reduceEqDiff, Nat.reduceLeDiff, Nat.reduceAdd, Nat.le_refl, Nat.zero_le, Int.cast_ofNat_Int, Int.reduceEq, eq_self, true_implies, false_implies, not_true_eq_false, not_false_eq_true, bc_vr, Int.reduceToNat, Int.toNat_natCast, Int.reduceLE, Int.reduceLT, Int.reduceNeg, true_or, or_true, forall_const, Int.reduceAdd]
    refine ⟨⟨by omega, by omega⟩, ⟨by omega, by omega⟩, fun c => ?_, fun c => ?_⟩
    · have hc : ¬ pd_can L0 L1 H0 H1 = true := by
        rw [pd_can_iff]; intro q; omega
      have : pd_vol L0 L1 H0 H1 = -1 := by unfold pd_vol; rw [if_neg hc]
      rw [← this]; exact k
    · have hc : pd_can L0 L1 H0 H1 = true := by
        rw [pd_can_iff]; exact ⟨(pd_my_iff 6).mp hm, by omega, by omega⟩
      have : pd_vol L0 L1 H0 H1 = pd_ce H0 H1 6 := by unfold pd_vol; rw [if_pos hc]
      rw [← this]; exact k
  | succ n ih =>
    intro i hi hm
    obtain ⟨u1, u2, u3, u4⟩ := s1 i (by omega)
    have cb := pd_ce_bd b2 b3 i (by omega)
    have v0 := b0 i (by omega)
    have v1 := b1 i (by omega)
    have v2 := b2 i (by omega)
    have v3 := b3 i (by omega)
    have e1 : ((6 : Int) + (i : Int)).toNat = 6 + i := by omega
    have fail : ¬ (L0 i ≤ pd_t6 H1 - H1 i ∧ L1 i ≤ pd_t6 H0 - H0 i) → pd_vol L0 L1 H0 H1 = -1 := by
      intro q
      have hc : ¬ pd_can L0 L1 H0 H1 = true := by
        rw [pd_can_iff]; intro z; exact q (z.1 i (by omega))
      unfold pd_vol; rw [if_neg hc]
    refine bc_at ck_X4_most ?_
    simp only [k_X4_most, ↓vl_iconst, ↓vl_bipush, ↓vl_sipush, ↓vl_lconst, ↓vl_ldc, ↓vl_ldcw, ↓vl_ldc2, ↓vl_iload0, ↓vl_aload0, ↓vl_istore0, ↓vl_iinc0, ↓vl_iload1, ↓vl_aload1, ↓vl_istore1, ↓vl_iinc1, ↓vl_iload2, ↓vl_aload2, ↓vl_istore2, ↓vl_iinc2, ↓vl_iload3, ↓vl_aload3, ↓vl_istore3, ↓vl_iinc3, ↓vl_iload4, ↓vl_istore4, ↓vl_iinc4, ↓vl_iload5, ↓vl_istore5, ↓vl_iinc5, ↓vl_iload6, ↓vl_istore6, ↓vl_iinc6, ↓vl_iload7, ↓vl_istore7, ↓vl_iinc7, ↓vl_lload5, ↓vl_lstore5, ↓vl_iadd, ↓vl_isub, ↓vl_imul, ↓vl_iand, ↓vl_ior, ↓vl_ixor, ↓vl_ishl, ↓vl_ishr, ↓vl_iushr, ↓vl_idiv, ↓vl_irem, ↓vl_ladd, ↓vl_lsub, ↓vl_lmul, ↓vl_lcmp, ↓vl_i2l, ↓vl_dup, ↓vl_dup2, ↓vl_gotoF, ↓vl_gotoB, ↓vl_nnF, ↓vl_ic_eqF, ↓vl_if_eqF, ↓vl_ic_eqB, ↓vl_if_eqB, ↓vl_ic_neF, ↓vl_if_neF, ↓vl_ic_neB, ↓vl_if_neB, ↓vl_ic_ltF, ↓vl_if_ltF, ↓vl_ic_ltB, ↓vl_if_ltB, ↓vl_ic_geF, ↓vl_if_geF, ↓vl_ic_geB, ↓vl_if_geB, ↓vl_ic_gtF, ↓vl_if_gtF, ↓vl_ic_gtB, ↓vl_if_gtB, ↓vl_ic_leF, ↓vl_if_leF, ↓vl_ic_leB, ↓vl_if_leB, ↓vl_sw, ↓vl_get, ↓vl_putI, ↓vl_putL, ↓vl_iald, ↓vl_iast, ↓vl_alen, ↓vl_aald, ↓vl_iretI, ↓vl_iretZ, ↓vl_ret, ↓vl_mark, ↓vl_markT, ↓vl_skip, ↓vl_st0, ↓vl_vi0, ↓vl_st1, ↓vl_vi1, ↓vl_st2, ↓vl_vi2, ↓vl_st3, ↓vl_vi3, ↓vl_st4, ↓vl_vi4, ↓vl_st5, ↓vl_vi5, ↓vl_st6, ↓vl_vi6, ↓vl_min, ↓vl_max, ↓vl_cpy, ↓vk_kvs, ↓vk_kvn, ↓vk_gf0, ↓vk_gv0, ↓vk_gv1, ↓vk_gv2, ↓vk_pf, ↓vk_ar, ↓vk_arr, bc_lay, bc_fn, bc_mk, bc_cs, bc_cat, bc_nl, bc_nth, bc_en, bc_sw, true_and, and_true, ↓reduceIte, reduceCtorEq, Nat.reduceEqDiff, Nat.reduceLeDiff, Nat.reduceAdd, Nat.le_refl, Nat.zero_le, Int.cast_ofNat_Int, Int.reduceEq, eq_self, true_implies, false_implies, not_true_eq_false, not_false_eq_true, bc_vr, Int.reduceToNat, Int.toNat_natCast, Int.reduceLE, Int.reduceLT, Int.reduceNeg, true_or, or_true, forall_const, Int.reduceAdd, e1, s4, s5, u1, u2, u3, u4]
    refine ⟨by omega, fun c => absurd c (by omega), fun _ => ⟨by omega, by omega, by omega, by omega, by omega, by omega, ⟨by omega, by omega⟩, ⟨by omega, by omega⟩, fun c => ?_, fun c => ⟨by omega, by omega, ⟨by omega, by omega⟩, ⟨by omega, by omega⟩, fun c2 => ?_, fun c2 => ?_⟩⟩⟩
    · rw [← fail (by omega)]; exact k
    · have hm2 : pd_my L0 L1 H0 H1 (i + 1) = true := by
        rw [pd_my_iff]
        intro f hf
        by_cases e : f = i
        · subst e; omega
        · exact (pd_my_iff i).mp hm f (by omega)
      have := ih (i + 1) (by omega) hm2
      rw [pd_ce] at this
      refine ⟨⟨by omega, by omega⟩, ⟨by omega, by omega⟩, ?_⟩
      exact this
    · rw [← fail (by omega)]; exact k
set_option maxRecDepth 20000 in
theorem c4_most {L0 L1 H0 H1 : Nat → Int} (hS : pd_SG L0 L1 H0 H1 h) (b0 : pd_bd L0) (b1 : pd_bd L1) (b2 : pd_bd H0) (b3 : pd_bd H1) (k : post (some (.inl (pd_vol L0 L1 H0 H1))) h) : bc_OK (d + 1) 47 [.inr (.inr 23)] h post := by
  have t0 := pd_bd_t6 b0
  have t1 := pd_bd_t6 b1
  have t2 := pd_bd_t6 b2
  have t3 := pd_bd_t6 b3
  refine bc_run (n := 6) ck_X4_most rfl rfl rfl rfl (Nat.le_of_ble_eq_true rfl) ?_
  simp only [k_X4_most, ↓vl_iconst, ↓vl_bipush, ↓vl_sipush, ↓vl_lconst, ↓vl_ldc, ↓vl_ldcw, ↓vl_ldc2, ↓vl_iload0, ↓vl_aload0, ↓vl_istore0, ↓vl_iinc0, ↓vl_iload1, ↓vl_aload1, ↓vl_istore1, ↓vl_iinc1, ↓vl_iload2, ↓vl_aload2, ↓vl_istore2, ↓vl_iinc2, ↓vl_iload3, ↓vl_aload3, ↓vl_istore3, ↓vl_iinc3, ↓vl_iload4, ↓vl_istore4, ↓vl_iinc4, ↓vl_iload5, ↓vl_istore5, ↓vl_iinc5, ↓vl_iload6, ↓vl_istore6, ↓vl_iinc6, ↓vl_iload7, ↓vl_istore7, ↓vl_iinc7, ↓vl_lload5, ↓vl_lstore5, ↓vl_iadd, ↓vl_isub, ↓vl_imul, ↓vl_iand, ↓vl_ior, ↓vl_ixor, ↓vl_ishl, ↓vl_ishr, ↓vl_iushr, ↓vl_idiv, ↓vl_irem, ↓vl_ladd, ↓vl_lsub, ↓vl_lmul, ↓vl_lcmp, ↓vl_i2l, ↓vl_dup, ↓vl_dup2, ↓vl_gotoF, ↓vl_gotoB, ↓vl_nnF, ↓vl_ic_eqF, ↓vl_if_eqF, ↓vl_ic_eqB, ↓vl_if_eqB, ↓vl_ic_neF, ↓vl_if_neF, ↓vl_ic_neB, ↓vl_if_neB, ↓vl_ic_ltF, ↓vl_if_ltF, ↓vl_ic_ltB, ↓vl_if_ltB, ↓vl_ic_geF, ↓vl_if_geF, ↓vl_ic_geB, ↓vl_if_geB, ↓vl_ic_gtF, ↓vl_if_gtF, ↓vl_ic_gtB, ↓vl_if_gtB, ↓vl_ic_leF, ↓vl_if_leF, ↓vl_ic_leB, ↓vl_if_leB, ↓vl_sw, ↓vl_get, ↓vl_putI, ↓vl_putL, ↓vl_iald, ↓vl_iast, ↓vl_alen, ↓vl_aald, ↓vl_iretI, ↓vl_iretZ, ↓vl_ret, ↓vl_mark, ↓vl_markT, ↓vl_skip, ↓vl_st0, ↓vl_vi0, ↓vl_st1, ↓vl_vi1, ↓vl_st2, ↓vl_vi2, ↓vl_st3, ↓vl_vi3, ↓vl_st4, ↓vl_vi4, ↓vl_st5, ↓vl_vi5, ↓vl_st6, ↓vl_vi6, ↓vl_min, ↓vl_max, ↓vl_cpy, ↓vk_kvs, ↓vk_kvn, ↓vk_gf0, ↓vk_gv0, ↓vk_gv1, ↓vk_gv2, ↓vk_pf, ↓vk_ar, ↓vk_arr, bc_lay, bc_fn, bc_mk, bc_cs, bc_cat, bc_nl, bc_nth, bc_en, bc_sw, true_and, and_true, ↓reduceIte, reduceCtorEq, Nat.reduceEqDiff, Nat.reduceLeDiff, Nat.reduceAdd, Nat.le_refl, Nat.zero_le, Int.cast_ofNat_Int, Int.reduceEq, eq_self, true_implies, false_implies, not_true_eq_false, not_false_eq_true, bc_vr, Int.reduceToNat, Int.toNat_natCast, Int.reduceLE, Int.reduceLT, Int.reduceNeg, true_or, or_true, forall_const, Int.reduceAdd, hS.2.1, hS.2.2.1, hS.2.2.2.1, hS.2.2.2.2]
  refine ⟨⟨by omega, by omega⟩, ⟨by omega, by omega⟩, ⟨by omega, by omega⟩, ⟨by omega, by omega⟩, ?_⟩
  exact l4_most hS b0 b1 b2 b3 k 6 0 (by omega) rfl
end Sums
end
section
/-! the class: Cross (cells 22, 28, 29 over the desk and the sums) -/
def pd_lo (D : Nat → Int) (sp sl : Int) (o : Nat) : Int := if (o : Int) = sp then sl else D (7 + 9 * o + 2)
theorem pd_SG_congr {L0 L1 H0 H1 K0 K1 G0 G1 : Nat → Int} {h : bc_AH} (hS : pd_SG L0 L1 H0 H1 h) (a : ∀ f, f < 6 → L0 f = K0 f) (b : ∀ f, f < 6 → L1 f = K1 f) (c : ∀ f, f < 6 → H0 f = G0 f) (e : ∀ f, f < 6 → H1 f = G1 f) : pd_SG K0 K1 G0 G1 h := by
  obtain ⟨s1, s2, s3, s4, s5⟩ := hS
  have t : ∀ {g g' : Nat → Int}, (∀ f, f < 6 → g f = g' f) → pd_t6 g = pd_t6 g' := by
    intro g g' q
    unfold pd_t6
    rw [q 0 (by omega), q 1 (by omega), q 2 (by omega), q 3 (by omega), q 4 (by omega), q 5 (by omega)]
  refine ⟨fun f hf => ?_, by rw [s2, t a], by rw [s3, t b], by rw [s4, t c], by rw [s5, t e]⟩
  obtain ⟨u1, u2, u3, u4⟩ := s1 f hf
  exact ⟨by rw [u1, a f hf], by rw [u2, b f hf], by rw [u3, c f hf], by rw [u4, e f hf]⟩
theorem pd_SG_fr {L0 L1 H0 H1 : Nat → Int} {h h' : bc_AH} (hS : pd_SG L0 L1 H0 H1 h) (e24 : h' 24 = h 24) (e25 : h' 25 = h 25) (e26 : h' 26 = h 26) (e27 : h' 27 = h 27) : pd_SG L0 L1 H0 H1 h' := by
  unfold pd_SG
  rw [e24, e25, e26, e27]
  exact hS
theorem pd_C_fr {c : Nat} {D : Nat → Int} {h h' : bc_AH} (hC : pd_C c D h) (e : ∀ j : Nat, c ≤ j → j ≤ c + 8 → h' j = h j) : pd_C c D h' := by
  unfold pd_C
  rw [e c (by omega) (by omega), e (c + 1) (by omega) (by omega), e (c + 2) (by omega) (by omega), e (c + 3) (by omega) (by omega), e (c + 4) (by omega) (by omega), e (c + 5) (by omega) (by omega), e (c + 6) (by omega) (by omega), e (c + 7) (by omega) (by omega), e (c + 8) (by omega) (by omega)]
  exact hC
def pd_SL (D lo hi : Nat → Int) (T U : List Nat) (h : bc_AH) : Prop := pd_SG (fun f => pd_sf D lo 0 f T) (fun f => pd_sf D lo 1 f T) (fun f => pd_sf D hi 0 f U) (fun f => pd_sf D hi 1 f U) h
theorem pd_sf_bd {D g : Nat → Int} {s : Int} {f : Nat} : ∀ l : List Nat, (∀ x ∈ l, 0 ≤ g x ∧ g x ≤ 999) → 0 ≤ pd_sf D g s f l ∧ pd_sf D g s f l ≤ 999 * l.length := by
  intro l
  induction l with
  | nil => intro _; simp [pd_sf]
  | cons x r ih =>
    intro h
    have h1 := ih (fun y hy => h y (List.mem_cons_of_mem _ hy))
    have h2 := h x List.mem_cons_self
    rw [pd_sf, List.length_cons]
    split <;> omega
theorem pd_bd_sf {D g : Nat → Int} {s : Int} {l : List Nat} (h : ∀ x ∈ l, 0 ≤ g x ∧ g x ≤ 999) (hl : l.length ≤ 24) : pd_bd (fun f => pd_sf D g s f l) := by
  intro f hf
  have := pd_sf_bd (D := D) (s := s) (f := f) l h
  exact ⟨this.1, by show pd_sf D g s f l ≤ 100000; omega⟩
section Cross
variable {d : Nat} {h : bc_AH} {post : Option bc_AV → bc_AH → Prop} {D : Nat → Int}
theorem c6_isIn {x : Int} {o : Nat} (ho : o < 32) (k1 : bc_bit x o = true → post (some (.inl 1)) h) (k0 : ¬ bc_bit x o = true → post (some (.inl 0)) h) : bc_OK (d + 1) 78 [.inl (o : Int), .inl x] h post := by
  refine bc_run (n := 2) ck_X6_isIn rfl rfl rfl rfl (Nat.le_of_ble_eq_true rfl) ?_
  simp only [k_X6_isIn, ↓vl_iconst, ↓vl_bipush, ↓vl_sipush, ↓vl_lconst, ↓vl_ldc, ↓vl_ldcw, ↓vl_ldc2, ↓vl_iload0, ↓vl_aload0, ↓vl_istore0, ↓vl_iinc0, ↓vl_iload1, ↓vl_aload1, ↓vl_istore1, ↓vl_iinc1, ↓vl_iload2, ↓vl_aload2, ↓vl_istore2, ↓vl_iinc2, ↓vl_iload3, ↓vl_aload3, ↓vl_istore3, ↓vl_iinc3, ↓vl_iload4, ↓vl_istore4, ↓vl_iinc4, ↓vl_iload5, ↓vl_istore5, ↓vl_iinc5, ↓vl_iload6, ↓vl_istore6, ↓vl_iinc6, ↓vl_iload7, ↓vl_istore7, ↓vl_iinc7, ↓vl_lload5, ↓vl_lstore5, ↓vl_iadd, ↓vl_isub, ↓vl_imul, ↓vl_iand, ↓vl_ior, ↓vl_ixor, ↓vl_ishl, ↓vl_ishr, ↓vl_iushr, ↓vl_idiv, ↓vl_irem, ↓vl_ladd, ↓vl_lsub, ↓vl_lmul, ↓vl_lcmp, ↓vl_i2l, ↓vl_dup, ↓vl_dup2, ↓vl_gotoF, ↓vl_gotoB, ↓vl_nnF, ↓vl_ic_eqF, ↓vl_if_eqF, ↓vl_ic_eqB, ↓vl_if_eqB, ↓vl_ic_neF, ↓vl_if_neF, ↓vl_ic_neB, ↓vl_if_neB, ↓vl_ic_ltF, ↓vl_if_ltF, ↓vl_ic_ltB, ↓vl_if_ltB, ↓vl_ic_geF, ↓vl_if_geF, ↓vl_ic_geB, ↓vl_if_geB, ↓vl_ic_gtF, ↓vl_if_gtF, ↓vl_ic_gtB, ↓vl_if_gtB, ↓vl_ic_leF, ↓vl_if_leF, ↓vl_ic_leB, ↓vl_if_leB, ↓vl_sw, ↓vl_get, ↓vl_putI, ↓vl_putL, ↓vl_iald, ↓vl_iast, ↓vl_alen, ↓vl_aald, ↓vl_iretI, ↓vl_iretZ, ↓vl_ret, ↓vl_mark, ↓vl_markT, ↓vl_skip, ↓vl_st0, ↓vl_vi0, ↓vl_st1, ↓vl_vi1, ↓vl_st2, ↓vl_vi2, ↓vl_st3, ↓vl_vi3, ↓vl_st4, ↓vl_vi4, ↓vl_st5, ↓vl_vi5, ↓vl_st6, ↓vl_vi6, ↓vl_min, ↓vl_max, ↓vl_cpy, ↓vk_kvs, ↓vk_kvn, ↓vk_gf0, ↓vk_gv0, ↓vk_gv1, ↓vk_gv2, ↓vk_pf, ↓vk_ar, ↓vk_arr, bc_lay, bc_fn, bc_mk, bc_cs, bc_cat, bc_nl, bc_nth, bc_en, bc_sw, true_and, and_true, ↓reduceIte, reduceCtorEq, Nat.reduceEqDiff, Nat.reduceLeDiff, Nat.reduceAdd, Nat.le_refl, Nat.zero_le, Int.cast_ofNat_Int, Int.reduceEq, eq_self, true_implies, false_implies, not_true_eq_false, not_false_eq_true, bc_vr, Int.reduceToNat, Int.toNat_natCast, Int.reduceLE, Int.reduceLT, Int.reduceNeg, true_or, or_true, forall_const, Int.reduceAdd]
  have hv := bc_vr_and (bc_ushr x o) 1
  have hi := bc_isin_u x o ho
  refine ⟨hv, fun c => k0 (fun q => c (hi.mpr q)), fun c => k1 (hi.mp (Classical.not_not.mp c))⟩
theorem c0_leastOf (hC : pd_C 4 D h) (hV : pd_V D) (hsp : bc_vr (h 22 5)) {o : Nat} (h1 : (o : Int) < D 0) (k : post (some (.inl (pd_lo D (h 22 5) (h 22 6) o))) h) : bc_OK (d + 2) 10 [.inr (.inr 22), .inl (o : Int)] h post := by
  have v0 := hV.1
  refine bc_run (n := 2) ck_X0_leastOf rfl rfl rfl rfl (Nat.le_of_ble_eq_true rfl) ?_
  simp only [k_X0_leastOf, ↓vl_iconst, ↓vl_bipush, ↓vl_sipush, ↓vl_lconst, ↓vl_ldc, ↓vl_ldcw, ↓vl_ldc2, ↓vl_iload0, ↓vl_aload0, ↓vl_istore0, ↓vl_iinc0, ↓vl_iload1, ↓vl_aload1, ↓vl_istore1, ↓vl_iinc1, ↓vl_iload2, ↓vl_aload2, ↓vl_istore2, ↓vl_iinc2, ↓vl_iload3, ↓vl_aload3, ↓vl_istore3, ↓vl_iinc3, ↓vl_iload4, ↓vl_istore4, ↓vl_iinc4, ↓vl_iload5, ↓vl_istore5, ↓vl_iinc5, ↓vl_iload6, ↓vl_istore6, ↓vl_iinc6, ↓vl_iload7, ↓vl_istore7, ↓vl_iinc7, ↓vl_lload5, ↓vl_lstore5, ↓vl_iadd, ↓vl_isub, ↓vl_imul, ↓vl_iand, ↓vl_ior, ↓vl_ixor, ↓vl_ishl, ↓vl_ishr, ↓vl_iushr, ↓vl_idiv, ↓vl_irem, ↓vl_ladd, ↓vl_lsub, ↓vl_lmul, ↓vl_lcmp, ↓vl_i2l, ↓vl_dup, ↓vl_dup2, ↓vl_gotoF, ↓vl_gotoB, ↓vl_nnF, ↓vl_ic_eqF, ↓vl_if_eqF, ↓vl_ic_eqB, ↓vl_if_eqB, ↓vl_ic_neF, ↓vl_if_neF, ↓vl_ic_neB, ↓vl_if_neB, ↓vl_ic_ltF, ↓vl_if_ltF, ↓vl_ic_ltB, ↓vl_if_ltB, ↓vl_ic_geF, ↓vl_if_geF, ↓vl_ic_geB, ↓vl_if_geB, ↓vl_ic_gtF, ↓vl_if_gtF, ↓vl_ic_gtB, ↓vl_if_gtB, ↓vl_ic_leF, ↓vl_if_leF, ↓vl_ic_leB, ↓vl_if_leB, ↓vl_sw, ↓vl_get, ↓vl_putI, ↓vl_putL, ↓vl_iald, ↓vl_iast, ↓vl_alen, ↓vl_aald, ↓vl_iretI, ↓vl_iretZ, ↓vl_ret, ↓vl_mark, ↓vl_markT, ↓vl_skip, ↓vl_st0, ↓vl_vi0, ↓vl_st1, ↓vl_vi1, ↓vl_st2, ↓vl_vi2, ↓vl_st3, ↓vl_vi3, ↓vl_st4, ↓vl_vi4, ↓vl_st5, ↓vl_vi5, ↓vl_st6, ↓vl_vi6, ↓vl_min, ↓vl_max, ↓vl_cpy, ↓vk_kvs, ↓vk_kvn, ↓vk_gf0, ↓vk_gv0, ↓vk_gv1, ↓vk_gv2, ↓vk_pf, ↓vk_ar, ↓vk_arr, bc_lay, bc_fn, bc_mk, bc_cs, bc_cat, bc_nl, bc_nth, bc_en, bc_sw, true_and, and_true, ↓reduceIte, reduceCtorEq, Nat.reduceEqDiff, Nat.reduceLeDiff, Nat.reduceAdd, Nat.le_refl, Nat.zero_le, Int.cast_ofNat_Int, Int.reduceEq, eq_self, true_implies, false_implies, not_true_eq_false, not_false_eq_true, bc_vr, Int.reduceToNat, Int.toNat_natCast, Int.reduceLE, Int.reduceLT, Int.reduceNeg, true_or, or_true, forall_const, Int.reduceAdd]
  refine ⟨⟨by omega, by omega⟩, hsp, fun c => ?_, fun c => ?_⟩
  · refine c1_has hC hV ⟨by omega, by omega⟩ (fun _ _ => ?_) (fun q => absurd ⟨by omega, h1⟩ q)
    obtain ⟨-, -, f2, -⟩ := pd_C_at hC (o := (o : Int)) (by omega) h1
    simp only [Int.toNat_natCast] at f2
    have e : pd_lo D (h 22 5) (h 22 6) o = D (7 + 9 * o + 2) := by unfold pd_lo; rw [if_neg c]
    rw [e] at k
    simp only [↓vl_iconst, ↓vl_bipush, ↓vl_sipush, ↓vl_lconst, ↓vl_ldc, ↓vl_ldcw, ↓vl_ldc2, ↓vl_iload0, ↓vl_aload0, ↓vl_istore0, ↓vl_iinc0, ↓vl_iload1, ↓vl_aload1, ↓vl_istore1, ↓vl_iinc1, ↓vl_iload2, ↓vl_aload2, ↓vl_istore2, ↓vl_iinc2, ↓vl_iload3, ↓vl_aload3, ↓vl_istore3, ↓vl_iinc3, ↓vl_iload4, ↓vl_istore4, ↓vl_iinc4, ↓vl_iload5, ↓vl_istore5, ↓vl_iinc5, ↓vl_iload6, ↓vl_istore6, ↓vl_iinc6, ↓vl_iload7, ↓vl_istore7, ↓vl_iinc7, ↓vl_lload5, ↓vl_lstore5, ↓vl_iadd, ↓vl_isub, ↓vl_imul, ↓vl_iand, ↓vl_ior, ↓vl_ixor, ↓vl_ishl, ↓vl_ishr, ↓vl_iushr, ↓vl_idiv, ↓vl_irem, ↓vl_ladd, ↓vl_lsub, ↓vl_lmul, ↓vl_lcmp, ↓vl_i2l, ↓vl_dup, ↓vl_dup2, ↓vl_gotoF, ↓vl_gotoB, ↓vl_nnF, ↓vl_ic_eqF, ↓vl_if_eqF, ↓vl_ic_eqB, ↓vl_if_eqB, ↓vl_ic_neF, ↓vl_if_neF, ↓vl_ic_neB, ↓vl_if_neB, ↓vl_ic_ltF, ↓vl_if_ltF, ↓vl_ic_ltB, ↓vl_if_ltB, ↓vl_ic_geF, ↓vl_if_geF, ↓vl_ic_geB, ↓vl_if_geB, ↓vl_ic_gtF, ↓vl_if_gtF, ↓vl_ic_gtB, ↓vl_if_gtB, ↓vl_ic_leF, ↓vl_if_leF, ↓vl_ic_leB, ↓vl_if_leB, ↓vl_sw, ↓vl_get, ↓vl_putI, ↓vl_putL, ↓vl_iald, ↓vl_iast, ↓vl_alen, ↓vl_aald, ↓vl_iretI, ↓vl_iretZ, ↓vl_ret, ↓vl_mark, ↓vl_markT, ↓vl_skip, ↓vl_st0, ↓vl_vi0, ↓vl_st1, ↓vl_vi1, ↓vl_st2, ↓vl_vi2, ↓vl_st3, ↓vl_vi3, ↓vl_st4, ↓vl_vi4, ↓vl_st5, ↓vl_vi5, ↓vl_st6, ↓vl_vi6, ↓vl_min, ↓vl_max, ↓vl_cpy, ↓vk_kvs, ↓vk_kvn, ↓vk_gf0, ↓vk_gv0, ↓vk_gv1, ↓vk_gv2, ↓vk_pf, ↓vk_ar, ↓vk_arr, bc_lay, bc_fn, bc_mk, bc_cs, bc_cat, bc_nl, bc_nth, bc_en, bc_sw, true_and, and_true, ↓reduceIte, reduceCtorEq, Nat.reduceEqDiff, Nat.reduceLeDiff, Nat.reduceAdd, Nat.le_refl, Nat.zero_le, Int.cast_ofNat_Int, Int.reduceEq, eq_self, true_implies, false_implies, not_true_eq_false, not_false_eq_true, bc_vr, Int.reduceToNat, Int.toNat_natCast, Int.reduceLE, Int.reduceLT, Int.reduceNeg, true_or, or_true, forall_const, Int.reduceAdd, f2]
    exact ⟨by omega, by omega, k⟩
  · have e : pd_lo D (h 22 5) (h 22 6) o = h 22 6 := by unfold pd_lo; rw [if_pos (Classical.not_not.mp c)]
    rw [e] at k
    exact k
theorem pd_g1_sf {g : Nat → Int} {T : List Nat} {x : Nat} {q : Int} {s : Int} (hs : D (7 + 9 * x) = 0 ∨ D (7 + 9 * x) = 1) (f : Nat) : (if D (7 + 9 * x) = s then pd_g1 (fun f => pd_sf D g s f T) (D (7 + 9 * x + 4)) q else (fun f => pd_sf D g s f T)) f = pd_sf D g s f T + (if D (7 + 9 * x) = s ∧ D (7 + 9 * x + 4) = (f : Int) then q else 0) := by
  by_cases h1 : D (7 + 9 * x) = s
  · rw [if_pos h1]
    unfold pd_g1
    by_cases h2 : (f : Int) = D (7 + 9 * x + 4)
    · rw [if_pos h2, if_pos ⟨h1, h2.symm⟩]
    · rw [if_neg h2, if_neg (fun z => h2 z.2.symm)]; show pd_sf D g s f T = _; omega
  · rw [if_neg h1, if_neg (fun z => h1 z.1)]; omega
/-- addLeast(order, 1) and (order, -1) -/
theorem c0_addLeast {lo hi : Nat → Int} {T T' U : List Nat} (hC : pd_C 4 D h) (hV : pd_V D) (hsp : bc_vr (h 22 5)) (hlo : ∀ o, lo o = pd_lo D (h 22 5) (h 22 6) o) {x : Nat} {t : Int} (h1 : (x : Int) < D 0) (hS : pd_SL D lo hi T U h) (hT : ∀ s f, pd_sf D lo s f T' = pd_sf D lo s f T + (if D (7 + 9 * x) = s ∧ D (7 + 9 * x + 4) = (f : Int) then t * lo x else 0))
    (k : ∀ h', pd_SL D lo hi T' U h' → pd_fr 24 27 h h' → post none h') : bc_OK (d + 3) 8 [.inr (.inr 22), .inl (x : Int), .inl t] h post := by
  have v0 := hV.1
  obtain ⟨r0, -, -, -, r4, -⟩ := hV.2.2 x h1
  refine bc_run (n := 3) ck_X0_addLeast rfl rfl rfl rfl (Nat.le_of_ble_eq_true rfl) ?_
  simp only [k_X0_addLeast, ↓vl_iconst, ↓vl_bipush, ↓vl_sipush, ↓vl_lconst, ↓vl_ldc, ↓vl_ldcw, ↓vl_ldc2, ↓vl_iload0, ↓vl_aload0, ↓vl_istore0, ↓vl_iinc0, ↓vl_iload1, ↓vl_aload1, ↓vl_istore1, ↓vl_iinc1, ↓vl_iload2, ↓vl_aload2, ↓vl_istore2, ↓vl_iinc2, ↓vl_iload3, ↓vl_aload3, ↓vl_istore3, ↓vl_iinc3, ↓vl_iload4, ↓vl_istore4, ↓vl_iinc4, ↓vl_iload5, ↓vl_istore5, ↓vl_iinc5, ↓vl_iload6, ↓vl_istore6, ↓vl_iinc6, ↓vl_iload7, ↓vl_istore7, ↓vl_iinc7, ↓vl_lload5, ↓vl_lstore5, ↓vl_iadd, ↓vl_isub, ↓vl_imul, ↓vl_iand, ↓vl_ior, ↓vl_ixor, ↓vl_ishl, ↓vl_ishr, ↓vl_iushr, ↓vl_idiv, ↓vl_irem, ↓vl_ladd, ↓vl_lsub, ↓vl_lmul, ↓vl_lcmp, ↓vl_i2l, ↓vl_dup, ↓vl_dup2, ↓vl_gotoF, ↓vl_gotoB, ↓vl_nnF, ↓vl_ic_eqF, ↓vl_if_eqF, ↓vl_ic_eqB, ↓vl_if_eqB, ↓vl_ic_neF, ↓vl_if_neF, ↓vl_ic_neB, ↓vl_if_neB, ↓vl_ic_ltF, ↓vl_if_ltF, ↓vl_ic_ltB, ↓vl_if_ltB, ↓vl_ic_geF, ↓vl_if_geF, ↓vl_ic_geB, ↓vl_if_geB, ↓vl_ic_gtF, ↓vl_if_gtF, ↓vl_ic_gtB, ↓vl_if_gtB, ↓vl_ic_leF, ↓vl_if_leF, ↓vl_ic_leB, ↓vl_if_leB, ↓vl_sw, ↓vl_get, ↓vl_putI, ↓vl_putL, ↓vl_iald, ↓vl_iast, ↓vl_alen, ↓vl_aald, ↓vl_iretI, ↓vl_iretZ, ↓vl_ret, ↓vl_mark, ↓vl_markT, ↓vl_skip, ↓vl_st0, ↓vl_vi0, ↓vl_st1, ↓vl_vi1, ↓vl_st2, ↓vl_vi2, ↓vl_st3, ↓vl_vi3, ↓vl_st4, ↓vl_vi4, ↓vl_st5, ↓vl_vi5, ↓vl_st6, ↓vl_vi6, ↓vl_min, ↓vl_max, ↓vl_cpy, ↓vk_kvs, ↓vk_kvn, ↓vk_gf0, ↓vk_gv0, ↓vk_gv1, ↓vk_gv2, ↓vk_pf, ↓vk_ar, ↓vk_arr, bc_lay, bc_fn, bc_mk, bc_cs, bc_cat, bc_nl, bc_nth, bc_en, bc_sw, true_and, and_true, ↓reduceIte, reduceCtorEq, Nat.reduceEqDiff, Nat.reduceLeDiff, Nat.reduceAdd, Nat.le_refl, Nat.zero_le, Int.cast_ofNat_Int, Int.reduceEq, eq_self, true_implies, false_implies, not_true_eq_false, not_false_eq_true, bc_vr, Int.reduceToNat, Int.toNat_natCast, Int.reduceLE, Int.reduceLT, Int.reduceNeg, true_or, or_true, forall_const, Int.reduceAdd]
  refine c1_has hC hV ⟨by omega, by omega⟩ (fun _ _ => ?_) (fun q => absurd ⟨by omega, h1⟩ q)
  obtain ⟨f0, -, -, -, f4, -⟩ := pd_C_at hC (o := (x : Int)) (by omega) h1
  simp only [Int.toNat_natCast] at f0 f4
  simp only [↓vl_iconst, ↓vl_bipush, ↓vl_sipush, ↓vl_lconst, ↓vl_ldc, ↓vl_ldcw, ↓vl_ldc2, ↓vl_iload0, ↓vl_aload0, ↓vl_istore0, ↓vl_iinc0, ↓vl_iload1, ↓vl_aload1, ↓vl_istore1, ↓vl_iinc1, ↓vl_iload2, ↓vl_aload2, ↓vl_istore2, ↓vl_iinc2, ↓vl_iload3, ↓vl_aload3, ↓vl_istore3, ↓vl_iinc3, ↓vl_iload4, ↓vl_istore4, ↓vl_iinc4, ↓vl_iload5, ↓vl_istore5, ↓vl_iinc5, ↓vl_iload6, ↓vl_istore6, ↓vl_iinc6, ↓vl_iload7, ↓vl_istore7, ↓vl_iinc7, ↓vl_lload5, ↓vl_lstore5, ↓vl_iadd, ↓vl_isub, ↓vl_imul, ↓vl_iand, ↓vl_ior, ↓vl_ixor, ↓vl_ishl, ↓vl_ishr, ↓vl_iushr, ↓vl_idiv, ↓vl_irem, ↓vl_ladd, ↓vl_lsub, ↓vl_lmul, ↓vl_lcmp, ↓vl_i2l, ↓vl_dup, ↓vl_dup2, ↓vl_gotoF, ↓vl_gotoB, ↓vl_nnF, ↓vl_ic_eqF, ↓vl_if_eqF, ↓vl_ic_eqB, ↓vl_if_eqB, ↓vl_ic_neF, ↓vl_if_neF, ↓vl_ic_neB, ↓vl_if_neB, ↓vl_ic_ltF, ↓vl_if_ltF, ↓vl_ic_ltB, ↓vl_if_ltB, ↓vl_ic_geF, ↓vl_if_geF, ↓vl_ic_geB, ↓vl_if_geB, ↓vl_ic_gtF, ↓vl_if_gtF, ↓vl_ic_gtB, ↓vl_if_gtB, ↓vl_ic_leF, ↓vl_if_leF, ↓vl_ic_leB, ↓vl_if_leB, ↓vl_sw, ↓vl_get, ↓vl_putI, ↓vl_putL, ↓vl_iald, ↓vl_iast, ↓vl_alen, ↓vl_aald, ↓vl_iretI, ↓vl_iretZ, ↓vl_ret, ↓vl_mark, ↓vl_markT, ↓vl_skip, ↓vl_st0, ↓vl_vi0, ↓vl_st1, ↓vl_vi1, ↓vl_st2, ↓vl_vi2, ↓vl_st3, ↓vl_vi3, ↓vl_st4, ↓vl_vi4, ↓vl_st5, ↓vl_vi5, ↓vl_st6, ↓vl_vi6, ↓vl_min, ↓vl_max, ↓vl_cpy, ↓vk_kvs, ↓vk_kvn, ↓vk_gf0, ↓vk_gv0, ↓vk_gv1, ↓vk_gv2, ↓vk_pf, ↓vk_ar, ↓vk_arr, bc_lay, bc_fn, bc_mk, bc_cs, bc_cat, bc_nl, bc_nth, bc_en, bc_sw, true_and, and_true, ↓reduceIte, reduceCtorEq, Nat.reduceEqDiff, Nat.reduceLeDiff, Nat.reduceAdd, Nat.le_refl, Nat.zero_le, Int.cast_ofNat_Int, Int.reduceEq, eq_self, true_implies, false_implies, not_true_eq_false, not_false_eq_true, bc_vr, Int.reduceToNat, Int.toNat_natCast, Int.reduceLE, Int.reduceLT, Int.reduceNeg, true_or, or_true, forall_const, Int.reduceAdd, f0, f4]
  refine ⟨by omega, by omega, by omega, by omega, ?_⟩
  refine c0_leastOf hC hV hsp h1 ?_
  simp only [↓vl_iconst, ↓vl_bipush, ↓vl_sipush, ↓vl_lconst, ↓vl_ldc, ↓vl_ldcw, ↓vl_ldc2, ↓vl_iload0, ↓vl_aload0, ↓vl_istore0, ↓vl_iinc0, ↓vl_iload1, ↓vl_aload1, ↓vl_istore1, ↓vl_iinc1, ↓vl_iload2, ↓vl_aload2, ↓vl_istore2, ↓vl_iinc2, ↓vl_iload3, ↓vl_aload3, ↓vl_istore3, ↓vl_iinc3, ↓vl_iload4, ↓vl_istore4, ↓vl_iinc4, ↓vl_iload5, ↓vl_istore5, ↓vl_iinc5, ↓vl_iload6, ↓vl_istore6, ↓vl_iinc6, ↓vl_iload7, ↓vl_istore7, ↓vl_iinc7, ↓vl_lload5, ↓vl_lstore5, ↓vl_iadd, ↓vl_isub, ↓vl_imul, ↓vl_iand, ↓vl_ior, ↓vl_ixor, ↓vl_ishl, ↓vl_ishr, ↓vl_iushr, ↓vl_idiv, ↓vl_irem, ↓vl_ladd, ↓vl_lsub, ↓vl_lmul, ↓vl_lcmp, ↓vl_i2l, ↓vl_dup, ↓vl_dup2, ↓vl_gotoF, ↓vl_gotoB, ↓vl_nnF, ↓vl_ic_eqF, ↓vl_if_eqF, ↓vl_ic_eqB, ↓vl_if_eqB, ↓vl_ic_neF, ↓vl_if_neF, ↓vl_ic_neB, ↓vl_if_neB, ↓vl_ic_ltF, ↓vl_if_ltF, ↓vl_ic_ltB, ↓vl_if_ltB, ↓vl_ic_geF, ↓vl_if_geF, ↓vl_ic_geB, ↓vl_if_geB, ↓vl_ic_gtF, ↓vl_if_gtF, ↓vl_ic_gtB, ↓vl_if_gtB, ↓vl_ic_leF, ↓vl_if_leF, ↓vl_ic_leB, ↓vl_if_leB, ↓vl_sw, ↓vl_get, ↓vl_putI, ↓vl_putL, ↓vl_iald, ↓vl_iast, ↓vl_alen, ↓vl_aald, ↓vl_iretI, ↓vl_iretZ, ↓vl_ret, ↓vl_mark, ↓vl_markT, ↓vl_skip, ↓vl_st0, ↓vl_vi0, ↓vl_st1, ↓vl_vi1, ↓vl_st2, ↓vl_vi2, ↓vl_st3, ↓vl_vi3, ↓vl_st4, ↓vl_vi4, ↓vl_st5, ↓vl_vi5, ↓vl_st6, ↓vl_vi6, ↓vl_min, ↓vl_max, ↓vl_cpy, ↓vk_kvs, ↓vk_kvn, ↓vk_gf0, ↓vk_gv0, ↓vk_gv1, ↓vk_gv2, ↓vk_pf, ↓vk_ar, ↓vk_arr, bc_lay, bc_fn, bc_mk, bc_cs, bc_cat, bc_nl, bc_nth, bc_en, bc_sw, true_and, and_true, ↓reduceIte, reduceCtorEq, Nat.reduceEqDiff, Nat.reduceLeDiff, Nat.reduceAdd, Nat.le_refl, Nat.zero_le, Int.cast_ofNat_Int, Int.reduceEq, eq_self, true_implies, false_implies, not_true_eq_false, not_false_eq_true, bc_vr, Int.reduceToNat, Int.toNat_natCast, Int.reduceLE, Int.reduceLT, Int.reduceNeg, true_or, or_true, forall_const, Int.reduceAdd]
  refine c4_addLow hS r0 r4 (fun h' hS' hf => ?_)
  simp only [↓vl_iconst, ↓vl_bipush, ↓vl_sipush, ↓vl_lconst, ↓vl_ldc, ↓vl_ldcw, ↓vl_ldc2, ↓vl_iload0, ↓vl_aload0, ↓vl_istore0, ↓vl_iinc0, ↓vl_iload1, ↓vl_aload1, ↓vl_istore1, ↓vl_iinc1, ↓vl_iload2, ↓vl_aload2, ↓vl_istore2, ↓vl_iinc2, ↓vl_iload3, ↓vl_aload3, ↓vl_istore3, ↓vl_iinc3, ↓vl_iload4, ↓vl_istore4, ↓vl_iinc4, ↓vl_iload5, ↓vl_istore5, ↓vl_iinc5, ↓vl_iload6, ↓vl_istore6, ↓vl_iinc6, ↓vl_iload7, ↓vl_istore7, ↓vl_iinc7, ↓vl_lload5, ↓vl_lstore5, ↓vl_iadd, ↓vl_isub, ↓vl_imul, ↓vl_iand, ↓vl_ior, ↓vl_ixor, ↓vl_ishl, ↓vl_ishr, ↓vl_iushr, ↓vl_idiv, ↓vl_irem, ↓vl_ladd, ↓vl_lsub, ↓vl_lmul, ↓vl_lcmp, ↓vl_i2l, ↓vl_dup, ↓vl_dup2, ↓vl_gotoF, ↓vl_gotoB, ↓vl_nnF, ↓vl_ic_eqF, ↓vl_if_eqF, ↓vl_ic_eqB, ↓vl_if_eqB, ↓vl_ic_neF, ↓vl_if_neF, ↓vl_ic_neB, ↓vl_if_neB, ↓vl_ic_ltF, ↓vl_if_ltF, ↓vl_ic_ltB, ↓vl_if_ltB, ↓vl_ic_geF, ↓vl_if_geF, ↓vl_ic_geB, ↓vl_if_geB, ↓vl_ic_gtF, ↓vl_if_gtF, ↓vl_ic_gtB, ↓vl_if_gtB, ↓vl_ic_leF, ↓vl_if_leF, ↓vl_ic_leB, ↓vl_if_leB, ↓vl_sw, ↓vl_get, ↓vl_putI, ↓vl_putL, ↓vl_iald, ↓vl_iast, ↓vl_alen, ↓vl_aald, ↓vl_iretI, ↓vl_iretZ, ↓vl_ret, ↓vl_mark, ↓vl_markT, ↓vl_skip, ↓vl_st0, ↓vl_vi0, ↓vl_st1, ↓vl_vi1, ↓vl_st2, ↓vl_vi2, ↓vl_st3, ↓vl_vi3, ↓vl_st4, ↓vl_vi4, ↓vl_st5, ↓vl_vi5, ↓vl_st6, ↓vl_vi6, ↓vl_min, ↓vl_max, ↓vl_cpy, ↓vk_kvs, ↓vk_kvn, ↓vk_gf0, ↓vk_gv0, ↓vk_gv1, ↓vk_gv2, ↓vk_pf, ↓vk_ar, ↓vk_arr, bc_lay, bc_fn, bc_mk, bc_cs, bc_cat, bc_nl, bc_nth, bc_en, bc_sw, true_and, and_true, ↓reduceIte, reduceCtorEq, Nat.reduceEqDiff, Nat.reduceLeDiff, Nat.reduceAdd, Nat.le_refl, Nat.zero_le, Int.cast_ofNat_Int, Int.reduceEq, eq_self, true_implies, false_implies, not_true_eq_false, not_false_eq_true, bc_vr, Int.reduceToNat, Int.toNat_natCast, Int.reduceLE, Int.reduceLT, Int.reduceNeg, true_or, or_true, forall_const, Int.reduceAdd]
  refine k h' (pd_SG_congr hS' (fun f hf => ?_) (fun f hf => ?_) (fun _ _ => rfl) (fun _ _ => rfl)) hf
  · rw [← hlo x, pd_g1_sf r0, hT]
  · rw [← hlo x, pd_g1_sf r0, hT]
theorem c0_addSize {lo hi : Nat → Int} {T U U' : List Nat} (hC : pd_C 4 D h) (hV : pd_V D) (hhi : ∀ o, hi o = D (7 + 9 * o + 1)) {x : Nat} {t : Int} (h1 : (x : Int) < D 0) (hS : pd_SL D lo hi T U h) (hU : ∀ s f, pd_sf D hi s f U' = pd_sf D hi s f U + (if D (7 + 9 * x) = s ∧ D (7 + 9 * x + 4) = (f : Int) then t * hi x else 0))
    (k : ∀ h', pd_SL D lo hi T U' h' → pd_fr 24 27 h h' → post none h') : bc_OK (d + 3) 9 [.inr (.inr 22), .inl (x : Int), .inl t] h post := by
  have v0 := hV.1
  obtain ⟨r0, -, -, -, r4, -⟩ := hV.2.2 x h1
  refine bc_run (n := 3) ck_X0_addSize rfl rfl rfl rfl (Nat.le_of_ble_eq_true rfl) ?_
  simp only [k_X0_addSize, ↓vl_iconst, ↓vl_bipush, ↓vl_sipush, ↓vl_lconst, ↓vl_ldc, ↓vl_ldcw, ↓vl_ldc2, ↓vl_iload0, ↓vl_aload0, ↓vl_istore0, ↓vl_iinc0, ↓vl_iload1, ↓vl_aload1, ↓vl_istore1, ↓vl_iinc1, ↓vl_iload2, ↓vl_aload2, ↓vl_istore2, ↓vl_iinc2, ↓vl_iload3, ↓vl_aload3, ↓vl_istore3, ↓vl_iinc3, ↓vl_iload4, ↓vl_istore4, ↓vl_iinc4, ↓vl_iload5, ↓vl_istore5, ↓vl_iinc5, ↓vl_iload6, ↓vl_istore6, ↓vl_iinc6, ↓vl_iload7, ↓vl_istore7, ↓vl_iinc7, ↓vl_lload5, ↓vl_lstore5, ↓vl_iadd, ↓vl_isub, ↓vl_imul, ↓vl_iand, ↓vl_ior, ↓vl_ixor, ↓vl_ishl, ↓vl_ishr, ↓vl_iushr, ↓vl_idiv, ↓vl_irem, ↓vl_ladd, ↓vl_lsub, ↓vl_lmul, ↓vl_lcmp, ↓vl_i2l, ↓vl_dup, ↓vl_dup2, ↓vl_gotoF, ↓vl_gotoB, ↓vl_nnF, ↓vl_ic_eqF, ↓vl_if_eqF, ↓vl_ic_eqB, ↓vl_if_eqB, ↓vl_ic_neF, ↓vl_if_neF, ↓vl_ic_neB, ↓vl_if_neB, ↓vl_ic_ltF, ↓vl_if_ltF, ↓vl_ic_ltB, ↓vl_if_ltB, ↓vl_ic_geF, ↓vl_if_geF, ↓vl_ic_geB, ↓vl_if_geB, ↓vl_ic_gtF, ↓vl_if_gtF, ↓vl_ic_gtB, ↓vl_if_gtB, ↓vl_ic_leF, ↓vl_if_leF, ↓vl_ic_leB, ↓vl_if_leB, ↓vl_sw, ↓vl_get, ↓vl_putI, ↓vl_putL, ↓vl_iald, ↓vl_iast, ↓vl_alen, ↓vl_aald, ↓vl_iretI, ↓vl_iretZ, ↓vl_ret, ↓vl_mark, ↓vl_markT, ↓vl_skip, ↓vl_st0, ↓vl_vi0, ↓vl_st1, ↓vl_vi1, ↓vl_st2, ↓vl_vi2, ↓vl_st3, ↓vl_vi3, ↓vl_st4, ↓vl_vi4, ↓vl_st5, ↓vl_vi5, ↓vl_st6, ↓vl_vi6, ↓vl_min, ↓vl_max, ↓vl_cpy, ↓vk_kvs, ↓vk_kvn, ↓vk_gf0, ↓vk_gv0, ↓vk_gv1, ↓vk_gv2, ↓vk_pf, ↓vk_ar, ↓vk_arr, bc_lay, bc_fn, bc_mk, bc_cs, bc_cat, bc_nl, bc_nth, bc_en, bc_sw, true_and, and_true, ↓reduceIte, reduceCtorEq, Nat.reduceEqDiff, Nat.reduceLeDiff, Nat.reduceAdd, Nat.le_refl, Nat.zero_le, Int.cast_ofNat_Int, Int.reduceEq, eq_self, true_implies, false_implies, not_true_eq_false, not_false_eq_true, bc_vr, Int.reduceToNat, Int.toNat_natCast, Int.reduceLE, Int.reduceLT, Int.reduceNeg, true_or, or_true, forall_const, Int.reduceAdd]
  refine c1_has hC hV ⟨by omega, by omega⟩ (fun _ _ => ?_) (fun q => absurd ⟨by omega, h1⟩ q)
  obtain ⟨f0, f1, -, -, f4, -⟩ := pd_C_at hC (o := (x : Int)) (by omega) h1
  simp only [Int.toNat_natCast] at f0 f1 f4
  simp only [↓vl_iconst, ↓vl_bipush, ↓vl_sipush, ↓vl_lconst, ↓vl_ldc, ↓vl_ldcw, ↓vl_ldc2, ↓vl_iload0, ↓vl_aload0, ↓vl_istore0, ↓vl_iinc0, ↓vl_iload1, ↓vl_aload1, ↓vl_istore1, ↓vl_iinc1, ↓vl_iload2, ↓vl_aload2, ↓vl_istore2, ↓vl_iinc2, ↓vl_iload3, ↓vl_aload3, ↓vl_istore3, ↓vl_iinc3, ↓vl_iload4, ↓vl_istore4, ↓vl_iinc4, ↓vl_iload5, ↓vl_istore5, ↓vl_iinc5, ↓vl_iload6, ↓vl_istore6, ↓vl_iinc6, ↓vl_iload7, ↓vl_istore7, ↓vl_iinc7, ↓vl_lload5, ↓vl_lstore5, ↓vl_iadd, ↓vl_isub, ↓vl_imul, ↓vl_iand, ↓vl_ior, ↓vl_ixor, ↓vl_ishl, ↓vl_ishr, ↓vl_iushr, ↓vl_idiv, ↓vl_irem, ↓vl_ladd, ↓vl_lsub, ↓vl_lmul, ↓vl_lcmp, ↓vl_i2l, ↓vl_dup, ↓vl_dup2, ↓vl_gotoF, ↓vl_gotoB, ↓vl_nnF, ↓vl_ic_eqF, ↓vl_if_eqF, ↓vl_ic_eqB, ↓vl_if_eqB, ↓vl_ic_neF, ↓vl_if_neF, ↓vl_ic_neB, ↓vl_if_neB, ↓vl_ic_ltF, ↓vl_if_ltF, ↓vl_ic_ltB, ↓vl_if_ltB, ↓vl_ic_geF, ↓vl_if_geF, ↓vl_ic_geB, ↓vl_if_geB, ↓vl_ic_gtF, ↓vl_if_gtF, ↓vl_ic_gtB, ↓vl_if_gtB, ↓vl_ic_leF, ↓vl_if_leF, ↓vl_ic_leB, ↓vl_if_leB, ↓vl_sw, ↓vl_get, ↓vl_putI, ↓vl_putL, ↓vl_iald, ↓vl_iast, ↓vl_alen, ↓vl_aald, ↓vl_iretI, ↓vl_iretZ, ↓vl_ret, ↓vl_mark, ↓vl_markT, ↓vl_skip, ↓vl_st0, ↓vl_vi0, ↓vl_st1, ↓vl_vi1, ↓vl_st2, ↓vl_vi2, ↓vl_st3, ↓vl_vi3, ↓vl_st4, ↓vl_vi4, ↓vl_st5, ↓vl_vi5, ↓vl_st6, ↓vl_vi6, ↓vl_min, ↓vl_max, ↓vl_cpy, ↓vk_kvs, ↓vk_kvn, ↓vk_gf0, ↓vk_gv0, ↓vk_gv1, ↓vk_gv2, ↓vk_pf, ↓vk_ar, ↓vk_arr, bc_lay, bc_fn, bc_mk, bc_cs, bc_cat, bc_nl, bc_nth, bc_en, bc_sw, true_and, and_true, ↓reduceIte, reduceCtorEq, Nat.reduceEqDiff, Nat.reduceLeDiff, Nat.reduceAdd, Nat.le_refl, Nat.zero_le, Int.cast_ofNat_Int, Int.reduceEq, eq_self, true_implies, false_implies, not_true_eq_false, not_false_eq_true, bc_vr, Int.reduceToNat, Int.toNat_natCast, Int.reduceLE, Int.reduceLT, Int.reduceNeg, true_or, or_true, forall_const, Int.reduceAdd, f0, f1, f4]
  refine ⟨by omega, by omega, by omega, by omega, by omega, by omega, ?_⟩
  refine c4_addHigh hS r0 r4 (fun h' hS' hf => ?_)
  simp only [↓vl_iconst, ↓vl_bipush, ↓vl_sipush, ↓vl_lconst, ↓vl_ldc, ↓vl_ldcw, ↓vl_ldc2, ↓vl_iload0, ↓vl_aload0, ↓vl_istore0, ↓vl_iinc0, ↓vl_iload1, ↓vl_aload1, ↓vl_istore1, ↓vl_iinc1, ↓vl_iload2, ↓vl_aload2, ↓vl_istore2, ↓vl_iinc2, ↓vl_iload3, ↓vl_aload3, ↓vl_istore3, ↓vl_iinc3, ↓vl_iload4, ↓vl_istore4, ↓vl_iinc4, ↓vl_iload5, ↓vl_istore5, ↓vl_iinc5, ↓vl_iload6, ↓vl_istore6, ↓vl_iinc6, ↓vl_iload7, ↓vl_istore7, ↓vl_iinc7, ↓vl_lload5, ↓vl_lstore5, ↓vl_iadd, ↓vl_isub, ↓vl_imul, ↓vl_iand, ↓vl_ior, ↓vl_ixor, ↓vl_ishl, ↓vl_ishr, ↓vl_iushr, ↓vl_idiv, ↓vl_irem, ↓vl_ladd, ↓vl_lsub, ↓vl_lmul, ↓vl_lcmp, ↓vl_i2l, ↓vl_dup, ↓vl_dup2, ↓vl_gotoF, ↓vl_gotoB, ↓vl_nnF, ↓vl_ic_eqF, ↓vl_if_eqF, ↓vl_ic_eqB, ↓vl_if_eqB, ↓vl_ic_neF, ↓vl_if_neF, ↓vl_ic_neB, ↓vl_if_neB, ↓vl_ic_ltF, ↓vl_if_ltF, ↓vl_ic_ltB, ↓vl_if_ltB, ↓vl_ic_geF, ↓vl_if_geF, ↓vl_ic_geB, ↓vl_if_geB, ↓vl_ic_gtF, ↓vl_if_gtF, ↓vl_ic_gtB, ↓vl_if_gtB, ↓vl_ic_leF, ↓vl_if_leF, ↓vl_ic_leB, ↓vl_if_leB, ↓vl_sw, ↓vl_get, ↓vl_putI, ↓vl_putL, ↓vl_iald, ↓vl_iast, ↓vl_alen, ↓vl_aald, ↓vl_iretI, ↓vl_iretZ, ↓vl_ret, ↓vl_mark, ↓vl_markT, ↓vl_skip, ↓vl_st0, ↓vl_vi0, ↓vl_st1, ↓vl_vi1, ↓vl_st2, ↓vl_vi2, ↓vl_st3, ↓vl_vi3, ↓vl_st4, ↓vl_vi4, ↓vl_st5, ↓vl_vi5, ↓vl_st6, ↓vl_vi6, ↓vl_min, ↓vl_max, ↓vl_cpy, ↓vk_kvs, ↓vk_kvn, ↓vk_gf0, ↓vk_gv0, ↓vk_gv1, ↓vk_gv2, ↓vk_pf, ↓vk_ar, ↓vk_arr, bc_lay, bc_fn, bc_mk, bc_cs, bc_cat, bc_nl, bc_nth, bc_en, bc_sw, true_and, and_true, ↓reduceIte, reduceCtorEq, Nat.reduceEqDiff, Nat.reduceLeDiff, Nat.reduceAdd, Nat.le_refl, Nat.zero_le, Int.cast_ofNat_Int, Int.reduceEq, eq_self, true_implies, false_implies, not_true_eq_false, not_false_eq_true, bc_vr, Int.reduceToNat, Int.toNat_natCast, Int.reduceLE, Int.reduceLT, Int.reduceNeg, true_or, or_true, forall_const, Int.reduceAdd]
  refine k h' (pd_SG_congr hS' (fun _ _ => rfl) (fun _ _ => rfl) (fun f hf => ?_) (fun f hf => ?_)) hf
  · rw [← hhi x, pd_g1_sf r0, hU]
  · rw [← hhi x, pd_g1_sf r0, hU]
theorem pd_sf_snoc {g : Nat → Int} {T : List Nat} {x : Nat} (s : Int) (f : Nat) : pd_sf D g s f (T ++ [x]) = pd_sf D g s f T + (if D (7 + 9 * x) = s ∧ D (7 + 9 * x + 4) = (f : Int) then 1 * g x else 0) := by
  rw [pd_sf_app, pd_sf, pd_sf]
  simp
theorem pd_sf_unsnoc {g : Nat → Int} {T : List Nat} {x : Nat} (s : Int) (f : Nat) : pd_sf D g s f T = pd_sf D g s f (T ++ [x]) + (if D (7 + 9 * x) = s ∧ D (7 + 9 * x + 4) = (f : Int) then (-1) * g x else 0) := by
  rw [pd_sf_snoc]
  split <;> omega
theorem pd_sf_mid {g : Nat → Int} {A B : List Nat} {x : Nat} (s : Int) (f : Nat) : pd_sf D g s f (A ++ B) = pd_sf D g s f (A ++ x :: B) + (if D (7 + 9 * x) = s ∧ D (7 + 9 * x + 4) = (f : Int) then (-1) * g x else 0) := by
  rw [pd_sf_app, pd_sf_app, pd_sf]
  split <;> omega
theorem pd_sf_unmid {g : Nat → Int} {A B : List Nat} {x : Nat} (s : Int) (f : Nat) : pd_sf D g s f (A ++ x :: B) = pd_sf D g s f (A ++ B) + (if D (7 + 9 * x) = s ∧ D (7 + 9 * x + 4) = (f : Int) then 1 * g x else 0) := by
  rw [pd_sf_app, pd_sf_app, pd_sf]
  split <;> omega
/-- what the search stands on -/
def pd_XS (D : Nat → Int) (l : List Nat) (sp sl mm : Int) (h : bc_AH) : Prop := pd_C 4 D h ∧ h 22 4 = (l.length : Int) ∧ (∀ (j x : Nat), l[j]? = some x → h 28 j = (x : Int)) ∧ h 22 5 = sp ∧ h 22 6 = sl ∧ h 22 7 = mm
def pd_fx (h h' : bc_AH) : Prop := (∀ c : Nat, c ≠ 22 → (c < 24 ∨ 27 < c) → h' c = h c) ∧ ∀ j : Nat, j ≠ 8 → j ≠ 9 → h' 22 j = h 22 j
theorem pd_fx_refl {h : bc_AH} : pd_fx h h := ⟨fun _ _ _ => rfl, fun _ _ _ => rfl⟩
theorem pd_fx_trans {h h1 h2 : bc_AH} (x : pd_fx h h1) (y : pd_fx h1 h2) : pd_fx h h2 := ⟨fun c a b => (y.1 c a b).trans (x.1 c a b), fun j a b => (y.2 j a b).trans (x.2 j a b)⟩
theorem pd_fx_fr {h h' : bc_AH} (x : pd_fr 24 27 h h') : pd_fx h h' := ⟨fun c _ b => x c b, fun j _ _ => by rw [x 22 (by omega)]⟩
theorem pd_XS_fx {l : List Nat} {sp sl mm : Int} {h h' : bc_AH} (hX : pd_XS D l sp sl mm h) (x : pd_fx h h') : pd_XS D l sp sl mm h' := by
  obtain ⟨x1, x2, x3, x4, x5, x6⟩ := hX
  refine ⟨pd_C_fr x1 (fun j a b => x.1 j (by omega) (by omega)), by rw [x.2 4 (by omega) (by omega)]; exact x2, fun j q hq => ?_, by rw [x.2 5 (by omega) (by omega)]; exact x4, by rw [x.2 6 (by omega) (by omega)]; exact x5, by rw [x.2 7 (by omega) (by omega)]; exact x6⟩
  rw [x.1 28 (by omega) (by omega)]
  exact x3 j q hq
end Cross
end
section
/-! the class: the search (descend, choose) -/
section Desc
variable {d : Nat} {post : Option bc_AV → bc_AH → Prop} {D : Nat → Int}
theorem pd_VM_bd {lo hi : Nat → Int} {T U : List Nat} (b : ∀ x ∈ U, 0 ≤ hi x ∧ hi x ≤ 999) (hl : U.length ≤ 24) : -1 ≤ pd_VM D lo hi T U ∧ pd_VM D lo hi T U ≤ 600000 := by
  have cb := pd_ce_bd (H0 := fun f => pd_sf D hi 0 f U) (H1 := fun f => pd_sf D hi 1 f U) (pd_bd_sf b hl) (pd_bd_sf b hl) 6 (by omega)
  unfold pd_VM pd_vol
  split <;> omega
theorem pd_dn_bd {mm : Int} {lo hi : Nat → Int} {l T R : List Nat} {a : Int × Int} (hl : l.length ≤ 10) (bhi : ∀ x ∈ l, 0 ≤ hi x ∧ hi x ≤ 999) (hTR : (T ++ R).Sublist l) (ha : 0 ≤ a.1 ∧ a.1 ≤ 600000) : 0 ≤ (pd_dn D lo hi (bc_bit mm) T R a).1 ∧ (pd_dn D lo hi (bc_bit mm) T R a).1 ≤ 600000 := by
  obtain ⟨h1, h2, h3⟩ := pd_scan_spec (fun S => pd_VM D lo hi (T ++ S) (T ++ S)) (fun S => pd_mlk (pd_ml T) S) (pd_subs (bc_bit mm) R) a
  unfold pd_dn
  refine ⟨by omega, ?_⟩
  rcases h3 with e | ⟨S, hS, e, -⟩
  · rw [e]; exact ha.2
  · rw [e]
    have hs : (T ++ S).Sublist l := List.Sublist.trans ((List.Sublist.refl T).append (pd_subs_sub R S hS)) hTR
    exact (pd_VM_bd (fun x hx => bhi x (hs.subset hx)) (by have := hs.length_le; omega)).2
set_option maxRecDepth 20000 in
theorem c0_descend (hV : pd_V D) {l : List Nat} {sp sl mm : Int} (hl : l.length ≤ 10) (hlt : ∀ x ∈ l, (x : Int) < D 0) {lo hi : Nat → Int} (hlo : ∀ o, lo o = pd_lo D sp sl o) (hhi : ∀ o, hi o = D (7 + 9 * o + 1)) (hsp : bc_vr sp) (blo : ∀ x ∈ l, 0 ≤ lo x ∧ lo x ≤ 999) (bhi : ∀ x ∈ l, 0 ≤ hi x ∧ hi x ≤ 999) :
    ∀ (R T : List Nat) (k : Nat) (h : bc_AH) (a : Int × Int) (post : Option bc_AV → bc_AH → Prop), l.drop k = R → k + R.length = l.length → T.Sublist l → (T ++ R).Sublist l → pd_XS D l sp sl mm h → pd_SL D lo hi T (T ++ R) h → h 22 8 = a.1 → h 22 9 = a.2 → (0 ≤ a.1 ∧ a.1 ≤ 600000) →
      (∀ h', pd_fx h h' → pd_SL D lo hi T (T ++ R) h' → h' 22 8 = (pd_dn D lo hi (bc_bit mm) T R a).1 → h' 22 9 = (pd_dn D lo hi (bc_bit mm) T R a).2 → post none h') →
      bc_OK (R.length + d + 4) 3 [.inr (.inr 22), .inl (k : Int), .inl (pd_ml T)] h post := by
  have v0 := hV.1
  intro R
  induction R with
  | nil =>
    intro T k h a post hdr hk hT hTR hX hS h8 h9 ha kk
    rw [List.append_nil] at hS hTR kk
    have bT : ∀ x ∈ T, 0 ≤ lo x ∧ lo x ≤ 999 := fun x hx => blo x (hT.subset hx)
    have bT2 : ∀ x ∈ T, 0 ≤ hi x ∧ hi x ≤ 999 := fun x hx => bhi x (hT.subset hx)
    have lT : T.length ≤ 24 := by have := hT.length_le; omega
    have hvol : pd_vol (fun f => pd_sf D lo 0 f T) (fun f => pd_sf D lo 1 f T) (fun f => pd_sf D hi 0 f T) (fun f => pd_sf D hi 1 f T) = pd_VM D lo hi T T := rfl
    have cb := pd_ce_bd (H0 := fun f => pd_sf D hi 0 f T) (H1 := fun f => pd_sf D hi 1 f T) (pd_bd_sf bT2 lT) (pd_bd_sf bT2 lT) 6 (by omega)
    have vb : -1 ≤ pd_VM D lo hi T T ∧ pd_VM D lo hi T T ≤ 600000 := by
      rw [← hvol]; unfold pd_vol; split <;> omega
    obtain ⟨x1, x2, x3, x4, x5, x6⟩ := hX
    refine bc_run (n := 5) ck_X0_descend rfl rfl rfl rfl (Nat.le_of_ble_eq_true rfl) ?_
    simp only [k_X0_descend, ↓vl_iconst, ↓vl_bipush, ↓vl_sipush, ↓vl_lconst, ↓vl_ldc, ↓vl_ldcw, ↓vl_ldc2, ↓vl_iload0, ↓vl_aload0, ↓vl_istore0, ↓vl_iinc0, ↓vl_iload1, ↓vl_aload1, ↓vl_istore1, ↓vl_iinc1, ↓vl_iload2, ↓vl_aload2, ↓vl_istore2, ↓vl_iinc2, ↓vl_iload3, ↓vl_aload3, ↓vl_istore3, ↓vl_iinc3, ↓vl_iload4, ↓vl_istore4, ↓vl_iinc4, ↓vl_iload5, ↓vl_istore5, ↓vl_iinc5, ↓vl_iload6, ↓vl_istore6, ↓vl_iinc6, ↓vl_iload7, ↓vl_istore7, ↓vl_iinc7, ↓vl_lload5, ↓vl_lstore5, ↓vl_iadd, ↓vl_isub, ↓vl_imul, ↓vl_iand, ↓vl_ior, ↓vl_ixor, ↓vl_ishl, ↓vl_ishr, ↓vl_iushr, ↓vl_idiv, ↓vl_irem, ↓vl_ladd, ↓vl_lsub, ↓vl_lmul, ↓vl_lcmp, ↓vl_i2l, ↓vl_dup, ↓vl_dup2, ↓vl_gotoF, ↓vl_gotoB, ↓vl_nnF, ↓vl_ic_eqF, ↓vl_if_eqF, ↓vl_ic_eqB, ↓vl_if_eqB, ↓vl_ic_neF, ↓vl_if_neF, ↓vl_ic_neB, ↓vl_if_neB, ↓vl_ic_ltF, ↓vl_if_ltF, ↓vl_ic_ltB, ↓vl_if_ltB, ↓vl_ic_geF, ↓vl_if_geF, ↓vl_ic_geB, ↓vl_if_geB, ↓vl_ic_gtF, ↓vl_if_gtF, ↓vl_ic_gtB, ↓vl_if_gtB, ↓vl_ic_leF, ↓vl_if_leF, ↓vl_ic_leB, ↓vl_if_leB, ↓vl_sw, ↓vl_get, ↓vl_putI, ↓vl_putL, ↓vl_iald, ↓vl_iast, ↓vl_alen, ↓vl_aald, ↓vl_iretI, ↓vl_iretZ, ↓vl_ret, ↓vl_mark, ↓vl_markT, ↓vl_skip, ↓vl_st0, ↓vl_vi0, ↓vl_st1, ↓vl_vi1, ↓vl_st2, ↓vl_vi2, ↓vl_st3, ↓vl_vi3, ↓vl_st4, ↓vl_vi4, ↓vl_st5, ↓vl_vi5, ↓vl_st6, ↓vl_vi6, ↓vl_min, ↓vl_max, ↓vl_cpy, ↓vk_kvs, ↓vk_kvn, ↓vk_gf0, ↓vk_gv0, ↓vk_gv1, ↓vk_gv2, ↓vk_pf, ↓vk_ar, ↓vk_arr, bc_lay, bc_fn, bc_mk, bc_cs, bc_cat, bc_nl, bc_nth, bc_en, bc_sw, true_and, and_true, ↓reduceIte, reduceCtorEq, Nat.reduceEqDiff, Nat.reduceLeDiff, Nat.reduceAdd, Nat.le_refl, Nat.zero_le, Int.cast_ofNat_Int, Int.reduceEq, eq_self, true_implies, false_implies, not_true_eq_false, not_false_eq_true, bc_vr, Int.reduceToNat, Int.toNat_natCast, Int.reduceLE, Int.reduceLT, Int.reduceNeg, true_or, or_true, forall_const, Int.reduceAdd]
    refine c4_most hS (pd_bd_sf bT lT) (pd_bd_sf bT lT) (pd_bd_sf bT2 lT) (pd_bd_sf bT2 lT) ?_
    rw [hvol]
    simp only [↓vl_iconst, ↓vl_bipush, ↓vl_sipush, ↓vl_lconst, ↓vl_ldc, ↓vl_ldcw, ↓vl_ldc2, ↓vl_iload0, ↓vl_aload0, ↓vl_istore0, ↓vl_iinc0, ↓vl_iload1, ↓vl_aload1, ↓vl_istore1, ↓vl_iinc1, ↓vl_iload2, ↓vl_aload2, ↓vl_istore2, ↓vl_iinc2, ↓vl_iload3, ↓vl_aload3, ↓vl_istore3, ↓vl_iinc3, ↓vl_iload4, ↓vl_istore4, ↓vl_iinc4, ↓vl_iload5, ↓vl_istore5, ↓vl_iinc5, ↓vl_iload6, ↓vl_istore6, ↓vl_iinc6, ↓vl_iload7, ↓vl_istore7, ↓vl_iinc7, ↓vl_lload5, ↓vl_lstore5, ↓vl_iadd, ↓vl_isub, ↓vl_imul, ↓vl_iand, ↓vl_ior, ↓vl_ixor, ↓vl_ishl, ↓vl_ishr, ↓vl_iushr, ↓vl_idiv, ↓vl_irem, ↓vl_ladd, ↓vl_lsub, ↓vl_lmul, ↓vl_lcmp, ↓vl_i2l, ↓vl_dup, ↓vl_dup2, ↓vl_gotoF, ↓vl_gotoB, ↓vl_nnF, ↓vl_ic_eqF, ↓vl_if_eqF, ↓vl_ic_eqB, ↓vl_if_eqB, ↓vl_ic_neF, ↓vl_if_neF, ↓vl_ic_neB, ↓vl_if_neB, ↓vl_ic_ltF, ↓vl_if_ltF, ↓vl_ic_ltB, ↓vl_if_ltB, ↓vl_ic_geF, ↓vl_if_geF, ↓vl_ic_geB, ↓vl_if_geB, ↓vl_ic_gtF, ↓vl_if_gtF, ↓vl_ic_gtB, ↓vl_if_gtB, ↓vl_ic_leF, ↓vl_if_leF, ↓vl_ic_leB, ↓vl_if_leB, ↓vl_sw, ↓vl_get, ↓vl_putI, ↓vl_putL, ↓vl_iald, ↓vl_iast, ↓vl_alen, ↓vl_aald, ↓vl_iretI, ↓vl_iretZ, ↓vl_ret, ↓vl_mark, ↓vl_markT, ↓vl_skip, ↓vl_st0, ↓vl_vi0, ↓vl_st1, ↓vl_vi1, ↓vl_st2, ↓vl_vi2, ↓vl_st3, ↓vl_vi3, ↓vl_st4, ↓vl_vi4, ↓vl_st5, ↓vl_vi5, ↓vl_st6, ↓vl_vi6, ↓vl_min, ↓vl_max, ↓vl_cpy, ↓vk_kvs, ↓vk_kvn, ↓vk_gf0, ↓vk_gv0, ↓vk_gv1, ↓vk_gv2, ↓vk_pf, ↓vk_ar, ↓vk_arr, bc_lay, bc_fn, bc_mk, bc_cs, bc_cat, bc_nl, bc_nth, bc_en, bc_sw, true_and, and_true, ↓reduceIte, reduceCtorEq, Nat.reduceEqDiff, Nat.reduceLeDiff, Nat.reduceAdd, Nat.le_refl, Nat.zero_le, Int.cast_ofNat_Int, Int.reduceEq, eq_self, true_implies, false_implies, not_true_eq_false, not_false_eq_true, bc_vr, Int.reduceToNat, Int.toNat_natCast, Int.reduceLE, Int.reduceLT, Int.reduceNeg, true_or, or_true, forall_const, Int.reduceAdd, h8]
    simp only [List.length_nil] at hk
    refine ⟨⟨by omega, by omega⟩, ⟨by omega, by omega⟩, fun c => ?_, fun c => ?_⟩
    · refine ⟨⟨by omega, by omega⟩, fun c2 => absurd c2 (by omega), fun _ => ⟨⟨by omega, by omega⟩, ?_, fun c3 => ?_, fun c3 => absurd c3 (by rw [x2]; omega)⟩⟩
      · rw [x2]; exact ⟨by omega, by omega⟩
      · refine kk _ ⟨fun q hq _ => ?_, fun j a b => ?_⟩ (pd_SG_fr hS ?_ ?_ ?_ ?_) ?_ ?_
        · funext b; simp [bc_up, hq]
        · simp [bc_up, a, b]
        · funext b; simp [bc_up]
        · funext b; simp [bc_up]
        · funext b; simp [bc_up]
        · funext b; simp [bc_up]
        · rw [pd_dn_nil, if_pos (by omega)]; simp [bc_up]
        · rw [pd_dn_nil, if_pos (by omega)]; simp [bc_up]
    · refine kk h pd_fx_refl hS ?_ ?_
      · rw [pd_dn_nil, if_neg (by omega)]; exact h8
      · rw [pd_dn_nil, if_neg (by omega)]; exact h9
  | cons x R ih =>
    intro T k h a post hdr hk hT hTR hX hS h8 h9 ha kk
    have hxl : x ∈ l := hTR.subset (by simp)
    have hx0 := hlt x hxl
    have bT : ∀ y ∈ T, 0 ≤ lo y ∧ lo y ≤ 999 := fun y hy => blo y (hT.subset hy)
    have bU : ∀ y ∈ T ++ x :: R, 0 ≤ hi y ∧ hi y ≤ 999 := fun y hy => bhi y (hTR.subset hy)
    have bUl : ∀ y ∈ T ++ x :: R, 0 ≤ lo y ∧ lo y ≤ 999 := fun y hy => blo y (hTR.subset hy)
    have lT : T.length ≤ 24 := by have := hT.length_le; omega
    have lU : (T ++ x :: R).length ≤ 24 := by have := hTR.length_le; omega
    have hvol : pd_vol (fun f => pd_sf D lo 0 f T) (fun f => pd_sf D lo 1 f T) (fun f => pd_sf D hi 0 f (T ++ x :: R)) (fun f => pd_sf D hi 1 f (T ++ x :: R)) = pd_VM D lo hi T (T ++ x :: R) := rfl
    have cb := pd_ce_bd (H0 := fun f => pd_sf D hi 0 f (T ++ x :: R)) (H1 := fun f => pd_sf D hi 1 f (T ++ x :: R)) (pd_bd_sf bU lU) (pd_bd_sf bU lU) 6 (by omega)
    have vb : -1 ≤ pd_VM D lo hi T (T ++ x :: R) ∧ pd_VM D lo hi T (T ++ x :: R) ≤ 600000 := by
      rw [← hvol]; unfold pd_vol; split <;> omega
    have hX0 := hX
    obtain ⟨x1, x2, x3, x4, x5, x6⟩ := hX
    have hkl : l[k]? = some x := by
      have : (l.drop k)[0]? = some x := by rw [hdr]; rfl
      simpa using this
    have hdr2 : l.drop (k + 1) = R := by
      have : (l.drop k).drop 1 = R := by rw [hdr]; rfl
      rw [List.drop_drop] at this
      exact this
    have h28 := x3 k x hkl
    have hkk : k < 10 := by rw [List.length_cons] at hk; omega
    have hx24 : x < 24 := by omega
    have hlen : (x :: R).length = R.length + 1 := rfl
    rw [hlen] at hk
    have ed : (x :: R).length + d + 4 = (R.length + d + 4) + 1 := by simp; omega
    rw [ed]
    refine bc_run (n := 5) ck_X0_descend rfl rfl rfl rfl (Nat.le_of_ble_eq_true rfl) ?_
    simp only [k_X0_descend, ↓vl_iconst, ↓vl_bipush, ↓vl_sipush, ↓vl_lconst, ↓vl_ldc, ↓vl_ldcw, ↓vl_ldc2, ↓vl_iload0, ↓vl_aload0, ↓vl_istore0, ↓vl_iinc0, ↓vl_iload1, ↓vl_aload1, ↓vl_istore1, ↓vl_iinc1, ↓vl_iload2, ↓vl_aload2, ↓vl_istore2, ↓vl_iinc2, ↓vl_iload3, ↓vl_aload3, ↓vl_istore3, ↓vl_iinc3, ↓vl_iload4, ↓vl_istore4, ↓vl_iinc4, ↓vl_iload5, ↓vl_istore5, ↓vl_iinc5, ↓vl_iload6, ↓vl_istore6, ↓vl_iinc6, ↓vl_iload7, ↓vl_istore7, ↓vl_iinc7, ↓vl_lload5, ↓vl_lstore5, ↓vl_iadd, ↓vl_isub, ↓vl_imul, ↓vl_iand, ↓vl_ior, ↓vl_ixor, ↓vl_ishl, ↓vl_ishr, ↓vl_iushr, ↓vl_idiv, ↓vl_irem, ↓vl_ladd, ↓vl_lsub, ↓vl_lmul, ↓vl_lcmp, ↓vl_i2l, ↓vl_dup, ↓vl_dup2, ↓vl_gotoF, ↓vl_gotoB, ↓vl_nnF, ↓vl_ic_eqF, ↓vl_if_eqF, ↓vl_ic_eqB, ↓vl_if_eqB, ↓vl_ic_neF, ↓vl_if_neF, ↓vl_ic_neB, ↓vl_if_neB, ↓vl_ic_ltF, ↓vl_if_ltF, ↓vl_ic_ltB, ↓vl_if_ltB, ↓vl_ic_geF, ↓vl_if_geF, ↓vl_ic_geB, ↓vl_if_geB, ↓vl_ic_gtF, ↓vl_if_gtF, ↓vl_ic_gtB, ↓vl_if_gtB, ↓vl_ic_leF, ↓vl_if_leF, ↓vl_ic_leB, ↓vl_if_leB, ↓vl_sw, ↓vl_get, ↓vl_putI, ↓vl_putL, ↓vl_iald, ↓vl_iast, ↓vl_alen, ↓vl_aald, ↓vl_iretI, ↓vl_iretZ, ↓vl_ret, ↓vl_mark, ↓vl_markT, ↓vl_skip, ↓vl_st0, ↓vl_vi0, ↓vl_st1, ↓vl_vi1, ↓vl_st2, ↓vl_vi2, ↓vl_st3, ↓vl_vi3, ↓vl_st4, ↓vl_vi4, ↓vl_st5, ↓vl_vi5, ↓vl_st6, ↓vl_vi6, ↓vl_min, ↓vl_max, ↓vl_cpy, ↓vk_kvs, ↓vk_kvn, ↓vk_gf0, ↓vk_gv0, ↓vk_gv1, ↓vk_gv2, ↓vk_pf, ↓vk_ar, ↓vk_arr, bc_lay, bc_fn, bc_mk, bc_cs, bc_cat, bc_nl, bc_nth, bc_en, bc_sw, true_and, and_true, ↓reduceIte, reduceCtorEq, Nat.reduceEqDiff, Nat.reduceLeDiff, Nat.reduceAdd, Nat.le_refl, Nat.zero_le, Int.cast_ofNat_Int, Int.reduceEq, eq_self, true_implies, false_implies, not_true_eq_false, not_false_eq_true, bc_vr, Int.reduceToNat, Int.toNat_natCast, Int.reduceLE, Int.reduceLT, Int.reduceNeg, true_or, or_true, forall_const, Int.reduceAdd]
    refine c4_most hS (pd_bd_sf bT lT) (pd_bd_sf bT lT) (pd_bd_sf bU lU) (pd_bd_sf bU lU) ?_
    rw [hvol]
    simp only [↓vl_iconst, ↓vl_bipush, ↓vl_sipush, ↓vl_lconst, ↓vl_ldc, ↓vl_ldcw, ↓vl_ldc2, ↓vl_iload0, ↓vl_aload0, ↓vl_istore0, ↓vl_iinc0, ↓vl_iload1, ↓vl_aload1, ↓vl_istore1, ↓vl_iinc1, ↓vl_iload2, ↓vl_aload2, ↓vl_istore2, ↓vl_iinc2, ↓vl_iload3, ↓vl_aload3, ↓vl_istore3, ↓vl_iinc3, ↓vl_iload4, ↓vl_istore4, ↓vl_iinc4, ↓vl_iload5, ↓vl_istore5, ↓vl_iinc5, ↓vl_iload6, ↓vl_istore6, ↓vl_iinc6, ↓vl_iload7, ↓vl_istore7, ↓vl_iinc7, ↓vl_lload5, ↓vl_lstore5, ↓vl_iadd, ↓vl_isub, ↓vl_imul, ↓vl_iand, ↓vl_ior, ↓vl_ixor, ↓vl_ishl, ↓vl_ishr, ↓vl_iushr, ↓vl_idiv, ↓vl_irem, ↓vl_ladd, ↓vl_lsub, ↓vl_lmul, ↓vl_lcmp, ↓vl_i2l, ↓vl_dup, ↓vl_dup2, ↓vl_gotoF, ↓vl_gotoB, ↓vl_nnF, ↓vl_ic_eqF, ↓vl_if_eqF, ↓vl_ic_eqB, ↓vl_if_eqB, ↓vl_ic_neF, ↓vl_if_neF, ↓vl_ic_neB, ↓vl_if_neB, ↓vl_ic_ltF, ↓vl_if_ltF, ↓vl_ic_ltB, ↓vl_if_ltB, ↓vl_ic_geF, ↓vl_if_geF, ↓vl_ic_geB, ↓vl_if_geB, ↓vl_ic_gtF, ↓vl_if_gtF, ↓vl_ic_gtB, ↓vl_if_gtB, ↓vl_ic_leF, ↓vl_if_leF, ↓vl_ic_leB, ↓vl_if_leB, ↓vl_sw, ↓vl_get, ↓vl_putI, ↓vl_putL, ↓vl_iald, ↓vl_iast, ↓vl_alen, ↓vl_aald, ↓vl_iretI, ↓vl_iretZ, ↓vl_ret, ↓vl_mark, ↓vl_markT, ↓vl_skip, ↓vl_st0, ↓vl_vi0, ↓vl_st1, ↓vl_vi1, ↓vl_st2, ↓vl_vi2, ↓vl_st3, ↓vl_vi3, ↓vl_st4, ↓vl_vi4, ↓vl_st5, ↓vl_vi5, ↓vl_st6, ↓vl_vi6, ↓vl_min, ↓vl_max, ↓vl_cpy, ↓vk_kvs, ↓vk_kvn, ↓vk_gf0, ↓vk_gv0, ↓vk_gv1, ↓vk_gv2, ↓vk_pf, ↓vk_ar, ↓vk_arr, bc_lay, bc_fn, bc_mk, bc_cs, bc_cat, bc_nl, bc_nth, bc_en, bc_sw, true_and, and_true, ↓reduceIte, reduceCtorEq, Nat.reduceEqDiff, Nat.reduceLeDiff, Nat.reduceAdd, Nat.le_refl, Nat.zero_le, Int.cast_ofNat_Int, Int.reduceEq, eq_self, true_implies, false_implies, not_true_eq_false, not_false_eq_true, bc_vr, Int.reduceToNat, Int.toNat_natCast, Int.reduceLE, Int.reduceLT, Int.reduceNeg, true_or, or_true, forall_const, Int.reduceAdd, h8]
    refine ⟨⟨by omega, by omega⟩, ⟨by omega, by omega⟩, fun c => ?_, fun c => ?_⟩
    · refine ⟨⟨by omega, by omega⟩, fun c2 => absurd c2 (by omega), fun _ => ⟨⟨by omega, by omega⟩, by rw [x2]; exact ⟨by omega, by omega⟩, fun c3 => absurd c3 (by rw [x2]; omega), fun _ => ⟨⟨by omega, by omega⟩, fun _ => ⟨by omega, by omega, ?_⟩, fun c4 => absurd (by omega) c4⟩⟩⟩
      rw [h28]
      have hspv : bc_vr (h 22 5) := by rw [x4]; exact hsp
      have hlov : ∀ o, lo o = pd_lo D (h 22 5) (h 22 6) o := fun o => by rw [x4, x5]; exact hlo o
      refine c0_addLeast (T' := T ++ [x]) x1 hV hspv hlov hx0 hS (fun s f => pd_sf_snoc s f) (fun h1 hS1 hf1 => ?_)
      simp only [↓vl_iconst, ↓vl_bipush, ↓vl_sipush, ↓vl_lconst, ↓vl_ldc, ↓vl_ldcw, ↓vl_ldc2, ↓vl_iload0, ↓vl_aload0, ↓vl_istore0, ↓vl_iinc0, ↓vl_iload1, ↓vl_aload1, ↓vl_istore1, ↓vl_iinc1, ↓vl_iload2, ↓vl_aload2, ↓vl_istore2, ↓vl_iinc2, ↓vl_iload3, ↓vl_aload3, ↓vl_istore3, ↓vl_iinc3, ↓vl_iload4, ↓vl_istore4, ↓vl_iinc4, ↓vl_iload5, ↓vl_istore5, ↓vl_iinc5, ↓vl_iload6, ↓vl_istore6, ↓vl_iinc6, ↓vl_iload7, ↓vl_istore7, ↓vl_iinc7, ↓vl_lload5, ↓vl_lstore5, ↓vl_iadd, ↓vl_isub, ↓vl_imul, ↓vl_iand, ↓vl_ior, ↓vl_ixor, ↓vl_ishl, ↓vl_ishr, ↓vl_iushr, ↓vl_idiv, ↓vl_irem, ↓vl_ladd, ↓vl_lsub, ↓vl_lmul, ↓vl_lcmp, ↓vl_i2l, ↓vl_dup, ↓vl_dup2, ↓vl_gotoF, ↓vl_gotoB, ↓vl_nnF, ↓vl_ic_eqF, ↓vl_if_eqF, ↓vl_ic_eqB, ↓vl_if_eqB, ↓vl_ic_neF, ↓vl_if_neF, ↓vl_ic_neB, ↓vl_if_neB, ↓vl_ic_ltF, ↓vl_if_ltF, ↓vl_ic_ltB, ↓vl_if_ltB, ↓vl_ic_geF, ↓vl_if_geF, ↓vl_ic_geB, ↓vl_if_geB, ↓vl_ic_gtF, ↓vl_if_gtF, ↓vl_ic_gtB, ↓vl_if_gtB, ↓vl_ic_leF, ↓vl_if_leF, ↓vl_ic_leB, ↓vl_if_leB, ↓vl_sw, ↓vl_get, ↓vl_putI, ↓vl_putL, ↓vl_iald, ↓vl_iast, ↓vl_alen, ↓vl_aald, ↓vl_iretI, ↓vl_iretZ, ↓vl_ret, ↓vl_mark, ↓vl_markT, ↓vl_skip, ↓vl_st0, ↓vl_vi0, ↓vl_st1, ↓vl_vi1, ↓vl_st2, ↓vl_vi2, ↓vl_st3, ↓vl_vi3, ↓vl_st4, ↓vl_vi4, ↓vl_st5, ↓vl_vi5, ↓vl_st6, ↓vl_vi6, ↓vl_min, ↓vl_max, ↓vl_cpy, ↓vk_kvs, ↓vk_kvn, ↓vk_gf0, ↓vk_gv0, ↓vk_gv1, ↓vk_gv2, ↓vk_pf, ↓vk_ar, ↓vk_arr, bc_lay, bc_fn, bc_mk, bc_cs, bc_cat, bc_nl, bc_nth, bc_en, bc_sw, true_and, and_true, ↓reduceIte, reduceCtorEq, Nat.reduceEqDiff, Nat.reduceLeDiff, Nat.reduceAdd, Nat.le_refl, Nat.zero_le, Int.cast_ofNat_Int, Int.reduceEq, eq_self, true_implies, false_implies, not_true_eq_false, not_false_eq_true, bc_vr, Int.reduceToNat, Int.toNat_natCast, Int.reduceLE, Int.reduceLT, Int.reduceNeg, true_or, or_true, forall_const, Int.reduceAdd]
      have e1 : (k : Int) + 1 = ((k + 1 : Nat) : Int) := by omega
      have e5 : bc_or (pd_ml T) (bc_shl 1 (x : Int)) = pd_ml (T ++ [x]) := by
        unfold pd_ml; rw [pd_mlk_app]; rfl
      have eU : T ++ [x] ++ R = T ++ x :: R := by simp
      have hX1 := pd_XS_fx hX0 (pd_fx_fr hf1)
      have hTx : (T ++ [x]).Sublist l := List.Sublist.trans ((List.Sublist.refl T).append (by simp)) hTR
      have hTR' : (T ++ R).Sublist l := List.Sublist.trans ((List.Sublist.refl T).append (by simp)) hTR
      have e22 : h1 22 = h 22 := hf1 22 (by omega)
      rw [e1, e5]
      refine ih (T ++ [x]) (k + 1) h1 a _ hdr2 (by omega) hTx (by rw [eU]; exact hTR) hX1 (by rw [eU]; exact hS1) (by rw [e22]; exact h8) (by rw [e22]; exact h9) ha (fun h2 hf2 hS2 h82 h92 => ?_)
      rw [eU] at hS2
      have hX2 := pd_XS_fx hX1 hf2
      have ha2 := pd_dn_bd (mm := mm) (D := D) (lo := lo) (hi := hi) hl bhi (T := T ++ [x]) (R := R) (a := a) (by rw [eU]; exact hTR) ha
      simp only [↓vl_iconst, ↓vl_bipush, ↓vl_sipush, ↓vl_lconst, ↓vl_ldc, ↓vl_ldcw, ↓vl_ldc2, ↓vl_iload0, ↓vl_aload0, ↓vl_istore0, ↓vl_iinc0, ↓vl_iload1, ↓vl_aload1, ↓vl_istore1, ↓vl_iinc1, ↓vl_iload2, ↓vl_aload2, ↓vl_istore2, ↓vl_iinc2, ↓vl_iload3, ↓vl_aload3, ↓vl_istore3, ↓vl_iinc3, ↓vl_iload4, ↓vl_istore4, ↓vl_iinc4, ↓vl_iload5, ↓vl_istore5, ↓vl_iinc5, ↓vl_iload6, ↓vl_istore6, ↓vl_iinc6, ↓vl_iload7, ↓vl_istore7, ↓vl_iinc7, ↓vl_lload5, ↓vl_lstore5, ↓vl_iadd, ↓vl_isub, ↓vl_imul, ↓vl_iand, ↓vl_ior, ↓vl_ixor, ↓vl_ishl, ↓vl_ishr, ↓vl_iushr, ↓vl_idiv, ↓vl_irem, ↓vl_ladd, ↓vl_lsub, ↓vl_lmul, ↓vl_lcmp, ↓vl_i2l, ↓vl_dup, ↓vl_dup2, ↓vl_gotoF, ↓vl_gotoB, ↓vl_nnF, ↓vl_ic_eqF, ↓vl_if_eqF, ↓vl_ic_eqB, ↓vl_if_eqB, ↓vl_ic_neF, ↓vl_if_neF, ↓vl_ic_neB, ↓vl_if_neB, ↓vl_ic_ltF, ↓vl_if_ltF, ↓vl_ic_ltB, ↓vl_if_ltB, ↓vl_ic_geF, ↓vl_if_geF, ↓vl_ic_geB, ↓vl_if_geB, ↓vl_ic_gtF, ↓vl_if_gtF, ↓vl_ic_gtB, ↓vl_if_gtB, ↓vl_ic_leF, ↓vl_if_leF, ↓vl_ic_leB, ↓vl_if_leB, ↓vl_sw, ↓vl_get, ↓vl_putI, ↓vl_putL, ↓vl_iald, ↓vl_iast, ↓vl_alen, ↓vl_aald, ↓vl_iretI, ↓vl_iretZ, ↓vl_ret, ↓vl_mark, ↓vl_markT, ↓vl_skip, ↓vl_st0, ↓vl_vi0, ↓vl_st1, ↓vl_vi1, ↓vl_st2, ↓vl_vi2, ↓vl_st3, ↓vl_vi3, ↓vl_st4, ↓vl_vi4, ↓vl_st5, ↓vl_vi5, ↓vl_st6, ↓vl_vi6, ↓vl_min, ↓vl_max, ↓vl_cpy, ↓vk_kvs, ↓vk_kvn, ↓vk_gf0, ↓vk_gv0, ↓vk_gv1, ↓vk_gv2, ↓vk_pf, ↓vk_ar, ↓vk_arr, bc_lay, bc_fn, bc_mk, bc_cs, bc_cat, bc_nl, bc_nth, bc_en, bc_sw, true_and, and_true, ↓reduceIte, reduceCtorEq, Nat.reduceEqDiff, Nat.reduceLeDiff, Nat.reduceAdd, Nat.le_refl, Nat.zero_le, Int.cast_ofNat_Int, Int.reduceEq, eq_self, true_implies, false_implies, not_true_eq_false, not_false_eq_true, bc_vr, Int.reduceToNat, Int.toNat_natCast, Int.reduceLE, Int.reduceLT, Int.reduceNeg, true_or, or_true, forall_const, Int.reduceAdd]
      refine c0_addLeast (T' := T) hX2.1 hV (by rw [hX2.2.2.2.1]; exact hsp) (fun o => by rw [hX2.2.2.2.1, hX2.2.2.2.2.1]; exact hlo o) hx0 hS2 (fun s f => pd_sf_unsnoc s f) (fun h3 hS3 hf3 => ?_)
      have hX3 := pd_XS_fx hX2 (pd_fx_fr hf3)
      have e223 : h3 22 = h2 22 := hf3 22 (by omega)
      have m3 : h3 22 7 = mm := hX3.2.2.2.2.2
      simp only [↓vl_iconst, ↓vl_bipush, ↓vl_sipush, ↓vl_lconst, ↓vl_ldc, ↓vl_ldcw, ↓vl_ldc2, ↓vl_iload0, ↓vl_aload0, ↓vl_istore0, ↓vl_iinc0, ↓vl_iload1, ↓vl_aload1, ↓vl_istore1, ↓vl_iinc1, ↓vl_iload2, ↓vl_aload2, ↓vl_istore2, ↓vl_iinc2, ↓vl_iload3, ↓vl_aload3, ↓vl_istore3, ↓vl_iinc3, ↓vl_iload4, ↓vl_istore4, ↓vl_iinc4, ↓vl_iload5, ↓vl_istore5, ↓vl_iinc5, ↓vl_iload6, ↓vl_istore6, ↓vl_iinc6, ↓vl_iload7, ↓vl_istore7, ↓vl_iinc7, ↓vl_lload5, ↓vl_lstore5, ↓vl_iadd, ↓vl_isub, ↓vl_imul, ↓vl_iand, ↓vl_ior, ↓vl_ixor, ↓vl_ishl, ↓vl_ishr, ↓vl_iushr, ↓vl_idiv, ↓vl_irem, ↓vl_ladd, ↓vl_lsub, ↓vl_lmul, ↓vl_lcmp, ↓vl_i2l, ↓vl_dup, ↓vl_dup2, ↓vl_gotoF, ↓vl_gotoB, ↓vl_nnF, ↓vl_ic_eqF, ↓vl_if_eqF, ↓vl_ic_eqB, ↓vl_if_eqB, ↓vl_ic_neF, ↓vl_if_neF, ↓vl_ic_neB, ↓vl_if_neB, ↓vl_ic_ltF, ↓vl_if_ltF, ↓vl_ic_ltB, ↓vl_if_ltB, ↓vl_ic_geF, ↓vl_if_geF, ↓vl_ic_geB, ↓vl_if_geB, ↓vl_ic_gtF, ↓vl_if_gtF, ↓vl_ic_gtB, ↓vl_if_gtB, ↓vl_ic_leF, ↓vl_if_leF, ↓vl_ic_leB, ↓vl_if_leB, ↓vl_sw, ↓vl_get, ↓vl_putI, ↓vl_putL, ↓vl_iald, ↓vl_iast, ↓vl_alen, ↓vl_aald, ↓vl_iretI, ↓vl_iretZ, ↓vl_ret, ↓vl_mark, ↓vl_markT, ↓vl_skip, ↓vl_st0, ↓vl_vi0, ↓vl_st1, ↓vl_vi1, ↓vl_st2, ↓vl_vi2, ↓vl_st3, ↓vl_vi3, ↓vl_st4, ↓vl_vi4, ↓vl_st5, ↓vl_vi5, ↓vl_st6, ↓vl_vi6, ↓vl_min, ↓vl_max, ↓vl_cpy, ↓vk_kvs, ↓vk_kvn, ↓vk_gf0, ↓vk_gv0, ↓vk_gv1, ↓vk_gv2, ↓vk_pf, ↓vk_ar, ↓vk_arr, bc_lay, bc_fn, bc_mk, bc_cs, bc_cat, bc_nl, bc_nth, bc_en, bc_sw, true_and, and_true, ↓reduceIte, reduceCtorEq, Nat.reduceEqDiff, Nat.reduceLeDiff, Nat.reduceAdd, Nat.le_refl, Nat.zero_le, Int.cast_ofNat_Int, Int.reduceEq, eq_self, true_implies, false_implies, not_true_eq_false, not_false_eq_true, bc_vr, Int.reduceToNat, Int.toNat_natCast, Int.reduceLE, Int.reduceLT, Int.reduceNeg, true_or, or_true, forall_const, Int.reduceAdd, m3]
      have hfx : pd_fx h h3 := pd_fx_trans (pd_fx_fr hf1) (pd_fx_trans hf2 (pd_fx_fr hf3))
      refine c6_isIn (by omega) (fun hb => ?_) (fun hb => ?_)
      · simp only [↓vl_iconst, ↓vl_bipush, ↓vl_sipush, ↓vl_lconst, ↓vl_ldc, ↓vl_ldcw, ↓vl_ldc2, ↓vl_iload0, ↓vl_aload0, ↓vl_istore0, ↓vl_iinc0, ↓vl_iload1, ↓vl_aload1, ↓vl_istore1, ↓vl_iinc1, ↓vl_iload2, ↓vl_aload2, ↓vl_istore2, ↓vl_iinc2, ↓vl_iload3, ↓vl_aload3, ↓vl_istore3, ↓vl_iinc3, ↓vl_iload4, ↓vl_istore4, ↓vl_iinc4, ↓vl_iload5, ↓vl_istore5, ↓vl_iinc5, ↓vl_iload6, ↓vl_istore6, ↓vl_iinc6, ↓vl_iload7, ↓vl_istore7, ↓vl_iinc7, ↓vl_lload5, ↓vl_lstore5, ↓vl_iadd, ↓vl_isub, ↓vl_imul, ↓vl_iand, ↓vl_ior, ↓vl_ixor, ↓vl_ishl, ↓vl_ishr, ↓vl_iushr, ↓vl_idiv, ↓vl_irem, ↓vl_ladd, ↓vl_lsub, ↓vl_lmul, ↓vl_lcmp, ↓vl_i2l, ↓vl_dup, ↓vl_dup2, ↓vl_gotoF, ↓vl_gotoB, ↓vl_nnF, ↓vl_ic_eqF, ↓vl_if_eqF, ↓vl_ic_eqB, ↓vl_if_eqB, ↓vl_ic_neF, ↓vl_if_neF, ↓vl_ic_neB, ↓vl_if_neB, ↓vl_ic_ltF, ↓vl_if_ltF, ↓vl_ic_ltB, ↓vl_if_ltB, ↓vl_ic_geF, ↓vl_if_geF, ↓vl_ic_geB, ↓vl_if_geB, ↓vl_ic_gtF, ↓vl_if_gtF, ↓vl_ic_gtB, ↓vl_if_gtB, ↓vl_ic_leF, ↓vl_if_leF, ↓vl_ic_leB, ↓vl_if_leB, ↓vl_sw, ↓vl_get, ↓vl_putI, ↓vl_putL, ↓vl_iald, ↓vl_iast, ↓vl_alen, ↓vl_aald, ↓vl_iretI, ↓vl_iretZ, ↓vl_ret, ↓vl_mark, ↓vl_markT, ↓vl_skip, ↓vl_st0, ↓vl_vi0, ↓vl_st1, ↓vl_vi1, ↓vl_st2, ↓vl_vi2, ↓vl_st3, ↓vl_vi3, ↓vl_st4, ↓vl_vi4, ↓vl_st5, ↓vl_vi5, ↓vl_st6, ↓vl_vi6, ↓vl_min, ↓vl_max, ↓vl_cpy, ↓vk_kvs, ↓vk_kvn, ↓vk_gf0, ↓vk_gv0, ↓vk_gv1, ↓vk_gv2, ↓vk_pf, ↓vk_ar, ↓vk_arr, bc_lay, bc_fn, bc_mk, bc_cs, bc_cat, bc_nl, bc_nth, bc_en, bc_sw, true_and, and_true, ↓reduceIte, reduceCtorEq, Nat.reduceEqDiff, Nat.reduceLeDiff, Nat.reduceAdd, Nat.le_refl, Nat.zero_le, Int.cast_ofNat_Int, Int.reduceEq, eq_self, true_implies, false_implies, not_true_eq_false, not_false_eq_true, bc_vr, Int.reduceToNat, Int.toNat_natCast, Int.reduceLE, Int.reduceLT, Int.reduceNeg, true_or, or_true, forall_const, Int.reduceAdd]
        refine kk h3 hfx hS3 ?_ ?_
        · rw [pd_dn_cons, if_pos hb, e223]; exact h82
        · rw [pd_dn_cons, if_pos hb, e223]; exact h92
      · simp only [↓vl_iconst, ↓vl_bipush, ↓vl_sipush, ↓vl_lconst, ↓vl_ldc, ↓vl_ldcw, ↓vl_ldc2, ↓vl_iload0, ↓vl_aload0, ↓vl_istore0, ↓vl_iinc0, ↓vl_iload1, ↓vl_aload1, ↓vl_istore1, ↓vl_iinc1, ↓vl_iload2, ↓vl_aload2, ↓vl_istore2, ↓vl_iinc2, ↓vl_iload3, ↓vl_aload3, ↓vl_istore3, ↓vl_iinc3, ↓vl_iload4, ↓vl_istore4, ↓vl_iinc4, ↓vl_iload5, ↓vl_istore5, ↓vl_iinc5, ↓vl_iload6, ↓vl_istore6, ↓vl_iinc6, ↓vl_iload7, ↓vl_istore7, ↓vl_iinc7, ↓vl_lload5, ↓vl_lstore5, ↓vl_iadd, ↓vl_isub, ↓vl_imul, ↓vl_iand, ↓vl_ior, ↓vl_ixor, ↓vl_ishl, ↓vl_ishr, ↓vl_iushr, ↓vl_idiv, ↓vl_irem, ↓vl_ladd, ↓vl_lsub, ↓vl_lmul, ↓vl_lcmp, ↓vl_i2l, ↓vl_dup, ↓vl_dup2, ↓vl_gotoF, ↓vl_gotoB, ↓vl_nnF, ↓vl_ic_eqF, ↓vl_if_eqF, ↓vl_ic_eqB, ↓vl_if_eqB, ↓vl_ic_neF, ↓vl_if_neF, ↓vl_ic_neB, ↓vl_if_neB, ↓vl_ic_ltF, ↓vl_if_ltF, ↓vl_ic_ltB, ↓vl_if_ltB, ↓vl_ic_geF, ↓vl_if_geF, ↓vl_ic_geB, ↓vl_if_geB, ↓vl_ic_gtF, ↓vl_if_gtF, ↓vl_ic_gtB, ↓vl_if_gtB, ↓vl_ic_leF, ↓vl_if_leF, ↓vl_ic_leB, ↓vl_if_leB, ↓vl_sw, ↓vl_get, ↓vl_putI, ↓vl_putL, ↓vl_iald, ↓vl_iast, ↓vl_alen, ↓vl_aald, ↓vl_iretI, ↓vl_iretZ, ↓vl_ret, ↓vl_mark, ↓vl_markT, ↓vl_skip, ↓vl_st0, ↓vl_vi0, ↓vl_st1, ↓vl_vi1, ↓vl_st2, ↓vl_vi2, ↓vl_st3, ↓vl_vi3, ↓vl_st4, ↓vl_vi4, ↓vl_st5, ↓vl_vi5, ↓vl_st6, ↓vl_vi6, ↓vl_min, ↓vl_max, ↓vl_cpy, ↓vk_kvs, ↓vk_kvn, ↓vk_gf0, ↓vk_gv0, ↓vk_gv1, ↓vk_gv2, ↓vk_pf, ↓vk_ar, ↓vk_arr, bc_lay, bc_fn, bc_mk, bc_cs, bc_cat, bc_nl, bc_nth, bc_en, bc_sw, true_and, and_true, ↓reduceIte, reduceCtorEq, Nat.reduceEqDiff, Nat.reduceLeDiff, Nat.reduceAdd, Nat.le_refl, Nat.zero_le, Int.cast_ofNat_Int, Int.reduceEq, eq_self, true_implies, false_implies, not_true_eq_false, not_false_eq_true, bc_vr, Int.reduceToNat, Int.toNat_natCast, Int.reduceLE, Int.reduceLT, Int.reduceNeg, true_or, or_true, forall_const, Int.reduceAdd]
        refine c0_addSize (U' := T ++ R) hX3.1 hV hhi hx0 hS3 (fun s f => pd_sf_mid s f) (fun h4 hS4 hf4 => ?_)
        have hX4 := pd_XS_fx hX3 (pd_fx_fr hf4)
        have e224 : h4 22 = h3 22 := hf4 22 (by omega)
        simp only [↓vl_iconst, ↓vl_bipush, ↓vl_sipush, ↓vl_lconst, ↓vl_ldc, ↓vl_ldcw, ↓vl_ldc2, ↓vl_iload0, ↓vl_aload0, ↓vl_istore0, ↓vl_iinc0, ↓vl_iload1, ↓vl_aload1, ↓vl_istore1, ↓vl_iinc1, ↓vl_iload2, ↓vl_aload2, ↓vl_istore2, ↓vl_iinc2, ↓vl_iload3, ↓vl_aload3, ↓vl_istore3, ↓vl_iinc3, ↓vl_iload4, ↓vl_istore4, ↓vl_iinc4, ↓vl_iload5, ↓vl_istore5, ↓vl_iinc5, ↓vl_iload6, ↓vl_istore6, ↓vl_iinc6, ↓vl_iload7, ↓vl_istore7, ↓vl_iinc7, ↓vl_lload5, ↓vl_lstore5, ↓vl_iadd, ↓vl_isub, ↓vl_imul, ↓vl_iand, ↓vl_ior, ↓vl_ixor, ↓vl_ishl, ↓vl_ishr, ↓vl_iushr, ↓vl_idiv, ↓vl_irem, ↓vl_ladd, ↓vl_lsub, ↓vl_lmul, ↓vl_lcmp, ↓vl_i2l, ↓vl_dup, ↓vl_dup2, ↓vl_gotoF, ↓vl_gotoB, ↓vl_nnF, ↓vl_ic_eqF, ↓vl_if_eqF, ↓vl_ic_eqB, ↓vl_if_eqB, ↓vl_ic_neF, ↓vl_if_neF, ↓vl_ic_neB, ↓vl_if_neB, ↓vl_ic_ltF, ↓vl_if_ltF, ↓vl_ic_ltB, ↓vl_if_ltB, ↓vl_ic_geF, ↓vl_if_geF, ↓vl_ic_geB, ↓vl_if_geB, ↓vl_ic_gtF, ↓vl_if_gtF, ↓vl_ic_gtB, ↓vl_if_gtB, ↓vl_ic_leF, ↓vl_if_leF, ↓vl_ic_leB, ↓vl_if_leB, ↓vl_sw, ↓vl_get, ↓vl_putI, ↓vl_putL, ↓vl_iald, ↓vl_iast, ↓vl_alen, ↓vl_aald, ↓vl_iretI, ↓vl_iretZ, ↓vl_ret, ↓vl_mark, ↓vl_markT, ↓vl_skip, ↓vl_st0, ↓vl_vi0, ↓vl_st1, ↓vl_vi1, ↓vl_st2, ↓vl_vi2, ↓vl_st3, ↓vl_vi3, ↓vl_st4, ↓vl_vi4, ↓vl_st5, ↓vl_vi5, ↓vl_st6, ↓vl_vi6, ↓vl_min, ↓vl_max, ↓vl_cpy, ↓vk_kvs, ↓vk_kvn, ↓vk_gf0, ↓vk_gv0, ↓vk_gv1, ↓vk_gv2, ↓vk_pf, ↓vk_ar, ↓vk_arr, bc_lay, bc_fn, bc_mk, bc_cs, bc_cat, bc_nl, bc_nth, bc_en, bc_sw, true_and, and_true, ↓reduceIte, reduceCtorEq, Nat.reduceEqDiff, Nat.reduceLeDiff, Nat.reduceAdd, Nat.le_refl, Nat.zero_le, Int.cast_ofNat_Int, Int.reduceEq, eq_self, true_implies, false_implies, not_true_eq_false, not_false_eq_true, bc_vr, Int.reduceToNat, Int.toNat_natCast, Int.reduceLE, Int.reduceLT, Int.reduceNeg, true_or, or_true, forall_const, Int.reduceAdd]
        rw [e1]
        refine ih T (k + 1) h4 (pd_dn D lo hi (bc_bit mm) (T ++ [x]) R a) _ hdr2 (by omega) hT hTR' hX4 hS4 (by rw [e224, e223]; exact h82) (by rw [e224, e223]; exact h92) ha2 (fun h5 hf5 hS5 h85 h95 => ?_)
        have hX5 := pd_XS_fx hX4 hf5
        simp only [↓vl_iconst, ↓vl_bipush, ↓vl_sipush, ↓vl_lconst, ↓vl_ldc, ↓vl_ldcw, ↓vl_ldc2, ↓vl_iload0, ↓vl_aload0, ↓vl_istore0, ↓vl_iinc0, ↓vl_iload1, ↓vl_aload1, ↓vl_istore1, ↓vl_iinc1, ↓vl_iload2, ↓vl_aload2, ↓vl_istore2, ↓vl_iinc2, ↓vl_iload3, ↓vl_aload3, ↓vl_istore3, ↓vl_iinc3, ↓vl_iload4, ↓vl_istore4, ↓vl_iinc4, ↓vl_iload5, ↓vl_istore5, ↓vl_iinc5, ↓vl_iload6, ↓vl_istore6, ↓vl_iinc6, ↓vl_iload7, ↓vl_istore7, ↓vl_iinc7, ↓vl_lload5, ↓vl_lstore5, ↓vl_iadd, ↓vl_isub, ↓vl_imul, ↓vl_iand, ↓vl_ior, ↓vl_ixor, ↓vl_ishl, ↓vl_ishr, ↓vl_iushr, ↓vl_idiv, ↓vl_irem, ↓vl_ladd, ↓vl_lsub, ↓vl_lmul, ↓vl_lcmp, ↓vl_i2l, ↓vl_dup, ↓vl_dup2, ↓vl_gotoF, ↓vl_gotoB, ↓vl_nnF, ↓vl_ic_eqF, ↓vl_if_eqF, ↓vl_ic_eqB, ↓vl_if_eqB, ↓vl_ic_neF, ↓vl_if_neF, ↓vl_ic_neB, ↓vl_if_neB, ↓vl_ic_ltF, ↓vl_if_ltF, ↓vl_ic_ltB, ↓vl_if_ltB, ↓vl_ic_geF, ↓vl_if_geF, ↓vl_ic_geB, ↓vl_if_geB, ↓vl_ic_gtF, ↓vl_if_gtF, ↓vl_ic_gtB, ↓vl_if_gtB, ↓vl_ic_leF, ↓vl_if_leF, ↓vl_ic_leB, ↓vl_if_leB, ↓vl_sw, ↓vl_get, ↓vl_putI, ↓vl_putL, ↓vl_iald, ↓vl_iast, ↓vl_alen, ↓vl_aald, ↓vl_iretI, ↓vl_iretZ, ↓vl_ret, ↓vl_mark, ↓vl_markT, ↓vl_skip, ↓vl_st0, ↓vl_vi0, ↓vl_st1, ↓vl_vi1, ↓vl_st2, ↓vl_vi2, ↓vl_st3, ↓vl_vi3, ↓vl_st4, ↓vl_vi4, ↓vl_st5, ↓vl_vi5, ↓vl_st6, ↓vl_vi6, ↓vl_min, ↓vl_max, ↓vl_cpy, ↓vk_kvs, ↓vk_kvn, ↓vk_gf0, ↓vk_gv0, ↓vk_gv1, ↓vk_gv2, ↓vk_pf, ↓vk_ar, ↓vk_arr, bc_lay, bc_fn, bc_mk, bc_cs, bc_cat, bc_nl, bc_nth, bc_en, bc_sw, true_and, and_true, ↓reduceIte, reduceCtorEq, Nat.reduceEqDiff, Nat.reduceLeDiff, Nat.reduceAdd, Nat.le_refl, Nat.zero_le, Int.cast_ofNat_Int, Int.reduceEq, eq_self, true_implies, false_implies, not_true_eq_false, not_false_eq_true, bc_vr, Int.reduceToNat, Int.toNat_natCast, Int.reduceLE, Int.reduceLT, Int.reduceNeg, true_or, or_true, forall_const, Int.reduceAdd]
        refine c0_addSize (U' := T ++ x :: R) hX5.1 hV hhi hx0 hS5 (fun s f => pd_sf_unmid s f) (fun h6 hS6 hf6 => ?_)
        have e226 : h6 22 = h5 22 := hf6 22 (by omega)
        simp only [↓vl_iconst, ↓vl_bipush, ↓vl_sipush, ↓vl_lconst, ↓vl_ldc, ↓vl_ldcw, ↓vl_ldc2, ↓vl_iload0, ↓vl_aload0, ↓vl_istore0, ↓vl_iinc0, ↓vl_iload1, ↓vl_aload1, ↓vl_istore1, ↓vl_iinc1, ↓vl_iload2, ↓vl_aload2, ↓vl_istore2, ↓vl_iinc2, ↓vl_iload3, ↓vl_aload3, ↓vl_istore3, ↓vl_iinc3, ↓vl_iload4, ↓vl_istore4, ↓vl_iinc4, ↓vl_iload5, ↓vl_istore5, ↓vl_iinc5, ↓vl_iload6, ↓vl_istore6, ↓vl_iinc6, ↓vl_iload7, ↓vl_istore7, ↓vl_iinc7, ↓vl_lload5, ↓vl_lstore5, ↓vl_iadd, ↓vl_isub, ↓vl_imul, ↓vl_iand, ↓vl_ior, ↓vl_ixor, ↓vl_ishl, ↓vl_ishr, ↓vl_iushr, ↓vl_idiv, ↓vl_irem, ↓vl_ladd, ↓vl_lsub, ↓vl_lmul, ↓vl_lcmp, ↓vl_i2l, ↓vl_dup, ↓vl_dup2, ↓vl_gotoF, ↓vl_gotoB, ↓vl_nnF, ↓vl_ic_eqF, ↓vl_if_eqF, ↓vl_ic_eqB, ↓vl_if_eqB, ↓vl_ic_neF, ↓vl_if_neF, ↓vl_ic_neB, ↓vl_if_neB, ↓vl_ic_ltF, ↓vl_if_ltF, ↓vl_ic_ltB, ↓vl_if_ltB, ↓vl_ic_geF, ↓vl_if_geF, ↓vl_ic_geB, ↓vl_if_geB, ↓vl_ic_gtF, ↓vl_if_gtF, ↓vl_ic_gtB, ↓vl_if_gtB, ↓vl_ic_leF, ↓vl_if_leF, ↓vl_ic_leB, ↓vl_if_leB, ↓vl_sw, ↓vl_get, ↓vl_putI, ↓vl_putL, ↓vl_iald, ↓vl_iast, ↓vl_alen, ↓vl_aald, ↓vl_iretI, ↓vl_iretZ, ↓vl_ret, ↓vl_mark, ↓vl_markT, ↓vl_skip, ↓vl_st0, ↓vl_vi0, ↓vl_st1, ↓vl_vi1, ↓vl_st2, ↓vl_vi2, ↓vl_st3, ↓vl_vi3, ↓vl_st4, ↓vl_vi4, ↓vl_st5, ↓vl_vi5, ↓vl_st6, ↓vl_vi6, ↓vl_min, ↓vl_max, ↓vl_cpy, ↓vk_kvs, ↓vk_kvn, ↓vk_gf0, ↓vk_gv0, ↓vk_gv1, ↓vk_gv2, ↓vk_pf, ↓vk_ar, ↓vk_arr, bc_lay, bc_fn, bc_mk, bc_cs, bc_cat, bc_nl, bc_nth, bc_en, bc_sw, true_and, and_true, ↓reduceIte, reduceCtorEq, Nat.reduceEqDiff, Nat.reduceLeDiff, Nat.reduceAdd, Nat.le_refl, Nat.zero_le, Int.cast_ofNat_Int, Int.reduceEq, eq_self, true_implies, false_implies, not_true_eq_false, not_false_eq_true, bc_vr, Int.reduceToNat, Int.toNat_natCast, Int.reduceLE, Int.reduceLT, Int.reduceNeg, true_or, or_true, forall_const, Int.reduceAdd]
        refine kk h6 (pd_fx_trans hfx (pd_fx_trans (pd_fx_fr hf4) (pd_fx_trans hf5 (pd_fx_fr hf6)))) hS6 ?_ ?_
        · rw [pd_dn_cons, if_neg hb, e226]; exact h85
        · rw [pd_dn_cons, if_neg hb, e226]; exact h95
    · have hcut := pd_dn_cut (D := D) (lo := lo) (hi := hi) (must := bc_bit mm) (T := T) (R := x :: R) (a := a) (fun y hy => (bUl y hy).1) (fun y hy => (bU y hy).1) (by omega)
      refine kk h pd_fx_refl hS ?_ ?_
      · rw [hcut]; exact h8
      · rw [hcut]; exact h9
end Desc
end
section
/-! the class: arrange, choose, gather, mostOf -/
theorem pd_ins_len {D : Nat → Int} {o : Nat} : ∀ l : List Nat, (pd_ins D o l).length = l.length + 1 := by
  intro l
  induction l with
  | nil => rfl
  | cons a r ih =>
    rw [pd_ins]
    split
    · simp
    · simp [ih]
theorem pd_rk_len_mono {D : Nat → Int} {p : Nat → Bool} {i : Nat} : ∀ n, i ≤ n → (pd_rk D p i).length ≤ (pd_rk D p n).length := by
  intro n
  induction n with
  | zero => intro h; have : i = 0 := by omega
            subst this; exact Nat.le_refl _
  | succ n ih =>
    intro h
    by_cases e : i = n + 1
    · subst e; exact Nat.le_refl _
    · have := ih (by omega)
      rw [pd_rk]
      split
      · rw [pd_ins_len]; omega
      · exact this
section Choose
variable {d : Nat} {h : bc_AH} {post : Option bc_AV → bc_AH → Prop} {D : Nat → Int}
theorem c1_isAhead (hC : pd_C 4 D h) (hV : pd_V D) {a b : Nat} (ha : (a : Int) < D 0) (hb : (b : Int) < D 0) (k1 : pd_ah D a b = true → post (some (.inl 1)) h) (k0 : ¬ pd_ah D a b = true → post (some (.inl 0)) h) : bc_OK (d + 2) 20 [.inr (.inr 4), .inl (a : Int), .inl (b : Int)] h post := by
  have v0 := hV.1
  refine bc_run (n := 3) ck_X1_isAhead rfl rfl rfl rfl (Nat.le_of_ble_eq_true rfl) ?_
  simp only [k_X1_isAhead, ↓vl_iconst, ↓vl_bipush, ↓vl_sipush, ↓vl_lconst, ↓vl_ldc, ↓vl_ldcw, ↓vl_ldc2, ↓vl_iload0, ↓vl_aload0, ↓vl_istore0, ↓vl_iinc0, ↓vl_iload1, ↓vl_aload1, ↓vl_istore1, ↓vl_iinc1, ↓vl_iload2, ↓vl_aload2, ↓vl_istore2, ↓vl_iinc2, ↓vl_iload3, ↓vl_aload3, ↓vl_istore3, ↓vl_iinc3, ↓vl_iload4, ↓vl_istore4, ↓vl_iinc4, ↓vl_iload5, ↓vl_istore5, ↓vl_iinc5, ↓vl_iload6, ↓vl_istore6, ↓vl_iinc6, ↓vl_iload7, ↓vl_istore7, ↓vl_iinc7, ↓vl_lload5, ↓vl_lstore5, ↓vl_iadd, ↓vl_isub, ↓vl_imul, ↓vl_iand, ↓vl_ior, ↓vl_ixor, ↓vl_ishl, ↓vl_ishr, ↓vl_iushr, ↓vl_idiv, ↓vl_irem, ↓vl_ladd, ↓vl_lsub, ↓vl_lmul, ↓vl_lcmp, ↓vl_i2l, ↓vl_dup, ↓vl_dup2, ↓vl_gotoF, ↓vl_gotoB, ↓vl_nnF, ↓vl_ic_eqF, ↓vl_if_eqF, ↓vl_ic_eqB, ↓vl_if_eqB, ↓vl_ic_neF, ↓vl_if_neF, ↓vl_ic_neB, ↓vl_if_neB, ↓vl_ic_ltF, ↓vl_if_ltF, ↓vl_ic_ltB, ↓vl_if_ltB, ↓vl_ic_geF, ↓vl_if_geF, ↓vl_ic_geB, ↓vl_if_geB, ↓vl_ic_gtF, ↓vl_if_gtF, ↓vl_ic_gtB, ↓vl_if_gtB, ↓vl_ic_leF, ↓vl_if_leF, ↓vl_ic_leB, ↓vl_if_leB, ↓vl_sw, ↓vl_get, ↓vl_putI, ↓vl_putL, ↓vl_iald, ↓vl_iast, ↓vl_alen, ↓vl_aald, ↓vl_iretI, ↓vl_iretZ, ↓vl_ret, ↓vl_mark, ↓vl_markT, ↓vl_skip, ↓vl_st0, ↓vl_vi0, ↓vl_st1, ↓vl_vi1, ↓vl_st2, ↓vl_vi2, ↓vl_st3, ↓vl_vi3, ↓vl_st4, ↓vl_vi4, ↓vl_st5, ↓vl_vi5, ↓vl_st6, ↓vl_vi6, ↓vl_min, ↓vl_max, ↓vl_cpy, ↓vk_kvs, ↓vk_kvn, ↓vk_gf0, ↓vk_gv0, ↓vk_gv1, ↓vk_gv2, ↓vk_pf, ↓vk_ar, ↓vk_arr, bc_lay, bc_fn, bc_mk, bc_cs, bc_cat, bc_nl, bc_nth, bc_en, bc_sw, true_and, and_true, ↓reduceIte, reduceCtorEq, Nat.reduceEqDiff, Nat.reduceLeDiff, Nat.reduceAdd, Nat.le_refl, Nat.zero_le, Int.cast_ofNat_Int, Int.reduceEq, eq_self, true_implies, false_implies, not_true_eq_false, not_false_eq_true, bc_vr, Int.reduceToNat, Int.toNat_natCast, Int.reduceLE, Int.reduceLT, Int.reduceNeg, true_or, or_true, forall_const, Int.reduceAdd]
  refine c1_has hC hV ⟨by omega, by omega⟩ (fun _ _ => ?_) (fun q => absurd ⟨by omega, ha⟩ q)
  simp only [↓vl_iconst, ↓vl_bipush, ↓vl_sipush, ↓vl_lconst, ↓vl_ldc, ↓vl_ldcw, ↓vl_ldc2, ↓vl_iload0, ↓vl_aload0, ↓vl_istore0, ↓vl_iinc0, ↓vl_iload1, ↓vl_aload1, ↓vl_istore1, ↓vl_iinc1, ↓vl_iload2, ↓vl_aload2, ↓vl_istore2, ↓vl_iinc2, ↓vl_iload3, ↓vl_aload3, ↓vl_istore3, ↓vl_iinc3, ↓vl_iload4, ↓vl_istore4, ↓vl_iinc4, ↓vl_iload5, ↓vl_istore5, ↓vl_iinc5, ↓vl_iload6, ↓vl_istore6, ↓vl_iinc6, ↓vl_iload7, ↓vl_istore7, ↓vl_iinc7, ↓vl_lload5, ↓vl_lstore5, ↓vl_iadd, ↓vl_isub, ↓vl_imul, ↓vl_iand, ↓vl_ior, ↓vl_ixor, ↓vl_ishl, ↓vl_ishr, ↓vl_iushr, ↓vl_idiv, ↓vl_irem, ↓vl_ladd, ↓vl_lsub, ↓vl_lmul, ↓vl_lcmp, ↓vl_i2l, ↓vl_dup, ↓vl_dup2, ↓vl_gotoF, ↓vl_gotoB, ↓vl_nnF, ↓vl_ic_eqF, ↓vl_if_eqF, ↓vl_ic_eqB, ↓vl_if_eqB, ↓vl_ic_neF, ↓vl_if_neF, ↓vl_ic_neB, ↓vl_if_neB, ↓vl_ic_ltF, ↓vl_if_ltF, ↓vl_ic_ltB, ↓vl_if_ltB, ↓vl_ic_geF, ↓vl_if_geF, ↓vl_ic_geB, ↓vl_if_geB, ↓vl_ic_gtF, ↓vl_if_gtF, ↓vl_ic_gtB, ↓vl_if_gtB, ↓vl_ic_leF, ↓vl_if_leF, ↓vl_ic_leB, ↓vl_if_leB, ↓vl_sw, ↓vl_get, ↓vl_putI, ↓vl_putL, ↓vl_iald, ↓vl_iast, ↓vl_alen, ↓vl_aald, ↓vl_iretI, ↓vl_iretZ, ↓vl_ret, ↓vl_mark, ↓vl_markT, ↓vl_skip, ↓vl_st0, ↓vl_vi0, ↓vl_st1, ↓vl_vi1, ↓vl_st2, ↓vl_vi2, ↓vl_st3, ↓vl_vi3, ↓vl_st4, ↓vl_vi4, ↓vl_st5, ↓vl_vi5, ↓vl_st6, ↓vl_vi6, ↓vl_min, ↓vl_max, ↓vl_cpy, ↓vk_kvs, ↓vk_kvn, ↓vk_gf0, ↓vk_gv0, ↓vk_gv1, ↓vk_gv2, ↓vk_pf, ↓vk_ar, ↓vk_arr, bc_lay, bc_fn, bc_mk, bc_cs, bc_cat, bc_nl, bc_nth, bc_en, bc_sw, true_and, and_true, ↓reduceIte, reduceCtorEq, Nat.reduceEqDiff, Nat.reduceLeDiff, Nat.reduceAdd, Nat.le_refl, Nat.zero_le, Int.cast_ofNat_Int, Int.reduceEq, eq_self, true_implies, false_implies, not_true_eq_false, not_false_eq_true, bc_vr, Int.reduceToNat, Int.toNat_natCast, Int.reduceLE, Int.reduceLT, Int.reduceNeg, true_or, or_true, forall_const, Int.reduceAdd]
  refine c1_has hC hV ⟨by omega, by omega⟩ (fun _ _ => ?_) (fun q => absurd ⟨by omega, hb⟩ q)
  obtain ⟨-, f1, -⟩ := pd_C_at hC (o := (a : Int)) (by omega) ha
  obtain ⟨-, g1, -⟩ := pd_C_at hC (o := (b : Int)) (by omega) hb
  obtain ⟨-, r1, -⟩ := hV.2.2 a ha
  obtain ⟨-, r2, -⟩ := hV.2.2 b hb
  simp only [Int.toNat_natCast] at f1 g1
  simp only [↓vl_iconst, ↓vl_bipush, ↓vl_sipush, ↓vl_lconst, ↓vl_ldc, ↓vl_ldcw, ↓vl_ldc2, ↓vl_iload0, ↓vl_aload0, ↓vl_istore0, ↓vl_iinc0, ↓vl_iload1, ↓vl_aload1, ↓vl_istore1, ↓vl_iinc1, ↓vl_iload2, ↓vl_aload2, ↓vl_istore2, ↓vl_iinc2, ↓vl_iload3, ↓vl_aload3, ↓vl_istore3, ↓vl_iinc3, ↓vl_iload4, ↓vl_istore4, ↓vl_iinc4, ↓vl_iload5, ↓vl_istore5, ↓vl_iinc5, ↓vl_iload6, ↓vl_istore6, ↓vl_iinc6, ↓vl_iload7, ↓vl_istore7, ↓vl_iinc7, ↓vl_lload5, ↓vl_lstore5, ↓vl_iadd, ↓vl_isub, ↓vl_imul, ↓vl_iand, ↓vl_ior, ↓vl_ixor, ↓vl_ishl, ↓vl_ishr, ↓vl_iushr, ↓vl_idiv, ↓vl_irem, ↓vl_ladd, ↓vl_lsub, ↓vl_lmul, ↓vl_lcmp, ↓vl_i2l, ↓vl_dup, ↓vl_dup2, ↓vl_gotoF, ↓vl_gotoB, ↓vl_nnF, ↓vl_ic_eqF, ↓vl_if_eqF, ↓vl_ic_eqB, ↓vl_if_eqB, ↓vl_ic_neF, ↓vl_if_neF, ↓vl_ic_neB, ↓vl_if_neB, ↓vl_ic_ltF, ↓vl_if_ltF, ↓vl_ic_ltB, ↓vl_if_ltB, ↓vl_ic_geF, ↓vl_if_geF, ↓vl_ic_geB, ↓vl_if_geB, ↓vl_ic_gtF, ↓vl_if_gtF, ↓vl_ic_gtB, ↓vl_if_gtB, ↓vl_ic_leF, ↓vl_if_leF, ↓vl_ic_leB, ↓vl_if_leB, ↓vl_sw, ↓vl_get, ↓vl_putI, ↓vl_putL, ↓vl_iald, ↓vl_iast, ↓vl_alen, ↓vl_aald, ↓vl_iretI, ↓vl_iretZ, ↓vl_ret, ↓vl_mark, ↓vl_markT, ↓vl_skip, ↓vl_st0, ↓vl_vi0, ↓vl_st1, ↓vl_vi1, ↓vl_st2, ↓vl_vi2, ↓vl_st3, ↓vl_vi3, ↓vl_st4, ↓vl_vi4, ↓vl_st5, ↓vl_vi5, ↓vl_st6, ↓vl_vi6, ↓vl_min, ↓vl_max, ↓vl_cpy, ↓vk_kvs, ↓vk_kvn, ↓vk_gf0, ↓vk_gv0, ↓vk_gv1, ↓vk_gv2, ↓vk_pf, ↓vk_ar, ↓vk_arr, bc_lay, bc_fn, bc_mk, bc_cs, bc_cat, bc_nl, bc_nth, bc_en, bc_sw, true_and, and_true, ↓reduceIte, reduceCtorEq, Nat.reduceEqDiff, Nat.reduceLeDiff, Nat.reduceAdd, Nat.le_refl, Nat.zero_le, Int.cast_ofNat_Int, Int.reduceEq, eq_self, true_implies, false_implies, not_true_eq_false, not_false_eq_true, bc_vr, Int.reduceToNat, Int.toNat_natCast, Int.reduceLE, Int.reduceLT, Int.reduceNeg, true_or, or_true, forall_const, Int.reduceAdd, f1, g1]
  repeat' (first | refine And.intro ?_ ?_ | intro _)
  all_goals first | omega | (refine k1 ?_; rw [pd_ah_iff]; unfold pd_sz; omega) | (refine k0 ?_; rw [pd_ah_iff]; unfold pd_sz; omega)
-- the inner loop: an order finds its place from behind
set_option maxRecDepth 20000 in
theorem l0_ins (hV : pd_V D) {m : Int} {i : Nat} {l : List Nat} (hi : (i : Int) < D 0) (hl : l.length < 10) (hlt : ∀ x ∈ l, (x : Int) < D 0) (hso : l.Pairwise (fun a b => pd_ah D a b = true)) {h0 : bc_AH} (hC0 : pd_C 4 D h0) (hm0 : h0 22 4 = (l.length : Int))
    (kk : ∀ h', (∀ (j x : Nat), (pd_ins D i l)[j]? = some x → h' 28 j = (x : Int)) → h' 22 4 = (l.length : Int) + 1 → (∀ j : Nat, j ≠ 4 → h' 22 j = h0 22 j) → (∀ c : Nat, c ≠ 22 → c ≠ 28 → h' c = h0 c) → bc_AT (d + 2) 6 post 7 [some (.inr (.inr 22)), some (.inl m), some (.inl ((i : Int) + 1)), none] [] h') :
    ∀ (k : Nat) (h : bc_AH), k ≤ l.length → (∀ (j x : Nat), j < k → l[j]? = some x → h 28 j = (x : Int)) → (∀ (j x : Nat), k ≤ j → l[j]? = some x → h 28 (j + 1) = (x : Int)) → (∀ (j x : Nat), k ≤ j → l[j]? = some x → pd_ah D i x = true) → h 22 = h0 22 → (∀ c : Nat, c ≠ 28 → h c = h0 c) → bc_AT (d + 2) 6 post 40 [some (.inr (.inr 22)), some (.inl m), some (.inl (i : Int)), some (.inl (k : Int))] [] h := by
  have v0 := hV.1
  intro k
  induction k with
  | zero =>
    intro h hk h1 h2 h3 h22 hf
    refine bc_at ck_X0_arrange ?_
    simp only [k_X0_arrange, ↓vl_iconst, ↓vl_bipush, ↓vl_sipush, ↓vl_lconst, ↓vl_ldc, ↓vl_ldcw, ↓vl_ldc2, ↓vl_iload0, ↓vl_aload0, ↓vl_istore0, ↓vl_iinc0, ↓vl_iload1, ↓vl_aload1, ↓vl_istore1, ↓vl_iinc1, ↓vl_iload2, ↓vl_aload2, ↓vl_istore2, ↓vl_iinc2, ↓vl_iload3, ↓vl_aload3, ↓vl_istore3, ↓vl_iinc3, ↓vl_iload4, ↓vl_istore4, ↓vl_iinc4, ↓vl_iload5, ↓vl_istore5, ↓vl_iinc5, ↓vl_iload6, ↓vl_istore6, ↓vl_iinc6, ↓vl_iload7, ↓vl_istore7, ↓vl_iinc7, ↓vl_lload5, ↓vl_lstore5, ↓vl_iadd, ↓vl_isub, ↓vl_imul, ↓vl_iand, ↓vl_ior, ↓vl_ixor, ↓vl_ishl, ↓vl_ishr, ↓vl_iushr, ↓vl_idiv, ↓vl_irem, ↓vl_ladd, ↓vl_lsub, ↓vl_lmul, ↓vl_lcmp, ↓vl_i2l, ↓vl_dup, ↓vl_dup2, ↓vl_gotoF, ↓vl_gotoB, ↓vl_nnF, ↓vl_ic_eqF, ↓vl_if_eqF, ↓vl_ic_eqB, ↓vl_if_eqB, ↓vl_ic_neF, ↓vl_if_neF, ↓vl_ic_neB, ↓vl_if_neB, ↓vl_ic_ltF, ↓vl_if_ltF, ↓vl_ic_ltB, ↓vl_if_ltB, ↓vl_ic_geF, ↓vl_if_geF, ↓vl_ic_geB, ↓vl_if_geB, ↓vl_ic_gtF, ↓vl_if_gtF, ↓vl_ic_gtB, ↓vl_if_gtB, ↓vl_ic_leF, ↓vl_if_leF, ↓vl_ic_leB, ↓vl_if_leB, ↓vl_sw, ↓vl_get, ↓vl_putI, ↓vl_putL, ↓vl_iald, ↓vl_iast, ↓vl_alen, ↓vl_aald, ↓vl_iretI, ↓vl_iretZ, ↓vl_ret, ↓vl_mark, ↓vl_markT, ↓vl_skip, ↓vl_st0, ↓vl_vi0, ↓vl_st1, ↓vl_vi1, ↓vl_st2, ↓vl_vi2, ↓vl_st3, ↓vl_vi3, ↓vl_st4, ↓vl_vi4, ↓vl_st5, ↓vl_vi5, ↓vl_st6, ↓vl_vi6, ↓vl_min, ↓vl_max, ↓vl_cpy, ↓vk_kvs, ↓vk_kvn, ↓vk_gf0, ↓vk_gv0, ↓vk_gv1, ↓vk_gv2, ↓vk_pf, ↓vk_ar, ↓vk_arr, bc_lay, bc_fn, bc_mk, bc_cs, bc_cat, bc_nl, bc_nth, bc_en, bc_sw, true_and, and_true, ↓reduceIte, reduceCtorEq, Nat.reduceEqDiff, Nat.reduceLeDiff, Nat.reduceAdd, Nat.le_refl, Nat.zero_le, Int.cast_ofNat_Int, Int.reduceEq, eq_self, true_implies, false_implies, not_true_eq_false, not_false_eq_true, bc_vr, Int.reduceToNat, Int.toNat_natCast, Int.reduceLE, Int.reduceLT, Int.reduceNeg, true_or, or_true, forall_const, Int.reduceAdd]
    have hins : pd_ins D i l = i :: l := by
      have := pd_ins_at l 0 (by omega) hso (fun j x hj hx => h3 j x hj hx) (fun x _ q => absurd q (by omega))
      rw [this]; rfl
    refine kk _ (fun j x hx => ?_) ?_ (fun j hj => ?_) (fun c c1 c2 => ?_)
    · rw [hins] at hx
      cases j with
      | zero => simp at hx; subst hx; simp [bc_up]
      | succ j =>
        simp at hx
        have := h2 j x (by omega) hx
        simp [bc_up]; exact this
    · simp [bc_up, h22, hm0]
    · simp [bc_up, hj, h22]
    · funext b; simp [bc_up, c1, c2, hf c c2]
  | succ k ih =>
    intro h hk h1 h2 h3 h22 hf
    have hkl : k < l.length := by omega
    have hx : l[k]? = some l[k] := List.getElem?_eq_getElem hkl
    have hxm : l[k] ∈ l := List.getElem_mem hkl
    have h28 := h1 k l[k] (by omega) hx
    have e1 : (((k + 1 : Nat) : Int) - 1).toNat = k := by omega
    have e2 : ((k + 1 : Nat) : Int).toNat = k + 1 := by omega
    have e3 : ((k + 1 : Nat) : Int) + -1 = (k : Int) := by omega
    have hC : pd_C 4 D h := pd_C_fr hC0 (fun j a b => hf j (by omega))
    refine bc_at ck_X0_arrange ?_
    simp only [k_X0_arrange, ↓vl_iconst, ↓vl_bipush, ↓vl_sipush, ↓vl_lconst, ↓vl_ldc, ↓vl_ldcw, ↓vl_ldc2, ↓vl_iload0, ↓vl_aload0, ↓vl_istore0, ↓vl_iinc0, ↓vl_iload1, ↓vl_aload1, ↓vl_istore1, ↓vl_iinc1, ↓vl_iload2, ↓vl_aload2, ↓vl_istore2, ↓vl_iinc2, ↓vl_iload3, ↓vl_aload3, ↓vl_istore3, ↓vl_iinc3, ↓vl_iload4, ↓vl_istore4, ↓vl_iinc4, ↓vl_iload5, ↓vl_istore5, ↓vl_iinc5, ↓vl_iload6, ↓vl_istore6, ↓vl_iinc6, ↓vl_iload7, ↓vl_istore7, ↓vl_iinc7, ↓vl_lload5, ↓vl_lstore5, ↓vl_iadd, ↓vl_isub, ↓vl_imul, ↓vl_iand, ↓vl_ior, ↓vl_ixor, ↓vl_ishl, ↓vl_ishr, ↓vl_iushr, ↓vl_idiv, ↓vl_irem, ↓vl_ladd, ↓vl_lsub, ↓vl_lmul, ↓vl_lcmp, ↓vl_i2l, ↓vl_dup, ↓vl_dup2, ↓vl_gotoF, ↓vl_gotoB, ↓vl_nnF, ↓vl_ic_eqF, ↓vl_if_eqF, ↓vl_ic_eqB, ↓vl_if_eqB, ↓vl_ic_neF, ↓vl_if_neF, ↓vl_ic_neB, ↓vl_if_neB, ↓vl_ic_ltF, ↓vl_if_ltF, ↓vl_ic_ltB, ↓vl_if_ltB, ↓vl_ic_geF, ↓vl_if_geF, ↓vl_ic_geB, ↓vl_if_geB, ↓vl_ic_gtF, ↓vl_if_gtF, ↓vl_ic_gtB, ↓vl_if_gtB, ↓vl_ic_leF, ↓vl_if_leF, ↓vl_ic_leB, ↓vl_if_leB, ↓vl_sw, ↓vl_get, ↓vl_putI, ↓vl_putL, ↓vl_iald, ↓vl_iast, ↓vl_alen, ↓vl_aald, ↓vl_iretI, ↓vl_iretZ, ↓vl_ret, ↓vl_mark, ↓vl_markT, ↓vl_skip, ↓vl_st0, ↓vl_vi0, ↓vl_st1, ↓vl_vi1, ↓vl_st2, ↓vl_vi2, ↓vl_st3, ↓vl_vi3, ↓vl_st4, ↓vl_vi4, ↓vl_st5, ↓vl_vi5, ↓vl_st6, ↓vl_vi6, ↓vl_min, ↓vl_max, ↓vl_cpy, ↓vk_kvs, ↓vk_kvn, ↓vk_gf0, ↓vk_gv0, ↓vk_gv1, ↓vk_gv2, ↓vk_pf, ↓vk_ar, ↓vk_arr, bc_lay, bc_fn, bc_mk, bc_cs, bc_cat, bc_nl, bc_nth, bc_en, bc_sw, true_and, and_true, ↓reduceIte, reduceCtorEq, Nat.reduceEqDiff, Nat.reduceLeDiff, Nat.reduceAdd, Nat.le_refl, Nat.zero_le, Int.cast_ofNat_Int, Int.reduceEq, eq_self, true_implies, false_implies, not_true_eq_false, not_false_eq_true, bc_vr, Int.reduceToNat, Int.toNat_natCast, Int.reduceLE, Int.reduceLT, Int.reduceNeg, true_or, or_true, forall_const, Int.reduceAdd, e1, e2, h28]
    refine ⟨by omega, fun c => absurd c (by omega), fun _ => ⟨by omega, by omega, ?_⟩⟩
    refine c1_isAhead hC hV hi (hlt _ hxm) (fun hah => ?_) (fun hah => ?_)
    · simp only [↓vl_iconst, ↓vl_bipush, ↓vl_sipush, ↓vl_lconst, ↓vl_ldc, ↓vl_ldcw, ↓vl_ldc2, ↓vl_iload0, ↓vl_aload0, ↓vl_istore0, ↓vl_iinc0, ↓vl_iload1, ↓vl_aload1, ↓vl_istore1, ↓vl_iinc1, ↓vl_iload2, ↓vl_aload2, ↓vl_istore2, ↓vl_iinc2, ↓vl_iload3, ↓vl_aload3, ↓vl_istore3, ↓vl_iinc3, ↓vl_iload4, ↓vl_istore4, ↓vl_iinc4, ↓vl_iload5, ↓vl_istore5, ↓vl_iinc5, ↓vl_iload6, ↓vl_istore6, ↓vl_iinc6, ↓vl_iload7, ↓vl_istore7, ↓vl_iinc7, ↓vl_lload5, ↓vl_lstore5, ↓vl_iadd, ↓vl_isub, ↓vl_imul, ↓vl_iand, ↓vl_ior, ↓vl_ixor, ↓vl_ishl, ↓vl_ishr, ↓vl_iushr, ↓vl_idiv, ↓vl_irem, ↓vl_ladd, ↓vl_lsub, ↓vl_lmul, ↓vl_lcmp, ↓vl_i2l, ↓vl_dup, ↓vl_dup2, ↓vl_gotoF, ↓vl_gotoB, ↓vl_nnF, ↓vl_ic_eqF, ↓vl_if_eqF, ↓vl_ic_eqB, ↓vl_if_eqB, ↓vl_ic_neF, ↓vl_if_neF, ↓vl_ic_neB, ↓vl_if_neB, ↓vl_ic_ltF, ↓vl_if_ltF, ↓vl_ic_ltB, ↓vl_if_ltB, ↓vl_ic_geF, ↓vl_if_geF, ↓vl_ic_geB, ↓vl_if_geB, ↓vl_ic_gtF, ↓vl_if_gtF, ↓vl_ic_gtB, ↓vl_if_gtB, ↓vl_ic_leF, ↓vl_if_leF, ↓vl_ic_leB, ↓vl_if_leB, ↓vl_sw, ↓vl_get, ↓vl_putI, ↓vl_putL, ↓vl_iald, ↓vl_iast, ↓vl_alen, ↓vl_aald, ↓vl_iretI, ↓vl_iretZ, ↓vl_ret, ↓vl_mark, ↓vl_markT, ↓vl_skip, ↓vl_st0, ↓vl_vi0, ↓vl_st1, ↓vl_vi1, ↓vl_st2, ↓vl_vi2, ↓vl_st3, ↓vl_vi3, ↓vl_st4, ↓vl_vi4, ↓vl_st5, ↓vl_vi5, ↓vl_st6, ↓vl_vi6, ↓vl_min, ↓vl_max, ↓vl_cpy, ↓vk_kvs, ↓vk_kvn, ↓vk_gf0, ↓vk_gv0, ↓vk_gv1, ↓vk_gv2, ↓vk_pf, ↓vk_ar, ↓vk_arr, bc_lay, bc_fn, bc_mk, bc_cs, bc_cat, bc_nl, bc_nth, bc_en, bc_sw, true_and, and_true, ↓reduceIte, reduceCtorEq, Nat.reduceEqDiff, Nat.reduceLeDiff, Nat.reduceAdd, Nat.le_refl, Nat.zero_le, Int.cast_ofNat_Int, Int.reduceEq, eq_self, true_implies, false_implies, not_true_eq_false, not_false_eq_true, bc_vr, Int.reduceToNat, Int.toNat_natCast, Int.reduceLE, Int.reduceLT, Int.reduceNeg, true_or, or_true, forall_const, Int.reduceAdd, e1, e2, h28]
      refine ⟨by omega, by omega, by omega, by omega, ?_⟩
      rw [e3]
      refine ih _ (by omega) (fun j x hj hjx => ?_) (fun j x hj hjx => ?_) (fun j x hj hjx => ?_) ?_ (fun c hc => ?_)
      · have : ¬ j = k + 1 := by omega
        simp [bc_up, this]; exact h1 j x (by omega) hjx
      · by_cases e : j = k
        · subst e
          rw [hx] at hjx
          cases hjx
          simp [bc_up]
        · have : ¬ j = k := e
          simp [bc_up, this]; exact h2 j x (by omega) hjx
      · by_cases e : j = k
        · subst e
          rw [hx] at hjx
          cases hjx
          exact hah
        · exact h3 j x (by omega) hjx
      · funext b; simp [bc_up, h22]
      · funext b; simp [bc_up, hc, hf c hc]
    · have hins : pd_ins D i l = l.take (k + 1) ++ i :: l.drop (k + 1) := by
        refine pd_ins_at l (k + 1) hk hso (fun j x hj hx => h3 j x hj hx) (fun x hx2 _ => ?_)
        simp at hx2
        rw [hx] at hx2
        cases hx2
        exact hah
      simp only [↓vl_iconst, ↓vl_bipush, ↓vl_sipush, ↓vl_lconst, ↓vl_ldc, ↓vl_ldcw, ↓vl_ldc2, ↓vl_iload0, ↓vl_aload0, ↓vl_istore0, ↓vl_iinc0, ↓vl_iload1, ↓vl_aload1, ↓vl_istore1, ↓vl_iinc1, ↓vl_iload2, ↓vl_aload2, ↓vl_istore2, ↓vl_iinc2, ↓vl_iload3, ↓vl_aload3, ↓vl_istore3, ↓vl_iinc3, ↓vl_iload4, ↓vl_istore4, ↓vl_iinc4, ↓vl_iload5, ↓vl_istore5, ↓vl_iinc5, ↓vl_iload6, ↓vl_istore6, ↓vl_iinc6, ↓vl_iload7, ↓vl_istore7, ↓vl_iinc7, ↓vl_lload5, ↓vl_lstore5, ↓vl_iadd, ↓vl_isub, ↓vl_imul, ↓vl_iand, ↓vl_ior, ↓vl_ixor, ↓vl_ishl, ↓vl_ishr, ↓vl_iushr, ↓vl_idiv, ↓vl_irem, ↓vl_ladd, ↓vl_lsub, ↓vl_lmul, ↓vl_lcmp, ↓vl_i2l, ↓vl_dup, ↓vl_dup2, ↓vl_gotoF, ↓vl_gotoB, ↓vl_nnF, ↓vl_ic_eqF, ↓vl_if_eqF, ↓vl_ic_eqB, ↓vl_if_eqB, ↓vl_ic_neF, ↓vl_if_neF, ↓vl_ic_neB, ↓vl_if_neB, ↓vl_ic_ltF, ↓vl_if_ltF, ↓vl_ic_ltB, ↓vl_if_ltB, ↓vl_ic_geF, ↓vl_if_geF, ↓vl_ic_geB, ↓vl_if_geB, ↓vl_ic_gtF, ↓vl_if_gtF, ↓vl_ic_gtB, ↓vl_if_gtB, ↓vl_ic_leF, ↓vl_if_leF, ↓vl_ic_leB, ↓vl_if_leB, ↓vl_sw, ↓vl_get, ↓vl_putI, ↓vl_putL, ↓vl_iald, ↓vl_iast, ↓vl_alen, ↓vl_aald, ↓vl_iretI, ↓vl_iretZ, ↓vl_ret, ↓vl_mark, ↓vl_markT, ↓vl_skip, ↓vl_st0, ↓vl_vi0, ↓vl_st1, ↓vl_vi1, ↓vl_st2, ↓vl_vi2, ↓vl_st3, ↓vl_vi3, ↓vl_st4, ↓vl_vi4, ↓vl_st5, ↓vl_vi5, ↓vl_st6, ↓vl_vi6, ↓vl_min, ↓vl_max, ↓vl_cpy, ↓vk_kvs, ↓vk_kvn, ↓vk_gf0, ↓vk_gv0, ↓vk_gv1, ↓vk_gv2, ↓vk_pf, ↓vk_ar, ↓vk_arr, bc_lay, bc_fn, bc_mk, bc_cs, bc_cat, bc_nl, bc_nth, bc_en, bc_sw, true_and, and_true, ↓reduceIte, reduceCtorEq, Nat.reduceEqDiff, Nat.reduceLeDiff, Nat.reduceAdd, Nat.le_refl, Nat.zero_le, Int.cast_ofNat_Int, Int.reduceEq, eq_self, true_implies, false_implies, not_true_eq_false, not_false_eq_true, bc_vr, Int.reduceToNat, Int.toNat_natCast, Int.reduceLE, Int.reduceLT, Int.reduceNeg, true_or, or_true, forall_const, Int.reduceAdd, e2]
      refine ⟨by omega, by omega, ?_⟩
      refine kk _ (fun j x hjx => ?_) ?_ (fun j hj => ?_) (fun c c1 c2 => ?_)
      · rw [hins] at hjx
        have hlen : (l.take (k + 1)).length = k + 1 := by simp; omega
        by_cases c1 : j < k + 1
        · rw [List.getElem?_append_left (by omega), List.getElem?_take_of_lt c1] at hjx
          have : ¬ j = k + 1 := by omega
          simp [bc_up, this]; exact h1 j x (by omega) hjx
        · rw [List.getElem?_append_right (by omega), hlen] at hjx
          by_cases c2 : j = k + 1
          · subst c2
            simp at hjx
            subst hjx
            simp [bc_up]
          · obtain ⟨t, ht⟩ : ∃ t, j = t + 1 := ⟨j - 1, by omega⟩
            subst ht
            have e4 : t + 1 - (k + 1) = (t - (k + 1)) + 1 := by omega
            rw [e4, List.getElem?_cons_succ, List.getElem?_drop] at hjx
            have e5 : k + 1 + (t - (k + 1)) = t := by omega
            rw [e5] at hjx
            have : ¬ t = k := by omega
            simp [bc_up, this]; exact h2 t x (by omega) hjx
      · simp [bc_up, h22, hm0]
      · simp [bc_up, hj, h22]
      · funext b; simp [bc_up, c1, c2, hf c c2]
-- arrange(orders)
set_option maxRecDepth 20000 in
theorem l0_arrange (hV : pd_V D) {m : Int} (hl10 : (pd_rk D (bc_bit m) (D 0).toNat).length ≤ 10) {h0 : bc_AH} (hC0 : pd_C 4 D h0)
    (kk : ∀ h', (∀ (j x : Nat), (pd_rk D (bc_bit m) (D 0).toNat)[j]? = some x → h' 28 j = (x : Int)) → h' 22 4 = ((pd_rk D (bc_bit m) (D 0).toNat).length : Int) → (∀ j : Nat, j ≠ 4 → h' 22 j = h0 22 j) → (∀ c : Nat, c ≠ 22 → c ≠ 28 → h' c = h0 c) → post none h') :
    ∀ (n i : Nat) (h : bc_AH), (i : Int) + n = D 0 → (∀ (j x : Nat), (pd_rk D (bc_bit m) i)[j]? = some x → h 28 j = (x : Int)) → h 22 4 = ((pd_rk D (bc_bit m) i).length : Int) → (∀ j : Nat, j ≠ 4 → h 22 j = h0 22 j) → (∀ c : Nat, c ≠ 22 → c ≠ 28 → h c = h0 c) → bc_AT (d + 2) 6 post 7 [some (.inr (.inr 22)), some (.inl m), some (.inl (i : Int)), none] [] h := by
  have v0 := hV.1
  intro n
  induction n with
  | zero =>
    intro i h hi h1 h2 h3 h4
    have hC : pd_C 4 D h := pd_C_fr hC0 (fun j a b => h4 j (by omega) (by omega))
    refine bc_at ck_X0_arrange ?_
    simp only [k_X0_arrange, ↓vl_iconst, ↓vl_bipush, ↓vl_sipush, ↓vl_lconst, ↓vl_ldc, ↓vl_ldcw, ↓vl_ldc2, ↓vl_iload0, ↓vl_aload0, ↓vl_istore0, ↓vl_iinc0, ↓vl_iload1, ↓vl_aload1, ↓vl_istore1, ↓vl_iinc1, ↓vl_iload2, ↓vl_aload2, ↓vl_istore2, ↓vl_iinc2, ↓vl_iload3, ↓vl_aload3, ↓vl_istore3, ↓vl_iinc3, ↓vl_iload4, ↓vl_istore4, ↓vl_iinc4, ↓vl_iload5, ↓vl_istore5, ↓vl_iinc5, ↓vl_iload6, ↓vl_istore6, ↓vl_iinc6, ↓vl_iload7, ↓vl_istore7, ↓vl_iinc7, ↓vl_lload5, ↓vl_lstore5, ↓vl_iadd, ↓vl_isub, ↓vl_imul, ↓vl_iand, ↓vl_ior, ↓vl_ixor, ↓vl_ishl, ↓vl_ishr, ↓vl_iushr, ↓vl_idiv, ↓vl_irem, ↓vl_ladd, ↓vl_lsub, ↓vl_lmul, ↓vl_lcmp, ↓vl_i2l, ↓vl_dup, ↓vl_dup2, ↓vl_gotoF, ↓vl_gotoB, ↓vl_nnF, ↓vl_ic_eqF, ↓vl_if_eqF, ↓vl_ic_eqB, ↓vl_if_eqB, ↓vl_ic_neF, ↓vl_if_neF, ↓vl_ic_neB, ↓vl_if_neB, ↓vl_ic_ltF, ↓vl_if_ltF, ↓vl_ic_ltB, ↓vl_if_ltB, ↓vl_ic_geF, ↓vl_if_geF, ↓vl_ic_geB, ↓vl_if_geB, ↓vl_ic_gtF, ↓vl_if_gtF, ↓vl_ic_gtB, ↓vl_if_gtB, ↓vl_ic_leF, ↓vl_if_leF, ↓vl_ic_leB, ↓vl_if_leB, ↓vl_sw, ↓vl_get, ↓vl_putI, ↓vl_putL, ↓vl_iald, ↓vl_iast, ↓vl_alen, ↓vl_aald, ↓vl_iretI, ↓vl_iretZ, ↓vl_ret, ↓vl_mark, ↓vl_markT, ↓vl_skip, ↓vl_st0, ↓vl_vi0, ↓vl_st1, ↓vl_vi1, ↓vl_st2, ↓vl_vi2, ↓vl_st3, ↓vl_vi3, ↓vl_st4, ↓vl_vi4, ↓vl_st5, ↓vl_vi5, ↓vl_st6, ↓vl_vi6, ↓vl_min, ↓vl_max, ↓vl_cpy, ↓vk_kvs, ↓vk_kvn, ↓vk_gf0, ↓vk_gv0, ↓vk_gv1, ↓vk_gv2, ↓vk_pf, ↓vk_ar, ↓vk_arr, bc_lay, bc_fn, bc_mk, bc_cs, bc_cat, bc_nl, bc_nth, bc_en, bc_sw, true_and, and_true, ↓reduceIte, reduceCtorEq, Nat.reduceEqDiff, Nat.reduceLeDiff, Nat.reduceAdd, Nat.le_refl, Nat.zero_le, Int.cast_ofNat_Int, Int.reduceEq, eq_self, true_implies, false_implies, not_true_eq_false, not_false_eq_true, bc_vr, Int.reduceToNat, Int.toNat_natCast, Int.reduceLE, Int.reduceLT, Int.reduceNeg, true_or, or_true, forall_const, Int.reduceAdd, hC.1.1]
    have e : i = (D 0).toNat := by omega
    rw [← e] at kk
    refine ⟨⟨by omega, by omega⟩, ⟨by omega, by omega⟩, fun _ => kk h h1 h2 h3 h4, fun c => absurd c (by omega)⟩
  | succ n ih =>
    intro i h hi h1 h2 h3 h4
    have hC : pd_C 4 D h := pd_C_fr hC0 (fun j a b => h4 j (by omega) (by omega))
    have hlen := pd_rk_len_mono (D := D) (p := bc_bit m) (i := i + 1) (D 0).toNat (by omega)
    refine bc_at ck_X0_arrange ?_
    simp only [k_X0_arrange, ↓vl_iconst, ↓vl_bipush, ↓vl_sipush, ↓vl_lconst, ↓vl_ldc, ↓vl_ldcw, ↓vl_ldc2, ↓vl_iload0, ↓vl_aload0, ↓vl_istore0, ↓vl_iinc0, ↓vl_iload1, ↓vl_aload1, ↓vl_istore1, ↓vl_iinc1, ↓vl_iload2, ↓vl_aload2, ↓vl_istore2, ↓vl_iinc2, ↓vl_iload3, ↓vl_aload3, ↓vl_istore3, ↓vl_iinc3, ↓vl_iload4, ↓vl_istore4, ↓vl_iinc4, ↓vl_iload5, ↓vl_istore5, ↓vl_iinc5, ↓vl_iload6, ↓vl_istore6, ↓vl_iinc6, ↓vl_iload7, ↓vl_istore7, ↓vl_iinc7, ↓vl_lload5, ↓vl_lstore5, ↓vl_iadd, ↓vl_isub, ↓vl_imul, ↓vl_iand, ↓vl_ior, ↓vl_ixor, ↓vl_ishl, ↓vl_ishr, ↓vl_iushr, ↓vl_idiv, ↓vl_irem, ↓vl_ladd, ↓vl_lsub, ↓vl_lmul, ↓vl_lcmp, ↓vl_i2l, ↓vl_dup, ↓vl_dup2, ↓vl_gotoF, ↓vl_gotoB, ↓vl_nnF, ↓vl_ic_eqF, ↓vl_if_eqF, ↓vl_ic_eqB, ↓vl_if_eqB, ↓vl_ic_neF, ↓vl_if_neF, ↓vl_ic_neB, ↓vl_if_neB, ↓vl_ic_ltF, ↓vl_if_ltF, ↓vl_ic_ltB, ↓vl_if_ltB, ↓vl_ic_geF, ↓vl_if_geF, ↓vl_ic_geB, ↓vl_if_geB, ↓vl_ic_gtF, ↓vl_if_gtF, ↓vl_ic_gtB, ↓vl_if_gtB, ↓vl_ic_leF, ↓vl_if_leF, ↓vl_ic_leB, ↓vl_if_leB, ↓vl_sw, ↓vl_get, ↓vl_putI, ↓vl_putL, ↓vl_iald, ↓vl_iast, ↓vl_alen, ↓vl_aald, ↓vl_iretI, ↓vl_iretZ, ↓vl_ret, ↓vl_mark, ↓vl_markT, ↓vl_skip, ↓vl_st0, ↓vl_vi0, ↓vl_st1, ↓vl_vi1, ↓vl_st2, ↓vl_vi2, ↓vl_st3, ↓vl_vi3, ↓vl_st4, ↓vl_vi4, ↓vl_st5, ↓vl_vi5, ↓vl_st6, ↓vl_vi6, ↓vl_min, ↓vl_max, ↓vl_cpy, ↓vk_kvs, ↓vk_kvn, ↓vk_gf0, ↓vk_gv0, ↓vk_gv1, ↓vk_gv2, ↓vk_pf, ↓vk_ar, ↓vk_arr, bc_lay, bc_fn, bc_mk, bc_cs, bc_cat, bc_nl, bc_nth, bc_en, bc_sw, true_and, and_true, ↓reduceIte, reduceCtorEq, Nat.reduceEqDiff, Nat.reduceLeDiff, Nat.reduceAdd, Nat.le_refl, Nat.zero_le, Int.cast_ofNat_Int, Int.reduceEq, eq_self, true_implies, false_implies, not_true_eq_false, not_false_eq_true, bc_vr, Int.reduceToNat, Int.toNat_natCast, Int.reduceLE, Int.reduceLT, Int.reduceNeg, true_or, or_true, forall_const, Int.reduceAdd, hC.1.1]
    refine ⟨⟨by omega, by omega⟩, ⟨by omega, by omega⟩, fun c => absurd c (by omega), fun _ => ?_⟩
    refine c6_isIn (by omega) (fun hb => ?_) (fun hb => ?_)
    · have e : pd_rk D (bc_bit m) (i + 1) = pd_ins D i (pd_rk D (bc_bit m) i) := by rw [pd_rk, if_pos hb]
      rw [e, pd_ins_len] at hlen
      simp only [↓vl_iconst, ↓vl_bipush, ↓vl_sipush, ↓vl_lconst, ↓vl_ldc, ↓vl_ldcw, ↓vl_ldc2, ↓vl_iload0, ↓vl_aload0, ↓vl_istore0, ↓vl_iinc0, ↓vl_iload1, ↓vl_aload1, ↓vl_istore1, ↓vl_iinc1, ↓vl_iload2, ↓vl_aload2, ↓vl_istore2, ↓vl_iinc2, ↓vl_iload3, ↓vl_aload3, ↓vl_istore3, ↓vl_iinc3, ↓vl_iload4, ↓vl_istore4, ↓vl_iinc4, ↓vl_iload5, ↓vl_istore5, ↓vl_iinc5, ↓vl_iload6, ↓vl_istore6, ↓vl_iinc6, ↓vl_iload7, ↓vl_istore7, ↓vl_iinc7, ↓vl_lload5, ↓vl_lstore5, ↓vl_iadd, ↓vl_isub, ↓vl_imul, ↓vl_iand, ↓vl_ior, ↓vl_ixor, ↓vl_ishl, ↓vl_ishr, ↓vl_iushr, ↓vl_idiv, ↓vl_irem, ↓vl_ladd, ↓vl_lsub, ↓vl_lmul, ↓vl_lcmp, ↓vl_i2l, ↓vl_dup, ↓vl_dup2, ↓vl_gotoF, ↓vl_gotoB, ↓vl_nnF, ↓vl_ic_eqF, ↓vl_if_eqF, ↓vl_ic_eqB, ↓vl_if_eqB, ↓vl_ic_neF, ↓vl_if_neF, ↓vl_ic_neB, ↓vl_if_neB, ↓vl_ic_ltF, ↓vl_if_ltF, ↓vl_ic_ltB, ↓vl_if_ltB, ↓vl_ic_geF, ↓vl_if_geF, ↓vl_ic_geB, ↓vl_if_geB, ↓vl_ic_gtF, ↓vl_if_gtF, ↓vl_ic_gtB, ↓vl_if_gtB, ↓vl_ic_leF, ↓vl_if_leF, ↓vl_ic_leB, ↓vl_if_leB, ↓vl_sw, ↓vl_get, ↓vl_putI, ↓vl_putL, ↓vl_iald, ↓vl_iast, ↓vl_alen, ↓vl_aald, ↓vl_iretI, ↓vl_iretZ, ↓vl_ret, ↓vl_mark, ↓vl_markT, ↓vl_skip, ↓vl_st0, ↓vl_vi0, ↓vl_st1, ↓vl_vi1, ↓vl_st2, ↓vl_vi2, ↓vl_st3, ↓vl_vi3, ↓vl_st4, ↓vl_vi4, ↓vl_st5, ↓vl_vi5, ↓vl_st6, ↓vl_vi6, ↓vl_min, ↓vl_max, ↓vl_cpy, ↓vk_kvs, ↓vk_kvn, ↓vk_gf0, ↓vk_gv0, ↓vk_gv1, ↓vk_gv2, ↓vk_pf, ↓vk_ar, ↓vk_arr, bc_lay, bc_fn, bc_mk, bc_cs, bc_cat, bc_nl, bc_nth, bc_en, bc_sw, true_and, and_true, ↓reduceIte, reduceCtorEq, Nat.reduceEqDiff, Nat.reduceLeDiff, Nat.reduceAdd, Nat.le_refl, Nat.zero_le, Int.cast_ofNat_Int, Int.reduceEq, eq_self, true_implies, false_implies, not_true_eq_false, not_false_eq_true, bc_vr, Int.reduceToNat, Int.toNat_natCast, Int.reduceLE, Int.reduceLT, Int.reduceNeg, true_or, or_true, forall_const, Int.reduceAdd, h2]
      refine ⟨⟨by omega, by omega⟩, fun c => absurd c (by omega), fun _ => ?_⟩
      refine l0_ins hV (h0 := h) (by omega) (by omega) (fun x hx => by have := ((pd_rk_mem i).mp hx).1; omega) (pd_rk_sorted i) hC h2 (fun h' g1 g2 g3 g4 => ?_) _ h (by omega) (fun j x _ hx => h1 j x hx) (fun j x hj hx => ?_) (fun j x hj hx => ?_) rfl (fun _ _ => rfl)
      · have e2 : (i : Int) + 1 = ((i + 1 : Nat) : Int) := by omega
        rw [e2]
        refine ih (i + 1) h' (by omega) (by rw [e]; exact g1) (by rw [e, pd_ins_len, g2]; omega) (fun j hj => by rw [g3 j hj, h3 j hj]) (fun c c1 c2 => by rw [g4 c c1 c2, h4 c c1 c2])
      · obtain ⟨hq, -⟩ := List.getElem?_eq_some_iff.mp hx
        omega
      · obtain ⟨hq, -⟩ := List.getElem?_eq_some_iff.mp hx
        omega
    · have e : pd_rk D (bc_bit m) (i + 1) = pd_rk D (bc_bit m) i := by rw [pd_rk, if_neg hb]
      simp only [↓vl_iconst, ↓vl_bipush, ↓vl_sipush, ↓vl_lconst, ↓vl_ldc, ↓vl_ldcw, ↓vl_ldc2, ↓vl_iload0, ↓vl_aload0, ↓vl_istore0, ↓vl_iinc0, ↓vl_iload1, ↓vl_aload1, ↓vl_istore1, ↓vl_iinc1, ↓vl_iload2, ↓vl_aload2, ↓vl_istore2, ↓vl_iinc2, ↓vl_iload3, ↓vl_aload3, ↓vl_istore3, ↓vl_iinc3, ↓vl_iload4, ↓vl_istore4, ↓vl_iinc4, ↓vl_iload5, ↓vl_istore5, ↓vl_iinc5, ↓vl_iload6, ↓vl_istore6, ↓vl_iinc6, ↓vl_iload7, ↓vl_istore7, ↓vl_iinc7, ↓vl_lload5, ↓vl_lstore5, ↓vl_iadd, ↓vl_isub, ↓vl_imul, ↓vl_iand, ↓vl_ior, ↓vl_ixor, ↓vl_ishl, ↓vl_ishr, ↓vl_iushr, ↓vl_idiv, ↓vl_irem, ↓vl_ladd, ↓vl_lsub, ↓vl_lmul, ↓vl_lcmp, ↓vl_i2l, ↓vl_dup, ↓vl_dup2, ↓vl_gotoF, ↓vl_gotoB, ↓vl_nnF, ↓vl_ic_eqF, ↓vl_if_eqF, ↓vl_ic_eqB, ↓vl_if_eqB, ↓vl_ic_neF, ↓vl_if_neF, ↓vl_ic_neB, ↓vl_if_neB, ↓vl_ic_ltF, ↓vl_if_ltF, ↓vl_ic_ltB, ↓vl_if_ltB, ↓vl_ic_geF, ↓vl_if_geF, ↓vl_ic_geB, ↓vl_if_geB, ↓vl_ic_gtF, ↓vl_if_gtF, ↓vl_ic_gtB, ↓vl_if_gtB, ↓vl_ic_leF, ↓vl_if_leF, ↓vl_ic_leB, ↓vl_if_leB, ↓vl_sw, ↓vl_get, ↓vl_putI, ↓vl_putL, ↓vl_iald, ↓vl_iast, ↓vl_alen, ↓vl_aald, ↓vl_iretI, ↓vl_iretZ, ↓vl_ret, ↓vl_mark, ↓vl_markT, ↓vl_skip, ↓vl_st0, ↓vl_vi0, ↓vl_st1, ↓vl_vi1, ↓vl_st2, ↓vl_vi2, ↓vl_st3, ↓vl_vi3, ↓vl_st4, ↓vl_vi4, ↓vl_st5, ↓vl_vi5, ↓vl_st6, ↓vl_vi6, ↓vl_min, ↓vl_max, ↓vl_cpy, ↓vk_kvs, ↓vk_kvn, ↓vk_gf0, ↓vk_gv0, ↓vk_gv1, ↓vk_gv2, ↓vk_pf, ↓vk_ar, ↓vk_arr, bc_lay, bc_fn, bc_mk, bc_cs, bc_cat, bc_nl, bc_nth, bc_en, bc_sw, true_and, and_true, ↓reduceIte, reduceCtorEq, Nat.reduceEqDiff, Nat.reduceLeDiff, Nat.reduceAdd, Nat.le_refl, Nat.zero_le, Int.cast_ofNat_Int, Int.reduceEq, eq_self, true_implies, false_implies, not_true_eq_false, not_false_eq_true, bc_vr, Int.reduceToNat, Int.toNat_natCast, Int.reduceLE, Int.reduceLT, Int.reduceNeg, true_or, or_true, forall_const, Int.reduceAdd]
      have e2 : (i : Int) + 1 = ((i + 1 : Nat) : Int) := by omega
      rw [e2]
      exact ih (i + 1) h (by omega) (by rw [e]; exact h1) (by rw [e]; exact h2) h3 h4
theorem c0_arrange (hC : pd_C 4 D h) (hV : pd_V D) {m : Int} (hl10 : (pd_rk D (bc_bit m) (D 0).toNat).length ≤ 10)
    (kk : ∀ h', (∀ (j x : Nat), (pd_rk D (bc_bit m) (D 0).toNat)[j]? = some x → h' 28 j = (x : Int)) → h' 22 4 = ((pd_rk D (bc_bit m) (D 0).toNat).length : Int) → (∀ j : Nat, j ≠ 4 → h' 22 j = h 22 j) → (∀ c : Nat, c ≠ 22 → c ≠ 28 → h' c = h c) → post none h') : bc_OK (d + 3) 6 [.inr (.inr 22), .inl m] h post := by
  have v0 := hV.1
  refine bc_run (n := 4) ck_X0_arrange rfl rfl rfl rfl (Nat.le_of_ble_eq_true rfl) ?_
  simp only [k_X0_arrange, ↓vl_iconst, ↓vl_bipush, ↓vl_sipush, ↓vl_lconst, ↓vl_ldc, ↓vl_ldcw, ↓vl_ldc2, ↓vl_iload0, ↓vl_aload0, ↓vl_istore0, ↓vl_iinc0, ↓vl_iload1, ↓vl_aload1, ↓vl_istore1, ↓vl_iinc1, ↓vl_iload2, ↓vl_aload2, ↓vl_istore2, ↓vl_iinc2, ↓vl_iload3, ↓vl_aload3, ↓vl_istore3, ↓vl_iinc3, ↓vl_iload4, ↓vl_istore4, ↓vl_iinc4, ↓vl_iload5, ↓vl_istore5, ↓vl_iinc5, ↓vl_iload6, ↓vl_istore6, ↓vl_iinc6, ↓vl_iload7, ↓vl_istore7, ↓vl_iinc7, ↓vl_lload5, ↓vl_lstore5, ↓vl_iadd, ↓vl_isub, ↓vl_imul, ↓vl_iand, ↓vl_ior, ↓vl_ixor, ↓vl_ishl, ↓vl_ishr, ↓vl_iushr, ↓vl_idiv, ↓vl_irem, ↓vl_ladd, ↓vl_lsub, ↓vl_lmul, ↓vl_lcmp, ↓vl_i2l, ↓vl_dup, ↓vl_dup2, ↓vl_gotoF, ↓vl_gotoB, ↓vl_nnF, ↓vl_ic_eqF, ↓vl_if_eqF, ↓vl_ic_eqB, ↓vl_if_eqB, ↓vl_ic_neF, ↓vl_if_neF, ↓vl_ic_neB, ↓vl_if_neB, ↓vl_ic_ltF, ↓vl_if_ltF, ↓vl_ic_ltB, ↓vl_if_ltB, ↓vl_ic_geF, ↓vl_if_geF, ↓vl_ic_geB, ↓vl_if_geB, ↓vl_ic_gtF, ↓vl_if_gtF, ↓vl_ic_gtB, ↓vl_if_gtB, ↓vl_ic_leF, ↓vl_if_leF, ↓vl_ic_leB, ↓vl_if_leB, ↓vl_sw, ↓vl_get, ↓vl_putI, ↓vl_putL, ↓vl_iald, ↓vl_iast, ↓vl_alen, ↓vl_aald, ↓vl_iretI, ↓vl_iretZ, ↓vl_ret, ↓vl_mark, ↓vl_markT, ↓vl_skip, ↓vl_st0, ↓vl_vi0, ↓vl_st1, ↓vl_vi1, ↓vl_st2, ↓vl_vi2, ↓vl_st3, ↓vl_vi3, ↓vl_st4, ↓vl_vi4, ↓vl_st5, ↓vl_vi5, ↓vl_st6, ↓vl_vi6, ↓vl_min, ↓vl_max, ↓vl_cpy, ↓vk_kvs, ↓vk_kvn, ↓vk_gf0, ↓vk_gv0, ↓vk_gv1, ↓vk_gv2, ↓vk_pf, ↓vk_ar, ↓vk_arr, bc_lay, bc_fn, bc_mk, bc_cs, bc_cat, bc_nl, bc_nth, bc_en, bc_sw, true_and, and_true, ↓reduceIte, reduceCtorEq, Nat.reduceEqDiff, Nat.reduceLeDiff, Nat.reduceAdd, Nat.le_refl, Nat.zero_le, Int.cast_ofNat_Int, Int.reduceEq, eq_self, true_implies, false_implies, not_true_eq_false, not_false_eq_true, bc_vr, Int.reduceToNat, Int.toNat_natCast, Int.reduceLE, Int.reduceLT, Int.reduceNeg, true_or, or_true, forall_const, Int.reduceAdd]
  refine l0_arrange hV hl10 hC kk (D 0).toNat 0 _ (by omega) (fun j x hx => by simp [pd_rk] at hx) (by simp [bc_up, pd_rk]) (fun j hj => by simp [bc_up, hj]) (fun c c1 c2 => by funext b; simp [bc_up, c1])
end Choose
end
section
/-! the class: choose, gather, mostOf, suppose -/
section Choose
variable {d : Nat} {h : bc_AH} {post : Option bc_AV → bc_AH → Prop} {D : Nat → Int}
theorem pd_take_succ {l : List Nat} {k : Nat} {x : Nat} (hx : l[k]? = some x) : l.take (k + 1) = l.take k ++ [x] := by
  obtain ⟨hk, e⟩ := List.getElem?_eq_some_iff.mp hx
  rw [List.take_succ_eq_append_getElem hk, e]
-- the loop that adds the sizes
set_option maxRecDepth 20000 in
theorem l0_choose (hV : pd_V D) {l : List Nat} {sp sl nd : Int} (hl : l.length ≤ 10) (hlt : ∀ x ∈ l, (x : Int) < D 0) {lo hi : Nat → Int} (hlo : ∀ o, lo o = pd_lo D sp sl o) (hhi : ∀ o, hi o = D (7 + 9 * o + 1)) (hsp : bc_vr sp) (blo : ∀ x ∈ l, 0 ≤ lo x ∧ lo x ≤ 999) (bhi : ∀ x ∈ l, 0 ≤ hi x ∧ hi x ≤ 999) {h0 : bc_AH}
    (kk : ∀ h', pd_XS D l sp sl nd h' → h' 22 8 = (pd_ch D lo hi (bc_bit nd) l).1 → h' 22 9 = (pd_ch D lo hi (bc_bit nd) l).2 → pd_fr 22 28 h0 h' → post none h') :
    ∀ (n k : Nat) (h : bc_AH), k + n = l.length → (∃ mm, pd_XS D l sp sl mm h) → pd_SL D lo hi [] (l.take k) h → pd_fr 22 28 h0 h → bc_AT (d + 15) 2 post 14 [some (.inr (.inr 22)), none, some (.inl nd), some (.inl (k : Int))] [] h := by
  have v0 := hV.1
  intro n
  induction n with
  | zero =>
    intro k h hk hX hS hf
    obtain ⟨mm, hX⟩ := hX
    have e : k = l.length := by omega
    rw [e, List.take_length] at hS
    refine bc_at ck_X0_choose ?_
    simp only [k_X0_choose, ↓vl_iconst, ↓vl_bipush, ↓vl_sipush, ↓vl_lconst, ↓vl_ldc, ↓vl_ldcw, ↓vl_ldc2, ↓vl_iload0, ↓vl_aload0, ↓vl_istore0, ↓vl_iinc0, ↓vl_iload1, ↓vl_aload1, ↓vl_istore1, ↓vl_iinc1, ↓vl_iload2, ↓vl_aload2, ↓vl_istore2, ↓vl_iinc2, ↓vl_iload3, ↓vl_aload3, ↓vl_istore3, ↓vl_iinc3, ↓vl_iload4, ↓vl_istore4, ↓vl_iinc4, ↓vl_iload5, ↓vl_istore5, ↓vl_iinc5, ↓vl_iload6, ↓vl_istore6, ↓vl_iinc6, ↓vl_iload7, ↓vl_istore7, ↓vl_iinc7, ↓vl_lload5, ↓vl_lstore5, ↓vl_iadd, ↓vl_isub, ↓vl_imul, ↓vl_iand, ↓vl_ior, ↓vl_ixor, ↓vl_ishl, ↓vl_ishr, ↓vl_iushr, ↓vl_idiv, ↓vl_irem, ↓vl_ladd, ↓vl_lsub, ↓vl_lmul, ↓vl_lcmp, ↓vl_i2l, ↓vl_dup, ↓vl_dup2, ↓vl_gotoF, ↓vl_gotoB, ↓vl_nnF, ↓vl_ic_eqF, ↓vl_if_eqF, ↓vl_ic_eqB, ↓vl_if_eqB, ↓vl_ic_neF, ↓vl_if_neF, ↓vl_ic_neB, ↓vl_if_neB, ↓vl_ic_ltF, ↓vl_if_ltF, ↓vl_ic_ltB, ↓vl_if_ltB, ↓vl_ic_geF, ↓vl_if_geF, ↓vl_ic_geB, ↓vl_if_geB, ↓vl_ic_gtF, ↓vl_if_gtF, ↓vl_ic_gtB, ↓vl_if_gtB, ↓vl_ic_leF, ↓vl_if_leF, ↓vl_ic_leB, ↓vl_if_leB, ↓vl_sw, ↓vl_get, ↓vl_putI, ↓vl_putL, ↓vl_iald, ↓vl_iast, ↓vl_alen, ↓vl_aald, ↓vl_iretI, ↓vl_iretZ, ↓vl_ret, ↓vl_mark, ↓vl_markT, ↓vl_skip, ↓vl_st0, ↓vl_vi0, ↓vl_st1, ↓vl_vi1, ↓vl_st2, ↓vl_vi2, ↓vl_st3, ↓vl_vi3, ↓vl_st4, ↓vl_vi4, ↓vl_st5, ↓vl_vi5, ↓vl_st6, ↓vl_vi6, ↓vl_min, ↓vl_max, ↓vl_cpy, ↓vk_kvs, ↓vk_kvn, ↓vk_gf0, ↓vk_gv0, ↓vk_gv1, ↓vk_gv2, ↓vk_pf, ↓vk_ar, ↓vk_arr, bc_lay, bc_fn, bc_mk, bc_cs, bc_cat, bc_nl, bc_nth, bc_en, bc_sw, true_and, and_true, ↓reduceIte, reduceCtorEq, Nat.reduceEqDiff, Nat.reduceLeDiff, Nat.reduceAdd, Nat.le_refl, Nat.zero_le, Int.cast_ofNat_Int, Int.reduceEq, eq_self, true_implies, false_implies, not_true_eq_false, not_false_eq_true, bc_vr, Int.reduceToNat, Int.toNat_natCast, Int.reduceLE, Int.reduceLT, Int.reduceNeg, true_or, or_true, forall_const, Int.reduceAdd, hX.2.1]
    refine ⟨⟨by omega, by omega⟩, ⟨by omega, by omega⟩, fun _ => ?_, fun c => absurd c (by omega)⟩
    have ed : d + 15 = l.length + (d + 11 - l.length) + 4 := by omega
    rw [ed]
    have hX2 : pd_XS D l sp sl nd (bc_up (bc_up (bc_up h 22 7 nd) 22 8 0) 22 9 0) := by
      obtain ⟨x1, x2, x3, x4, x5, x6⟩ := hX
      refine ⟨pd_C_fr x1 (fun j a b => by funext q; have : ¬ j = 22 := by omega
                                          simp [bc_up, this]), by simp [bc_up]; exact x2, fun j x hx => by simp [bc_up]; exact x3 j x hx, by simp [bc_up]; exact x4, by simp [bc_up]; exact x5, by simp [bc_up]⟩
    have hfu : pd_fr 22 28 h0 (bc_up (bc_up (bc_up h 22 7 nd) 22 8 0) 22 9 0) := pd_fr_up (pd_fr_up (pd_fr_up hf (by omega) (by omega)) (by omega) (by omega)) (by omega) (by omega)
    have hS2 : pd_SL D lo hi [] ([] ++ l) (bc_up (bc_up (bc_up h 22 7 nd) 22 8 0) 22 9 0) := by
      refine pd_SG_fr hS ?_ ?_ ?_ ?_ <;> (funext q; simp [bc_up])
    refine c0_descend hV hl hlt hlo hhi hsp blo bhi l [] 0 _ (0, 0) _ rfl (by omega) (by simp) (by simp) hX2 hS2 (by simp [bc_up]) (by simp [bc_up]) (by simp) (fun h' hf' hS' h8 h9 => ?_)
    simp only [↓vl_iconst, ↓vl_bipush, ↓vl_sipush, ↓vl_lconst, ↓vl_ldc, ↓vl_ldcw, ↓vl_ldc2, ↓vl_iload0, ↓vl_aload0, ↓vl_istore0, ↓vl_iinc0, ↓vl_iload1, ↓vl_aload1, ↓vl_istore1, ↓vl_iinc1, ↓vl_iload2, ↓vl_aload2, ↓vl_istore2, ↓vl_iinc2, ↓vl_iload3, ↓vl_aload3, ↓vl_istore3, ↓vl_iinc3, ↓vl_iload4, ↓vl_istore4, ↓vl_iinc4, ↓vl_iload5, ↓vl_istore5, ↓vl_iinc5, ↓vl_iload6, ↓vl_istore6, ↓vl_iinc6, ↓vl_iload7, ↓vl_istore7, ↓vl_iinc7, ↓vl_lload5, ↓vl_lstore5, ↓vl_iadd, ↓vl_isub, ↓vl_imul, ↓vl_iand, ↓vl_ior, ↓vl_ixor, ↓vl_ishl, ↓vl_ishr, ↓vl_iushr, ↓vl_idiv, ↓vl_irem, ↓vl_ladd, ↓vl_lsub, ↓vl_lmul, ↓vl_lcmp, ↓vl_i2l, ↓vl_dup, ↓vl_dup2, ↓vl_gotoF, ↓vl_gotoB, ↓vl_nnF, ↓vl_ic_eqF, ↓vl_if_eqF, ↓vl_ic_eqB, ↓vl_if_eqB, ↓vl_ic_neF, ↓vl_if_neF, ↓vl_ic_neB, ↓vl_if_neB, ↓vl_ic_ltF, ↓vl_if_ltF, ↓vl_ic_ltB, ↓vl_if_ltB, ↓vl_ic_geF, ↓vl_if_geF, ↓vl_ic_geB, ↓vl_if_geB, ↓vl_ic_gtF, ↓vl_if_gtF, ↓vl_ic_gtB, ↓vl_if_gtB, ↓vl_ic_leF, ↓vl_if_leF, ↓vl_ic_leB, ↓vl_if_leB, ↓vl_sw, ↓vl_get, ↓vl_putI, ↓vl_putL, ↓vl_iald, ↓vl_iast, ↓vl_alen, ↓vl_aald, ↓vl_iretI, ↓vl_iretZ, ↓vl_ret, ↓vl_mark, ↓vl_markT, ↓vl_skip, ↓vl_st0, ↓vl_vi0, ↓vl_st1, ↓vl_vi1, ↓vl_st2, ↓vl_vi2, ↓vl_st3, ↓vl_vi3, ↓vl_st4, ↓vl_vi4, ↓vl_st5, ↓vl_vi5, ↓vl_st6, ↓vl_vi6, ↓vl_min, ↓vl_max, ↓vl_cpy, ↓vk_kvs, ↓vk_kvn, ↓vk_gf0, ↓vk_gv0, ↓vk_gv1, ↓vk_gv2, ↓vk_pf, ↓vk_ar, ↓vk_arr, bc_lay, bc_fn, bc_mk, bc_cs, bc_cat, bc_nl, bc_nth, bc_en, bc_sw, true_and, and_true, ↓reduceIte, reduceCtorEq, Nat.reduceEqDiff, Nat.reduceLeDiff, Nat.reduceAdd, Nat.le_refl, Nat.zero_le, Int.cast_ofNat_Int, Int.reduceEq, eq_self, true_implies, false_implies, not_true_eq_false, not_false_eq_true, bc_vr, Int.reduceToNat, Int.toNat_natCast, Int.reduceLE, Int.reduceLT, Int.reduceNeg, true_or, or_true, forall_const, Int.reduceAdd]
    rw [pd_dn_ch] at h8 h9
    refine kk h' (pd_XS_fx hX2 hf') h8 h9 (pd_fr_trans hfu (fun c hc => hf'.1 c (by omega) (by omega)))
  | succ n ih =>
    intro k h hk hX hS hf
    obtain ⟨mm, hX⟩ := hX
    have hkl : k < l.length := by omega
    have hx : l[k]? = some l[k] := List.getElem?_eq_getElem hkl
    have h28 := hX.2.2.1 k _ hx
    refine bc_at ck_X0_choose ?_
    simp only [k_X0_choose, ↓vl_iconst, ↓vl_bipush, ↓vl_sipush, ↓vl_lconst, ↓vl_ldc, ↓vl_ldcw, ↓vl_ldc2, ↓vl_iload0, ↓vl_aload0, ↓vl_istore0, ↓vl_iinc0, ↓vl_iload1, ↓vl_aload1, ↓vl_istore1, ↓vl_iinc1, ↓vl_iload2, ↓vl_aload2, ↓vl_istore2, ↓vl_iinc2, ↓vl_iload3, ↓vl_aload3, ↓vl_istore3, ↓vl_iinc3, ↓vl_iload4, ↓vl_istore4, ↓vl_iinc4, ↓vl_iload5, ↓vl_istore5, ↓vl_iinc5, ↓vl_iload6, ↓vl_istore6, ↓vl_iinc6, ↓vl_iload7, ↓vl_istore7, ↓vl_iinc7, ↓vl_lload5, ↓vl_lstore5, ↓vl_iadd, ↓vl_isub, ↓vl_imul, ↓vl_iand, ↓vl_ior, ↓vl_ixor, ↓vl_ishl, ↓vl_ishr, ↓vl_iushr, ↓vl_idiv, ↓vl_irem, ↓vl_ladd, ↓vl_lsub, ↓vl_lmul, ↓vl_lcmp, ↓vl_i2l, ↓vl_dup, ↓vl_dup2, ↓vl_gotoF, ↓vl_gotoB, ↓vl_nnF, ↓vl_ic_eqF, ↓vl_if_eqF, ↓vl_ic_eqB, ↓vl_if_eqB, ↓vl_ic_neF, ↓vl_if_neF, ↓vl_ic_neB, ↓vl_if_neB, ↓vl_ic_ltF, ↓vl_if_ltF, ↓vl_ic_ltB, ↓vl_if_ltB, ↓vl_ic_geF, ↓vl_if_geF, ↓vl_ic_geB, ↓vl_if_geB, ↓vl_ic_gtF, ↓vl_if_gtF, ↓vl_ic_gtB, ↓vl_if_gtB, ↓vl_ic_leF, ↓vl_if_leF, ↓vl_ic_leB, ↓vl_if_leB, ↓vl_sw, ↓vl_get, ↓vl_putI, ↓vl_putL, ↓vl_iald, ↓vl_iast, ↓vl_alen, ↓vl_aald, ↓vl_iretI, ↓vl_iretZ, ↓vl_ret, ↓vl_mark, ↓vl_markT, ↓vl_skip, ↓vl_st0, ↓vl_vi0, ↓vl_st1, ↓vl_vi1, ↓vl_st2, ↓vl_vi2, ↓vl_st3, ↓vl_vi3, ↓vl_st4, ↓vl_vi4, ↓vl_st5, ↓vl_vi5, ↓vl_st6, ↓vl_vi6, ↓vl_min, ↓vl_max, ↓vl_cpy, ↓vk_kvs, ↓vk_kvn, ↓vk_gf0, ↓vk_gv0, ↓vk_gv1, ↓vk_gv2, ↓vk_pf, ↓vk_ar, ↓vk_arr, bc_lay, bc_fn, bc_mk, bc_cs, bc_cat, bc_nl, bc_nth, bc_en, bc_sw, true_and, and_true, ↓reduceIte, reduceCtorEq, Nat.reduceEqDiff, Nat.reduceLeDiff, Nat.reduceAdd, Nat.le_refl, Nat.zero_le, Int.cast_ofNat_Int, Int.reduceEq, eq_self, true_implies, false_implies, not_true_eq_false, not_false_eq_true, bc_vr, Int.reduceToNat, Int.toNat_natCast, Int.reduceLE, Int.reduceLT, Int.reduceNeg, true_or, or_true, forall_const, Int.reduceAdd, hX.2.1, h28]
    refine ⟨⟨by omega, by omega⟩, ⟨by omega, by omega⟩, fun c => absurd c (by omega), fun _ => ⟨⟨by omega, by omega⟩, fun c => absurd c (by omega), fun _ => ⟨by omega, by omega, ?_⟩⟩⟩
    refine c0_addSize (U' := l.take (k + 1)) hX.1 hV hhi (hlt _ (List.getElem_mem hkl)) hS (fun s f => by rw [pd_take_succ hx]; exact pd_sf_snoc s f) (fun h1 hS1 hf1 => ?_)
    simp only [↓vl_iconst, ↓vl_bipush, ↓vl_sipush, ↓vl_lconst, ↓vl_ldc, ↓vl_ldcw, ↓vl_ldc2, ↓vl_iload0, ↓vl_aload0, ↓vl_istore0, ↓vl_iinc0, ↓vl_iload1, ↓vl_aload1, ↓vl_istore1, ↓vl_iinc1, ↓vl_iload2, ↓vl_aload2, ↓vl_istore2, ↓vl_iinc2, ↓vl_iload3, ↓vl_aload3, ↓vl_istore3, ↓vl_iinc3, ↓vl_iload4, ↓vl_istore4, ↓vl_iinc4, ↓vl_iload5, ↓vl_istore5, ↓vl_iinc5, ↓vl_iload6, ↓vl_istore6, ↓vl_iinc6, ↓vl_iload7, ↓vl_istore7, ↓vl_iinc7, ↓vl_lload5, ↓vl_lstore5, ↓vl_iadd, ↓vl_isub, ↓vl_imul, ↓vl_iand, ↓vl_ior, ↓vl_ixor, ↓vl_ishl, ↓vl_ishr, ↓vl_iushr, ↓vl_idiv, ↓vl_irem, ↓vl_ladd, ↓vl_lsub, ↓vl_lmul, ↓vl_lcmp, ↓vl_i2l, ↓vl_dup, ↓vl_dup2, ↓vl_gotoF, ↓vl_gotoB, ↓vl_nnF, ↓vl_ic_eqF, ↓vl_if_eqF, ↓vl_ic_eqB, ↓vl_if_eqB, ↓vl_ic_neF, ↓vl_if_neF, ↓vl_ic_neB, ↓vl_if_neB, ↓vl_ic_ltF, ↓vl_if_ltF, ↓vl_ic_ltB, ↓vl_if_ltB, ↓vl_ic_geF, ↓vl_if_geF, ↓vl_ic_geB, ↓vl_if_geB, ↓vl_ic_gtF, ↓vl_if_gtF, ↓vl_ic_gtB, ↓vl_if_gtB, ↓vl_ic_leF, ↓vl_if_leF, ↓vl_ic_leB, ↓vl_if_leB, ↓vl_sw, ↓vl_get, ↓vl_putI, ↓vl_putL, ↓vl_iald, ↓vl_iast, ↓vl_alen, ↓vl_aald, ↓vl_iretI, ↓vl_iretZ, ↓vl_ret, ↓vl_mark, ↓vl_markT, ↓vl_skip, ↓vl_st0, ↓vl_vi0, ↓vl_st1, ↓vl_vi1, ↓vl_st2, ↓vl_vi2, ↓vl_st3, ↓vl_vi3, ↓vl_st4, ↓vl_vi4, ↓vl_st5, ↓vl_vi5, ↓vl_st6, ↓vl_vi6, ↓vl_min, ↓vl_max, ↓vl_cpy, ↓vk_kvs, ↓vk_kvn, ↓vk_gf0, ↓vk_gv0, ↓vk_gv1, ↓vk_gv2, ↓vk_pf, ↓vk_ar, ↓vk_arr, bc_lay, bc_fn, bc_mk, bc_cs, bc_cat, bc_nl, bc_nth, bc_en, bc_sw, true_and, and_true, ↓reduceIte, reduceCtorEq, Nat.reduceEqDiff, Nat.reduceLeDiff, Nat.reduceAdd, Nat.le_refl, Nat.zero_le, Int.cast_ofNat_Int, Int.reduceEq, eq_self, true_implies, false_implies, not_true_eq_false, not_false_eq_true, bc_vr, Int.reduceToNat, Int.toNat_natCast, Int.reduceLE, Int.reduceLT, Int.reduceNeg, true_or, or_true, forall_const, Int.reduceAdd]
    have e1 : (k : Int) + 1 = ((k + 1 : Nat) : Int) := by omega
    rw [e1]
    exact ih (k + 1) h1 (by omega) ⟨mm, pd_XS_fx hX (pd_fx_fr hf1)⟩ hS1 (pd_fr_trans hf (pd_fr_wide hf1 (by omega) (by omega)))
set_option maxRecDepth 20000 in
theorem c0_choose (hC : pd_C 4 D h) (hV : pd_V D) {m nd sp sl : Int} (e5 : h 22 5 = sp) (e6 : h 22 6 = sl) (hl : (pd_rk D (bc_bit m) (D 0).toNat).length ≤ 10) {lo hi : Nat → Int} (hlo : ∀ o, lo o = pd_lo D sp sl o) (hhi : ∀ o, hi o = D (7 + 9 * o + 1)) (hsp : bc_vr sp) (blo : ∀ x ∈ pd_rk D (bc_bit m) (D 0).toNat, 0 ≤ lo x ∧ lo x ≤ 999)
    (kk : ∀ h', pd_XS D (pd_rk D (bc_bit m) (D 0).toNat) sp sl nd h' → h' 22 8 = (pd_ch D lo hi (bc_bit nd) (pd_rk D (bc_bit m) (D 0).toNat)).1 → h' 22 9 = (pd_ch D lo hi (bc_bit nd) (pd_rk D (bc_bit m) (D 0).toNat)).2 → pd_fr 22 28 h h' → post none h') : bc_OK (d + 16) 2 [.inr (.inr 22), .inl m, .inl nd] h post := by
  have v0 := hV.1
  have hlt : ∀ x ∈ pd_rk D (bc_bit m) (D 0).toNat, (x : Int) < D 0 := fun x hx => by have := ((pd_rk_mem _).mp hx).1; omega
  have bhi : ∀ x ∈ pd_rk D (bc_bit m) (D 0).toNat, 0 ≤ hi x ∧ hi x ≤ 999 := fun x hx => by
    obtain ⟨-, r1, -⟩ := hV.2.2 x (hlt x hx)
    rw [hhi]; exact r1
  refine bc_run (n := 4) ck_X0_choose rfl rfl rfl rfl (Nat.le_of_ble_eq_true rfl) ?_
  simp only [k_X0_choose, ↓vl_iconst, ↓vl_bipush, ↓vl_sipush, ↓vl_lconst, ↓vl_ldc, ↓vl_ldcw, ↓vl_ldc2, ↓vl_iload0, ↓vl_aload0, ↓vl_istore0, ↓vl_iinc0, ↓vl_iload1, ↓vl_aload1, ↓vl_istore1, ↓vl_iinc1, ↓vl_iload2, ↓vl_aload2, ↓vl_istore2, ↓vl_iinc2, ↓vl_iload3, ↓vl_aload3, ↓vl_istore3, ↓vl_iinc3, ↓vl_iload4, ↓vl_istore4, ↓vl_iinc4, ↓vl_iload5, ↓vl_istore5, ↓vl_iinc5, ↓vl_iload6, ↓vl_istore6, ↓vl_iinc6, ↓vl_iload7, ↓vl_istore7, ↓vl_iinc7, ↓vl_lload5, ↓vl_lstore5, ↓vl_iadd, ↓vl_isub, ↓vl_imul, ↓vl_iand, ↓vl_ior, ↓vl_ixor, ↓vl_ishl, ↓vl_ishr, ↓vl_iushr, ↓vl_idiv, ↓vl_irem, ↓vl_ladd, ↓vl_lsub, ↓vl_lmul, ↓vl_lcmp, ↓vl_i2l, ↓vl_dup, ↓vl_dup2, ↓vl_gotoF, ↓vl_gotoB, ↓vl_nnF, ↓vl_ic_eqF, ↓vl_if_eqF, ↓vl_ic_eqB, ↓vl_if_eqB, ↓vl_ic_neF, ↓vl_if_neF, ↓vl_ic_neB, ↓vl_if_neB, ↓vl_ic_ltF, ↓vl_if_ltF, ↓vl_ic_ltB, ↓vl_if_ltB, ↓vl_ic_geF, ↓vl_if_geF, ↓vl_ic_geB, ↓vl_if_geB, ↓vl_ic_gtF, ↓vl_if_gtF, ↓vl_ic_gtB, ↓vl_if_gtB, ↓vl_ic_leF, ↓vl_if_leF, ↓vl_ic_leB, ↓vl_if_leB, ↓vl_sw, ↓vl_get, ↓vl_putI, ↓vl_putL, ↓vl_iald, ↓vl_iast, ↓vl_alen, ↓vl_aald, ↓vl_iretI, ↓vl_iretZ, ↓vl_ret, ↓vl_mark, ↓vl_markT, ↓vl_skip, ↓vl_st0, ↓vl_vi0, ↓vl_st1, ↓vl_vi1, ↓vl_st2, ↓vl_vi2, ↓vl_st3, ↓vl_vi3, ↓vl_st4, ↓vl_vi4, ↓vl_st5, ↓vl_vi5, ↓vl_st6, ↓vl_vi6, ↓vl_min, ↓vl_max, ↓vl_cpy, ↓vk_kvs, ↓vk_kvn, ↓vk_gf0, ↓vk_gv0, ↓vk_gv1, ↓vk_gv2, ↓vk_pf, ↓vk_ar, ↓vk_arr, bc_lay, bc_fn, bc_mk, bc_cs, bc_cat, bc_nl, bc_nth, bc_en, bc_sw, true_and, and_true, ↓reduceIte, reduceCtorEq, Nat.reduceEqDiff, Nat.reduceLeDiff, Nat.reduceAdd, Nat.le_refl, Nat.zero_le, Int.cast_ofNat_Int, Int.reduceEq, eq_self, true_implies, false_implies, not_true_eq_false, not_false_eq_true, bc_vr, Int.reduceToNat, Int.toNat_natCast, Int.reduceLE, Int.reduceLT, Int.reduceNeg, true_or, or_true, forall_const, Int.reduceAdd]
  refine c0_arrange hC hV hl (fun h1 a1 a2 a3 a4 => ?_)
  simp only [↓vl_iconst, ↓vl_bipush, ↓vl_sipush, ↓vl_lconst, ↓vl_ldc, ↓vl_ldcw, ↓vl_ldc2, ↓vl_iload0, ↓vl_aload0, ↓vl_istore0, ↓vl_iinc0, ↓vl_iload1, ↓vl_aload1, ↓vl_istore1, ↓vl_iinc1, ↓vl_iload2, ↓vl_aload2, ↓vl_istore2, ↓vl_iinc2, ↓vl_iload3, ↓vl_aload3, ↓vl_istore3, ↓vl_iinc3, ↓vl_iload4, ↓vl_istore4, ↓vl_iinc4, ↓vl_iload5, ↓vl_istore5, ↓vl_iinc5, ↓vl_iload6, ↓vl_istore6, ↓vl_iinc6, ↓vl_iload7, ↓vl_istore7, ↓vl_iinc7, ↓vl_lload5, ↓vl_lstore5, ↓vl_iadd, ↓vl_isub, ↓vl_imul, ↓vl_iand, ↓vl_ior, ↓vl_ixor, ↓vl_ishl, ↓vl_ishr, ↓vl_iushr, ↓vl_idiv, ↓vl_irem, ↓vl_ladd, ↓vl_lsub, ↓vl_lmul, ↓vl_lcmp, ↓vl_i2l, ↓vl_dup, ↓vl_dup2, ↓vl_gotoF, ↓vl_gotoB, ↓vl_nnF, ↓vl_ic_eqF, ↓vl_if_eqF, ↓vl_ic_eqB, ↓vl_if_eqB, ↓vl_ic_neF, ↓vl_if_neF, ↓vl_ic_neB, ↓vl_if_neB, ↓vl_ic_ltF, ↓vl_if_ltF, ↓vl_ic_ltB, ↓vl_if_ltB, ↓vl_ic_geF, ↓vl_if_geF, ↓vl_ic_geB, ↓vl_if_geB, ↓vl_ic_gtF, ↓vl_if_gtF, ↓vl_ic_gtB, ↓vl_if_gtB, ↓vl_ic_leF, ↓vl_if_leF, ↓vl_ic_leB, ↓vl_if_leB, ↓vl_sw, ↓vl_get, ↓vl_putI, ↓vl_putL, ↓vl_iald, ↓vl_iast, ↓vl_alen, ↓vl_aald, ↓vl_iretI, ↓vl_iretZ, ↓vl_ret, ↓vl_mark, ↓vl_markT, ↓vl_skip, ↓vl_st0, ↓vl_vi0, ↓vl_st1, ↓vl_vi1, ↓vl_st2, ↓vl_vi2, ↓vl_st3, ↓vl_vi3, ↓vl_st4, ↓vl_vi4, ↓vl_st5, ↓vl_vi5, ↓vl_st6, ↓vl_vi6, ↓vl_min, ↓vl_max, ↓vl_cpy, ↓vk_kvs, ↓vk_kvn, ↓vk_gf0, ↓vk_gv0, ↓vk_gv1, ↓vk_gv2, ↓vk_pf, ↓vk_ar, ↓vk_arr, bc_lay, bc_fn, bc_mk, bc_cs, bc_cat, bc_nl, bc_nth, bc_en, bc_sw, true_and, and_true, ↓reduceIte, reduceCtorEq, Nat.reduceEqDiff, Nat.reduceLeDiff, Nat.reduceAdd, Nat.le_refl, Nat.zero_le, Int.cast_ofNat_Int, Int.reduceEq, eq_self, true_implies, false_implies, not_true_eq_false, not_false_eq_true, bc_vr, Int.reduceToNat, Int.toNat_natCast, Int.reduceLE, Int.reduceLT, Int.reduceNeg, true_or, or_true, forall_const, Int.reduceAdd]
  refine c4_clear (fun h2 hS2 hf2 => ?_)
  simp only [↓vl_iconst, ↓vl_bipush, ↓vl_sipush, ↓vl_lconst, ↓vl_ldc, ↓vl_ldcw, ↓vl_ldc2, ↓vl_iload0, ↓vl_aload0, ↓vl_istore0, ↓vl_iinc0, ↓vl_iload1, ↓vl_aload1, ↓vl_istore1, ↓vl_iinc1, ↓vl_iload2, ↓vl_aload2, ↓vl_istore2, ↓vl_iinc2, ↓vl_iload3, ↓vl_aload3, ↓vl_istore3, ↓vl_iinc3, ↓vl_iload4, ↓vl_istore4, ↓vl_iinc4, ↓vl_iload5, ↓vl_istore5, ↓vl_iinc5, ↓vl_iload6, ↓vl_istore6, ↓vl_iinc6, ↓vl_iload7, ↓vl_istore7, ↓vl_iinc7, ↓vl_lload5, ↓vl_lstore5, ↓vl_iadd, ↓vl_isub, ↓vl_imul, ↓vl_iand, ↓vl_ior, ↓vl_ixor, ↓vl_ishl, ↓vl_ishr, ↓vl_iushr, ↓vl_idiv, ↓vl_irem, ↓vl_ladd, ↓vl_lsub, ↓vl_lmul, ↓vl_lcmp, ↓vl_i2l, ↓vl_dup, ↓vl_dup2, ↓vl_gotoF, ↓vl_gotoB, ↓vl_nnF, ↓vl_ic_eqF, ↓vl_if_eqF, ↓vl_ic_eqB, ↓vl_if_eqB, ↓vl_ic_neF, ↓vl_if_neF, ↓vl_ic_neB, ↓vl_if_neB, ↓vl_ic_ltF, ↓vl_if_ltF, ↓vl_ic_ltB, ↓vl_if_ltB, ↓vl_ic_geF, ↓vl_if_geF, ↓vl_ic_geB, ↓vl_if_geB, ↓vl_ic_gtF, ↓vl_if_gtF, ↓vl_ic_gtB, ↓vl_if_gtB, ↓vl_ic_leF, ↓vl_if_leF, ↓vl_ic_leB, ↓vl_if_leB, ↓vl_sw, ↓vl_get, ↓vl_putI, ↓vl_putL, ↓vl_iald, ↓vl_iast, ↓vl_alen, ↓vl_aald, ↓vl_iretI, ↓vl_iretZ, ↓vl_ret, ↓vl_mark, ↓vl_markT, ↓vl_skip, ↓vl_st0, ↓vl_vi0, ↓vl_st1, ↓vl_vi1, ↓vl_st2, ↓vl_vi2, ↓vl_st3, ↓vl_vi3, ↓vl_st4, ↓vl_vi4, ↓vl_st5, ↓vl_vi5, ↓vl_st6, ↓vl_vi6, ↓vl_min, ↓vl_max, ↓vl_cpy, ↓vk_kvs, ↓vk_kvn, ↓vk_gf0, ↓vk_gv0, ↓vk_gv1, ↓vk_gv2, ↓vk_pf, ↓vk_ar, ↓vk_arr, bc_lay, bc_fn, bc_mk, bc_cs, bc_cat, bc_nl, bc_nth, bc_en, bc_sw, true_and, and_true, ↓reduceIte, reduceCtorEq, Nat.reduceEqDiff, Nat.reduceLeDiff, Nat.reduceAdd, Nat.le_refl, Nat.zero_le, Int.cast_ofNat_Int, Int.reduceEq, eq_self, true_implies, false_implies, not_true_eq_false, not_false_eq_true, bc_vr, Int.reduceToNat, Int.toNat_natCast, Int.reduceLE, Int.reduceLT, Int.reduceNeg, true_or, or_true, forall_const, Int.reduceAdd]
  have hX2 : pd_XS D (pd_rk D (bc_bit m) (D 0).toNat) sp sl (h2 22 7) h2 := by
    have e22 : h2 22 = h1 22 := hf2 22 (by omega)
    refine ⟨pd_C_fr hC (fun j a b => by rw [hf2 j (by omega), a4 j (by omega) (by omega)]), by rw [e22]; exact a2, fun j x hx => by rw [hf2 28 (by omega)]; exact a1 j x hx, by rw [e22, a3 5 (by omega)]; exact e5, by rw [e22, a3 6 (by omega)]; exact e6, rfl⟩
  refine l0_choose hV hl hlt hlo hhi hsp blo bhi (h0 := h) kk (pd_rk D (bc_bit m) (D 0).toNat).length 0 h2 (by omega) ⟨_, hX2⟩ (pd_SG_congr hS2 ?_ ?_ ?_ ?_) (fun c hc => by rw [hf2 c (by omega), a4 c (by omega) (by omega)])
  all_goals (intro f hf; simp [pd_sf])
-- the orders of a mask, by number
def pd_bl (p : Nat → Bool) : Nat → List Nat
  | 0 => []
  | i + 1 => if p i then pd_bl p i ++ [i] else pd_bl p i
theorem pd_bl_mem {p : Nat → Bool} {x : Nat} : ∀ n, x ∈ pd_bl p n ↔ x < n ∧ p x = true := by
  intro n
  induction n with
  | zero => simp [pd_bl]
  | succ n ih =>
    rw [pd_bl]
    by_cases hp : p n = true
    · rw [if_pos hp, List.mem_append, ih]
      simp
      constructor
      · rintro (h | h)
        · exact ⟨by omega, h.2⟩
        · subst h; exact ⟨by omega, hp⟩
      · intro h
        by_cases hx : x = n
        · exact Or.inr hx
        · exact Or.inl ⟨by omega, h.2⟩
    · rw [if_neg hp, ih]
      constructor
      · intro h; exact ⟨by omega, h.2⟩
      · intro h
        by_cases hx : x = n
        · subst hx; exact absurd h.2 hp
        · exact ⟨by omega, h.2⟩
theorem pd_bl_nodup {p : Nat → Bool} : ∀ n, (pd_bl p n).Nodup := by
  intro n
  induction n with
  | zero => simp [pd_bl]
  | succ n ih =>
    rw [pd_bl]
    split
    · refine List.nodup_append.mpr ⟨ih, by simp, fun a ha b hb => ?_⟩
      simp at hb
      have := ((pd_bl_mem n).mp ha).1
      omega
    · exact ih
theorem pd_bl_len {p : Nat → Bool} : ∀ n, (pd_bl p n).length ≤ n := by
  intro n
  induction n with
  | zero => simp [pd_bl]
  | succ n ih =>
    rw [pd_bl]
    split
    · simp; omega
    · omega
theorem pd_sf_perm {g : Nat → Int} {s : Int} {f : Nat} {a b : List Nat} (hp : a.Perm b) : pd_sf D g s f a = pd_sf D g s f b := by
  induction hp with
  | nil => rfl
  | cons x _ ih => rw [pd_sf, pd_sf, ih]
  | swap x y l => simp only [pd_sf]; omega
  | trans _ _ h1 h2 => rw [h1, h2]
theorem pd_sf_same {g : Nat → Int} {s : Int} {f : Nat} {a b : List Nat} (ha : a.Nodup) (hb : b.Nodup) (hm : ∀ x, x ∈ a ↔ x ∈ b) : pd_sf D g s f a = pd_sf D g s f b := pd_sf_perm ((List.perm_ext_iff_of_nodup ha hb).mpr hm)
theorem pd_VM_same {lo hi : Nat → Int} {a b : List Nat} (ha : a.Nodup) (hb : b.Nodup) (hm : ∀ x, x ∈ a ↔ x ∈ b) : pd_VM D lo hi a a = pd_VM D lo hi b b := by
  unfold pd_VM
  congr 1 <;> (funext f; exact pd_sf_same ha hb hm)
set_option maxRecDepth 20000 in
theorem l0_gather (hV : pd_V D) {m : Int} {sp sl : Int} {lo hi : Nat → Int} (hlo : ∀ o, lo o = pd_lo D sp sl o) (hhi : ∀ o, hi o = D (7 + 9 * o + 1)) (hsp : bc_vr sp) {h0 : bc_AH} (hC0 : pd_C 4 D h0) (e5 : h0 22 5 = sp) (e6 : h0 22 6 = sl)
    (kk : ∀ h', pd_SL D lo hi (pd_bl (bc_bit m) (D 0).toNat) (pd_bl (bc_bit m) (D 0).toNat) h' → pd_fr 24 27 h0 h' → post none h') :
    ∀ (n i : Nat) (h : bc_AH), (i : Int) + n = D 0 → pd_SL D lo hi (pd_bl (bc_bit m) i) (pd_bl (bc_bit m) i) h → pd_fr 24 27 h0 h → bc_AT (d + 3) 7 post 9 [some (.inr (.inr 22)), some (.inl m), some (.inl (i : Int))] [] h := by
  have v0 := hV.1
  intro n
  induction n with
  | zero =>
    intro i h hi hS hf
    have hC : pd_C 4 D h := pd_C_fr hC0 (fun j a b => hf j (by omega))
    refine bc_at ck_X0_gather ?_
    simp only [k_X0_gather, ↓vl_iconst, ↓vl_bipush, ↓vl_sipush, ↓vl_lconst, ↓vl_ldc, ↓vl_ldcw, ↓vl_ldc2, ↓vl_iload0, ↓vl_aload0, ↓vl_istore0, ↓vl_iinc0, ↓vl_iload1, ↓vl_aload1, ↓vl_istore1, ↓vl_iinc1, ↓vl_iload2, ↓vl_aload2, ↓vl_istore2, ↓vl_iinc2, ↓vl_iload3, ↓vl_aload3, ↓vl_istore3, ↓vl_iinc3, ↓vl_iload4, ↓vl_istore4, ↓vl_iinc4, ↓vl_iload5, ↓vl_istore5, ↓vl_iinc5, ↓vl_iload6, ↓vl_istore6, ↓vl_iinc6, ↓vl_iload7, ↓vl_istore7, ↓vl_iinc7, ↓vl_lload5, ↓vl_lstore5, ↓vl_iadd, ↓vl_isub, ↓vl_imul, ↓vl_iand, ↓vl_ior, ↓vl_ixor, ↓vl_ishl, ↓vl_ishr, ↓vl_iushr, ↓vl_idiv, ↓vl_irem, ↓vl_ladd, ↓vl_lsub, ↓vl_lmul, ↓vl_lcmp, ↓vl_i2l, ↓vl_dup, ↓vl_dup2, ↓vl_gotoF, ↓vl_gotoB, ↓vl_nnF, ↓vl_ic_eqF, ↓vl_if_eqF, ↓vl_ic_eqB, ↓vl_if_eqB, ↓vl_ic_neF, ↓vl_if_neF, ↓vl_ic_neB, ↓vl_if_neB, ↓vl_ic_ltF, ↓vl_if_ltF, ↓vl_ic_ltB, ↓vl_if_ltB, ↓vl_ic_geF, ↓vl_if_geF, ↓vl_ic_geB, ↓vl_if_geB, ↓vl_ic_gtF, ↓vl_if_gtF, ↓vl_ic_gtB, ↓vl_if_gtB, ↓vl_ic_leF, ↓vl_if_leF, ↓vl_ic_leB, ↓vl_if_leB, ↓vl_sw, ↓vl_get, ↓vl_putI, ↓vl_putL, ↓vl_iald, ↓vl_iast, ↓vl_alen, ↓vl_aald, ↓vl_iretI, ↓vl_iretZ, ↓vl_ret, ↓vl_mark, ↓vl_markT, ↓vl_skip, ↓vl_st0, ↓vl_vi0, ↓vl_st1, ↓vl_vi1, ↓vl_st2, ↓vl_vi2, ↓vl_st3, ↓vl_vi3, ↓vl_st4, ↓vl_vi4, ↓vl_st5, ↓vl_vi5, ↓vl_st6, ↓vl_vi6, ↓vl_min, ↓vl_max, ↓vl_cpy, ↓vk_kvs, ↓vk_kvn, ↓vk_gf0, ↓vk_gv0, ↓vk_gv1, ↓vk_gv2, ↓vk_pf, ↓vk_ar, ↓vk_arr, bc_lay, bc_fn, bc_mk, bc_cs, bc_cat, bc_nl, bc_nth, bc_en, bc_sw, true_and, and_true, ↓reduceIte, reduceCtorEq, Nat.reduceEqDiff, Nat.reduceLeDiff, Nat.reduceAdd, Nat.le_refl, Nat.zero_le, Int.cast_ofNat_Int, Int.reduceEq, eq_self, true_implies, false_implies, not_true_eq_false, not_false_eq_true, bc_vr, Int.reduceToNat, Int.toNat_natCast, Int.reduceLE, Int.reduceLT, Int.reduceNeg, true_or, or_true, forall_const, Int.reduceAdd, hC.1.1]
    have e : i = (D 0).toNat := by omega
    rw [← e] at kk
    refine ⟨⟨by omega, by omega⟩, ⟨by omega, by omega⟩, fun _ => kk h hS hf, fun c => absurd c (by omega)⟩
  | succ n ih =>
    intro i h hi hS hf
    have hC : pd_C 4 D h := pd_C_fr hC0 (fun j a b => hf j (by omega))
    have e22 : h 22 = h0 22 := hf 22 (by omega)
    have e1 : (i : Int) + 1 = ((i + 1 : Nat) : Int) := by omega
    refine bc_at ck_X0_gather ?_
    simp only [k_X0_gather, ↓vl_iconst, ↓vl_bipush, ↓vl_sipush, ↓vl_lconst, ↓vl_ldc, ↓vl_ldcw, ↓vl_ldc2, ↓vl_iload0, ↓vl_aload0, ↓vl_istore0, ↓vl_iinc0, ↓vl_iload1, ↓vl_aload1, ↓vl_istore1, ↓vl_iinc1, ↓vl_iload2, ↓vl_aload2, ↓vl_istore2, ↓vl_iinc2, ↓vl_iload3, ↓vl_aload3, ↓vl_istore3, ↓vl_iinc3, ↓vl_iload4, ↓vl_istore4, ↓vl_iinc4, ↓vl_iload5, ↓vl_istore5, ↓vl_iinc5, ↓vl_iload6, ↓vl_istore6, ↓vl_iinc6, ↓vl_iload7, ↓vl_istore7, ↓vl_iinc7, ↓vl_lload5, ↓vl_lstore5, ↓vl_iadd, ↓vl_isub, ↓vl_imul, ↓vl_iand, ↓vl_ior, ↓vl_ixor, ↓vl_ishl, ↓vl_ishr, ↓vl_iushr, ↓vl_idiv, ↓vl_irem, ↓vl_ladd, ↓vl_lsub, ↓vl_lmul, ↓vl_lcmp, ↓vl_i2l, ↓vl_dup, ↓vl_dup2, ↓vl_gotoF, ↓vl_gotoB, ↓vl_nnF, ↓vl_ic_eqF, ↓vl_if_eqF, ↓vl_ic_eqB, ↓vl_if_eqB, ↓vl_ic_neF, ↓vl_if_neF, ↓vl_ic_neB, ↓vl_if_neB, ↓vl_ic_ltF, ↓vl_if_ltF, ↓vl_ic_ltB, ↓vl_if_ltB, ↓vl_ic_geF, ↓vl_if_geF, ↓vl_ic_geB, ↓vl_if_geB, ↓vl_ic_gtF, ↓vl_if_gtF, ↓vl_ic_gtB, ↓vl_if_gtB, ↓vl_ic_leF, ↓vl_if_leF, ↓vl_ic_leB, ↓vl_if_leB, ↓vl_sw, ↓vl_get, ↓vl_putI, ↓vl_putL, ↓vl_iald, ↓vl_iast, ↓vl_alen, ↓vl_aald, ↓vl_iretI, ↓vl_iretZ, ↓vl_ret, ↓vl_mark, ↓vl_markT, ↓vl_skip, ↓vl_st0, ↓vl_vi0, ↓vl_st1, ↓vl_vi1, ↓vl_st2, ↓vl_vi2, ↓vl_st3, ↓vl_vi3, ↓vl_st4, ↓vl_vi4, ↓vl_st5, ↓vl_vi5, ↓vl_st6, ↓vl_vi6, ↓vl_min, ↓vl_max, ↓vl_cpy, ↓vk_kvs, ↓vk_kvn, ↓vk_gf0, ↓vk_gv0, ↓vk_gv1, ↓vk_gv2, ↓vk_pf, ↓vk_ar, ↓vk_arr, bc_lay, bc_fn, bc_mk, bc_cs, bc_cat, bc_nl, bc_nth, bc_en, bc_sw, true_and, and_true, ↓reduceIte, reduceCtorEq, Nat.reduceEqDiff, Nat.reduceLeDiff, Nat.reduceAdd, Nat.le_refl, Nat.zero_le, Int.cast_ofNat_Int, Int.reduceEq, eq_self, true_implies, false_implies, not_true_eq_false, not_false_eq_true, bc_vr, Int.reduceToNat, Int.toNat_natCast, Int.reduceLE, Int.reduceLT, Int.reduceNeg, true_or, or_true, forall_const, Int.reduceAdd, hC.1.1]
    refine ⟨⟨by omega, by omega⟩, ⟨by omega, by omega⟩, fun c => absurd c (by omega), fun _ => ?_⟩
    refine c6_isIn (by omega) (fun hb => ?_) (fun hb => ?_)
    · have e : pd_bl (bc_bit m) (i + 1) = pd_bl (bc_bit m) i ++ [i] := by rw [pd_bl, if_pos hb]
      simp only [↓vl_iconst, ↓vl_bipush, ↓vl_sipush, ↓vl_lconst, ↓vl_ldc, ↓vl_ldcw, ↓vl_ldc2, ↓vl_iload0, ↓vl_aload0, ↓vl_istore0, ↓vl_iinc0, ↓vl_iload1, ↓vl_aload1, ↓vl_istore1, ↓vl_iinc1, ↓vl_iload2, ↓vl_aload2, ↓vl_istore2, ↓vl_iinc2, ↓vl_iload3, ↓vl_aload3, ↓vl_istore3, ↓vl_iinc3, ↓vl_iload4, ↓vl_istore4, ↓vl_iinc4, ↓vl_iload5, ↓vl_istore5, ↓vl_iinc5, ↓vl_iload6, ↓vl_istore6, ↓vl_iinc6, ↓vl_iload7, ↓vl_istore7, ↓vl_iinc7, ↓vl_lload5, ↓vl_lstore5, ↓vl_iadd, ↓vl_isub, ↓vl_imul, ↓vl_iand, ↓vl_ior, ↓vl_ixor, ↓vl_ishl, ↓vl_ishr, ↓vl_iushr, ↓vl_idiv, ↓vl_irem, ↓vl_ladd, ↓vl_lsub, ↓vl_lmul, ↓vl_lcmp, ↓vl_i2l, ↓vl_dup, ↓vl_dup2, ↓vl_gotoF, ↓vl_gotoB, ↓vl_nnF, ↓vl_ic_eqF, ↓vl_if_eqF, ↓vl_ic_eqB, ↓vl_if_eqB, ↓vl_ic_neF, ↓vl_if_neF, ↓vl_ic_neB, ↓vl_if_neB, ↓vl_ic_ltF, ↓vl_if_ltF, ↓vl_ic_ltB, ↓vl_if_ltB, ↓vl_ic_geF, ↓vl_if_geF, ↓vl_ic_geB, ↓vl_if_geB, ↓vl_ic_gtF, ↓vl_if_gtF, ↓vl_ic_gtB, ↓vl_if_gtB, ↓vl_ic_leF, ↓vl_if_leF, ↓vl_ic_leB, ↓vl_if_leB, ↓vl_sw, ↓vl_get, ↓vl_putI, ↓vl_putL, ↓vl_iald, ↓vl_iast, ↓vl_alen, ↓vl_aald, ↓vl_iretI, ↓vl_iretZ, ↓vl_ret, ↓vl_mark, ↓vl_markT, ↓vl_skip, ↓vl_st0, ↓vl_vi0, ↓vl_st1, ↓vl_vi1, ↓vl_st2, ↓vl_vi2, ↓vl_st3, ↓vl_vi3, ↓vl_st4, ↓vl_vi4, ↓vl_st5, ↓vl_vi5, ↓vl_st6, ↓vl_vi6, ↓vl_min, ↓vl_max, ↓vl_cpy, ↓vk_kvs, ↓vk_kvn, ↓vk_gf0, ↓vk_gv0, ↓vk_gv1, ↓vk_gv2, ↓vk_pf, ↓vk_ar, ↓vk_arr, bc_lay, bc_fn, bc_mk, bc_cs, bc_cat, bc_nl, bc_nth, bc_en, bc_sw, true_and, and_true, ↓reduceIte, reduceCtorEq, Nat.reduceEqDiff, Nat.reduceLeDiff, Nat.reduceAdd, Nat.le_refl, Nat.zero_le, Int.cast_ofNat_Int, Int.reduceEq, eq_self, true_implies, false_implies, not_true_eq_false, not_false_eq_true, bc_vr, Int.reduceToNat, Int.toNat_natCast, Int.reduceLE, Int.reduceLT, Int.reduceNeg, true_or, or_true, forall_const, Int.reduceAdd]
      refine c0_addLeast (T' := pd_bl (bc_bit m) i ++ [i]) hC hV (by rw [e22, e5]; exact hsp) (fun o => by rw [e22, e5, e6]; exact hlo o) (by omega) hS (fun s f => pd_sf_snoc s f) (fun h1 hS1 hf1 => ?_)
      simp only [↓vl_iconst, ↓vl_bipush, ↓vl_sipush, ↓vl_lconst, ↓vl_ldc, ↓vl_ldcw, ↓vl_ldc2, ↓vl_iload0, ↓vl_aload0, ↓vl_istore0, ↓vl_iinc0, ↓vl_iload1, ↓vl_aload1, ↓vl_istore1, ↓vl_iinc1, ↓vl_iload2, ↓vl_aload2, ↓vl_istore2, ↓vl_iinc2, ↓vl_iload3, ↓vl_aload3, ↓vl_istore3, ↓vl_iinc3, ↓vl_iload4, ↓vl_istore4, ↓vl_iinc4, ↓vl_iload5, ↓vl_istore5, ↓vl_iinc5, ↓vl_iload6, ↓vl_istore6, ↓vl_iinc6, ↓vl_iload7, ↓vl_istore7, ↓vl_iinc7, ↓vl_lload5, ↓vl_lstore5, ↓vl_iadd, ↓vl_isub, ↓vl_imul, ↓vl_iand, ↓vl_ior, ↓vl_ixor, ↓vl_ishl, ↓vl_ishr, ↓vl_iushr, ↓vl_idiv, ↓vl_irem, ↓vl_ladd, ↓vl_lsub, ↓vl_lmul, ↓vl_lcmp, ↓vl_i2l, ↓vl_dup, ↓vl_dup2, ↓vl_gotoF, ↓vl_gotoB, ↓vl_nnF, ↓vl_ic_eqF, ↓vl_if_eqF, ↓vl_ic_eqB, ↓vl_if_eqB, ↓vl_ic_neF, ↓vl_if_neF, ↓vl_ic_neB, ↓vl_if_neB, ↓vl_ic_ltF, ↓vl_if_ltF, ↓vl_ic_ltB, ↓vl_if_ltB, ↓vl_ic_geF, ↓vl_if_geF, ↓vl_ic_geB, ↓vl_if_geB, ↓vl_ic_gtF, ↓vl_if_gtF, ↓vl_ic_gtB, ↓vl_if_gtB, ↓vl_ic_leF, ↓vl_if_leF, ↓vl_ic_leB, ↓vl_if_leB, ↓vl_sw, ↓vl_get, ↓vl_putI, ↓vl_putL, ↓vl_iald, ↓vl_iast, ↓vl_alen, ↓vl_aald, ↓vl_iretI, ↓vl_iretZ, ↓vl_ret, ↓vl_mark, ↓vl_markT, ↓vl_skip, ↓vl_st0, ↓vl_vi0, ↓vl_st1, ↓vl_vi1, ↓vl_st2, ↓vl_vi2, ↓vl_st3, ↓vl_vi3, ↓vl_st4, ↓vl_vi4, ↓vl_st5, ↓vl_vi5, ↓vl_st6, ↓vl_vi6, ↓vl_min, ↓vl_max, ↓vl_cpy, ↓vk_kvs, ↓vk_kvn, ↓vk_gf0, ↓vk_gv0, ↓vk_gv1, ↓vk_gv2, ↓vk_pf, ↓vk_ar, ↓vk_arr, bc_lay, bc_fn, bc_mk, bc_cs, bc_cat, bc_nl, bc_nth, bc_en, bc_sw, true_and, and_true, ↓reduceIte, reduceCtorEq, Nat.reduceEqDiff, Nat.reduceLeDiff, Nat.reduceAdd, Nat.le_refl, Nat.zero_le, Int.cast_ofNat_Int, Int.reduceEq, eq_self, true_implies, false_implies, not_true_eq_false, not_false_eq_true, bc_vr, Int.reduceToNat, Int.toNat_natCast, Int.reduceLE, Int.reduceLT, Int.reduceNeg, true_or, or_true, forall_const, Int.reduceAdd]
      refine c0_addSize (U' := pd_bl (bc_bit m) i ++ [i]) (pd_C_fr hC (fun j a b => hf1 j (by omega))) hV hhi (by omega) hS1 (fun s f => pd_sf_snoc s f) (fun h2 hS2 hf2 => ?_)
      simp only [↓vl_iconst, ↓vl_bipush, ↓vl_sipush, ↓vl_lconst, ↓vl_ldc, ↓vl_ldcw, ↓vl_ldc2, ↓vl_iload0, ↓vl_aload0, ↓vl_istore0, ↓vl_iinc0, ↓vl_iload1, ↓vl_aload1, ↓vl_istore1, ↓vl_iinc1, ↓vl_iload2, ↓vl_aload2, ↓vl_istore2, ↓vl_iinc2, ↓vl_iload3, ↓vl_aload3, ↓vl_istore3, ↓vl_iinc3, ↓vl_iload4, ↓vl_istore4, ↓vl_iinc4, ↓vl_iload5, ↓vl_istore5, ↓vl_iinc5, ↓vl_iload6, ↓vl_istore6, ↓vl_iinc6, ↓vl_iload7, ↓vl_istore7, ↓vl_iinc7, ↓vl_lload5, ↓vl_lstore5, ↓vl_iadd, ↓vl_isub, ↓vl_imul, ↓vl_iand, ↓vl_ior, ↓vl_ixor, ↓vl_ishl, ↓vl_ishr, ↓vl_iushr, ↓vl_idiv, ↓vl_irem, ↓vl_ladd, ↓vl_lsub, ↓vl_lmul, ↓vl_lcmp, ↓vl_i2l, ↓vl_dup, ↓vl_dup2, ↓vl_gotoF, ↓vl_gotoB, ↓vl_nnF, ↓vl_ic_eqF, ↓vl_if_eqF, ↓vl_ic_eqB, ↓vl_if_eqB, ↓vl_ic_neF, ↓vl_if_neF, ↓vl_ic_neB, ↓vl_if_neB, ↓vl_ic_ltF, ↓vl_if_ltF, ↓vl_ic_ltB, ↓vl_if_ltB, ↓vl_ic_geF, ↓vl_if_geF, ↓vl_ic_geB, ↓vl_if_geB, ↓vl_ic_gtF, ↓vl_if_gtF, ↓vl_ic_gtB, ↓vl_if_gtB, ↓vl_ic_leF, ↓vl_if_leF, ↓vl_ic_leB, ↓vl_if_leB, ↓vl_sw, ↓vl_get, ↓vl_putI, ↓vl_putL, ↓vl_iald, ↓vl_iast, ↓vl_alen, ↓vl_aald, ↓vl_iretI, ↓vl_iretZ, ↓vl_ret, ↓vl_mark, ↓vl_markT, ↓vl_skip, ↓vl_st0, ↓vl_vi0, ↓vl_st1, ↓vl_vi1, ↓vl_st2, ↓vl_vi2, ↓vl_st3, ↓vl_vi3, ↓vl_st4, ↓vl_vi4, ↓vl_st5, ↓vl_vi5, ↓vl_st6, ↓vl_vi6, ↓vl_min, ↓vl_max, ↓vl_cpy, ↓vk_kvs, ↓vk_kvn, ↓vk_gf0, ↓vk_gv0, ↓vk_gv1, ↓vk_gv2, ↓vk_pf, ↓vk_ar, ↓vk_arr, bc_lay, bc_fn, bc_mk, bc_cs, bc_cat, bc_nl, bc_nth, bc_en, bc_sw, true_and, and_true, ↓reduceIte, reduceCtorEq, Nat.reduceEqDiff, Nat.reduceLeDiff, Nat.reduceAdd, Nat.le_refl, Nat.zero_le, Int.cast_ofNat_Int, Int.reduceEq, eq_self, true_implies, false_implies, not_true_eq_false, not_false_eq_true, bc_vr, Int.reduceToNat, Int.toNat_natCast, Int.reduceLE, Int.reduceLT, Int.reduceNeg, true_or, or_true, forall_const, Int.reduceAdd]
      rw [e1]
      exact ih (i + 1) h2 (by omega) (by rw [e]; exact hS2) (pd_fr_trans hf (pd_fr_trans hf1 hf2))
    · have e : pd_bl (bc_bit m) (i + 1) = pd_bl (bc_bit m) i := by rw [pd_bl, if_neg hb]
      simp only [↓vl_iconst, ↓vl_bipush, ↓vl_sipush, ↓vl_lconst, ↓vl_ldc, ↓vl_ldcw, ↓vl_ldc2, ↓vl_iload0, ↓vl_aload0, ↓vl_istore0, ↓vl_iinc0, ↓vl_iload1, ↓vl_aload1, ↓vl_istore1, ↓vl_iinc1, ↓vl_iload2, ↓vl_aload2, ↓vl_istore2, ↓vl_iinc2, ↓vl_iload3, ↓vl_aload3, ↓vl_istore3, ↓vl_iinc3, ↓vl_iload4, ↓vl_istore4, ↓vl_iinc4, ↓vl_iload5, ↓vl_istore5, ↓vl_iinc5, ↓vl_iload6, ↓vl_istore6, ↓vl_iinc6, ↓vl_iload7, ↓vl_istore7, ↓vl_iinc7, ↓vl_lload5, ↓vl_lstore5, ↓vl_iadd, ↓vl_isub, ↓vl_imul, ↓vl_iand, ↓vl_ior, ↓vl_ixor, ↓vl_ishl, ↓vl_ishr, ↓vl_iushr, ↓vl_idiv, ↓vl_irem, ↓vl_ladd, ↓vl_lsub, ↓vl_lmul, ↓vl_lcmp, ↓vl_i2l, ↓vl_dup, ↓vl_dup2, ↓vl_gotoF, ↓vl_gotoB, ↓vl_nnF, ↓vl_ic_eqF, ↓vl_if_eqF, ↓vl_ic_eqB, ↓vl_if_eqB, ↓vl_ic_neF, ↓vl_if_neF, ↓vl_ic_neB, ↓vl_if_neB, ↓vl_ic_ltF, ↓vl_if_ltF, ↓vl_ic_ltB, ↓vl_if_ltB, ↓vl_ic_geF, ↓vl_if_geF, ↓vl_ic_geB, ↓vl_if_geB, ↓vl_ic_gtF, ↓vl_if_gtF, ↓vl_ic_gtB, ↓vl_if_gtB, ↓vl_ic_leF, ↓vl_if_leF, ↓vl_ic_leB, ↓vl_if_leB, ↓vl_sw, ↓vl_get, ↓vl_putI, ↓vl_putL, ↓vl_iald, ↓vl_iast, ↓vl_alen, ↓vl_aald, ↓vl_iretI, ↓vl_iretZ, ↓vl_ret, ↓vl_mark, ↓vl_markT, ↓vl_skip, ↓vl_st0, ↓vl_vi0, ↓vl_st1, ↓vl_vi1, ↓vl_st2, ↓vl_vi2, ↓vl_st3, ↓vl_vi3, ↓vl_st4, ↓vl_vi4, ↓vl_st5, ↓vl_vi5, ↓vl_st6, ↓vl_vi6, ↓vl_min, ↓vl_max, ↓vl_cpy, ↓vk_kvs, ↓vk_kvn, ↓vk_gf0, ↓vk_gv0, ↓vk_gv1, ↓vk_gv2, ↓vk_pf, ↓vk_ar, ↓vk_arr, bc_lay, bc_fn, bc_mk, bc_cs, bc_cat, bc_nl, bc_nth, bc_en, bc_sw, true_and, and_true, ↓reduceIte, reduceCtorEq, Nat.reduceEqDiff, Nat.reduceLeDiff, Nat.reduceAdd, Nat.le_refl, Nat.zero_le, Int.cast_ofNat_Int, Int.reduceEq, eq_self, true_implies, false_implies, not_true_eq_false, not_false_eq_true, bc_vr, Int.reduceToNat, Int.toNat_natCast, Int.reduceLE, Int.reduceLT, Int.reduceNeg, true_or, or_true, forall_const, Int.reduceAdd]
      rw [e1]
      exact ih (i + 1) h (by omega) (by rw [e]; exact hS) hf
theorem c0_gather (hC : pd_C 4 D h) (hV : pd_V D) {m sp sl : Int} (e5 : h 22 5 = sp) (e6 : h 22 6 = sl) {lo hi : Nat → Int} (hlo : ∀ o, lo o = pd_lo D sp sl o) (hhi : ∀ o, hi o = D (7 + 9 * o + 1)) (hsp : bc_vr sp)
    (kk : ∀ h', pd_SL D lo hi (pd_bl (bc_bit m) (D 0).toNat) (pd_bl (bc_bit m) (D 0).toNat) h' → pd_fr 24 27 h h' → post none h') : bc_OK (d + 4) 7 [.inr (.inr 22), .inl m] h post := by
  have v0 := hV.1
  refine bc_run (n := 3) ck_X0_gather rfl rfl rfl rfl (Nat.le_of_ble_eq_true rfl) ?_
  simp only [k_X0_gather, ↓vl_iconst, ↓vl_bipush, ↓vl_sipush, ↓vl_lconst, ↓vl_ldc, ↓vl_ldcw, ↓vl_ldc2, ↓vl_iload0, ↓vl_aload0, ↓vl_istore0, ↓vl_iinc0, ↓vl_iload1, ↓vl_aload1, ↓vl_istore1, ↓vl_iinc1, ↓vl_iload2, ↓vl_aload2, ↓vl_istore2, ↓vl_iinc2, ↓vl_iload3, ↓vl_aload3, ↓vl_istore3, ↓vl_iinc3, ↓vl_iload4, ↓vl_istore4, ↓vl_iinc4, ↓vl_iload5, ↓vl_istore5, ↓vl_iinc5, ↓vl_iload6, ↓vl_istore6, ↓vl_iinc6, ↓vl_iload7, ↓vl_istore7, ↓vl_iinc7, ↓vl_lload5, ↓vl_lstore5, ↓vl_iadd, ↓vl_isub, ↓vl_imul, ↓vl_iand, ↓vl_ior, ↓vl_ixor, ↓vl_ishl, ↓vl_ishr, ↓vl_iushr, ↓vl_idiv, ↓vl_irem, ↓vl_ladd, ↓vl_lsub, ↓vl_lmul, ↓vl_lcmp, ↓vl_i2l, ↓vl_dup, ↓vl_dup2, ↓vl_gotoF, ↓vl_gotoB, ↓vl_nnF, ↓vl_ic_eqF, ↓vl_if_eqF, ↓vl_ic_eqB, ↓vl_if_eqB, ↓vl_ic_neF, ↓vl_if_neF, ↓vl_ic_neB, ↓vl_if_neB, ↓vl_ic_ltF, ↓vl_if_ltF, ↓vl_ic_ltB, ↓vl_if_ltB, ↓vl_ic_geF, ↓vl_if_geF, ↓vl_ic_geB, ↓vl_if_geB, ↓vl_ic_gtF, ↓vl_if_gtF, ↓vl_ic_gtB, ↓vl_if_gtB, ↓vl_ic_leF, ↓vl_if_leF, ↓vl_ic_leB, ↓vl_if_leB, ↓vl_sw, ↓vl_get, ↓vl_putI, ↓vl_putL, ↓vl_iald, ↓vl_iast, ↓vl_alen, ↓vl_aald, ↓vl_iretI, ↓vl_iretZ, ↓vl_ret, ↓vl_mark, ↓vl_markT, ↓vl_skip, ↓vl_st0, ↓vl_vi0, ↓vl_st1, ↓vl_vi1, ↓vl_st2, ↓vl_vi2, ↓vl_st3, ↓vl_vi3, ↓vl_st4, ↓vl_vi4, ↓vl_st5, ↓vl_vi5, ↓vl_st6, ↓vl_vi6, ↓vl_min, ↓vl_max, ↓vl_cpy, ↓vk_kvs, ↓vk_kvn, ↓vk_gf0, ↓vk_gv0, ↓vk_gv1, ↓vk_gv2, ↓vk_pf, ↓vk_ar, ↓vk_arr, bc_lay, bc_fn, bc_mk, bc_cs, bc_cat, bc_nl, bc_nth, bc_en, bc_sw, true_and, and_true, ↓reduceIte, reduceCtorEq, Nat.reduceEqDiff, Nat.reduceLeDiff, Nat.reduceAdd, Nat.le_refl, Nat.zero_le, Int.cast_ofNat_Int, Int.reduceEq, eq_self, true_implies, false_implies, not_true_eq_false, not_false_eq_true, bc_vr, Int.reduceToNat, Int.toNat_natCast, Int.reduceLE, Int.reduceLT, Int.reduceNeg, true_or, or_true, forall_const, Int.reduceAdd]
  refine c4_clear (fun h2 hS2 hf2 => ?_)
  simp only [↓vl_iconst, ↓vl_bipush, ↓vl_sipush, ↓vl_lconst, ↓vl_ldc, ↓vl_ldcw, ↓vl_ldc2, ↓vl_iload0, ↓vl_aload0, ↓vl_istore0, ↓vl_iinc0, ↓vl_iload1, ↓vl_aload1, ↓vl_istore1, ↓vl_iinc1, ↓vl_iload2, ↓vl_aload2, ↓vl_istore2, ↓vl_iinc2, ↓vl_iload3, ↓vl_aload3, ↓vl_istore3, ↓vl_iinc3, ↓vl_iload4, ↓vl_istore4, ↓vl_iinc4, ↓vl_iload5, ↓vl_istore5, ↓vl_iinc5, ↓vl_iload6, ↓vl_istore6, ↓vl_iinc6, ↓vl_iload7, ↓vl_istore7, ↓vl_iinc7, ↓vl_lload5, ↓vl_lstore5, ↓vl_iadd, ↓vl_isub, ↓vl_imul, ↓vl_iand, ↓vl_ior, ↓vl_ixor, ↓vl_ishl, ↓vl_ishr, ↓vl_iushr, ↓vl_idiv, ↓vl_irem, ↓vl_ladd, ↓vl_lsub, ↓vl_lmul, ↓vl_lcmp, ↓vl_i2l, ↓vl_dup, ↓vl_dup2, ↓vl_gotoF, ↓vl_gotoB, ↓vl_nnF, ↓vl_ic_eqF, ↓vl_if_eqF, ↓vl_ic_eqB, ↓vl_if_eqB, ↓vl_ic_neF, ↓vl_if_neF, ↓vl_ic_neB, ↓vl_if_neB, ↓vl_ic_ltF, ↓vl_if_ltF, ↓vl_ic_ltB, ↓vl_if_ltB, ↓vl_ic_geF, ↓vl_if_geF, ↓vl_ic_geB, ↓vl_if_geB, ↓vl_ic_gtF, ↓vl_if_gtF, ↓vl_ic_gtB, ↓vl_if_gtB, ↓vl_ic_leF, ↓vl_if_leF, ↓vl_ic_leB, ↓vl_if_leB, ↓vl_sw, ↓vl_get, ↓vl_putI, ↓vl_putL, ↓vl_iald, ↓vl_iast, ↓vl_alen, ↓vl_aald, ↓vl_iretI, ↓vl_iretZ, ↓vl_ret, ↓vl_mark, ↓vl_markT, ↓vl_skip, ↓vl_st0, ↓vl_vi0, ↓vl_st1, ↓vl_vi1, ↓vl_st2, ↓vl_vi2, ↓vl_st3, ↓vl_vi3, ↓vl_st4, ↓vl_vi4, ↓vl_st5, ↓vl_vi5, ↓vl_st6, ↓vl_vi6, ↓vl_min, ↓vl_max, ↓vl_cpy, ↓vk_kvs, ↓vk_kvn, ↓vk_gf0, ↓vk_gv0, ↓vk_gv1, ↓vk_gv2, ↓vk_pf, ↓vk_ar, ↓vk_arr, bc_lay, bc_fn, bc_mk, bc_cs, bc_cat, bc_nl, bc_nth, bc_en, bc_sw, true_and, and_true, ↓reduceIte, reduceCtorEq, Nat.reduceEqDiff, Nat.reduceLeDiff, Nat.reduceAdd, Nat.le_refl, Nat.zero_le, Int.cast_ofNat_Int, Int.reduceEq, eq_self, true_implies, false_implies, not_true_eq_false, not_false_eq_true, bc_vr, Int.reduceToNat, Int.toNat_natCast, Int.reduceLE, Int.reduceLT, Int.reduceNeg, true_or, or_true, forall_const, Int.reduceAdd]
  have e22 : h2 22 = h 22 := hf2 22 (by omega)
  refine l0_gather hV hlo hhi hsp hC e5 e6 kk (D 0).toNat 0 h2 (by omega) (pd_SG_congr hS2 ?_ ?_ ?_ ?_) hf2
  all_goals (intro f hf; simp [pd_bl, pd_sf])
theorem c0_mostOf (hC : pd_C 4 D h) (hV : pd_V D) {m sp sl : Int} (e5 : h 22 5 = sp) (e6 : h 22 6 = sl) {lo hi : Nat → Int} (hlo : ∀ o, lo o = pd_lo D sp sl o) (hhi : ∀ o, hi o = D (7 + 9 * o + 1)) (hsp : bc_vr sp) (blo : ∀ x ∈ pd_bl (bc_bit m) (D 0).toNat, 0 ≤ lo x ∧ lo x ≤ 999)
    (kk : ∀ h', pd_fr 24 27 h h' → post (some (.inl (pd_VM D lo hi (pd_bl (bc_bit m) (D 0).toNat) (pd_bl (bc_bit m) (D 0).toNat)))) h') : bc_OK (d + 5) 4 [.inr (.inr 22), .inl m] h post := by
  have v0 := hV.1
  have bhi : ∀ x ∈ pd_bl (bc_bit m) (D 0).toNat, 0 ≤ hi x ∧ hi x ≤ 999 := fun x hx => by
    obtain ⟨-, r1, -⟩ := hV.2.2 x (by have := ((pd_bl_mem _).mp hx).1; omega)
    rw [hhi]; exact r1
  have hlen := pd_bl_len (p := bc_bit m) (D 0).toNat
  refine bc_run (n := 2) ck_X0_mostOf rfl rfl rfl rfl (Nat.le_of_ble_eq_true rfl) ?_
  simp only [k_X0_mostOf, ↓vl_iconst, ↓vl_bipush, ↓vl_sipush, ↓vl_lconst, ↓vl_ldc, ↓vl_ldcw, ↓vl_ldc2, ↓vl_iload0, ↓vl_aload0, ↓vl_istore0, ↓vl_iinc0, ↓vl_iload1, ↓vl_aload1, ↓vl_istore1, ↓vl_iinc1, ↓vl_iload2, ↓vl_aload2, ↓vl_istore2, ↓vl_iinc2, ↓vl_iload3, ↓vl_aload3, ↓vl_istore3, ↓vl_iinc3, ↓vl_iload4, ↓vl_istore4, ↓vl_iinc4, ↓vl_iload5, ↓vl_istore5, ↓vl_iinc5, ↓vl_iload6, ↓vl_istore6, ↓vl_iinc6, ↓vl_iload7, ↓vl_istore7, ↓vl_iinc7, ↓vl_lload5, ↓vl_lstore5, ↓vl_iadd, ↓vl_isub, ↓vl_imul, ↓vl_iand, ↓vl_ior, ↓vl_ixor, ↓vl_ishl, ↓vl_ishr, ↓vl_iushr, ↓vl_idiv, ↓vl_irem, ↓vl_ladd, ↓vl_lsub, ↓vl_lmul, ↓vl_lcmp, ↓vl_i2l, ↓vl_dup, ↓vl_dup2, ↓vl_gotoF, ↓vl_gotoB, ↓vl_nnF, ↓vl_ic_eqF, ↓vl_if_eqF, ↓vl_ic_eqB, ↓vl_if_eqB, ↓vl_ic_neF, ↓vl_if_neF, ↓vl_ic_neB, ↓vl_if_neB, ↓vl_ic_ltF, ↓vl_if_ltF, ↓vl_ic_ltB, ↓vl_if_ltB, ↓vl_ic_geF, ↓vl_if_geF, ↓vl_ic_geB, ↓vl_if_geB, ↓vl_ic_gtF, ↓vl_if_gtF, ↓vl_ic_gtB, ↓vl_if_gtB, ↓vl_ic_leF, ↓vl_if_leF, ↓vl_ic_leB, ↓vl_if_leB, ↓vl_sw, ↓vl_get, ↓vl_putI, ↓vl_putL, ↓vl_iald, ↓vl_iast, ↓vl_alen, ↓vl_aald, ↓vl_iretI, ↓vl_iretZ, ↓vl_ret, ↓vl_mark, ↓vl_markT, ↓vl_skip, ↓vl_st0, ↓vl_vi0, ↓vl_st1, ↓vl_vi1, ↓vl_st2, ↓vl_vi2, ↓vl_st3, ↓vl_vi3, ↓vl_st4, ↓vl_vi4, ↓vl_st5, ↓vl_vi5, ↓vl_st6, ↓vl_vi6, ↓vl_min, ↓vl_max, ↓vl_cpy, ↓vk_kvs, ↓vk_kvn, ↓vk_gf0, ↓vk_gv0, ↓vk_gv1, ↓vk_gv2, ↓vk_pf, ↓vk_ar, ↓vk_arr, bc_lay, bc_fn, bc_mk, bc_cs, bc_cat, bc_nl, bc_nth, bc_en, bc_sw, true_and, and_true, ↓reduceIte, reduceCtorEq, Nat.reduceEqDiff, Nat.reduceLeDiff, Nat.reduceAdd, Nat.le_refl, Nat.zero_le, Int.cast_ofNat_Int, Int.reduceEq, eq_self, true_implies, false_implies, not_true_eq_false, not_false_eq_true, bc_vr, Int.reduceToNat, Int.toNat_natCast, Int.reduceLE, Int.reduceLT, Int.reduceNeg, true_or, or_true, forall_const, Int.reduceAdd]
  refine c0_gather hC hV e5 e6 hlo hhi hsp (fun h2 hS2 hf2 => ?_)
  simp only [↓vl_iconst, ↓vl_bipush, ↓vl_sipush, ↓vl_lconst, ↓vl_ldc, ↓vl_ldcw, ↓vl_ldc2, ↓vl_iload0, ↓vl_aload0, ↓vl_istore0, ↓vl_iinc0, ↓vl_iload1, ↓vl_aload1, ↓vl_istore1, ↓vl_iinc1, ↓vl_iload2, ↓vl_aload2, ↓vl_istore2, ↓vl_iinc2, ↓vl_iload3, ↓vl_aload3, ↓vl_istore3, ↓vl_iinc3, ↓vl_iload4, ↓vl_istore4, ↓vl_iinc4, ↓vl_iload5, ↓vl_istore5, ↓vl_iinc5, ↓vl_iload6, ↓vl_istore6, ↓vl_iinc6, ↓vl_iload7, ↓vl_istore7, ↓vl_iinc7, ↓vl_lload5, ↓vl_lstore5, ↓vl_iadd, ↓vl_isub, ↓vl_imul, ↓vl_iand, ↓vl_ior, ↓vl_ixor, ↓vl_ishl, ↓vl_ishr, ↓vl_iushr, ↓vl_idiv, ↓vl_irem, ↓vl_ladd, ↓vl_lsub, ↓vl_lmul, ↓vl_lcmp, ↓vl_i2l, ↓vl_dup, ↓vl_dup2, ↓vl_gotoF, ↓vl_gotoB, ↓vl_nnF, ↓vl_ic_eqF, ↓vl_if_eqF, ↓vl_ic_eqB, ↓vl_if_eqB, ↓vl_ic_neF, ↓vl_if_neF, ↓vl_ic_neB, ↓vl_if_neB, ↓vl_ic_ltF, ↓vl_if_ltF, ↓vl_ic_ltB, ↓vl_if_ltB, ↓vl_ic_geF, ↓vl_if_geF, ↓vl_ic_geB, ↓vl_if_geB, ↓vl_ic_gtF, ↓vl_if_gtF, ↓vl_ic_gtB, ↓vl_if_gtB, ↓vl_ic_leF, ↓vl_if_leF, ↓vl_ic_leB, ↓vl_if_leB, ↓vl_sw, ↓vl_get, ↓vl_putI, ↓vl_putL, ↓vl_iald, ↓vl_iast, ↓vl_alen, ↓vl_aald, ↓vl_iretI, ↓vl_iretZ, ↓vl_ret, ↓vl_mark, ↓vl_markT, ↓vl_skip, ↓vl_st0, ↓vl_vi0, ↓vl_st1, ↓vl_vi1, ↓vl_st2, ↓vl_vi2, ↓vl_st3, ↓vl_vi3, ↓vl_st4, ↓vl_vi4, ↓vl_st5, ↓vl_vi5, ↓vl_st6, ↓vl_vi6, ↓vl_min, ↓vl_max, ↓vl_cpy, ↓vk_kvs, ↓vk_kvn, ↓vk_gf0, ↓vk_gv0, ↓vk_gv1, ↓vk_gv2, ↓vk_pf, ↓vk_ar, ↓vk_arr, bc_lay, bc_fn, bc_mk, bc_cs, bc_cat, bc_nl, bc_nth, bc_en, bc_sw, true_and, and_true, ↓reduceIte, reduceCtorEq, Nat.reduceEqDiff, Nat.reduceLeDiff, Nat.reduceAdd, Nat.le_refl, Nat.zero_le, Int.cast_ofNat_Int, Int.reduceEq, eq_self, true_implies, false_implies, not_true_eq_false, not_false_eq_true, bc_vr, Int.reduceToNat, Int.toNat_natCast, Int.reduceLE, Int.reduceLT, Int.reduceNeg, true_or, or_true, forall_const, Int.reduceAdd]
  refine c4_most hS2 (pd_bd_sf blo (by omega)) (pd_bd_sf blo (by omega)) (pd_bd_sf bhi (by omega)) (pd_bd_sf bhi (by omega)) ?_
  simp only [↓vl_iconst, ↓vl_bipush, ↓vl_sipush, ↓vl_lconst, ↓vl_ldc, ↓vl_ldcw, ↓vl_ldc2, ↓vl_iload0, ↓vl_aload0, ↓vl_istore0, ↓vl_iinc0, ↓vl_iload1, ↓vl_aload1, ↓vl_istore1, ↓vl_iinc1, ↓vl_iload2, ↓vl_aload2, ↓vl_istore2, ↓vl_iinc2, ↓vl_iload3, ↓vl_aload3, ↓vl_istore3, ↓vl_iinc3, ↓vl_iload4, ↓vl_istore4, ↓vl_iinc4, ↓vl_iload5, ↓vl_istore5, ↓vl_iinc5, ↓vl_iload6, ↓vl_istore6, ↓vl_iinc6, ↓vl_iload7, ↓vl_istore7, ↓vl_iinc7, ↓vl_lload5, ↓vl_lstore5, ↓vl_iadd, ↓vl_isub, ↓vl_imul, ↓vl_iand, ↓vl_ior, ↓vl_ixor, ↓vl_ishl, ↓vl_ishr, ↓vl_iushr, ↓vl_idiv, ↓vl_irem, ↓vl_ladd, ↓vl_lsub, ↓vl_lmul, ↓vl_lcmp, ↓vl_i2l, ↓vl_dup, ↓vl_dup2, ↓vl_gotoF, ↓vl_gotoB, ↓vl_nnF, ↓vl_ic_eqF, ↓vl_if_eqF, ↓vl_ic_eqB, ↓vl_if_eqB, ↓vl_ic_neF, ↓vl_if_neF, ↓vl_ic_neB, ↓vl_if_neB, ↓vl_ic_ltF, ↓vl_if_ltF, ↓vl_ic_ltB, ↓vl_if_ltB, ↓vl_ic_geF, ↓vl_if_geF, ↓vl_ic_geB, ↓vl_if_geB, ↓vl_ic_gtF, ↓vl_if_gtF, ↓vl_ic_gtB, ↓vl_if_gtB, ↓vl_ic_leF, ↓vl_if_leF, ↓vl_ic_leB, ↓vl_if_leB, ↓vl_sw, ↓vl_get, ↓vl_putI, ↓vl_putL, ↓vl_iald, ↓vl_iast, ↓vl_alen, ↓vl_aald, ↓vl_iretI, ↓vl_iretZ, ↓vl_ret, ↓vl_mark, ↓vl_markT, ↓vl_skip, ↓vl_st0, ↓vl_vi0, ↓vl_st1, ↓vl_vi1, ↓vl_st2, ↓vl_vi2, ↓vl_st3, ↓vl_vi3, ↓vl_st4, ↓vl_vi4, ↓vl_st5, ↓vl_vi5, ↓vl_st6, ↓vl_vi6, ↓vl_min, ↓vl_max, ↓vl_cpy, ↓vk_kvs, ↓vk_kvn, ↓vk_gf0, ↓vk_gv0, ↓vk_gv1, ↓vk_gv2, ↓vk_pf, ↓vk_ar, ↓vk_arr, bc_lay, bc_fn, bc_mk, bc_cs, bc_cat, bc_nl, bc_nth, bc_en, bc_sw, true_and, and_true, ↓reduceIte, reduceCtorEq, Nat.reduceEqDiff, Nat.reduceLeDiff, Nat.reduceAdd, Nat.le_refl, Nat.zero_le, Int.cast_ofNat_Int, Int.reduceEq, eq_self, true_implies, false_implies, not_true_eq_false, not_false_eq_true, bc_vr, Int.reduceToNat, Int.toNat_natCast, Int.reduceLE, Int.reduceLT, Int.reduceNeg, true_or, or_true, forall_const, Int.reduceAdd]
  exact kk h2 hf2
theorem c0_suppose {o l : Int} (kk : post none (bc_up (bc_up h 22 5 o) 22 6 l)) : bc_OK (d + 1) 1 [.inr (.inr 22), .inl o, .inl l] h post := by
  refine bc_run (n := 3) ck_X0_suppose rfl rfl rfl rfl (Nat.le_of_ble_eq_true rfl) ?_
  simp only [k_X0_suppose, ↓vl_iconst, ↓vl_bipush, ↓vl_sipush, ↓vl_lconst, ↓vl_ldc, ↓vl_ldcw, ↓vl_ldc2, ↓vl_iload0, ↓vl_aload0, ↓vl_istore0, ↓vl_iinc0, ↓vl_iload1, ↓vl_aload1, ↓vl_istore1, ↓vl_iinc1, ↓vl_iload2, ↓vl_aload2, ↓vl_istore2, ↓vl_iinc2, ↓vl_iload3, ↓vl_aload3, ↓vl_istore3, ↓vl_iinc3, ↓vl_iload4, ↓vl_istore4, ↓vl_iinc4, ↓vl_iload5, ↓vl_istore5, ↓vl_iinc5, ↓vl_iload6, ↓vl_istore6, ↓vl_iinc6, ↓vl_iload7, ↓vl_istore7, ↓vl_iinc7, ↓vl_lload5, ↓vl_lstore5, ↓vl_iadd, ↓vl_isub, ↓vl_imul, ↓vl_iand, ↓vl_ior, ↓vl_ixor, ↓vl_ishl, ↓vl_ishr, ↓vl_iushr, ↓vl_idiv, ↓vl_irem, ↓vl_ladd, ↓vl_lsub, ↓vl_lmul, ↓vl_lcmp, ↓vl_i2l, ↓vl_dup, ↓vl_dup2, ↓vl_gotoF, ↓vl_gotoB, ↓vl_nnF, ↓vl_ic_eqF, ↓vl_if_eqF, ↓vl_ic_eqB, ↓vl_if_eqB, ↓vl_ic_neF, ↓vl_if_neF, ↓vl_ic_neB, ↓vl_if_neB, ↓vl_ic_ltF, ↓vl_if_ltF, ↓vl_ic_ltB, ↓vl_if_ltB, ↓vl_ic_geF, ↓vl_if_geF, ↓vl_ic_geB, ↓vl_if_geB, ↓vl_ic_gtF, ↓vl_if_gtF, ↓vl_ic_gtB, ↓vl_if_gtB, ↓vl_ic_leF, ↓vl_if_leF, ↓vl_ic_leB, ↓vl_if_leB, ↓vl_sw, ↓vl_get, ↓vl_putI, ↓vl_putL, ↓vl_iald, ↓vl_iast, ↓vl_alen, ↓vl_aald, ↓vl_iretI, ↓vl_iretZ, ↓vl_ret, ↓vl_mark, ↓vl_markT, ↓vl_skip, ↓vl_st0, ↓vl_vi0, ↓vl_st1, ↓vl_vi1, ↓vl_st2, ↓vl_vi2, ↓vl_st3, ↓vl_vi3, ↓vl_st4, ↓vl_vi4, ↓vl_st5, ↓vl_vi5, ↓vl_st6, ↓vl_vi6, ↓vl_min, ↓vl_max, ↓vl_cpy, ↓vk_kvs, ↓vk_kvn, ↓vk_gf0, ↓vk_gv0, ↓vk_gv1, ↓vk_gv2, ↓vk_pf, ↓vk_ar, ↓vk_arr, bc_lay, bc_fn, bc_mk, bc_cs, bc_cat, bc_nl, bc_nth, bc_en, bc_sw, true_and, and_true, ↓reduceIte, reduceCtorEq, Nat.reduceEqDiff, Nat.reduceLeDiff, Nat.reduceAdd, Nat.le_refl, Nat.zero_le, Int.cast_ofNat_Int, Int.reduceEq, eq_self, true_implies, false_implies, not_true_eq_false, not_false_eq_true, bc_vr, Int.reduceToNat, Int.toNat_natCast, Int.reduceLE, Int.reduceLT, Int.reduceNeg, true_or, or_true, forall_const, Int.reduceAdd]
  exact kk
end Choose
end
section
/-! the reference: reads of its row (cell 106), ranks, bounds -/
theorem pd_M_at {D : Nat → Int} {h : bc_AH} (hM : pd_M 106 D h) {i : Nat} (hi : i < 223) : h 106 i = D i := hM i hi
section Model
variable {d : Nat} {h : bc_AH} {post : Option bc_AV → bc_AH → Prop} {D : Nat → Int}
theorem c7_isIn {v a b : Int} (hv : bc_vr v) (ha : bc_vr a) (hb : bc_vr b) (k1 : a ≤ v → v ≤ b → post (some (.inl 1)) h) (k0 : ¬ (a ≤ v ∧ v ≤ b) → post (some (.inl 0)) h) : bc_OK (d + 1) 81 [.inl v, .inl a, .inl b] h post := by
  refine bc_run (n := 3) ck_X7_isIn rfl rfl rfl rfl (Nat.le_of_ble_eq_true rfl) ?_
  simp only [k_X7_isIn, ↓vl_iconst, ↓vl_bipush, ↓vl_sipush, ↓vl_lconst, ↓vl_ldc, ↓vl_ldcw, ↓vl_ldc2, ↓vl_iload0, ↓vl_aload0, ↓vl_istore0, ↓vl_iinc0, ↓vl_iload1, ↓vl_aload1, ↓vl_istore1, ↓vl_iinc1, ↓vl_iload2, ↓vl_aload2, ↓vl_istore2, ↓vl_iinc2, ↓vl_iload3, ↓vl_aload3, ↓vl_istore3, ↓vl_iinc3, ↓vl_iload4, ↓vl_istore4, ↓vl_iinc4, ↓vl_iload5, ↓vl_istore5, ↓vl_iinc5, ↓vl_iload6, ↓vl_istore6, ↓vl_iinc6, ↓vl_iload7, ↓vl_istore7, ↓vl_iinc7, ↓vl_lload5, ↓vl_lstore5, ↓vl_iadd, ↓vl_isub, ↓vl_imul, ↓vl_iand, ↓vl_ior, ↓vl_ixor, ↓vl_ishl, ↓vl_ishr, ↓vl_iushr, ↓vl_idiv, ↓vl_irem, ↓vl_ladd, ↓vl_lsub, ↓vl_lmul, ↓vl_lcmp, ↓vl_i2l, ↓vl_dup, ↓vl_dup2, ↓vl_gotoF, ↓vl_gotoB, ↓vl_nnF, ↓vl_ic_eqF, ↓vl_if_eqF, ↓vl_ic_eqB, ↓vl_if_eqB, ↓vl_ic_neF, ↓vl_if_neF, ↓vl_ic_neB, ↓vl_if_neB, ↓vl_ic_ltF, ↓vl_if_ltF, ↓vl_ic_ltB, ↓vl_if_ltB, ↓vl_ic_geF, ↓vl_if_geF, ↓vl_ic_geB, ↓vl_if_geB, ↓vl_ic_gtF, ↓vl_if_gtF, ↓vl_ic_gtB, ↓vl_if_gtB, ↓vl_ic_leF, ↓vl_if_leF, ↓vl_ic_leB, ↓vl_if_leB, ↓vl_sw, ↓vl_get, ↓vl_putI, ↓vl_putL, ↓vl_iald, ↓vl_iast, ↓vl_alen, ↓vl_aald, ↓vl_iretI, ↓vl_iretZ, ↓vl_ret, ↓vl_mark, ↓vl_markT, ↓vl_skip, ↓vl_st0, ↓vl_vi0, ↓vl_st1, ↓vl_vi1, ↓vl_st2, ↓vl_vi2, ↓vl_st3, ↓vl_vi3, ↓vl_st4, ↓vl_vi4, ↓vl_st5, ↓vl_vi5, ↓vl_st6, ↓vl_vi6, ↓vl_min, ↓vl_max, ↓vl_cpy, ↓vk_kvs, ↓vk_kvn, ↓vk_gf0, ↓vk_gv0, ↓vk_gv1, ↓vk_gv2, ↓vk_pf, ↓vk_ar, ↓vk_arr, bc_lay, bc_fn, bc_mk, bc_cs, bc_cat, bc_nl, bc_nth, bc_en, bc_sw, true_and, and_true, ↓reduceIte, reduceCtorEq, Nat.reduceEqDiff, Nat.reduceLeDiff, Nat.reduceAdd, Nat.le_refl, Nat.zero_le, Int.cast_ofNat_Int, Int.reduceEq, eq_self, true_implies, false_implies, not_true_eq_false, not_false_eq_true, bc_vr, Int.reduceToNat, Int.toNat_natCast, Int.reduceLE, Int.reduceLT, Int.reduceNeg, true_or, or_true, forall_const, Int.reduceAdd]
  repeat' (first | refine And.intro ?_ ?_ | intro _)
  all_goals first | exact hv.1 | exact hv.2 | exact ha.1 | exact ha.2 | exact hb.1 | exact hb.2 | omega | exact k0 (by omega) | exact k1 (by omega) (by omega)
theorem c7_has {x : Int} {o : Nat} (ho : o < 32) (k1 : bc_bit x o = true → post (some (.inl 1)) h) (k0 : ¬ bc_bit x o = true → post (some (.inl 0)) h) : bc_OK (d + 1) 82 [.inl x, .inl (o : Int)] h post := by
  refine bc_run (n := 2) ck_X7_has rfl rfl rfl rfl (Nat.le_of_ble_eq_true rfl) ?_
  simp only [k_X7_has, ↓vl_iconst, ↓vl_bipush, ↓vl_sipush, ↓vl_lconst, ↓vl_ldc, ↓vl_ldcw, ↓vl_ldc2, ↓vl_iload0, ↓vl_aload0, ↓vl_istore0, ↓vl_iinc0, ↓vl_iload1, ↓vl_aload1, ↓vl_istore1, ↓vl_iinc1, ↓vl_iload2, ↓vl_aload2, ↓vl_istore2, ↓vl_iinc2, ↓vl_iload3, ↓vl_aload3, ↓vl_istore3, ↓vl_iinc3, ↓vl_iload4, ↓vl_istore4, ↓vl_iinc4, ↓vl_iload5, ↓vl_istore5, ↓vl_iinc5, ↓vl_iload6, ↓vl_istore6, ↓vl_iinc6, ↓vl_iload7, ↓vl_istore7, ↓vl_iinc7, ↓vl_lload5, ↓vl_lstore5, ↓vl_iadd, ↓vl_isub, ↓vl_imul, ↓vl_iand, ↓vl_ior, ↓vl_ixor, ↓vl_ishl, ↓vl_ishr, ↓vl_iushr, ↓vl_idiv, ↓vl_irem, ↓vl_ladd, ↓vl_lsub, ↓vl_lmul, ↓vl_lcmp, ↓vl_i2l, ↓vl_dup, ↓vl_dup2, ↓vl_gotoF, ↓vl_gotoB, ↓vl_nnF, ↓vl_ic_eqF, ↓vl_if_eqF, ↓vl_ic_eqB, ↓vl_if_eqB, ↓vl_ic_neF, ↓vl_if_neF, ↓vl_ic_neB, ↓vl_if_neB, ↓vl_ic_ltF, ↓vl_if_ltF, ↓vl_ic_ltB, ↓vl_if_ltB, ↓vl_ic_geF, ↓vl_if_geF, ↓vl_ic_geB, ↓vl_if_geB, ↓vl_ic_gtF, ↓vl_if_gtF, ↓vl_ic_gtB, ↓vl_if_gtB, ↓vl_ic_leF, ↓vl_if_leF, ↓vl_ic_leB, ↓vl_if_leB, ↓vl_sw, ↓vl_get, ↓vl_putI, ↓vl_putL, ↓vl_iald, ↓vl_iast, ↓vl_alen, ↓vl_aald, ↓vl_iretI, ↓vl_iretZ, ↓vl_ret, ↓vl_mark, ↓vl_markT, ↓vl_skip, ↓vl_st0, ↓vl_vi0, ↓vl_st1, ↓vl_vi1, ↓vl_st2, ↓vl_vi2, ↓vl_st3, ↓vl_vi3, ↓vl_st4, ↓vl_vi4, ↓vl_st5, ↓vl_vi5, ↓vl_st6, ↓vl_vi6, ↓vl_min, ↓vl_max, ↓vl_cpy, ↓vk_kvs, ↓vk_kvn, ↓vk_gf0, ↓vk_gv0, ↓vk_gv1, ↓vk_gv2, ↓vk_pf, ↓vk_ar, ↓vk_arr, bc_lay, bc_fn, bc_mk, bc_cs, bc_cat, bc_nl, bc_nth, bc_en, bc_sw, true_and, and_true, ↓reduceIte, reduceCtorEq, Nat.reduceEqDiff, Nat.reduceLeDiff, Nat.reduceAdd, Nat.le_refl, Nat.zero_le, Int.cast_ofNat_Int, Int.reduceEq, eq_self, true_implies, false_implies, not_true_eq_false, not_false_eq_true, bc_vr, Int.reduceToNat, Int.toNat_natCast, Int.reduceLE, Int.reduceLT, Int.reduceNeg, true_or, or_true, forall_const, Int.reduceAdd]
  have hv := bc_vr_and (bc_shr x o) 1
  have hi := bc_isin_s x o ho
  refine ⟨hv, fun c => k0 (fun q => c (hi.mpr q)), fun c => k1 (hi.mp (Classical.not_not.mp c))⟩
theorem c7_isOrder (hM : pd_M 106 D h) (hV : pd_V D) {o : Int} (ho : bc_vr o) (k1 : 0 ≤ o → o < D 0 → post (some (.inl 1)) h) (k0 : ¬ (0 ≤ o ∧ o < D 0) → post (some (.inl 0)) h) : bc_OK (d + 2) 101 [.inr (.inr 104), .inl o] h post := by
  have v0 := hV.1
  have m0 := hM 0 (by omega)
  refine bc_run (n := 2) ck_X7_isOrder rfl rfl rfl rfl (Nat.le_of_ble_eq_true rfl) ?_
  simp only [k_X7_isOrder, ↓vl_iconst, ↓vl_bipush, ↓vl_sipush, ↓vl_lconst, ↓vl_ldc, ↓vl_ldcw, ↓vl_ldc2, ↓vl_iload0, ↓vl_aload0, ↓vl_istore0, ↓vl_iinc0, ↓vl_iload1, ↓vl_aload1, ↓vl_istore1, ↓vl_iinc1, ↓vl_iload2, ↓vl_aload2, ↓vl_istore2, ↓vl_iinc2, ↓vl_iload3, ↓vl_aload3, ↓vl_istore3, ↓vl_iinc3, ↓vl_iload4, ↓vl_istore4, ↓vl_iinc4, ↓vl_iload5, ↓vl_istore5, ↓vl_iinc5, ↓vl_iload6, ↓vl_istore6, ↓vl_iinc6, ↓vl_iload7, ↓vl_istore7, ↓vl_iinc7, ↓vl_lload5, ↓vl_lstore5, ↓vl_iadd, ↓vl_isub, ↓vl_imul, ↓vl_iand, ↓vl_ior, ↓vl_ixor, ↓vl_ishl, ↓vl_ishr, ↓vl_iushr, ↓vl_idiv, ↓vl_irem, ↓vl_ladd, ↓vl_lsub, ↓vl_lmul, ↓vl_lcmp, ↓vl_i2l, ↓vl_dup, ↓vl_dup2, ↓vl_gotoF, ↓vl_gotoB, ↓vl_nnF, ↓vl_ic_eqF, ↓vl_if_eqF, ↓vl_ic_eqB, ↓vl_if_eqB, ↓vl_ic_neF, ↓vl_if_neF, ↓vl_ic_neB, ↓vl_if_neB, ↓vl_ic_ltF, ↓vl_if_ltF, ↓vl_ic_ltB, ↓vl_if_ltB, ↓vl_ic_geF, ↓vl_if_geF, ↓vl_ic_geB, ↓vl_if_geB, ↓vl_ic_gtF, ↓vl_if_gtF, ↓vl_ic_gtB, ↓vl_if_gtB, ↓vl_ic_leF, ↓vl_if_leF, ↓vl_ic_leB, ↓vl_if_leB, ↓vl_sw, ↓vl_get, ↓vl_putI, ↓vl_putL, ↓vl_iald, ↓vl_iast, ↓vl_alen, ↓vl_aald, ↓vl_iretI, ↓vl_iretZ, ↓vl_ret, ↓vl_mark, ↓vl_markT, ↓vl_skip, ↓vl_st0, ↓vl_vi0, ↓vl_st1, ↓vl_vi1, ↓vl_st2, ↓vl_vi2, ↓vl_st3, ↓vl_vi3, ↓vl_st4, ↓vl_vi4, ↓vl_st5, ↓vl_vi5, ↓vl_st6, ↓vl_vi6, ↓vl_min, ↓vl_max, ↓vl_cpy, ↓vk_kvs, ↓vk_kvn, ↓vk_gf0, ↓vk_gv0, ↓vk_gv1, ↓vk_gv2, ↓vk_pf, ↓vk_ar, ↓vk_arr, bc_lay, bc_fn, bc_mk, bc_cs, bc_cat, bc_nl, bc_nth, bc_en, bc_sw, true_and, and_true, ↓reduceIte, reduceCtorEq, Nat.reduceEqDiff, Nat.reduceLeDiff, Nat.reduceAdd, Nat.le_refl, Nat.zero_le, Int.cast_ofNat_Int, Int.reduceEq, eq_self, true_implies, false_implies, not_true_eq_false, not_false_eq_true, bc_vr, Int.reduceToNat, Int.toNat_natCast, Int.reduceLE, Int.reduceLT, Int.reduceNeg, true_or, or_true, forall_const, Int.reduceAdd, m0]
  refine c7_isIn ho ⟨by omega, by omega⟩ ⟨by omega, by omega⟩ (fun a b => ?_) (fun q => ?_)
  · simp only [↓vl_iconst, ↓vl_bipush, ↓vl_sipush, ↓vl_lconst, ↓vl_ldc, ↓vl_ldcw, ↓vl_ldc2, ↓vl_iload0, ↓vl_aload0, ↓vl_istore0, ↓vl_iinc0, ↓vl_iload1, ↓vl_aload1, ↓vl_istore1, ↓vl_iinc1, ↓vl_iload2, ↓vl_aload2, ↓vl_istore2, ↓vl_iinc2, ↓vl_iload3, ↓vl_aload3, ↓vl_istore3, ↓vl_iinc3, ↓vl_iload4, ↓vl_istore4, ↓vl_iinc4, ↓vl_iload5, ↓vl_istore5, ↓vl_iinc5, ↓vl_iload6, ↓vl_istore6, ↓vl_iinc6, ↓vl_iload7, ↓vl_istore7, ↓vl_iinc7, ↓vl_lload5, ↓vl_lstore5, ↓vl_iadd, ↓vl_isub, ↓vl_imul, ↓vl_iand, ↓vl_ior, ↓vl_ixor, ↓vl_ishl, ↓vl_ishr, ↓vl_iushr, ↓vl_idiv, ↓vl_irem, ↓vl_ladd, ↓vl_lsub, ↓vl_lmul, ↓vl_lcmp, ↓vl_i2l, ↓vl_dup, ↓vl_dup2, ↓vl_gotoF, ↓vl_gotoB, ↓vl_nnF, ↓vl_ic_eqF, ↓vl_if_eqF, ↓vl_ic_eqB, ↓vl_if_eqB, ↓vl_ic_neF, ↓vl_if_neF, ↓vl_ic_neB, ↓vl_if_neB, ↓vl_ic_ltF, ↓vl_if_ltF, ↓vl_ic_ltB, ↓vl_if_ltB, ↓vl_ic_geF, ↓vl_if_geF, ↓vl_ic_geB, ↓vl_if_geB, ↓vl_ic_gtF, ↓vl_if_gtF, ↓vl_ic_gtB, ↓vl_if_gtB, ↓vl_ic_leF, ↓vl_if_leF, ↓vl_ic_leB, ↓vl_if_leB, ↓vl_sw, ↓vl_get, ↓vl_putI, ↓vl_putL, ↓vl_iald, ↓vl_iast, ↓vl_alen, ↓vl_aald, ↓vl_iretI, ↓vl_iretZ, ↓vl_ret, ↓vl_mark, ↓vl_markT, ↓vl_skip, ↓vl_st0, ↓vl_vi0, ↓vl_st1, ↓vl_vi1, ↓vl_st2, ↓vl_vi2, ↓vl_st3, ↓vl_vi3, ↓vl_st4, ↓vl_vi4, ↓vl_st5, ↓vl_vi5, ↓vl_st6, ↓vl_vi6, ↓vl_min, ↓vl_max, ↓vl_cpy, ↓vk_kvs, ↓vk_kvn, ↓vk_gf0, ↓vk_gv0, ↓vk_gv1, ↓vk_gv2, ↓vk_pf, ↓vk_ar, ↓vk_arr, bc_lay, bc_fn, bc_mk, bc_cs, bc_cat, bc_nl, bc_nth, bc_en, bc_sw, true_and, and_true, ↓reduceIte, reduceCtorEq, Nat.reduceEqDiff, Nat.reduceLeDiff, Nat.reduceAdd, Nat.le_refl, Nat.zero_le, Int.cast_ofNat_Int, Int.reduceEq, eq_self, true_implies, false_implies, not_true_eq_false, not_false_eq_true, bc_vr, Int.reduceToNat, Int.toNat_natCast, Int.reduceLE, Int.reduceLT, Int.reduceNeg, true_or, or_true, forall_const, Int.reduceAdd]
    exact k1 (by omega) (by omega)
  · simp only [↓vl_iconst, ↓vl_bipush, ↓vl_sipush, ↓vl_lconst, ↓vl_ldc, ↓vl_ldcw, ↓vl_ldc2, ↓vl_iload0, ↓vl_aload0, ↓vl_istore0, ↓vl_iinc0, ↓vl_iload1, ↓vl_aload1, ↓vl_istore1, ↓vl_iinc1, ↓vl_iload2, ↓vl_aload2, ↓vl_istore2, ↓vl_iinc2, ↓vl_iload3, ↓vl_aload3, ↓vl_istore3, ↓vl_iinc3, ↓vl_iload4, ↓vl_istore4, ↓vl_iinc4, ↓vl_iload5, ↓vl_istore5, ↓vl_iinc5, ↓vl_iload6, ↓vl_istore6, ↓vl_iinc6, ↓vl_iload7, ↓vl_istore7, ↓vl_iinc7, ↓vl_lload5, ↓vl_lstore5, ↓vl_iadd, ↓vl_isub, ↓vl_imul, ↓vl_iand, ↓vl_ior, ↓vl_ixor, ↓vl_ishl, ↓vl_ishr, ↓vl_iushr, ↓vl_idiv, ↓vl_irem, ↓vl_ladd, ↓vl_lsub, ↓vl_lmul, ↓vl_lcmp, ↓vl_i2l, ↓vl_dup, ↓vl_dup2, ↓vl_gotoF, ↓vl_gotoB, ↓vl_nnF, ↓vl_ic_eqF, ↓vl_if_eqF, ↓vl_ic_eqB, ↓vl_if_eqB, ↓vl_ic_neF, ↓vl_if_neF, ↓vl_ic_neB, ↓vl_if_neB, ↓vl_ic_ltF, ↓vl_if_ltF, ↓vl_ic_ltB, ↓vl_if_ltB, ↓vl_ic_geF, ↓vl_if_geF, ↓vl_ic_geB, ↓vl_if_geB, ↓vl_ic_gtF, ↓vl_if_gtF, ↓vl_ic_gtB, ↓vl_if_gtB, ↓vl_ic_leF, ↓vl_if_leF, ↓vl_ic_leB, ↓vl_if_leB, ↓vl_sw, ↓vl_get, ↓vl_putI, ↓vl_putL, ↓vl_iald, ↓vl_iast, ↓vl_alen, ↓vl_aald, ↓vl_iretI, ↓vl_iretZ, ↓vl_ret, ↓vl_mark, ↓vl_markT, ↓vl_skip, ↓vl_st0, ↓vl_vi0, ↓vl_st1, ↓vl_vi1, ↓vl_st2, ↓vl_vi2, ↓vl_st3, ↓vl_vi3, ↓vl_st4, ↓vl_vi4, ↓vl_st5, ↓vl_vi5, ↓vl_st6, ↓vl_vi6, ↓vl_min, ↓vl_max, ↓vl_cpy, ↓vk_kvs, ↓vk_kvn, ↓vk_gf0, ↓vk_gv0, ↓vk_gv1, ↓vk_gv2, ↓vk_pf, ↓vk_ar, ↓vk_arr, bc_lay, bc_fn, bc_mk, bc_cs, bc_cat, bc_nl, bc_nth, bc_en, bc_sw, true_and, and_true, ↓reduceIte, reduceCtorEq, Nat.reduceEqDiff, Nat.reduceLeDiff, Nat.reduceAdd, Nat.le_refl, Nat.zero_le, Int.cast_ofNat_Int, Int.reduceEq, eq_self, true_implies, false_implies, not_true_eq_false, not_false_eq_true, bc_vr, Int.reduceToNat, Int.toNat_natCast, Int.reduceLE, Int.reduceLT, Int.reduceNeg, true_or, or_true, forall_const, Int.reduceAdd]
    exact k0 (by omega)
theorem c7_its (hM : pd_M 106 D h) {o w : Nat} (ho : o < 24) (hw : w < 9) (k : post (some (.inl (D (7 + 9 * o + w)))) h) : bc_OK (d + 1) 102 [.inr (.inr 104), .inl (o : Int), .inl (w : Int)] h post := by
  refine bc_run (n := 3) ck_X7_its rfl rfl rfl rfl (Nat.le_of_ble_eq_true rfl) ?_
  have e : ((7 : Int) + 9 * (o : Int) + (w : Int)).toNat = 7 + 9 * o + w := by omega
  have m0 := hM (7 + 9 * o + w) (by omega)
  simp only [k_X7_its, ↓vl_iconst, ↓vl_bipush, ↓vl_sipush, ↓vl_lconst, ↓vl_ldc, ↓vl_ldcw, ↓vl_ldc2, ↓vl_iload0, ↓vl_aload0, ↓vl_istore0, ↓vl_iinc0, ↓vl_iload1, ↓vl_aload1, ↓vl_istore1, ↓vl_iinc1, ↓vl_iload2, ↓vl_aload2, ↓vl_istore2, ↓vl_iinc2, ↓vl_iload3, ↓vl_aload3, ↓vl_istore3, ↓vl_iinc3, ↓vl_iload4, ↓vl_istore4, ↓vl_iinc4, ↓vl_iload5, ↓vl_istore5, ↓vl_iinc5, ↓vl_iload6, ↓vl_istore6, ↓vl_iinc6, ↓vl_iload7, ↓vl_istore7, ↓vl_iinc7, ↓vl_lload5, ↓vl_lstore5, ↓vl_iadd, ↓vl_isub, ↓vl_imul, ↓vl_iand, ↓vl_ior, ↓vl_ixor, ↓vl_ishl, ↓vl_ishr, ↓vl_iushr, ↓vl_idiv, ↓vl_irem, ↓vl_ladd, ↓vl_lsub, ↓vl_lmul, ↓vl_lcmp, ↓vl_i2l, ↓vl_dup, ↓vl_dup2, ↓vl_gotoF, ↓vl_gotoB, ↓vl_nnF, ↓vl_ic_eqF, ↓vl_if_eqF, ↓vl_ic_eqB, ↓vl_if_eqB, ↓vl_ic_neF, ↓vl_if_neF, ↓vl_ic_neB, ↓vl_if_neB, ↓vl_ic_ltF, ↓vl_if_ltF, ↓vl_ic_ltB, ↓vl_if_ltB, ↓vl_ic_geF, ↓vl_if_geF, ↓vl_ic_geB, ↓vl_if_geB, ↓vl_ic_gtF, ↓vl_if_gtF, ↓vl_ic_gtB, ↓vl_if_gtB, ↓vl_ic_leF, ↓vl_if_leF, ↓vl_ic_leB, ↓vl_if_leB, ↓vl_sw, ↓vl_get, ↓vl_putI, ↓vl_putL, ↓vl_iald, ↓vl_iast, ↓vl_alen, ↓vl_aald, ↓vl_iretI, ↓vl_iretZ, ↓vl_ret, ↓vl_mark, ↓vl_markT, ↓vl_skip, ↓vl_st0, ↓vl_vi0, ↓vl_st1, ↓vl_vi1, ↓vl_st2, ↓vl_vi2, ↓vl_st3, ↓vl_vi3, ↓vl_st4, ↓vl_vi4, ↓vl_st5, ↓vl_vi5, ↓vl_st6, ↓vl_vi6, ↓vl_min, ↓vl_max, ↓vl_cpy, ↓vk_kvs, ↓vk_kvn, ↓vk_gf0, ↓vk_gv0, ↓vk_gv1, ↓vk_gv2, ↓vk_pf, ↓vk_ar, ↓vk_arr, bc_lay, bc_fn, bc_mk, bc_cs, bc_cat, bc_nl, bc_nth, bc_en, bc_sw, true_and, and_true, ↓reduceIte, reduceCtorEq, Nat.reduceEqDiff, Nat.reduceLeDiff, Nat.reduceAdd, Nat.le_refl, Nat.zero_le, Int.cast_ofNat_Int, Int.reduceEq, eq_self, true_implies, false_implies, not_true_eq_false, not_false_eq_true, bc_vr, Int.reduceToNat, Int.toNat_natCast, Int.reduceLE, Int.reduceLT, Int.reduceNeg, true_or, or_true, forall_const, Int.reduceAdd, e, m0]
  exact ⟨by omega, by omega, k⟩
theorem c7_isOpen (hM : pd_M 106 D h) (hV : pd_V D) {o : Int} (ho : bc_vr o) (k1 : 0 ≤ o → o < D 0 → pd_ob D o.toNat = true → post (some (.inl 1)) h) (k0 : ¬ (0 ≤ o ∧ pd_ob D o.toNat = true) → post (some (.inl 0)) h) : bc_OK (d + 3) 103 [.inr (.inr 104), .inl o] h post := by
  have v0 := hV.1
  refine bc_run (n := 2) ck_X7_isOpen rfl rfl rfl rfl (Nat.le_of_ble_eq_true rfl) ?_
  simp only [k_X7_isOpen, ↓vl_iconst, ↓vl_bipush, ↓vl_sipush, ↓vl_lconst, ↓vl_ldc, ↓vl_ldcw, ↓vl_ldc2, ↓vl_iload0, ↓vl_aload0, ↓vl_istore0, ↓vl_iinc0, ↓vl_iload1, ↓vl_aload1, ↓vl_istore1, ↓vl_iinc1, ↓vl_iload2, ↓vl_aload2, ↓vl_istore2, ↓vl_iinc2, ↓vl_iload3, ↓vl_aload3, ↓vl_istore3, ↓vl_iinc3, ↓vl_iload4, ↓vl_istore4, ↓vl_iinc4, ↓vl_iload5, ↓vl_istore5, ↓vl_iinc5, ↓vl_iload6, ↓vl_istore6, ↓vl_iinc6, ↓vl_iload7, ↓vl_istore7, ↓vl_iinc7, ↓vl_lload5, ↓vl_lstore5, ↓vl_iadd, ↓vl_isub, ↓vl_imul, ↓vl_iand, ↓vl_ior, ↓vl_ixor, ↓vl_ishl, ↓vl_ishr, ↓vl_iushr, ↓vl_idiv, ↓vl_irem, ↓vl_ladd, ↓vl_lsub, ↓vl_lmul, ↓vl_lcmp, ↓vl_i2l, ↓vl_dup, ↓vl_dup2, ↓vl_gotoF, ↓vl_gotoB, ↓vl_nnF, ↓vl_ic_eqF, ↓vl_if_eqF, ↓vl_ic_eqB, ↓vl_if_eqB, ↓vl_ic_neF, ↓vl_if_neF, ↓vl_ic_neB, ↓vl_if_neB, ↓vl_ic_ltF, ↓vl_if_ltF, ↓vl_ic_ltB, ↓vl_if_ltB, ↓vl_ic_geF, ↓vl_if_geF, ↓vl_ic_geB, ↓vl_if_geB, ↓vl_ic_gtF, ↓vl_if_gtF, ↓vl_ic_gtB, ↓vl_if_gtB, ↓vl_ic_leF, ↓vl_if_leF, ↓vl_ic_leB, ↓vl_if_leB, ↓vl_sw, ↓vl_get, ↓vl_putI, ↓vl_putL, ↓vl_iald, ↓vl_iast, ↓vl_alen, ↓vl_aald, ↓vl_iretI, ↓vl_iretZ, ↓vl_ret, ↓vl_mark, ↓vl_markT, ↓vl_skip, ↓vl_st0, ↓vl_vi0, ↓vl_st1, ↓vl_vi1, ↓vl_st2, ↓vl_vi2, ↓vl_st3, ↓vl_vi3, ↓vl_st4, ↓vl_vi4, ↓vl_st5, ↓vl_vi5, ↓vl_st6, ↓vl_vi6, ↓vl_min, ↓vl_max, ↓vl_cpy, ↓vk_kvs, ↓vk_kvn, ↓vk_gf0, ↓vk_gv0, ↓vk_gv1, ↓vk_gv2, ↓vk_pf, ↓vk_ar, ↓vk_arr, bc_lay, bc_fn, bc_mk, bc_cs, bc_cat, bc_nl, bc_nth, bc_en, bc_sw, true_and, and_true, ↓reduceIte, reduceCtorEq, Nat.reduceEqDiff, Nat.reduceLeDiff, Nat.reduceAdd, Nat.le_refl, Nat.zero_le, Int.cast_ofNat_Int, Int.reduceEq, eq_self, true_implies, false_implies, not_true_eq_false, not_false_eq_true, bc_vr, Int.reduceToNat, Int.toNat_natCast, Int.reduceLE, Int.reduceLT, Int.reduceNeg, true_or, or_true, forall_const, Int.reduceAdd]
  refine c7_isOrder hM hV ho (fun h1 h2 => ?_) (fun h1 => ?_)
  · obtain ⟨a, rfl⟩ := Int.eq_ofNat_of_zero_le h1
    obtain ⟨-, -, -, -, -, r5, -⟩ := hV.2.2 a h2
    simp only [Int.toNat_natCast] at k1 k0
    simp only [↓vl_iconst, ↓vl_bipush, ↓vl_sipush, ↓vl_lconst, ↓vl_ldc, ↓vl_ldcw, ↓vl_ldc2, ↓vl_iload0, ↓vl_aload0, ↓vl_istore0, ↓vl_iinc0, ↓vl_iload1, ↓vl_aload1, ↓vl_istore1, ↓vl_iinc1, ↓vl_iload2, ↓vl_aload2, ↓vl_istore2, ↓vl_iinc2, ↓vl_iload3, ↓vl_aload3, ↓vl_istore3, ↓vl_iinc3, ↓vl_iload4, ↓vl_istore4, ↓vl_iinc4, ↓vl_iload5, ↓vl_istore5, ↓vl_iinc5, ↓vl_iload6, ↓vl_istore6, ↓vl_iinc6, ↓vl_iload7, ↓vl_istore7, ↓vl_iinc7, ↓vl_lload5, ↓vl_lstore5, ↓vl_iadd, ↓vl_isub, ↓vl_imul, ↓vl_iand, ↓vl_ior, ↓vl_ixor, ↓vl_ishl, ↓vl_ishr, ↓vl_iushr, ↓vl_idiv, ↓vl_irem, ↓vl_ladd, ↓vl_lsub, ↓vl_lmul, ↓vl_lcmp, ↓vl_i2l, ↓vl_dup, ↓vl_dup2, ↓vl_gotoF, ↓vl_gotoB, ↓vl_nnF, ↓vl_ic_eqF, ↓vl_if_eqF, ↓vl_ic_eqB, ↓vl_if_eqB, ↓vl_ic_neF, ↓vl_if_neF, ↓vl_ic_neB, ↓vl_if_neB, ↓vl_ic_ltF, ↓vl_if_ltF, ↓vl_ic_ltB, ↓vl_if_ltB, ↓vl_ic_geF, ↓vl_if_geF, ↓vl_ic_geB, ↓vl_if_geB, ↓vl_ic_gtF, ↓vl_if_gtF, ↓vl_ic_gtB, ↓vl_if_gtB, ↓vl_ic_leF, ↓vl_if_leF, ↓vl_ic_leB, ↓vl_if_leB, ↓vl_sw, ↓vl_get, ↓vl_putI, ↓vl_putL, ↓vl_iald, ↓vl_iast, ↓vl_alen, ↓vl_aald, ↓vl_iretI, ↓vl_iretZ, ↓vl_ret, ↓vl_mark, ↓vl_markT, ↓vl_skip, ↓vl_st0, ↓vl_vi0, ↓vl_st1, ↓vl_vi1, ↓vl_st2, ↓vl_vi2, ↓vl_st3, ↓vl_vi3, ↓vl_st4, ↓vl_vi4, ↓vl_st5, ↓vl_vi5, ↓vl_st6, ↓vl_vi6, ↓vl_min, ↓vl_max, ↓vl_cpy, ↓vk_kvs, ↓vk_kvn, ↓vk_gf0, ↓vk_gv0, ↓vk_gv1, ↓vk_gv2, ↓vk_pf, ↓vk_ar, ↓vk_arr, bc_lay, bc_fn, bc_mk, bc_cs, bc_cat, bc_nl, bc_nth, bc_en, bc_sw, true_and, and_true, ↓reduceIte, reduceCtorEq, Nat.reduceEqDiff, Nat.reduceLeDiff, Nat.reduceAdd, Nat.le_refl, Nat.zero_le, Int.cast_ofNat_Int, Int.reduceEq, eq_self, true_implies, false_implies, not_true_eq_false, not_false_eq_true, bc_vr, Int.reduceToNat, Int.toNat_natCast, Int.reduceLE, Int.reduceLT, Int.reduceNeg, true_or, or_true, forall_const, Int.reduceAdd]
    refine c7_its hM (w := 5) (by omega) (by omega) ?_
    simp only [↓vl_iconst, ↓vl_bipush, ↓vl_sipush, ↓vl_lconst, ↓vl_ldc, ↓vl_ldcw, ↓vl_ldc2, ↓vl_iload0, ↓vl_aload0, ↓vl_istore0, ↓vl_iinc0, ↓vl_iload1, ↓vl_aload1, ↓vl_istore1, ↓vl_iinc1, ↓vl_iload2, ↓vl_aload2, ↓vl_istore2, ↓vl_iinc2, ↓vl_iload3, ↓vl_aload3, ↓vl_istore3, ↓vl_iinc3, ↓vl_iload4, ↓vl_istore4, ↓vl_iinc4, ↓vl_iload5, ↓vl_istore5, ↓vl_iinc5, ↓vl_iload6, ↓vl_istore6, ↓vl_iinc6, ↓vl_iload7, ↓vl_istore7, ↓vl_iinc7, ↓vl_lload5, ↓vl_lstore5, ↓vl_iadd, ↓vl_isub, ↓vl_imul, ↓vl_iand, ↓vl_ior, ↓vl_ixor, ↓vl_ishl, ↓vl_ishr, ↓vl_iushr, ↓vl_idiv, ↓vl_irem, ↓vl_ladd, ↓vl_lsub, ↓vl_lmul, ↓vl_lcmp, ↓vl_i2l, ↓vl_dup, ↓vl_dup2, ↓vl_gotoF, ↓vl_gotoB, ↓vl_nnF, ↓vl_ic_eqF, ↓vl_if_eqF, ↓vl_ic_eqB, ↓vl_if_eqB, ↓vl_ic_neF, ↓vl_if_neF, ↓vl_ic_neB, ↓vl_if_neB, ↓vl_ic_ltF, ↓vl_if_ltF, ↓vl_ic_ltB, ↓vl_if_ltB, ↓vl_ic_geF, ↓vl_if_geF, ↓vl_ic_geB, ↓vl_if_geB, ↓vl_ic_gtF, ↓vl_if_gtF, ↓vl_ic_gtB, ↓vl_if_gtB, ↓vl_ic_leF, ↓vl_if_leF, ↓vl_ic_leB, ↓vl_if_leB, ↓vl_sw, ↓vl_get, ↓vl_putI, ↓vl_putL, ↓vl_iald, ↓vl_iast, ↓vl_alen, ↓vl_aald, ↓vl_iretI, ↓vl_iretZ, ↓vl_ret, ↓vl_mark, ↓vl_markT, ↓vl_skip, ↓vl_st0, ↓vl_vi0, ↓vl_st1, ↓vl_vi1, ↓vl_st2, ↓vl_vi2, ↓vl_st3, ↓vl_vi3, ↓vl_st4, ↓vl_vi4, ↓vl_st5, ↓vl_vi5, ↓vl_st6, ↓vl_vi6, ↓vl_min, ↓vl_max, ↓vl_cpy, ↓vk_kvs, ↓vk_kvn, ↓vk_gf0, ↓vk_gv0, ↓vk_gv1, ↓vk_gv2, ↓vk_pf, ↓vk_ar, ↓vk_arr, bc_lay, bc_fn, bc_mk, bc_cs, bc_cat, bc_nl, bc_nth, bc_en, bc_sw, true_and, and_true, ↓reduceIte, reduceCtorEq, Nat.reduceEqDiff, Nat.reduceLeDiff, Nat.reduceAdd, Nat.le_refl, Nat.zero_le, Int.cast_ofNat_Int, Int.reduceEq, eq_self, true_implies, false_implies, not_true_eq_false, not_false_eq_true, bc_vr, Int.reduceToNat, Int.toNat_natCast, Int.reduceLE, Int.reduceLT, Int.reduceNeg, true_or, or_true, forall_const, Int.reduceAdd]
    repeat' (first | refine And.intro ?_ ?_ | intro _)
    all_goals first | omega | (refine k1 h1 h2 ?_; rw [pd_ob_iff]; omega) | (refine k0 ?_; rw [pd_ob_iff]; omega)
  · simp only [↓vl_iconst, ↓vl_bipush, ↓vl_sipush, ↓vl_lconst, ↓vl_ldc, ↓vl_ldcw, ↓vl_ldc2, ↓vl_iload0, ↓vl_aload0, ↓vl_istore0, ↓vl_iinc0, ↓vl_iload1, ↓vl_aload1, ↓vl_istore1, ↓vl_iinc1, ↓vl_iload2, ↓vl_aload2, ↓vl_istore2, ↓vl_iinc2, ↓vl_iload3, ↓vl_aload3, ↓vl_istore3, ↓vl_iinc3, ↓vl_iload4, ↓vl_istore4, ↓vl_iinc4, ↓vl_iload5, ↓vl_istore5, ↓vl_iinc5, ↓vl_iload6, ↓vl_istore6, ↓vl_iinc6, ↓vl_iload7, ↓vl_istore7, ↓vl_iinc7, ↓vl_lload5, ↓vl_lstore5, ↓vl_iadd, ↓vl_isub, ↓vl_imul, ↓vl_iand, ↓vl_ior, ↓vl_ixor, ↓vl_ishl, ↓vl_ishr, ↓vl_iushr, ↓vl_idiv, ↓vl_irem, ↓vl_ladd, ↓vl_lsub, ↓vl_lmul, ↓vl_lcmp, ↓vl_i2l, ↓vl_dup, ↓vl_dup2, ↓vl_gotoF, ↓vl_gotoB, ↓vl_nnF, ↓vl_ic_eqF, ↓vl_if_eqF, ↓vl_ic_eqB, ↓vl_if_eqB, ↓vl_ic_neF, ↓vl_if_neF, ↓vl_ic_neB, ↓vl_if_neB, ↓vl_ic_ltF, ↓vl_if_ltF, ↓vl_ic_ltB, ↓vl_if_ltB, ↓vl_ic_geF, ↓vl_if_geF, ↓vl_ic_geB, ↓vl_if_geB, ↓vl_ic_gtF, ↓vl_if_gtF, ↓vl_ic_gtB, ↓vl_if_gtB, ↓vl_ic_leF, ↓vl_if_leF, ↓vl_ic_leB, ↓vl_if_leB, ↓vl_sw, ↓vl_get, ↓vl_putI, ↓vl_putL, ↓vl_iald, ↓vl_iast, ↓vl_alen, ↓vl_aald, ↓vl_iretI, ↓vl_iretZ, ↓vl_ret, ↓vl_mark, ↓vl_markT, ↓vl_skip, ↓vl_st0, ↓vl_vi0, ↓vl_st1, ↓vl_vi1, ↓vl_st2, ↓vl_vi2, ↓vl_st3, ↓vl_vi3, ↓vl_st4, ↓vl_vi4, ↓vl_st5, ↓vl_vi5, ↓vl_st6, ↓vl_vi6, ↓vl_min, ↓vl_max, ↓vl_cpy, ↓vk_kvs, ↓vk_kvn, ↓vk_gf0, ↓vk_gv0, ↓vk_gv1, ↓vk_gv2, ↓vk_pf, ↓vk_ar, ↓vk_arr, bc_lay, bc_fn, bc_mk, bc_cs, bc_cat, bc_nl, bc_nth, bc_en, bc_sw, true_and, and_true, ↓reduceIte, reduceCtorEq, Nat.reduceEqDiff, Nat.reduceLeDiff, Nat.reduceAdd, Nat.le_refl, Nat.zero_le, Int.cast_ofNat_Int, Int.reduceEq, eq_self, true_implies, false_implies, not_true_eq_false, not_false_eq_true, bc_vr, Int.reduceToNat, Int.toNat_natCast, Int.reduceLE, Int.reduceLT, Int.reduceNeg, true_or, or_true, forall_const, Int.reduceAdd]
    refine k0 ?_
    rw [pd_ob_iff]
    omega
theorem c7_isWilling (hM : pd_M 106 D h) (hV : pd_V D) {o m : Int} (ho : bc_vr o) (hm : bc_vr m) (k1 : 0 ≤ o → o < D 0 → pd_wb D m o.toNat = true → post (some (.inl 1)) h) (k0 : ¬ (0 ≤ o ∧ pd_wb D m o.toNat = true) → post (some (.inl 0)) h) : bc_OK (d + 4) 104 [.inr (.inr 104), .inl o, .inl m] h post := by
  have v0 := hV.1
  have hm1 := hm.1
  have hm2 := hm.2
  refine bc_run (n := 3) ck_X7_isWilling rfl rfl rfl rfl (Nat.le_of_ble_eq_true rfl) ?_
  simp only [k_X7_isWilling, ↓vl_iconst, ↓vl_bipush, ↓vl_sipush, ↓vl_lconst, ↓vl_ldc, ↓vl_ldcw, ↓vl_ldc2, ↓vl_iload0, ↓vl_aload0, ↓vl_istore0, ↓vl_iinc0, ↓vl_iload1, ↓vl_aload1, ↓vl_istore1, ↓vl_iinc1, ↓vl_iload2, ↓vl_aload2, ↓vl_istore2, ↓vl_iinc2, ↓vl_iload3, ↓vl_aload3, ↓vl_istore3, ↓vl_iinc3, ↓vl_iload4, ↓vl_istore4, ↓vl_iinc4, ↓vl_iload5, ↓vl_istore5, ↓vl_iinc5, ↓vl_iload6, ↓vl_istore6, ↓vl_iinc6, ↓vl_iload7, ↓vl_istore7, ↓vl_iinc7, ↓vl_lload5, ↓vl_lstore5, ↓vl_iadd, ↓vl_isub, ↓vl_imul, ↓vl_iand, ↓vl_ior, ↓vl_ixor, ↓vl_ishl, ↓vl_ishr, ↓vl_iushr, ↓vl_idiv, ↓vl_irem, ↓vl_ladd, ↓vl_lsub, ↓vl_lmul, ↓vl_lcmp, ↓vl_i2l, ↓vl_dup, ↓vl_dup2, ↓vl_gotoF, ↓vl_gotoB, ↓vl_nnF, ↓vl_ic_eqF, ↓vl_if_eqF, ↓vl_ic_eqB, ↓vl_if_eqB, ↓vl_ic_neF, ↓vl_if_neF, ↓vl_ic_neB, ↓vl_if_neB, ↓vl_ic_ltF, ↓vl_if_ltF, ↓vl_ic_ltB, ↓vl_if_ltB, ↓vl_ic_geF, ↓vl_if_geF, ↓vl_ic_geB, ↓vl_if_geB, ↓vl_ic_gtF, ↓vl_if_gtF, ↓vl_ic_gtB, ↓vl_if_gtB, ↓vl_ic_leF, ↓vl_if_leF, ↓vl_ic_leB, ↓vl_if_leB, ↓vl_sw, ↓vl_get, ↓vl_putI, ↓vl_putL, ↓vl_iald, ↓vl_iast, ↓vl_alen, ↓vl_aald, ↓vl_iretI, ↓vl_iretZ, ↓vl_ret, ↓vl_mark, ↓vl_markT, ↓vl_skip, ↓vl_st0, ↓vl_vi0, ↓vl_st1, ↓vl_vi1, ↓vl_st2, ↓vl_vi2, ↓vl_st3, ↓vl_vi3, ↓vl_st4, ↓vl_vi4, ↓vl_st5, ↓vl_vi5, ↓vl_st6, ↓vl_vi6, ↓vl_min, ↓vl_max, ↓vl_cpy, ↓vk_kvs, ↓vk_kvn, ↓vk_gf0, ↓vk_gv0, ↓vk_gv1, ↓vk_gv2, ↓vk_pf, ↓vk_ar, ↓vk_arr, bc_lay, bc_fn, bc_mk, bc_cs, bc_cat, bc_nl, bc_nth, bc_en, bc_sw, true_and, and_true, ↓reduceIte, reduceCtorEq, Nat.reduceEqDiff, Nat.reduceLeDiff, Nat.reduceAdd, Nat.le_refl, Nat.zero_le, Int.cast_ofNat_Int, Int.reduceEq, eq_self, true_implies, false_implies, not_true_eq_false, not_false_eq_true, bc_vr, Int.reduceToNat, Int.toNat_natCast, Int.reduceLE, Int.reduceLT, Int.reduceNeg, true_or, or_true, forall_const, Int.reduceAdd]
  refine c7_isOpen hM hV ho (fun h1 h2 hob => ?_) (fun h1 => ?_)
  · obtain ⟨a, rfl⟩ := Int.eq_ofNat_of_zero_le h1
    obtain ⟨r0, -, -, r3, -, r5, -⟩ := hV.2.2 a h2
    simp only [Int.toNat_natCast] at k1 k0 hob
    simp only [↓vl_iconst, ↓vl_bipush, ↓vl_sipush, ↓vl_lconst, ↓vl_ldc, ↓vl_ldcw, ↓vl_ldc2, ↓vl_iload0, ↓vl_aload0, ↓vl_istore0, ↓vl_iinc0, ↓vl_iload1, ↓vl_aload1, ↓vl_istore1, ↓vl_iinc1, ↓vl_iload2, ↓vl_aload2, ↓vl_istore2, ↓vl_iinc2, ↓vl_iload3, ↓vl_aload3, ↓vl_istore3, ↓vl_iinc3, ↓vl_iload4, ↓vl_istore4, ↓vl_iinc4, ↓vl_iload5, ↓vl_istore5, ↓vl_iinc5, ↓vl_iload6, ↓vl_istore6, ↓vl_iinc6, ↓vl_iload7, ↓vl_istore7, ↓vl_iinc7, ↓vl_lload5, ↓vl_lstore5, ↓vl_iadd, ↓vl_isub, ↓vl_imul, ↓vl_iand, ↓vl_ior, ↓vl_ixor, ↓vl_ishl, ↓vl_ishr, ↓vl_iushr, ↓vl_idiv, ↓vl_irem, ↓vl_ladd, ↓vl_lsub, ↓vl_lmul, ↓vl_lcmp, ↓vl_i2l, ↓vl_dup, ↓vl_dup2, ↓vl_gotoF, ↓vl_gotoB, ↓vl_nnF, ↓vl_ic_eqF, ↓vl_if_eqF, ↓vl_ic_eqB, ↓vl_if_eqB, ↓vl_ic_neF, ↓vl_if_neF, ↓vl_ic_neB, ↓vl_if_neB, ↓vl_ic_ltF, ↓vl_if_ltF, ↓vl_ic_ltB, ↓vl_if_ltB, ↓vl_ic_geF, ↓vl_if_geF, ↓vl_ic_geB, ↓vl_if_geB, ↓vl_ic_gtF, ↓vl_if_gtF, ↓vl_ic_gtB, ↓vl_if_gtB, ↓vl_ic_leF, ↓vl_if_leF, ↓vl_ic_leB, ↓vl_if_leB, ↓vl_sw, ↓vl_get, ↓vl_putI, ↓vl_putL, ↓vl_iald, ↓vl_iast, ↓vl_alen, ↓vl_aald, ↓vl_iretI, ↓vl_iretZ, ↓vl_ret, ↓vl_mark, ↓vl_markT, ↓vl_skip, ↓vl_st0, ↓vl_vi0, ↓vl_st1, ↓vl_vi1, ↓vl_st2, ↓vl_vi2, ↓vl_st3, ↓vl_vi3, ↓vl_st4, ↓vl_vi4, ↓vl_st5, ↓vl_vi5, ↓vl_st6, ↓vl_vi6, ↓vl_min, ↓vl_max, ↓vl_cpy, ↓vk_kvs, ↓vk_kvn, ↓vk_gf0, ↓vk_gv0, ↓vk_gv1, ↓vk_gv2, ↓vk_pf, ↓vk_ar, ↓vk_arr, bc_lay, bc_fn, bc_mk, bc_cs, bc_cat, bc_nl, bc_nth, bc_en, bc_sw, true_and, and_true, ↓reduceIte, reduceCtorEq, Nat.reduceEqDiff, Nat.reduceLeDiff, Nat.reduceAdd, Nat.le_refl, Nat.zero_le, Int.cast_ofNat_Int, Int.reduceEq, eq_self, true_implies, false_implies, not_true_eq_false, not_false_eq_true, bc_vr, Int.reduceToNat, Int.toNat_natCast, Int.reduceLE, Int.reduceLT, Int.reduceNeg, true_or, or_true, forall_const, Int.reduceAdd]
    refine c7_its hM (w := 0) (by omega) (by omega) ?_
    simp only [↓vl_iconst, ↓vl_bipush, ↓vl_sipush, ↓vl_lconst, ↓vl_ldc, ↓vl_ldcw, ↓vl_ldc2, ↓vl_iload0, ↓vl_aload0, ↓vl_istore0, ↓vl_iinc0, ↓vl_iload1, ↓vl_aload1, ↓vl_istore1, ↓vl_iinc1, ↓vl_iload2, ↓vl_aload2, ↓vl_istore2, ↓vl_iinc2, ↓vl_iload3, ↓vl_aload3, ↓vl_istore3, ↓vl_iinc3, ↓vl_iload4, ↓vl_istore4, ↓vl_iinc4, ↓vl_iload5, ↓vl_istore5, ↓vl_iinc5, ↓vl_iload6, ↓vl_istore6, ↓vl_iinc6, ↓vl_iload7, ↓vl_istore7, ↓vl_iinc7, ↓vl_lload5, ↓vl_lstore5, ↓vl_iadd, ↓vl_isub, ↓vl_imul, ↓vl_iand, ↓vl_ior, ↓vl_ixor, ↓vl_ishl, ↓vl_ishr, ↓vl_iushr, ↓vl_idiv, ↓vl_irem, ↓vl_ladd, ↓vl_lsub, ↓vl_lmul, ↓vl_lcmp, ↓vl_i2l, ↓vl_dup, ↓vl_dup2, ↓vl_gotoF, ↓vl_gotoB, ↓vl_nnF, ↓vl_ic_eqF, ↓vl_if_eqF, ↓vl_ic_eqB, ↓vl_if_eqB, ↓vl_ic_neF, ↓vl_if_neF, ↓vl_ic_neB, ↓vl_if_neB, ↓vl_ic_ltF, ↓vl_if_ltF, ↓vl_ic_ltB, ↓vl_if_ltB, ↓vl_ic_geF, ↓vl_if_geF, ↓vl_ic_geB, ↓vl_if_geB, ↓vl_ic_gtF, ↓vl_if_gtF, ↓vl_ic_gtB, ↓vl_if_gtB, ↓vl_ic_leF, ↓vl_if_leF, ↓vl_ic_leB, ↓vl_if_leB, ↓vl_sw, ↓vl_get, ↓vl_putI, ↓vl_putL, ↓vl_iald, ↓vl_iast, ↓vl_alen, ↓vl_aald, ↓vl_iretI, ↓vl_iretZ, ↓vl_ret, ↓vl_mark, ↓vl_markT, ↓vl_skip, ↓vl_st0, ↓vl_vi0, ↓vl_st1, ↓vl_vi1, ↓vl_st2, ↓vl_vi2, ↓vl_st3, ↓vl_vi3, ↓vl_st4, ↓vl_vi4, ↓vl_st5, ↓vl_vi5, ↓vl_st6, ↓vl_vi6, ↓vl_min, ↓vl_max, ↓vl_cpy, ↓vk_kvs, ↓vk_kvn, ↓vk_gf0, ↓vk_gv0, ↓vk_gv1, ↓vk_gv2, ↓vk_pf, ↓vk_ar, ↓vk_arr, bc_lay, bc_fn, bc_mk, bc_cs, bc_cat, bc_nl, bc_nth, bc_en, bc_sw, true_and, and_true, ↓reduceIte, reduceCtorEq, Nat.reduceEqDiff, Nat.reduceLeDiff, Nat.reduceAdd, Nat.le_refl, Nat.zero_le, Int.cast_ofNat_Int, Int.reduceEq, eq_self, true_implies, false_implies, not_true_eq_false, not_false_eq_true, bc_vr, Int.reduceToNat, Int.toNat_natCast, Int.reduceLE, Int.reduceLT, Int.reduceNeg, true_or, or_true, forall_const, Int.reduceAdd, Nat.add_zero]
    refine ⟨⟨by omega, by omega⟩, fun c => ?_, fun c => ?_⟩
    · refine c7_its hM (w := 3) (by omega) (by omega) ?_
      simp only [↓vl_iconst, ↓vl_bipush, ↓vl_sipush, ↓vl_lconst, ↓vl_ldc, ↓vl_ldcw, ↓vl_ldc2, ↓vl_iload0, ↓vl_aload0, ↓vl_istore0, ↓vl_iinc0, ↓vl_iload1, ↓vl_aload1, ↓vl_istore1, ↓vl_iinc1, ↓vl_iload2, ↓vl_aload2, ↓vl_istore2, ↓vl_iinc2, ↓vl_iload3, ↓vl_aload3, ↓vl_istore3, ↓vl_iinc3, ↓vl_iload4, ↓vl_istore4, ↓vl_iinc4, ↓vl_iload5, ↓vl_istore5, ↓vl_iinc5, ↓vl_iload6, ↓vl_istore6, ↓vl_iinc6, ↓vl_iload7, ↓vl_istore7, ↓vl_iinc7, ↓vl_lload5, ↓vl_lstore5, ↓vl_iadd, ↓vl_isub, ↓vl_imul, ↓vl_iand, ↓vl_ior, ↓vl_ixor, ↓vl_ishl, ↓vl_ishr, ↓vl_iushr, ↓vl_idiv, ↓vl_irem, ↓vl_ladd, ↓vl_lsub, ↓vl_lmul, ↓vl_lcmp, ↓vl_i2l, ↓vl_dup, ↓vl_dup2, ↓vl_gotoF, ↓vl_gotoB, ↓vl_nnF, ↓vl_ic_eqF, ↓vl_if_eqF, ↓vl_ic_eqB, ↓vl_if_eqB, ↓vl_ic_neF, ↓vl_if_neF, ↓vl_ic_neB, ↓vl_if_neB, ↓vl_ic_ltF, ↓vl_if_ltF, ↓vl_ic_ltB, ↓vl_if_ltB, ↓vl_ic_geF, ↓vl_if_geF, ↓vl_ic_geB, ↓vl_if_geB, ↓vl_ic_gtF, ↓vl_if_gtF, ↓vl_ic_gtB, ↓vl_if_gtB, ↓vl_ic_leF, ↓vl_if_leF, ↓vl_ic_leB, ↓vl_if_leB, ↓vl_sw, ↓vl_get, ↓vl_putI, ↓vl_putL, ↓vl_iald, ↓vl_iast, ↓vl_alen, ↓vl_aald, ↓vl_iretI, ↓vl_iretZ, ↓vl_ret, ↓vl_mark, ↓vl_markT, ↓vl_skip, ↓vl_st0, ↓vl_vi0, ↓vl_st1, ↓vl_vi1, ↓vl_st2, ↓vl_vi2, ↓vl_st3, ↓vl_vi3, ↓vl_st4, ↓vl_vi4, ↓vl_st5, ↓vl_vi5, ↓vl_st6, ↓vl_vi6, ↓vl_min, ↓vl_max, ↓vl_cpy, ↓vk_kvs, ↓vk_kvn, ↓vk_gf0, ↓vk_gv0, ↓vk_gv1, ↓vk_gv2, ↓vk_pf, ↓vk_ar, ↓vk_arr, bc_lay, bc_fn, bc_mk, bc_cs, bc_cat, bc_nl, bc_nth, bc_en, bc_sw, true_and, and_true, ↓reduceIte, reduceCtorEq, Nat.reduceEqDiff, Nat.reduceLeDiff, Nat.reduceAdd, Nat.le_refl, Nat.zero_le, Int.cast_ofNat_Int, Int.reduceEq, eq_self, true_implies, false_implies, not_true_eq_false, not_false_eq_true, bc_vr, Int.reduceToNat, Int.toNat_natCast, Int.reduceLE, Int.reduceLT, Int.reduceNeg, true_or, or_true, forall_const, Int.reduceAdd]
      repeat' (first | refine And.intro ?_ ?_ | intro _)
      all_goals first | omega | (refine k1 h1 h2 ?_; rw [pd_wb_iff]; refine ⟨hob, ?_⟩; omega) | (refine k0 ?_; rw [pd_wb_iff]; omega)
    · refine c7_its hM (w := 3) (by omega) (by omega) ?_
      simp only [↓vl_iconst, ↓vl_bipush, ↓vl_sipush, ↓vl_lconst, ↓vl_ldc, ↓vl_ldcw, ↓vl_ldc2, ↓vl_iload0, ↓vl_aload0, ↓vl_istore0, ↓vl_iinc0, ↓vl_iload1, ↓vl_aload1, ↓vl_istore1, ↓vl_iinc1, ↓vl_iload2, ↓vl_aload2, ↓vl_istore2, ↓vl_iinc2, ↓vl_iload3, ↓vl_aload3, ↓vl_istore3, ↓vl_iinc3, ↓vl_iload4, ↓vl_istore4, ↓vl_iinc4, ↓vl_iload5, ↓vl_istore5, ↓vl_iinc5, ↓vl_iload6, ↓vl_istore6, ↓vl_iinc6, ↓vl_iload7, ↓vl_istore7, ↓vl_iinc7, ↓vl_lload5, ↓vl_lstore5, ↓vl_iadd, ↓vl_isub, ↓vl_imul, ↓vl_iand, ↓vl_ior, ↓vl_ixor, ↓vl_ishl, ↓vl_ishr, ↓vl_iushr, ↓vl_idiv, ↓vl_irem, ↓vl_ladd, ↓vl_lsub, ↓vl_lmul, ↓vl_lcmp, ↓vl_i2l, ↓vl_dup, ↓vl_dup2, ↓vl_gotoF, ↓vl_gotoB, ↓vl_nnF, ↓vl_ic_eqF, ↓vl_if_eqF, ↓vl_ic_eqB, ↓vl_if_eqB, ↓vl_ic_neF, ↓vl_if_neF, ↓vl_ic_neB, ↓vl_if_neB, ↓vl_ic_ltF, ↓vl_if_ltF, ↓vl_ic_ltB, ↓vl_if_ltB, ↓vl_ic_geF, ↓vl_if_geF, ↓vl_ic_geB, ↓vl_if_geB, ↓vl_ic_gtF, ↓vl_if_gtF, ↓vl_ic_gtB, ↓vl_if_gtB, ↓vl_ic_leF, ↓vl_if_leF, ↓vl_ic_leB, ↓vl_if_leB, ↓vl_sw, ↓vl_get, ↓vl_putI, ↓vl_putL, ↓vl_iald, ↓vl_iast, ↓vl_alen, ↓vl_aald, ↓vl_iretI, ↓vl_iretZ, ↓vl_ret, ↓vl_mark, ↓vl_markT, ↓vl_skip, ↓vl_st0, ↓vl_vi0, ↓vl_st1, ↓vl_vi1, ↓vl_st2, ↓vl_vi2, ↓vl_st3, ↓vl_vi3, ↓vl_st4, ↓vl_vi4, ↓vl_st5, ↓vl_vi5, ↓vl_st6, ↓vl_vi6, ↓vl_min, ↓vl_max, ↓vl_cpy, ↓vk_kvs, ↓vk_kvn, ↓vk_gf0, ↓vk_gv0, ↓vk_gv1, ↓vk_gv2, ↓vk_pf, ↓vk_ar, ↓vk_arr, bc_lay, bc_fn, bc_mk, bc_cs, bc_cat, bc_nl, bc_nth, bc_en, bc_sw, true_and, and_true, ↓reduceIte, reduceCtorEq, Nat.reduceEqDiff, Nat.reduceLeDiff, Nat.reduceAdd, Nat.le_refl, Nat.zero_le, Int.cast_ofNat_Int, Int.reduceEq, eq_self, true_implies, false_implies, not_true_eq_false, not_false_eq_true, bc_vr, Int.reduceToNat, Int.toNat_natCast, Int.reduceLE, Int.reduceLT, Int.reduceNeg, true_or, or_true, forall_const, Int.reduceAdd]
      repeat' (first | refine And.intro ?_ ?_ | intro _)
      all_goals first | omega | (refine k1 h1 h2 ?_; rw [pd_wb_iff]; refine ⟨hob, ?_⟩; omega) | (refine k0 ?_; rw [pd_wb_iff]; omega)
  · simp only [↓vl_iconst, ↓vl_bipush, ↓vl_sipush, ↓vl_lconst, ↓vl_ldc, ↓vl_ldcw, ↓vl_ldc2, ↓vl_iload0, ↓vl_aload0, ↓vl_istore0, ↓vl_iinc0, ↓vl_iload1, ↓vl_aload1, ↓vl_istore1, ↓vl_iinc1, ↓vl_iload2, ↓vl_aload2, ↓vl_istore2, ↓vl_iinc2, ↓vl_iload3, ↓vl_aload3, ↓vl_istore3, ↓vl_iinc3, ↓vl_iload4, ↓vl_istore4, ↓vl_iinc4, ↓vl_iload5, ↓vl_istore5, ↓vl_iinc5, ↓vl_iload6, ↓vl_istore6, ↓vl_iinc6, ↓vl_iload7, ↓vl_istore7, ↓vl_iinc7, ↓vl_lload5, ↓vl_lstore5, ↓vl_iadd, ↓vl_isub, ↓vl_imul, ↓vl_iand, ↓vl_ior, ↓vl_ixor, ↓vl_ishl, ↓vl_ishr, ↓vl_iushr, ↓vl_idiv, ↓vl_irem, ↓vl_ladd, ↓vl_lsub, ↓vl_lmul, ↓vl_lcmp, ↓vl_i2l, ↓vl_dup, ↓vl_dup2, ↓vl_gotoF, ↓vl_gotoB, ↓vl_nnF, ↓vl_ic_eqF, ↓vl_if_eqF, ↓vl_ic_eqB, ↓vl_if_eqB, ↓vl_ic_neF, ↓vl_if_neF, ↓vl_ic_neB, ↓vl_if_neB, ↓vl_ic_ltF, ↓vl_if_ltF, ↓vl_ic_ltB, ↓vl_if_ltB, ↓vl_ic_geF, ↓vl_if_geF, ↓vl_ic_geB, ↓vl_if_geB, ↓vl_ic_gtF, ↓vl_if_gtF, ↓vl_ic_gtB, ↓vl_if_gtB, ↓vl_ic_leF, ↓vl_if_leF, ↓vl_ic_leB, ↓vl_if_leB, ↓vl_sw, ↓vl_get, ↓vl_putI, ↓vl_putL, ↓vl_iald, ↓vl_iast, ↓vl_alen, ↓vl_aald, ↓vl_iretI, ↓vl_iretZ, ↓vl_ret, ↓vl_mark, ↓vl_markT, ↓vl_skip, ↓vl_st0, ↓vl_vi0, ↓vl_st1, ↓vl_vi1, ↓vl_st2, ↓vl_vi2, ↓vl_st3, ↓vl_vi3, ↓vl_st4, ↓vl_vi4, ↓vl_st5, ↓vl_vi5, ↓vl_st6, ↓vl_vi6, ↓vl_min, ↓vl_max, ↓vl_cpy, ↓vk_kvs, ↓vk_kvn, ↓vk_gf0, ↓vk_gv0, ↓vk_gv1, ↓vk_gv2, ↓vk_pf, ↓vk_ar, ↓vk_arr, bc_lay, bc_fn, bc_mk, bc_cs, bc_cat, bc_nl, bc_nth, bc_en, bc_sw, true_and, and_true, ↓reduceIte, reduceCtorEq, Nat.reduceEqDiff, Nat.reduceLeDiff, Nat.reduceAdd, Nat.le_refl, Nat.zero_le, Int.cast_ofNat_Int, Int.reduceEq, eq_self, true_implies, false_implies, not_true_eq_false, not_false_eq_true, bc_vr, Int.reduceToNat, Int.toNat_natCast, Int.reduceLE, Int.reduceLT, Int.reduceNeg, true_or, or_true, forall_const, Int.reduceAdd]
    refine k0 ?_
    rw [pd_wb_iff]
    exact fun q => h1 ⟨q.1, q.2.1⟩
theorem l7_openSet (hM : pd_M 106 D h) (hV : pd_V D) (k : post (some (.inl (pd_mask (pd_ob D) (D 0).toNat))) h) : ∀ (n i : Nat), (i : Int) + n = D 0 → bc_AT (d + 3) 105 post 4 [some (.inr (.inr 104)), some (.inl (pd_mask (pd_ob D) i)), some (.inl (i : Int))] [] h := by
  have v0 := hV.1
  have m0 := hM 0 (by omega)
  intro n
  induction n with
  | zero =>
    intro i hi
    refine bc_at ck_X7_openSet ?_
    simp only [k_X7_openSet, ↓vl_iconst, ↓vl_bipush, ↓vl_sipush, ↓vl_lconst, ↓vl_ldc, ↓vl_ldcw, ↓vl_ldc2, ↓vl_iload0, ↓vl_aload0, ↓vl_istore0, ↓vl_iinc0, ↓vl_iload1, ↓vl_aload1, ↓vl_istore1, ↓vl_iinc1, ↓vl_iload2, ↓vl_aload2, ↓vl_istore2, ↓vl_iinc2, ↓vl_iload3, ↓vl_aload3, ↓vl_istore3, ↓vl_iinc3, ↓vl_iload4, ↓vl_istore4, ↓vl_iinc4, ↓vl_iload5, ↓vl_istore5, ↓vl_iinc5, ↓vl_iload6, ↓vl_istore6, ↓vl_iinc6, ↓vl_iload7, ↓vl_istore7, ↓vl_iinc7, ↓vl_lload5, ↓vl_lstore5, ↓vl_iadd, ↓vl_isub, ↓vl_imul, ↓vl_iand, ↓vl_ior, ↓vl_ixor, ↓vl_ishl, ↓vl_ishr, ↓vl_iushr, ↓vl_idiv, ↓vl_irem, ↓vl_ladd, ↓vl_lsub, ↓vl_lmul, ↓vl_lcmp, ↓vl_i2l, ↓vl_dup, ↓vl_dup2, ↓vl_gotoF, ↓vl_gotoB, ↓vl_nnF, ↓vl_ic_eqF, ↓vl_if_eqF, ↓vl_ic_eqB, ↓vl_if_eqB, ↓vl_ic_neF, ↓vl_if_neF, ↓vl_ic_neB, ↓vl_if_neB, ↓vl_ic_ltF, ↓vl_if_ltF, ↓vl_ic_ltB, ↓vl_if_ltB, ↓vl_ic_geF, ↓vl_if_geF, ↓vl_ic_geB, ↓vl_if_geB, ↓vl_ic_gtF, ↓vl_if_gtF, ↓vl_ic_gtB, ↓vl_if_gtB, ↓vl_ic_leF, ↓vl_if_leF, ↓vl_ic_leB, ↓vl_if_leB, ↓vl_sw, ↓vl_get, ↓vl_putI, ↓vl_putL, ↓vl_iald, ↓vl_iast, ↓vl_alen, ↓vl_aald, ↓vl_iretI, ↓vl_iretZ, ↓vl_ret, ↓vl_mark, ↓vl_markT, ↓vl_skip, ↓vl_st0, ↓vl_vi0, ↓vl_st1, ↓vl_vi1, ↓vl_st2, ↓vl_vi2, ↓vl_st3, ↓vl_vi3, ↓vl_st4, ↓vl_vi4, ↓vl_st5, ↓vl_vi5, ↓vl_st6, ↓vl_vi6, ↓vl_min, ↓vl_max, ↓vl_cpy, ↓vk_kvs, ↓vk_kvn, ↓vk_gf0, ↓vk_gv0, ↓vk_gv1, ↓vk_gv2, ↓vk_pf, ↓vk_ar, ↓vk_arr, bc_lay, bc_fn, bc_mk, bc_cs, bc_cat, bc_nl, bc_nth, bc_en, bc_sw, true_and, and_true, ↓reduceIte, reduceCtorEq, Nat.reduceEqDiff, Nat.reduceLeDiff, Nat.reduceAdd, Nat.le_refl, Nat.zero_le, Int.cast_ofNat_Int, Int.reduceEq, eq_self, true_implies, false_implies, not_true_eq_false, not_false_eq_true, bc_vr, Int.reduceToNat, Int.toNat_natCast, Int.reduceLE, Int.reduceLT, Int.reduceNeg, true_or, or_true, forall_const, Int.reduceAdd, m0]
    repeat' (first | refine And.intro ?_ ?_ | intro _)
    all_goals first | omega | (have e : i = (D 0).toNat := by omega
                               rw [e]; exact k)
  | succ n ih =>
    intro i hi
    refine bc_at ck_X7_openSet ?_
    simp only [k_X7_openSet, ↓vl_iconst, ↓vl_bipush, ↓vl_sipush, ↓vl_lconst, ↓vl_ldc, ↓vl_ldcw, ↓vl_ldc2, ↓vl_iload0, ↓vl_aload0, ↓vl_istore0, ↓vl_iinc0, ↓vl_iload1, ↓vl_aload1, ↓vl_istore1, ↓vl_iinc1, ↓vl_iload2, ↓vl_aload2, ↓vl_istore2, ↓vl_iinc2, ↓vl_iload3, ↓vl_aload3, ↓vl_istore3, ↓vl_iinc3, ↓vl_iload4, ↓vl_istore4, ↓vl_iinc4, ↓vl_iload5, ↓vl_istore5, ↓vl_iinc5, ↓vl_iload6, ↓vl_istore6, ↓vl_iinc6, ↓vl_iload7, ↓vl_istore7, ↓vl_iinc7, ↓vl_lload5, ↓vl_lstore5, ↓vl_iadd, ↓vl_isub, ↓vl_imul, ↓vl_iand, ↓vl_ior, ↓vl_ixor, ↓vl_ishl, ↓vl_ishr, ↓vl_iushr, ↓vl_idiv, ↓vl_irem, ↓vl_ladd, ↓vl_lsub, ↓vl_lmul, ↓vl_lcmp, ↓vl_i2l, ↓vl_dup, ↓vl_dup2, ↓vl_gotoF, ↓vl_gotoB, ↓vl_nnF, ↓vl_ic_eqF, ↓vl_if_eqF, ↓vl_ic_eqB, ↓vl_if_eqB, ↓vl_ic_neF, ↓vl_if_neF, ↓vl_ic_neB, ↓vl_if_neB, ↓vl_ic_ltF, ↓vl_if_ltF, ↓vl_ic_ltB, ↓vl_if_ltB, ↓vl_ic_geF, ↓vl_if_geF, ↓vl_ic_geB, ↓vl_if_geB, ↓vl_ic_gtF, ↓vl_if_gtF, ↓vl_ic_gtB, ↓vl_if_gtB, ↓vl_ic_leF, ↓vl_if_leF, ↓vl_ic_leB, ↓vl_if_leB, ↓vl_sw, ↓vl_get, ↓vl_putI, ↓vl_putL, ↓vl_iald, ↓vl_iast, ↓vl_alen, ↓vl_aald, ↓vl_iretI, ↓vl_iretZ, ↓vl_ret, ↓vl_mark, ↓vl_markT, ↓vl_skip, ↓vl_st0, ↓vl_vi0, ↓vl_st1, ↓vl_vi1, ↓vl_st2, ↓vl_vi2, ↓vl_st3, ↓vl_vi3, ↓vl_st4, ↓vl_vi4, ↓vl_st5, ↓vl_vi5, ↓vl_st6, ↓vl_vi6, ↓vl_min, ↓vl_max, ↓vl_cpy, ↓vk_kvs, ↓vk_kvn, ↓vk_gf0, ↓vk_gv0, ↓vk_gv1, ↓vk_gv2, ↓vk_pf, ↓vk_ar, ↓vk_arr, bc_lay, bc_fn, bc_mk, bc_cs, bc_cat, bc_nl, bc_nth, bc_en, bc_sw, true_and, and_true, ↓reduceIte, reduceCtorEq, Nat.reduceEqDiff, Nat.reduceLeDiff, Nat.reduceAdd, Nat.le_refl, Nat.zero_le, Int.cast_ofNat_Int, Int.reduceEq, eq_self, true_implies, false_implies, not_true_eq_false, not_false_eq_true, bc_vr, Int.reduceToNat, Int.toNat_natCast, Int.reduceLE, Int.reduceLT, Int.reduceNeg, true_or, or_true, forall_const, Int.reduceAdd, m0]
    refine ⟨⟨by omega, by omega⟩, ⟨by omega, by omega⟩, fun c => absurd c (by omega), fun c => c7_isOpen hM hV ⟨by omega, by omega⟩ (fun h1 h2 hob => ?_) (fun hob => ?_)⟩
    · simp only [↓vl_iconst, ↓vl_bipush, ↓vl_sipush, ↓vl_lconst, ↓vl_ldc, ↓vl_ldcw, ↓vl_ldc2, ↓vl_iload0, ↓vl_aload0, ↓vl_istore0, ↓vl_iinc0, ↓vl_iload1, ↓vl_aload1, ↓vl_istore1, ↓vl_iinc1, ↓vl_iload2, ↓vl_aload2, ↓vl_istore2, ↓vl_iinc2, ↓vl_iload3, ↓vl_aload3, ↓vl_istore3, ↓vl_iinc3, ↓vl_iload4, ↓vl_istore4, ↓vl_iinc4, ↓vl_iload5, ↓vl_istore5, ↓vl_iinc5, ↓vl_iload6, ↓vl_istore6, ↓vl_iinc6, ↓vl_iload7, ↓vl_istore7, ↓vl_iinc7, ↓vl_lload5, ↓vl_lstore5, ↓vl_iadd, ↓vl_isub, ↓vl_imul, ↓vl_iand, ↓vl_ior, ↓vl_ixor, ↓vl_ishl, ↓vl_ishr, ↓vl_iushr, ↓vl_idiv, ↓vl_irem, ↓vl_ladd, ↓vl_lsub, ↓vl_lmul, ↓vl_lcmp, ↓vl_i2l, ↓vl_dup, ↓vl_dup2, ↓vl_gotoF, ↓vl_gotoB, ↓vl_nnF, ↓vl_ic_eqF, ↓vl_if_eqF, ↓vl_ic_eqB, ↓vl_if_eqB, ↓vl_ic_neF, ↓vl_if_neF, ↓vl_ic_neB, ↓vl_if_neB, ↓vl_ic_ltF, ↓vl_if_ltF, ↓vl_ic_ltB, ↓vl_if_ltB, ↓vl_ic_geF, ↓vl_if_geF, ↓vl_ic_geB, ↓vl_if_geB, ↓vl_ic_gtF, ↓vl_if_gtF, ↓vl_ic_gtB, ↓vl_if_gtB, ↓vl_ic_leF, ↓vl_if_leF, ↓vl_ic_leB, ↓vl_if_leB, ↓vl_sw, ↓vl_get, ↓vl_putI, ↓vl_putL, ↓vl_iald, ↓vl_iast, ↓vl_alen, ↓vl_aald, ↓vl_iretI, ↓vl_iretZ, ↓vl_ret, ↓vl_mark, ↓vl_markT, ↓vl_skip, ↓vl_st0, ↓vl_vi0, ↓vl_st1, ↓vl_vi1, ↓vl_st2, ↓vl_vi2, ↓vl_st3, ↓vl_vi3, ↓vl_st4, ↓vl_vi4, ↓vl_st5, ↓vl_vi5, ↓vl_st6, ↓vl_vi6, ↓vl_min, ↓vl_max, ↓vl_cpy, ↓vk_kvs, ↓vk_kvn, ↓vk_gf0, ↓vk_gv0, ↓vk_gv1, ↓vk_gv2, ↓vk_pf, ↓vk_ar, ↓vk_arr, bc_lay, bc_fn, bc_mk, bc_cs, bc_cat, bc_nl, bc_nth, bc_en, bc_sw, true_and, and_true, ↓reduceIte, reduceCtorEq, Nat.reduceEqDiff, Nat.reduceLeDiff, Nat.reduceAdd, Nat.le_refl, Nat.zero_le, Int.cast_ofNat_Int, Int.reduceEq, eq_self, true_implies, false_implies, not_true_eq_false, not_false_eq_true, bc_vr, Int.reduceToNat, Int.toNat_natCast, Int.reduceLE, Int.reduceLT, Int.reduceNeg, true_or, or_true, forall_const, Int.reduceAdd]
      have e : pd_mask (pd_ob D) (i + 1) = bc_or (pd_mask (pd_ob D) i) (bc_shl 1 i) := by
        rw [pd_mask, if_pos (by simpa using hob)]
      have := ih (i + 1) (by omega)
      rw [e] at this
      exact this
    · simp only [↓vl_iconst, ↓vl_bipush, ↓vl_sipush, ↓vl_lconst, ↓vl_ldc, ↓vl_ldcw, ↓vl_ldc2, ↓vl_iload0, ↓vl_aload0, ↓vl_istore0, ↓vl_iinc0, ↓vl_iload1, ↓vl_aload1, ↓vl_istore1, ↓vl_iinc1, ↓vl_iload2, ↓vl_aload2, ↓vl_istore2, ↓vl_iinc2, ↓vl_iload3, ↓vl_aload3, ↓vl_istore3, ↓vl_iinc3, ↓vl_iload4, ↓vl_istore4, ↓vl_iinc4, ↓vl_iload5, ↓vl_istore5, ↓vl_iinc5, ↓vl_iload6, ↓vl_istore6, ↓vl_iinc6, ↓vl_iload7, ↓vl_istore7, ↓vl_iinc7, ↓vl_lload5, ↓vl_lstore5, ↓vl_iadd, ↓vl_isub, ↓vl_imul, ↓vl_iand, ↓vl_ior, ↓vl_ixor, ↓vl_ishl, ↓vl_ishr, ↓vl_iushr, ↓vl_idiv, ↓vl_irem, ↓vl_ladd, ↓vl_lsub, ↓vl_lmul, ↓vl_lcmp, ↓vl_i2l, ↓vl_dup, ↓vl_dup2, ↓vl_gotoF, ↓vl_gotoB, ↓vl_nnF, ↓vl_ic_eqF, ↓vl_if_eqF, ↓vl_ic_eqB, ↓vl_if_eqB, ↓vl_ic_neF, ↓vl_if_neF, ↓vl_ic_neB, ↓vl_if_neB, ↓vl_ic_ltF, ↓vl_if_ltF, ↓vl_ic_ltB, ↓vl_if_ltB, ↓vl_ic_geF, ↓vl_if_geF, ↓vl_ic_geB, ↓vl_if_geB, ↓vl_ic_gtF, ↓vl_if_gtF, ↓vl_ic_gtB, ↓vl_if_gtB, ↓vl_ic_leF, ↓vl_if_leF, ↓vl_ic_leB, ↓vl_if_leB, ↓vl_sw, ↓vl_get, ↓vl_putI, ↓vl_putL, ↓vl_iald, ↓vl_iast, ↓vl_alen, ↓vl_aald, ↓vl_iretI, ↓vl_iretZ, ↓vl_ret, ↓vl_mark, ↓vl_markT, ↓vl_skip, ↓vl_st0, ↓vl_vi0, ↓vl_st1, ↓vl_vi1, ↓vl_st2, ↓vl_vi2, ↓vl_st3, ↓vl_vi3, ↓vl_st4, ↓vl_vi4, ↓vl_st5, ↓vl_vi5, ↓vl_st6, ↓vl_vi6, ↓vl_min, ↓vl_max, ↓vl_cpy, ↓vk_kvs, ↓vk_kvn, ↓vk_gf0, ↓vk_gv0, ↓vk_gv1, ↓vk_gv2, ↓vk_pf, ↓vk_ar, ↓vk_arr, bc_lay, bc_fn, bc_mk, bc_cs, bc_cat, bc_nl, bc_nth, bc_en, bc_sw, true_and, and_true, ↓reduceIte, reduceCtorEq, Nat.reduceEqDiff, Nat.reduceLeDiff, Nat.reduceAdd, Nat.le_refl, Nat.zero_le, Int.cast_ofNat_Int, Int.reduceEq, eq_self, true_implies, false_implies, not_true_eq_false, not_false_eq_true, bc_vr, Int.reduceToNat, Int.toNat_natCast, Int.reduceLE, Int.reduceLT, Int.reduceNeg, true_or, or_true, forall_const, Int.reduceAdd]
      have e : pd_mask (pd_ob D) (i + 1) = pd_mask (pd_ob D) i := by
        rw [pd_mask, if_neg (by intro q; exact hob ⟨by omega, by simpa using q⟩)]
      have := ih (i + 1) (by omega)
      rw [e] at this
      exact this
theorem c7_openSet (hM : pd_M 106 D h) (hV : pd_V D) (k : post (some (.inl (pd_mask (pd_ob D) (D 0).toNat))) h) : bc_OK (d + 4) 105 [.inr (.inr 104)] h post := by
  have v0 := hV.1
  refine bc_run (n := 3) ck_X7_openSet rfl rfl rfl rfl (Nat.le_of_ble_eq_true rfl) ?_
  simp only [k_X7_openSet, ↓vl_iconst, ↓vl_bipush, ↓vl_sipush, ↓vl_lconst, ↓vl_ldc, ↓vl_ldcw, ↓vl_ldc2, ↓vl_iload0, ↓vl_aload0, ↓vl_istore0, ↓vl_iinc0, ↓vl_iload1, ↓vl_aload1, ↓vl_istore1, ↓vl_iinc1, ↓vl_iload2, ↓vl_aload2, ↓vl_istore2, ↓vl_iinc2, ↓vl_iload3, ↓vl_aload3, ↓vl_istore3, ↓vl_iinc3, ↓vl_iload4, ↓vl_istore4, ↓vl_iinc4, ↓vl_iload5, ↓vl_istore5, ↓vl_iinc5, ↓vl_iload6, ↓vl_istore6, ↓vl_iinc6, ↓vl_iload7, ↓vl_istore7, ↓vl_iinc7, ↓vl_lload5, ↓vl_lstore5, ↓vl_iadd, ↓vl_isub, ↓vl_imul, ↓vl_iand, ↓vl_ior, ↓vl_ixor, ↓vl_ishl, ↓vl_ishr, ↓vl_iushr, ↓vl_idiv, ↓vl_irem, ↓vl_ladd, ↓vl_lsub, ↓vl_lmul, ↓vl_lcmp, ↓vl_i2l, ↓vl_dup, ↓vl_dup2, ↓vl_gotoF, ↓vl_gotoB, ↓vl_nnF, ↓vl_ic_eqF, ↓vl_if_eqF, ↓vl_ic_eqB, ↓vl_if_eqB, ↓vl_ic_neF, ↓vl_if_neF, ↓vl_ic_neB, ↓vl_if_neB, ↓vl_ic_ltF, ↓vl_if_ltF, ↓vl_ic_ltB, ↓vl_if_ltB, ↓vl_ic_geF, ↓vl_if_geF, ↓vl_ic_geB, ↓vl_if_geB, ↓vl_ic_gtF, ↓vl_if_gtF, ↓vl_ic_gtB, ↓vl_if_gtB, ↓vl_ic_leF, ↓vl_if_leF, ↓vl_ic_leB, ↓vl_if_leB, ↓vl_sw, ↓vl_get, ↓vl_putI, ↓vl_putL, ↓vl_iald, ↓vl_iast, ↓vl_alen, ↓vl_aald, ↓vl_iretI, ↓vl_iretZ, ↓vl_ret, ↓vl_mark, ↓vl_markT, ↓vl_skip, ↓vl_st0, ↓vl_vi0, ↓vl_st1, ↓vl_vi1, ↓vl_st2, ↓vl_vi2, ↓vl_st3, ↓vl_vi3, ↓vl_st4, ↓vl_vi4, ↓vl_st5, ↓vl_vi5, ↓vl_st6, ↓vl_vi6, ↓vl_min, ↓vl_max, ↓vl_cpy, ↓vk_kvs, ↓vk_kvn, ↓vk_gf0, ↓vk_gv0, ↓vk_gv1, ↓vk_gv2, ↓vk_pf, ↓vk_ar, ↓vk_arr, bc_lay, bc_fn, bc_mk, bc_cs, bc_cat, bc_nl, bc_nth, bc_en, bc_sw, true_and, and_true, ↓reduceIte, reduceCtorEq, Nat.reduceEqDiff, Nat.reduceLeDiff, Nat.reduceAdd, Nat.le_refl, Nat.zero_le, Int.cast_ofNat_Int, Int.reduceEq, eq_self, true_implies, false_implies, not_true_eq_false, not_false_eq_true, bc_vr, Int.reduceToNat, Int.toNat_natCast, Int.reduceLE, Int.reduceLT, Int.reduceNeg, true_or, or_true, forall_const, Int.reduceAdd]
  exact l7_openSet hM hV k (D 0).toNat 0 (by omega)
theorem c7_isAhead (hM : pd_M 106 D h) (hV : pd_V D) {a b : Nat} (ha : (a : Int) < D 0) (hb : (b : Int) < D 0) (k1 : pd_ah D a b = true → post (some (.inl 1)) h) (k0 : ¬ pd_ah D a b = true → post (some (.inl 0)) h) : bc_OK (d + 2) 108 [.inr (.inr 104), .inl (a : Int), .inl (b : Int)] h post := by
  have v0 := hV.1
  obtain ⟨-, r1, -⟩ := hV.2.2 a ha
  obtain ⟨-, r2, -⟩ := hV.2.2 b hb
  refine bc_run (n := 3) ck_X7_isAhead rfl rfl rfl rfl (Nat.le_of_ble_eq_true rfl) ?_
  simp only [k_X7_isAhead, ↓vl_iconst, ↓vl_bipush, ↓vl_sipush, ↓vl_lconst, ↓vl_ldc, ↓vl_ldcw, ↓vl_ldc2, ↓vl_iload0, ↓vl_aload0, ↓vl_istore0, ↓vl_iinc0, ↓vl_iload1, ↓vl_aload1, ↓vl_istore1, ↓vl_iinc1, ↓vl_iload2, ↓vl_aload2, ↓vl_istore2, ↓vl_iinc2, ↓vl_iload3, ↓vl_aload3, ↓vl_istore3, ↓vl_iinc3, ↓vl_iload4, ↓vl_istore4, ↓vl_iinc4, ↓vl_iload5, ↓vl_istore5, ↓vl_iinc5, ↓vl_iload6, ↓vl_istore6, ↓vl_iinc6, ↓vl_iload7, ↓vl_istore7, ↓vl_iinc7, ↓vl_lload5, ↓vl_lstore5, ↓vl_iadd, ↓vl_isub, ↓vl_imul, ↓vl_iand, ↓vl_ior, ↓vl_ixor, ↓vl_ishl, ↓vl_ishr, ↓vl_iushr, ↓vl_idiv, ↓vl_irem, ↓vl_ladd, ↓vl_lsub, ↓vl_lmul, ↓vl_lcmp, ↓vl_i2l, ↓vl_dup, ↓vl_dup2, ↓vl_gotoF, ↓vl_gotoB, ↓vl_nnF, ↓vl_ic_eqF, ↓vl_if_eqF, ↓vl_ic_eqB, ↓vl_if_eqB, ↓vl_ic_neF, ↓vl_if_neF, ↓vl_ic_neB, ↓vl_if_neB, ↓vl_ic_ltF, ↓vl_if_ltF, ↓vl_ic_ltB, ↓vl_if_ltB, ↓vl_ic_geF, ↓vl_if_geF, ↓vl_ic_geB, ↓vl_if_geB, ↓vl_ic_gtF, ↓vl_if_gtF, ↓vl_ic_gtB, ↓vl_if_gtB, ↓vl_ic_leF, ↓vl_if_leF, ↓vl_ic_leB, ↓vl_if_leB, ↓vl_sw, ↓vl_get, ↓vl_putI, ↓vl_putL, ↓vl_iald, ↓vl_iast, ↓vl_alen, ↓vl_aald, ↓vl_iretI, ↓vl_iretZ, ↓vl_ret, ↓vl_mark, ↓vl_markT, ↓vl_skip, ↓vl_st0, ↓vl_vi0, ↓vl_st1, ↓vl_vi1, ↓vl_st2, ↓vl_vi2, ↓vl_st3, ↓vl_vi3, ↓vl_st4, ↓vl_vi4, ↓vl_st5, ↓vl_vi5, ↓vl_st6, ↓vl_vi6, ↓vl_min, ↓vl_max, ↓vl_cpy, ↓vk_kvs, ↓vk_kvn, ↓vk_gf0, ↓vk_gv0, ↓vk_gv1, ↓vk_gv2, ↓vk_pf, ↓vk_ar, ↓vk_arr, bc_lay, bc_fn, bc_mk, bc_cs, bc_cat, bc_nl, bc_nth, bc_en, bc_sw, true_and, and_true, ↓reduceIte, reduceCtorEq, Nat.reduceEqDiff, Nat.reduceLeDiff, Nat.reduceAdd, Nat.le_refl, Nat.zero_le, Int.cast_ofNat_Int, Int.reduceEq, eq_self, true_implies, false_implies, not_true_eq_false, not_false_eq_true, bc_vr, Int.reduceToNat, Int.toNat_natCast, Int.reduceLE, Int.reduceLT, Int.reduceNeg, true_or, or_true, forall_const, Int.reduceAdd]
  refine c7_its hM (w := 1) (by omega) (by omega) ?_
  simp only [↓vl_iconst, ↓vl_bipush, ↓vl_sipush, ↓vl_lconst, ↓vl_ldc, ↓vl_ldcw, ↓vl_ldc2, ↓vl_iload0, ↓vl_aload0, ↓vl_istore0, ↓vl_iinc0, ↓vl_iload1, ↓vl_aload1, ↓vl_istore1, ↓vl_iinc1, ↓vl_iload2, ↓vl_aload2, ↓vl_istore2, ↓vl_iinc2, ↓vl_iload3, ↓vl_aload3, ↓vl_istore3, ↓vl_iinc3, ↓vl_iload4, ↓vl_istore4, ↓vl_iinc4, ↓vl_iload5, ↓vl_istore5, ↓vl_iinc5, ↓vl_iload6, ↓vl_istore6, ↓vl_iinc6, ↓vl_iload7, ↓vl_istore7, ↓vl_iinc7, ↓vl_lload5, ↓vl_lstore5, ↓vl_iadd, ↓vl_isub, ↓vl_imul, ↓vl_iand, ↓vl_ior, ↓vl_ixor, ↓vl_ishl, ↓vl_ishr, ↓vl_iushr, ↓vl_idiv, ↓vl_irem, ↓vl_ladd, ↓vl_lsub, ↓vl_lmul, ↓vl_lcmp, ↓vl_i2l, ↓vl_dup, ↓vl_dup2, ↓vl_gotoF, ↓vl_gotoB, ↓vl_nnF, ↓vl_ic_eqF, ↓vl_if_eqF, ↓vl_ic_eqB, ↓vl_if_eqB, ↓vl_ic_neF, ↓vl_if_neF, ↓vl_ic_neB, ↓vl_if_neB, ↓vl_ic_ltF, ↓vl_if_ltF, ↓vl_ic_ltB, ↓vl_if_ltB, ↓vl_ic_geF, ↓vl_if_geF, ↓vl_ic_geB, ↓vl_if_geB, ↓vl_ic_gtF, ↓vl_if_gtF, ↓vl_ic_gtB, ↓vl_if_gtB, ↓vl_ic_leF, ↓vl_if_leF, ↓vl_ic_leB, ↓vl_if_leB, ↓vl_sw, ↓vl_get, ↓vl_putI, ↓vl_putL, ↓vl_iald, ↓vl_iast, ↓vl_alen, ↓vl_aald, ↓vl_iretI, ↓vl_iretZ, ↓vl_ret, ↓vl_mark, ↓vl_markT, ↓vl_skip, ↓vl_st0, ↓vl_vi0, ↓vl_st1, ↓vl_vi1, ↓vl_st2, ↓vl_vi2, ↓vl_st3, ↓vl_vi3, ↓vl_st4, ↓vl_vi4, ↓vl_st5, ↓vl_vi5, ↓vl_st6, ↓vl_vi6, ↓vl_min, ↓vl_max, ↓vl_cpy, ↓vk_kvs, ↓vk_kvn, ↓vk_gf0, ↓vk_gv0, ↓vk_gv1, ↓vk_gv2, ↓vk_pf, ↓vk_ar, ↓vk_arr, bc_lay, bc_fn, bc_mk, bc_cs, bc_cat, bc_nl, bc_nth, bc_en, bc_sw, true_and, and_true, ↓reduceIte, reduceCtorEq, Nat.reduceEqDiff, Nat.reduceLeDiff, Nat.reduceAdd, Nat.le_refl, Nat.zero_le, Int.cast_ofNat_Int, Int.reduceEq, eq_self, true_implies, false_implies, not_true_eq_false, not_false_eq_true, bc_vr, Int.reduceToNat, Int.toNat_natCast, Int.reduceLE, Int.reduceLT, Int.reduceNeg, true_or, or_true, forall_const, Int.reduceAdd]
  refine c7_its hM (w := 1) (by omega) (by omega) ?_
  simp only [↓vl_iconst, ↓vl_bipush, ↓vl_sipush, ↓vl_lconst, ↓vl_ldc, ↓vl_ldcw, ↓vl_ldc2, ↓vl_iload0, ↓vl_aload0, ↓vl_istore0, ↓vl_iinc0, ↓vl_iload1, ↓vl_aload1, ↓vl_istore1, ↓vl_iinc1, ↓vl_iload2, ↓vl_aload2, ↓vl_istore2, ↓vl_iinc2, ↓vl_iload3, ↓vl_aload3, ↓vl_istore3, ↓vl_iinc3, ↓vl_iload4, ↓vl_istore4, ↓vl_iinc4, ↓vl_iload5, ↓vl_istore5, ↓vl_iinc5, ↓vl_iload6, ↓vl_istore6, ↓vl_iinc6, ↓vl_iload7, ↓vl_istore7, ↓vl_iinc7, ↓vl_lload5, ↓vl_lstore5, ↓vl_iadd, ↓vl_isub, ↓vl_imul, ↓vl_iand, ↓vl_ior, ↓vl_ixor, ↓vl_ishl, ↓vl_ishr, ↓vl_iushr, ↓vl_idiv, ↓vl_irem, ↓vl_ladd, ↓vl_lsub, ↓vl_lmul, ↓vl_lcmp, ↓vl_i2l, ↓vl_dup, ↓vl_dup2, ↓vl_gotoF, ↓vl_gotoB, ↓vl_nnF, ↓vl_ic_eqF, ↓vl_if_eqF, ↓vl_ic_eqB, ↓vl_if_eqB, ↓vl_ic_neF, ↓vl_if_neF, ↓vl_ic_neB, ↓vl_if_neB, ↓vl_ic_ltF, ↓vl_if_ltF, ↓vl_ic_ltB, ↓vl_if_ltB, ↓vl_ic_geF, ↓vl_if_geF, ↓vl_ic_geB, ↓vl_if_geB, ↓vl_ic_gtF, ↓vl_if_gtF, ↓vl_ic_gtB, ↓vl_if_gtB, ↓vl_ic_leF, ↓vl_if_leF, ↓vl_ic_leB, ↓vl_if_leB, ↓vl_sw, ↓vl_get, ↓vl_putI, ↓vl_putL, ↓vl_iald, ↓vl_iast, ↓vl_alen, ↓vl_aald, ↓vl_iretI, ↓vl_iretZ, ↓vl_ret, ↓vl_mark, ↓vl_markT, ↓vl_skip, ↓vl_st0, ↓vl_vi0, ↓vl_st1, ↓vl_vi1, ↓vl_st2, ↓vl_vi2, ↓vl_st3, ↓vl_vi3, ↓vl_st4, ↓vl_vi4, ↓vl_st5, ↓vl_vi5, ↓vl_st6, ↓vl_vi6, ↓vl_min, ↓vl_max, ↓vl_cpy, ↓vk_kvs, ↓vk_kvn, ↓vk_gf0, ↓vk_gv0, ↓vk_gv1, ↓vk_gv2, ↓vk_pf, ↓vk_ar, ↓vk_arr, bc_lay, bc_fn, bc_mk, bc_cs, bc_cat, bc_nl, bc_nth, bc_en, bc_sw, true_and, and_true, ↓reduceIte, reduceCtorEq, Nat.reduceEqDiff, Nat.reduceLeDiff, Nat.reduceAdd, Nat.le_refl, Nat.zero_le, Int.cast_ofNat_Int, Int.reduceEq, eq_self, true_implies, false_implies, not_true_eq_false, not_false_eq_true, bc_vr, Int.reduceToNat, Int.toNat_natCast, Int.reduceLE, Int.reduceLT, Int.reduceNeg, true_or, or_true, forall_const, Int.reduceAdd]
  refine ⟨⟨by omega, by omega⟩, ⟨by omega, by omega⟩, fun c => ?_, fun c => ?_⟩
  · refine ⟨⟨by omega, by omega⟩, ⟨by omega, by omega⟩, fun c2 => k0 ?_, fun c2 => k1 ?_⟩
    · rw [pd_ah_iff]; unfold pd_sz; omega
    · rw [pd_ah_iff]; unfold pd_sz; omega
  · refine c7_its hM (w := 1) (by omega) (by omega) ?_
    simp only [↓vl_iconst, ↓vl_bipush, ↓vl_sipush, ↓vl_lconst, ↓vl_ldc, ↓vl_ldcw, ↓vl_ldc2, ↓vl_iload0, ↓vl_aload0, ↓vl_istore0, ↓vl_iinc0, ↓vl_iload1, ↓vl_aload1, ↓vl_istore1, ↓vl_iinc1, ↓vl_iload2, ↓vl_aload2, ↓vl_istore2, ↓vl_iinc2, ↓vl_iload3, ↓vl_aload3, ↓vl_istore3, ↓vl_iinc3, ↓vl_iload4, ↓vl_istore4, ↓vl_iinc4, ↓vl_iload5, ↓vl_istore5, ↓vl_iinc5, ↓vl_iload6, ↓vl_istore6, ↓vl_iinc6, ↓vl_iload7, ↓vl_istore7, ↓vl_iinc7, ↓vl_lload5, ↓vl_lstore5, ↓vl_iadd, ↓vl_isub, ↓vl_imul, ↓vl_iand, ↓vl_ior, ↓vl_ixor, ↓vl_ishl, ↓vl_ishr, ↓vl_iushr, ↓vl_idiv, ↓vl_irem, ↓vl_ladd, ↓vl_lsub, ↓vl_lmul, ↓vl_lcmp, ↓vl_i2l, ↓vl_dup, ↓vl_dup2, ↓vl_gotoF, ↓vl_gotoB, ↓vl_nnF, ↓vl_ic_eqF, ↓vl_if_eqF, ↓vl_ic_eqB, ↓vl_if_eqB, ↓vl_ic_neF, ↓vl_if_neF, ↓vl_ic_neB, ↓vl_if_neB, ↓vl_ic_ltF, ↓vl_if_ltF, ↓vl_ic_ltB, ↓vl_if_ltB, ↓vl_ic_geF, ↓vl_if_geF, ↓vl_ic_geB, ↓vl_if_geB, ↓vl_ic_gtF, ↓vl_if_gtF, ↓vl_ic_gtB, ↓vl_if_gtB, ↓vl_ic_leF, ↓vl_if_leF, ↓vl_ic_leB, ↓vl_if_leB, ↓vl_sw, ↓vl_get, ↓vl_putI, ↓vl_putL, ↓vl_iald, ↓vl_iast, ↓vl_alen, ↓vl_aald, ↓vl_iretI, ↓vl_iretZ, ↓vl_ret, ↓vl_mark, ↓vl_markT, ↓vl_skip, ↓vl_st0, ↓vl_vi0, ↓vl_st1, ↓vl_vi1, ↓vl_st2, ↓vl_vi2, ↓vl_st3, ↓vl_vi3, ↓vl_st4, ↓vl_vi4, ↓vl_st5, ↓vl_vi5, ↓vl_st6, ↓vl_vi6, ↓vl_min, ↓vl_max, ↓vl_cpy, ↓vk_kvs, ↓vk_kvn, ↓vk_gf0, ↓vk_gv0, ↓vk_gv1, ↓vk_gv2, ↓vk_pf, ↓vk_ar, ↓vk_arr, bc_lay, bc_fn, bc_mk, bc_cs, bc_cat, bc_nl, bc_nth, bc_en, bc_sw, true_and, and_true, ↓reduceIte, reduceCtorEq, Nat.reduceEqDiff, Nat.reduceLeDiff, Nat.reduceAdd, Nat.le_refl, Nat.zero_le, Int.cast_ofNat_Int, Int.reduceEq, eq_self, true_implies, false_implies, not_true_eq_false, not_false_eq_true, bc_vr, Int.reduceToNat, Int.toNat_natCast, Int.reduceLE, Int.reduceLT, Int.reduceNeg, true_or, or_true, forall_const, Int.reduceAdd]
    refine c7_its hM (w := 1) (by omega) (by omega) ?_
    simp only [↓vl_iconst, ↓vl_bipush, ↓vl_sipush, ↓vl_lconst, ↓vl_ldc, ↓vl_ldcw, ↓vl_ldc2, ↓vl_iload0, ↓vl_aload0, ↓vl_istore0, ↓vl_iinc0, ↓vl_iload1, ↓vl_aload1, ↓vl_istore1, ↓vl_iinc1, ↓vl_iload2, ↓vl_aload2, ↓vl_istore2, ↓vl_iinc2, ↓vl_iload3, ↓vl_aload3, ↓vl_istore3, ↓vl_iinc3, ↓vl_iload4, ↓vl_istore4, ↓vl_iinc4, ↓vl_iload5, ↓vl_istore5, ↓vl_iinc5, ↓vl_iload6, ↓vl_istore6, ↓vl_iinc6, ↓vl_iload7, ↓vl_istore7, ↓vl_iinc7, ↓vl_lload5, ↓vl_lstore5, ↓vl_iadd, ↓vl_isub, ↓vl_imul, ↓vl_iand, ↓vl_ior, ↓vl_ixor, ↓vl_ishl, ↓vl_ishr, ↓vl_iushr, ↓vl_idiv, ↓vl_irem, ↓vl_ladd, ↓vl_lsub, ↓vl_lmul, ↓vl_lcmp, ↓vl_i2l, ↓vl_dup, ↓vl_dup2, ↓vl_gotoF, ↓vl_gotoB, ↓vl_nnF, ↓vl_ic_eqF, ↓vl_if_eqF, ↓vl_ic_eqB, ↓vl_if_eqB, ↓vl_ic_neF, ↓vl_if_neF, ↓vl_ic_neB, ↓vl_if_neB, ↓vl_ic_ltF, ↓vl_if_ltF, ↓vl_ic_ltB, ↓vl_if_ltB, ↓vl_ic_geF, ↓vl_if_geF, ↓vl_ic_geB, ↓vl_if_geB, ↓vl_ic_gtF, ↓vl_if_gtF, ↓vl_ic_gtB, ↓vl_if_gtB, ↓vl_ic_leF, ↓vl_if_leF, ↓vl_ic_leB, ↓vl_if_leB, ↓vl_sw, ↓vl_get, ↓vl_putI, ↓vl_putL, ↓vl_iald, ↓vl_iast, ↓vl_alen, ↓vl_aald, ↓vl_iretI, ↓vl_iretZ, ↓vl_ret, ↓vl_mark, ↓vl_markT, ↓vl_skip, ↓vl_st0, ↓vl_vi0, ↓vl_st1, ↓vl_vi1, ↓vl_st2, ↓vl_vi2, ↓vl_st3, ↓vl_vi3, ↓vl_st4, ↓vl_vi4, ↓vl_st5, ↓vl_vi5, ↓vl_st6, ↓vl_vi6, ↓vl_min, ↓vl_max, ↓vl_cpy, ↓vk_kvs, ↓vk_kvn, ↓vk_gf0, ↓vk_gv0, ↓vk_gv1, ↓vk_gv2, ↓vk_pf, ↓vk_ar, ↓vk_arr, bc_lay, bc_fn, bc_mk, bc_cs, bc_cat, bc_nl, bc_nth, bc_en, bc_sw, true_and, and_true, ↓reduceIte, reduceCtorEq, Nat.reduceEqDiff, Nat.reduceLeDiff, Nat.reduceAdd, Nat.le_refl, Nat.zero_le, Int.cast_ofNat_Int, Int.reduceEq, eq_self, true_implies, false_implies, not_true_eq_false, not_false_eq_true, bc_vr, Int.reduceToNat, Int.toNat_natCast, Int.reduceLE, Int.reduceLT, Int.reduceNeg, true_or, or_true, forall_const, Int.reduceAdd]
    refine ⟨⟨by omega, by omega⟩, ⟨by omega, by omega⟩, fun c2 => k0 ?_, fun c2 => k1 ?_⟩
    · rw [pd_ah_iff]; unfold pd_sz; omega
    · rw [pd_ah_iff]; unfold pd_sz; omega
-- laysBounds()
theorem l7_bounds (hM0 : pd_M 106 D h) (kk : ∀ h', (∀ o : Nat, o < 24 → h' 110 o = D (7 + 9 * o + 2) ∧ h' 111 o = D (7 + 9 * o + 1)) → pd_fr 110 111 h h' → post none h') : ∀ (n i : Nat) (h1 : bc_AH), i + n = 24 → (∀ o : Nat, o < i → h1 110 o = D (7 + 9 * o + 2) ∧ h1 111 o = D (7 + 9 * o + 1)) → pd_fr 110 111 h h1 → bc_AT (d + 1) 111 post 2 [some (.inr (.inr 104)), some (.inl (i : Int))] [] h1 := by
  intro n
  induction n with
  | zero =>
    intro i h1 hi hb hf
    have e : i = 24 := by omega
    subst e
    refine bc_at ck_X7_laysBounds ?_
    simp only [k_X7_laysBounds, ↓vl_iconst, ↓vl_bipush, ↓vl_sipush, ↓vl_lconst, ↓vl_ldc, ↓vl_ldcw, ↓vl_ldc2, ↓vl_iload0, ↓vl_aload0, ↓vl_istore0, ↓vl_iinc0, ↓vl_iload1, ↓vl_aload1, ↓vl_istore1, ↓vl_iinc1, ↓vl_iload2, ↓vl_aload2, ↓vl_istore2, ↓vl_iinc2, ↓vl_iload3, ↓vl_aload3, ↓vl_istore3, ↓vl_iinc3, ↓vl_iload4, ↓vl_istore4, ↓vl_iinc4, ↓vl_iload5, ↓vl_istore5, ↓vl_iinc5, ↓vl_iload6, ↓vl_istore6, ↓vl_iinc6, ↓vl_iload7, ↓vl_istore7, ↓vl_iinc7, ↓vl_lload5, ↓vl_lstore5, ↓vl_iadd, ↓vl_isub, ↓vl_imul, ↓vl_iand, ↓vl_ior, ↓vl_ixor, ↓vl_ishl, ↓vl_ishr, ↓vl_iushr, ↓vl_idiv, ↓vl_irem, ↓vl_ladd, ↓vl_lsub, ↓vl_lmul, ↓vl_lcmp, ↓vl_i2l, ↓vl_dup, ↓vl_dup2, ↓vl_gotoF, ↓vl_gotoB, ↓vl_nnF, ↓vl_ic_eqF, ↓vl_if_eqF, ↓vl_ic_eqB, ↓vl_if_eqB, ↓vl_ic_neF, ↓vl_if_neF, ↓vl_ic_neB, ↓vl_if_neB, ↓vl_ic_ltF, ↓vl_if_ltF, ↓vl_ic_ltB, ↓vl_if_ltB, ↓vl_ic_geF, ↓vl_if_geF, ↓vl_ic_geB, ↓vl_if_geB, ↓vl_ic_gtF, ↓vl_if_gtF, ↓vl_ic_gtB, ↓vl_if_gtB, ↓vl_ic_leF, ↓vl_if_leF, ↓vl_ic_leB, ↓vl_if_leB, ↓vl_sw, ↓vl_get, ↓vl_putI, ↓vl_putL, ↓vl_iald, ↓vl_iast, ↓vl_alen, ↓vl_aald, ↓vl_iretI, ↓vl_iretZ, ↓vl_ret, ↓vl_mark, ↓vl_markT, ↓vl_skip, ↓vl_st0, ↓vl_vi0, ↓vl_st1, ↓vl_vi1, ↓vl_st2, ↓vl_vi2, ↓vl_st3, ↓vl_vi3, ↓vl_st4, ↓vl_vi4, ↓vl_st5, ↓vl_vi5, ↓vl_st6, ↓vl_vi6, ↓vl_min, ↓vl_max, ↓vl_cpy, ↓vk_kvs, ↓vk_kvn, ↓vk_gf0, ↓vk_gv0, ↓vk_gv1, ↓vk_gv2, ↓vk_pf, ↓vk_ar, ↓vk_arr, bc_lay, bc_fn, bc_mk, bc_cs, bc_cat, bc_nl, bc_nth, bc_en, bc_sw, true_and, and_true, ↓reduceIte, reduceCtorEq, Nat.reduceEqDiff, Nat.reduceLeDiff, Nat.reduceAdd, Nat.le_refl, Nat.zero_le, Int.cast_ofNat_Int, Int.reduceEq, eq_self, true_implies, false_implies, not_true_eq_false, not_false_eq_true, bc_vr, Int.reduceToNat, Int.toNat_natCast, Int.reduceLE, Int.reduceLT, Int.reduceNeg, true_or, or_true, forall_const, Int.reduceAdd]
    exact kk h1 hb hf
  | succ n ih =>
    intro i h1 hi hb hf
    have hM : pd_M 106 D h1 := fun j hj => by rw [hf 106 (by omega)]; exact hM0 j hj
    have e1 : (i : Int) + 1 = ((i + 1 : Nat) : Int) := by omega
    refine bc_at ck_X7_laysBounds ?_
    simp only [k_X7_laysBounds, ↓vl_iconst, ↓vl_bipush, ↓vl_sipush, ↓vl_lconst, ↓vl_ldc, ↓vl_ldcw, ↓vl_ldc2, ↓vl_iload0, ↓vl_aload0, ↓vl_istore0, ↓vl_iinc0, ↓vl_iload1, ↓vl_aload1, ↓vl_istore1, ↓vl_iinc1, ↓vl_iload2, ↓vl_aload2, ↓vl_istore2, ↓vl_iinc2, ↓vl_iload3, ↓vl_aload3, ↓vl_istore3, ↓vl_iinc3, ↓vl_iload4, ↓vl_istore4, ↓vl_iinc4, ↓vl_iload5, ↓vl_istore5, ↓vl_iinc5, ↓vl_iload6, ↓vl_istore6, ↓vl_iinc6, ↓vl_iload7, ↓vl_istore7, ↓vl_iinc7, ↓vl_lload5, ↓vl_lstore5, ↓vl_iadd, ↓vl_isub, ↓vl_imul, ↓vl_iand, ↓vl_ior, ↓vl_ixor, ↓vl_ishl, ↓vl_ishr, ↓vl_iushr, ↓vl_idiv, ↓vl_irem, ↓vl_ladd, ↓vl_lsub, ↓vl_lmul, ↓vl_lcmp, ↓vl_i2l, ↓vl_dup, ↓vl_dup2, ↓vl_gotoF, ↓vl_gotoB, ↓vl_nnF, ↓vl_ic_eqF, ↓vl_if_eqF, ↓vl_ic_eqB, ↓vl_if_eqB, ↓vl_ic_neF, ↓vl_if_neF, ↓vl_ic_neB, ↓vl_if_neB, ↓vl_ic_ltF, ↓vl_if_ltF, ↓vl_ic_ltB, ↓vl_if_ltB, ↓vl_ic_geF, ↓vl_if_geF, ↓vl_ic_geB, ↓vl_if_geB, ↓vl_ic_gtF, ↓vl_if_gtF, ↓vl_ic_gtB, ↓vl_if_gtB, ↓vl_ic_leF, ↓vl_if_leF, ↓vl_ic_leB, ↓vl_if_leB, ↓vl_sw, ↓vl_get, ↓vl_putI, ↓vl_putL, ↓vl_iald, ↓vl_iast, ↓vl_alen, ↓vl_aald, ↓vl_iretI, ↓vl_iretZ, ↓vl_ret, ↓vl_mark, ↓vl_markT, ↓vl_skip, ↓vl_st0, ↓vl_vi0, ↓vl_st1, ↓vl_vi1, ↓vl_st2, ↓vl_vi2, ↓vl_st3, ↓vl_vi3, ↓vl_st4, ↓vl_vi4, ↓vl_st5, ↓vl_vi5, ↓vl_st6, ↓vl_vi6, ↓vl_min, ↓vl_max, ↓vl_cpy, ↓vk_kvs, ↓vk_kvn, ↓vk_gf0, ↓vk_gv0, ↓vk_gv1, ↓vk_gv2, ↓vk_pf, ↓vk_ar, ↓vk_arr, bc_lay, bc_fn, bc_mk, bc_cs, bc_cat, bc_nl, bc_nth, bc_en, bc_sw, true_and, and_true, ↓reduceIte, reduceCtorEq, Nat.reduceEqDiff, Nat.reduceLeDiff, Nat.reduceAdd, Nat.le_refl, Nat.zero_le, Int.cast_ofNat_Int, Int.reduceEq, eq_self, true_implies, false_implies, not_true_eq_false, not_false_eq_true, bc_vr, Int.reduceToNat, Int.toNat_natCast, Int.reduceLE, Int.reduceLT, Int.reduceNeg, true_or, or_true, forall_const, Int.reduceAdd]
    refine ⟨⟨by omega, by omega⟩, fun c => absurd c (by omega), fun _ => ?_⟩
    refine c7_its hM (w := 2) (by omega) (by omega) ?_
    simp only [↓vl_iconst, ↓vl_bipush, ↓vl_sipush, ↓vl_lconst, ↓vl_ldc, ↓vl_ldcw, ↓vl_ldc2, ↓vl_iload0, ↓vl_aload0, ↓vl_istore0, ↓vl_iinc0, ↓vl_iload1, ↓vl_aload1, ↓vl_istore1, ↓vl_iinc1, ↓vl_iload2, ↓vl_aload2, ↓vl_istore2, ↓vl_iinc2, ↓vl_iload3, ↓vl_aload3, ↓vl_istore3, ↓vl_iinc3, ↓vl_iload4, ↓vl_istore4, ↓vl_iinc4, ↓vl_iload5, ↓vl_istore5, ↓vl_iinc5, ↓vl_iload6, ↓vl_istore6, ↓vl_iinc6, ↓vl_iload7, ↓vl_istore7, ↓vl_iinc7, ↓vl_lload5, ↓vl_lstore5, ↓vl_iadd, ↓vl_isub, ↓vl_imul, ↓vl_iand, ↓vl_ior, ↓vl_ixor, ↓vl_ishl, ↓vl_ishr, ↓vl_iushr, ↓vl_idiv, ↓vl_irem, ↓vl_ladd, ↓vl_lsub, ↓vl_lmul, ↓vl_lcmp, ↓vl_i2l, ↓vl_dup, ↓vl_dup2, ↓vl_gotoF, ↓vl_gotoB, ↓vl_nnF, ↓vl_ic_eqF, ↓vl_if_eqF, ↓vl_ic_eqB, ↓vl_if_eqB, ↓vl_ic_neF, ↓vl_if_neF, ↓vl_ic_neB, ↓vl_if_neB, ↓vl_ic_ltF, ↓vl_if_ltF, ↓vl_ic_ltB, ↓vl_if_ltB, ↓vl_ic_geF, ↓vl_if_geF, ↓vl_ic_geB, ↓vl_if_geB, ↓vl_ic_gtF, ↓vl_if_gtF, ↓vl_ic_gtB, ↓vl_if_gtB, ↓vl_ic_leF, ↓vl_if_leF, ↓vl_ic_leB, ↓vl_if_leB, ↓vl_sw, ↓vl_get, ↓vl_putI, ↓vl_putL, ↓vl_iald, ↓vl_iast, ↓vl_alen, ↓vl_aald, ↓vl_iretI, ↓vl_iretZ, ↓vl_ret, ↓vl_mark, ↓vl_markT, ↓vl_skip, ↓vl_st0, ↓vl_vi0, ↓vl_st1, ↓vl_vi1, ↓vl_st2, ↓vl_vi2, ↓vl_st3, ↓vl_vi3, ↓vl_st4, ↓vl_vi4, ↓vl_st5, ↓vl_vi5, ↓vl_st6, ↓vl_vi6, ↓vl_min, ↓vl_max, ↓vl_cpy, ↓vk_kvs, ↓vk_kvn, ↓vk_gf0, ↓vk_gv0, ↓vk_gv1, ↓vk_gv2, ↓vk_pf, ↓vk_ar, ↓vk_arr, bc_lay, bc_fn, bc_mk, bc_cs, bc_cat, bc_nl, bc_nth, bc_en, bc_sw, true_and, and_true, ↓reduceIte, reduceCtorEq, Nat.reduceEqDiff, Nat.reduceLeDiff, Nat.reduceAdd, Nat.le_refl, Nat.zero_le, Int.cast_ofNat_Int, Int.reduceEq, eq_self, true_implies, false_implies, not_true_eq_false, not_false_eq_true, bc_vr, Int.reduceToNat, Int.toNat_natCast, Int.reduceLE, Int.reduceLT, Int.reduceNeg, true_or, or_true, forall_const, Int.reduceAdd]
    refine ⟨by omega, by omega, ?_⟩
    refine c7_its (D := D) (w := 1) (fun j hj => by simp [bc_up]; exact hM j hj) (by omega) (by omega) ?_
    simp only [↓vl_iconst, ↓vl_bipush, ↓vl_sipush, ↓vl_lconst, ↓vl_ldc, ↓vl_ldcw, ↓vl_ldc2, ↓vl_iload0, ↓vl_aload0, ↓vl_istore0, ↓vl_iinc0, ↓vl_iload1, ↓vl_aload1, ↓vl_istore1, ↓vl_iinc1, ↓vl_iload2, ↓vl_aload2, ↓vl_istore2, ↓vl_iinc2, ↓vl_iload3, ↓vl_aload3, ↓vl_istore3, ↓vl_iinc3, ↓vl_iload4, ↓vl_istore4, ↓vl_iinc4, ↓vl_iload5, ↓vl_istore5, ↓vl_iinc5, ↓vl_iload6, ↓vl_istore6, ↓vl_iinc6, ↓vl_iload7, ↓vl_istore7, ↓vl_iinc7, ↓vl_lload5, ↓vl_lstore5, ↓vl_iadd, ↓vl_isub, ↓vl_imul, ↓vl_iand, ↓vl_ior, ↓vl_ixor, ↓vl_ishl, ↓vl_ishr, ↓vl_iushr, ↓vl_idiv, ↓vl_irem, ↓vl_ladd, ↓vl_lsub, ↓vl_lmul, ↓vl_lcmp, ↓vl_i2l, ↓vl_dup, ↓vl_dup2, ↓vl_gotoF, ↓vl_gotoB, ↓vl_nnF, ↓vl_ic_eqF, ↓vl_if_eqF, ↓vl_ic_eqB, ↓vl_if_eqB, ↓vl_ic_neF, ↓vl_if_neF, ↓vl_ic_neB, ↓vl_if_neB, ↓vl_ic_ltF, ↓vl_if_ltF, ↓vl_ic_ltB, ↓vl_if_ltB, ↓vl_ic_geF, ↓vl_if_geF, ↓vl_ic_geB, ↓vl_if_geB, ↓vl_ic_gtF, ↓vl_if_gtF, ↓vl_ic_gtB, ↓vl_if_gtB, ↓vl_ic_leF, ↓vl_if_leF, ↓vl_ic_leB, ↓vl_if_leB, ↓vl_sw, ↓vl_get, ↓vl_putI, ↓vl_putL, ↓vl_iald, ↓vl_iast, ↓vl_alen, ↓vl_aald, ↓vl_iretI, ↓vl_iretZ, ↓vl_ret, ↓vl_mark, ↓vl_markT, ↓vl_skip, ↓vl_st0, ↓vl_vi0, ↓vl_st1, ↓vl_vi1, ↓vl_st2, ↓vl_vi2, ↓vl_st3, ↓vl_vi3, ↓vl_st4, ↓vl_vi4, ↓vl_st5, ↓vl_vi5, ↓vl_st6, ↓vl_vi6, ↓vl_min, ↓vl_max, ↓vl_cpy, ↓vk_kvs, ↓vk_kvn, ↓vk_gf0, ↓vk_gv0, ↓vk_gv1, ↓vk_gv2, ↓vk_pf, ↓vk_ar, ↓vk_arr, bc_lay, bc_fn, bc_mk, bc_cs, bc_cat, bc_nl, bc_nth, bc_en, bc_sw, true_and, and_true, ↓reduceIte, reduceCtorEq, Nat.reduceEqDiff, Nat.reduceLeDiff, Nat.reduceAdd, Nat.le_refl, Nat.zero_le, Int.cast_ofNat_Int, Int.reduceEq, eq_self, true_implies, false_implies, not_true_eq_false, not_false_eq_true, bc_vr, Int.reduceToNat, Int.toNat_natCast, Int.reduceLE, Int.reduceLT, Int.reduceNeg, true_or, or_true, forall_const, Int.reduceAdd]
    refine ⟨by omega, by omega, ?_⟩
    rw [e1]
    refine ih (i + 1) _ (by omega) (fun o ho => ?_) (pd_fr_up (pd_fr_up hf (by omega) (by omega)) (by omega) (by omega))
    by_cases e : o = i
    · subst e; simp [bc_up]
    · have : ¬ o = i := e
      simp [bc_up, this]; exact hb o (by omega)
theorem c7_laysBounds (hM : pd_M 106 D h) (kk : ∀ h', (∀ o : Nat, o < 24 → h' 110 o = D (7 + 9 * o + 2) ∧ h' 111 o = D (7 + 9 * o + 1)) → pd_fr 110 111 h h' → post none h') : bc_OK (d + 2) 111 [.inr (.inr 104)] h post := by
  refine bc_run (n := 2) ck_X7_laysBounds rfl rfl rfl rfl (Nat.le_of_ble_eq_true rfl) ?_
  simp only [k_X7_laysBounds, ↓vl_iconst, ↓vl_bipush, ↓vl_sipush, ↓vl_lconst, ↓vl_ldc, ↓vl_ldcw, ↓vl_ldc2, ↓vl_iload0, ↓vl_aload0, ↓vl_istore0, ↓vl_iinc0, ↓vl_iload1, ↓vl_aload1, ↓vl_istore1, ↓vl_iinc1, ↓vl_iload2, ↓vl_aload2, ↓vl_istore2, ↓vl_iinc2, ↓vl_iload3, ↓vl_aload3, ↓vl_istore3, ↓vl_iinc3, ↓vl_iload4, ↓vl_istore4, ↓vl_iinc4, ↓vl_iload5, ↓vl_istore5, ↓vl_iinc5, ↓vl_iload6, ↓vl_istore6, ↓vl_iinc6, ↓vl_iload7, ↓vl_istore7, ↓vl_iinc7, ↓vl_lload5, ↓vl_lstore5, ↓vl_iadd, ↓vl_isub, ↓vl_imul, ↓vl_iand, ↓vl_ior, ↓vl_ixor, ↓vl_ishl, ↓vl_ishr, ↓vl_iushr, ↓vl_idiv, ↓vl_irem, ↓vl_ladd, ↓vl_lsub, ↓vl_lmul, ↓vl_lcmp, ↓vl_i2l, ↓vl_dup, ↓vl_dup2, ↓vl_gotoF, ↓vl_gotoB, ↓vl_nnF, ↓vl_ic_eqF, ↓vl_if_eqF, ↓vl_ic_eqB, ↓vl_if_eqB, ↓vl_ic_neF, ↓vl_if_neF, ↓vl_ic_neB, ↓vl_if_neB, ↓vl_ic_ltF, ↓vl_if_ltF, ↓vl_ic_ltB, ↓vl_if_ltB, ↓vl_ic_geF, ↓vl_if_geF, ↓vl_ic_geB, ↓vl_if_geB, ↓vl_ic_gtF, ↓vl_if_gtF, ↓vl_ic_gtB, ↓vl_if_gtB, ↓vl_ic_leF, ↓vl_if_leF, ↓vl_ic_leB, ↓vl_if_leB, ↓vl_sw, ↓vl_get, ↓vl_putI, ↓vl_putL, ↓vl_iald, ↓vl_iast, ↓vl_alen, ↓vl_aald, ↓vl_iretI, ↓vl_iretZ, ↓vl_ret, ↓vl_mark, ↓vl_markT, ↓vl_skip, ↓vl_st0, ↓vl_vi0, ↓vl_st1, ↓vl_vi1, ↓vl_st2, ↓vl_vi2, ↓vl_st3, ↓vl_vi3, ↓vl_st4, ↓vl_vi4, ↓vl_st5, ↓vl_vi5, ↓vl_st6, ↓vl_vi6, ↓vl_min, ↓vl_max, ↓vl_cpy, ↓vk_kvs, ↓vk_kvn, ↓vk_gf0, ↓vk_gv0, ↓vk_gv1, ↓vk_gv2, ↓vk_pf, ↓vk_ar, ↓vk_arr, bc_lay, bc_fn, bc_mk, bc_cs, bc_cat, bc_nl, bc_nth, bc_en, bc_sw, true_and, and_true, ↓reduceIte, reduceCtorEq, Nat.reduceEqDiff, Nat.reduceLeDiff, Nat.reduceAdd, Nat.le_refl, Nat.zero_le, Int.cast_ofNat_Int, Int.reduceEq, eq_self, true_implies, false_implies, not_true_eq_false, not_false_eq_true, bc_vr, Int.reduceToNat, Int.toNat_natCast, Int.reduceLE, Int.reduceLT, Int.reduceNeg, true_or, or_true, forall_const, Int.reduceAdd]
  exact l7_bounds hM kk 24 0 h (by omega) (fun o ho => by omega) pd_fr_refl
-- sum(int[]) of six
theorem l7_sum {c : Nat} (hc : c = 112 ∨ c = 113 ∨ c = 114 ∨ c = 115) (k : post (some (.inl (pd_t6 (h c)))) h) : ∀ (n i : Nat) (x : Int), i + n = 6 → x + (match n with | 0 => 0 | 1 => h c 5 | 2 => h c 4 + h c 5 | 3 => h c 3 + h c 4 + h c 5 | 4 => h c 2 + h c 3 + h c 4 + h c 5 | 5 => h c 1 + h c 2 + h c 3 + h c 4 + h c 5 | _ => pd_t6 (h c)) = pd_t6 (h c) → bc_AT d 112 post 4 [some (.inr (.inr c)), some (.inl x), some (.inl (i : Int))] [] h := by
  intro n
  induction n with
  | zero =>
    intro i x hi hx
    have e : i = 6 := by omega
    subst e
    refine bc_at ck_X7_sum ?_
    simp only [k_X7_sum, ↓vl_iconst, ↓vl_bipush, ↓vl_sipush, ↓vl_lconst, ↓vl_ldc, ↓vl_ldcw, ↓vl_ldc2, ↓vl_iload0, ↓vl_aload0, ↓vl_istore0, ↓vl_iinc0, ↓vl_iload1, ↓vl_aload1, ↓vl_istore1, ↓vl_iinc1, ↓vl_iload2, ↓vl_aload2, ↓vl_istore2, ↓vl_iinc2, ↓vl_iload3, ↓vl_aload3, ↓vl_istore3, ↓vl_iinc3, ↓vl_iload4, ↓vl_istore4, ↓vl_iinc4, ↓vl_iload5, ↓vl_istore5, ↓vl_iinc5, ↓vl_iload6, ↓vl_istore6, ↓vl_iinc6, ↓vl_iload7, ↓vl_istore7, ↓vl_iinc7, ↓vl_lload5, ↓vl_lstore5, ↓vl_iadd, ↓vl_isub, ↓vl_imul, ↓vl_iand, ↓vl_ior, ↓vl_ixor, ↓vl_ishl, ↓vl_ishr, ↓vl_iushr, ↓vl_idiv, ↓vl_irem, ↓vl_ladd, ↓vl_lsub, ↓vl_lmul, ↓vl_lcmp, ↓vl_i2l, ↓vl_dup, ↓vl_dup2, ↓vl_gotoF, ↓vl_gotoB, ↓vl_nnF, ↓vl_ic_eqF, ↓vl_if_eqF, ↓vl_ic_eqB, ↓vl_if_eqB, ↓vl_ic_neF, ↓vl_if_neF, ↓vl_ic_neB, ↓vl_if_neB, ↓vl_ic_ltF, ↓vl_if_ltF, ↓vl_ic_ltB, ↓vl_if_ltB, ↓vl_ic_geF, ↓vl_if_geF, ↓vl_ic_geB, ↓vl_if_geB, ↓vl_ic_gtF, ↓vl_if_gtF, ↓vl_ic_gtB, ↓vl_if_gtB, ↓vl_ic_leF, ↓vl_if_leF, ↓vl_ic_leB, ↓vl_if_leB, ↓vl_sw, ↓vl_get, ↓vl_putI, ↓vl_putL, ↓vl_iald, ↓vl_iast, ↓vl_alen, ↓vl_aald, ↓vl_iretI, ↓vl_iretZ, ↓vl_ret, ↓vl_mark, ↓vl_markT, ↓vl_skip, ↓vl_st0, ↓vl_vi0, ↓vl_st1, ↓vl_vi1, ↓vl_st2, ↓vl_vi2, ↓vl_st3, ↓vl_vi3, ↓vl_st4, ↓vl_vi4, ↓vl_st5, ↓vl_vi5, ↓vl_st6, ↓vl_vi6, ↓vl_min, ↓vl_max, ↓vl_cpy, ↓vk_kvs, ↓vk_kvn, ↓vk_gf0, ↓vk_gv0, ↓vk_gv1, ↓vk_gv2, ↓vk_pf, ↓vk_ar, ↓vk_arr, bc_lay, bc_fn, bc_mk, bc_cs, bc_cat, bc_nl, bc_nth, bc_en, bc_sw, true_and, and_true, ↓reduceIte, reduceCtorEq, Nat.reduceEqDiff, Nat.reduceLeDiff, Nat.reduceAdd, Nat.le_refl, Nat.zero_le, Int.cast_ofNat_Int, Int.reduceEq, eq_self, true_implies, false_implies, not_true_eq_false, not_false_eq_true, bc_vr, Int.reduceToNat, Int.toNat_natCast, Int.reduceLE, Int.reduceLT, Int.reduceNeg, true_or, or_true, forall_const, Int.reduceAdd]
    have e2 : x = pd_t6 (h c) := by simpa using hx
    rw [e2]
    exact k
  | succ n ih =>
    intro i x hi hx
    have e1 : (i : Int) + 1 = ((i + 1 : Nat) : Int) := by omega
    have hn : n = 0 ∨ n = 1 ∨ n = 2 ∨ n = 3 ∨ n = 4 ∨ n = 5 := by omega
    have hnext := ih (i + 1) (x + h c i) (by omega) (by
      unfold pd_t6 at hx ⊢
      rcases hn with e | e | e | e | e | e <;> subst e <;> simp at hx ⊢
      · have : i = 5 := by omega
        subst this; omega
      · have : i = 4 := by omega
        subst this; omega
      · have : i = 3 := by omega
        subst this; omega
      · have : i = 2 := by omega
        subst this; omega
      · have : i = 1 := by omega
        subst this; omega
      · have : i = 0 := by omega
        subst this; omega)
    refine bc_at ck_X7_sum ?_
    rw [← e1] at hnext
    rcases hc with e | e | e | e <;> subst e <;> simp only [k_X7_sum, ↓vl_iconst, ↓vl_bipush, ↓vl_sipush, ↓vl_lconst, ↓vl_ldc, ↓vl_ldcw, ↓vl_ldc2, ↓vl_iload0, ↓vl_aload0, ↓vl_istore0, ↓vl_iinc0, ↓vl_iload1, ↓vl_aload1, ↓vl_istore1, ↓vl_iinc1, ↓vl_iload2, ↓vl_aload2, ↓vl_istore2, ↓vl_iinc2, ↓vl_iload3, ↓vl_aload3, ↓vl_istore3, ↓vl_iinc3, ↓vl_iload4, ↓vl_istore4, ↓vl_iinc4, ↓vl_iload5, ↓vl_istore5, ↓vl_iinc5, ↓vl_iload6, ↓vl_istore6, ↓vl_iinc6, ↓vl_iload7, ↓vl_istore7, ↓vl_iinc7, ↓vl_lload5, ↓vl_lstore5, ↓vl_iadd, ↓vl_isub, ↓vl_imul, ↓vl_iand, ↓vl_ior, ↓vl_ixor, ↓vl_ishl, ↓vl_ishr, ↓vl_iushr, ↓vl_idiv, ↓vl_irem, ↓vl_ladd, ↓vl_lsub, ↓vl_lmul, ↓vl_lcmp, ↓vl_i2l, ↓vl_dup, ↓vl_dup2, ↓vl_gotoF, ↓vl_gotoB, ↓vl_nnF, ↓vl_ic_eqF, ↓vl_if_eqF, ↓vl_ic_eqB, ↓vl_if_eqB, ↓vl_ic_neF, ↓vl_if_neF, ↓vl_ic_neB, ↓vl_if_neB, ↓vl_ic_ltF, ↓vl_if_ltF, ↓vl_ic_ltB, ↓vl_if_ltB, ↓vl_ic_geF, ↓vl_if_geF, ↓vl_ic_geB, ↓vl_if_geB, ↓vl_ic_gtF, ↓vl_if_gtF, ↓vl_ic_gtB, ↓vl_if_gtB, ↓vl_ic_leF, ↓vl_if_leF, ↓vl_ic_leB, ↓vl_if_leB, ↓vl_sw, ↓vl_get, ↓vl_putI, ↓vl_putL, ↓vl_iald, ↓vl_iast, ↓vl_alen, ↓vl_aald, ↓vl_iretI, ↓vl_iretZ, ↓vl_ret, ↓vl_mark, ↓vl_markT, ↓vl_skip, ↓vl_st0, ↓vl_vi0, ↓vl_st1, ↓vl_vi1, ↓vl_st2, ↓vl_vi2, ↓vl_st3, ↓vl_vi3, ↓vl_st4, ↓vl_vi4, ↓vl_st5, ↓vl_vi5, ↓vl_st6, ↓vl_vi6, ↓vl_min, ↓vl_max, ↓vl_cpy, ↓vk_kvs, ↓vk_kvn, ↓vk_gf0, ↓vk_gv0, ↓vk_gv1, ↓vk_gv2, ↓vk_pf, ↓vk_ar, ↓vk_arr, bc_lay, bc_fn, bc_mk, bc_cs, bc_cat, bc_nl, bc_nth, bc_en, bc_sw, true_and, and_true, ↓reduceIte, reduceCtorEq, Nat.reduceEqDiff, Nat.reduceLeDiff, Nat.reduceAdd, Nat.le_refl, Nat.zero_le, Int.cast_ofNat_Int, Int.reduceEq, eq_self, true_implies, false_implies, not_true_eq_false, not_false_eq_true, bc_vr, Int.reduceToNat, Int.toNat_natCast, Int.reduceLE, Int.reduceLT, Int.reduceNeg, true_or, or_true, forall_const, Int.reduceAdd] <;> exact ⟨⟨by omega, by omega⟩, fun c => absurd c (by omega), fun _ => ⟨by omega, by omega, hnext⟩⟩
theorem c7_sum {c : Nat} (hc : c = 112 ∨ c = 113 ∨ c = 114 ∨ c = 115) (k : post (some (.inl (pd_t6 (h c)))) h) : bc_OK (d + 1) 112 [.inr (.inr c)] h post := by
  refine bc_run (n := 3) ck_X7_sum rfl rfl rfl rfl (Nat.le_of_ble_eq_true rfl) ?_
  simp only [k_X7_sum, ↓vl_iconst, ↓vl_bipush, ↓vl_sipush, ↓vl_lconst, ↓vl_ldc, ↓vl_ldcw, ↓vl_ldc2, ↓vl_iload0, ↓vl_aload0, ↓vl_istore0, ↓vl_iinc0, ↓vl_iload1, ↓vl_aload1, ↓vl_istore1, ↓vl_iinc1, ↓vl_iload2, ↓vl_aload2, ↓vl_istore2, ↓vl_iinc2, ↓vl_iload3, ↓vl_aload3, ↓vl_istore3, ↓vl_iinc3, ↓vl_iload4, ↓vl_istore4, ↓vl_iinc4, ↓vl_iload5, ↓vl_istore5, ↓vl_iinc5, ↓vl_iload6, ↓vl_istore6, ↓vl_iinc6, ↓vl_iload7, ↓vl_istore7, ↓vl_iinc7, ↓vl_lload5, ↓vl_lstore5, ↓vl_iadd, ↓vl_isub, ↓vl_imul, ↓vl_iand, ↓vl_ior, ↓vl_ixor, ↓vl_ishl, ↓vl_ishr, ↓vl_iushr, ↓vl_idiv, ↓vl_irem, ↓vl_ladd, ↓vl_lsub, ↓vl_lmul, ↓vl_lcmp, ↓vl_i2l, ↓vl_dup, ↓vl_dup2, ↓vl_gotoF, ↓vl_gotoB, ↓vl_nnF, ↓vl_ic_eqF, ↓vl_if_eqF, ↓vl_ic_eqB, ↓vl_if_eqB, ↓vl_ic_neF, ↓vl_if_neF, ↓vl_ic_neB, ↓vl_if_neB, ↓vl_ic_ltF, ↓vl_if_ltF, ↓vl_ic_ltB, ↓vl_if_ltB, ↓vl_ic_geF, ↓vl_if_geF, ↓vl_ic_geB, ↓vl_if_geB, ↓vl_ic_gtF, ↓vl_if_gtF, ↓vl_ic_gtB, ↓vl_if_gtB, ↓vl_ic_leF, ↓vl_if_leF, ↓vl_ic_leB, ↓vl_if_leB, ↓vl_sw, ↓vl_get, ↓vl_putI, ↓vl_putL, ↓vl_iald, ↓vl_iast, ↓vl_alen, ↓vl_aald, ↓vl_iretI, ↓vl_iretZ, ↓vl_ret, ↓vl_mark, ↓vl_markT, ↓vl_skip, ↓vl_st0, ↓vl_vi0, ↓vl_st1, ↓vl_vi1, ↓vl_st2, ↓vl_vi2, ↓vl_st3, ↓vl_vi3, ↓vl_st4, ↓vl_vi4, ↓vl_st5, ↓vl_vi5, ↓vl_st6, ↓vl_vi6, ↓vl_min, ↓vl_max, ↓vl_cpy, ↓vk_kvs, ↓vk_kvn, ↓vk_gf0, ↓vk_gv0, ↓vk_gv1, ↓vk_gv2, ↓vk_pf, ↓vk_ar, ↓vk_arr, bc_lay, bc_fn, bc_mk, bc_cs, bc_cat, bc_nl, bc_nth, bc_en, bc_sw, true_and, and_true, ↓reduceIte, reduceCtorEq, Nat.reduceEqDiff, Nat.reduceLeDiff, Nat.reduceAdd, Nat.le_refl, Nat.zero_le, Int.cast_ofNat_Int, Int.reduceEq, eq_self, true_implies, false_implies, not_true_eq_false, not_false_eq_true, bc_vr, Int.reduceToNat, Int.toNat_natCast, Int.reduceLE, Int.reduceLT, Int.reduceNeg, true_or, or_true, forall_const, Int.reduceAdd]
  exact l7_sum hc k 6 0 0 (by omega) (by simp)
end Model
end
section
/-! the reference: laysRanks -/
section MRanks
variable {d : Nat} {h : bc_AH} {post : Option bc_AV → bc_AH → Prop} {D : Nat → Int}
theorem pd_M_fr {c : Nat} {h h' : bc_AH} (hM : pd_M c D h) (e : h' c = h c) : pd_M c D h' := fun i hi => by rw [e]; exact hM i hi
set_option maxRecDepth 20000 in
theorem l7_ins (hV : pd_V D) {i : Nat} {l : List Nat} (hi : (i : Int) < D 0) (hl : l.length < 10) (hlt : ∀ x ∈ l, (x : Int) < D 0) (hso : l.Pairwise (fun a b => pd_ah D a b = true)) {h0 : bc_AH} (hM0 : pd_M 106 D h0) (hm0 : h0 104 16 = (l.length : Int))
    (kk : ∀ h', (∀ (j x : Nat), (pd_ins D i l)[j]? = some x → h' 109 j = (x : Int)) → h' 104 16 = (l.length : Int) + 1 → (∀ j : Nat, j ≠ 16 → h' 104 j = h0 104 j) → (∀ c : Nat, c ≠ 104 → c ≠ 109 → h' c = h0 c) → bc_AT (d + 3) 109 post 7 [some (.inr (.inr 104)), some (.inl ((i : Int) + 1)), none] [] h') :
    ∀ (k : Nat) (h : bc_AH), k ≤ l.length → (∀ (j x : Nat), j < k → l[j]? = some x → h 109 j = (x : Int)) → (∀ (j x : Nat), k ≤ j → l[j]? = some x → h 109 (j + 1) = (x : Int)) → (∀ (j x : Nat), k ≤ j → l[j]? = some x → pd_ah D i x = true) → h 104 = h0 104 → (∀ c : Nat, c ≠ 109 → h c = h0 c) → bc_AT (d + 3) 109 post 33 [some (.inr (.inr 104)), some (.inl (i : Int)), some (.inl (k : Int))] [] h := by
  have v0 := hV.1
  intro k
  induction k with
  | zero =>
    intro h hk h1 h2 h3 h22 hf
    refine bc_at ck_X7_laysRanks ?_
    simp only [k_X7_laysRanks, ↓vl_iconst, ↓vl_bipush, ↓vl_sipush, ↓vl_lconst, ↓vl_ldc, ↓vl_ldcw, ↓vl_ldc2, ↓vl_iload0, ↓vl_aload0, ↓vl_istore0, ↓vl_iinc0, ↓vl_iload1, ↓vl_aload1, ↓vl_istore1, ↓vl_iinc1, ↓vl_iload2, ↓vl_aload2, ↓vl_istore2, ↓vl_iinc2, ↓vl_iload3, ↓vl_aload3, ↓vl_istore3, ↓vl_iinc3, ↓vl_iload4, ↓vl_istore4, ↓vl_iinc4, ↓vl_iload5, ↓vl_istore5, ↓vl_iinc5, ↓vl_iload6, ↓vl_istore6, ↓vl_iinc6, ↓vl_iload7, ↓vl_istore7, ↓vl_iinc7, ↓vl_lload5, ↓vl_lstore5, ↓vl_iadd, ↓vl_isub, ↓vl_imul, ↓vl_iand, ↓vl_ior, ↓vl_ixor, ↓vl_ishl, ↓vl_ishr, ↓vl_iushr, ↓vl_idiv, ↓vl_irem, ↓vl_ladd, ↓vl_lsub, ↓vl_lmul, ↓vl_lcmp, ↓vl_i2l, ↓vl_dup, ↓vl_dup2, ↓vl_gotoF, ↓vl_gotoB, ↓vl_nnF, ↓vl_ic_eqF, ↓vl_if_eqF, ↓vl_ic_eqB, ↓vl_if_eqB, ↓vl_ic_neF, ↓vl_if_neF, ↓vl_ic_neB, ↓vl_if_neB, ↓vl_ic_ltF, ↓vl_if_ltF, ↓vl_ic_ltB, ↓vl_if_ltB, ↓vl_ic_geF, ↓vl_if_geF, ↓vl_ic_geB, ↓vl_if_geB, ↓vl_ic_gtF, ↓vl_if_gtF, ↓vl_ic_gtB, ↓vl_if_gtB, ↓vl_ic_leF, ↓vl_if_leF, ↓vl_ic_leB, ↓vl_if_leB, ↓vl_sw, ↓vl_get, ↓vl_putI, ↓vl_putL, ↓vl_iald, ↓vl_iast, ↓vl_alen, ↓vl_aald, ↓vl_iretI, ↓vl_iretZ, ↓vl_ret, ↓vl_mark, ↓vl_markT, ↓vl_skip, ↓vl_st0, ↓vl_vi0, ↓vl_st1, ↓vl_vi1, ↓vl_st2, ↓vl_vi2, ↓vl_st3, ↓vl_vi3, ↓vl_st4, ↓vl_vi4, ↓vl_st5, ↓vl_vi5, ↓vl_st6, ↓vl_vi6, ↓vl_min, ↓vl_max, ↓vl_cpy, ↓vk_kvs, ↓vk_kvn, ↓vk_gf0, ↓vk_gv0, ↓vk_gv1, ↓vk_gv2, ↓vk_pf, ↓vk_ar, ↓vk_arr, bc_lay, bc_fn, bc_mk, bc_cs, bc_cat, bc_nl, bc_nth, bc_en, bc_sw, true_and, and_true, ↓reduceIte, reduceCtorEq, Nat.reduceEqDiff, Nat.reduceLeDiff, Nat.reduceAdd, Nat.le_refl, Nat.zero_le, Int.cast_ofNat_Int, Int.reduceEq, eq_self, true_implies, false_implies, not_true_eq_false, not_false_eq_true, bc_vr, Int.reduceToNat, Int.toNat_natCast, Int.reduceLE, Int.reduceLT, Int.reduceNeg, true_or, or_true, forall_const, Int.reduceAdd]
    have hins : pd_ins D i l = i :: l := by
      have := pd_ins_at l 0 (by omega) hso (fun j x hj hx => h3 j x hj hx) (fun x _ q => absurd q (by omega))
      rw [this]; rfl
    refine kk _ (fun j x hx => ?_) ?_ (fun j hj => ?_) (fun c c1 c2 => ?_)
    · rw [hins] at hx
      cases j with
      | zero => simp at hx; subst hx; simp [bc_up]
      | succ j =>
        simp at hx
        have := h2 j x (by omega) hx
        simp [bc_up]; exact this
    · simp [bc_up, h22, hm0]
    · simp [bc_up, hj, h22]
    · funext b; simp [bc_up, c1, c2, hf c c2]
  | succ k ih =>
    intro h hk h1 h2 h3 h22 hf
    have hkl : k < l.length := by omega
    have hx : l[k]? = some l[k] := List.getElem?_eq_getElem hkl
    have hxm : l[k] ∈ l := List.getElem_mem hkl
    have h28 := h1 k l[k] (by omega) hx
    have e1 : (((k + 1 : Nat) : Int) - 1).toNat = k := by omega
    have e2 : ((k + 1 : Nat) : Int).toNat = k + 1 := by omega
    have e3 : ((k + 1 : Nat) : Int) + -1 = (k : Int) := by omega
    have hM : pd_M 106 D h := pd_M_fr hM0 (hf 106 (by omega))
    refine bc_at ck_X7_laysRanks ?_
    simp only [k_X7_laysRanks, ↓vl_iconst, ↓vl_bipush, ↓vl_sipush, ↓vl_lconst, ↓vl_ldc, ↓vl_ldcw, ↓vl_ldc2, ↓vl_iload0, ↓vl_aload0, ↓vl_istore0, ↓vl_iinc0, ↓vl_iload1, ↓vl_aload1, ↓vl_istore1, ↓vl_iinc1, ↓vl_iload2, ↓vl_aload2, ↓vl_istore2, ↓vl_iinc2, ↓vl_iload3, ↓vl_aload3, ↓vl_istore3, ↓vl_iinc3, ↓vl_iload4, ↓vl_istore4, ↓vl_iinc4, ↓vl_iload5, ↓vl_istore5, ↓vl_iinc5, ↓vl_iload6, ↓vl_istore6, ↓vl_iinc6, ↓vl_iload7, ↓vl_istore7, ↓vl_iinc7, ↓vl_lload5, ↓vl_lstore5, ↓vl_iadd, ↓vl_isub, ↓vl_imul, ↓vl_iand, ↓vl_ior, ↓vl_ixor, ↓vl_ishl, ↓vl_ishr, ↓vl_iushr, ↓vl_idiv, ↓vl_irem, ↓vl_ladd, ↓vl_lsub, ↓vl_lmul, ↓vl_lcmp, ↓vl_i2l, ↓vl_dup, ↓vl_dup2, ↓vl_gotoF, ↓vl_gotoB, ↓vl_nnF, ↓vl_ic_eqF, ↓vl_if_eqF, ↓vl_ic_eqB, ↓vl_if_eqB, ↓vl_ic_neF, ↓vl_if_neF, ↓vl_ic_neB, ↓vl_if_neB, ↓vl_ic_ltF, ↓vl_if_ltF, ↓vl_ic_ltB, ↓vl_if_ltB, ↓vl_ic_geF, ↓vl_if_geF, ↓vl_ic_geB, ↓vl_if_geB, ↓vl_ic_gtF, ↓vl_if_gtF, ↓vl_ic_gtB, ↓vl_if_gtB, ↓vl_ic_leF, ↓vl_if_leF, ↓vl_ic_leB, ↓vl_if_leB, ↓vl_sw, ↓vl_get, ↓vl_putI, ↓vl_putL, ↓vl_iald, ↓vl_iast, ↓vl_alen, ↓vl_aald, ↓vl_iretI, ↓vl_iretZ, ↓vl_ret, ↓vl_mark, ↓vl_markT, ↓vl_skip, ↓vl_st0, ↓vl_vi0, ↓vl_st1, ↓vl_vi1, ↓vl_st2, ↓vl_vi2, ↓vl_st3, ↓vl_vi3, ↓vl_st4, ↓vl_vi4, ↓vl_st5, ↓vl_vi5, ↓vl_st6, ↓vl_vi6, ↓vl_min, ↓vl_max, ↓vl_cpy, ↓vk_kvs, ↓vk_kvn, ↓vk_gf0, ↓vk_gv0, ↓vk_gv1, ↓vk_gv2, ↓vk_pf, ↓vk_ar, ↓vk_arr, bc_lay, bc_fn, bc_mk, bc_cs, bc_cat, bc_nl, bc_nth, bc_en, bc_sw, true_and, and_true, ↓reduceIte, reduceCtorEq, Nat.reduceEqDiff, Nat.reduceLeDiff, Nat.reduceAdd, Nat.le_refl, Nat.zero_le, Int.cast_ofNat_Int, Int.reduceEq, eq_self, true_implies, false_implies, not_true_eq_false, not_false_eq_true, bc_vr, Int.reduceToNat, Int.toNat_natCast, Int.reduceLE, Int.reduceLT, Int.reduceNeg, true_or, or_true, forall_const, Int.reduceAdd, e1, e2, h28]
    refine ⟨by omega, fun c => absurd c (by omega), fun _ => ⟨by omega, by omega, ?_⟩⟩
    refine c7_isAhead hM hV hi (hlt _ hxm) (fun hah => ?_) (fun hah => ?_)
    · simp only [↓vl_iconst, ↓vl_bipush, ↓vl_sipush, ↓vl_lconst, ↓vl_ldc, ↓vl_ldcw, ↓vl_ldc2, ↓vl_iload0, ↓vl_aload0, ↓vl_istore0, ↓vl_iinc0, ↓vl_iload1, ↓vl_aload1, ↓vl_istore1, ↓vl_iinc1, ↓vl_iload2, ↓vl_aload2, ↓vl_istore2, ↓vl_iinc2, ↓vl_iload3, ↓vl_aload3, ↓vl_istore3, ↓vl_iinc3, ↓vl_iload4, ↓vl_istore4, ↓vl_iinc4, ↓vl_iload5, ↓vl_istore5, ↓vl_iinc5, ↓vl_iload6, ↓vl_istore6, ↓vl_iinc6, ↓vl_iload7, ↓vl_istore7, ↓vl_iinc7, ↓vl_lload5, ↓vl_lstore5, ↓vl_iadd, ↓vl_isub, ↓vl_imul, ↓vl_iand, ↓vl_ior, ↓vl_ixor, ↓vl_ishl, ↓vl_ishr, ↓vl_iushr, ↓vl_idiv, ↓vl_irem, ↓vl_ladd, ↓vl_lsub, ↓vl_lmul, ↓vl_lcmp, ↓vl_i2l, ↓vl_dup, ↓vl_dup2, ↓vl_gotoF, ↓vl_gotoB, ↓vl_nnF, ↓vl_ic_eqF, ↓vl_if_eqF, ↓vl_ic_eqB, ↓vl_if_eqB, ↓vl_ic_neF, ↓vl_if_neF, ↓vl_ic_neB, ↓vl_if_neB, ↓vl_ic_ltF, ↓vl_if_ltF, ↓vl_ic_ltB, ↓vl_if_ltB, ↓vl_ic_geF, ↓vl_if_geF, ↓vl_ic_geB, ↓vl_if_geB, ↓vl_ic_gtF, ↓vl_if_gtF, ↓vl_ic_gtB, ↓vl_if_gtB, ↓vl_ic_leF, ↓vl_if_leF, ↓vl_ic_leB, ↓vl_if_leB, ↓vl_sw, ↓vl_get, ↓vl_putI, ↓vl_putL, ↓vl_iald, ↓vl_iast, ↓vl_alen, ↓vl_aald, ↓vl_iretI, ↓vl_iretZ, ↓vl_ret, ↓vl_mark, ↓vl_markT, ↓vl_skip, ↓vl_st0, ↓vl_vi0, ↓vl_st1, ↓vl_vi1, ↓vl_st2, ↓vl_vi2, ↓vl_st3, ↓vl_vi3, ↓vl_st4, ↓vl_vi4, ↓vl_st5, ↓vl_vi5, ↓vl_st6, ↓vl_vi6, ↓vl_min, ↓vl_max, ↓vl_cpy, ↓vk_kvs, ↓vk_kvn, ↓vk_gf0, ↓vk_gv0, ↓vk_gv1, ↓vk_gv2, ↓vk_pf, ↓vk_ar, ↓vk_arr, bc_lay, bc_fn, bc_mk, bc_cs, bc_cat, bc_nl, bc_nth, bc_en, bc_sw, true_and, and_true, ↓reduceIte, reduceCtorEq, Nat.reduceEqDiff, Nat.reduceLeDiff, Nat.reduceAdd, Nat.le_refl, Nat.zero_le, Int.cast_ofNat_Int, Int.reduceEq, eq_self, true_implies, false_implies, not_true_eq_false, not_false_eq_true, bc_vr, Int.reduceToNat, Int.toNat_natCast, Int.reduceLE, Int.reduceLT, Int.reduceNeg, true_or, or_true, forall_const, Int.reduceAdd, e1, e2, h28]
      refine ⟨by omega, by omega, by omega, by omega, ?_⟩
      rw [e3]
      refine ih _ (by omega) (fun j x hj hjx => ?_) (fun j x hj hjx => ?_) (fun j x hj hjx => ?_) ?_ (fun c hc => ?_)
      · have : ¬ j = k + 1 := by omega
        simp [bc_up, this]; exact h1 j x (by omega) hjx
      · by_cases e : j = k
        · subst e
          rw [hx] at hjx
          cases hjx
          simp [bc_up]
        · have : ¬ j = k := e
          simp [bc_up, this]; exact h2 j x (by omega) hjx
      · by_cases e : j = k
        · subst e
          rw [hx] at hjx
          cases hjx
          exact hah
        · exact h3 j x (by omega) hjx
      · funext b; simp [bc_up, h22]
      · funext b; simp [bc_up, hc, hf c hc]
    · have hins : pd_ins D i l = l.take (k + 1) ++ i :: l.drop (k + 1) := by
        refine pd_ins_at l (k + 1) hk hso (fun j x hj hx => h3 j x hj hx) (fun x hx2 _ => ?_)
        simp at hx2
        rw [hx] at hx2
        cases hx2
        exact hah
      simp only [↓vl_iconst, ↓vl_bipush, ↓vl_sipush, ↓vl_lconst, ↓vl_ldc, ↓vl_ldcw, ↓vl_ldc2, ↓vl_iload0, ↓vl_aload0, ↓vl_istore0, ↓vl_iinc0, ↓vl_iload1, ↓vl_aload1, ↓vl_istore1, ↓vl_iinc1, ↓vl_iload2, ↓vl_aload2, ↓vl_istore2, ↓vl_iinc2, ↓vl_iload3, ↓vl_aload3, ↓vl_istore3, ↓vl_iinc3, ↓vl_iload4, ↓vl_istore4, ↓vl_iinc4, ↓vl_iload5, ↓vl_istore5, ↓vl_iinc5, ↓vl_iload6, ↓vl_istore6, ↓vl_iinc6, ↓vl_iload7, ↓vl_istore7, ↓vl_iinc7, ↓vl_lload5, ↓vl_lstore5, ↓vl_iadd, ↓vl_isub, ↓vl_imul, ↓vl_iand, ↓vl_ior, ↓vl_ixor, ↓vl_ishl, ↓vl_ishr, ↓vl_iushr, ↓vl_idiv, ↓vl_irem, ↓vl_ladd, ↓vl_lsub, ↓vl_lmul, ↓vl_lcmp, ↓vl_i2l, ↓vl_dup, ↓vl_dup2, ↓vl_gotoF, ↓vl_gotoB, ↓vl_nnF, ↓vl_ic_eqF, ↓vl_if_eqF, ↓vl_ic_eqB, ↓vl_if_eqB, ↓vl_ic_neF, ↓vl_if_neF, ↓vl_ic_neB, ↓vl_if_neB, ↓vl_ic_ltF, ↓vl_if_ltF, ↓vl_ic_ltB, ↓vl_if_ltB, ↓vl_ic_geF, ↓vl_if_geF, ↓vl_ic_geB, ↓vl_if_geB, ↓vl_ic_gtF, ↓vl_if_gtF, ↓vl_ic_gtB, ↓vl_if_gtB, ↓vl_ic_leF, ↓vl_if_leF, ↓vl_ic_leB, ↓vl_if_leB, ↓vl_sw, ↓vl_get, ↓vl_putI, ↓vl_putL, ↓vl_iald, ↓vl_iast, ↓vl_alen, ↓vl_aald, ↓vl_iretI, ↓vl_iretZ, ↓vl_ret, ↓vl_mark, ↓vl_markT, ↓vl_skip, ↓vl_st0, ↓vl_vi0, ↓vl_st1, ↓vl_vi1, ↓vl_st2, ↓vl_vi2, ↓vl_st3, ↓vl_vi3, ↓vl_st4, ↓vl_vi4, ↓vl_st5, ↓vl_vi5, ↓vl_st6, ↓vl_vi6, ↓vl_min, ↓vl_max, ↓vl_cpy, ↓vk_kvs, ↓vk_kvn, ↓vk_gf0, ↓vk_gv0, ↓vk_gv1, ↓vk_gv2, ↓vk_pf, ↓vk_ar, ↓vk_arr, bc_lay, bc_fn, bc_mk, bc_cs, bc_cat, bc_nl, bc_nth, bc_en, bc_sw, true_and, and_true, ↓reduceIte, reduceCtorEq, Nat.reduceEqDiff, Nat.reduceLeDiff, Nat.reduceAdd, Nat.le_refl, Nat.zero_le, Int.cast_ofNat_Int, Int.reduceEq, eq_self, true_implies, false_implies, not_true_eq_false, not_false_eq_true, bc_vr, Int.reduceToNat, Int.toNat_natCast, Int.reduceLE, Int.reduceLT, Int.reduceNeg, true_or, or_true, forall_const, Int.reduceAdd, e2]
      refine ⟨by omega, by omega, ?_⟩
      refine kk _ (fun j x hjx => ?_) ?_ (fun j hj => ?_) (fun c c1 c2 => ?_)
      · rw [hins] at hjx
        have hlen : (l.take (k + 1)).length = k + 1 := by simp; omega
        by_cases c1 : j < k + 1
        · rw [List.getElem?_append_left (by omega), List.getElem?_take_of_lt c1] at hjx
          have : ¬ j = k + 1 := by omega
          simp [bc_up, this]; exact h1 j x (by omega) hjx
        · rw [List.getElem?_append_right (by omega), hlen] at hjx
          by_cases c2 : j = k + 1
          · subst c2
            simp at hjx
            subst hjx
            simp [bc_up]
          · obtain ⟨t, ht⟩ : ∃ t, j = t + 1 := ⟨j - 1, by omega⟩
            subst ht
            have e4 : t + 1 - (k + 1) = (t - (k + 1)) + 1 := by omega
            rw [e4, List.getElem?_cons_succ, List.getElem?_drop] at hjx
            have e5 : k + 1 + (t - (k + 1)) = t := by omega
            rw [e5] at hjx
            have : ¬ t = k := by omega
            simp [bc_up, this]; exact h2 t x (by omega) hjx
      · simp [bc_up, h22, hm0]
      · simp [bc_up, hj, h22]
      · funext b; simp [bc_up, c1, c2, hf c c2]
set_option maxRecDepth 20000 in
theorem l7_laysRanks (hV : pd_V D) (hl10 : (pd_rk D (pd_ob D) (D 0).toNat).length ≤ 10) {h0 : bc_AH} (hM0 : pd_M 106 D h0)
    (kk : ∀ h', (∀ (j x : Nat), (pd_rk D (pd_ob D) (D 0).toNat)[j]? = some x → h' 109 j = (x : Int)) → h' 104 16 = ((pd_rk D (pd_ob D) (D 0).toNat).length : Int) → (∀ j : Nat, j ≠ 16 → h' 104 j = h0 104 j) → (∀ c : Nat, c ≠ 104 → c ≠ 109 → h' c = h0 c) → post none h') :
    ∀ (n i : Nat) (h : bc_AH), (i : Int) + n = D 0 → (∀ (j x : Nat), (pd_rk D (pd_ob D) i)[j]? = some x → h 109 j = (x : Int)) → h 104 16 = ((pd_rk D (pd_ob D) i).length : Int) → (∀ j : Nat, j ≠ 16 → h 104 j = h0 104 j) → (∀ c : Nat, c ≠ 104 → c ≠ 109 → h c = h0 c) → bc_AT (d + 3) 109 post 7 [some (.inr (.inr 104)), some (.inl (i : Int)), none] [] h := by
  have v0 := hV.1
  intro n
  induction n with
  | zero =>
    intro i h hi h1 h2 h3 h4
    have hM : pd_M 106 D h := pd_M_fr hM0 (h4 106 (by omega) (by omega))
    refine bc_at ck_X7_laysRanks ?_
    simp only [k_X7_laysRanks, ↓vl_iconst, ↓vl_bipush, ↓vl_sipush, ↓vl_lconst, ↓vl_ldc, ↓vl_ldcw, ↓vl_ldc2, ↓vl_iload0, ↓vl_aload0, ↓vl_istore0, ↓vl_iinc0, ↓vl_iload1, ↓vl_aload1, ↓vl_istore1, ↓vl_iinc1, ↓vl_iload2, ↓vl_aload2, ↓vl_istore2, ↓vl_iinc2, ↓vl_iload3, ↓vl_aload3, ↓vl_istore3, ↓vl_iinc3, ↓vl_iload4, ↓vl_istore4, ↓vl_iinc4, ↓vl_iload5, ↓vl_istore5, ↓vl_iinc5, ↓vl_iload6, ↓vl_istore6, ↓vl_iinc6, ↓vl_iload7, ↓vl_istore7, ↓vl_iinc7, ↓vl_lload5, ↓vl_lstore5, ↓vl_iadd, ↓vl_isub, ↓vl_imul, ↓vl_iand, ↓vl_ior, ↓vl_ixor, ↓vl_ishl, ↓vl_ishr, ↓vl_iushr, ↓vl_idiv, ↓vl_irem, ↓vl_ladd, ↓vl_lsub, ↓vl_lmul, ↓vl_lcmp, ↓vl_i2l, ↓vl_dup, ↓vl_dup2, ↓vl_gotoF, ↓vl_gotoB, ↓vl_nnF, ↓vl_ic_eqF, ↓vl_if_eqF, ↓vl_ic_eqB, ↓vl_if_eqB, ↓vl_ic_neF, ↓vl_if_neF, ↓vl_ic_neB, ↓vl_if_neB, ↓vl_ic_ltF, ↓vl_if_ltF, ↓vl_ic_ltB, ↓vl_if_ltB, ↓vl_ic_geF, ↓vl_if_geF, ↓vl_ic_geB, ↓vl_if_geB, ↓vl_ic_gtF, ↓vl_if_gtF, ↓vl_ic_gtB, ↓vl_if_gtB, ↓vl_ic_leF, ↓vl_if_leF, ↓vl_ic_leB, ↓vl_if_leB, ↓vl_sw, ↓vl_get, ↓vl_putI, ↓vl_putL, ↓vl_iald, ↓vl_iast, ↓vl_alen, ↓vl_aald, ↓vl_iretI, ↓vl_iretZ, ↓vl_ret, ↓vl_mark, ↓vl_markT, ↓vl_skip, ↓vl_st0, ↓vl_vi0, ↓vl_st1, ↓vl_vi1, ↓vl_st2, ↓vl_vi2, ↓vl_st3, ↓vl_vi3, ↓vl_st4, ↓vl_vi4, ↓vl_st5, ↓vl_vi5, ↓vl_st6, ↓vl_vi6, ↓vl_min, ↓vl_max, ↓vl_cpy, ↓vk_kvs, ↓vk_kvn, ↓vk_gf0, ↓vk_gv0, ↓vk_gv1, ↓vk_gv2, ↓vk_pf, ↓vk_ar, ↓vk_arr, bc_lay, bc_fn, bc_mk, bc_cs, bc_cat, bc_nl, bc_nth, bc_en, bc_sw, true_and, and_true, ↓reduceIte, reduceCtorEq, Nat.reduceEqDiff, Nat.reduceLeDiff, Nat.reduceAdd, Nat.le_refl, Nat.zero_le, Int.cast_ofNat_Int, Int.reduceEq, eq_self, true_implies, false_implies, not_true_eq_false, not_false_eq_true, bc_vr, Int.reduceToNat, Int.toNat_natCast, Int.reduceLE, Int.reduceLT, Int.reduceNeg, true_or, or_true, forall_const, Int.reduceAdd, hM 0 (by omega)]
    have e : i = (D 0).toNat := by omega
    rw [← e] at kk
    refine ⟨⟨by omega, by omega⟩, ⟨by omega, by omega⟩, fun _ => kk h h1 h2 h3 h4, fun c => absurd c (by omega)⟩
  | succ n ih =>
    intro i h hi h1 h2 h3 h4
    have hM : pd_M 106 D h := pd_M_fr hM0 (h4 106 (by omega) (by omega))
    have hlen := pd_rk_len_mono (D := D) (p := pd_ob D) (i := i + 1) (D 0).toNat (by omega)
    refine bc_at ck_X7_laysRanks ?_
    simp only [k_X7_laysRanks, ↓vl_iconst, ↓vl_bipush, ↓vl_sipush, ↓vl_lconst, ↓vl_ldc, ↓vl_ldcw, ↓vl_ldc2, ↓vl_iload0, ↓vl_aload0, ↓vl_istore0, ↓vl_iinc0, ↓vl_iload1, ↓vl_aload1, ↓vl_istore1, ↓vl_iinc1, ↓vl_iload2, ↓vl_aload2, ↓vl_istore2, ↓vl_iinc2, ↓vl_iload3, ↓vl_aload3, ↓vl_istore3, ↓vl_iinc3, ↓vl_iload4, ↓vl_istore4, ↓vl_iinc4, ↓vl_iload5, ↓vl_istore5, ↓vl_iinc5, ↓vl_iload6, ↓vl_istore6, ↓vl_iinc6, ↓vl_iload7, ↓vl_istore7, ↓vl_iinc7, ↓vl_lload5, ↓vl_lstore5, ↓vl_iadd, ↓vl_isub, ↓vl_imul, ↓vl_iand, ↓vl_ior, ↓vl_ixor, ↓vl_ishl, ↓vl_ishr, ↓vl_iushr, ↓vl_idiv, ↓vl_irem, ↓vl_ladd, ↓vl_lsub, ↓vl_lmul, ↓vl_lcmp, ↓vl_i2l, ↓vl_dup, ↓vl_dup2, ↓vl_gotoF, ↓vl_gotoB, ↓vl_nnF, ↓vl_ic_eqF, ↓vl_if_eqF, ↓vl_ic_eqB, ↓vl_if_eqB, ↓vl_ic_neF, ↓vl_if_neF, ↓vl_ic_neB, ↓vl_if_neB, ↓vl_ic_ltF, ↓vl_if_ltF, ↓vl_ic_ltB, ↓vl_if_ltB, ↓vl_ic_geF, ↓vl_if_geF, ↓vl_ic_geB, ↓vl_if_geB, ↓vl_ic_gtF, ↓vl_if_gtF, ↓vl_ic_gtB, ↓vl_if_gtB, ↓vl_ic_leF, ↓vl_if_leF, ↓vl_ic_leB, ↓vl_if_leB, ↓vl_sw, ↓vl_get, ↓vl_putI, ↓vl_putL, ↓vl_iald, ↓vl_iast, ↓vl_alen, ↓vl_aald, ↓vl_iretI, ↓vl_iretZ, ↓vl_ret, ↓vl_mark, ↓vl_markT, ↓vl_skip, ↓vl_st0, ↓vl_vi0, ↓vl_st1, ↓vl_vi1, ↓vl_st2, ↓vl_vi2, ↓vl_st3, ↓vl_vi3, ↓vl_st4, ↓vl_vi4, ↓vl_st5, ↓vl_vi5, ↓vl_st6, ↓vl_vi6, ↓vl_min, ↓vl_max, ↓vl_cpy, ↓vk_kvs, ↓vk_kvn, ↓vk_gf0, ↓vk_gv0, ↓vk_gv1, ↓vk_gv2, ↓vk_pf, ↓vk_ar, ↓vk_arr, bc_lay, bc_fn, bc_mk, bc_cs, bc_cat, bc_nl, bc_nth, bc_en, bc_sw, true_and, and_true, ↓reduceIte, reduceCtorEq, Nat.reduceEqDiff, Nat.reduceLeDiff, Nat.reduceAdd, Nat.le_refl, Nat.zero_le, Int.cast_ofNat_Int, Int.reduceEq, eq_self, true_implies, false_implies, not_true_eq_false, not_false_eq_true, bc_vr, Int.reduceToNat, Int.toNat_natCast, Int.reduceLE, Int.reduceLT, Int.reduceNeg, true_or, or_true, forall_const, Int.reduceAdd, hM 0 (by omega)]
    refine ⟨⟨by omega, by omega⟩, ⟨by omega, by omega⟩, fun c => absurd c (by omega), fun _ => ?_⟩
    refine c7_isOpen hM hV ⟨by omega, by omega⟩ (fun _ _ hb => ?_) (fun hb => ?_)
    · simp only [Int.toNat_natCast] at hb
      have e : pd_rk D (pd_ob D) (i + 1) = pd_ins D i (pd_rk D (pd_ob D) i) := by rw [pd_rk, if_pos hb]
      rw [e, pd_ins_len] at hlen
      simp only [↓vl_iconst, ↓vl_bipush, ↓vl_sipush, ↓vl_lconst, ↓vl_ldc, ↓vl_ldcw, ↓vl_ldc2, ↓vl_iload0, ↓vl_aload0, ↓vl_istore0, ↓vl_iinc0, ↓vl_iload1, ↓vl_aload1, ↓vl_istore1, ↓vl_iinc1, ↓vl_iload2, ↓vl_aload2, ↓vl_istore2, ↓vl_iinc2, ↓vl_iload3, ↓vl_aload3, ↓vl_istore3, ↓vl_iinc3, ↓vl_iload4, ↓vl_istore4, ↓vl_iinc4, ↓vl_iload5, ↓vl_istore5, ↓vl_iinc5, ↓vl_iload6, ↓vl_istore6, ↓vl_iinc6, ↓vl_iload7, ↓vl_istore7, ↓vl_iinc7, ↓vl_lload5, ↓vl_lstore5, ↓vl_iadd, ↓vl_isub, ↓vl_imul, ↓vl_iand, ↓vl_ior, ↓vl_ixor, ↓vl_ishl, ↓vl_ishr, ↓vl_iushr, ↓vl_idiv, ↓vl_irem, ↓vl_ladd, ↓vl_lsub, ↓vl_lmul, ↓vl_lcmp, ↓vl_i2l, ↓vl_dup, ↓vl_dup2, ↓vl_gotoF, ↓vl_gotoB, ↓vl_nnF, ↓vl_ic_eqF, ↓vl_if_eqF, ↓vl_ic_eqB, ↓vl_if_eqB, ↓vl_ic_neF, ↓vl_if_neF, ↓vl_ic_neB, ↓vl_if_neB, ↓vl_ic_ltF, ↓vl_if_ltF, ↓vl_ic_ltB, ↓vl_if_ltB, ↓vl_ic_geF, ↓vl_if_geF, ↓vl_ic_geB, ↓vl_if_geB, ↓vl_ic_gtF, ↓vl_if_gtF, ↓vl_ic_gtB, ↓vl_if_gtB, ↓vl_ic_leF, ↓vl_if_leF, ↓vl_ic_leB, ↓vl_if_leB, ↓vl_sw, ↓vl_get, ↓vl_putI, ↓vl_putL, ↓vl_iald, ↓vl_iast, ↓vl_alen, ↓vl_aald, ↓vl_iretI, ↓vl_iretZ, ↓vl_ret, ↓vl_mark, ↓vl_markT, ↓vl_skip, ↓vl_st0, ↓vl_vi0, ↓vl_st1, ↓vl_vi1, ↓vl_st2, ↓vl_vi2, ↓vl_st3, ↓vl_vi3, ↓vl_st4, ↓vl_vi4, ↓vl_st5, ↓vl_vi5, ↓vl_st6, ↓vl_vi6, ↓vl_min, ↓vl_max, ↓vl_cpy, ↓vk_kvs, ↓vk_kvn, ↓vk_gf0, ↓vk_gv0, ↓vk_gv1, ↓vk_gv2, ↓vk_pf, ↓vk_ar, ↓vk_arr, bc_lay, bc_fn, bc_mk, bc_cs, bc_cat, bc_nl, bc_nth, bc_en, bc_sw, true_and, and_true, ↓reduceIte, reduceCtorEq, Nat.reduceEqDiff, Nat.reduceLeDiff, Nat.reduceAdd, Nat.le_refl, Nat.zero_le, Int.cast_ofNat_Int, Int.reduceEq, eq_self, true_implies, false_implies, not_true_eq_false, not_false_eq_true, bc_vr, Int.reduceToNat, Int.toNat_natCast, Int.reduceLE, Int.reduceLT, Int.reduceNeg, true_or, or_true, forall_const, Int.reduceAdd, h2]
      refine l7_ins hV (h0 := h) (by omega) (by omega) (fun x hx => by have := ((pd_rk_mem i).mp hx).1; omega) (pd_rk_sorted i) hM h2 (fun h' g1 g2 g3 g4 => ?_) _ h (by omega) (fun j x _ hx => h1 j x hx) (fun j x hj hx => ?_) (fun j x hj hx => ?_) rfl (fun _ _ => rfl)
      · have e2 : (i : Int) + 1 = ((i + 1 : Nat) : Int) := by omega
        rw [e2]
        refine ih (i + 1) h' (by omega) (by rw [e]; exact g1) (by rw [e, pd_ins_len, g2]; omega) (fun j hj => by rw [g3 j hj, h3 j hj]) (fun c c1 c2 => by rw [g4 c c1 c2, h4 c c1 c2])
      · obtain ⟨hq, -⟩ := List.getElem?_eq_some_iff.mp hx
        omega
      · obtain ⟨hq, -⟩ := List.getElem?_eq_some_iff.mp hx
        omega
    · have e : pd_rk D (pd_ob D) (i + 1) = pd_rk D (pd_ob D) i := by
        rw [pd_rk, if_neg (fun q => hb ⟨by omega, by simpa using q⟩)]
      simp only [↓vl_iconst, ↓vl_bipush, ↓vl_sipush, ↓vl_lconst, ↓vl_ldc, ↓vl_ldcw, ↓vl_ldc2, ↓vl_iload0, ↓vl_aload0, ↓vl_istore0, ↓vl_iinc0, ↓vl_iload1, ↓vl_aload1, ↓vl_istore1, ↓vl_iinc1, ↓vl_iload2, ↓vl_aload2, ↓vl_istore2, ↓vl_iinc2, ↓vl_iload3, ↓vl_aload3, ↓vl_istore3, ↓vl_iinc3, ↓vl_iload4, ↓vl_istore4, ↓vl_iinc4, ↓vl_iload5, ↓vl_istore5, ↓vl_iinc5, ↓vl_iload6, ↓vl_istore6, ↓vl_iinc6, ↓vl_iload7, ↓vl_istore7, ↓vl_iinc7, ↓vl_lload5, ↓vl_lstore5, ↓vl_iadd, ↓vl_isub, ↓vl_imul, ↓vl_iand, ↓vl_ior, ↓vl_ixor, ↓vl_ishl, ↓vl_ishr, ↓vl_iushr, ↓vl_idiv, ↓vl_irem, ↓vl_ladd, ↓vl_lsub, ↓vl_lmul, ↓vl_lcmp, ↓vl_i2l, ↓vl_dup, ↓vl_dup2, ↓vl_gotoF, ↓vl_gotoB, ↓vl_nnF, ↓vl_ic_eqF, ↓vl_if_eqF, ↓vl_ic_eqB, ↓vl_if_eqB, ↓vl_ic_neF, ↓vl_if_neF, ↓vl_ic_neB, ↓vl_if_neB, ↓vl_ic_ltF, ↓vl_if_ltF, ↓vl_ic_ltB, ↓vl_if_ltB, ↓vl_ic_geF, ↓vl_if_geF, ↓vl_ic_geB, ↓vl_if_geB, ↓vl_ic_gtF, ↓vl_if_gtF, ↓vl_ic_gtB, ↓vl_if_gtB, ↓vl_ic_leF, ↓vl_if_leF, ↓vl_ic_leB, ↓vl_if_leB, ↓vl_sw, ↓vl_get, ↓vl_putI, ↓vl_putL, ↓vl_iald, ↓vl_iast, ↓vl_alen, ↓vl_aald, ↓vl_iretI, ↓vl_iretZ, ↓vl_ret, ↓vl_mark, ↓vl_markT, ↓vl_skip, ↓vl_st0, ↓vl_vi0, ↓vl_st1, ↓vl_vi1, ↓vl_st2, ↓vl_vi2, ↓vl_st3, ↓vl_vi3, ↓vl_st4, ↓vl_vi4, ↓vl_st5, ↓vl_vi5, ↓vl_st6, ↓vl_vi6, ↓vl_min, ↓vl_max, ↓vl_cpy, ↓vk_kvs, ↓vk_kvn, ↓vk_gf0, ↓vk_gv0, ↓vk_gv1, ↓vk_gv2, ↓vk_pf, ↓vk_ar, ↓vk_arr, bc_lay, bc_fn, bc_mk, bc_cs, bc_cat, bc_nl, bc_nth, bc_en, bc_sw, true_and, and_true, ↓reduceIte, reduceCtorEq, Nat.reduceEqDiff, Nat.reduceLeDiff, Nat.reduceAdd, Nat.le_refl, Nat.zero_le, Int.cast_ofNat_Int, Int.reduceEq, eq_self, true_implies, false_implies, not_true_eq_false, not_false_eq_true, bc_vr, Int.reduceToNat, Int.toNat_natCast, Int.reduceLE, Int.reduceLT, Int.reduceNeg, true_or, or_true, forall_const, Int.reduceAdd]
      have e2 : (i : Int) + 1 = ((i + 1 : Nat) : Int) := by omega
      rw [e2]
      exact ih (i + 1) h (by omega) (by rw [e]; exact h1) (by rw [e]; exact h2) h3 h4
theorem c7_laysRanks (hM : pd_M 106 D h) (hV : pd_V D) (hl10 : (pd_rk D (pd_ob D) (D 0).toNat).length ≤ 10)
    (kk : ∀ h', (∀ (j x : Nat), (pd_rk D (pd_ob D) (D 0).toNat)[j]? = some x → h' 109 j = (x : Int)) → h' 104 16 = ((pd_rk D (pd_ob D) (D 0).toNat).length : Int) → (∀ j : Nat, j ≠ 16 → h' 104 j = h 104 j) → (∀ c : Nat, c ≠ 104 → c ≠ 109 → h' c = h c) → post none h') : bc_OK (d + 4) 109 [.inr (.inr 104)] h post := by
  have v0 := hV.1
  refine bc_run (n := 3) ck_X7_laysRanks rfl rfl rfl rfl (Nat.le_of_ble_eq_true rfl) ?_
  simp only [k_X7_laysRanks, ↓vl_iconst, ↓vl_bipush, ↓vl_sipush, ↓vl_lconst, ↓vl_ldc, ↓vl_ldcw, ↓vl_ldc2, ↓vl_iload0, ↓vl_aload0, ↓vl_istore0, ↓vl_iinc0, ↓vl_iload1, ↓vl_aload1, ↓vl_istore1, ↓vl_iinc1, ↓vl_iload2, ↓vl_aload2, ↓vl_istore2, ↓vl_iinc2, ↓vl_iload3, ↓vl_aload3, ↓vl_istore3, ↓vl_iinc3, ↓vl_iload4, ↓vl_istore4, ↓vl_iinc4, ↓vl_iload5, ↓vl_istore5, ↓vl_iinc5, ↓vl_iload6, ↓vl_istore6, ↓vl_iinc6, ↓vl_iload7, ↓vl_istore7, ↓vl_iinc7, ↓vl_lload5, ↓vl_lstore5, ↓vl_iadd, ↓vl_isub, ↓vl_imul, ↓vl_iand, ↓vl_ior, ↓vl_ixor, ↓vl_ishl, ↓vl_ishr, ↓vl_iushr, ↓vl_idiv, ↓vl_irem, ↓vl_ladd, ↓vl_lsub, ↓vl_lmul, ↓vl_lcmp, ↓vl_i2l, ↓vl_dup, ↓vl_dup2, ↓vl_gotoF, ↓vl_gotoB, ↓vl_nnF, ↓vl_ic_eqF, ↓vl_if_eqF, ↓vl_ic_eqB, ↓vl_if_eqB, ↓vl_ic_neF, ↓vl_if_neF, ↓vl_ic_neB, ↓vl_if_neB, ↓vl_ic_ltF, ↓vl_if_ltF, ↓vl_ic_ltB, ↓vl_if_ltB, ↓vl_ic_geF, ↓vl_if_geF, ↓vl_ic_geB, ↓vl_if_geB, ↓vl_ic_gtF, ↓vl_if_gtF, ↓vl_ic_gtB, ↓vl_if_gtB, ↓vl_ic_leF, ↓vl_if_leF, ↓vl_ic_leB, ↓vl_if_leB, ↓vl_sw, ↓vl_get, ↓vl_putI, ↓vl_putL, ↓vl_iald, ↓vl_iast, ↓vl_alen, ↓vl_aald, ↓vl_iretI, ↓vl_iretZ, ↓vl_ret, ↓vl_mark, ↓vl_markT, ↓vl_skip, ↓vl_st0, ↓vl_vi0, ↓vl_st1, ↓vl_vi1, ↓vl_st2, ↓vl_vi2, ↓vl_st3, ↓vl_vi3, ↓vl_st4, ↓vl_vi4, ↓vl_st5, ↓vl_vi5, ↓vl_st6, ↓vl_vi6, ↓vl_min, ↓vl_max, ↓vl_cpy, ↓vk_kvs, ↓vk_kvn, ↓vk_gf0, ↓vk_gv0, ↓vk_gv1, ↓vk_gv2, ↓vk_pf, ↓vk_ar, ↓vk_arr, bc_lay, bc_fn, bc_mk, bc_cs, bc_cat, bc_nl, bc_nth, bc_en, bc_sw, true_and, and_true, ↓reduceIte, reduceCtorEq, Nat.reduceEqDiff, Nat.reduceLeDiff, Nat.reduceAdd, Nat.le_refl, Nat.zero_le, Int.cast_ofNat_Int, Int.reduceEq, eq_self, true_implies, false_implies, not_true_eq_false, not_false_eq_true, bc_vr, Int.reduceToNat, Int.toNat_natCast, Int.reduceLE, Int.reduceLT, Int.reduceNeg, true_or, or_true, forall_const, Int.reduceAdd]
  refine l7_laysRanks hV hl10 hM kk (D 0).toNat 0 _ (by omega) (fun j x hx => by simp [pd_rk] at hx) (by simp [bc_up, pd_rk]) (fun j hj => by simp [bc_up, hj]) (fun c c1 c2 => by funext b; simp [bc_up, c1])
end MRanks
end
section
def bc_sx (t : Nat) : List bc_En → Option (List bc_En)
  | [] => none
  | e :: r => if e.1 = t then (if bc_isM e then some r else none) else bc_sx t r
theorem bc_atF {d mi : Nat} {post : Option bc_AV → bc_AH → Prop} {k ks : List bc_En} (hk : bc_code mi k = true) {t : Nat} (hf : bc_sx t k = some ks) {loc : List (Option bc_AV)} {st : List bc_AV} {h : bc_AH} (q : bc_vc d mi post ks none false loc st h) : bc_AT d mi post t loc st h := by
  refine bc_at hk ?_
  clear hk
  induction k with
  | nil => cases hf
  | cons e r ih =>
    rw [bc_sx] at hf
    unfold bc_vc
    dsimp only
    split at hf
    · rename_i he
      split at hf
      · rename_i hm
        cases hf
        rw [if_pos he]
        unfold bc_one
        rw [hm]
        exact q
      · cases hf
    · rename_i he
      rw [if_neg he]
      exact ih hf
def ks_X0_share_172 : List bc_En := (172, .return_, 1, []) :: []
def ks_X0_share_166 : List bc_En := (166, .iinc 1 1, 3, []) :: (169, .goto (-138), 3, [31, 1, 1, 0, 0, 0, 0]) :: ((172, .nop, 0, [0, 0, 0, 0, 0, 0]) :: ks_X0_share_172)
def ks_X0_share_31 : List bc_En := (31, .iload_n 1, 1, []) :: (32, .aload_n 0, 1, []) :: (33, .getfield 43, 3, [0, 4, 3]) :: (36, .if_icmp .ge 136, 3, [172]) :: (39, .iload_n 1, 1, []) :: (40, .bipush 10, 2, []) :: (42, .if_icmp .ge 130, 3, [172]) :: (45, .aload_n 0, 1, []) :: (46, .getfield 18, 3, [0, 2, 4]) :: (49, .iload_n 1, 1, []) :: (50, .iaload, 1, []) :: (51, .istore_n 2, 1, []) :: (52, .aload_n 0, 1, []) :: (53, .getfield 29, 3, [0, 0, 9]) :: (56, .iload_n 2, 1, []) :: (57, .invokevirtual 76, 3, [15, 8, 1, 1]) :: (60, .ifCond .eq 106, 3, [166]) :: (63, .iload_n 2, 1, []) :: (64, .aload_n 0, 1, []) :: (65, .getfield 56, 3, [0, 9, 7]) :: (68, .invokestatic 69, 3, [78, 6, 2]) :: (71, .ifCond .eq 95, 3, [166]) :: (74, .aload_n 0, 1, []) :: (75, .iload_n 2, 1, []) :: (76, .invokevirtual 82, 3, [10, 9, 1, 0]) :: (79, .istore_n 3, 1, []) :: (80, .aload_n 0, 1, []) :: (81, .getfield 12, 3, [0, 1, 2]) :: (84, .aload_n 0, 1, []) :: (85, .getfield 29, 3, [0, 0, 9]) :: (88, .getfield 86, 3, [1, 0, 10]) :: (91, .iload_n 2, 1, []) :: (92, .iaload, 1, []) :: (93, .aload_n 0, 1, []) :: (94, .getfield 29, 3, [0, 0, 9]) :: (97, .getfield 89, 3, [1, 4, 11]) :: (100, .iload_n 2, 1, []) :: (101, .iaload, 1, []) :: (102, .aload_n 0, 1, []) :: (103, .getfield 53, 3, [0, 8, 6]) :: (106, .invokevirtual 92, 3, [48, 10, 3, 4]) :: (109, .istore 4, 2, []) :: (111, .iload 4, 2, []) :: (113, .aload_n 0, 1, []) :: (114, .getfield 29, 3, [0, 0, 9]) :: (117, .getfield 96, 3, [1, 1, 12]) :: (120, .iload_n 2, 1, []) :: (121, .iaload, 1, []) :: (122, .iload_n 3, 1, []) :: (123, .isub, 1, []) :: (124, .invokestatic 99, 3, [1, 580]) :: (127, .istore 5, 2, []) :: (129, .aload_n 0, 1, []) :: (130, .getfield 12, 3, [0, 1, 2]) :: (133, .aload_n 0, 1, []) :: (134, .getfield 29, 3, [0, 0, 9]) :: (137, .getfield 86, 3, [1, 0, 10]) :: (140, .iload_n 2, 1, []) :: (141, .iaload, 1, []) :: (142, .aload_n 0, 1, []) :: (143, .getfield 29, 3, [0, 0, 9]) :: (146, .getfield 89, 3, [1, 4, 11]) :: (149, .iload_n 2, 1, []) :: (150, .iaload, 1, []) :: (151, .iload 5, 2, []) :: (153, .invokevirtual 105, 3, [45, 11, 3, 4]) :: (156, .aload_n 0, 1, []) :: (157, .getfield 22, 3, [0, 3, 8]) :: (160, .iload_n 2, 1, []) :: (161, .iload_n 3, 1, []) :: (162, .iload 5, 2, []) :: (164, .iadd, 1, []) :: (165, .iastore, 1, []) :: ((166, .nop, 0, [1, 1, 0, 0, 0, 0]) :: ks_X0_share_166)
def ks_X0_share_2 : List bc_En := (2, .iload_n 1, 1, []) :: (3, .bipush 24, 2, []) :: (5, .if_icmp .ge 16, 3, [21]) :: (8, .aload_n 0, 1, []) :: (9, .getfield 22, 3, [0, 3, 8]) :: (12, .iload_n 1, 1, []) :: (13, .iconst 0, 1, []) :: (14, .iastore, 1, []) :: (15, .iinc 1 1, 3, []) :: (18, .goto (-16), 3, [2, 1, 1, 0, 0, 0, 0]) :: (21, .aload_n 0, 1, []) :: (22, .aload_n 0, 1, []) :: (23, .getfield 56, 3, [0, 9, 7]) :: (26, .invokevirtual 73, 3, [7, 7, 1, 0]) :: (29, .iconst 0, 1, []) :: (30, .istore_n 1, 1, []) :: ((31, .nop, 0, [1, 1, 0, 0, 0, 0]) :: ks_X0_share_31)
def k_X0_share : List bc_En := (0, .iconst 0, 1, []) :: (1, .istore_n 1, 1, []) :: ((2, .nop, 0, [1, 1, 0, 0, 0, 0]) :: ks_X0_share_2)
theorem ck_X0_share : bc_code 5 k_X0_share = true := by decide +kernel
set_option maxRecDepth 20000 in
theorem at_X0_share_2 {d : Nat} {post : Option bc_AV → bc_AH → Prop} {loc : List (Option bc_AV)} {st : List bc_AV} {h : bc_AH} (q : bc_vc d 5 post ks_X0_share_2 none false loc st h) : bc_AT d 5 post 2 loc st h := bc_atF ck_X0_share (by rfl) q
set_option maxRecDepth 20000 in
theorem at_X0_share_31 {d : Nat} {post : Option bc_AV → bc_AH → Prop} {loc : List (Option bc_AV)} {st : List bc_AV} {h : bc_AH} (q : bc_vc d 5 post ks_X0_share_31 none false loc st h) : bc_AT d 5 post 31 loc st h := bc_atF ck_X0_share (by rfl) q
set_option maxRecDepth 20000 in
theorem at_X0_share_166 {d : Nat} {post : Option bc_AV → bc_AH → Prop} {loc : List (Option bc_AV)} {st : List bc_AV} {h : bc_AH} (q : bc_vc d 5 post ks_X0_share_166 none false loc st h) : bc_AT d 5 post 166 loc st h := bc_atF ck_X0_share (by rfl) q
set_option maxRecDepth 20000 in
theorem at_X0_share_172 {d : Nat} {post : Option bc_AV → bc_AH → Prop} {loc : List (Option bc_AV)} {st : List bc_AV} {h : bc_AH} (q : bc_vc d 5 post ks_X0_share_172 none false loc st h) : bc_AT d 5 post 172 loc st h := bc_atF ck_X0_share (by rfl) q
def k_X1_clear : List bc_En := [(0, .aload_n 0, 1, []), (1, .iconst 0, 1, []), (2, .putfield 43, 3, [1, 8, 15]), (5, .aload_n 0, 1, []), (6, .iconst 0, 1, []), (7, .putfield 46, 3, [1, 9, 16]), (10, .aload_n 0, 1, []), (11, .iconst 0, 1, []), (12, .putfield 49, 3, [1, 10, 17]), (15, .aload_n 0, 1, []), (16, .iconst 0, 1, []), (17, .putfield 52, 3, [1, 11, 18]), (20, .aload_n 0, 1, []), (21, .iconst (-1), 1, []), (22, .putfield 36, 3, [1, 12, 19]), (25, .aload_n 0, 1, []), (26, .iconst (-1), 1, []), (27, .putfield 40, 3, [1, 13, 20]), (30, .aload_n 0, 1, []), (31, .iconst 0, 1, []), (32, .putfield 55, 3, [1, 14, 21]), (35, .return_, 1, [])]
theorem ck_X1_clear : bc_code 12 k_X1_clear = true := by decide +kernel
def k_X1_copy : List bc_En := [(0, .aload_n 1, 1, []), (1, .getfield 9, 3, [1, 0, 22]), (4, .iconst 0, 1, []), (5, .aload_n 0, 1, []), (6, .getfield 9, 3, [1, 0, 22]), (9, .iconst 0, 1, []), (10, .bipush 24, 2, []), (12, .invokestatic 58, 3, [455]), (15, .aload_n 1, 1, []), (16, .getfield 15, 3, [1, 1, 23]), (19, .iconst 0, 1, []), (20, .aload_n 0, 1, []), (21, .getfield 15, 3, [1, 1, 23]), (24, .iconst 0, 1, []), (25, .bipush 24, 2, []), (27, .invokestatic 58, 3, [455]), (30, .aload_n 1, 1, []), (31, .getfield 18, 3, [1, 2, 24]), (34, .iconst 0, 1, []), (35, .aload_n 0, 1, []), (36, .getfield 18, 3, [1, 2, 24]), (39, .iconst 0, 1, []), (40, .bipush 24, 2, []), (42, .invokestatic 58, 3, [455]), (45, .aload_n 1, 1, []), (46, .getfield 21, 3, [1, 3, 25]), (49, .iconst 0, 1, []), (50, .aload_n 0, 1, []), (51, .getfield 21, 3, [1, 3, 25]), (54, .iconst 0, 1, []), (55, .bipush 24, 2, []), (57, .invokestatic 58, 3, [455]), (60, .aload_n 1, 1, []), (61, .getfield 24, 3, [1, 4, 26]), (64, .iconst 0, 1, []), (65, .aload_n 0, 1, []), (66, .getfield 24, 3, [1, 4, 26]), (69, .iconst 0, 1, []), (70, .bipush 24, 2, []), (72, .invokestatic 58, 3, [455]), (75, .aload_n 1, 1, []), (76, .getfield 27, 3, [1, 5, 27]), (79, .iconst 0, 1, []), (80, .aload_n 0, 1, []), (81, .getfield 27, 3, [1, 5, 27]), (84, .iconst 0, 1, []), (85, .bipush 24, 2, []), (87, .invokestatic 58, 3, [455]), (90, .aload_n 1, 1, []), (91, .getfield 30, 3, [1, 6, 28]), (94, .iconst 0, 1, []), (95, .aload_n 0, 1, []), (96, .getfield 30, 3, [1, 6, 28]), (99, .iconst 0, 1, []), (100, .bipush 24, 2, []), (102, .invokestatic 58, 3, [455]), (105, .aload_n 1, 1, []), (106, .getfield 33, 3, [1, 7, 29]), (109, .iconst 0, 1, []), (110, .aload_n 0, 1, []), (111, .getfield 33, 3, [1, 7, 29]), (114, .iconst 0, 1, []), (115, .bipush 24, 2, []), (117, .invokestatic 58, 3, [455]), (120, .aload_n 0, 1, []), (121, .aload_n 1, 1, []), (122, .getfield 43, 3, [1, 8, 15]), (125, .putfield 43, 3, [1, 8, 15]), (128, .aload_n 0, 1, []), (129, .aload_n 1, 1, []), (130, .getfield 46, 3, [1, 9, 16]), (133, .putfield 46, 3, [1, 9, 16]), (136, .aload_n 0, 1, []), (137, .aload_n 1, 1, []), (138, .getfield 49, 3, [1, 10, 17]), (141, .putfield 49, 3, [1, 10, 17]), (144, .aload_n 0, 1, []), (145, .aload_n 1, 1, []), (146, .getfield 52, 3, [1, 11, 18]), (149, .putfield 52, 3, [1, 11, 18]), (152, .aload_n 0, 1, []), (153, .aload_n 1, 1, []), (154, .getfield 36, 3, [1, 12, 19]), (157, .putfield 36, 3, [1, 12, 19]), (160, .aload_n 0, 1, []), (161, .aload_n 1, 1, []), (162, .getfield 40, 3, [1, 13, 20]), (165, .putfield 40, 3, [1, 13, 20]), (168, .aload_n 0, 1, []), (169, .aload_n 1, 1, []), (170, .getfield 55, 3, [1, 14, 21]), (173, .putfield 55, 3, [1, 14, 21]), (176, .return_, 1, [])]
theorem ck_X1_copy : bc_code 13 k_X1_copy = true := by decide +kernel
def k_X1_add : List bc_En := [(0, .aload_n 0, 1, []), (1, .getfield 43, 3, [1, 8, 15]), (4, .ifCond .lt 12, 3, [16]), (7, .aload_n 0, 1, []), (8, .getfield 43, 3, [1, 8, 15]), (11, .bipush 24, 2, []), (13, .if_icmp .lt 4, 3, [17]), (16, .return_, 1, []), (17, .aload_n 0, 1, []), (18, .getfield 9, 3, [1, 0, 22]), (21, .aload_n 0, 1, []), (22, .getfield 43, 3, [1, 8, 15]), (25, .iload_n 1, 1, []), (26, .iastore, 1, []), (27, .aload_n 0, 1, []), (28, .getfield 15, 3, [1, 1, 23]), (31, .aload_n 0, 1, []), (32, .getfield 43, 3, [1, 8, 15]), (35, .iload_n 2, 1, []), (36, .iastore, 1, []), (37, .aload_n 0, 1, []), (38, .getfield 18, 3, [1, 2, 24]), (41, .aload_n 0, 1, []), (42, .getfield 43, 3, [1, 8, 15]), (45, .iload_n 3, 1, []), (46, .iastore, 1, []), (47, .aload_n 0, 1, []), (48, .getfield 21, 3, [1, 3, 25]), (51, .aload_n 0, 1, []), (52, .getfield 43, 3, [1, 8, 15]), (55, .iload 4, 2, []), (57, .iastore, 1, []), (58, .aload_n 0, 1, []), (59, .getfield 24, 3, [1, 4, 26]), (62, .aload_n 0, 1, []), (63, .getfield 43, 3, [1, 8, 15]), (66, .iload 5, 2, []), (68, .iastore, 1, []), (69, .aload_n 0, 1, []), (70, .getfield 27, 3, [1, 5, 27]), (73, .aload_n 0, 1, []), (74, .getfield 43, 3, [1, 8, 15]), (77, .iconst 0, 1, []), (78, .iastore, 1, []), (79, .aload_n 0, 1, []), (80, .getfield 30, 3, [1, 6, 28]), (83, .aload_n 0, 1, []), (84, .getfield 43, 3, [1, 8, 15]), (87, .iconst 0, 1, []), (88, .iastore, 1, []), (89, .aload_n 0, 1, []), (90, .getfield 33, 3, [1, 7, 29]), (93, .aload_n 0, 1, []), (94, .getfield 43, 3, [1, 8, 15]), (97, .iconst 0, 1, []), (98, .iastore, 1, []), (99, .aload_n 0, 1, []), (100, .dup, 1, []), (101, .getfield 43, 3, [1, 8, 15]), (104, .iconst 1, 1, []), (105, .iadd, 1, []), (106, .putfield 43, 3, [1, 8, 15]), (109, .return_, 1, [])]
theorem ck_X1_add : bc_code 14 k_X1_add = true := by decide +kernel
def ks_X1_openAhead_4 : List bc_En := (4, .iload_n 3, 1, []) :: (5, .aload_n 0, 1, []) :: (6, .getfield 43, 3, [1, 8, 15]) :: (9, .if_icmp .ge 29, 3, [38]) :: (12, .aload_n 0, 1, []) :: (13, .iload_n 3, 1, []) :: (14, .invokevirtual 68, 3, [16, 15, 1, 1]) :: (17, .ifCond .eq 15, 3, [32]) :: (20, .aload_n 0, 1, []) :: (21, .iload_n 3, 1, []) :: (22, .iload_n 1, 1, []) :: (23, .invokevirtual 75, 3, [20, 17, 2, 1]) :: (26, .ifCond .eq 6, 3, [32]) :: (29, .iinc 2 1, 3, []) :: (32, .iinc 3 1, 3, []) :: (35, .goto (-31), 3, [4, 1, 1, 1, 1]) :: (38, .iload_n 2, 1, []) :: (39, .ireturn, 1, [0]) :: []
def k_X1_openAhead : List bc_En := (0, .iconst 0, 1, []) :: (1, .istore_n 2, 1, []) :: (2, .iconst 0, 1, []) :: (3, .istore_n 3, 1, []) :: ((4, .nop, 0, [1, 1, 1, 1]) :: ks_X1_openAhead_4)
theorem ck_X1_openAhead : bc_code 21 k_X1_openAhead = true := by decide +kernel
set_option maxRecDepth 20000 in
theorem at_X1_openAhead_4 {d : Nat} {post : Option bc_AV → bc_AH → Prop} {loc : List (Option bc_AV)} {st : List bc_AV} {h : bc_AH} (q : bc_vc d 21 post ks_X1_openAhead_4 none false loc st h) : bc_AT d 21 post 4 loc st h := bc_atF ck_X1_openAhead (by rfl) q
def ks_X1_sizeAcross_4 : List bc_En := (4, .iload_n 3, 1, []) :: (5, .aload_n 0, 1, []) :: (6, .getfield 43, 3, [1, 8, 15]) :: (9, .if_icmp .ge 68, 3, [77]) :: (12, .aload_n 0, 1, []) :: (13, .iload_n 3, 1, []) :: (14, .aload_n 0, 1, []) :: (15, .getfield 46, 3, [1, 9, 16]) :: (18, .invokevirtual 71, 3, [17, 16, 2, 1]) :: (21, .ifCond .eq 50, 3, [71]) :: (24, .aload_n 0, 1, []) :: (25, .iload_n 1, 1, []) :: (26, .invokevirtual 64, 3, [15, 14, 1, 1]) :: (29, .ifCond .eq 42, 3, [71]) :: (32, .aload_n 0, 1, []) :: (33, .getfield 9, 3, [1, 0, 22]) :: (36, .iload_n 3, 1, []) :: (37, .iaload, 1, []) :: (38, .aload_n 0, 1, []) :: (39, .getfield 9, 3, [1, 0, 22]) :: (42, .iload_n 1, 1, []) :: (43, .iaload, 1, []) :: (44, .if_icmp .eq 27, 3, [71]) :: (47, .aload_n 0, 1, []) :: (48, .getfield 24, 3, [1, 4, 26]) :: (51, .iload_n 3, 1, []) :: (52, .iaload, 1, []) :: (53, .aload_n 0, 1, []) :: (54, .getfield 24, 3, [1, 4, 26]) :: (57, .iload_n 1, 1, []) :: (58, .iaload, 1, []) :: (59, .if_icmp .eq 12, 3, [71]) :: (62, .iload_n 2, 1, []) :: (63, .aload_n 0, 1, []) :: (64, .getfield 15, 3, [1, 1, 23]) :: (67, .iload_n 3, 1, []) :: (68, .iaload, 1, []) :: (69, .iadd, 1, []) :: (70, .istore_n 2, 1, []) :: (71, .iinc 3 1, 3, []) :: (74, .goto (-70), 3, [4, 1, 1, 1, 1]) :: (77, .iload_n 2, 1, []) :: (78, .ireturn, 1, [0]) :: []
def k_X1_sizeAcross : List bc_En := (0, .iconst 0, 1, []) :: (1, .istore_n 2, 1, []) :: (2, .iconst 0, 1, []) :: (3, .istore_n 3, 1, []) :: ((4, .nop, 0, [1, 1, 1, 1]) :: ks_X1_sizeAcross_4)
theorem ck_X1_sizeAcross : bc_code 22 k_X1_sizeAcross = true := by decide +kernel
set_option maxRecDepth 20000 in
theorem at_X1_sizeAcross_4 {d : Nat} {post : Option bc_AV → bc_AH → Prop} {loc : List (Option bc_AV)} {st : List bc_AV} {h : bc_AH} (q : bc_vc d 22 post ks_X1_sizeAcross_4 none false loc st h) : bc_AT d 22 post 4 loc st h := bc_atF ck_X1_sizeAcross (by rfl) q
def ks_X1_trade_173 : List bc_En := (173, .aload_n 0, 1, []) :: (174, .dup, 1, []) :: (175, .getfield 49, 3, [1, 10, 17]) :: (178, .iconst 1, 1, []) :: (179, .iadd, 1, []) :: (180, .putfield 49, 3, [1, 10, 17]) :: (183, .aload_n 0, 1, []) :: (184, .dup, 1, []) :: (185, .getfield 52, 3, [1, 11, 18]) :: (188, .iload_n 3, 1, []) :: (189, .iadd, 1, []) :: (190, .putfield 52, 3, [1, 11, 18]) :: (193, .aload_n 0, 1, []) :: (194, .iload_n 3, 1, []) :: (195, .putfield 36, 3, [1, 12, 19]) :: (198, .aload_n 0, 1, []) :: (199, .aload_n 0, 1, []) :: (200, .getfield 46, 3, [1, 9, 16]) :: (203, .putfield 40, 3, [1, 13, 20]) :: (206, .aload_n 0, 1, []) :: (207, .iload_n 1, 1, []) :: (208, .putfield 55, 3, [1, 14, 21]) :: (211, .return_, 1, []) :: []
def ks_X1_trade_167 : List bc_En := (167, .iinc 6 1, 3, []) :: (170, .goto (-151), 3, [19, 1, 1, 1, 1, 1, 1, 1]) :: ((173, .nop, 0, [1, 1, 0, 1, 0, 0, 0]) :: ks_X1_trade_173)
def ks_X1_trade_153 : List bc_En := (153, .iconst 1, 1, []) :: (154, .aload_n 0, 1, []) :: (155, .getfield 24, 3, [1, 4, 26]) :: (158, .iload 6, 2, []) :: (160, .iaload, 1, []) :: (161, .ishl, 1, []) :: (162, .iconst (-1), 1, []) :: (163, .ixor, 1, []) :: (164, .iand, 1, []) :: (165, .ior, 1, []) :: (166, .iastore, 1, []) :: ((167, .nop, 0, [1, 1, 1, 1, 1, 1, 1]) :: ks_X1_trade_167)
def ks_X1_trade_126 : List bc_En := (126, .iastore, 1, []) :: (127, .aload_n 0, 1, []) :: (128, .getfield 33, 3, [1, 7, 29]) :: (131, .iload 6, 2, []) :: (133, .dup2, 1, []) :: (134, .iaload, 1, []) :: (135, .aload_n 0, 1, []) :: (136, .getfield 9, 3, [1, 0, 22]) :: (139, .iload 6, 2, []) :: (141, .iaload, 1, []) :: (142, .iconst 1, 1, []) :: (143, .if_icmp .ne 8, 3, [151]) :: (146, .iload 4, 2, []) :: (148, .goto 5, 3, [153]) :: (151, .iload 5, 2, []) :: ((153, .nop, 0, [1, 1, 1, 1, 1, 1, 1]) :: ks_X1_trade_153)
def ks_X1_trade_19 : List bc_En := (19, .iload 6, 2, []) :: (21, .aload_n 0, 1, []) :: (22, .getfield 43, 3, [1, 8, 15]) :: (25, .if_icmp .ge 148, 3, [173]) :: (28, .aload_n 0, 1, []) :: (29, .iload 6, 2, []) :: (31, .invokevirtual 64, 3, [15, 14, 1, 1]) :: (34, .ifCond .eq 133, 3, [167]) :: (37, .iload 6, 2, []) :: (39, .aload_n 2, 1, []) :: (40, .arraylength, 1, []) :: (41, .if_icmp .ge 126, 3, [167]) :: (44, .iload 6, 2, []) :: (46, .iload_n 1, 1, []) :: (47, .invokestatic 82, 3, [78, 19, 2]) :: (50, .ifCond .eq 117, 3, [167]) :: (53, .aload_n 0, 1, []) :: (54, .getfield 15, 3, [1, 1, 23]) :: (57, .iload 6, 2, []) :: (59, .dup2, 1, []) :: (60, .iaload, 1, []) :: (61, .aload_n 2, 1, []) :: (62, .iload 6, 2, []) :: (64, .iaload, 1, []) :: (65, .isub, 1, []) :: (66, .iastore, 1, []) :: (67, .aload_n 0, 1, []) :: (68, .getfield 30, 3, [1, 6, 28]) :: (71, .iload 6, 2, []) :: (73, .dup2, 1, []) :: (74, .iaload, 1, []) :: (75, .aload_n 2, 1, []) :: (76, .iload 6, 2, []) :: (78, .iaload, 1, []) :: (79, .iadd, 1, []) :: (80, .iastore, 1, []) :: (81, .aload_n 0, 1, []) :: (82, .getfield 18, 3, [1, 2, 24]) :: (85, .iload 6, 2, []) :: (87, .aload_n 0, 1, []) :: (88, .getfield 18, 3, [1, 2, 24]) :: (91, .iload 6, 2, []) :: (93, .iaload, 1, []) :: (94, .aload_n 0, 1, []) :: (95, .getfield 15, 3, [1, 1, 23]) :: (98, .iload 6, 2, []) :: (100, .iaload, 1, []) :: (101, .invokestatic 85, 3, [1, 669]) :: (104, .iastore, 1, []) :: (105, .aload_n 0, 1, []) :: (106, .getfield 27, 3, [1, 5, 27]) :: (109, .iload 6, 2, []) :: (111, .aload_n 0, 1, []) :: (112, .getfield 15, 3, [1, 1, 23]) :: (115, .iload 6, 2, []) :: (117, .iaload, 1, []) :: (118, .ifCond .ne 7, 3, [125]) :: (121, .iconst 2, 1, []) :: (122, .goto 4, 3, [126]) :: (125, .iconst 0, 1, []) :: ((126, .nop, 0, [1, 1, 1, 1, 1, 1, 1]) :: ks_X1_trade_126)
def k_X1_trade : List bc_En := (0, .aload_n 0, 1, []) :: (1, .iload_n 1, 1, []) :: (2, .iconst 0, 1, []) :: (3, .invokevirtual 78, 3, [24, 18, 2, 1]) :: (6, .istore 4, 2, []) :: (8, .aload_n 0, 1, []) :: (9, .iload_n 1, 1, []) :: (10, .iconst 1, 1, []) :: (11, .invokevirtual 78, 3, [24, 18, 2, 1]) :: (14, .istore 5, 2, []) :: (16, .iconst 0, 1, []) :: (17, .istore 6, 2, []) :: ((19, .nop, 0, [1, 1, 1, 1, 1, 1, 1]) :: ks_X1_trade_19)
theorem ck_X1_trade : bc_code 23 k_X1_trade = true := by decide +kernel
set_option maxRecDepth 20000 in
theorem at_X1_trade_19 {d : Nat} {post : Option bc_AV → bc_AH → Prop} {loc : List (Option bc_AV)} {st : List bc_AV} {h : bc_AH} (q : bc_vc d 23 post ks_X1_trade_19 none false loc st h) : bc_AT d 23 post 19 loc st h := bc_atF ck_X1_trade (by rfl) q
set_option maxRecDepth 20000 in
theorem at_X1_trade_126 {d : Nat} {post : Option bc_AV → bc_AH → Prop} {loc : List (Option bc_AV)} {st : List bc_AV} {h : bc_AH} (q : bc_vc d 23 post ks_X1_trade_126 none false loc st h) : bc_AT d 23 post 126 loc st h := bc_atF ck_X1_trade (by rfl) q
set_option maxRecDepth 20000 in
theorem at_X1_trade_153 {d : Nat} {post : Option bc_AV → bc_AH → Prop} {loc : List (Option bc_AV)} {st : List bc_AV} {h : bc_AH} (q : bc_vc d 23 post ks_X1_trade_153 none false loc st h) : bc_AT d 23 post 153 loc st h := bc_atF ck_X1_trade (by rfl) q
set_option maxRecDepth 20000 in
theorem at_X1_trade_167 {d : Nat} {post : Option bc_AV → bc_AH → Prop} {loc : List (Option bc_AV)} {st : List bc_AV} {h : bc_AH} (q : bc_vc d 23 post ks_X1_trade_167 none false loc st h) : bc_AT d 23 post 167 loc st h := bc_atF ck_X1_trade (by rfl) q
set_option maxRecDepth 20000 in
theorem at_X1_trade_173 {d : Nat} {post : Option bc_AV → bc_AH → Prop} {loc : List (Option bc_AV)} {st : List bc_AV} {h : bc_AH} (q : bc_vc d 23 post ks_X1_trade_173 none false loc st h) : bc_AT d 23 post 173 loc st h := bc_atF ck_X1_trade (by rfl) q
def ks_X1_firmsOf_5 : List bc_En := (5, .iload 4, 2, []) :: (7, .aload_n 0, 1, []) :: (8, .getfield 43, 3, [1, 8, 15]) :: (11, .if_icmp .ge 50, 3, [61]) :: (14, .aload_n 0, 1, []) :: (15, .iload 4, 2, []) :: (17, .invokevirtual 64, 3, [15, 14, 1, 1]) :: (20, .ifCond .eq 35, 3, [55]) :: (23, .iload 4, 2, []) :: (25, .iload_n 1, 1, []) :: (26, .invokestatic 82, 3, [78, 19, 2]) :: (29, .ifCond .eq 26, 3, [55]) :: (32, .aload_n 0, 1, []) :: (33, .getfield 9, 3, [1, 0, 22]) :: (36, .iload 4, 2, []) :: (38, .iaload, 1, []) :: (39, .iload_n 2, 1, []) :: (40, .if_icmp .ne 15, 3, [55]) :: (43, .iload_n 3, 1, []) :: (44, .iconst 1, 1, []) :: (45, .aload_n 0, 1, []) :: (46, .getfield 24, 3, [1, 4, 26]) :: (49, .iload 4, 2, []) :: (51, .iaload, 1, []) :: (52, .ishl, 1, []) :: (53, .ior, 1, []) :: (54, .istore_n 3, 1, []) :: (55, .iinc 4 1, 3, []) :: (58, .goto (-53), 3, [5, 1, 1, 1, 1, 1]) :: (61, .iload_n 3, 1, []) :: (62, .ireturn, 1, [0]) :: []
def k_X1_firmsOf : List bc_En := (0, .iconst 0, 1, []) :: (1, .istore_n 3, 1, []) :: (2, .iconst 0, 1, []) :: (3, .istore 4, 2, []) :: ((5, .nop, 0, [1, 1, 1, 1, 1]) :: ks_X1_firmsOf_5)
theorem ck_X1_firmsOf : bc_code 24 k_X1_firmsOf = true := by decide +kernel
set_option maxRecDepth 20000 in
theorem at_X1_firmsOf_5 {d : Nat} {post : Option bc_AV → bc_AH → Prop} {loc : List (Option bc_AV)} {st : List bc_AV} {h : bc_AH} (q : bc_vc d 24 post ks_X1_firmsOf_5 none false loc st h) : bc_AT d 24 post 5 loc st h := bc_atF ck_X1_firmsOf (by rfl) q
def k_X2_keep : List bc_En := [(0, .aload_n 0, 1, []), (1, .getfield 16, 3, [2, 1, 30]), (4, .ifCond .lt 24, 3, [28]), (7, .aload_n 0, 1, []), (8, .getfield 16, 3, [2, 1, 30]), (11, .bipush 8, 2, []), (13, .if_icmp .ge 15, 3, [28]), (16, .aload_n 0, 1, []), (17, .getfield 11, 3, [2, 0, 31]), (20, .aload_n 0, 1, []), (21, .getfield 16, 3, [2, 1, 30]), (24, .aaload, 1, []), (25, .ifnonnull 4, 3, [29]), (28, .return_, 1, []), (29, .aload_n 0, 1, []), (30, .getfield 11, 3, [2, 0, 31]), (33, .aload_n 0, 1, []), (34, .getfield 16, 3, [2, 1, 30]), (37, .aaload, 1, []), (38, .aload_n 1, 1, []), (39, .invokevirtual 20, 3, [13, 20, 1, 1]), (42, .aload_n 0, 1, []), (43, .aload_n 0, 1, []), (44, .getfield 16, 3, [2, 1, 30]), (47, .iconst 1, 1, []), (48, .iadd, 1, []), (49, .bipush 8, 2, []), (51, .irem, 1, []), (52, .putfield 16, 3, [2, 1, 30]), (55, .aload_n 0, 1, []), (56, .aload_n 0, 1, []), (57, .getfield 24, 3, [2, 2, 32]), (60, .iconst 1, 1, []), (61, .iadd, 1, []), (62, .bipush 8, 2, []), (64, .invokestatic 27, 3, [1, 638]), (67, .putfield 24, 3, [2, 2, 32]), (70, .return_, 1, [])]
theorem ck_X2_keep : bc_code 26 k_X2_keep = true := by decide +kernel
def k_X2_restore : List bc_En := [(0, .aload_n 0, 1, []), (1, .getfield 16, 3, [2, 1, 30]), (4, .bipush 8, 2, []), (6, .iadd, 1, []), (7, .iconst 1, 1, []), (8, .isub, 1, []), (9, .bipush 8, 2, []), (11, .irem, 1, []), (12, .istore_n 2, 1, []), (13, .aload_n 0, 1, []), (14, .getfield 24, 3, [2, 2, 32]), (17, .ifCond .eq 16, 3, [33]), (20, .iload_n 2, 1, []), (21, .ifCond .lt 12, 3, [33]), (24, .aload_n 0, 1, []), (25, .getfield 11, 3, [2, 0, 31]), (28, .iload_n 2, 1, []), (29, .aaload, 1, []), (30, .ifnonnull 5, 3, [35]), (33, .iconst 0, 1, []), (34, .ireturn, 1, [1]), (35, .aload_n 1, 1, []), (36, .aload_n 0, 1, []), (37, .getfield 11, 3, [2, 0, 31]), (40, .iload_n 2, 1, []), (41, .aaload, 1, []), (42, .invokevirtual 20, 3, [13, 20, 1, 1]), (45, .aload_n 0, 1, []), (46, .iload_n 2, 1, []), (47, .putfield 16, 3, [2, 1, 30]), (50, .aload_n 0, 1, []), (51, .dup, 1, []), (52, .getfield 24, 3, [2, 2, 32]), (55, .iconst 1, 1, []), (56, .isub, 1, []), (57, .putfield 24, 3, [2, 2, 32]), (60, .iconst 1, 1, []), (61, .ireturn, 1, [1])]
theorem ck_X2_restore : bc_code 27 k_X2_restore = true := by decide +kernel
def k_X2_forget : List bc_En := [(0, .aload_n 0, 1, []), (1, .iconst 0, 1, []), (2, .putfield 24, 3, [2, 2, 32]), (5, .return_, 1, [])]
theorem ck_X2_forget : bc_code 28 k_X2_forget = true := by decide +kernel
def ks_X3_read_74 : List bc_En := (74, .iinc 2 1, 3, []) :: (77, .goto (-61), 3, [16, 1, 1, 1]) :: (80, .iconst (-1), 1, []) :: (81, .ireturn, 1, [0]) :: []
def ks_X3_read_49 : List bc_En := (49, .iload_n 2, 1, []) :: (50, .ifCond .ne 14, 3, [64]) :: (53, .aload_n 0, 1, []) :: (54, .aload_n 1, 1, []) :: (55, .invokevirtual 38, 3, [31, 23, 1, 3]) :: (58, .ifCond .eq 14, 3, [72]) :: (61, .goto 13, 3, [74]) :: (64, .aload_n 0, 1, []) :: (65, .aload_n 1, 1, []) :: (66, .invokevirtual 42, 3, [32, 24, 1, 3]) :: (69, .ifCond .ne 5, 3, [74]) :: (72, .iconst (-1), 1, []) :: (73, .ireturn, 1, [0]) :: ((74, .nop, 0, [1, 1, 1]) :: ks_X3_read_74)
def ks_X3_read_16 : List bc_En := (16, .iload_n 2, 1, []) :: (17, .bipush 11, 2, []) :: (19, .if_icmp .gt 61, 3, [80]) :: (22, .aload_n 0, 1, []) :: (23, .invokevirtual 27, 3, [36, 22, 0, 3]) :: (26, .aload_n 0, 1, []) :: (27, .getfield 30, 3, [3, 3, 35]) :: (30, .iconst 1, 1, []) :: (31, .if_icmp .ne 18, 3, [49]) :: (34, .aload_n 0, 1, []) :: (35, .getfield 9, 3, [3, 0, 36]) :: (38, .getfield 33, 3, [5, 1, 37]) :: (41, .sipush 400, 3, []) :: (44, .if_icmp .gt 5, 3, [49]) :: (47, .iload_n 2, 1, []) :: (48, .ireturn, 1, [0]) :: ((49, .nop, 0, [1, 1, 1]) :: ks_X3_read_49)
def k_X3_read : List bc_En := (0, .aload_n 1, 1, []) :: (1, .invokevirtual 15, 3, [12, 21, 0, 1]) :: (4, .aload_n 0, 1, []) :: (5, .iconst 0, 1, []) :: (6, .putfield 20, 3, [3, 1, 33]) :: (9, .aload_n 0, 1, []) :: (10, .iconst 0, 1, []) :: (11, .putfield 24, 3, [3, 5, 34]) :: (14, .iconst 0, 1, []) :: (15, .istore_n 2, 1, []) :: ((16, .nop, 0, [1, 1, 1]) :: ks_X3_read_16)
theorem ck_X3_read : bc_code 30 k_X3_read = true := by decide +kernel
set_option maxRecDepth 20000 in
theorem at_X3_read_16 {d : Nat} {post : Option bc_AV → bc_AH → Prop} {loc : List (Option bc_AV)} {st : List bc_AV} {h : bc_AH} (q : bc_vc d 30 post ks_X3_read_16 none false loc st h) : bc_AT d 30 post 16 loc st h := bc_atF ck_X3_read (by rfl) q
set_option maxRecDepth 20000 in
theorem at_X3_read_49 {d : Nat} {post : Option bc_AV → bc_AH → Prop} {loc : List (Option bc_AV)} {st : List bc_AV} {h : bc_AH} (q : bc_vc d 30 post ks_X3_read_49 none false loc st h) : bc_AT d 30 post 49 loc st h := bc_atF ck_X3_read (by rfl) q
set_option maxRecDepth 20000 in
theorem at_X3_read_74 {d : Nat} {post : Option bc_AV → bc_AH → Prop} {loc : List (Option bc_AV)} {st : List bc_AV} {h : bc_AH} (q : bc_vc d 30 post ks_X3_read_74 none false loc st h) : bc_AT d 30 post 74 loc st h := bc_atF ck_X3_read (by rfl) q
def k_X3_readMid : List bc_En := [(0, .aload_n 0, 1, []), (1, .ldc 45, 2, [0]), (3, .invokevirtual 47, 3, [38, 25, 1, 3]), (6, .ifCond .ne 9, 3, [15]), (9, .aload_n 0, 1, []), (10, .iconst 1, 1, []), (11, .invokevirtual 51, 3, [35, 26, 1, 3]), (14, .ireturn, 1, [1]), (15, .aload_n 0, 1, []), (16, .iconst 0, 1, []), (17, .sipush 999, 3, []), (20, .invokevirtual 55, 3, [33, 27, 2, 3]), (23, .ifCond .ne 5, 3, [28]), (26, .iconst 0, 1, []), (27, .ireturn, 1, [1]), (28, .aload_n 1, 1, []), (29, .aload_n 0, 1, []), (30, .getfield 59, 3, [3, 4, 38]), (33, .putfield 62, 3, [1, 9, 39]), (36, .aload_n 0, 1, []), (37, .invokevirtual 65, 3, [34, 28, 0, 3]), (40, .ireturn, 1, [1])]
theorem ck_X3_readMid : bc_code 31 k_X3_readMid = true := by decide +kernel
def k_X3_readOrder : List bc_En := [(0, .aload_n 0, 1, []), (1, .ldc 69, 2, [1]), (3, .invokevirtual 47, 3, [38, 25, 1, 3]), (6, .istore_n 2, 1, []), (7, .iload_n 2, 1, []), (8, .ifCond .ne 18, 3, [26]), (11, .aload_n 0, 1, []), (12, .ldc 71, 2, [2]), (14, .invokevirtual 47, 3, [38, 25, 1, 3]), (17, .ifCond .ne 9, 3, [26]), (20, .aload_n 0, 1, []), (21, .iconst 1, 1, []), (22, .invokevirtual 51, 3, [35, 26, 1, 3]), (25, .ireturn, 1, [1]), (26, .aload_n 1, 1, []), (27, .getfield 73, 3, [1, 8, 40]), (30, .bipush 10, 2, []), (32, .if_icmp .lt 9, 3, [41]), (35, .aload_n 0, 1, []), (36, .iconst 3, 1, []), (37, .invokevirtual 51, 3, [35, 26, 1, 3]), (40, .ireturn, 1, [1]), (41, .aload_n 0, 1, []), (42, .iconst 1, 1, []), (43, .sipush 999, 3, []), (46, .invokevirtual 55, 3, [33, 27, 2, 3]), (49, .ifCond .ne 5, 3, [54]), (52, .iconst 0, 1, []), (53, .ireturn, 1, [1]), (54, .aload_n 0, 1, []), (55, .getfield 59, 3, [3, 4, 38]), (58, .istore_n 3, 1, []), (59, .aload_n 0, 1, []), (60, .iconst 1, 1, []), (61, .iload_n 3, 1, []), (62, .invokevirtual 55, 3, [33, 27, 2, 3]), (65, .ifCond .ne 5, 3, [70]), (68, .iconst 0, 1, []), (69, .ireturn, 1, [1]), (70, .aload_n 0, 1, []), (71, .getfield 59, 3, [3, 4, 38]), (74, .istore 4, 2, []), (76, .aload_n 0, 1, []), (77, .iconst 0, 1, []), (78, .sipush 999, 3, []), (81, .invokevirtual 55, 3, [33, 27, 2, 3]), (84, .ifCond .ne 5, 3, [89]), (87, .iconst 0, 1, []), (88, .ireturn, 1, [1]), (89, .aload_n 0, 1, []), (90, .getfield 59, 3, [3, 4, 38]), (93, .istore 5, 2, []), (95, .aload_n 0, 1, []), (96, .iconst 0, 1, []), (97, .iconst 5, 1, []), (98, .invokevirtual 55, 3, [33, 27, 2, 3]), (101, .ifCond .ne 5, 3, [106]), (104, .iconst 0, 1, []), (105, .ireturn, 1, [1]), (106, .aload_n 1, 1, []), (107, .iload_n 2, 1, []), (108, .ifCond .eq 7, 3, [115]), (111, .iconst 1, 1, []), (112, .goto 4, 3, [116]), (115, .iconst 0, 1, []), (116, .iload_n 3, 1, []), (117, .iload 4, 2, []), (119, .iload 5, 2, []), (121, .aload_n 0, 1, []), (122, .getfield 59, 3, [3, 4, 38]), (125, .invokevirtual 76, 3, [14, 29, 5, 1]), (128, .aload_n 0, 1, []), (129, .invokevirtual 65, 3, [34, 28, 0, 3]), (132, .ireturn, 1, [1])]
theorem ck_X3_readOrder : bc_code 32 k_X3_readOrder = true := by decide +kernel
end
section
def k_X3_readNumber : List bc_En := [(0, .aload_n 0, 1, []), (1, .invokevirtual 27, 3, [36, 22, 0, 3]), (4, .aload_n 0, 1, []), (5, .getfield 30, 3, [3, 3, 35]), (8, .iconst 4, 1, []), (9, .if_icmp .eq 9, 3, [18]), (12, .aload_n 0, 1, []), (13, .iconst 1, 1, []), (14, .invokevirtual 51, 3, [35, 26, 1, 3]), (17, .ireturn, 1, [1]), (18, .aload_n 0, 1, []), (19, .getfield 59, 3, [3, 4, 38]), (22, .iload_n 1, 1, []), (23, .if_icmp .lt 11, 3, [34]), (26, .aload_n 0, 1, []), (27, .getfield 59, 3, [3, 4, 38]), (30, .iload_n 2, 1, []), (31, .if_icmp .le 11, 3, [42]), (34, .aload_n 0, 1, []), (35, .iconst 2, 1, []), (36, .invokevirtual 51, 3, [35, 26, 1, 3]), (39, .ifCond .eq 7, 3, [46]), (42, .iconst 1, 1, []), (43, .goto 4, 3, [47]), (46, .iconst 0, 1, []), (47, .ireturn, 1, [1])]
theorem ck_X3_readNumber : bc_code 33 k_X3_readNumber = true := by decide +kernel
def k_X3_readSign : List bc_En := [(0, .aload_n 0, 1, []), (1, .invokevirtual 27, 3, [36, 22, 0, 3]), (4, .aload_n 0, 1, []), (5, .getfield 30, 3, [3, 3, 35]), (8, .iconst 2, 1, []), (9, .if_icmp .eq 11, 3, [20]), (12, .aload_n 0, 1, []), (13, .iconst 1, 1, []), (14, .invokevirtual 51, 3, [35, 26, 1, 3]), (17, .ifCond .eq 7, 3, [24]), (20, .iconst 1, 1, []), (21, .goto 4, 3, [25]), (24, .iconst 0, 1, []), (25, .ireturn, 1, [1])]
theorem ck_X3_readSign : bc_code 34 k_X3_readSign = true := by decide +kernel
def k_X3_refuse : List bc_En := [(0, .aload_n 0, 1, []), (1, .iload_n 1, 1, []), (2, .putfield 24, 3, [3, 5, 34]), (5, .aload_n 0, 1, []), (6, .aload_n 0, 1, []), (7, .getfield 80, 3, [3, 2, 41]), (10, .putfield 83, 3, [3, 6, 42]), (13, .iconst 0, 1, []), (14, .ireturn, 1, [1])]
theorem ck_X3_refuse : bc_code 35 k_X3_refuse = true := by decide +kernel
def ks_X3_scan_52 : List bc_En := (52, .aload_n 0, 1, []) :: (53, .aload_n 0, 1, []) :: (54, .getfield 20, 3, [3, 1, 33]) :: (57, .iload_n 1, 1, []) :: (58, .invokestatic 86, 3, [1, 352]) :: (61, .putfield 80, 3, [3, 2, 41]) :: (64, .aload_n 0, 1, []) :: (65, .getfield 20, 3, [3, 1, 33]) :: (68, .iload_n 1, 1, []) :: (69, .if_icmp .lt 11, 3, [80]) :: (72, .aload_n 0, 1, []) :: (73, .iconst 1, 1, []) :: (74, .putfield 30, 3, [3, 3, 35]) :: (77, .goto 41, 3, [118]) :: (80, .aload_n 0, 1, []) :: (81, .getfield 9, 3, [3, 0, 36]) :: (84, .aload_n 0, 1, []) :: (85, .getfield 20, 3, [3, 1, 33]) :: (88, .invokevirtual 92, 3, [52, 30, 1, 5]) :: (91, .bipush 59, 2, []) :: (93, .if_icmp .ne 21, 3, [114]) :: (96, .aload_n 0, 1, []) :: (97, .iconst 2, 1, []) :: (98, .putfield 30, 3, [3, 3, 35]) :: (101, .aload_n 0, 1, []) :: (102, .dup, 1, []) :: (103, .getfield 20, 3, [3, 1, 33]) :: (106, .iconst 1, 1, []) :: (107, .iadd, 1, []) :: (108, .putfield 20, 3, [3, 1, 33]) :: (111, .goto 7, 3, [118]) :: (114, .aload_n 0, 1, []) :: (115, .invokevirtual 99, 3, [37, 32, 0, 3]) :: (118, .return_, 1, []) :: []
def ks_X3_scan_14 : List bc_En := (14, .aload_n 0, 1, []) :: (15, .getfield 20, 3, [3, 1, 33]) :: (18, .iload_n 1, 1, []) :: (19, .if_icmp .ge 33, 3, [52]) :: (22, .aload_n 0, 1, []) :: (23, .getfield 9, 3, [3, 0, 36]) :: (26, .aload_n 0, 1, []) :: (27, .getfield 20, 3, [3, 1, 33]) :: (30, .invokevirtual 92, 3, [52, 30, 1, 5]) :: (33, .invokestatic 96, 3, [39, 31, 1]) :: (36, .ifCond .eq 16, 3, [52]) :: (39, .aload_n 0, 1, []) :: (40, .dup, 1, []) :: (41, .getfield 20, 3, [3, 1, 33]) :: (44, .iconst 1, 1, []) :: (45, .iadd, 1, []) :: (46, .putfield 20, 3, [3, 1, 33]) :: (49, .goto (-35), 3, [14, 1, 1]) :: ((52, .nop, 0, [1, 1]) :: ks_X3_scan_52)
def k_X3_scan : List bc_En := (0, .aload_n 0, 1, []) :: (1, .getfield 9, 3, [3, 0, 36]) :: (4, .getfield 33, 3, [5, 1, 37]) :: (7, .sipush 400, 3, []) :: (10, .invokestatic 86, 3, [1, 352]) :: (13, .istore_n 1, 1, []) :: ((14, .nop, 0, [1, 1]) :: ks_X3_scan_14)
theorem ck_X3_scan : bc_code 36 k_X3_scan = true := by decide +kernel
set_option maxRecDepth 20000 in
theorem at_X3_scan_14 {d : Nat} {post : Option bc_AV → bc_AH → Prop} {loc : List (Option bc_AV)} {st : List bc_AV} {h : bc_AH} (q : bc_vc d 36 post ks_X3_scan_14 none false loc st h) : bc_AT d 36 post 14 loc st h := bc_atF ck_X3_scan (by rfl) q
set_option maxRecDepth 20000 in
theorem at_X3_scan_52 {d : Nat} {post : Option bc_AV → bc_AH → Prop} {loc : List (Option bc_AV)} {st : List bc_AV} {h : bc_AH} (q : bc_vc d 36 post ks_X3_scan_52 none false loc st h) : bc_AT d 36 post 52 loc st h := bc_atF ck_X3_scan (by rfl) q
def ks_X3_scanName_96 : List bc_En := (96, .iload_n 1, 1, []) :: (97, .ifCond .le 15, 3, [112]) :: (100, .iload_n 2, 1, []) :: (101, .ifCond .ne 11, 3, [112]) :: (104, .aload_n 0, 1, []) :: (105, .iconst 3, 1, []) :: (106, .putfield 30, 3, [3, 3, 35]) :: (109, .goto 29, 3, [138]) :: (112, .iload_n 1, 1, []) :: (113, .ifCond .ne 20, 3, [133]) :: (116, .iload_n 2, 1, []) :: (117, .ifCond .le 16, 3, [133]) :: (120, .iload_n 2, 1, []) :: (121, .iconst 3, 1, []) :: (122, .if_icmp .gt 11, 3, [133]) :: (125, .aload_n 0, 1, []) :: (126, .iconst 4, 1, []) :: (127, .putfield 30, 3, [3, 3, 35]) :: (130, .goto 8, 3, [138]) :: (133, .aload_n 0, 1, []) :: (134, .iconst 0, 1, []) :: (135, .putfield 30, 3, [3, 3, 35]) :: (138, .return_, 1, []) :: []
def ks_X3_scanName_83 : List bc_En := (83, .aload_n 0, 1, []) :: (84, .dup, 1, []) :: (85, .getfield 20, 3, [3, 1, 33]) :: (88, .iconst 1, 1, []) :: (89, .iadd, 1, []) :: (90, .putfield 20, 3, [3, 1, 33]) :: (93, .goto (-84), 3, [9, 1, 1, 1, 0]) :: ((96, .nop, 0, [1, 1, 1, 0]) :: ks_X3_scanName_96)
def ks_X3_scanName_80 : List bc_En := (80, .putfield 59, 3, [3, 4, 38]) :: ((83, .nop, 0, [1, 1, 1, 0]) :: ks_X3_scanName_83)
def ks_X3_scanName_9 : List bc_En := (9, .aload_n 0, 1, []) :: (10, .getfield 20, 3, [3, 1, 33]) :: (13, .aload_n 0, 1, []) :: (14, .getfield 9, 3, [3, 0, 36]) :: (17, .getfield 33, 3, [5, 1, 37]) :: (20, .if_icmp .ge 76, 3, [96]) :: (23, .aload_n 0, 1, []) :: (24, .getfield 9, 3, [3, 0, 36]) :: (27, .aload_n 0, 1, []) :: (28, .getfield 20, 3, [3, 1, 33]) :: (31, .invokevirtual 92, 3, [52, 30, 1, 5]) :: (34, .istore_n 3, 1, []) :: (35, .iload_n 3, 1, []) :: (36, .invokestatic 102, 3, [40, 33, 1]) :: (39, .ifCond .eq 9, 3, [48]) :: (42, .iinc 1 1, 3, []) :: (45, .goto 38, 3, [83]) :: (48, .iload_n 3, 1, []) :: (49, .invokestatic 105, 3, [41, 34, 1]) :: (52, .ifCond .eq 44, 3, [96]) :: (55, .iinc 2 1, 3, []) :: (58, .aload_n 0, 1, []) :: (59, .iload_n 2, 1, []) :: (60, .iconst 3, 1, []) :: (61, .if_icmp .gt 18, 3, [79]) :: (64, .aload_n 0, 1, []) :: (65, .getfield 59, 3, [3, 4, 38]) :: (68, .bipush 10, 2, []) :: (70, .imul, 1, []) :: (71, .iload_n 3, 1, []) :: (72, .iadd, 1, []) :: (73, .bipush 48, 2, []) :: (75, .isub, 1, []) :: (76, .goto 4, 3, [80]) :: (79, .iconst 0, 1, []) :: ((80, .nop, 0, [1, 1, 1, 0]) :: ks_X3_scanName_80)
def k_X3_scanName : List bc_En := (0, .iconst 0, 1, []) :: (1, .istore_n 1, 1, []) :: (2, .iconst 0, 1, []) :: (3, .istore_n 2, 1, []) :: (4, .aload_n 0, 1, []) :: (5, .iconst 0, 1, []) :: (6, .putfield 59, 3, [3, 4, 38]) :: ((9, .nop, 0, [1, 1, 1, 0]) :: ks_X3_scanName_9)
theorem ck_X3_scanName : bc_code 37 k_X3_scanName = true := by decide +kernel
set_option maxRecDepth 20000 in
theorem at_X3_scanName_9 {d : Nat} {post : Option bc_AV → bc_AH → Prop} {loc : List (Option bc_AV)} {st : List bc_AV} {h : bc_AH} (q : bc_vc d 37 post ks_X3_scanName_9 none false loc st h) : bc_AT d 37 post 9 loc st h := bc_atF ck_X3_scanName (by rfl) q
set_option maxRecDepth 20000 in
theorem at_X3_scanName_80 {d : Nat} {post : Option bc_AV → bc_AH → Prop} {loc : List (Option bc_AV)} {st : List bc_AV} {h : bc_AH} (q : bc_vc d 37 post ks_X3_scanName_80 none false loc st h) : bc_AT d 37 post 80 loc st h := bc_atF ck_X3_scanName (by rfl) q
set_option maxRecDepth 20000 in
theorem at_X3_scanName_83 {d : Nat} {post : Option bc_AV → bc_AH → Prop} {loc : List (Option bc_AV)} {st : List bc_AV} {h : bc_AH} (q : bc_vc d 37 post ks_X3_scanName_83 none false loc st h) : bc_AT d 37 post 83 loc st h := bc_atF ck_X3_scanName (by rfl) q
set_option maxRecDepth 20000 in
theorem at_X3_scanName_96 {d : Nat} {post : Option bc_AV → bc_AH → Prop} {loc : List (Option bc_AV)} {st : List bc_AV} {h : bc_AH} (q : bc_vc d 37 post ks_X3_scanName_96 none false loc st h) : bc_AT d 37 post 96 loc st h := bc_atF ck_X3_scanName (by rfl) q
def k_X3_isBlank : List bc_En := [(0, .iload_n 0, 1, []), (1, .bipush 32, 2, []), (3, .if_icmp .eq 9, 3, [12]), (6, .iload_n 0, 1, []), (7, .bipush 10, 2, []), (9, .if_icmp .ne 7, 3, [16]), (12, .iconst 1, 1, []), (13, .goto 4, 3, [17]), (16, .iconst 0, 1, []), (17, .ireturn, 1, [1])]
theorem ck_X3_isBlank : bc_code 39 k_X3_isBlank = true := by decide +kernel
def k_X3_isLetter : List bc_En := [(0, .iload_n 0, 1, []), (1, .bipush 97, 2, []), (3, .if_icmp .lt 13, 3, [16]), (6, .iload_n 0, 1, []), (7, .bipush 122, 2, []), (9, .if_icmp .gt 7, 3, [16]), (12, .iconst 1, 1, []), (13, .goto 4, 3, [17]), (16, .iconst 0, 1, []), (17, .ireturn, 1, [1])]
theorem ck_X3_isLetter : bc_code 40 k_X3_isLetter = true := by decide +kernel
def k_X3_isDigit : List bc_En := [(0, .iload_n 0, 1, []), (1, .bipush 48, 2, []), (3, .if_icmp .lt 13, 3, [16]), (6, .iload_n 0, 1, []), (7, .bipush 57, 2, []), (9, .if_icmp .gt 7, 3, [16]), (12, .iconst 1, 1, []), (13, .goto 4, 3, [17]), (16, .iconst 0, 1, []), (17, .ireturn, 1, [1])]
theorem ck_X3_isDigit : bc_code 41 k_X3_isDigit = true := by decide +kernel
def k_X4_spare : List bc_En := [(0, .iload_n 1, 1, []), (1, .iload_n 2, 1, []), (2, .invokestatic 24, 3, [44, 35, 2]), (5, .ifCond .ne 5, 3, [10]), (8, .iconst 0, 1, []), (9, .ireturn, 1, [0]), (10, .iconst 1, 1, []), (11, .iload_n 1, 1, []), (12, .isub, 1, []), (13, .istore 4, 2, []), (15, .aload_n 0, 1, []), (16, .getfield 21, 3, [4, 3, 46]), (19, .iload 4, 2, []), (21, .iaload, 1, []), (22, .aload_n 0, 1, []), (23, .getfield 15, 3, [4, 1, 44]), (26, .iload 4, 2, []), (28, .bipush 6, 2, []), (30, .imul, 1, []), (31, .iload_n 2, 1, []), (32, .iadd, 1, []), (33, .iaload, 1, []), (34, .isub, 1, []), (35, .istore 5, 2, []), (37, .iload_n 3, 1, []), (38, .aload_n 0, 1, []), (39, .getfield 18, 3, [4, 2, 45]), (42, .iload_n 1, 1, []), (43, .iaload, 1, []), (44, .isub, 1, []), (45, .iload 5, 2, []), (47, .aload_n 0, 1, []), (48, .getfield 9, 3, [4, 0, 43]), (51, .iload_n 1, 1, []), (52, .bipush 6, 2, []), (54, .imul, 1, []), (55, .iload_n 2, 1, []), (56, .iadd, 1, []), (57, .iaload, 1, []), (58, .isub, 1, []), (59, .invokestatic 28, 3, [1, 547]), (62, .ireturn, 1, [0])]
theorem ck_X4_spare : bc_code 48 k_X4_spare = true := by decide +kernel
def k_X5_hasRoom : List bc_En := [(0, .aload_n 0, 1, []), (1, .getfield 15, 3, [5, 1, 47]), (4, .bipush 20, 2, []), (6, .iadd, 1, []), (7, .sipush 440, 3, []), (10, .if_icmp .gt 7, 3, [17]), (13, .iconst 1, 1, []), (14, .goto 4, 3, [18]), (17, .iconst 0, 1, []), (18, .ireturn, 1, [1])]
theorem ck_X5_hasRoom : bc_code 50 k_X5_hasRoom = true := by decide +kernel
def ks_X5_put_3 : List bc_En := (3, .iload_n 2, 1, []) :: (4, .ifCond .lt 52, 3, [56]) :: (7, .aload_n 0, 1, []) :: (8, .getfield 15, 3, [5, 1, 47]) :: (11, .ifCond .lt 39, 3, [50]) :: (14, .aload_n 0, 1, []) :: (15, .getfield 15, 3, [5, 1, 47]) :: (18, .sipush 440, 3, []) :: (21, .if_icmp .ge 29, 3, [50]) :: (24, .aload_n 0, 1, []) :: (25, .getfield 11, 3, [5, 0, 48]) :: (28, .aload_n 0, 1, []) :: (29, .getfield 15, 3, [5, 1, 47]) :: (32, .iload_n 1, 1, []) :: (33, .iload_n 2, 1, []) :: (34, .iushr, 1, []) :: (35, .sipush 255, 3, []) :: (38, .iand, 1, []) :: (39, .iastore, 1, []) :: (40, .aload_n 0, 1, []) :: (41, .dup, 1, []) :: (42, .getfield 15, 3, [5, 1, 47]) :: (45, .iconst 1, 1, []) :: (46, .iadd, 1, []) :: (47, .putfield 15, 3, [5, 1, 47]) :: (50, .iinc 2 (-8), 3, []) :: (53, .goto (-50), 3, [3, 1, 1, 1]) :: (56, .return_, 1, []) :: []
def k_X5_put : List bc_En := (0, .bipush 24, 2, []) :: (2, .istore_n 2, 1, []) :: ((3, .nop, 0, [1, 1, 1]) :: ks_X5_put_3)
theorem ck_X5_put : bc_code 51 k_X5_put = true := by decide +kernel
set_option maxRecDepth 20000 in
theorem at_X5_put_3 {d : Nat} {post : Option bc_AV → bc_AH → Prop} {loc : List (Option bc_AV)} {st : List bc_AV} {h : bc_AH} (q : bc_vc d 51 post ks_X5_put_3 none false loc st h) : bc_AT d 51 post 3 loc st h := bc_atF ck_X5_put (by rfl) q
def k_X5_byteAt : List bc_En := [(0, .iload_n 1, 1, []), (1, .ifCond .lt 27, 3, [28]), (4, .iload_n 1, 1, []), (5, .aload_n 0, 1, []), (6, .getfield 15, 3, [5, 1, 47]), (9, .if_icmp .ge 19, 3, [28]), (12, .iload_n 1, 1, []), (13, .sipush 440, 3, []), (16, .if_icmp .ge 12, 3, [28]), (19, .aload_n 0, 1, []), (20, .getfield 11, 3, [5, 0, 48]), (23, .iload_n 1, 1, []), (24, .iaload, 1, []), (25, .goto 4, 3, [29]), (28, .iconst (-1), 1, []), (29, .ireturn, 1, [0])]
theorem ck_X5_byteAt : bc_code 52 k_X5_byteAt = true := by decide +kernel
def k_X6_feed : List bc_En := [(0, .aload_n 0, 1, []), (1, .getfield 10, 3, [6, 0, 49]), (4, .invokevirtual 51, 3, [50, 36, 0, 5]), (7, .ifCond .ne 5, 3, [12]), (10, .iconst (-1), 1, []), (11, .ireturn, 1, [0]), (12, .aload_n 0, 1, []), (13, .getfield 10, 3, [6, 0, 49]), (16, .iload_n 1, 1, []), (17, .invokevirtual 55, 3, [51, 37, 1, 5]), (20, .aload_n 0, 1, []), (21, .getfield 10, 3, [6, 0, 49]), (24, .iload_n 2, 1, []), (25, .invokevirtual 55, 3, [51, 37, 1, 5]), (28, .aload_n 0, 1, []), (29, .getfield 10, 3, [6, 0, 49]), (32, .iload_n 3, 1, []), (33, .invokevirtual 55, 3, [51, 37, 1, 5]), (36, .aload_n 0, 1, []), (37, .getfield 10, 3, [6, 0, 49]), (40, .iload 4, 2, []), (42, .invokevirtual 55, 3, [51, 37, 1, 5]), (45, .aload_n 0, 1, []), (46, .getfield 10, 3, [6, 0, 49]), (49, .iload 5, 2, []), (51, .invokevirtual 55, 3, [51, 37, 1, 5]), (54, .aload_n 0, 1, []), (55, .getfield 10, 3, [6, 0, 49]), (58, .getfield 59, 3, [5, 1, 50]), (61, .ireturn, 1, [0])]
theorem ck_X6_feed : bc_code 54 k_X6_feed = true := by decide +kernel
def k_X6_end : List bc_En := [(0, .iload_n 1, 1, []), (1, .ifCond .lt 14, 3, [15]), (4, .iload_n 1, 1, []), (5, .aload_n 0, 1, []), (6, .getfield 10, 3, [6, 0, 49]), (9, .getfield 59, 3, [5, 1, 50]), (12, .if_icmp .le 5, 3, [17]), (15, .iconst 0, 1, []), (16, .ireturn, 1, [1]), (17, .aload_n 0, 1, []), (18, .getfield 10, 3, [6, 0, 49]), (21, .iload_n 1, 1, []), (22, .putfield 59, 3, [5, 1, 50]), (25, .iconst 1, 1, []), (26, .ireturn, 1, [1])]
theorem ck_X6_end : bc_code 55 k_X6_end = true := by decide +kernel
def k_X6_text : List bc_En := [(0, .aload_n 0, 1, []), (1, .getfield 21, 3, [6, 1, 51]), (4, .aload_n 0, 1, []), (5, .getfield 32, 3, [6, 3, 52]), (8, .invokevirtual 63, 3, [30, 38, 1, 3]), (11, .istore_n 1, 1, []), (12, .aload_n 0, 1, []), (13, .getfield 10, 3, [6, 0, 49]), (16, .iconst 0, 1, []), (17, .putfield 59, 3, [5, 1, 50]), (20, .iload_n 1, 1, []), (21, .iconst (-1), 1, []), (22, .if_icmp .ne 13, 3, [35]), (25, .iconst (-1), 1, []), (26, .aload_n 0, 1, []), (27, .getfield 21, 3, [6, 1, 51]), (30, .getfield 67, 3, [3, 6, 53]), (33, .isub, 1, []), (34, .ireturn, 1, [0]), (35, .aload_n 0, 1, []), (36, .getfield 28, 3, [6, 2, 54]), (39, .aload_n 0, 1, []), (40, .getfield 32, 3, [6, 3, 52]), (43, .invokevirtual 70, 3, [13, 39, 1, 1]), (46, .aload_n 0, 1, []), (47, .getfield 47, 3, [6, 5, 55]), (50, .invokevirtual 73, 3, [28, 40, 0, 2]), (53, .iload_n 1, 1, []), (54, .ireturn, 1, [0])]
theorem ck_X6_text : bc_code 56 k_X6_text = true := by decide +kernel
def k_X6_fault : List bc_En := [(0, .aload_n 0, 1, []), (1, .getfield 21, 3, [6, 1, 51]), (4, .getfield 76, 3, [3, 5, 56]), (7, .ireturn, 1, [0])]
theorem ck_X6_fault : bc_code 57 k_X6_fault = true := by decide +kernel
def k_X6_now : List bc_En := [(0, .iload_n 1, 1, []), (1, .tableswitch 135 0 9 #[55, 63, 71, 79, 87, 95, 103, 111, 119, 127], 55, [136, 56, 64, 72, 80, 88, 96, 104, 112, 120, 128]), (56, .aload_n 0, 1, []), (57, .getfield 28, 3, [6, 2, 54]), (60, .getfield 79, 3, [1, 8, 57]), (63, .ireturn, 1, [0]), (64, .aload_n 0, 1, []), (65, .getfield 28, 3, [6, 2, 54]), (68, .invokevirtual 82, 3, [18, 41, 0, 1]), (71, .ireturn, 1, [0]), (72, .aload_n 0, 1, []), (73, .getfield 28, 3, [6, 2, 54]), (76, .getfield 86, 3, [1, 9, 58]), (79, .ireturn, 1, [0]), (80, .aload_n 0, 1, []), (81, .getfield 28, 3, [6, 2, 54]), (84, .getfield 89, 3, [1, 10, 59]), (87, .ireturn, 1, [0]), (88, .aload_n 0, 1, []), (89, .getfield 28, 3, [6, 2, 54]), (92, .getfield 92, 3, [1, 11, 60]), (95, .ireturn, 1, [0]), (96, .aload_n 0, 1, []), (97, .getfield 28, 3, [6, 2, 54]), (100, .getfield 95, 3, [1, 12, 61]), (103, .ireturn, 1, [0]), (104, .aload_n 0, 1, []), (105, .getfield 28, 3, [6, 2, 54]), (108, .getfield 98, 3, [1, 13, 62]), (111, .ireturn, 1, [0]), (112, .aload_n 0, 1, []), (113, .getfield 28, 3, [6, 2, 54]), (116, .getfield 101, 3, [1, 14, 63]), (119, .ireturn, 1, [0]), (120, .aload_n 0, 1, []), (121, .getfield 47, 3, [6, 5, 55]), (124, .getfield 104, 3, [2, 2, 64]), (127, .ireturn, 1, [0]), (128, .aload_n 0, 1, []), (129, .getfield 10, 3, [6, 0, 49]), (132, .getfield 59, 3, [5, 1, 50]), (135, .ireturn, 1, [0]), (136, .iconst (-1), 1, []), (137, .ireturn, 1, [0])]
theorem ck_X6_now : bc_code 58 k_X6_now = true := by decide +kernel
def ks_X6_rank_2 : List bc_En := (2, .iload_n 2, 1, []) :: (3, .aload_n 0, 1, []) :: (4, .getfield 28, 3, [6, 2, 54]) :: (7, .getfield 79, 3, [1, 8, 57]) :: (10, .if_icmp .ge 34, 3, [44]) :: (13, .aload_n 0, 1, []) :: (14, .getfield 28, 3, [6, 2, 54]) :: (17, .iload_n 2, 1, []) :: (18, .invokevirtual 143, 3, [16, 42, 1, 1]) :: (21, .ifCond .eq 17, 3, [38]) :: (24, .aload_n 0, 1, []) :: (25, .getfield 28, 3, [6, 2, 54]) :: (28, .iload_n 2, 1, []) :: (29, .invokevirtual 146, 3, [21, 43, 1, 1]) :: (32, .iload_n 1, 1, []) :: (33, .if_icmp .ne 5, 3, [38]) :: (36, .iload_n 2, 1, []) :: (37, .ireturn, 1, [0]) :: (38, .iinc 2 1, 3, []) :: (41, .goto (-39), 3, [2, 1, 1, 1]) :: (44, .iconst (-1), 1, []) :: (45, .ireturn, 1, [0]) :: []
def k_X6_rank : List bc_En := (0, .iconst 0, 1, []) :: (1, .istore_n 2, 1, []) :: ((2, .nop, 0, [1, 1, 1]) :: ks_X6_rank_2)
theorem ck_X6_rank : bc_code 60 k_X6_rank = true := by decide +kernel
set_option maxRecDepth 20000 in
theorem at_X6_rank_2 {d : Nat} {post : Option bc_AV → bc_AH → Prop} {loc : List (Option bc_AV)} {st : List bc_AV} {h : bc_AH} (q : bc_vc d 60 post ks_X6_rank_2 none false loc st h) : bc_AT d 60 post 2 loc st h := bc_atF ck_X6_rank (by rfl) q
def k_X6_chosen : List bc_En := [(0, .iload_n 1, 1, []), (1, .invokestatic 150, 3, [77, 44, 1]), (4, .ifCond .eq 12, 3, [16]), (7, .iload_n 2, 1, []), (8, .ifCond .lt 8, 3, [16]), (11, .iload_n 2, 1, []), (12, .iconst 1, 1, []), (13, .if_icmp .le 5, 3, [18]), (16, .iconst (-1), 1, []), (17, .ireturn, 1, [0]), (18, .aload_n 0, 1, []), (19, .getfield 40, 3, [6, 4, 65]), (22, .aload_n 0, 1, []), (23, .getfield 28, 3, [6, 2, 54]), (26, .iload_n 1, 1, []), (27, .invokevirtual 153, 3, [19, 45, 1, 1]), (30, .iconst 0, 1, []), (31, .invokevirtual 156, 3, [2, 46, 2, 0]), (34, .iload_n 2, 1, []), (35, .ifCond .ne 13, 3, [48]), (38, .aload_n 0, 1, []), (39, .getfield 40, 3, [6, 4, 65]), (42, .getfield 160, 3, [0, 8, 66]), (45, .goto 10, 3, [55]), (48, .aload_n 0, 1, []), (49, .getfield 40, 3, [6, 4, 65]), (52, .getfield 163, 3, [0, 9, 67]), (55, .ireturn, 1, [0])]
theorem ck_X6_chosen : bc_code 61 k_X6_chosen = true := by decide +kernel
def k_X6_fill : List bc_En := [(0, .aload_n 0, 1, []), (1, .getfield 28, 3, [6, 2, 54]), (4, .iload_n 1, 1, []), (5, .invokevirtual 107, 3, [15, 47, 1, 1]), (8, .ifCond .ne 5, 3, [13]), (11, .iconst (-1), 1, []), (12, .ireturn, 1, [0]), (13, .aload_n 0, 1, []), (14, .getfield 40, 3, [6, 4, 65]), (17, .aload_n 0, 1, []), (18, .getfield 28, 3, [6, 2, 54]), (21, .aload_n 0, 1, []), (22, .getfield 28, 3, [6, 2, 54]), (25, .getfield 86, 3, [1, 9, 58]), (28, .invokevirtual 153, 3, [19, 45, 1, 1]), (31, .iconst 0, 1, []), (32, .invokevirtual 156, 3, [2, 46, 2, 0]), (35, .aload_n 0, 1, []), (36, .getfield 40, 3, [6, 4, 65]), (39, .invokevirtual 166, 3, [5, 48, 0, 0]), (42, .aload_n 0, 1, []), (43, .getfield 40, 3, [6, 4, 65]), (46, .getfield 169, 3, [0, 3, 68]), (49, .iload_n 1, 1, []), (50, .iaload, 1, []), (51, .ireturn, 1, [0])]
theorem ck_X6_fill : bc_code 62 k_X6_fill = true := by decide +kernel
def k_X6_why : List bc_En := [(0, .aload_n 0, 1, []), (1, .getfield 28, 3, [6, 2, 54]), (4, .iload_n 1, 1, []), (5, .invokevirtual 143, 3, [16, 42, 1, 1]), (8, .ifCond .ne 5, 3, [13]), (11, .iconst (-1), 1, []), (12, .ireturn, 1, [0]), (13, .aload_n 0, 1, []), (14, .getfield 28, 3, [6, 2, 54]), (17, .iload_n 1, 1, []), (18, .aload_n 0, 1, []), (19, .getfield 28, 3, [6, 2, 54]), (22, .getfield 86, 3, [1, 9, 58]), (25, .invokevirtual 133, 3, [17, 49, 2, 1]), (28, .ifCond .ne 5, 3, [33]), (31, .iconst 1, 1, []), (32, .ireturn, 1, [0]), (33, .aload_n 0, 1, []), (34, .getfield 28, 3, [6, 2, 54]), (37, .iload_n 1, 1, []), (38, .invokevirtual 172, 3, [22, 50, 1, 1]), (41, .istore_n 2, 1, []), (42, .iload_n 2, 1, []), (43, .ifCond .ne 5, 3, [48]), (46, .iconst 2, 1, []), (47, .ireturn, 1, [0]), (48, .iload_n 2, 1, []), (49, .aload_n 0, 1, []), (50, .getfield 28, 3, [6, 2, 54]), (53, .getfield 121, 3, [1, 2, 69]), (56, .iload_n 1, 1, []), (57, .iaload, 1, []), (58, .if_icmp .ge 5, 3, [63]), (61, .iconst 3, 1, []), (62, .ireturn, 1, [0]), (63, .aload_n 0, 1, []), (64, .getfield 28, 3, [6, 2, 54]), (67, .aload_n 0, 1, []), (68, .getfield 28, 3, [6, 2, 54]), (71, .getfield 86, 3, [1, 9, 58]), (74, .invokevirtual 153, 3, [19, 45, 1, 1]), (77, .istore_n 3, 1, []), (78, .aload_n 0, 1, []), (79, .getfield 40, 3, [6, 4, 65]), (82, .iload_n 3, 1, []), (83, .iconst 0, 1, []), (84, .invokevirtual 156, 3, [2, 46, 2, 0]), (87, .iload_n 1, 1, []), (88, .aload_n 0, 1, []), (89, .getfield 40, 3, [6, 4, 65]), (92, .getfield 163, 3, [0, 9, 67]), (95, .invokestatic 175, 3, [78, 51, 2]), (98, .ifCond .eq 5, 3, [103]), (101, .iconst 0, 1, []), (102, .ireturn, 1, [0]), (103, .aload_n 0, 1, []), (104, .getfield 40, 3, [6, 4, 65]), (107, .iload_n 3, 1, []), (108, .iconst 1, 1, []), (109, .iload_n 1, 1, []), (110, .ishl, 1, []), (111, .invokevirtual 156, 3, [2, 46, 2, 0]), (114, .aload_n 0, 1, []), (115, .getfield 40, 3, [6, 4, 65]), (118, .getfield 160, 3, [0, 8, 66]), (121, .ifCond .ne 7, 3, [128]), (124, .iconst 4, 1, []), (125, .goto 4, 3, [129]), (128, .iconst 5, 1, []), (129, .ireturn, 1, [0])]
theorem ck_X6_why : bc_code 63 k_X6_why = true := by decide +kernel
def k_X6_volume : List bc_En := [(0, .iload_n 1, 1, []), (1, .aload_n 0, 1, []), (2, .getfield 28, 3, [6, 2, 54]), (5, .aload_n 0, 1, []), (6, .getfield 28, 3, [6, 2, 54]), (9, .getfield 86, 3, [1, 9, 58]), (12, .invokevirtual 153, 3, [19, 45, 1, 1]), (15, .iconst (-1), 1, []), (16, .ixor, 1, []), (17, .iand, 1, []), (18, .ifCond .eq 5, 3, [23]), (21, .iconst (-1), 1, []), (22, .ireturn, 1, [0]), (23, .aload_n 0, 1, []), (24, .getfield 40, 3, [6, 4, 65]), (27, .iload_n 1, 1, []), (28, .invokevirtual 178, 3, [4, 52, 1, 0]), (31, .istore_n 2, 1, []), (32, .iload_n 2, 1, []), (33, .iconst (-1), 1, []), (34, .if_icmp .ne 8, 3, [42]), (37, .bipush (-2), 2, []), (39, .goto 4, 3, [43]), (42, .iload_n 2, 1, []), (43, .ireturn, 1, [0])]
theorem ck_X6_volume : bc_code 64 k_X6_volume = true := by decide +kernel
def ks_X6_best_87 : List bc_En := (87, .iinc 3 1, 3, []) :: (90, .goto (-80), 3, [10, 1, 1, 1, 1, 0, 0]) :: (93, .iload_n 1, 1, []) :: (94, .ireturn, 1, [0]) :: []
def ks_X6_best_10 : List bc_En := (10, .iload_n 3, 1, []) :: (11, .aload_n 0, 1, []) :: (12, .getfield 28, 3, [6, 2, 54]) :: (15, .getfield 79, 3, [1, 8, 57]) :: (18, .if_icmp .ge 75, 3, [93]) :: (21, .aload_n 0, 1, []) :: (22, .getfield 28, 3, [6, 2, 54]) :: (25, .iload_n 3, 1, []) :: (26, .invokevirtual 143, 3, [16, 42, 1, 1]) :: (29, .ifCond .eq 58, 3, [87]) :: (32, .aload_n 0, 1, []) :: (33, .getfield 28, 3, [6, 2, 54]) :: (36, .getfield 114, 3, [1, 0, 70]) :: (39, .iload_n 3, 1, []) :: (40, .iaload, 1, []) :: (41, .ifCond .ne 46, 3, [87]) :: (44, .aload_n 0, 1, []) :: (45, .getfield 28, 3, [6, 2, 54]) :: (48, .getfield 124, 3, [1, 3, 71]) :: (51, .iload_n 3, 1, []) :: (52, .iaload, 1, []) :: (53, .istore 4, 2, []) :: (55, .aload_n 0, 1, []) :: (56, .iload 4, 2, []) :: (58, .invokevirtual 181, 3, [75, 53, 1, 6]) :: (61, .istore 5, 2, []) :: (63, .iload 5, 2, []) :: (65, .iload_n 2, 1, []) :: (66, .if_icmp .gt 15, 3, [81]) :: (69, .iload 5, 2, []) :: (71, .iload_n 2, 1, []) :: (72, .if_icmp .ne 15, 3, [87]) :: (75, .iload 4, 2, []) :: (77, .iload_n 1, 1, []) :: (78, .if_icmp .ge 9, 3, [87]) :: (81, .iload 4, 2, []) :: (83, .istore_n 1, 1, []) :: (84, .iload 5, 2, []) :: (86, .istore_n 2, 1, []) :: ((87, .nop, 0, [1, 1, 1, 1, 0, 0]) :: ks_X6_best_87)
def k_X6_best : List bc_En := (0, .iconst 0, 1, []) :: (1, .istore_n 1, 1, []) :: (2, .aload_n 0, 1, []) :: (3, .iconst 0, 1, []) :: (4, .invokevirtual 181, 3, [75, 53, 1, 6]) :: (7, .istore_n 2, 1, []) :: (8, .iconst 0, 1, []) :: (9, .istore_n 3, 1, []) :: ((10, .nop, 0, [1, 1, 1, 1, 0, 0]) :: ks_X6_best_10)
theorem ck_X6_best : bc_code 65 k_X6_best = true := by decide +kernel
set_option maxRecDepth 20000 in
theorem at_X6_best_10 {d : Nat} {post : Option bc_AV → bc_AH → Prop} {loc : List (Option bc_AV)} {st : List bc_AV} {h : bc_AH} (q : bc_vc d 65 post ks_X6_best_10 none false loc st h) : bc_AT d 65 post 10 loc st h := bc_atF ck_X6_best (by rfl) q
set_option maxRecDepth 20000 in
theorem at_X6_best_87 {d : Nat} {post : Option bc_AV → bc_AH → Prop} {loc : List (Option bc_AV)} {st : List bc_AV} {h : bc_AH} (q : bc_vc d 65 post ks_X6_best_87 none false loc st h) : bc_AT d 65 post 87 loc st h := bc_atF ck_X6_best (by rfl) q
def k_X6_were : List bc_En := [(0, .aload_n 0, 1, []), (1, .getfield 28, 3, [6, 2, 54]), (4, .iload_n 1, 1, []), (5, .invokevirtual 143, 3, [16, 42, 1, 1]), (8, .ifCond .eq 21, 3, [29]), (11, .iload_n 2, 1, []), (12, .iconst 1, 1, []), (13, .if_icmp .lt 16, 3, [29]), (16, .iload_n 2, 1, []), (17, .aload_n 0, 1, []), (18, .getfield 28, 3, [6, 2, 54]), (21, .getfield 118, 3, [1, 1, 72]), (24, .iload_n 1, 1, []), (25, .iaload, 1, []), (26, .if_icmp .le 5, 3, [31]), (29, .iconst (-1), 1, []), (30, .ireturn, 1, [0]), (31, .aload_n 0, 1, []), (32, .getfield 40, 3, [6, 4, 65]), (35, .iload_n 1, 1, []), (36, .iload_n 2, 1, []), (37, .invokevirtual 184, 3, [1, 54, 2, 0]), (40, .aload_n 0, 1, []), (41, .aload_n 0, 1, []), (42, .getfield 28, 3, [6, 2, 54]), (45, .getfield 86, 3, [1, 9, 58]), (48, .invokevirtual 181, 3, [75, 53, 1, 6]), (51, .istore_n 3, 1, []), (52, .aload_n 0, 1, []), (53, .getfield 40, 3, [6, 4, 65]), (56, .iconst (-1), 1, []), (57, .iconst 0, 1, []), (58, .invokevirtual 184, 3, [1, 54, 2, 0]), (61, .iload_n 3, 1, []), (62, .ireturn, 1, [0])]
theorem ck_X6_were : bc_code 66 k_X6_were = true := by decide +kernel
def k_X6_worth : List bc_En := [(0, .aload_n 0, 1, []), (1, .getfield 28, 3, [6, 2, 54]), (4, .iload_n 1, 1, []), (5, .invokevirtual 143, 3, [16, 42, 1, 1]), (8, .ifCond .ne 5, 3, [13]), (11, .iconst (-1), 1, []), (12, .ireturn, 1, [0]), (13, .aload_n 0, 1, []), (14, .getfield 28, 3, [6, 2, 54]), (17, .aload_n 0, 1, []), (18, .getfield 28, 3, [6, 2, 54]), (21, .getfield 86, 3, [1, 9, 58]), (24, .invokevirtual 153, 3, [19, 45, 1, 1]), (27, .istore_n 2, 1, []), (28, .aload_n 0, 1, []), (29, .getfield 40, 3, [6, 4, 65]), (32, .iload_n 2, 1, []), (33, .iconst 0, 1, []), (34, .invokevirtual 156, 3, [2, 46, 2, 0]), (37, .aload_n 0, 1, []), (38, .getfield 40, 3, [6, 4, 65]), (41, .getfield 160, 3, [0, 8, 66]), (44, .istore_n 3, 1, []), (45, .aload_n 0, 1, []), (46, .getfield 40, 3, [6, 4, 65]), (49, .iload_n 2, 1, []), (50, .iconst 1, 1, []), (51, .iload_n 1, 1, []), (52, .ishl, 1, []), (53, .iconst (-1), 1, []), (54, .ixor, 1, []), (55, .iand, 1, []), (56, .iconst 0, 1, []), (57, .invokevirtual 156, 3, [2, 46, 2, 0]), (60, .iload_n 3, 1, []), (61, .aload_n 0, 1, []), (62, .getfield 40, 3, [6, 4, 65]), (65, .getfield 160, 3, [0, 8, 66]), (68, .isub, 1, []), (69, .ireturn, 1, [0])]
theorem ck_X6_worth : bc_code 67 k_X6_worth = true := by decide +kernel
end
section
def ks_X6_reach_109 : List bc_En := (109, .goto (-61), 3, [48, 1, 1, 1, 1, 1, 0]) :: (112, .aload_n 0, 1, []) :: (113, .getfield 40, 3, [6, 4, 65]) :: (116, .iconst (-1), 1, []) :: (117, .iconst 0, 1, []) :: (118, .invokevirtual 184, 3, [1, 54, 2, 0]) :: (121, .iload_n 3, 1, []) :: (122, .ireturn, 1, [0]) :: []
def ks_X6_reach_48 : List bc_En := (48, .iload_n 3, 1, []) :: (49, .iload 4, 2, []) :: (51, .if_icmp .ge 61, 3, [112]) :: (54, .iload_n 3, 1, []) :: (55, .iload 4, 2, []) :: (57, .iadd, 1, []) :: (58, .iconst 1, 1, []) :: (59, .iadd, 1, []) :: (60, .iconst 2, 1, []) :: (61, .idiv, 1, []) :: (62, .istore 5, 2, []) :: (64, .aload_n 0, 1, []) :: (65, .getfield 40, 3, [6, 4, 65]) :: (68, .iload_n 1, 1, []) :: (69, .iload 5, 2, []) :: (71, .invokevirtual 184, 3, [1, 54, 2, 0]) :: (74, .aload_n 0, 1, []) :: (75, .getfield 40, 3, [6, 4, 65]) :: (78, .iload_n 2, 1, []) :: (79, .iconst 0, 1, []) :: (80, .invokevirtual 156, 3, [2, 46, 2, 0]) :: (83, .iload_n 1, 1, []) :: (84, .aload_n 0, 1, []) :: (85, .getfield 40, 3, [6, 4, 65]) :: (88, .getfield 163, 3, [0, 9, 67]) :: (91, .invokestatic 175, 3, [78, 51, 2]) :: (94, .ifCond .eq 9, 3, [103]) :: (97, .iload 5, 2, []) :: (99, .istore_n 3, 1, []) :: (100, .goto 9, 3, [109]) :: (103, .iload 5, 2, []) :: (105, .iconst 1, 1, []) :: (106, .isub, 1, []) :: (107, .istore 4, 2, []) :: ((109, .nop, 0, [1, 1, 1, 1, 1, 0]) :: ks_X6_reach_109)
def k_X6_reach : List bc_En := (0, .aload_n 0, 1, []) :: (1, .getfield 28, 3, [6, 2, 54]) :: (4, .iload_n 1, 1, []) :: (5, .aload_n 0, 1, []) :: (6, .getfield 28, 3, [6, 2, 54]) :: (9, .getfield 86, 3, [1, 9, 58]) :: (12, .invokevirtual 133, 3, [17, 49, 2, 1]) :: (15, .ifCond .ne 5, 3, [20]) :: (18, .iconst (-1), 1, []) :: (19, .ireturn, 1, [0]) :: (20, .aload_n 0, 1, []) :: (21, .getfield 28, 3, [6, 2, 54]) :: (24, .aload_n 0, 1, []) :: (25, .getfield 28, 3, [6, 2, 54]) :: (28, .getfield 86, 3, [1, 9, 58]) :: (31, .invokevirtual 153, 3, [19, 45, 1, 1]) :: (34, .istore_n 2, 1, []) :: (35, .iconst 0, 1, []) :: (36, .istore_n 3, 1, []) :: (37, .aload_n 0, 1, []) :: (38, .getfield 28, 3, [6, 2, 54]) :: (41, .getfield 118, 3, [1, 1, 72]) :: (44, .iload_n 1, 1, []) :: (45, .iaload, 1, []) :: (46, .istore 4, 2, []) :: ((48, .nop, 0, [1, 1, 1, 1, 1, 0]) :: ks_X6_reach_48)
theorem ck_X6_reach : bc_code 68 k_X6_reach = true := by decide +kernel
set_option maxRecDepth 20000 in
theorem at_X6_reach_48 {d : Nat} {post : Option bc_AV → bc_AH → Prop} {loc : List (Option bc_AV)} {st : List bc_AV} {h : bc_AH} (q : bc_vc d 68 post ks_X6_reach_48 none false loc st h) : bc_AT d 68 post 48 loc st h := bc_atF ck_X6_reach (by rfl) q
set_option maxRecDepth 20000 in
theorem at_X6_reach_109 {d : Nat} {post : Option bc_AV → bc_AH → Prop} {loc : List (Option bc_AV)} {st : List bc_AV} {h : bc_AH} (q : bc_vc d 68 post ks_X6_reach_109 none false loc st h) : bc_AT d 68 post 109 loc st h := bc_atF ck_X6_reach (by rfl) q
def ks_X6_come_80 : List bc_En := (80, .aload_n 0, 1, []) :: (81, .getfield 28, 3, [6, 2, 54]) :: (84, .getfield 79, 3, [1, 8, 57]) :: (87, .bipush 24, 2, []) :: (89, .if_icmp .lt 6, 3, [95]) :: (92, .bipush (-2), 2, []) :: (94, .ireturn, 1, [0]) :: (95, .aload_n 0, 1, []) :: (96, .getfield 47, 3, [6, 5, 55]) :: (99, .aload_n 0, 1, []) :: (100, .getfield 28, 3, [6, 2, 54]) :: (103, .invokevirtual 192, 3, [26, 56, 1, 2]) :: (106, .aload_n 0, 1, []) :: (107, .getfield 28, 3, [6, 2, 54]) :: (110, .iload_n 1, 1, []) :: (111, .iload_n 2, 1, []) :: (112, .iload_n 3, 1, []) :: (113, .iload 4, 2, []) :: (115, .iload 5, 2, []) :: (117, .invokevirtual 195, 3, [14, 57, 5, 1]) :: (120, .aload_n 0, 1, []) :: (121, .getfield 28, 3, [6, 2, 54]) :: (124, .getfield 79, 3, [1, 8, 57]) :: (127, .iconst 1, 1, []) :: (128, .isub, 1, []) :: (129, .ireturn, 1, [0]) :: []
def ks_X6_come_56 : List bc_En := (56, .istore 6, 2, []) :: (58, .iload 6, 2, []) :: (60, .ifCond .eq 18, 3, [78]) :: (63, .aload_n 0, 1, []) :: (64, .getfield 28, 3, [6, 2, 54]) :: (67, .invokevirtual 82, 3, [18, 41, 0, 1]) :: (70, .invokestatic 187, 3, [136, 55, 1]) :: (73, .bipush 10, 2, []) :: (75, .if_icmp .lt 5, 3, [80]) :: (78, .iconst (-1), 1, []) :: (79, .ireturn, 1, [0]) :: ((80, .nop, 0, [1, 1, 1, 1, 1, 1, 0]) :: ks_X6_come_80)
def k_X6_come : List bc_En := (0, .iload_n 1, 1, []) :: (1, .ifCond .eq 8, 3, [9]) :: (4, .iload_n 1, 1, []) :: (5, .iconst 1, 1, []) :: (6, .if_icmp .ne 49, 3, [55]) :: (9, .iload_n 2, 1, []) :: (10, .iconst 1, 1, []) :: (11, .if_icmp .lt 44, 3, [55]) :: (14, .iload_n 2, 1, []) :: (15, .sipush 999, 3, []) :: (18, .if_icmp .gt 37, 3, [55]) :: (21, .iload_n 3, 1, []) :: (22, .iconst 1, 1, []) :: (23, .if_icmp .lt 32, 3, [55]) :: (26, .iload_n 3, 1, []) :: (27, .iload_n 2, 1, []) :: (28, .if_icmp .gt 27, 3, [55]) :: (31, .iload 4, 2, []) :: (33, .invokestatic 150, 3, [77, 44, 1]) :: (36, .ifCond .eq 19, 3, [55]) :: (39, .iload 5, 2, []) :: (41, .ifCond .lt 14, 3, [55]) :: (44, .iload 5, 2, []) :: (46, .bipush 6, 2, []) :: (48, .if_icmp .ge 7, 3, [55]) :: (51, .iconst 1, 1, []) :: (52, .goto 4, 3, [56]) :: (55, .iconst 0, 1, []) :: ((56, .nop, 0, [1, 1, 1, 1, 1, 1, 0]) :: ks_X6_come_56)
theorem ck_X6_come : bc_code 69 k_X6_come = true := by decide +kernel
set_option maxRecDepth 20000 in
theorem at_X6_come_56 {d : Nat} {post : Option bc_AV → bc_AH → Prop} {loc : List (Option bc_AV)} {st : List bc_AV} {h : bc_AH} (q : bc_vc d 69 post ks_X6_come_56 none false loc st h) : bc_AT d 69 post 56 loc st h := bc_atF ck_X6_come (by rfl) q
set_option maxRecDepth 20000 in
theorem at_X6_come_80 {d : Nat} {post : Option bc_AV → bc_AH → Prop} {loc : List (Option bc_AV)} {st : List bc_AV} {h : bc_AH} (q : bc_vc d 69 post ks_X6_come_80 none false loc st h) : bc_AT d 69 post 80 loc st h := bc_atF ck_X6_come (by rfl) q
def k_X6_withdraw : List bc_En := [(0, .aload_n 0, 1, []), (1, .getfield 28, 3, [6, 2, 54]), (4, .iload_n 1, 1, []), (5, .invokevirtual 143, 3, [16, 42, 1, 1]), (8, .ifCond .ne 5, 3, [13]), (11, .iconst (-1), 1, []), (12, .ireturn, 1, [0]), (13, .aload_n 0, 1, []), (14, .getfield 47, 3, [6, 5, 55]), (17, .aload_n 0, 1, []), (18, .getfield 28, 3, [6, 2, 54]), (21, .invokevirtual 192, 3, [26, 56, 1, 2]), (24, .aload_n 0, 1, []), (25, .getfield 28, 3, [6, 2, 54]), (28, .getfield 130, 3, [1, 5, 73]), (31, .iload_n 1, 1, []), (32, .iconst 1, 1, []), (33, .iastore, 1, []), (34, .aload_n 0, 1, []), (35, .getfield 28, 3, [6, 2, 54]), (38, .getfield 118, 3, [1, 1, 72]), (41, .iload_n 1, 1, []), (42, .iaload, 1, []), (43, .ireturn, 1, [0])]
theorem ck_X6_withdraw : bc_code 70 k_X6_withdraw = true := by decide +kernel
def k_X6_amend : List bc_En := [(0, .aload_n 0, 1, []), (1, .getfield 28, 3, [6, 2, 54]), (4, .iload_n 1, 1, []), (5, .invokevirtual 143, 3, [16, 42, 1, 1]), (8, .ifCond .ne 5, 3, [13]), (11, .iconst (-1), 1, []), (12, .ireturn, 1, [0]), (13, .iload_n 2, 1, []), (14, .ifCond .ne 35, 3, [49]), (17, .iload_n 3, 1, []), (18, .iconst 1, 1, []), (19, .if_icmp .lt 30, 3, [49]), (22, .iload_n 3, 1, []), (23, .aload_n 0, 1, []), (24, .getfield 28, 3, [6, 2, 54]), (27, .getfield 118, 3, [1, 1, 72]), (30, .iload_n 1, 1, []), (31, .iaload, 1, []), (32, .if_icmp .gt 17, 3, [49]), (35, .aload_n 0, 1, []), (36, .aload_n 0, 1, []), (37, .getfield 28, 3, [6, 2, 54]), (40, .getfield 121, 3, [1, 2, 69]), (43, .iload_n 1, 1, []), (44, .iload_n 3, 1, []), (45, .invokevirtual 199, 3, [76, 58, 3, 6]), (48, .ireturn, 1, [0]), (49, .iload_n 2, 1, []), (50, .iconst 1, 1, []), (51, .if_icmp .ne 24, 3, [75]), (54, .iload_n 3, 1, []), (55, .invokestatic 150, 3, [77, 44, 1]), (58, .ifCond .eq 17, 3, [75]), (61, .aload_n 0, 1, []), (62, .aload_n 0, 1, []), (63, .getfield 28, 3, [6, 2, 54]), (66, .getfield 124, 3, [1, 3, 71]), (69, .iload_n 1, 1, []), (70, .iload_n 3, 1, []), (71, .invokevirtual 199, 3, [76, 58, 3, 6]), (74, .ireturn, 1, [0]), (75, .iconst (-1), 1, []), (76, .ireturn, 1, [0])]
theorem ck_X6_amend : bc_code 71 k_X6_amend = true := by decide +kernel
def k_X6_mid : List bc_En := [(0, .iload_n 1, 1, []), (1, .invokestatic 150, 3, [77, 44, 1]), (4, .ifCond .ne 5, 3, [9]), (7, .iconst (-1), 1, []), (8, .ireturn, 1, [0]), (9, .aload_n 0, 1, []), (10, .getfield 28, 3, [6, 2, 54]), (13, .getfield 86, 3, [1, 9, 58]), (16, .istore_n 2, 1, []), (17, .iload_n 2, 1, []), (18, .iload_n 1, 1, []), (19, .if_icmp .ne 6, 3, [25]), (22, .bipush (-2), 2, []), (24, .ireturn, 1, [0]), (25, .aload_n 0, 1, []), (26, .getfield 47, 3, [6, 5, 55]), (29, .aload_n 0, 1, []), (30, .getfield 28, 3, [6, 2, 54]), (33, .invokevirtual 192, 3, [26, 56, 1, 2]), (36, .aload_n 0, 1, []), (37, .getfield 28, 3, [6, 2, 54]), (40, .iload_n 1, 1, []), (41, .putfield 86, 3, [1, 9, 58]), (44, .iload_n 2, 1, []), (45, .ireturn, 1, [0])]
theorem ck_X6_mid : bc_code 72 k_X6_mid = true := by decide +kernel
def k_X6_run : List bc_En := [(0, .aload_n 0, 1, []), (1, .getfield 40, 3, [6, 4, 65]), (4, .aload_n 0, 1, []), (5, .getfield 28, 3, [6, 2, 54]), (8, .aload_n 0, 1, []), (9, .getfield 28, 3, [6, 2, 54]), (12, .getfield 86, 3, [1, 9, 58]), (15, .invokevirtual 153, 3, [19, 45, 1, 1]), (18, .iconst 0, 1, []), (19, .invokevirtual 156, 3, [2, 46, 2, 0]), (22, .aload_n 0, 1, []), (23, .getfield 40, 3, [6, 4, 65]), (26, .getfield 160, 3, [0, 8, 66]), (29, .ifCond .ne 5, 3, [34]), (32, .iconst 0, 1, []), (33, .ireturn, 1, [0]), (34, .aload_n 0, 1, []), (35, .getfield 40, 3, [6, 4, 65]), (38, .invokevirtual 166, 3, [5, 48, 0, 0]), (41, .aload_n 0, 1, []), (42, .getfield 47, 3, [6, 5, 55]), (45, .aload_n 0, 1, []), (46, .getfield 28, 3, [6, 2, 54]), (49, .invokevirtual 192, 3, [26, 56, 1, 2]), (52, .aload_n 0, 1, []), (53, .getfield 28, 3, [6, 2, 54]), (56, .aload_n 0, 1, []), (57, .getfield 40, 3, [6, 4, 65]), (60, .getfield 163, 3, [0, 9, 67]), (63, .aload_n 0, 1, []), (64, .getfield 40, 3, [6, 4, 65]), (67, .getfield 169, 3, [0, 3, 68]), (70, .aload_n 0, 1, []), (71, .getfield 40, 3, [6, 4, 65]), (74, .getfield 160, 3, [0, 8, 66]), (77, .invokevirtual 203, 3, [23, 59, 3, 1]), (80, .aload_n 0, 1, []), (81, .getfield 40, 3, [6, 4, 65]), (84, .getfield 160, 3, [0, 8, 66]), (87, .ireturn, 1, [0])]
theorem ck_X6_run : bc_code 73 k_X6_run = true := by decide +kernel
def k_X6_undo : List bc_En := [(0, .aload_n 0, 1, []), (1, .getfield 47, 3, [6, 5, 55]), (4, .aload_n 0, 1, []), (5, .getfield 28, 3, [6, 2, 54]), (8, .invokevirtual 207, 3, [27, 60, 1, 2]), (11, .ifCond .eq 13, 3, [24]), (14, .aload_n 0, 1, []), (15, .getfield 47, 3, [6, 5, 55]), (18, .getfield 104, 3, [2, 2, 64]), (21, .goto 4, 3, [25]), (24, .iconst (-1), 1, []), (25, .ireturn, 1, [0])]
theorem ck_X6_undo : bc_code 74 k_X6_undo = true := by decide +kernel
def k_X6_volumeAt : List bc_En := [(0, .aload_n 0, 1, []), (1, .getfield 40, 3, [6, 4, 65]), (4, .aload_n 0, 1, []), (5, .getfield 28, 3, [6, 2, 54]), (8, .iload_n 1, 1, []), (9, .invokevirtual 153, 3, [19, 45, 1, 1]), (12, .iconst 0, 1, []), (13, .invokevirtual 156, 3, [2, 46, 2, 0]), (16, .aload_n 0, 1, []), (17, .getfield 40, 3, [6, 4, 65]), (20, .getfield 160, 3, [0, 8, 66]), (23, .ireturn, 1, [0])]
theorem ck_X6_volumeAt : bc_code 75 k_X6_volumeAt = true := by decide +kernel
def k_X6_change : List bc_En := [(0, .aload_n 1, 1, []), (1, .iload_n 2, 1, []), (2, .iaload, 1, []), (3, .istore 4, 2, []), (5, .iload 4, 2, []), (7, .iload_n 3, 1, []), (8, .if_icmp .ne 6, 3, [14]), (11, .bipush (-2), 2, []), (13, .ireturn, 1, [0]), (14, .aload_n 0, 1, []), (15, .getfield 47, 3, [6, 5, 55]), (18, .aload_n 0, 1, []), (19, .getfield 28, 3, [6, 2, 54]), (22, .invokevirtual 192, 3, [26, 56, 1, 2]), (25, .aload_n 1, 1, []), (26, .iload_n 2, 1, []), (27, .iload_n 3, 1, []), (28, .iastore, 1, []), (29, .iload 4, 2, []), (31, .ireturn, 1, [0])]
theorem ck_X6_change : bc_code 76 k_X6_change = true := by decide +kernel
def k_X6_isPrice : List bc_En := [(0, .iload_n 0, 1, []), (1, .ifCond .lt 14, 3, [15]), (4, .iload_n 0, 1, []), (5, .sipush 999, 3, []), (8, .if_icmp .gt 7, 3, [15]), (11, .iconst 1, 1, []), (12, .goto 4, 3, [16]), (15, .iconst 0, 1, []), (16, .ireturn, 1, [1])]
theorem ck_X6_isPrice : bc_code 77 k_X6_isPrice = true := by decide +kernel
def k_X7_thrown : List bc_En := [(0, .aload_n 0, 1, []), (1, .getfield 1, 3, [7, 0, 74]), (4, .ireturn, 1, [0])]
theorem ck_X7_thrown : bc_code 79 k_X7_thrown = true := by decide +kernel
def k_X7_refuse : List bc_En := [(0, .aload_n 0, 1, []), (1, .iconst 1, 1, []), (2, .putfield 1, 3, [7, 0, 74]), (5, .iconst 0, 1, []), (6, .ireturn, 1, [0])]
theorem ck_X7_refuse : bc_code 80 k_X7_refuse = true := by decide +kernel
def ks_X7_lays_3 : List bc_En := (3, .iload_n 2, 1, []) :: (4, .ifCond .lt 35, 3, [39]) :: (7, .aload_n 0, 1, []) :: (8, .getfield 7, 3, [7, 1, 75]) :: (11, .aload_n 0, 1, []) :: (12, .getfield 11, 3, [7, 2, 76]) :: (15, .iload_n 1, 1, []) :: (16, .iload_n 2, 1, []) :: (17, .iushr, 1, []) :: (18, .sipush 255, 3, []) :: (21, .iand, 1, []) :: (22, .iastore, 1, []) :: (23, .aload_n 0, 1, []) :: (24, .dup, 1, []) :: (25, .getfield 11, 3, [7, 2, 76]) :: (28, .iconst 1, 1, []) :: (29, .iadd, 1, []) :: (30, .putfield 11, 3, [7, 2, 76]) :: (33, .iinc 2 (-8), 3, []) :: (36, .goto (-33), 3, [3, 1, 1, 1]) :: (39, .return_, 1, []) :: []
def k_X7_lays : List bc_En := (0, .bipush 24, 2, []) :: (2, .istore_n 2, 1, []) :: ((3, .nop, 0, [1, 1, 1]) :: ks_X7_lays_3)
theorem ck_X7_lays : bc_code 83 k_X7_lays = true := by decide +kernel
set_option maxRecDepth 20000 in
theorem at_X7_lays_3 {d : Nat} {post : Option bc_AV → bc_AH → Prop} {loc : List (Option bc_AV)} {st : List bc_AV} {h : bc_AH} (q : bc_vc d 83 post ks_X7_lays_3 none false loc st h) : bc_AT d 83 post 3 loc st h := bc_atF ck_X7_lays (by rfl) q
def k_X7_feed : List bc_En := [(0, .aload_n 0, 1, []), (1, .iconst 0, 1, []), (2, .putfield 1, 3, [7, 0, 74]), (5, .aload_n 0, 1, []), (6, .getfield 11, 3, [7, 2, 76]), (9, .bipush 20, 2, []), (11, .iadd, 1, []), (12, .sipush 440, 3, []), (15, .if_icmp .le 5, 3, [20]), (18, .iconst (-1), 1, []), (19, .ireturn, 1, [0]), (20, .aload_n 0, 1, []), (21, .iload_n 1, 1, []), (22, .invokevirtual 14, 3, [83, 61, 1, 7]), (25, .aload_n 0, 1, []), (26, .iload_n 2, 1, []), (27, .invokevirtual 14, 3, [83, 61, 1, 7]), (30, .aload_n 0, 1, []), (31, .iload_n 3, 1, []), (32, .invokevirtual 14, 3, [83, 61, 1, 7]), (35, .aload_n 0, 1, []), (36, .iload 4, 2, []), (38, .invokevirtual 14, 3, [83, 61, 1, 7]), (41, .aload_n 0, 1, []), (42, .iload 5, 2, []), (44, .invokevirtual 14, 3, [83, 61, 1, 7]), (47, .aload_n 0, 1, []), (48, .getfield 11, 3, [7, 2, 76]), (51, .ireturn, 1, [0])]
theorem ck_X7_feed : bc_code 84 k_X7_feed = true := by decide +kernel
def k_X7_end : List bc_En := [(0, .aload_n 0, 1, []), (1, .iconst 0, 1, []), (2, .putfield 1, 3, [7, 0, 74]), (5, .iload_n 1, 1, []), (6, .ifCond .lt 11, 3, [17]), (9, .iload_n 1, 1, []), (10, .aload_n 0, 1, []), (11, .getfield 11, 3, [7, 2, 76]), (14, .if_icmp .le 5, 3, [19]), (17, .iconst 0, 1, []), (18, .ireturn, 1, [1]), (19, .aload_n 0, 1, []), (20, .iload_n 1, 1, []), (21, .putfield 11, 3, [7, 2, 76]), (24, .iconst 1, 1, []), (25, .ireturn, 1, [1])]
theorem ck_X7_end : bc_code 85 k_X7_end = true := by decide +kernel
def k_X7_tapeAt : List bc_En := [(0, .iload_n 1, 1, []), (1, .aload_n 0, 1, []), (2, .getfield 18, 3, [7, 3, 77]), (5, .if_icmp .ge 12, 3, [17]), (8, .aload_n 0, 1, []), (9, .getfield 7, 3, [7, 1, 75]), (12, .iload_n 1, 1, []), (13, .iaload, 1, []), (14, .goto 4, 3, [18]), (17, .iconst 0, 1, []), (18, .ireturn, 1, [0])]
theorem ck_X7_tapeAt : bc_code 86 k_X7_tapeAt = true := by decide +kernel
def k_X7_isDigit : List bc_En := [(0, .iload_n 0, 1, []), (1, .bipush 48, 2, []), (3, .if_icmp .lt 13, 3, [16]), (6, .iload_n 0, 1, []), (7, .bipush 57, 2, []), (9, .if_icmp .gt 7, 3, [16]), (12, .iconst 1, 1, []), (13, .goto 4, 3, [17]), (16, .iconst 0, 1, []), (17, .ireturn, 1, [1])]
theorem ck_X7_isDigit : bc_code 87 k_X7_isDigit = true := by decide +kernel
def k_X7_isLetter : List bc_En := [(0, .iload_n 0, 1, []), (1, .bipush 97, 2, []), (3, .if_icmp .lt 13, 3, [16]), (6, .iload_n 0, 1, []), (7, .bipush 122, 2, []), (9, .if_icmp .gt 7, 3, [16]), (12, .iconst 1, 1, []), (13, .goto 4, 3, [17]), (16, .iconst 0, 1, []), (17, .ireturn, 1, [1])]
theorem ck_X7_isLetter : bc_code 88 k_X7_isLetter = true := by decide +kernel
def ks_X7_go_346 : List bc_En := (346, .putfield 27, 3, [7, 6, 80]) :: (349, .return_, 1, []) :: []
def ks_X7_go_311 : List bc_En := (311, .aload_n 0, 1, []) :: (312, .iload_n 3, 1, []) :: (313, .ifCond .eq 20, 3, [333]) :: (316, .iload_n 2, 1, []) :: (317, .ifCond .ne 20, 3, [337]) :: (320, .aload_n 0, 1, []) :: (321, .getfield 21, 3, [7, 4, 78]) :: (324, .aload_n 0, 1, []) :: (325, .getfield 24, 3, [7, 5, 79]) :: (328, .isub, 1, []) :: (329, .iconst 3, 1, []) :: (330, .if_icmp .le 7, 3, [337]) :: (333, .iconst 1, 1, []) :: (334, .goto 12, 3, [346]) :: (337, .iload_n 2, 1, []) :: (338, .ifCond .eq 7, 3, [345]) :: (341, .iconst 2, 1, []) :: (342, .goto 4, 3, [346]) :: (345, .iconst 3, 1, []) :: ((346, .nop, 0, [0, 0, 0, 0, 0]) :: ks_X7_go_346)
def ks_X7_go_298 : List bc_En := (298, .aload_n 0, 1, []) :: (299, .dup, 1, []) :: (300, .getfield 21, 3, [7, 4, 78]) :: (303, .iconst 1, 1, []) :: (304, .iadd, 1, []) :: (305, .putfield 21, 3, [7, 4, 78]) :: (308, .goto (-131), 3, [177, 1, 0, 1, 1, 0]) :: ((311, .nop, 0, [1, 0, 1, 1, 0]) :: ks_X7_go_311)
def ks_X7_go_268 : List bc_En := (268, .aload_n 0, 1, []) :: (269, .getfield 21, 3, [7, 4, 78]) :: (272, .aload_n 0, 1, []) :: (273, .getfield 24, 3, [7, 5, 79]) :: (276, .isub, 1, []) :: (277, .iconst 3, 1, []) :: (278, .if_icmp .ge 20, 3, [298]) :: (281, .aload_n 0, 1, []) :: (282, .bipush 10, 2, []) :: (284, .aload_n 0, 1, []) :: (285, .getfield 41, 3, [7, 7, 82]) :: (288, .imul, 1, []) :: (289, .iload 4, 2, []) :: (291, .iadd, 1, []) :: (292, .bipush 48, 2, []) :: (294, .isub, 1, []) :: (295, .putfield 41, 3, [7, 7, 82]) :: ((298, .nop, 0, [1, 0, 1, 1, 0]) :: ks_X7_go_298)
def ks_X7_go_234 : List bc_En := (234, .istore_n 3, 1, []) :: (235, .aload_n 0, 1, []) :: (236, .getfield 21, 3, [7, 4, 78]) :: (239, .aload_n 0, 1, []) :: (240, .getfield 24, 3, [7, 5, 79]) :: (243, .isub, 1, []) :: (244, .iconst 5, 1, []) :: (245, .if_icmp .ge 23, 3, [268]) :: (248, .aload_n 0, 1, []) :: (249, .ldc2_w 48, 3, [875, 27]) :: (252, .aload_n 0, 1, []) :: (253, .getfield 37, 3, [7, 10, 81]) :: (256, .lmul, 1, []) :: (257, .iload 4, 2, []) :: (259, .i2l, 1, []) :: (260, .ladd, 1, []) :: (261, .ldc2_w 50, 3, [876, 96]) :: (264, .lsub, 1, []) :: (265, .putfield 37, 3, [7, 10, 81]) :: ((268, .nop, 0, [1, 0, 1, 1, 1]) :: ks_X7_go_268)
def ks_X7_go_205 : List bc_En := (205, .aload_n 0, 1, []) :: (206, .getfield 7, 3, [7, 1, 75]) :: (209, .aload_n 0, 1, []) :: (210, .getfield 21, 3, [7, 4, 78]) :: (213, .iaload, 1, []) :: (214, .istore 4, 2, []) :: (216, .iload_n 3, 1, []) :: (217, .ifCond .eq 16, 3, [233]) :: (220, .iload 4, 2, []) :: (222, .invokestatic 30, 3, [88, 62, 1]) :: (225, .iload_n 2, 1, []) :: (226, .if_icmp .ne 7, 3, [233]) :: (229, .iconst 1, 1, []) :: (230, .goto 4, 3, [234]) :: (233, .iconst 0, 1, []) :: ((234, .nop, 0, [1, 0, 1, 0, 1]) :: ks_X7_go_234)
def ks_X7_go_177 : List bc_En := (177, .aload_n 0, 1, []) :: (178, .aload_n 0, 1, []) :: (179, .getfield 21, 3, [7, 4, 78]) :: (182, .invokevirtual 44, 3, [86, 64, 1, 7]) :: (185, .invokestatic 30, 3, [88, 62, 1]) :: (188, .ifCond .ne 17, 3, [205]) :: (191, .aload_n 0, 1, []) :: (192, .aload_n 0, 1, []) :: (193, .getfield 21, 3, [7, 4, 78]) :: (196, .invokevirtual 44, 3, [86, 64, 1, 7]) :: (199, .invokestatic 34, 3, [87, 63, 1]) :: (202, .ifCond .eq 109, 3, [311]) :: ((205, .nop, 0, [1, 0, 1, 1, 0]) :: ks_X7_go_205)
def ks_X7_go_160 : List bc_En := (160, .iload_n 1, 1, []) :: (161, .invokestatic 30, 3, [88, 62, 1]) :: (164, .istore_n 2, 1, []) :: (165, .iconst 1, 1, []) :: (166, .istore_n 3, 1, []) :: (167, .aload_n 0, 1, []) :: (168, .lconst 0, 1, []) :: (169, .putfield 37, 3, [7, 10, 81]) :: (172, .aload_n 0, 1, []) :: (173, .iconst 0, 1, []) :: (174, .putfield 41, 3, [7, 7, 82]) :: ((177, .nop, 0, [1, 0, 1, 1, 0]) :: ks_X7_go_177)
def ks_X7_go_146 : List bc_En := (146, .putfield 27, 3, [7, 6, 80]) :: (149, .aload_n 0, 1, []) :: (150, .dup, 1, []) :: (151, .getfield 21, 3, [7, 4, 78]) :: (154, .iconst 1, 1, []) :: (155, .iadd, 1, []) :: (156, .putfield 21, 3, [7, 4, 78]) :: (159, .return_, 1, []) :: ((160, .nop, 0, [1, 1, 0, 0, 0]) :: ks_X7_go_160)
def ks_X7_go_110 : List bc_En := (110, .aload_n 0, 1, []) :: (111, .getfield 7, 3, [7, 1, 75]) :: (114, .aload_n 0, 1, []) :: (115, .getfield 21, 3, [7, 4, 78]) :: (118, .iaload, 1, []) :: (119, .istore_n 1, 1, []) :: (120, .iload_n 1, 1, []) :: (121, .invokestatic 30, 3, [88, 62, 1]) :: (124, .ifCond .ne 36, 3, [160]) :: (127, .iload_n 1, 1, []) :: (128, .invokestatic 34, 3, [87, 63, 1]) :: (131, .ifCond .ne 29, 3, [160]) :: (134, .aload_n 0, 1, []) :: (135, .iload_n 1, 1, []) :: (136, .bipush 59, 2, []) :: (138, .if_icmp .ne 7, 3, [145]) :: (141, .iconst 4, 1, []) :: (142, .goto 4, 3, [146]) :: (145, .iconst 1, 1, []) :: ((146, .nop, 0, [1, 0, 0, 0, 0]) :: ks_X7_go_146)
def ks_X7_go_93 : List bc_En := (93, .aload_n 0, 1, []) :: (94, .getfield 21, 3, [7, 4, 78]) :: (97, .aload_n 0, 1, []) :: (98, .getfield 18, 3, [7, 3, 77]) :: (101, .if_icmp .lt 9, 3, [110]) :: (104, .aload_n 0, 1, []) :: (105, .iconst 0, 1, []) :: (106, .putfield 27, 3, [7, 6, 80]) :: (109, .return_, 1, []) :: ((110, .nop, 0, [1, 0, 0, 0, 0]) :: ks_X7_go_110)
def ks_X7_go_52 : List bc_En := (52, .aload_n 0, 1, []) :: (53, .aload_n 0, 1, []) :: (54, .getfield 21, 3, [7, 4, 78]) :: (57, .putfield 24, 3, [7, 5, 79]) :: (60, .aload_n 0, 1, []) :: (61, .getfield 18, 3, [7, 3, 77]) :: (64, .sipush 400, 3, []) :: (67, .if_icmp .le 26, 3, [93]) :: (70, .aload_n 0, 1, []) :: (71, .getfield 24, 3, [7, 5, 79]) :: (74, .sipush 400, 3, []) :: (77, .if_icmp .lt 16, 3, [93]) :: (80, .aload_n 0, 1, []) :: (81, .sipush 400, 3, []) :: (84, .putfield 24, 3, [7, 5, 79]) :: (87, .aload_n 0, 1, []) :: (88, .iconst 1, 1, []) :: (89, .putfield 27, 3, [7, 6, 80]) :: (92, .return_, 1, []) :: ((93, .nop, 0, [1, 0, 0, 0, 0]) :: ks_X7_go_93)
def ks_X7_go_39 : List bc_En := (39, .aload_n 0, 1, []) :: (40, .dup, 1, []) :: (41, .getfield 21, 3, [7, 4, 78]) :: (44, .iconst 1, 1, []) :: (45, .iadd, 1, []) :: (46, .putfield 21, 3, [7, 4, 78]) :: (49, .goto (-49), 3, [0, 1, 0, 0, 0, 0]) :: ((52, .nop, 0, [1, 0, 0, 0, 0]) :: ks_X7_go_52)
def ks_X7_go_0 : List bc_En := (0, .aload_n 0, 1, []) :: (1, .getfield 21, 3, [7, 4, 78]) :: (4, .aload_n 0, 1, []) :: (5, .getfield 18, 3, [7, 3, 77]) :: (8, .if_icmp .ge 44, 3, [52]) :: (11, .aload_n 0, 1, []) :: (12, .getfield 7, 3, [7, 1, 75]) :: (15, .aload_n 0, 1, []) :: (16, .getfield 21, 3, [7, 4, 78]) :: (19, .iaload, 1, []) :: (20, .bipush 32, 2, []) :: (22, .if_icmp .eq 17, 3, [39]) :: (25, .aload_n 0, 1, []) :: (26, .getfield 7, 3, [7, 1, 75]) :: (29, .aload_n 0, 1, []) :: (30, .getfield 21, 3, [7, 4, 78]) :: (33, .iaload, 1, []) :: (34, .bipush 10, 2, []) :: (36, .if_icmp .ne 16, 3, [52]) :: ((39, .nop, 0, [1, 0, 0, 0, 0]) :: ks_X7_go_39)
def k_X7_go : List bc_En := ((0, .nop, 0, [1, 0, 0, 0, 0]) :: ks_X7_go_0)
theorem ck_X7_go : bc_code 89 k_X7_go = true := by decide +kernel
set_option maxRecDepth 20000 in
theorem at_X7_go_0 {d : Nat} {post : Option bc_AV → bc_AH → Prop} {loc : List (Option bc_AV)} {st : List bc_AV} {h : bc_AH} (q : bc_vc d 89 post ks_X7_go_0 none false loc st h) : bc_AT d 89 post 0 loc st h := bc_atF ck_X7_go (by rfl) q
set_option maxRecDepth 20000 in
theorem at_X7_go_39 {d : Nat} {post : Option bc_AV → bc_AH → Prop} {loc : List (Option bc_AV)} {st : List bc_AV} {h : bc_AH} (q : bc_vc d 89 post ks_X7_go_39 none false loc st h) : bc_AT d 89 post 39 loc st h := bc_atF ck_X7_go (by rfl) q
set_option maxRecDepth 20000 in
theorem at_X7_go_52 {d : Nat} {post : Option bc_AV → bc_AH → Prop} {loc : List (Option bc_AV)} {st : List bc_AV} {h : bc_AH} (q : bc_vc d 89 post ks_X7_go_52 none false loc st h) : bc_AT d 89 post 52 loc st h := bc_atF ck_X7_go (by rfl) q
set_option maxRecDepth 20000 in
theorem at_X7_go_93 {d : Nat} {post : Option bc_AV → bc_AH → Prop} {loc : List (Option bc_AV)} {st : List bc_AV} {h : bc_AH} (q : bc_vc d 89 post ks_X7_go_93 none false loc st h) : bc_AT d 89 post 93 loc st h := bc_atF ck_X7_go (by rfl) q
set_option maxRecDepth 20000 in
theorem at_X7_go_110 {d : Nat} {post : Option bc_AV → bc_AH → Prop} {loc : List (Option bc_AV)} {st : List bc_AV} {h : bc_AH} (q : bc_vc d 89 post ks_X7_go_110 none false loc st h) : bc_AT d 89 post 110 loc st h := bc_atF ck_X7_go (by rfl) q
set_option maxRecDepth 20000 in
theorem at_X7_go_146 {d : Nat} {post : Option bc_AV → bc_AH → Prop} {loc : List (Option bc_AV)} {st : List bc_AV} {h : bc_AH} (q : bc_vc d 89 post ks_X7_go_146 none false loc st h) : bc_AT d 89 post 146 loc st h := bc_atF ck_X7_go (by rfl) q
set_option maxRecDepth 20000 in
theorem at_X7_go_160 {d : Nat} {post : Option bc_AV → bc_AH → Prop} {loc : List (Option bc_AV)} {st : List bc_AV} {h : bc_AH} (q : bc_vc d 89 post ks_X7_go_160 none false loc st h) : bc_AT d 89 post 160 loc st h := bc_atF ck_X7_go (by rfl) q
set_option maxRecDepth 20000 in
theorem at_X7_go_177 {d : Nat} {post : Option bc_AV → bc_AH → Prop} {loc : List (Option bc_AV)} {st : List bc_AV} {h : bc_AH} (q : bc_vc d 89 post ks_X7_go_177 none false loc st h) : bc_AT d 89 post 177 loc st h := bc_atF ck_X7_go (by rfl) q
set_option maxRecDepth 20000 in
theorem at_X7_go_205 {d : Nat} {post : Option bc_AV → bc_AH → Prop} {loc : List (Option bc_AV)} {st : List bc_AV} {h : bc_AH} (q : bc_vc d 89 post ks_X7_go_205 none false loc st h) : bc_AT d 89 post 205 loc st h := bc_atF ck_X7_go (by rfl) q
set_option maxRecDepth 20000 in
theorem at_X7_go_234 {d : Nat} {post : Option bc_AV → bc_AH → Prop} {loc : List (Option bc_AV)} {st : List bc_AV} {h : bc_AH} (q : bc_vc d 89 post ks_X7_go_234 none false loc st h) : bc_AT d 89 post 234 loc st h := bc_atF ck_X7_go (by rfl) q
set_option maxRecDepth 20000 in
theorem at_X7_go_268 {d : Nat} {post : Option bc_AV → bc_AH → Prop} {loc : List (Option bc_AV)} {st : List bc_AV} {h : bc_AH} (q : bc_vc d 89 post ks_X7_go_268 none false loc st h) : bc_AT d 89 post 268 loc st h := bc_atF ck_X7_go (by rfl) q
set_option maxRecDepth 20000 in
theorem at_X7_go_298 {d : Nat} {post : Option bc_AV → bc_AH → Prop} {loc : List (Option bc_AV)} {st : List bc_AV} {h : bc_AH} (q : bc_vc d 89 post ks_X7_go_298 none false loc st h) : bc_AT d 89 post 298 loc st h := bc_atF ck_X7_go (by rfl) q
set_option maxRecDepth 20000 in
theorem at_X7_go_311 {d : Nat} {post : Option bc_AV → bc_AH → Prop} {loc : List (Option bc_AV)} {st : List bc_AV} {h : bc_AH} (q : bc_vc d 89 post ks_X7_go_311 none false loc st h) : bc_AT d 89 post 311 loc st h := bc_atF ck_X7_go (by rfl) q
set_option maxRecDepth 20000 in
theorem at_X7_go_346 {d : Nat} {post : Option bc_AV → bc_AH → Prop} {loc : List (Option bc_AV)} {st : List bc_AV} {h : bc_AH} (q : bc_vc d 89 post ks_X7_go_346 none false loc st h) : bc_AT d 89 post 346 loc st h := bc_atF ck_X7_go (by rfl) q
def k_X7_is : List bc_En := [(0, .ldc2_w 48, 3, [875, 27]), (3, .ldc2_w 48, 3, [875, 27]), (6, .iload_n 1, 1, []), (7, .i2l, 1, []), (8, .ldc2_w 50, 3, [876, 96]), (11, .lsub, 1, []), (12, .lmul, 1, []), (13, .iload_n 2, 1, []), (14, .i2l, 1, []), (15, .ladd, 1, []), (16, .ldc2_w 50, 3, [876, 96]), (19, .lsub, 1, []), (20, .lmul, 1, []), (21, .iload_n 3, 1, []), (22, .i2l, 1, []), (23, .ladd, 1, []), (24, .ldc2_w 50, 3, [876, 96]), (27, .lsub, 1, []), (28, .lstore 5, 2, []), (30, .aload_n 0, 1, []), (31, .getfield 27, 3, [7, 6, 80]), (34, .iconst 2, 1, []), (35, .if_icmp .ne 39, 3, [74]), (38, .aload_n 0, 1, []), (39, .getfield 37, 3, [7, 10, 81]), (42, .iload 4, 2, []), (44, .ifCond .le 20, 3, [64]), (47, .ldc2_w 48, 3, [875, 27]), (50, .lload 5, 2, []), (52, .lmul, 1, []), (53, .iload 4, 2, []), (55, .i2l, 1, []), (56, .ladd, 1, []), (57, .ldc2_w 50, 3, [876, 96]), (60, .lsub, 1, []), (61, .goto 5, 3, [66]), (64, .lload 5, 2, []), (66, .lcmp, 1, []), (67, .ifCond .ne 7, 3, [74]), (70, .iconst 1, 1, []), (71, .goto 4, 3, [75]), (74, .iconst 0, 1, []), (75, .ireturn, 1, [1])]
theorem ck_X7_is : bc_code 90 k_X7_is = true := by decide +kernel
def k_X7_bad : List bc_En := [(0, .aload_n 0, 1, []), (1, .aload_n 0, 1, []), (2, .getfield 27, 3, [7, 6, 80]), (5, .iconst 1, 1, []), (6, .if_icmp .ne 7, 3, [13]), (9, .iconst 1, 1, []), (10, .goto 4, 3, [14]), (13, .iload_n 1, 1, []), (14, .putfield 52, 3, [7, 8, 83]), (17, .aload_n 0, 1, []), (18, .aload_n 0, 1, []), (19, .getfield 24, 3, [7, 5, 79]), (22, .putfield 55, 3, [7, 9, 84]), (25, .iconst 0, 1, []), (26, .ireturn, 1, [1])]
theorem ck_X7_bad : bc_code 91 k_X7_bad = true := by decide +kernel
def ks_X7_clears_2 : List bc_En := (2, .iload_n 1, 1, []) :: (3, .sipush 223, 3, []) :: (6, .if_icmp .ge 13, 3, [19]) :: (9, .aload_n 0, 1, []) :: (10, .iload_n 1, 1, []) :: (11, .iconst 0, 1, []) :: (12, .iastore, 1, []) :: (13, .iinc 1 1, 3, []) :: (16, .goto (-14), 3, [2, 1, 1]) :: (19, .aload_n 0, 1, []) :: (20, .iconst 4, 1, []) :: (21, .iconst (-1), 1, []) :: (22, .iastore, 1, []) :: (23, .aload_n 0, 1, []) :: (24, .iconst 5, 1, []) :: (25, .iconst (-1), 1, []) :: (26, .iastore, 1, []) :: (27, .return_, 1, []) :: []
def k_X7_clears : List bc_En := (0, .iconst 0, 1, []) :: (1, .istore_n 1, 1, []) :: ((2, .nop, 0, [1, 1]) :: ks_X7_clears_2)
theorem ck_X7_clears : bc_code 93 k_X7_clears = true := by decide +kernel
set_option maxRecDepth 20000 in
theorem at_X7_clears_2 {d : Nat} {post : Option bc_AV → bc_AH → Prop} {loc : List (Option bc_AV)} {st : List bc_AV} {h : bc_AH} (q : bc_vc d 93 post ks_X7_clears_2 none false loc st h) : bc_AT d 93 post 2 loc st h := bc_atF ck_X7_clears (by rfl) q
end
section
def k_X7_told : List bc_En := [(0, .aload_n 0, 1, []), (1, .getfield 27, 3, [7, 6, 80]), (4, .iconst 3, 1, []), (5, .if_icmp .eq 9, 3, [14]), (8, .aload_n 0, 1, []), (9, .iconst 1, 1, []), (10, .invokevirtual 101, 3, [91, 65, 1, 7]), (13, .ireturn, 1, [1]), (14, .aload_n 0, 1, []), (15, .getfield 41, 3, [7, 7, 82]), (18, .iload_n 2, 1, []), (19, .iload_n 3, 1, []), (20, .invokestatic 104, 3, [81, 66, 3]), (23, .ifCond .ne 9, 3, [32]), (26, .aload_n 0, 1, []), (27, .iconst 2, 1, []), (28, .invokevirtual 101, 3, [91, 65, 1, 7]), (31, .ireturn, 1, [1]), (32, .aload_n 0, 1, []), (33, .getfield 67, 3, [7, 12, 85]), (36, .iload_n 1, 1, []), (37, .aload_n 0, 1, []), (38, .getfield 41, 3, [7, 7, 82]), (41, .iastore, 1, []), (42, .aload_n 0, 1, []), (43, .invokevirtual 108, 3, [89, 67, 0, 7]), (46, .iconst 1, 1, []), (47, .ireturn, 1, [1])]
theorem ck_X7_told : bc_code 94 k_X7_told = true := by decide +kernel
def k_X7_readMid : List bc_En := [(0, .aload_n 0, 1, []), (1, .invokevirtual 108, 3, [89, 67, 0, 7]), (4, .aload_n 0, 1, []), (5, .iconst 1, 1, []), (6, .iconst 0, 1, []), (7, .sipush 999, 3, []), (10, .invokevirtual 111, 3, [94, 68, 3, 7]), (13, .ireturn, 1, [1])]
theorem ck_X7_readMid : bc_code 95 k_X7_readMid = true := by decide +kernel
def ks_X7_readOrder_50 : List bc_En := (50, .iastore, 1, []) :: (51, .aload_n 0, 1, []) :: (52, .iload_n 2, 1, []) :: (53, .iconst 1, 1, []) :: (54, .iadd, 1, []) :: (55, .iconst 1, 1, []) :: (56, .sipush 999, 3, []) :: (59, .invokevirtual 111, 3, [94, 68, 3, 7]) :: (62, .ifCond .eq 48, 3, [110]) :: (65, .aload_n 0, 1, []) :: (66, .iload_n 2, 1, []) :: (67, .iconst 2, 1, []) :: (68, .iadd, 1, []) :: (69, .iconst 1, 1, []) :: (70, .aload_n 0, 1, []) :: (71, .getfield 67, 3, [7, 12, 85]) :: (74, .iload_n 2, 1, []) :: (75, .iconst 1, 1, []) :: (76, .iadd, 1, []) :: (77, .iaload, 1, []) :: (78, .invokevirtual 111, 3, [94, 68, 3, 7]) :: (81, .ifCond .eq 29, 3, [110]) :: (84, .aload_n 0, 1, []) :: (85, .iload_n 2, 1, []) :: (86, .iconst 3, 1, []) :: (87, .iadd, 1, []) :: (88, .iconst 0, 1, []) :: (89, .sipush 999, 3, []) :: (92, .invokevirtual 111, 3, [94, 68, 3, 7]) :: (95, .ifCond .eq 15, 3, [110]) :: (98, .aload_n 0, 1, []) :: (99, .iload_n 2, 1, []) :: (100, .iconst 4, 1, []) :: (101, .iadd, 1, []) :: (102, .iconst 0, 1, []) :: (103, .iconst 5, 1, []) :: (104, .invokevirtual 111, 3, [94, 68, 3, 7]) :: (107, .ifCond .ne 5, 3, [112]) :: (110, .iconst 0, 1, []) :: (111, .ireturn, 1, [1]) :: (112, .aload_n 0, 1, []) :: (113, .getfield 67, 3, [7, 12, 85]) :: (116, .iconst 0, 1, []) :: (117, .dup2, 1, []) :: (118, .iaload, 1, []) :: (119, .iconst 1, 1, []) :: (120, .iadd, 1, []) :: (121, .iastore, 1, []) :: (122, .iconst 1, 1, []) :: (123, .ireturn, 1, [1]) :: []
def k_X7_readOrder : List bc_En := (0, .aload_n 0, 1, []) :: (1, .getfield 67, 3, [7, 12, 85]) :: (4, .iconst 0, 1, []) :: (5, .iaload, 1, []) :: (6, .bipush 10, 2, []) :: (8, .if_icmp .ne 9, 3, [17]) :: (11, .aload_n 0, 1, []) :: (12, .iconst 3, 1, []) :: (13, .invokevirtual 101, 3, [91, 65, 1, 7]) :: (16, .ireturn, 1, [1]) :: (17, .aload_n 0, 1, []) :: (18, .invokevirtual 108, 3, [89, 67, 0, 7]) :: (21, .bipush 7, 2, []) :: (23, .bipush 9, 2, []) :: (25, .aload_n 0, 1, []) :: (26, .getfield 67, 3, [7, 12, 85]) :: (29, .iconst 0, 1, []) :: (30, .iaload, 1, []) :: (31, .imul, 1, []) :: (32, .iadd, 1, []) :: (33, .istore_n 2, 1, []) :: (34, .aload_n 0, 1, []) :: (35, .getfield 67, 3, [7, 12, 85]) :: (38, .iload_n 2, 1, []) :: (39, .iconst 0, 1, []) :: (40, .iadd, 1, []) :: (41, .iload_n 1, 1, []) :: (42, .ifCond .eq 7, 3, [49]) :: (45, .iconst 1, 1, []) :: (46, .goto 4, 3, [50]) :: (49, .iconst 0, 1, []) :: ((50, .nop, 0, [1, 0, 1]) :: ks_X7_readOrder_50)
theorem ck_X7_readOrder : bc_code 96 k_X7_readOrder = true := by decide +kernel
set_option maxRecDepth 20000 in
theorem at_X7_readOrder_50 {d : Nat} {post : Option bc_AV → bc_AH → Prop} {loc : List (Option bc_AV)} {st : List bc_AV} {h : bc_AH} (q : bc_vc d 96 post ks_X7_readOrder_50 none false loc st h) : bc_AT d 96 post 50 loc st h := bc_atF ck_X7_readOrder (by rfl) q
def k_X7_readLine : List bc_En := [(0, .iload_n 1, 1, []), (1, .ifCond .eq 30, 3, [31]), (4, .aload_n 0, 1, []), (5, .bipush 109, 2, []), (7, .bipush 105, 2, []), (9, .bipush 100, 2, []), (11, .iconst 0, 1, []), (12, .invokevirtual 114, 3, [90, 69, 4, 7]), (15, .ifCond .eq 10, 3, [25]), (18, .aload_n 0, 1, []), (19, .invokevirtual 118, 3, [95, 70, 0, 7]), (22, .goto 8, 3, [30]), (25, .aload_n 0, 1, []), (26, .iconst 1, 1, []), (27, .invokevirtual 101, 3, [91, 65, 1, 7]), (30, .ireturn, 1, [1]), (31, .aload_n 0, 1, []), (32, .bipush 98, 2, []), (34, .bipush 117, 2, []), (36, .bipush 121, 2, []), (38, .iconst 0, 1, []), (39, .invokevirtual 114, 3, [90, 69, 4, 7]), (42, .istore_n 2, 1, []), (43, .iload_n 2, 1, []), (44, .ifCond .ne 18, 3, [62]), (47, .aload_n 0, 1, []), (48, .bipush 115, 2, []), (50, .bipush 101, 2, []), (52, .bipush 108, 2, []), (54, .bipush 108, 2, []), (56, .invokevirtual 114, 3, [90, 69, 4, 7]), (59, .ifCond .eq 11, 3, [70]), (62, .aload_n 0, 1, []), (63, .iload_n 2, 1, []), (64, .invokevirtual 122, 3, [96, 71, 1, 7]), (67, .goto 8, 3, [75]), (70, .aload_n 0, 1, []), (71, .iconst 1, 1, []), (72, .invokevirtual 101, 3, [91, 65, 1, 7]), (75, .ireturn, 1, [1])]
theorem ck_X7_readLine : bc_code 97 k_X7_readLine = true := by decide +kernel
def k_X7_readEnd : List bc_En := [(0, .aload_n 0, 1, []), (1, .getfield 27, 3, [7, 6, 80]), (4, .iconst 4, 1, []), (5, .if_icmp .eq 9, 3, [14]), (8, .aload_n 0, 1, []), (9, .iconst 1, 1, []), (10, .invokevirtual 101, 3, [91, 65, 1, 7]), (13, .ireturn, 1, [1]), (14, .aload_n 0, 1, []), (15, .invokevirtual 108, 3, [89, 67, 0, 7]), (18, .iconst 1, 1, []), (19, .ireturn, 1, [1])]
theorem ck_X7_readEnd : bc_code 98 k_X7_readEnd = true := by decide +kernel
def ks_X7_text_86 : List bc_En := (86, .iload_n 2, 1, []) :: (87, .sipush 223, 3, []) :: (90, .if_icmp .ge 21, 3, [111]) :: (93, .aload_n 0, 1, []) :: (94, .getfield 64, 3, [7, 11, 86]) :: (97, .iload_n 2, 1, []) :: (98, .aload_n 0, 1, []) :: (99, .getfield 67, 3, [7, 12, 85]) :: (102, .iload_n 2, 1, []) :: (103, .iaload, 1, []) :: (104, .iastore, 1, []) :: (105, .iinc 2 1, 3, []) :: (108, .goto (-22), 3, [86, 1, 1, 1]) :: (111, .aload_n 0, 1, []) :: (112, .iconst 0, 1, []) :: (113, .putfield 132, 3, [7, 14, 87]) :: (116, .iload_n 1, 1, []) :: (117, .ireturn, 1, [0]) :: []
def ks_X7_text_58 : List bc_En := (58, .invokevirtual 126, 3, [97, 73, 1, 7]) :: (61, .ifCond .eq 10, 3, [71]) :: (64, .aload_n 0, 1, []) :: (65, .invokevirtual 129, 3, [98, 74, 0, 7]) :: (68, .ifCond .ne 10, 3, [78]) :: (71, .iconst (-1), 1, []) :: (72, .aload_n 0, 1, []) :: (73, .getfield 55, 3, [7, 9, 84]) :: (76, .isub, 1, []) :: (77, .ireturn, 1, [0]) :: (78, .iinc 1 1, 3, []) :: (81, .goto (-40), 3, [41, 1, 1, 0]) :: (84, .iconst 0, 1, []) :: (85, .istore_n 2, 1, []) :: ((86, .nop, 0, [1, 1, 1]) :: ks_X7_text_86)
def ks_X7_text_41 : List bc_En := (41, .aload_n 0, 1, []) :: (42, .getfield 27, 3, [7, 6, 80]) :: (45, .ifCond .eq 39, 3, [84]) :: (48, .aload_n 0, 1, []) :: (49, .iload_n 1, 1, []) :: (50, .ifCond .ne 7, 3, [57]) :: (53, .iconst 1, 1, []) :: (54, .goto 4, 3, [58]) :: (57, .iconst 0, 1, []) :: ((58, .nop, 0, [1, 1, 0]) :: ks_X7_text_58)
def k_X7_text : List bc_En := (0, .aload_n 0, 1, []) :: (1, .iconst 0, 1, []) :: (2, .putfield 1, 3, [7, 0, 74]) :: (5, .aload_n 0, 1, []) :: (6, .aload_n 0, 1, []) :: (7, .getfield 11, 3, [7, 2, 76]) :: (10, .putfield 18, 3, [7, 3, 77]) :: (13, .aload_n 0, 1, []) :: (14, .iconst 0, 1, []) :: (15, .putfield 11, 3, [7, 2, 76]) :: (18, .aload_n 0, 1, []) :: (19, .iconst 0, 1, []) :: (20, .putfield 52, 3, [7, 8, 83]) :: (23, .aload_n 0, 1, []) :: (24, .iconst 0, 1, []) :: (25, .putfield 21, 3, [7, 4, 78]) :: (28, .iconst 0, 1, []) :: (29, .istore_n 1, 1, []) :: (30, .aload_n 0, 1, []) :: (31, .getfield 67, 3, [7, 12, 85]) :: (34, .invokestatic 97, 3, [93, 72, 1]) :: (37, .aload_n 0, 1, []) :: (38, .invokevirtual 108, 3, [89, 67, 0, 7]) :: ((41, .nop, 0, [1, 1, 0]) :: ks_X7_text_41)
theorem ck_X7_text : bc_code 99 k_X7_text = true := by decide +kernel
set_option maxRecDepth 20000 in
theorem at_X7_text_41 {d : Nat} {post : Option bc_AV → bc_AH → Prop} {loc : List (Option bc_AV)} {st : List bc_AV} {h : bc_AH} (q : bc_vc d 99 post ks_X7_text_41 none false loc st h) : bc_AT d 99 post 41 loc st h := bc_atF ck_X7_text (by rfl) q
set_option maxRecDepth 20000 in
theorem at_X7_text_58 {d : Nat} {post : Option bc_AV → bc_AH → Prop} {loc : List (Option bc_AV)} {st : List bc_AV} {h : bc_AH} (q : bc_vc d 99 post ks_X7_text_58 none false loc st h) : bc_AT d 99 post 58 loc st h := bc_atF ck_X7_text (by rfl) q
set_option maxRecDepth 20000 in
theorem at_X7_text_86 {d : Nat} {post : Option bc_AV → bc_AH → Prop} {loc : List (Option bc_AV)} {st : List bc_AV} {h : bc_AH} (q : bc_vc d 99 post ks_X7_text_86 none false loc st h) : bc_AT d 99 post 86 loc st h := bc_atF ck_X7_text (by rfl) q
def k_X7_fault : List bc_En := [(0, .aload_n 0, 1, []), (1, .iconst 0, 1, []), (2, .putfield 1, 3, [7, 0, 74]), (5, .aload_n 0, 1, []), (6, .getfield 52, 3, [7, 8, 83]), (9, .ireturn, 1, [0])]
theorem ck_X7_fault : bc_code 100 k_X7_fault = true := by decide +kernel
def k_X7_now : List bc_En := [(0, .aload_n 0, 1, []), (1, .iconst 0, 1, []), (2, .putfield 1, 3, [7, 0, 74]), (5, .iload_n 1, 1, []), (6, .tableswitch 119 0 9 #[54, 61, 66, 73, 80, 87, 94, 101, 109, 114], 54, [125, 60, 67, 72, 79, 86, 93, 100, 107, 115, 120]), (60, .aload_n 0, 1, []), (61, .getfield 64, 3, [7, 11, 86]), (64, .iconst 0, 1, []), (65, .iaload, 1, []), (66, .ireturn, 1, [0]), (67, .aload_n 0, 1, []), (68, .invokevirtual 145, 3, [105, 78, 0, 7]), (71, .ireturn, 1, [0]), (72, .aload_n 0, 1, []), (73, .getfield 64, 3, [7, 11, 86]), (76, .iconst 1, 1, []), (77, .iaload, 1, []), (78, .ireturn, 1, [0]), (79, .aload_n 0, 1, []), (80, .getfield 64, 3, [7, 11, 86]), (83, .iconst 2, 1, []), (84, .iaload, 1, []), (85, .ireturn, 1, [0]), (86, .aload_n 0, 1, []), (87, .getfield 64, 3, [7, 11, 86]), (90, .iconst 3, 1, []), (91, .iaload, 1, []), (92, .ireturn, 1, [0]), (93, .aload_n 0, 1, []), (94, .getfield 64, 3, [7, 11, 86]), (97, .iconst 4, 1, []), (98, .iaload, 1, []), (99, .ireturn, 1, [0]), (100, .aload_n 0, 1, []), (101, .getfield 64, 3, [7, 11, 86]), (104, .iconst 5, 1, []), (105, .iaload, 1, []), (106, .ireturn, 1, [0]), (107, .aload_n 0, 1, []), (108, .getfield 64, 3, [7, 11, 86]), (111, .bipush 6, 2, []), (113, .iaload, 1, []), (114, .ireturn, 1, [0]), (115, .aload_n 0, 1, []), (116, .getfield 132, 3, [7, 14, 87]), (119, .ireturn, 1, [0]), (120, .aload_n 0, 1, []), (121, .getfield 11, 3, [7, 2, 76]), (124, .ireturn, 1, [0]), (125, .iconst (-1), 1, []), (126, .ireturn, 1, [0])]
theorem ck_X7_now : bc_code 106 k_X7_now = true := by decide +kernel
def k_X7_order : List bc_En := [(0, .aload_n 0, 1, []), (1, .iconst 0, 1, []), (2, .putfield 1, 3, [7, 0, 74]), (5, .aload_n 0, 1, []), (6, .iload_n 1, 1, []), (7, .invokevirtual 135, 3, [101, 75, 1, 7]), (10, .ifCond .eq 13, 3, [23]), (13, .iload_n 2, 1, []), (14, .iconst 0, 1, []), (15, .bipush 8, 2, []), (17, .invokestatic 104, 3, [81, 66, 3]), (20, .ifCond .ne 8, 3, [28]), (23, .aload_n 0, 1, []), (24, .invokevirtual 149, 3, [80, 79, 0, 7]), (27, .ireturn, 1, [0]), (28, .iload_n 2, 1, []), (29, .bipush 6, 2, []), (31, .if_icmp .ne 25, 3, [56]), (34, .aload_n 0, 1, []), (35, .iload_n 1, 1, []), (36, .aload_n 0, 1, []), (37, .getfield 64, 3, [7, 11, 86]), (40, .iconst 1, 1, []), (41, .iaload, 1, []), (42, .invokevirtual 152, 3, [104, 80, 2, 7]), (45, .ifCond .eq 7, 3, [52]), (48, .iconst 1, 1, []), (49, .goto 13, 3, [62]), (52, .iconst 0, 1, []), (53, .goto 9, 3, [62]), (56, .aload_n 0, 1, []), (57, .iload_n 1, 1, []), (58, .iload_n 2, 1, []), (59, .invokevirtual 138, 3, [102, 76, 2, 7]), (62, .ireturn, 1, [0])]
theorem ck_X7_order : bc_code 107 k_X7_order = true := by decide +kernel
def k_X7_rank : List bc_En := [(0, .aload_n 0, 1, []), (1, .iconst 0, 1, []), (2, .putfield 1, 3, [7, 0, 74]), (5, .aload_n 0, 1, []), (6, .invokevirtual 162, 3, [109, 82, 0, 7]), (9, .iload_n 1, 1, []), (10, .iconst 0, 1, []), (11, .aload_n 0, 1, []), (12, .getfield 156, 3, [7, 16, 88]), (15, .iconst 1, 1, []), (16, .isub, 1, []), (17, .invokestatic 104, 3, [81, 66, 3]), (20, .ifCond .eq 12, 3, [32]), (23, .aload_n 0, 1, []), (24, .getfield 73, 3, [7, 15, 89]), (27, .iload_n 1, 1, []), (28, .iaload, 1, []), (29, .goto 4, 3, [33]), (32, .iconst (-1), 1, []), (33, .ireturn, 1, [0])]
theorem ck_X7_rank : bc_code 110 k_X7_rank = true := by decide +kernel
def ks_X7_laysVolumes_370 : List bc_En := (370, .iload 4, 2, []) :: (372, .ifCond .eq 18, 3, [390]) :: (375, .aload_n 0, 1, []) :: (376, .getfield 172, 3, [7, 23, 96]) :: (379, .aload_n 0, 1, []) :: (380, .getfield 175, 3, [7, 24, 97]) :: (383, .if_icmp .gt 7, 3, [390]) :: (386, .iconst 1, 1, []) :: (387, .goto 4, 3, [391]) :: (390, .iconst 0, 1, []) :: (391, .ireturn, 1, [1]) :: []
def ks_X7_laysVolumes_362 : List bc_En := (362, .istore 4, 2, []) :: (364, .iinc 5 1, 3, []) :: (367, .goto (-142), 3, [225, 1, 0, 1, 1, 1, 1, 0, 0]) :: ((370, .nop, 0, [1, 0, 0, 0, 1, 0, 0, 0]) :: ks_X7_laysVolumes_370)
def ks_X7_laysVolumes_311 : List bc_En := (311, .putfield 175, 3, [7, 24, 97]) :: (314, .iload 4, 2, []) :: (316, .ifCond .eq 45, 3, [361]) :: (319, .aload_n 0, 1, []) :: (320, .getfield 88, 3, [7, 21, 94]) :: (323, .iload 5, 2, []) :: (325, .iaload, 1, []) :: (326, .iload_n 2, 1, []) :: (327, .aload_n 0, 1, []) :: (328, .getfield 85, 3, [7, 20, 93]) :: (331, .iload 5, 2, []) :: (333, .iaload, 1, []) :: (334, .isub, 1, []) :: (335, .if_icmp .gt 26, 3, [361]) :: (338, .aload_n 0, 1, []) :: (339, .getfield 82, 3, [7, 19, 92]) :: (342, .iload 5, 2, []) :: (344, .iaload, 1, []) :: (345, .iload_n 3, 1, []) :: (346, .aload_n 0, 1, []) :: (347, .getfield 91, 3, [7, 22, 95]) :: (350, .iload 5, 2, []) :: (352, .iaload, 1, []) :: (353, .isub, 1, []) :: (354, .if_icmp .gt 7, 3, [361]) :: (357, .iconst 1, 1, []) :: (358, .goto 4, 3, [362]) :: (361, .iconst 0, 1, []) :: ((362, .nop, 0, [1, 0, 1, 1, 0, 1, 0, 0]) :: ks_X7_laysVolumes_362)
def ks_X7_laysVolumes_289 : List bc_En := (289, .putfield 172, 3, [7, 23, 96]) :: (292, .aload_n 0, 1, []) :: (293, .iload 6, 2, []) :: (295, .aload_n 0, 1, []) :: (296, .getfield 175, 3, [7, 24, 97]) :: (299, .if_icmp .ge 8, 3, [307]) :: (302, .iload 6, 2, []) :: (304, .goto 7, 3, [311]) :: (307, .aload_n 0, 1, []) :: (308, .getfield 175, 3, [7, 24, 97]) :: ((311, .nop, 0, [1, 0, 1, 1, 1, 1, 0, 0]) :: ks_X7_laysVolumes_311)
def ks_X7_laysVolumes_225 : List bc_En := (225, .iload 5, 2, []) :: (227, .bipush 6, 2, []) :: (229, .if_icmp .ge 141, 3, [370]) :: (232, .iload_n 2, 1, []) :: (233, .aload_n 0, 1, []) :: (234, .getfield 85, 3, [7, 20, 93]) :: (237, .iload 5, 2, []) :: (239, .iaload, 1, []) :: (240, .isub, 1, []) :: (241, .iload_n 3, 1, []) :: (242, .iadd, 1, []) :: (243, .aload_n 0, 1, []) :: (244, .getfield 91, 3, [7, 22, 95]) :: (247, .iload 5, 2, []) :: (249, .iaload, 1, []) :: (250, .isub, 1, []) :: (251, .istore 6, 2, []) :: (253, .aload_n 0, 1, []) :: (254, .getfield 82, 3, [7, 19, 92]) :: (257, .iload 5, 2, []) :: (259, .iaload, 1, []) :: (260, .aload_n 0, 1, []) :: (261, .getfield 88, 3, [7, 21, 94]) :: (264, .iload 5, 2, []) :: (266, .iaload, 1, []) :: (267, .iadd, 1, []) :: (268, .istore 7, 2, []) :: (270, .aload_n 0, 1, []) :: (271, .iload 7, 2, []) :: (273, .aload_n 0, 1, []) :: (274, .getfield 172, 3, [7, 23, 96]) :: (277, .if_icmp .le 8, 3, [285]) :: (280, .iload 7, 2, []) :: (282, .goto 7, 3, [289]) :: (285, .aload_n 0, 1, []) :: (286, .getfield 172, 3, [7, 23, 96]) :: ((289, .nop, 0, [1, 0, 1, 1, 1, 1, 1, 0]) :: ks_X7_laysVolumes_289)
def ks_X7_laysVolumes_216 : List bc_En := (216, .putfield 175, 3, [7, 24, 97]) :: (219, .iconst 1, 1, []) :: (220, .istore 4, 2, []) :: (222, .iconst 0, 1, []) :: (223, .istore 5, 2, []) :: ((225, .nop, 0, [1, 0, 1, 1, 1, 1, 0, 0]) :: ks_X7_laysVolumes_225)
def ks_X7_laysVolumes_202 : List bc_En := (202, .putfield 172, 3, [7, 23, 96]) :: (205, .aload_n 0, 1, []) :: (206, .iload_n 2, 1, []) :: (207, .iload_n 3, 1, []) :: (208, .if_icmp .ge 7, 3, [215]) :: (211, .iload_n 2, 1, []) :: (212, .goto 4, 3, [216]) :: (215, .iload_n 3, 1, []) :: ((216, .nop, 0, [1, 0, 1, 1, 0, 0, 0, 0]) :: ks_X7_laysVolumes_216)
def ks_X7_laysVolumes_151 : List bc_En := (151, .aload_n 0, 1, []) :: (152, .getfield 85, 3, [7, 20, 93]) :: (155, .invokestatic 168, 3, [112, 84, 1]) :: (158, .istore_n 2, 1, []) :: (159, .aload_n 0, 1, []) :: (160, .getfield 91, 3, [7, 22, 95]) :: (163, .invokestatic 168, 3, [112, 84, 1]) :: (166, .istore_n 3, 1, []) :: (167, .aload_n 0, 1, []) :: (168, .aload_n 0, 1, []) :: (169, .getfield 82, 3, [7, 19, 92]) :: (172, .invokestatic 168, 3, [112, 84, 1]) :: (175, .aload_n 0, 1, []) :: (176, .getfield 88, 3, [7, 21, 94]) :: (179, .invokestatic 168, 3, [112, 84, 1]) :: (182, .if_icmp .le 13, 3, [195]) :: (185, .aload_n 0, 1, []) :: (186, .getfield 82, 3, [7, 19, 92]) :: (189, .invokestatic 168, 3, [112, 84, 1]) :: (192, .goto 10, 3, [202]) :: (195, .aload_n 0, 1, []) :: (196, .getfield 88, 3, [7, 21, 94]) :: (199, .invokestatic 168, 3, [112, 84, 1]) :: ((202, .nop, 0, [1, 0, 1, 1, 0, 0, 0, 0]) :: ks_X7_laysVolumes_202)
def ks_X7_laysVolumes_145 : List bc_En := (145, .iinc 2 1, 3, []) :: (148, .goto (-104), 3, [44, 1, 1, 1, 0, 0, 0, 0, 0]) :: ((151, .nop, 0, [1, 0, 0, 0, 0, 0, 0, 0]) :: ks_X7_laysVolumes_151)
def ks_X7_laysVolumes_44 : List bc_En := (44, .iload_n 2, 1, []) :: (45, .aload_n 0, 1, []) :: (46, .getfield 64, 3, [7, 11, 86]) :: (49, .iconst 0, 1, []) :: (50, .iaload, 1, []) :: (51, .if_icmp .ge 100, 3, [151]) :: (54, .iload_n 1, 1, []) :: (55, .iload_n 2, 1, []) :: (56, .invokestatic 165, 3, [82, 83, 2]) :: (59, .ifCond .ne 6, 3, [65]) :: (62, .goto 83, 3, [145]) :: (65, .aload_n 0, 1, []) :: (66, .iload_n 2, 1, []) :: (67, .iconst 4, 1, []) :: (68, .invokevirtual 138, 3, [102, 76, 2, 7]) :: (71, .istore_n 3, 1, []) :: (72, .aload_n 0, 1, []) :: (73, .iload_n 2, 1, []) :: (74, .iconst 0, 1, []) :: (75, .invokevirtual 138, 3, [102, 76, 2, 7]) :: (78, .iconst 1, 1, []) :: (79, .if_icmp .ne 36, 3, [115]) :: (82, .aload_n 0, 1, []) :: (83, .getfield 82, 3, [7, 19, 92]) :: (86, .iload_n 3, 1, []) :: (87, .dup2, 1, []) :: (88, .iaload, 1, []) :: (89, .aload_n 0, 1, []) :: (90, .getfield 76, 3, [7, 17, 90]) :: (93, .iload_n 2, 1, []) :: (94, .iaload, 1, []) :: (95, .iadd, 1, []) :: (96, .iastore, 1, []) :: (97, .aload_n 0, 1, []) :: (98, .getfield 85, 3, [7, 20, 93]) :: (101, .iload_n 3, 1, []) :: (102, .dup2, 1, []) :: (103, .iaload, 1, []) :: (104, .aload_n 0, 1, []) :: (105, .getfield 79, 3, [7, 18, 91]) :: (108, .iload_n 2, 1, []) :: (109, .iaload, 1, []) :: (110, .iadd, 1, []) :: (111, .iastore, 1, []) :: (112, .goto 33, 3, [145]) :: (115, .aload_n 0, 1, []) :: (116, .getfield 88, 3, [7, 21, 94]) :: (119, .iload_n 3, 1, []) :: (120, .dup2, 1, []) :: (121, .iaload, 1, []) :: (122, .aload_n 0, 1, []) :: (123, .getfield 76, 3, [7, 17, 90]) :: (126, .iload_n 2, 1, []) :: (127, .iaload, 1, []) :: (128, .iadd, 1, []) :: (129, .iastore, 1, []) :: (130, .aload_n 0, 1, []) :: (131, .getfield 91, 3, [7, 22, 95]) :: (134, .iload_n 3, 1, []) :: (135, .dup2, 1, []) :: (136, .iaload, 1, []) :: (137, .aload_n 0, 1, []) :: (138, .getfield 79, 3, [7, 18, 91]) :: (141, .iload_n 2, 1, []) :: (142, .iaload, 1, []) :: (143, .iadd, 1, []) :: (144, .iastore, 1, []) :: ((145, .nop, 0, [1, 1, 1, 0, 0, 0, 0, 0]) :: ks_X7_laysVolumes_145)
def ks_X7_laysVolumes_2 : List bc_En := (2, .iload_n 2, 1, []) :: (3, .bipush 6, 2, []) :: (5, .if_icmp .ge 37, 3, [42]) :: (8, .aload_n 0, 1, []) :: (9, .getfield 82, 3, [7, 19, 92]) :: (12, .iload_n 2, 1, []) :: (13, .iconst 0, 1, []) :: (14, .iastore, 1, []) :: (15, .aload_n 0, 1, []) :: (16, .getfield 85, 3, [7, 20, 93]) :: (19, .iload_n 2, 1, []) :: (20, .iconst 0, 1, []) :: (21, .iastore, 1, []) :: (22, .aload_n 0, 1, []) :: (23, .getfield 88, 3, [7, 21, 94]) :: (26, .iload_n 2, 1, []) :: (27, .iconst 0, 1, []) :: (28, .iastore, 1, []) :: (29, .aload_n 0, 1, []) :: (30, .getfield 91, 3, [7, 22, 95]) :: (33, .iload_n 2, 1, []) :: (34, .iconst 0, 1, []) :: (35, .iastore, 1, []) :: (36, .iinc 2 1, 3, []) :: (39, .goto (-37), 3, [2, 1, 1, 1, 0, 0, 0, 0, 0]) :: (42, .iconst 0, 1, []) :: (43, .istore_n 2, 1, []) :: ((44, .nop, 0, [1, 1, 1, 0, 0, 0, 0, 0]) :: ks_X7_laysVolumes_44)
def k_X7_laysVolumes : List bc_En := (0, .iconst 0, 1, []) :: (1, .istore_n 2, 1, []) :: ((2, .nop, 0, [1, 1, 1, 0, 0, 0, 0, 0]) :: ks_X7_laysVolumes_2)
theorem ck_X7_laysVolumes : bc_code 113 k_X7_laysVolumes = true := by decide +kernel
set_option maxRecDepth 20000 in
theorem at_X7_laysVolumes_2 {d : Nat} {post : Option bc_AV → bc_AH → Prop} {loc : List (Option bc_AV)} {st : List bc_AV} {h : bc_AH} (q : bc_vc d 113 post ks_X7_laysVolumes_2 none false loc st h) : bc_AT d 113 post 2 loc st h := bc_atF ck_X7_laysVolumes (by rfl) q
set_option maxRecDepth 20000 in
theorem at_X7_laysVolumes_44 {d : Nat} {post : Option bc_AV → bc_AH → Prop} {loc : List (Option bc_AV)} {st : List bc_AV} {h : bc_AH} (q : bc_vc d 113 post ks_X7_laysVolumes_44 none false loc st h) : bc_AT d 113 post 44 loc st h := bc_atF ck_X7_laysVolumes (by rfl) q
set_option maxRecDepth 20000 in
theorem at_X7_laysVolumes_145 {d : Nat} {post : Option bc_AV → bc_AH → Prop} {loc : List (Option bc_AV)} {st : List bc_AV} {h : bc_AH} (q : bc_vc d 113 post ks_X7_laysVolumes_145 none false loc st h) : bc_AT d 113 post 145 loc st h := bc_atF ck_X7_laysVolumes (by rfl) q
set_option maxRecDepth 20000 in
theorem at_X7_laysVolumes_151 {d : Nat} {post : Option bc_AV → bc_AH → Prop} {loc : List (Option bc_AV)} {st : List bc_AV} {h : bc_AH} (q : bc_vc d 113 post ks_X7_laysVolumes_151 none false loc st h) : bc_AT d 113 post 151 loc st h := bc_atF ck_X7_laysVolumes (by rfl) q
set_option maxRecDepth 20000 in
theorem at_X7_laysVolumes_202 {d : Nat} {post : Option bc_AV → bc_AH → Prop} {loc : List (Option bc_AV)} {st : List bc_AV} {h : bc_AH} (q : bc_vc d 113 post ks_X7_laysVolumes_202 none false loc st h) : bc_AT d 113 post 202 loc st h := bc_atF ck_X7_laysVolumes (by rfl) q
set_option maxRecDepth 20000 in
theorem at_X7_laysVolumes_216 {d : Nat} {post : Option bc_AV → bc_AH → Prop} {loc : List (Option bc_AV)} {st : List bc_AV} {h : bc_AH} (q : bc_vc d 113 post ks_X7_laysVolumes_216 none false loc st h) : bc_AT d 113 post 216 loc st h := bc_atF ck_X7_laysVolumes (by rfl) q
set_option maxRecDepth 20000 in
theorem at_X7_laysVolumes_225 {d : Nat} {post : Option bc_AV → bc_AH → Prop} {loc : List (Option bc_AV)} {st : List bc_AV} {h : bc_AH} (q : bc_vc d 113 post ks_X7_laysVolumes_225 none false loc st h) : bc_AT d 113 post 225 loc st h := bc_atF ck_X7_laysVolumes (by rfl) q
set_option maxRecDepth 20000 in
theorem at_X7_laysVolumes_289 {d : Nat} {post : Option bc_AV → bc_AH → Prop} {loc : List (Option bc_AV)} {st : List bc_AV} {h : bc_AH} (q : bc_vc d 113 post ks_X7_laysVolumes_289 none false loc st h) : bc_AT d 113 post 289 loc st h := bc_atF ck_X7_laysVolumes (by rfl) q
set_option maxRecDepth 20000 in
theorem at_X7_laysVolumes_311 {d : Nat} {post : Option bc_AV → bc_AH → Prop} {loc : List (Option bc_AV)} {st : List bc_AV} {h : bc_AH} (q : bc_vc d 113 post ks_X7_laysVolumes_311 none false loc st h) : bc_AT d 113 post 311 loc st h := bc_atF ck_X7_laysVolumes (by rfl) q
set_option maxRecDepth 20000 in
theorem at_X7_laysVolumes_362 {d : Nat} {post : Option bc_AV → bc_AH → Prop} {loc : List (Option bc_AV)} {st : List bc_AV} {h : bc_AH} (q : bc_vc d 113 post ks_X7_laysVolumes_362 none false loc st h) : bc_AT d 113 post 362 loc st h := bc_atF ck_X7_laysVolumes (by rfl) q
set_option maxRecDepth 20000 in
theorem at_X7_laysVolumes_370 {d : Nat} {post : Option bc_AV → bc_AH → Prop} {loc : List (Option bc_AV)} {st : List bc_AV} {h : bc_AH} (q : bc_vc d 113 post ks_X7_laysVolumes_370 none false loc st h) : bc_AT d 113 post 370 loc st h := bc_atF ck_X7_laysVolumes (by rfl) q
def ks_X7_laysChosen_180 : List bc_En := (180, .return_, 1, []) :: []
def ks_X7_laysChosen_174 : List bc_En := (174, .iinc 4 (-1), 3, []) :: (177, .goto (-91), 3, [86, 1, 0, 0, 1, 1, 0, 0]) :: ((180, .nop, 0, [0, 0, 0, 0, 0, 0, 0]) :: ks_X7_laysChosen_180)
def ks_X7_laysChosen_137 : List bc_En := (137, .aload_n 0, 1, []) :: (138, .iload 5, 2, []) :: (140, .invokevirtual 184, 3, [113, 85, 1, 7]) :: (143, .ifCond .eq 31, 3, [174]) :: (146, .aload_n 0, 1, []) :: (147, .getfield 175, 3, [7, 24, 97]) :: (150, .aload_n 0, 1, []) :: (151, .getfield 181, 3, [7, 26, 99]) :: (154, .if_icmp .gt 6, 3, [160]) :: (157, .goto 17, 3, [174]) :: (160, .aload_n 0, 1, []) :: (161, .iload 5, 2, []) :: (163, .putfield 178, 3, [7, 25, 98]) :: (166, .aload_n 0, 1, []) :: (167, .aload_n 0, 1, []) :: (168, .getfield 175, 3, [7, 24, 97]) :: (171, .putfield 181, 3, [7, 26, 99]) :: ((174, .nop, 0, [1, 0, 0, 1, 1, 0, 0]) :: ks_X7_laysChosen_174)
def ks_X7_laysChosen_131 : List bc_En := (131, .iinc 6 1, 3, []) :: (134, .goto (-37), 3, [97, 1, 0, 0, 1, 1, 1, 1]) :: ((137, .nop, 0, [1, 0, 0, 1, 1, 1, 0]) :: ks_X7_laysChosen_137)
def ks_X7_laysChosen_97 : List bc_En := (97, .iload 6, 2, []) :: (99, .iload_n 3, 1, []) :: (100, .if_icmp .ge 37, 3, [137]) :: (103, .iload 4, 2, []) :: (105, .iload_n 3, 1, []) :: (106, .iconst 1, 1, []) :: (107, .isub, 1, []) :: (108, .iload 6, 2, []) :: (110, .isub, 1, []) :: (111, .invokestatic 165, 3, [82, 83, 2]) :: (114, .ifCond .eq 17, 3, [131]) :: (117, .iload 5, 2, []) :: (119, .iconst 1, 1, []) :: (120, .aload_n 0, 1, []) :: (121, .getfield 73, 3, [7, 15, 89]) :: (124, .iload 6, 2, []) :: (126, .iaload, 1, []) :: (127, .ishl, 1, []) :: (128, .ior, 1, []) :: (129, .istore 5, 2, []) :: ((131, .nop, 0, [1, 0, 0, 1, 1, 1, 1]) :: ks_X7_laysChosen_131)
def ks_X7_laysChosen_86 : List bc_En := (86, .iload 4, 2, []) :: (88, .ifCond .le 92, 3, [180]) :: (91, .iconst 0, 1, []) :: (92, .istore 5, 2, []) :: (94, .iconst 0, 1, []) :: (95, .istore 6, 2, []) :: ((97, .nop, 0, [1, 0, 0, 1, 1, 1, 1]) :: ks_X7_laysChosen_97)
def ks_X7_laysChosen_69 : List bc_En := (69, .aload_n 0, 1, []) :: (70, .iconst 0, 1, []) :: (71, .putfield 178, 3, [7, 25, 98]) :: (74, .aload_n 0, 1, []) :: (75, .iconst 0, 1, []) :: (76, .putfield 181, 3, [7, 26, 99]) :: (79, .iconst 1, 1, []) :: (80, .iload_n 3, 1, []) :: (81, .ishl, 1, []) :: (82, .iconst 1, 1, []) :: (83, .isub, 1, []) :: (84, .istore 4, 2, []) :: ((86, .nop, 0, [1, 0, 0, 1, 1, 0, 0]) :: ks_X7_laysChosen_86)
def ks_X7_laysChosen_63 : List bc_En := (63, .iinc 4 1, 3, []) :: (66, .goto (-57), 3, [9, 1, 1, 1, 1, 1, 0, 0]) :: ((69, .nop, 0, [1, 0, 0, 1, 0, 0, 0]) :: ks_X7_laysChosen_69)
def ks_X7_laysChosen_9 : List bc_En := (9, .iload 4, 2, []) :: (11, .aload_n 0, 1, []) :: (12, .getfield 156, 3, [7, 16, 88]) :: (15, .if_icmp .ge 54, 3, [69]) :: (18, .aload_n 0, 1, []) :: (19, .getfield 73, 3, [7, 15, 89]) :: (22, .iload 4, 2, []) :: (24, .iaload, 1, []) :: (25, .iload_n 2, 1, []) :: (26, .if_icmp .eq 37, 3, [63]) :: (29, .aload_n 0, 1, []) :: (30, .aload_n 0, 1, []) :: (31, .getfield 73, 3, [7, 15, 89]) :: (34, .iload 4, 2, []) :: (36, .iaload, 1, []) :: (37, .iload_n 1, 1, []) :: (38, .invokevirtual 152, 3, [104, 80, 2, 7]) :: (41, .ifCond .ne 6, 3, [47]) :: (44, .goto 19, 3, [63]) :: (47, .aload_n 0, 1, []) :: (48, .getfield 73, 3, [7, 15, 89]) :: (51, .iload_n 3, 1, []) :: (52, .aload_n 0, 1, []) :: (53, .getfield 73, 3, [7, 15, 89]) :: (56, .iload 4, 2, []) :: (58, .iaload, 1, []) :: (59, .iastore, 1, []) :: (60, .iinc 3 1, 3, []) :: ((63, .nop, 0, [1, 1, 1, 1, 1, 0, 0]) :: ks_X7_laysChosen_63)
def k_X7_laysChosen : List bc_En := (0, .aload_n 0, 1, []) :: (1, .invokevirtual 162, 3, [109, 82, 0, 7]) :: (4, .iconst 0, 1, []) :: (5, .istore_n 3, 1, []) :: (6, .iconst 0, 1, []) :: (7, .istore 4, 2, []) :: ((9, .nop, 0, [1, 1, 1, 1, 1, 0, 0]) :: ks_X7_laysChosen_9)
theorem ck_X7_laysChosen : bc_code 114 k_X7_laysChosen = true := by decide +kernel
set_option maxRecDepth 20000 in
theorem at_X7_laysChosen_9 {d : Nat} {post : Option bc_AV → bc_AH → Prop} {loc : List (Option bc_AV)} {st : List bc_AV} {h : bc_AH} (q : bc_vc d 114 post ks_X7_laysChosen_9 none false loc st h) : bc_AT d 114 post 9 loc st h := bc_atF ck_X7_laysChosen (by rfl) q
set_option maxRecDepth 20000 in
theorem at_X7_laysChosen_63 {d : Nat} {post : Option bc_AV → bc_AH → Prop} {loc : List (Option bc_AV)} {st : List bc_AV} {h : bc_AH} (q : bc_vc d 114 post ks_X7_laysChosen_63 none false loc st h) : bc_AT d 114 post 63 loc st h := bc_atF ck_X7_laysChosen (by rfl) q
set_option maxRecDepth 20000 in
theorem at_X7_laysChosen_69 {d : Nat} {post : Option bc_AV → bc_AH → Prop} {loc : List (Option bc_AV)} {st : List bc_AV} {h : bc_AH} (q : bc_vc d 114 post ks_X7_laysChosen_69 none false loc st h) : bc_AT d 114 post 69 loc st h := bc_atF ck_X7_laysChosen (by rfl) q
set_option maxRecDepth 20000 in
theorem at_X7_laysChosen_86 {d : Nat} {post : Option bc_AV → bc_AH → Prop} {loc : List (Option bc_AV)} {st : List bc_AV} {h : bc_AH} (q : bc_vc d 114 post ks_X7_laysChosen_86 none false loc st h) : bc_AT d 114 post 86 loc st h := bc_atF ck_X7_laysChosen (by rfl) q
set_option maxRecDepth 20000 in
theorem at_X7_laysChosen_97 {d : Nat} {post : Option bc_AV → bc_AH → Prop} {loc : List (Option bc_AV)} {st : List bc_AV} {h : bc_AH} (q : bc_vc d 114 post ks_X7_laysChosen_97 none false loc st h) : bc_AT d 114 post 97 loc st h := bc_atF ck_X7_laysChosen (by rfl) q
set_option maxRecDepth 20000 in
theorem at_X7_laysChosen_131 {d : Nat} {post : Option bc_AV → bc_AH → Prop} {loc : List (Option bc_AV)} {st : List bc_AV} {h : bc_AH} (q : bc_vc d 114 post ks_X7_laysChosen_131 none false loc st h) : bc_AT d 114 post 131 loc st h := bc_atF ck_X7_laysChosen (by rfl) q
set_option maxRecDepth 20000 in
theorem at_X7_laysChosen_137 {d : Nat} {post : Option bc_AV → bc_AH → Prop} {loc : List (Option bc_AV)} {st : List bc_AV} {h : bc_AH} (q : bc_vc d 114 post ks_X7_laysChosen_137 none false loc st h) : bc_AT d 114 post 137 loc st h := bc_atF ck_X7_laysChosen (by rfl) q
set_option maxRecDepth 20000 in
theorem at_X7_laysChosen_174 {d : Nat} {post : Option bc_AV → bc_AH → Prop} {loc : List (Option bc_AV)} {st : List bc_AV} {h : bc_AH} (q : bc_vc d 114 post ks_X7_laysChosen_174 none false loc st h) : bc_AT d 114 post 174 loc st h := bc_atF ck_X7_laysChosen (by rfl) q
set_option maxRecDepth 20000 in
theorem at_X7_laysChosen_180 {d : Nat} {post : Option bc_AV → bc_AH → Prop} {loc : List (Option bc_AV)} {st : List bc_AV} {h : bc_AH} (q : bc_vc d 114 post ks_X7_laysChosen_180 none false loc st h) : bc_AT d 114 post 180 loc st h := bc_atF ck_X7_laysChosen (by rfl) q
def k_X7_choosesNow : List bc_En := [(0, .aload_n 0, 1, []), (1, .invokevirtual 187, 3, [111, 86, 0, 7]), (4, .aload_n 0, 1, []), (5, .aload_n 0, 1, []), (6, .getfield 64, 3, [7, 11, 86]), (9, .iconst 1, 1, []), (10, .iaload, 1, []), (11, .iconst (-1), 1, []), (12, .invokevirtual 190, 3, [114, 87, 2, 7]), (15, .return_, 1, [])]
theorem ck_X7_choosesNow : bc_code 115 k_X7_choosesNow = true := by decide +kernel
def k_X7_chosen : List bc_En := [(0, .aload_n 0, 1, []), (1, .iconst 0, 1, []), (2, .putfield 1, 3, [7, 0, 74]), (5, .iload_n 1, 1, []), (6, .iconst 0, 1, []), (7, .sipush 999, 3, []), (10, .invokestatic 104, 3, [81, 66, 3]), (13, .ifCond .eq 12, 3, [25]), (16, .iload_n 2, 1, []), (17, .iconst 0, 1, []), (18, .iconst 1, 1, []), (19, .invokestatic 104, 3, [81, 66, 3]), (22, .ifCond .ne 5, 3, [27]), (25, .iconst (-1), 1, []), (26, .ireturn, 1, [0]), (27, .aload_n 0, 1, []), (28, .invokevirtual 187, 3, [111, 86, 0, 7]), (31, .aload_n 0, 1, []), (32, .iload_n 1, 1, []), (33, .iconst (-1), 1, []), (34, .invokevirtual 190, 3, [114, 87, 2, 7]), (37, .iload_n 2, 1, []), (38, .ifCond .ne 10, 3, [48]), (41, .aload_n 0, 1, []), (42, .getfield 181, 3, [7, 26, 99]), (45, .goto 7, 3, [52]), (48, .aload_n 0, 1, []), (49, .getfield 178, 3, [7, 25, 98]), (52, .ireturn, 1, [0])]
theorem ck_X7_chosen : bc_code 116 k_X7_chosen = true := by decide +kernel
end
section
def ks_X7_laysFills_159 : List bc_En := (159, .return_, 1, []) :: []
def ks_X7_laysFills_153 : List bc_En := (153, .iinc 3 1, 3, []) :: (156, .goto (-115), 3, [41, 1, 1, 1, 1, 0, 0, 0, 0]) :: ((159, .nop, 0, [0, 0, 0, 0, 0, 0, 0, 0]) :: ks_X7_laysFills_159)
def ks_X7_laysFills_136 : List bc_En := (136, .istore 6, 2, []) :: (138, .aload_n 0, 1, []) :: (139, .getfield 94, 3, [7, 27, 100]) :: (142, .iload 4, 2, []) :: (144, .iload 7, 2, []) :: (146, .iastore, 1, []) :: (147, .iinc 7 (-1), 3, []) :: (150, .goto (-65), 3, [85, 1, 1, 1, 1, 1, 0, 1, 1]) :: ((153, .nop, 0, [1, 1, 1, 1, 0, 0, 0, 0]) :: ks_X7_laysFills_153)
def ks_X7_laysFills_85 : List bc_En := (85, .iload 6, 2, []) :: (87, .ifCond .ne 66, 3, [153]) :: (90, .aload_n 0, 1, []) :: (91, .getfield 76, 3, [7, 17, 90]) :: (94, .iload 4, 2, []) :: (96, .iload 7, 2, []) :: (98, .iastore, 1, []) :: (99, .aload_n 0, 1, []) :: (100, .getfield 79, 3, [7, 18, 91]) :: (103, .iload 4, 2, []) :: (105, .iload 7, 2, []) :: (107, .iastore, 1, []) :: (108, .aload_n 0, 1, []) :: (109, .iload_n 1, 1, []) :: (110, .invokevirtual 184, 3, [113, 85, 1, 7]) :: (113, .ifCond .eq 22, 3, [135]) :: (116, .iload_n 2, 1, []) :: (117, .aload_n 0, 1, []) :: (118, .getfield 172, 3, [7, 23, 96]) :: (121, .aload_n 0, 1, []) :: (122, .getfield 175, 3, [7, 24, 97]) :: (125, .invokestatic 104, 3, [81, 66, 3]) :: (128, .ifCond .eq 7, 3, [135]) :: (131, .iconst 1, 1, []) :: (132, .goto 4, 3, [136]) :: (135, .iconst 0, 1, []) :: ((136, .nop, 0, [1, 1, 1, 1, 1, 0, 0, 1]) :: ks_X7_laysFills_136)
def ks_X7_laysFills_41 : List bc_En := (41, .iload_n 3, 1, []) :: (42, .aload_n 0, 1, []) :: (43, .getfield 156, 3, [7, 16, 88]) :: (46, .if_icmp .ge 113, 3, [159]) :: (49, .aload_n 0, 1, []) :: (50, .getfield 73, 3, [7, 15, 89]) :: (53, .iload_n 3, 1, []) :: (54, .iaload, 1, []) :: (55, .istore 4, 2, []) :: (57, .iload_n 1, 1, []) :: (58, .iload 4, 2, []) :: (60, .invokestatic 165, 3, [82, 83, 2]) :: (63, .ifCond .ne 6, 3, [69]) :: (66, .goto 87, 3, [153]) :: (69, .aload_n 0, 1, []) :: (70, .getfield 79, 3, [7, 18, 91]) :: (73, .iload 4, 2, []) :: (75, .iaload, 1, []) :: (76, .istore 5, 2, []) :: (78, .iconst 0, 1, []) :: (79, .istore 6, 2, []) :: (81, .iload 5, 2, []) :: (83, .istore 7, 2, []) :: ((85, .nop, 0, [1, 1, 1, 1, 1, 0, 1, 1]) :: ks_X7_laysFills_85)
def ks_X7_laysFills_20 : List bc_En := (20, .iload_n 3, 1, []) :: (21, .bipush 24, 2, []) :: (23, .if_icmp .ge 16, 3, [39]) :: (26, .aload_n 0, 1, []) :: (27, .getfield 94, 3, [7, 27, 100]) :: (30, .iload_n 3, 1, []) :: (31, .iconst 0, 1, []) :: (32, .iastore, 1, []) :: (33, .iinc 3 1, 3, []) :: (36, .goto (-16), 3, [20, 1, 1, 1, 1, 0, 0, 0, 0]) :: (39, .iconst 0, 1, []) :: (40, .istore_n 3, 1, []) :: ((41, .nop, 0, [1, 1, 1, 1, 0, 0, 0, 0]) :: ks_X7_laysFills_41)
def k_X7_laysFills : List bc_En := (0, .aload_n 0, 1, []) :: (1, .invokevirtual 194, 3, [115, 88, 0, 7]) :: (4, .aload_n 0, 1, []) :: (5, .getfield 178, 3, [7, 25, 98]) :: (8, .istore_n 1, 1, []) :: (9, .aload_n 0, 1, []) :: (10, .getfield 181, 3, [7, 26, 99]) :: (13, .istore_n 2, 1, []) :: (14, .aload_n 0, 1, []) :: (15, .invokevirtual 162, 3, [109, 82, 0, 7]) :: (18, .iconst 0, 1, []) :: (19, .istore_n 3, 1, []) :: ((20, .nop, 0, [1, 1, 1, 1, 0, 0, 0, 0]) :: ks_X7_laysFills_20)
theorem ck_X7_laysFills : bc_code 117 k_X7_laysFills = true := by decide +kernel
set_option maxRecDepth 20000 in
theorem at_X7_laysFills_20 {d : Nat} {post : Option bc_AV → bc_AH → Prop} {loc : List (Option bc_AV)} {st : List bc_AV} {h : bc_AH} (q : bc_vc d 117 post ks_X7_laysFills_20 none false loc st h) : bc_AT d 117 post 20 loc st h := bc_atF ck_X7_laysFills (by rfl) q
set_option maxRecDepth 20000 in
theorem at_X7_laysFills_41 {d : Nat} {post : Option bc_AV → bc_AH → Prop} {loc : List (Option bc_AV)} {st : List bc_AV} {h : bc_AH} (q : bc_vc d 117 post ks_X7_laysFills_41 none false loc st h) : bc_AT d 117 post 41 loc st h := bc_atF ck_X7_laysFills (by rfl) q
set_option maxRecDepth 20000 in
theorem at_X7_laysFills_85 {d : Nat} {post : Option bc_AV → bc_AH → Prop} {loc : List (Option bc_AV)} {st : List bc_AV} {h : bc_AH} (q : bc_vc d 117 post ks_X7_laysFills_85 none false loc st h) : bc_AT d 117 post 85 loc st h := bc_atF ck_X7_laysFills (by rfl) q
set_option maxRecDepth 20000 in
theorem at_X7_laysFills_136 {d : Nat} {post : Option bc_AV → bc_AH → Prop} {loc : List (Option bc_AV)} {st : List bc_AV} {h : bc_AH} (q : bc_vc d 117 post ks_X7_laysFills_136 none false loc st h) : bc_AT d 117 post 136 loc st h := bc_atF ck_X7_laysFills (by rfl) q
set_option maxRecDepth 20000 in
theorem at_X7_laysFills_153 {d : Nat} {post : Option bc_AV → bc_AH → Prop} {loc : List (Option bc_AV)} {st : List bc_AV} {h : bc_AH} (q : bc_vc d 117 post ks_X7_laysFills_153 none false loc st h) : bc_AT d 117 post 153 loc st h := bc_atF ck_X7_laysFills (by rfl) q
set_option maxRecDepth 20000 in
theorem at_X7_laysFills_159 {d : Nat} {post : Option bc_AV → bc_AH → Prop} {loc : List (Option bc_AV)} {st : List bc_AV} {h : bc_AH} (q : bc_vc d 117 post ks_X7_laysFills_159 none false loc st h) : bc_AT d 117 post 159 loc st h := bc_atF ck_X7_laysFills (by rfl) q
def k_X7_fill : List bc_En := [(0, .aload_n 0, 1, []), (1, .iconst 0, 1, []), (2, .putfield 1, 3, [7, 0, 74]), (5, .aload_n 0, 1, []), (6, .iload_n 1, 1, []), (7, .invokevirtual 135, 3, [101, 75, 1, 7]), (10, .ifCond .ne 5, 3, [15]), (13, .iconst (-1), 1, []), (14, .ireturn, 1, [0]), (15, .aload_n 0, 1, []), (16, .invokevirtual 197, 3, [117, 89, 0, 7]), (19, .aload_n 0, 1, []), (20, .getfield 94, 3, [7, 27, 100]), (23, .iload_n 1, 1, []), (24, .iaload, 1, []), (25, .ireturn, 1, [0])]
theorem ck_X7_fill : bc_code 118 k_X7_fill = true := by decide +kernel
def k_X7_isOther : List bc_En := [(0, .aload_n 0, 1, []), (1, .iload_n 2, 1, []), (2, .aload_n 0, 1, []), (3, .getfield 64, 3, [7, 11, 86]), (6, .iconst 1, 1, []), (7, .iaload, 1, []), (8, .invokevirtual 152, 3, [104, 80, 2, 7]), (11, .ifCond .eq 37, 3, [48]), (14, .aload_n 0, 1, []), (15, .iload_n 2, 1, []), (16, .iconst 0, 1, []), (17, .invokevirtual 138, 3, [102, 76, 2, 7]), (20, .aload_n 0, 1, []), (21, .iload_n 1, 1, []), (22, .iconst 0, 1, []), (23, .invokevirtual 138, 3, [102, 76, 2, 7]), (26, .if_icmp .eq 22, 3, [48]), (29, .aload_n 0, 1, []), (30, .iload_n 2, 1, []), (31, .iconst 4, 1, []), (32, .invokevirtual 138, 3, [102, 76, 2, 7]), (35, .aload_n 0, 1, []), (36, .iload_n 1, 1, []), (37, .iconst 4, 1, []), (38, .invokevirtual 138, 3, [102, 76, 2, 7]), (41, .if_icmp .eq 7, 3, [48]), (44, .iconst 1, 1, []), (45, .goto 4, 3, [49]), (48, .iconst 0, 1, []), (49, .ireturn, 1, [1])]
theorem ck_X7_isOther : bc_code 119 k_X7_isOther = true := by decide +kernel
def ks_X7_canTrade_64 : List bc_En := (64, .iload_n 3, 1, []) :: (65, .iconst 1, 1, []) :: (66, .isub, 1, []) :: (67, .iload_n 2, 1, []) :: (68, .iand, 1, []) :: (69, .istore_n 3, 1, []) :: (70, .goto (-28), 3, [42, 1, 1, 1, 1]) :: (73, .iconst 0, 1, []) :: (74, .ireturn, 1, [1]) :: []
def ks_X7_canTrade_42 : List bc_En := (42, .iload_n 3, 1, []) :: (43, .ifCond .le 30, 3, [73]) :: (46, .iload_n 3, 1, []) :: (47, .iload_n 1, 1, []) :: (48, .invokestatic 165, 3, [82, 83, 2]) :: (51, .ifCond .eq 13, 3, [64]) :: (54, .aload_n 0, 1, []) :: (55, .iload_n 3, 1, []) :: (56, .invokevirtual 184, 3, [113, 85, 1, 7]) :: (59, .ifCond .eq 5, 3, [64]) :: (62, .iconst 1, 1, []) :: (63, .ireturn, 1, [1]) :: ((64, .nop, 0, [1, 1, 1, 1]) :: ks_X7_canTrade_64)
def ks_X7_canTrade_34 : List bc_En := (34, .iinc 3 1, 3, []) :: (37, .goto (-33), 3, [4, 1, 1, 1, 1]) :: (40, .iload_n 2, 1, []) :: (41, .istore_n 3, 1, []) :: ((42, .nop, 0, [1, 1, 1, 1]) :: ks_X7_canTrade_42)
def ks_X7_canTrade_4 : List bc_En := (4, .iload_n 3, 1, []) :: (5, .aload_n 0, 1, []) :: (6, .getfield 64, 3, [7, 11, 86]) :: (9, .iconst 0, 1, []) :: (10, .iaload, 1, []) :: (11, .if_icmp .ge 29, 3, [40]) :: (14, .aload_n 0, 1, []) :: (15, .iload_n 3, 1, []) :: (16, .aload_n 0, 1, []) :: (17, .getfield 64, 3, [7, 11, 86]) :: (20, .iconst 1, 1, []) :: (21, .iaload, 1, []) :: (22, .invokevirtual 152, 3, [104, 80, 2, 7]) :: (25, .ifCond .eq 9, 3, [34]) :: (28, .iload_n 2, 1, []) :: (29, .iconst 1, 1, []) :: (30, .iload_n 3, 1, []) :: (31, .ishl, 1, []) :: (32, .ior, 1, []) :: (33, .istore_n 2, 1, []) :: ((34, .nop, 0, [1, 1, 1, 1]) :: ks_X7_canTrade_34)
def k_X7_canTrade : List bc_En := (0, .iconst 0, 1, []) :: (1, .istore_n 2, 1, []) :: (2, .iconst 0, 1, []) :: (3, .istore_n 3, 1, []) :: ((4, .nop, 0, [1, 1, 1, 1]) :: ks_X7_canTrade_4)
theorem ck_X7_canTrade : bc_code 120 k_X7_canTrade = true := by decide +kernel
set_option maxRecDepth 20000 in
theorem at_X7_canTrade_4 {d : Nat} {post : Option bc_AV → bc_AH → Prop} {loc : List (Option bc_AV)} {st : List bc_AV} {h : bc_AH} (q : bc_vc d 120 post ks_X7_canTrade_4 none false loc st h) : bc_AT d 120 post 4 loc st h := bc_atF ck_X7_canTrade (by rfl) q
set_option maxRecDepth 20000 in
theorem at_X7_canTrade_34 {d : Nat} {post : Option bc_AV → bc_AH → Prop} {loc : List (Option bc_AV)} {st : List bc_AV} {h : bc_AH} (q : bc_vc d 120 post ks_X7_canTrade_34 none false loc st h) : bc_AT d 120 post 34 loc st h := bc_atF ck_X7_canTrade (by rfl) q
set_option maxRecDepth 20000 in
theorem at_X7_canTrade_42 {d : Nat} {post : Option bc_AV → bc_AH → Prop} {loc : List (Option bc_AV)} {st : List bc_AV} {h : bc_AH} (q : bc_vc d 120 post ks_X7_canTrade_42 none false loc st h) : bc_AT d 120 post 42 loc st h := bc_atF ck_X7_canTrade (by rfl) q
set_option maxRecDepth 20000 in
theorem at_X7_canTrade_64 {d : Nat} {post : Option bc_AV → bc_AH → Prop} {loc : List (Option bc_AV)} {st : List bc_AV} {h : bc_AH} (q : bc_vc d 120 post ks_X7_canTrade_64 none false loc st h) : bc_AT d 120 post 64 loc st h := bc_atF ck_X7_canTrade (by rfl) q
def ks_X7_why_98 : List bc_En := (98, .iload_n 2, 1, []) :: (99, .ifCond .ne 5, 3, [104]) :: (102, .iconst 2, 1, []) :: (103, .ireturn, 1, [0]) :: (104, .iload_n 3, 1, []) :: (105, .aload_n 0, 1, []) :: (106, .iload_n 1, 1, []) :: (107, .iconst 2, 1, []) :: (108, .invokevirtual 138, 3, [102, 76, 2, 7]) :: (111, .if_icmp .ge 5, 3, [116]) :: (114, .iconst 3, 1, []) :: (115, .ireturn, 1, [0]) :: (116, .aload_n 0, 1, []) :: (117, .iload_n 1, 1, []) :: (118, .invokevirtual 203, 3, [120, 91, 1, 7]) :: (121, .ifCond .eq 7, 3, [128]) :: (124, .iconst 5, 1, []) :: (125, .goto 4, 3, [129]) :: (128, .iconst 4, 1, []) :: (129, .ireturn, 1, [0]) :: []
def ks_X7_why_92 : List bc_En := (92, .iinc 4 1, 3, []) :: (95, .goto (-40), 3, [55, 1, 1, 1, 1, 1]) :: ((98, .nop, 0, [1, 1, 1, 1, 0]) :: ks_X7_why_98)
def ks_X7_why_55 : List bc_En := (55, .iload 4, 2, []) :: (57, .aload_n 0, 1, []) :: (58, .getfield 64, 3, [7, 11, 86]) :: (61, .iconst 0, 1, []) :: (62, .iaload, 1, []) :: (63, .if_icmp .ge 35, 3, [98]) :: (66, .aload_n 0, 1, []) :: (67, .iload_n 1, 1, []) :: (68, .iload 4, 2, []) :: (70, .invokevirtual 200, 3, [119, 90, 2, 7]) :: (73, .ifCond .ne 6, 3, [79]) :: (76, .goto 16, 3, [92]) :: (79, .iinc 2 1, 3, []) :: (82, .iload_n 3, 1, []) :: (83, .aload_n 0, 1, []) :: (84, .iload 4, 2, []) :: (86, .iconst 1, 1, []) :: (87, .invokevirtual 138, 3, [102, 76, 2, 7]) :: (90, .iadd, 1, []) :: (91, .istore_n 3, 1, []) :: ((92, .nop, 0, [1, 1, 1, 1, 1]) :: ks_X7_why_92)
def k_X7_why : List bc_En := (0, .aload_n 0, 1, []) :: (1, .iconst 0, 1, []) :: (2, .putfield 1, 3, [7, 0, 74]) :: (5, .aload_n 0, 1, []) :: (6, .iload_n 1, 1, []) :: (7, .invokevirtual 142, 3, [103, 77, 1, 7]) :: (10, .ifCond .ne 5, 3, [15]) :: (13, .iconst (-1), 1, []) :: (14, .ireturn, 1, [0]) :: (15, .aload_n 0, 1, []) :: (16, .invokevirtual 194, 3, [115, 88, 0, 7]) :: (19, .aload_n 0, 1, []) :: (20, .getfield 178, 3, [7, 25, 98]) :: (23, .iload_n 1, 1, []) :: (24, .invokestatic 165, 3, [82, 83, 2]) :: (27, .ifCond .eq 5, 3, [32]) :: (30, .iconst 0, 1, []) :: (31, .ireturn, 1, [0]) :: (32, .aload_n 0, 1, []) :: (33, .iload_n 1, 1, []) :: (34, .aload_n 0, 1, []) :: (35, .getfield 64, 3, [7, 11, 86]) :: (38, .iconst 1, 1, []) :: (39, .iaload, 1, []) :: (40, .invokevirtual 152, 3, [104, 80, 2, 7]) :: (43, .ifCond .ne 5, 3, [48]) :: (46, .iconst 1, 1, []) :: (47, .ireturn, 1, [0]) :: (48, .iconst 0, 1, []) :: (49, .istore_n 2, 1, []) :: (50, .iconst 0, 1, []) :: (51, .istore_n 3, 1, []) :: (52, .iconst 0, 1, []) :: (53, .istore 4, 2, []) :: ((55, .nop, 0, [1, 1, 1, 1, 1]) :: ks_X7_why_55)
theorem ck_X7_why : bc_code 121 k_X7_why = true := by decide +kernel
set_option maxRecDepth 20000 in
theorem at_X7_why_55 {d : Nat} {post : Option bc_AV → bc_AH → Prop} {loc : List (Option bc_AV)} {st : List bc_AV} {h : bc_AH} (q : bc_vc d 121 post ks_X7_why_55 none false loc st h) : bc_AT d 121 post 55 loc st h := bc_atF ck_X7_why (by rfl) q
set_option maxRecDepth 20000 in
theorem at_X7_why_92 {d : Nat} {post : Option bc_AV → bc_AH → Prop} {loc : List (Option bc_AV)} {st : List bc_AV} {h : bc_AH} (q : bc_vc d 121 post ks_X7_why_92 none false loc st h) : bc_AT d 121 post 92 loc st h := bc_atF ck_X7_why (by rfl) q
set_option maxRecDepth 20000 in
theorem at_X7_why_98 {d : Nat} {post : Option bc_AV → bc_AH → Prop} {loc : List (Option bc_AV)} {st : List bc_AV} {h : bc_AH} (q : bc_vc d 121 post ks_X7_why_98 none false loc st h) : bc_AT d 121 post 98 loc st h := bc_atF ck_X7_why (by rfl) q
def ks_X7_volume_65 : List bc_En := (65, .aload_n 0, 1, []) :: (66, .invokevirtual 187, 3, [111, 86, 0, 7]) :: (69, .aload_n 0, 1, []) :: (70, .iload_n 1, 1, []) :: (71, .invokevirtual 184, 3, [113, 85, 1, 7]) :: (74, .ifCond .eq 10, 3, [84]) :: (77, .aload_n 0, 1, []) :: (78, .getfield 175, 3, [7, 24, 97]) :: (81, .goto 5, 3, [86]) :: (84, .bipush (-2), 2, []) :: (86, .ireturn, 1, [0]) :: []
def ks_X7_volume_59 : List bc_En := (59, .iinc 2 1, 3, []) :: (62, .goto (-37), 3, [25, 1, 1, 1]) :: ((65, .nop, 0, [1, 1, 0]) :: ks_X7_volume_65)
def ks_X7_volume_25 : List bc_En := (25, .iload_n 2, 1, []) :: (26, .aload_n 0, 1, []) :: (27, .getfield 64, 3, [7, 11, 86]) :: (30, .iconst 0, 1, []) :: (31, .iaload, 1, []) :: (32, .if_icmp .ge 33, 3, [65]) :: (35, .iload_n 1, 1, []) :: (36, .iload_n 2, 1, []) :: (37, .invokestatic 165, 3, [82, 83, 2]) :: (40, .ifCond .eq 19, 3, [59]) :: (43, .aload_n 0, 1, []) :: (44, .iload_n 2, 1, []) :: (45, .aload_n 0, 1, []) :: (46, .getfield 64, 3, [7, 11, 86]) :: (49, .iconst 1, 1, []) :: (50, .iaload, 1, []) :: (51, .invokevirtual 152, 3, [104, 80, 2, 7]) :: (54, .ifCond .ne 5, 3, [59]) :: (57, .iconst (-1), 1, []) :: (58, .ireturn, 1, [0]) :: ((59, .nop, 0, [1, 1, 1]) :: ks_X7_volume_59)
def k_X7_volume : List bc_En := (0, .aload_n 0, 1, []) :: (1, .iconst 0, 1, []) :: (2, .putfield 1, 3, [7, 0, 74]) :: (5, .iload_n 1, 1, []) :: (6, .ifCond .lt 15, 3, [21]) :: (9, .iload_n 1, 1, []) :: (10, .iconst 1, 1, []) :: (11, .aload_n 0, 1, []) :: (12, .getfield 64, 3, [7, 11, 86]) :: (15, .iconst 0, 1, []) :: (16, .iaload, 1, []) :: (17, .ishl, 1, []) :: (18, .if_icmp .lt 5, 3, [23]) :: (21, .iconst (-1), 1, []) :: (22, .ireturn, 1, [0]) :: (23, .iconst 0, 1, []) :: (24, .istore_n 2, 1, []) :: ((25, .nop, 0, [1, 1, 1]) :: ks_X7_volume_25)
theorem ck_X7_volume : bc_code 122 k_X7_volume = true := by decide +kernel
set_option maxRecDepth 20000 in
theorem at_X7_volume_25 {d : Nat} {post : Option bc_AV → bc_AH → Prop} {loc : List (Option bc_AV)} {st : List bc_AV} {h : bc_AH} (q : bc_vc d 122 post ks_X7_volume_25 none false loc st h) : bc_AT d 122 post 25 loc st h := bc_atF ck_X7_volume (by rfl) q
set_option maxRecDepth 20000 in
theorem at_X7_volume_59 {d : Nat} {post : Option bc_AV → bc_AH → Prop} {loc : List (Option bc_AV)} {st : List bc_AV} {h : bc_AH} (q : bc_vc d 122 post ks_X7_volume_59 none false loc st h) : bc_AT d 122 post 59 loc st h := bc_atF ck_X7_volume (by rfl) q
set_option maxRecDepth 20000 in
theorem at_X7_volume_65 {d : Nat} {post : Option bc_AV → bc_AH → Prop} {loc : List (Option bc_AV)} {st : List bc_AV} {h : bc_AH} (q : bc_vc d 122 post ks_X7_volume_65 none false loc st h) : bc_AT d 122 post 65 loc st h := bc_atF ck_X7_volume (by rfl) q
def ks_X7_best_126 : List bc_En := (126, .iinc 3 1, 3, []) :: (129, .goto (-105), 3, [24, 1, 1, 1, 1, 0, 0]) :: (132, .iload_n 1, 1, []) :: (133, .ireturn, 1, [0]) :: []
def ks_X7_best_94 : List bc_En := (94, .iload 4, 2, []) :: (96, .ifCond .ne 6, 3, [102]) :: (99, .goto 27, 3, [126]) :: (102, .aload_n 0, 1, []) :: (103, .iload_n 3, 1, []) :: (104, .iconst (-1), 1, []) :: (105, .invokevirtual 190, 3, [114, 87, 2, 7]) :: (108, .aload_n 0, 1, []) :: (109, .getfield 181, 3, [7, 26, 99]) :: (112, .iload_n 2, 1, []) :: (113, .if_icmp .gt 6, 3, [119]) :: (116, .goto 10, 3, [126]) :: (119, .iload_n 3, 1, []) :: (120, .istore_n 1, 1, []) :: (121, .aload_n 0, 1, []) :: (122, .getfield 181, 3, [7, 26, 99]) :: (125, .istore_n 2, 1, []) :: ((126, .nop, 0, [1, 1, 1, 1, 0, 0]) :: ks_X7_best_126)
def ks_X7_best_86 : List bc_En := (86, .istore 4, 2, []) :: (88, .iinc 5 1, 3, []) :: (91, .goto (-54), 3, [37, 1, 1, 1, 1, 1, 1]) :: ((94, .nop, 0, [1, 1, 1, 1, 1, 0]) :: ks_X7_best_94)
def ks_X7_best_37 : List bc_En := (37, .iload 5, 2, []) :: (39, .aload_n 0, 1, []) :: (40, .getfield 64, 3, [7, 11, 86]) :: (43, .iconst 0, 1, []) :: (44, .iaload, 1, []) :: (45, .if_icmp .ge 49, 3, [94]) :: (48, .iload 4, 2, []) :: (50, .ifCond .ne 31, 3, [81]) :: (53, .aload_n 0, 1, []) :: (54, .iload 5, 2, []) :: (56, .invokevirtual 142, 3, [103, 77, 1, 7]) :: (59, .ifCond .eq 26, 3, [85]) :: (62, .aload_n 0, 1, []) :: (63, .iload 5, 2, []) :: (65, .iload_n 3, 1, []) :: (66, .invokevirtual 152, 3, [104, 80, 2, 7]) :: (69, .aload_n 0, 1, []) :: (70, .iload 5, 2, []) :: (72, .iload_n 3, 1, []) :: (73, .iconst 1, 1, []) :: (74, .isub, 1, []) :: (75, .invokevirtual 152, 3, [104, 80, 2, 7]) :: (78, .if_icmp .eq 7, 3, [85]) :: (81, .iconst 1, 1, []) :: (82, .goto 4, 3, [86]) :: (85, .iconst 0, 1, []) :: ((86, .nop, 0, [1, 1, 1, 1, 0, 1]) :: ks_X7_best_86)
def ks_X7_best_24 : List bc_En := (24, .iload_n 3, 1, []) :: (25, .sipush 999, 3, []) :: (28, .if_icmp .gt 104, 3, [132]) :: (31, .iconst 0, 1, []) :: (32, .istore 4, 2, []) :: (34, .iconst 0, 1, []) :: (35, .istore 5, 2, []) :: ((37, .nop, 0, [1, 1, 1, 1, 1, 1]) :: ks_X7_best_37)
def k_X7_best : List bc_En := (0, .aload_n 0, 1, []) :: (1, .iconst 0, 1, []) :: (2, .putfield 1, 3, [7, 0, 74]) :: (5, .aload_n 0, 1, []) :: (6, .invokevirtual 187, 3, [111, 86, 0, 7]) :: (9, .iconst 0, 1, []) :: (10, .istore_n 1, 1, []) :: (11, .aload_n 0, 1, []) :: (12, .iconst 0, 1, []) :: (13, .iconst (-1), 1, []) :: (14, .invokevirtual 190, 3, [114, 87, 2, 7]) :: (17, .aload_n 0, 1, []) :: (18, .getfield 181, 3, [7, 26, 99]) :: (21, .istore_n 2, 1, []) :: (22, .iconst 1, 1, []) :: (23, .istore_n 3, 1, []) :: ((24, .nop, 0, [1, 1, 1, 1, 0, 0]) :: ks_X7_best_24)
theorem ck_X7_best : bc_code 123 k_X7_best = true := by decide +kernel
set_option maxRecDepth 20000 in
theorem at_X7_best_24 {d : Nat} {post : Option bc_AV → bc_AH → Prop} {loc : List (Option bc_AV)} {st : List bc_AV} {h : bc_AH} (q : bc_vc d 123 post ks_X7_best_24 none false loc st h) : bc_AT d 123 post 24 loc st h := bc_atF ck_X7_best (by rfl) q
set_option maxRecDepth 20000 in
theorem at_X7_best_37 {d : Nat} {post : Option bc_AV → bc_AH → Prop} {loc : List (Option bc_AV)} {st : List bc_AV} {h : bc_AH} (q : bc_vc d 123 post ks_X7_best_37 none false loc st h) : bc_AT d 123 post 37 loc st h := bc_atF ck_X7_best (by rfl) q
set_option maxRecDepth 20000 in
theorem at_X7_best_86 {d : Nat} {post : Option bc_AV → bc_AH → Prop} {loc : List (Option bc_AV)} {st : List bc_AV} {h : bc_AH} (q : bc_vc d 123 post ks_X7_best_86 none false loc st h) : bc_AT d 123 post 86 loc st h := bc_atF ck_X7_best (by rfl) q
set_option maxRecDepth 20000 in
theorem at_X7_best_94 {d : Nat} {post : Option bc_AV → bc_AH → Prop} {loc : List (Option bc_AV)} {st : List bc_AV} {h : bc_AH} (q : bc_vc d 123 post ks_X7_best_94 none false loc st h) : bc_AT d 123 post 94 loc st h := bc_atF ck_X7_best (by rfl) q
set_option maxRecDepth 20000 in
theorem at_X7_best_126 {d : Nat} {post : Option bc_AV → bc_AH → Prop} {loc : List (Option bc_AV)} {st : List bc_AV} {h : bc_AH} (q : bc_vc d 123 post ks_X7_best_126 none false loc st h) : bc_AT d 123 post 126 loc st h := bc_atF ck_X7_best (by rfl) q
def k_X7_were : List bc_En := [(0, .aload_n 0, 1, []), (1, .iconst 0, 1, []), (2, .putfield 1, 3, [7, 0, 74]), (5, .aload_n 0, 1, []), (6, .iload_n 1, 1, []), (7, .invokevirtual 142, 3, [103, 77, 1, 7]), (10, .ifCond .eq 17, 3, [27]), (13, .iload_n 2, 1, []), (14, .iconst 1, 1, []), (15, .aload_n 0, 1, []), (16, .iload_n 1, 1, []), (17, .iconst 1, 1, []), (18, .invokevirtual 138, 3, [102, 76, 2, 7]), (21, .invokestatic 104, 3, [81, 66, 3]), (24, .ifCond .ne 5, 3, [29]), (27, .iconst (-1), 1, []), (28, .ireturn, 1, [0]), (29, .aload_n 0, 1, []), (30, .invokevirtual 187, 3, [111, 86, 0, 7]), (33, .aload_n 0, 1, []), (34, .getfield 76, 3, [7, 17, 90]), (37, .iload_n 1, 1, []), (38, .iload_n 2, 1, []), (39, .iastore, 1, []), (40, .aload_n 0, 1, []), (41, .aload_n 0, 1, []), (42, .getfield 64, 3, [7, 11, 86]), (45, .iconst 1, 1, []), (46, .iaload, 1, []), (47, .iconst (-1), 1, []), (48, .invokevirtual 190, 3, [114, 87, 2, 7]), (51, .aload_n 0, 1, []), (52, .getfield 181, 3, [7, 26, 99]), (55, .ireturn, 1, [0])]
theorem ck_X7_were : bc_code 124 k_X7_were = true := by decide +kernel
def k_X7_worth : List bc_En := [(0, .aload_n 0, 1, []), (1, .iconst 0, 1, []), (2, .putfield 1, 3, [7, 0, 74]), (5, .aload_n 0, 1, []), (6, .iload_n 1, 1, []), (7, .invokevirtual 142, 3, [103, 77, 1, 7]), (10, .ifCond .ne 5, 3, [15]), (13, .iconst (-1), 1, []), (14, .ireturn, 1, [0]), (15, .aload_n 0, 1, []), (16, .invokevirtual 194, 3, [115, 88, 0, 7]), (19, .aload_n 0, 1, []), (20, .getfield 181, 3, [7, 26, 99]), (23, .istore_n 2, 1, []), (24, .aload_n 0, 1, []), (25, .aload_n 0, 1, []), (26, .getfield 64, 3, [7, 11, 86]), (29, .iconst 1, 1, []), (30, .iaload, 1, []), (31, .iload_n 1, 1, []), (32, .invokevirtual 190, 3, [114, 87, 2, 7]), (35, .iload_n 2, 1, []), (36, .aload_n 0, 1, []), (37, .getfield 181, 3, [7, 26, 99]), (40, .isub, 1, []), (41, .ireturn, 1, [0])]
theorem ck_X7_worth : bc_code 125 k_X7_worth = true := by decide +kernel
def ks_X7_reach_97 : List bc_En := (97, .goto (-55), 3, [42, 1, 1, 1, 1, 0]) :: (100, .iload_n 2, 1, []) :: (101, .ireturn, 1, [0]) :: []
def ks_X7_reach_42 : List bc_En := (42, .iload_n 2, 1, []) :: (43, .iload_n 3, 1, []) :: (44, .if_icmp .ge 56, 3, [100]) :: (47, .iload_n 2, 1, []) :: (48, .iload_n 3, 1, []) :: (49, .iadd, 1, []) :: (50, .iconst 1, 1, []) :: (51, .iadd, 1, []) :: (52, .iconst 2, 1, []) :: (53, .idiv, 1, []) :: (54, .istore 4, 2, []) :: (56, .aload_n 0, 1, []) :: (57, .getfield 76, 3, [7, 17, 90]) :: (60, .iload_n 1, 1, []) :: (61, .iload 4, 2, []) :: (63, .iastore, 1, []) :: (64, .aload_n 0, 1, []) :: (65, .aload_n 0, 1, []) :: (66, .getfield 64, 3, [7, 11, 86]) :: (69, .iconst 1, 1, []) :: (70, .iaload, 1, []) :: (71, .iconst (-1), 1, []) :: (72, .invokevirtual 190, 3, [114, 87, 2, 7]) :: (75, .aload_n 0, 1, []) :: (76, .getfield 178, 3, [7, 25, 98]) :: (79, .iload_n 1, 1, []) :: (80, .invokestatic 165, 3, [82, 83, 2]) :: (83, .ifCond .eq 9, 3, [92]) :: (86, .iload 4, 2, []) :: (88, .istore_n 2, 1, []) :: (89, .goto 8, 3, [97]) :: (92, .iload 4, 2, []) :: (94, .iconst 1, 1, []) :: (95, .isub, 1, []) :: (96, .istore_n 3, 1, []) :: ((97, .nop, 0, [1, 1, 1, 1, 0]) :: ks_X7_reach_97)
def k_X7_reach : List bc_En := (0, .aload_n 0, 1, []) :: (1, .iconst 0, 1, []) :: (2, .putfield 1, 3, [7, 0, 74]) :: (5, .aload_n 0, 1, []) :: (6, .iload_n 1, 1, []) :: (7, .invokevirtual 135, 3, [101, 75, 1, 7]) :: (10, .ifCond .eq 17, 3, [27]) :: (13, .aload_n 0, 1, []) :: (14, .iload_n 1, 1, []) :: (15, .aload_n 0, 1, []) :: (16, .getfield 64, 3, [7, 11, 86]) :: (19, .iconst 1, 1, []) :: (20, .iaload, 1, []) :: (21, .invokevirtual 152, 3, [104, 80, 2, 7]) :: (24, .ifCond .ne 5, 3, [29]) :: (27, .iconst (-1), 1, []) :: (28, .ireturn, 1, [0]) :: (29, .aload_n 0, 1, []) :: (30, .invokevirtual 187, 3, [111, 86, 0, 7]) :: (33, .iconst 0, 1, []) :: (34, .istore_n 2, 1, []) :: (35, .aload_n 0, 1, []) :: (36, .iload_n 1, 1, []) :: (37, .iconst 1, 1, []) :: (38, .invokevirtual 138, 3, [102, 76, 2, 7]) :: (41, .istore_n 3, 1, []) :: ((42, .nop, 0, [1, 1, 1, 1, 0]) :: ks_X7_reach_42)
theorem ck_X7_reach : bc_code 126 k_X7_reach = true := by decide +kernel
set_option maxRecDepth 20000 in
theorem at_X7_reach_42 {d : Nat} {post : Option bc_AV → bc_AH → Prop} {loc : List (Option bc_AV)} {st : List bc_AV} {h : bc_AH} (q : bc_vc d 126 post ks_X7_reach_42 none false loc st h) : bc_AT d 126 post 42 loc st h := bc_atF ck_X7_reach (by rfl) q
set_option maxRecDepth 20000 in
theorem at_X7_reach_97 {d : Nat} {post : Option bc_AV → bc_AH → Prop} {loc : List (Option bc_AV)} {st : List bc_AV} {h : bc_AH} (q : bc_vc d 126 post ks_X7_reach_97 none false loc st h) : bc_AT d 126 post 97 loc st h := bc_atF ck_X7_reach (by rfl) q
def ks_X7_snap_52 : List bc_En := (52, .iload_n 1, 1, []) :: (53, .sipush 223, 3, []) :: (56, .if_icmp .ge 30, 3, [86]) :: (59, .aload_n 0, 1, []) :: (60, .getfield 70, 3, [7, 13, 101]) :: (63, .sipush 223, 3, []) :: (66, .aload_n 0, 1, []) :: (67, .getfield 132, 3, [7, 14, 87]) :: (70, .imul, 1, []) :: (71, .iload_n 1, 1, []) :: (72, .iadd, 1, []) :: (73, .aload_n 0, 1, []) :: (74, .getfield 64, 3, [7, 11, 86]) :: (77, .iload_n 1, 1, []) :: (78, .iaload, 1, []) :: (79, .iastore, 1, []) :: (80, .iinc 1 1, 3, []) :: (83, .goto (-31), 3, [52, 1, 1]) :: (86, .aload_n 0, 1, []) :: (87, .dup, 1, []) :: (88, .getfield 132, 3, [7, 14, 87]) :: (91, .iconst 1, 1, []) :: (92, .iadd, 1, []) :: (93, .putfield 132, 3, [7, 14, 87]) :: (96, .return_, 1, []) :: []
def ks_X7_snap_50 : List bc_En := (50, .iconst 0, 1, []) :: (51, .istore_n 1, 1, []) :: ((52, .nop, 0, [1, 1]) :: ks_X7_snap_52)
def ks_X7_snap_11 : List bc_En := (11, .iload_n 1, 1, []) :: (12, .sipush 1561, 3, []) :: (15, .if_icmp .ge 25, 3, [40]) :: (18, .aload_n 0, 1, []) :: (19, .getfield 70, 3, [7, 13, 101]) :: (22, .iload_n 1, 1, []) :: (23, .aload_n 0, 1, []) :: (24, .getfield 70, 3, [7, 13, 101]) :: (27, .iload_n 1, 1, []) :: (28, .sipush 223, 3, []) :: (31, .iadd, 1, []) :: (32, .iaload, 1, []) :: (33, .iastore, 1, []) :: (34, .iinc 1 1, 3, []) :: (37, .goto (-26), 3, [11, 1, 1]) :: (40, .aload_n 0, 1, []) :: (41, .dup, 1, []) :: (42, .getfield 132, 3, [7, 14, 87]) :: (45, .iconst 1, 1, []) :: (46, .isub, 1, []) :: (47, .putfield 132, 3, [7, 14, 87]) :: ((50, .nop, 0, [1, 0]) :: ks_X7_snap_50)
def k_X7_snap : List bc_En := (0, .aload_n 0, 1, []) :: (1, .getfield 132, 3, [7, 14, 87]) :: (4, .bipush 8, 2, []) :: (6, .if_icmp .ne 44, 3, [50]) :: (9, .iconst 0, 1, []) :: (10, .istore_n 1, 1, []) :: ((11, .nop, 0, [1, 1]) :: ks_X7_snap_11)
theorem ck_X7_snap : bc_code 127 k_X7_snap = true := by decide +kernel
set_option maxRecDepth 20000 in
theorem at_X7_snap_11 {d : Nat} {post : Option bc_AV → bc_AH → Prop} {loc : List (Option bc_AV)} {st : List bc_AV} {h : bc_AH} (q : bc_vc d 127 post ks_X7_snap_11 none false loc st h) : bc_AT d 127 post 11 loc st h := bc_atF ck_X7_snap (by rfl) q
set_option maxRecDepth 20000 in
theorem at_X7_snap_50 {d : Nat} {post : Option bc_AV → bc_AH → Prop} {loc : List (Option bc_AV)} {st : List bc_AV} {h : bc_AH} (q : bc_vc d 127 post ks_X7_snap_50 none false loc st h) : bc_AT d 127 post 50 loc st h := bc_atF ck_X7_snap (by rfl) q
set_option maxRecDepth 20000 in
theorem at_X7_snap_52 {d : Nat} {post : Option bc_AV → bc_AH → Prop} {loc : List (Option bc_AV)} {st : List bc_AV} {h : bc_AH} (q : bc_vc d 127 post ks_X7_snap_52 none false loc st h) : bc_AT d 127 post 52 loc st h := bc_atF ck_X7_snap (by rfl) q
def ks_X7_come_132 : List bc_En := (132, .aload_n 0, 1, []) :: (133, .getfield 64, 3, [7, 11, 86]) :: (136, .iload 6, 2, []) :: (138, .iconst 0, 1, []) :: (139, .iadd, 1, []) :: (140, .iload_n 1, 1, []) :: (141, .iastore, 1, []) :: (142, .aload_n 0, 1, []) :: (143, .getfield 64, 3, [7, 11, 86]) :: (146, .iload 6, 2, []) :: (148, .iconst 1, 1, []) :: (149, .iadd, 1, []) :: (150, .iload_n 2, 1, []) :: (151, .iastore, 1, []) :: (152, .aload_n 0, 1, []) :: (153, .getfield 64, 3, [7, 11, 86]) :: (156, .iload 6, 2, []) :: (158, .iconst 2, 1, []) :: (159, .iadd, 1, []) :: (160, .iload_n 3, 1, []) :: (161, .iastore, 1, []) :: (162, .aload_n 0, 1, []) :: (163, .getfield 64, 3, [7, 11, 86]) :: (166, .iload 6, 2, []) :: (168, .iconst 3, 1, []) :: (169, .iadd, 1, []) :: (170, .iload 4, 2, []) :: (172, .iastore, 1, []) :: (173, .aload_n 0, 1, []) :: (174, .getfield 64, 3, [7, 11, 86]) :: (177, .iload 6, 2, []) :: (179, .iconst 4, 1, []) :: (180, .iadd, 1, []) :: (181, .iload 5, 2, []) :: (183, .iastore, 1, []) :: (184, .aload_n 0, 1, []) :: (185, .getfield 64, 3, [7, 11, 86]) :: (188, .iconst 0, 1, []) :: (189, .dup2, 1, []) :: (190, .iaload, 1, []) :: (191, .iconst 1, 1, []) :: (192, .iadd, 1, []) :: (193, .iastore, 1, []) :: (194, .aload_n 0, 1, []) :: (195, .getfield 64, 3, [7, 11, 86]) :: (198, .iconst 0, 1, []) :: (199, .iaload, 1, []) :: (200, .iconst 1, 1, []) :: (201, .isub, 1, []) :: (202, .ireturn, 1, [0]) :: []
def ks_X7_come_108 : List bc_En := (108, .iload 7, 2, []) :: (110, .bipush 9, 2, []) :: (112, .if_icmp .ge 20, 3, [132]) :: (115, .aload_n 0, 1, []) :: (116, .getfield 64, 3, [7, 11, 86]) :: (119, .iload 6, 2, []) :: (121, .iload 7, 2, []) :: (123, .iadd, 1, []) :: (124, .iconst 0, 1, []) :: (125, .iastore, 1, []) :: (126, .iinc 7 1, 3, []) :: (129, .goto (-21), 3, [108, 1, 1, 1, 1, 1, 1, 1, 1]) :: ((132, .nop, 0, [1, 1, 1, 1, 1, 1, 1, 0]) :: ks_X7_come_132)
def ks_X7_come_58 : List bc_En := (58, .aload_n 0, 1, []) :: (59, .invokevirtual 162, 3, [109, 82, 0, 7]) :: (62, .aload_n 0, 1, []) :: (63, .getfield 156, 3, [7, 16, 88]) :: (66, .bipush 10, 2, []) :: (68, .if_icmp .ne 5, 3, [73]) :: (71, .iconst (-1), 1, []) :: (72, .ireturn, 1, [0]) :: (73, .aload_n 0, 1, []) :: (74, .getfield 64, 3, [7, 11, 86]) :: (77, .iconst 0, 1, []) :: (78, .iaload, 1, []) :: (79, .bipush 24, 2, []) :: (81, .if_icmp .ne 6, 3, [87]) :: (84, .bipush (-2), 2, []) :: (86, .ireturn, 1, [0]) :: (87, .aload_n 0, 1, []) :: (88, .invokevirtual 206, 3, [127, 92, 0, 7]) :: (91, .bipush 7, 2, []) :: (93, .bipush 9, 2, []) :: (95, .aload_n 0, 1, []) :: (96, .getfield 64, 3, [7, 11, 86]) :: (99, .iconst 0, 1, []) :: (100, .iaload, 1, []) :: (101, .imul, 1, []) :: (102, .iadd, 1, []) :: (103, .istore 6, 2, []) :: (105, .iconst 0, 1, []) :: (106, .istore 7, 2, []) :: ((108, .nop, 0, [1, 1, 1, 1, 1, 1, 1, 1]) :: ks_X7_come_108)
def k_X7_come : List bc_En := (0, .aload_n 0, 1, []) :: (1, .iconst 0, 1, []) :: (2, .putfield 1, 3, [7, 0, 74]) :: (5, .iload_n 1, 1, []) :: (6, .iconst 0, 1, []) :: (7, .iconst 1, 1, []) :: (8, .invokestatic 104, 3, [81, 66, 3]) :: (11, .ifCond .eq 45, 3, [56]) :: (14, .iload_n 2, 1, []) :: (15, .iconst 1, 1, []) :: (16, .sipush 999, 3, []) :: (19, .invokestatic 104, 3, [81, 66, 3]) :: (22, .ifCond .eq 34, 3, [56]) :: (25, .iload_n 3, 1, []) :: (26, .iconst 1, 1, []) :: (27, .iload_n 2, 1, []) :: (28, .invokestatic 104, 3, [81, 66, 3]) :: (31, .ifCond .eq 25, 3, [56]) :: (34, .iload 4, 2, []) :: (36, .iconst 0, 1, []) :: (37, .sipush 999, 3, []) :: (40, .invokestatic 104, 3, [81, 66, 3]) :: (43, .ifCond .eq 13, 3, [56]) :: (46, .iload 5, 2, []) :: (48, .iconst 0, 1, []) :: (49, .iconst 5, 1, []) :: (50, .invokestatic 104, 3, [81, 66, 3]) :: (53, .ifCond .ne 5, 3, [58]) :: (56, .iconst (-1), 1, []) :: (57, .ireturn, 1, [0]) :: ((58, .nop, 0, [1, 1, 1, 1, 1, 1, 0, 0]) :: ks_X7_come_58)
theorem ck_X7_come : bc_code 128 k_X7_come = true := by decide +kernel
set_option maxRecDepth 20000 in
theorem at_X7_come_58 {d : Nat} {post : Option bc_AV → bc_AH → Prop} {loc : List (Option bc_AV)} {st : List bc_AV} {h : bc_AH} (q : bc_vc d 128 post ks_X7_come_58 none false loc st h) : bc_AT d 128 post 58 loc st h := bc_atF ck_X7_come (by rfl) q
set_option maxRecDepth 20000 in
theorem at_X7_come_108 {d : Nat} {post : Option bc_AV → bc_AH → Prop} {loc : List (Option bc_AV)} {st : List bc_AV} {h : bc_AH} (q : bc_vc d 128 post ks_X7_come_108 none false loc st h) : bc_AT d 128 post 108 loc st h := bc_atF ck_X7_come (by rfl) q
set_option maxRecDepth 20000 in
theorem at_X7_come_132 {d : Nat} {post : Option bc_AV → bc_AH → Prop} {loc : List (Option bc_AV)} {st : List bc_AV} {h : bc_AH} (q : bc_vc d 128 post ks_X7_come_132 none false loc st h) : bc_AT d 128 post 132 loc st h := bc_atF ck_X7_come (by rfl) q
end
section
def k_X7_withdraw : List bc_En := [(0, .aload_n 0, 1, []), (1, .iconst 0, 1, []), (2, .putfield 1, 3, [7, 0, 74]), (5, .aload_n 0, 1, []), (6, .iload_n 1, 1, []), (7, .invokevirtual 142, 3, [103, 77, 1, 7]), (10, .ifCond .ne 5, 3, [15]), (13, .iconst (-1), 1, []), (14, .ireturn, 1, [0]), (15, .aload_n 0, 1, []), (16, .invokevirtual 206, 3, [127, 92, 0, 7]), (19, .aload_n 0, 1, []), (20, .getfield 64, 3, [7, 11, 86]), (23, .bipush 7, 2, []), (25, .bipush 9, 2, []), (27, .iload_n 1, 1, []), (28, .imul, 1, []), (29, .iadd, 1, []), (30, .iconst 5, 1, []), (31, .iadd, 1, []), (32, .iconst 1, 1, []), (33, .iastore, 1, []), (34, .aload_n 0, 1, []), (35, .iload_n 1, 1, []), (36, .iconst 1, 1, []), (37, .invokevirtual 138, 3, [102, 76, 2, 7]), (40, .ireturn, 1, [0])]
theorem ck_X7_withdraw : bc_code 129 k_X7_withdraw = true := by decide +kernel
def k_X7_becomes : List bc_En := [(0, .aload_n 0, 1, []), (1, .getfield 64, 3, [7, 11, 86]), (4, .iload_n 1, 1, []), (5, .iaload, 1, []), (6, .iload_n 2, 1, []), (7, .if_icmp .ne 6, 3, [13]), (10, .bipush (-2), 2, []), (12, .ireturn, 1, [0]), (13, .aload_n 0, 1, []), (14, .invokevirtual 206, 3, [127, 92, 0, 7]), (17, .aload_n 0, 1, []), (18, .getfield 64, 3, [7, 11, 86]), (21, .iload_n 1, 1, []), (22, .iaload, 1, []), (23, .istore_n 3, 1, []), (24, .aload_n 0, 1, []), (25, .getfield 64, 3, [7, 11, 86]), (28, .iload_n 1, 1, []), (29, .iload_n 2, 1, []), (30, .iastore, 1, []), (31, .iload_n 3, 1, []), (32, .ireturn, 1, [0])]
theorem ck_X7_becomes : bc_code 130 k_X7_becomes = true := by decide +kernel
def ks_X7_amend_73 : List bc_En := (73, .iadd, 1, []) :: (74, .iload_n 3, 1, []) :: (75, .invokevirtual 209, 3, [130, 93, 2, 7]) :: (78, .ireturn, 1, [0]) :: []
def ks_X7_amend_56 : List bc_En := (56, .aload_n 0, 1, []) :: (57, .bipush 7, 2, []) :: (59, .bipush 9, 2, []) :: (61, .iload_n 1, 1, []) :: (62, .imul, 1, []) :: (63, .iadd, 1, []) :: (64, .iload_n 2, 1, []) :: (65, .ifCond .ne 7, 3, [72]) :: (68, .iconst 2, 1, []) :: (69, .goto 4, 3, [73]) :: (72, .iconst 3, 1, []) :: ((73, .nop, 0, [0, 0, 0, 1]) :: ks_X7_amend_73)
def k_X7_amend : List bc_En := (0, .aload_n 0, 1, []) :: (1, .iconst 0, 1, []) :: (2, .putfield 1, 3, [7, 0, 74]) :: (5, .aload_n 0, 1, []) :: (6, .iload_n 1, 1, []) :: (7, .invokevirtual 142, 3, [103, 77, 1, 7]) :: (10, .ifCond .eq 44, 3, [54]) :: (13, .iload_n 2, 1, []) :: (14, .iconst 0, 1, []) :: (15, .iconst 1, 1, []) :: (16, .invokestatic 104, 3, [81, 66, 3]) :: (19, .ifCond .eq 35, 3, [54]) :: (22, .iload_n 2, 1, []) :: (23, .ifCond .ne 20, 3, [43]) :: (26, .iload_n 3, 1, []) :: (27, .iconst 1, 1, []) :: (28, .aload_n 0, 1, []) :: (29, .iload_n 1, 1, []) :: (30, .iconst 1, 1, []) :: (31, .invokevirtual 138, 3, [102, 76, 2, 7]) :: (34, .invokestatic 104, 3, [81, 66, 3]) :: (37, .ifCond .ne 19, 3, [56]) :: (40, .goto 14, 3, [54]) :: (43, .iload_n 3, 1, []) :: (44, .iconst 0, 1, []) :: (45, .sipush 999, 3, []) :: (48, .invokestatic 104, 3, [81, 66, 3]) :: (51, .ifCond .ne 5, 3, [56]) :: (54, .iconst (-1), 1, []) :: (55, .ireturn, 1, [0]) :: ((56, .nop, 0, [1, 1, 1, 1]) :: ks_X7_amend_56)
theorem ck_X7_amend : bc_code 131 k_X7_amend = true := by decide +kernel
set_option maxRecDepth 20000 in
theorem at_X7_amend_56 {d : Nat} {post : Option bc_AV → bc_AH → Prop} {loc : List (Option bc_AV)} {st : List bc_AV} {h : bc_AH} (q : bc_vc d 131 post ks_X7_amend_56 none false loc st h) : bc_AT d 131 post 56 loc st h := bc_atF ck_X7_amend (by rfl) q
set_option maxRecDepth 20000 in
theorem at_X7_amend_73 {d : Nat} {post : Option bc_AV → bc_AH → Prop} {loc : List (Option bc_AV)} {st : List bc_AV} {h : bc_AH} (q : bc_vc d 131 post ks_X7_amend_73 none false loc st h) : bc_AT d 131 post 73 loc st h := bc_atF ck_X7_amend (by rfl) q
def k_X7_mid : List bc_En := [(0, .aload_n 0, 1, []), (1, .iconst 0, 1, []), (2, .putfield 1, 3, [7, 0, 74]), (5, .iload_n 1, 1, []), (6, .iconst 0, 1, []), (7, .sipush 999, 3, []), (10, .invokestatic 104, 3, [81, 66, 3]), (13, .ifCond .eq 12, 3, [25]), (16, .aload_n 0, 1, []), (17, .iconst 1, 1, []), (18, .iload_n 1, 1, []), (19, .invokevirtual 209, 3, [130, 93, 2, 7]), (22, .goto 4, 3, [26]), (25, .iconst (-1), 1, []), (26, .ireturn, 1, [0])]
theorem ck_X7_mid : bc_code 132 k_X7_mid = true := by decide +kernel
def ks_X7_leaksOf_4 : List bc_En := (4, .iload_n 3, 1, []) :: (5, .aload_n 0, 1, []) :: (6, .getfield 64, 3, [7, 11, 86]) :: (9, .iconst 0, 1, []) :: (10, .iaload, 1, []) :: (11, .if_icmp .ge 59, 3, [70]) :: (14, .aload_n 0, 1, []) :: (15, .getfield 94, 3, [7, 27, 100]) :: (18, .iload_n 3, 1, []) :: (19, .iaload, 1, []) :: (20, .ifCond .le 44, 3, [64]) :: (23, .aload_n 0, 1, []) :: (24, .iload_n 3, 1, []) :: (25, .iconst 0, 1, []) :: (26, .invokevirtual 138, 3, [102, 76, 2, 7]) :: (29, .aload_n 0, 1, []) :: (30, .iload_n 1, 1, []) :: (31, .iconst 0, 1, []) :: (32, .invokevirtual 138, 3, [102, 76, 2, 7]) :: (35, .if_icmp .eq 29, 3, [64]) :: (38, .aload_n 0, 1, []) :: (39, .iload_n 3, 1, []) :: (40, .iconst 4, 1, []) :: (41, .invokevirtual 138, 3, [102, 76, 2, 7]) :: (44, .aload_n 0, 1, []) :: (45, .iload_n 1, 1, []) :: (46, .iconst 4, 1, []) :: (47, .invokevirtual 138, 3, [102, 76, 2, 7]) :: (50, .if_icmp .eq 14, 3, [64]) :: (53, .iload_n 2, 1, []) :: (54, .iconst 1, 1, []) :: (55, .aload_n 0, 1, []) :: (56, .iload_n 3, 1, []) :: (57, .iconst 4, 1, []) :: (58, .invokevirtual 138, 3, [102, 76, 2, 7]) :: (61, .ishl, 1, []) :: (62, .ior, 1, []) :: (63, .istore_n 2, 1, []) :: (64, .iinc 3 1, 3, []) :: (67, .goto (-63), 3, [4, 1, 1, 1, 1]) :: (70, .iload_n 2, 1, []) :: (71, .ireturn, 1, [0]) :: []
def k_X7_leaksOf : List bc_En := (0, .iconst 0, 1, []) :: (1, .istore_n 2, 1, []) :: (2, .iconst 0, 1, []) :: (3, .istore_n 3, 1, []) :: ((4, .nop, 0, [1, 1, 1, 1]) :: ks_X7_leaksOf_4)
theorem ck_X7_leaksOf : bc_code 133 k_X7_leaksOf = true := by decide +kernel
set_option maxRecDepth 20000 in
theorem at_X7_leaksOf_4 {d : Nat} {post : Option bc_AV → bc_AH → Prop} {loc : List (Option bc_AV)} {st : List bc_AV} {h : bc_AH} (q : bc_vc d 133 post ks_X7_leaksOf_4 none false loc st h) : bc_AT d 133 post 4 loc st h := bc_atF ck_X7_leaksOf (by rfl) q
def ks_X7_run_214 : List bc_En := (214, .aload_n 0, 1, []) :: (215, .getfield 64, 3, [7, 11, 86]) :: (218, .iconst 2, 1, []) :: (219, .dup2, 1, []) :: (220, .iaload, 1, []) :: (221, .iconst 1, 1, []) :: (222, .iadd, 1, []) :: (223, .iastore, 1, []) :: (224, .aload_n 0, 1, []) :: (225, .getfield 64, 3, [7, 11, 86]) :: (228, .iconst 3, 1, []) :: (229, .dup2, 1, []) :: (230, .iaload, 1, []) :: (231, .iload_n 2, 1, []) :: (232, .iadd, 1, []) :: (233, .iastore, 1, []) :: (234, .aload_n 0, 1, []) :: (235, .getfield 64, 3, [7, 11, 86]) :: (238, .iconst 4, 1, []) :: (239, .iload_n 2, 1, []) :: (240, .iastore, 1, []) :: (241, .aload_n 0, 1, []) :: (242, .getfield 64, 3, [7, 11, 86]) :: (245, .iconst 5, 1, []) :: (246, .aload_n 0, 1, []) :: (247, .getfield 64, 3, [7, 11, 86]) :: (250, .iconst 1, 1, []) :: (251, .iaload, 1, []) :: (252, .iastore, 1, []) :: (253, .aload_n 0, 1, []) :: (254, .getfield 64, 3, [7, 11, 86]) :: (257, .bipush 6, 2, []) :: (259, .iload_n 1, 1, []) :: (260, .iastore, 1, []) :: (261, .iload_n 2, 1, []) :: (262, .ireturn, 1, [0]) :: []
def ks_X7_run_208 : List bc_En := (208, .iinc 3 1, 3, []) :: (211, .goto (-131), 3, [80, 1, 1, 1, 1, 0]) :: ((214, .nop, 0, [1, 1, 1, 0, 0]) :: ks_X7_run_214)
def ks_X7_run_186 : List bc_En := (186, .aload_n 0, 1, []) :: (187, .getfield 64, 3, [7, 11, 86]) :: (190, .iload 4, 2, []) :: (192, .iconst 1, 1, []) :: (193, .iadd, 1, []) :: (194, .iaload, 1, []) :: (195, .ifCond .ne 13, 3, [208]) :: (198, .aload_n 0, 1, []) :: (199, .getfield 64, 3, [7, 11, 86]) :: (202, .iload 4, 2, []) :: (204, .iconst 5, 1, []) :: (205, .iadd, 1, []) :: (206, .iconst 2, 1, []) :: (207, .iastore, 1, []) :: ((208, .nop, 0, [1, 1, 1, 1, 0]) :: ks_X7_run_208)
def ks_X7_run_80 : List bc_En := (80, .iload_n 3, 1, []) :: (81, .aload_n 0, 1, []) :: (82, .getfield 64, 3, [7, 11, 86]) :: (85, .iconst 0, 1, []) :: (86, .iaload, 1, []) :: (87, .if_icmp .ge 127, 3, [214]) :: (90, .iload_n 1, 1, []) :: (91, .iload_n 3, 1, []) :: (92, .invokestatic 165, 3, [82, 83, 2]) :: (95, .ifCond .ne 6, 3, [101]) :: (98, .goto 110, 3, [208]) :: (101, .bipush 7, 2, []) :: (103, .bipush 9, 2, []) :: (105, .iload_n 3, 1, []) :: (106, .imul, 1, []) :: (107, .iadd, 1, []) :: (108, .istore 4, 2, []) :: (110, .aload_n 0, 1, []) :: (111, .getfield 64, 3, [7, 11, 86]) :: (114, .iload 4, 2, []) :: (116, .iconst 1, 1, []) :: (117, .iadd, 1, []) :: (118, .dup2, 1, []) :: (119, .iaload, 1, []) :: (120, .aload_n 0, 1, []) :: (121, .getfield 94, 3, [7, 27, 100]) :: (124, .iload_n 3, 1, []) :: (125, .iaload, 1, []) :: (126, .isub, 1, []) :: (127, .iastore, 1, []) :: (128, .aload_n 0, 1, []) :: (129, .getfield 64, 3, [7, 11, 86]) :: (132, .iload 4, 2, []) :: (134, .bipush 7, 2, []) :: (136, .iadd, 1, []) :: (137, .dup2, 1, []) :: (138, .iaload, 1, []) :: (139, .aload_n 0, 1, []) :: (140, .getfield 94, 3, [7, 27, 100]) :: (143, .iload_n 3, 1, []) :: (144, .iaload, 1, []) :: (145, .iadd, 1, []) :: (146, .iastore, 1, []) :: (147, .aload_n 0, 1, []) :: (148, .getfield 64, 3, [7, 11, 86]) :: (151, .iload 4, 2, []) :: (153, .iconst 2, 1, []) :: (154, .iadd, 1, []) :: (155, .iaload, 1, []) :: (156, .aload_n 0, 1, []) :: (157, .getfield 64, 3, [7, 11, 86]) :: (160, .iload 4, 2, []) :: (162, .iconst 1, 1, []) :: (163, .iadd, 1, []) :: (164, .iaload, 1, []) :: (165, .if_icmp .le 21, 3, [186]) :: (168, .aload_n 0, 1, []) :: (169, .getfield 64, 3, [7, 11, 86]) :: (172, .iload 4, 2, []) :: (174, .iconst 2, 1, []) :: (175, .iadd, 1, []) :: (176, .aload_n 0, 1, []) :: (177, .getfield 64, 3, [7, 11, 86]) :: (180, .iload 4, 2, []) :: (182, .iconst 1, 1, []) :: (183, .iadd, 1, []) :: (184, .iaload, 1, []) :: (185, .iastore, 1, []) :: ((186, .nop, 0, [1, 1, 1, 1, 1]) :: ks_X7_run_186)
def ks_X7_run_78 : List bc_En := (78, .iconst 0, 1, []) :: (79, .istore_n 3, 1, []) :: ((80, .nop, 0, [1, 1, 1, 1, 0]) :: ks_X7_run_80)
def ks_X7_run_72 : List bc_En := (72, .iinc 3 1, 3, []) :: (75, .goto (-44), 3, [31, 1, 1, 1, 1, 0]) :: ((78, .nop, 0, [1, 1, 1, 0, 0]) :: ks_X7_run_78)
def ks_X7_run_31 : List bc_En := (31, .iload_n 3, 1, []) :: (32, .aload_n 0, 1, []) :: (33, .getfield 64, 3, [7, 11, 86]) :: (36, .iconst 0, 1, []) :: (37, .iaload, 1, []) :: (38, .if_icmp .ge 40, 3, [78]) :: (41, .iload_n 1, 1, []) :: (42, .iload_n 3, 1, []) :: (43, .invokestatic 165, 3, [82, 83, 2]) :: (46, .ifCond .eq 26, 3, [72]) :: (49, .aload_n 0, 1, []) :: (50, .getfield 64, 3, [7, 11, 86]) :: (53, .bipush 7, 2, []) :: (55, .bipush 9, 2, []) :: (57, .iload_n 3, 1, []) :: (58, .imul, 1, []) :: (59, .iadd, 1, []) :: (60, .bipush 8, 2, []) :: (62, .iadd, 1, []) :: (63, .dup2, 1, []) :: (64, .iaload, 1, []) :: (65, .aload_n 0, 1, []) :: (66, .iload_n 3, 1, []) :: (67, .invokevirtual 212, 3, [133, 94, 1, 7]) :: (70, .ior, 1, []) :: (71, .iastore, 1, []) :: ((72, .nop, 0, [1, 1, 1, 1, 0]) :: ks_X7_run_72)
def k_X7_run : List bc_En := (0, .aload_n 0, 1, []) :: (1, .iconst 0, 1, []) :: (2, .putfield 1, 3, [7, 0, 74]) :: (5, .aload_n 0, 1, []) :: (6, .invokevirtual 197, 3, [117, 89, 0, 7]) :: (9, .aload_n 0, 1, []) :: (10, .getfield 178, 3, [7, 25, 98]) :: (13, .istore_n 1, 1, []) :: (14, .aload_n 0, 1, []) :: (15, .getfield 181, 3, [7, 26, 99]) :: (18, .istore_n 2, 1, []) :: (19, .iload_n 2, 1, []) :: (20, .ifCond .ne 5, 3, [25]) :: (23, .iconst 0, 1, []) :: (24, .ireturn, 1, [0]) :: (25, .aload_n 0, 1, []) :: (26, .invokevirtual 206, 3, [127, 92, 0, 7]) :: (29, .iconst 0, 1, []) :: (30, .istore_n 3, 1, []) :: ((31, .nop, 0, [1, 1, 1, 1, 0]) :: ks_X7_run_31)
theorem ck_X7_run : bc_code 134 k_X7_run = true := by decide +kernel
set_option maxRecDepth 20000 in
theorem at_X7_run_31 {d : Nat} {post : Option bc_AV → bc_AH → Prop} {loc : List (Option bc_AV)} {st : List bc_AV} {h : bc_AH} (q : bc_vc d 134 post ks_X7_run_31 none false loc st h) : bc_AT d 134 post 31 loc st h := bc_atF ck_X7_run (by rfl) q
set_option maxRecDepth 20000 in
theorem at_X7_run_72 {d : Nat} {post : Option bc_AV → bc_AH → Prop} {loc : List (Option bc_AV)} {st : List bc_AV} {h : bc_AH} (q : bc_vc d 134 post ks_X7_run_72 none false loc st h) : bc_AT d 134 post 72 loc st h := bc_atF ck_X7_run (by rfl) q
set_option maxRecDepth 20000 in
theorem at_X7_run_78 {d : Nat} {post : Option bc_AV → bc_AH → Prop} {loc : List (Option bc_AV)} {st : List bc_AV} {h : bc_AH} (q : bc_vc d 134 post ks_X7_run_78 none false loc st h) : bc_AT d 134 post 78 loc st h := bc_atF ck_X7_run (by rfl) q
set_option maxRecDepth 20000 in
theorem at_X7_run_80 {d : Nat} {post : Option bc_AV → bc_AH → Prop} {loc : List (Option bc_AV)} {st : List bc_AV} {h : bc_AH} (q : bc_vc d 134 post ks_X7_run_80 none false loc st h) : bc_AT d 134 post 80 loc st h := bc_atF ck_X7_run (by rfl) q
set_option maxRecDepth 20000 in
theorem at_X7_run_186 {d : Nat} {post : Option bc_AV → bc_AH → Prop} {loc : List (Option bc_AV)} {st : List bc_AV} {h : bc_AH} (q : bc_vc d 134 post ks_X7_run_186 none false loc st h) : bc_AT d 134 post 186 loc st h := bc_atF ck_X7_run (by rfl) q
set_option maxRecDepth 20000 in
theorem at_X7_run_208 {d : Nat} {post : Option bc_AV → bc_AH → Prop} {loc : List (Option bc_AV)} {st : List bc_AV} {h : bc_AH} (q : bc_vc d 134 post ks_X7_run_208 none false loc st h) : bc_AT d 134 post 208 loc st h := bc_atF ck_X7_run (by rfl) q
set_option maxRecDepth 20000 in
theorem at_X7_run_214 {d : Nat} {post : Option bc_AV → bc_AH → Prop} {loc : List (Option bc_AV)} {st : List bc_AV} {h : bc_AH} (q : bc_vc d 134 post ks_X7_run_214 none false loc st h) : bc_AT d 134 post 214 loc st h := bc_atF ck_X7_run (by rfl) q
def ks_X7_undo_26 : List bc_En := (26, .iload_n 1, 1, []) :: (27, .sipush 223, 3, []) :: (30, .if_icmp .ge 30, 3, [60]) :: (33, .aload_n 0, 1, []) :: (34, .getfield 64, 3, [7, 11, 86]) :: (37, .iload_n 1, 1, []) :: (38, .aload_n 0, 1, []) :: (39, .getfield 70, 3, [7, 13, 101]) :: (42, .sipush 223, 3, []) :: (45, .aload_n 0, 1, []) :: (46, .getfield 132, 3, [7, 14, 87]) :: (49, .imul, 1, []) :: (50, .iload_n 1, 1, []) :: (51, .iadd, 1, []) :: (52, .iaload, 1, []) :: (53, .iastore, 1, []) :: (54, .iinc 1 1, 3, []) :: (57, .goto (-31), 3, [26, 1, 1]) :: (60, .aload_n 0, 1, []) :: (61, .getfield 132, 3, [7, 14, 87]) :: (64, .ireturn, 1, [0]) :: []
def k_X7_undo : List bc_En := (0, .aload_n 0, 1, []) :: (1, .iconst 0, 1, []) :: (2, .putfield 1, 3, [7, 0, 74]) :: (5, .aload_n 0, 1, []) :: (6, .getfield 132, 3, [7, 14, 87]) :: (9, .ifCond .ne 5, 3, [14]) :: (12, .iconst (-1), 1, []) :: (13, .ireturn, 1, [0]) :: (14, .aload_n 0, 1, []) :: (15, .dup, 1, []) :: (16, .getfield 132, 3, [7, 14, 87]) :: (19, .iconst 1, 1, []) :: (20, .isub, 1, []) :: (21, .putfield 132, 3, [7, 14, 87]) :: (24, .iconst 0, 1, []) :: (25, .istore_n 1, 1, []) :: ((26, .nop, 0, [1, 1]) :: ks_X7_undo_26)
theorem ck_X7_undo : bc_code 135 k_X7_undo = true := by decide +kernel
set_option maxRecDepth 20000 in
theorem at_X7_undo_26 {d : Nat} {post : Option bc_AV → bc_AH → Prop} {loc : List (Option bc_AV)} {st : List bc_AV} {h : bc_AH} (q : bc_vc d 135 post ks_X7_undo_26 none false loc st h) : bc_AT d 135 post 26 loc st h := bc_atF ck_X7_undo (by rfl) q
def k_J6_bitCount_0f7a4 : List bc_En := [(0, .iload_n 0, 1, []), (1, .iload_n 0, 1, []), (2, .iconst 1, 1, []), (3, .iushr, 1, []), (4, .ldc_w 265, 3, [630, 1431655765]), (7, .iand, 1, []), (8, .isub, 1, []), (9, .istore_n 0, 1, []), (10, .iload_n 0, 1, []), (11, .ldc_w 266, 3, [631, 858993459]), (14, .iand, 1, []), (15, .iload_n 0, 1, []), (16, .iconst 2, 1, []), (17, .iushr, 1, []), (18, .ldc_w 266, 3, [631, 858993459]), (21, .iand, 1, []), (22, .iadd, 1, []), (23, .istore_n 0, 1, []), (24, .iload_n 0, 1, []), (25, .iload_n 0, 1, []), (26, .iconst 4, 1, []), (27, .iushr, 1, []), (28, .iadd, 1, []), (29, .ldc_w 267, 3, [632, 252645135]), (32, .iand, 1, []), (33, .istore_n 0, 1, []), (34, .iload_n 0, 1, []), (35, .iload_n 0, 1, []), (36, .bipush 8, 2, []), (38, .iushr, 1, []), (39, .iadd, 1, []), (40, .istore_n 0, 1, []), (41, .iload_n 0, 1, []), (42, .iload_n 0, 1, []), (43, .bipush 16, 2, []), (45, .iushr, 1, []), (46, .iadd, 1, []), (47, .istore_n 0, 1, []), (48, .iload_n 0, 1, []), (49, .bipush 63, 2, []), (51, .iand, 1, []), (52, .ireturn, 1, [0])]
theorem ck_J6_bitCount_0f7a4 : bc_code 136 k_J6_bitCount_0f7a4 = true := by decide +kernel
end
section
/-! the reference: laysVolumes -/
def pd_fl (L0 L1 : Nat → Int) : Nat → Int
  | 0 => if pd_t6 L1 > pd_t6 L0 then pd_t6 L1 else pd_t6 L0
  | f + 1 => if L1 f + L0 f > pd_fl L0 L1 f then L1 f + L0 f else pd_fl L0 L1 f
theorem pd_fl_le {L0 L1 : Nat → Int} {x : Int} : ∀ n, pd_fl L0 L1 n ≤ x ↔ pd_t6 L0 ≤ x ∧ pd_t6 L1 ≤ x ∧ ∀ f, f < n → L0 f + L1 f ≤ x := by
  intro n
  induction n with
  | zero =>
    rw [pd_fl]
    constructor
    · intro h; split at h <;> exact ⟨by omega, by omega, fun f hf => by omega⟩
    · intro h; split <;> omega
  | succ n ih =>
    rw [pd_fl]
    constructor
    · intro h
      have h2 : pd_fl L0 L1 n ≤ x := by split at h <;> omega
      obtain ⟨a, b, c⟩ := ih.mp h2
      refine ⟨a, b, fun f hf => ?_⟩
      by_cases e : f = n
      · subst e; split at h <;> omega
      · exact c f (by omega)
    · intro h
      have := ih.mpr ⟨h.1, h.2.1, fun f hf => h.2.2 f (by omega)⟩
      have := h.2.2 n (by omega)
      split <;> omega
/-- the four rows of sums -/
def pd_MG (L0 L1 H0 H1 : Nat → Int) (h : bc_AH) : Prop := ∀ f : Nat, f < 6 → h 114 f = L0 f ∧ h 112 f = L1 f ∧ h 115 f = H0 f ∧ h 113 f = H1 f
section MVol
variable {d : Nat} {h : bc_AH} {post : Option bc_AV → bc_AH → Prop} {D : Nat → Int}
variable {L0 L1 H0 H1 : Nat → Int}
-- the last loop, from behind: 'may' is on the stack
theorem l7_vol_362 {i : Nat} {x : Int} (k : bc_AT (d + 1) 113 post 225 [some (.inr (.inr 104)), none, some (.inl (pd_t6 H1)), some (.inl (pd_t6 H0)), some (.inl x), some (.inl ((i : Int) + 1)), none, none] [] h) : bc_AT (d + 1) 113 post 362 [some (.inr (.inr 104)), none, some (.inl (pd_t6 H1)), some (.inl (pd_t6 H0)), none, some (.inl (i : Int)), none, none] [.inl x] h := by
  refine at_X7_laysVolumes_362 ?_
  simp only [ks_X7_laysVolumes_362, ↓vl_iconst, ↓vl_bipush, ↓vl_sipush, ↓vl_lconst, ↓vl_ldc, ↓vl_ldcw, ↓vl_ldc2, ↓vl_iload0, ↓vl_aload0, ↓vl_istore0, ↓vl_iinc0, ↓vl_iload1, ↓vl_aload1, ↓vl_istore1, ↓vl_iinc1, ↓vl_iload2, ↓vl_aload2, ↓vl_istore2, ↓vl_iinc2, ↓vl_iload3, ↓vl_aload3, ↓vl_istore3, ↓vl_iinc3, ↓vl_iload4, ↓vl_istore4, ↓vl_iinc4, ↓vl_iload5, ↓vl_istore5, ↓vl_iinc5, ↓vl_iload6, ↓vl_istore6, ↓vl_iinc6, ↓vl_iload7, ↓vl_istore7, ↓vl_iinc7, ↓vl_lload5, ↓vl_lstore5, ↓vl_iadd, ↓vl_isub, ↓vl_imul, ↓vl_iand, ↓vl_ior, ↓vl_ixor, ↓vl_ishl, ↓vl_ishr, ↓vl_iushr, ↓vl_idiv, ↓vl_irem, ↓vl_ladd, ↓vl_lsub, ↓vl_lmul, ↓vl_lcmp, ↓vl_i2l, ↓vl_dup, ↓vl_dup2, ↓vl_gotoF, ↓vl_gotoB, ↓vl_nnF, ↓vl_ic_eqF, ↓vl_if_eqF, ↓vl_ic_eqB, ↓vl_if_eqB, ↓vl_ic_neF, ↓vl_if_neF, ↓vl_ic_neB, ↓vl_if_neB, ↓vl_ic_ltF, ↓vl_if_ltF, ↓vl_ic_ltB, ↓vl_if_ltB, ↓vl_ic_geF, ↓vl_if_geF, ↓vl_ic_geB, ↓vl_if_geB, ↓vl_ic_gtF, ↓vl_if_gtF, ↓vl_ic_gtB, ↓vl_if_gtB, ↓vl_ic_leF, ↓vl_if_leF, ↓vl_ic_leB, ↓vl_if_leB, ↓vl_sw, ↓vl_get, ↓vl_putI, ↓vl_putL, ↓vl_iald, ↓vl_iast, ↓vl_alen, ↓vl_aald, ↓vl_iretI, ↓vl_iretZ, ↓vl_ret, ↓vl_mark, ↓vl_markT, ↓vl_skip, ↓vl_st0, ↓vl_vi0, ↓vl_st1, ↓vl_vi1, ↓vl_st2, ↓vl_vi2, ↓vl_st3, ↓vl_vi3, ↓vl_st4, ↓vl_vi4, ↓vl_st5, ↓vl_vi5, ↓vl_st6, ↓vl_vi6, ↓vl_min, ↓vl_max, ↓vl_cpy, ↓vk_kvs, ↓vk_kvn, ↓vk_gf0, ↓vk_gv0, ↓vk_gv1, ↓vk_gv2, ↓vk_pf, ↓vk_ar, ↓vk_arr, bc_lay, bc_fn, bc_mk, bc_cs, bc_cat, bc_nl, bc_nth, bc_en, bc_sw, true_and, and_true, ↓reduceIte, reduceCtorEq, Nat.reduceEqDiff, Nat.reduceLeDiff, Nat.reduceAdd, Nat.le_refl, Nat.zero_le, Int.cast_ofNat_Int, Int.reduceEq, eq_self, true_implies, false_implies, not_true_eq_false, not_false_eq_true, bc_vr, Int.reduceToNat, Int.toNat_natCast, Int.reduceLE, Int.reduceLT, Int.reduceNeg, true_or, or_true, forall_const, Int.reduceAdd]
  exact k
-- the new ceiling is on the stack
theorem l7_vol_311 (hG : pd_MG L0 L1 H0 H1 h) (b0 : pd_bd L0) (b1 : pd_bd L1) (b2 : pd_bd H0) (b3 : pd_bd H1) {i : Nat} (hi : i < 6) {c : Int} (k : bc_AT (d + 1) 113 post 225 [some (.inr (.inr 104)), none, some (.inl (pd_t6 H1)), some (.inl (pd_t6 H0)), some (.inl (if pd_my L0 L1 H0 H1 (i + 1) then 1 else 0)), some (.inl ((i : Int) + 1)), none, none] [] (bc_up h 104 24 c)) : bc_AT (d + 1) 113 post 311 [some (.inr (.inr 104)), none, some (.inl (pd_t6 H1)), some (.inl (pd_t6 H0)), some (.inl (if pd_my L0 L1 H0 H1 i then 1 else 0)), some (.inl (i : Int)), none, none] [.inl c, .inr (.inr 104)] h := by
  have t2 := pd_bd_t6 b2
  have t3 := pd_bd_t6 b3
  have v0 := b0 i hi
  have v1 := b1 i hi
  have v2 := b2 i hi
  have v3 := b3 i hi
  obtain ⟨g1, g2, g3, g4⟩ := hG i hi
  have u1 : bc_up h 104 24 c 114 i = L0 i := by simp [bc_up, g1]
  have u2 : bc_up h 104 24 c 112 i = L1 i := by simp [bc_up, g2]
  have u3 : bc_up h 104 24 c 115 i = H0 i := by simp [bc_up, g3]
  have u4 : bc_up h 104 24 c 113 i = H1 i := by simp [bc_up, g4]
  refine at_X7_laysVolumes_311 ?_
  rw [pd_my] at k
  by_cases hm : pd_my L0 L1 H0 H1 i = true
  · simp only [ks_X7_laysVolumes_311, ks_X7_laysVolumes_362, ↓vl_iconst, ↓vl_bipush, ↓vl_sipush, ↓vl_lconst, ↓vl_ldc, ↓vl_ldcw, ↓vl_ldc2, ↓vl_iload0, ↓vl_aload0, ↓vl_istore0, ↓vl_iinc0, ↓vl_iload1, ↓vl_aload1, ↓vl_istore1, ↓vl_iinc1, ↓vl_iload2, ↓vl_aload2, ↓vl_istore2, ↓vl_iinc2, ↓vl_iload3, ↓vl_aload3, ↓vl_istore3, ↓vl_iinc3, ↓vl_iload4, ↓vl_istore4, ↓vl_iinc4, ↓vl_iload5, ↓vl_istore5, ↓vl_iinc5, ↓vl_iload6, ↓vl_istore6, ↓vl_iinc6, ↓vl_iload7, ↓vl_istore7, ↓vl_iinc7, ↓vl_lload5, ↓vl_lstore5, ↓vl_iadd, ↓vl_isub, ↓vl_imul, ↓vl_iand, ↓vl_ior, ↓vl_ixor, ↓vl_ishl, ↓vl_ishr, ↓vl_iushr, ↓vl_idiv, ↓vl_irem, ↓vl_ladd, ↓vl_lsub, ↓vl_lmul, ↓vl_lcmp, ↓vl_i2l, ↓vl_dup, ↓vl_dup2, ↓vl_gotoF, ↓vl_gotoB, ↓vl_nnF, ↓vl_ic_eqF, ↓vl_if_eqF, ↓vl_ic_eqB, ↓vl_if_eqB, ↓vl_ic_neF, ↓vl_if_neF, ↓vl_ic_neB, ↓vl_if_neB, ↓vl_ic_ltF, ↓vl_if_ltF, ↓vl_ic_ltB, ↓vl_if_ltB, ↓vl_ic_geF, ↓vl_if_geF, ↓vl_ic_geB, ↓vl_if_geB, ↓vl_ic_gtF, ↓vl_if_gtF, ↓vl_ic_gtB, ↓vl_if_gtB, ↓vl_ic_leF, ↓vl_if_leF, ↓vl_ic_leB, ↓vl_if_leB, ↓vl_sw, ↓vl_get, ↓vl_putI, ↓vl_putL, ↓vl_iald, ↓vl_iast, ↓vl_alen, ↓vl_aald, ↓vl_iretI, ↓vl_iretZ, ↓vl_ret, ↓vl_mark, ↓vl_markT, ↓vl_skip, ↓vl_st0, ↓vl_vi0, ↓vl_st1, ↓vl_vi1, ↓vl_st2, ↓vl_vi2, ↓vl_st3, ↓vl_vi3, ↓vl_st4, ↓vl_vi4, ↓vl_st5, ↓vl_vi5, ↓vl_st6, ↓vl_vi6, ↓vl_min, ↓vl_max, ↓vl_cpy, ↓vk_kvs, ↓vk_kvn, ↓vk_gf0, ↓vk_gv0, ↓vk_gv1, ↓vk_gv2, ↓vk_pf, ↓vk_ar, ↓vk_arr, bc_lay, bc_fn, bc_mk, bc_cs, bc_cat, bc_nl, bc_nth, bc_en, bc_sw, true_and, and_true, ↓reduceIte, reduceCtorEq, Nat.reduceEqDiff, Nat.reduceLeDiff, Nat.reduceAdd, Nat.le_refl, Nat.zero_le, Int.cast_ofNat_Int, Int.reduceEq, eq_self, true_implies, false_implies, not_true_eq_false, not_false_eq_true, bc_vr, Int.reduceToNat, Int.toNat_natCast, Int.reduceLE, Int.reduceLT, Int.reduceNeg, true_or, or_true, forall_const, Int.reduceAdd, hm, if_true, u1, u2, u3, u4]
    refine ⟨by omega, by omega, by omega, by omega, ⟨by omega, by omega⟩, ⟨by omega, by omega⟩, fun c1 => ?_, fun c1 => ⟨by omega, by omega, by omega, by omega, ⟨by omega, by omega⟩, ⟨by omega, by omega⟩, fun c2 => ?_, fun c2 => ?_⟩⟩
    · have e : (pd_my L0 L1 H0 H1 i && (decide (L0 i ≤ pd_t6 H1 - H1 i) && decide (L1 i ≤ pd_t6 H0 - H0 i))) = false := by
        rw [decide_eq_false (by omega)]; simp
      rw [e] at k
      exact l7_vol_362 k
    · have e : (pd_my L0 L1 H0 H1 i && (decide (L0 i ≤ pd_t6 H1 - H1 i) && decide (L1 i ≤ pd_t6 H0 - H0 i))) = false := by
        rw [decide_eq_false (p := L1 i ≤ _) (by omega)]; simp
      rw [e] at k
      exact l7_vol_362 k
    · have e : (pd_my L0 L1 H0 H1 i && (decide (L0 i ≤ pd_t6 H1 - H1 i) && decide (L1 i ≤ pd_t6 H0 - H0 i))) = true := by
        rw [hm, decide_eq_true (p := L0 i ≤ _) (by omega), decide_eq_true (p := L1 i ≤ _) (by omega)]; rfl
      rw [e] at k
      exact l7_vol_362 k
  · have hm' : pd_my L0 L1 H0 H1 i = false := by simpa using hm
    rw [hm', Bool.false_and] at k
    simp only [ks_X7_laysVolumes_311, ks_X7_laysVolumes_362, ↓vl_iconst, ↓vl_bipush, ↓vl_sipush, ↓vl_lconst, ↓vl_ldc, ↓vl_ldcw, ↓vl_ldc2, ↓vl_iload0, ↓vl_aload0, ↓vl_istore0, ↓vl_iinc0, ↓vl_iload1, ↓vl_aload1, ↓vl_istore1, ↓vl_iinc1, ↓vl_iload2, ↓vl_aload2, ↓vl_istore2, ↓vl_iinc2, ↓vl_iload3, ↓vl_aload3, ↓vl_istore3, ↓vl_iinc3, ↓vl_iload4, ↓vl_istore4, ↓vl_iinc4, ↓vl_iload5, ↓vl_istore5, ↓vl_iinc5, ↓vl_iload6, ↓vl_istore6, ↓vl_iinc6, ↓vl_iload7, ↓vl_istore7, ↓vl_iinc7, ↓vl_lload5, ↓vl_lstore5, ↓vl_iadd, ↓vl_isub, ↓vl_imul, ↓vl_iand, ↓vl_ior, ↓vl_ixor, ↓vl_ishl, ↓vl_ishr, ↓vl_iushr, ↓vl_idiv, ↓vl_irem, ↓vl_ladd, ↓vl_lsub, ↓vl_lmul, ↓vl_lcmp, ↓vl_i2l, ↓vl_dup, ↓vl_dup2, ↓vl_gotoF, ↓vl_gotoB, ↓vl_nnF, ↓vl_ic_eqF, ↓vl_if_eqF, ↓vl_ic_eqB, ↓vl_if_eqB, ↓vl_ic_neF, ↓vl_if_neF, ↓vl_ic_neB, ↓vl_if_neB, ↓vl_ic_ltF, ↓vl_if_ltF, ↓vl_ic_ltB, ↓vl_if_ltB, ↓vl_ic_geF, ↓vl_if_geF, ↓vl_ic_geB, ↓vl_if_geB, ↓vl_ic_gtF, ↓vl_if_gtF, ↓vl_ic_gtB, ↓vl_if_gtB, ↓vl_ic_leF, ↓vl_if_leF, ↓vl_ic_leB, ↓vl_if_leB, ↓vl_sw, ↓vl_get, ↓vl_putI, ↓vl_putL, ↓vl_iald, ↓vl_iast, ↓vl_alen, ↓vl_aald, ↓vl_iretI, ↓vl_iretZ, ↓vl_ret, ↓vl_mark, ↓vl_markT, ↓vl_skip, ↓vl_st0, ↓vl_vi0, ↓vl_st1, ↓vl_vi1, ↓vl_st2, ↓vl_vi2, ↓vl_st3, ↓vl_vi3, ↓vl_st4, ↓vl_vi4, ↓vl_st5, ↓vl_vi5, ↓vl_st6, ↓vl_vi6, ↓vl_min, ↓vl_max, ↓vl_cpy, ↓vk_kvs, ↓vk_kvn, ↓vk_gf0, ↓vk_gv0, ↓vk_gv1, ↓vk_gv2, ↓vk_pf, ↓vk_ar, ↓vk_arr, bc_lay, bc_fn, bc_mk, bc_cs, bc_cat, bc_nl, bc_nth, bc_en, bc_sw, true_and, and_true, ↓reduceIte, reduceCtorEq, Nat.reduceEqDiff, Nat.reduceLeDiff, Nat.reduceAdd, Nat.le_refl, Nat.zero_le, Int.cast_ofNat_Int, Int.reduceEq, eq_self, true_implies, false_implies, not_true_eq_false, not_false_eq_true, bc_vr, Int.reduceToNat, Int.toNat_natCast, Int.reduceLE, Int.reduceLT, Int.reduceNeg, true_or, or_true, forall_const, Int.reduceAdd, hm', if_false, Bool.false_eq_true]
    exact l7_vol_362 k
end MVol
end
section
section MVol
variable {d : Nat} {h : bc_AH} {post : Option bc_AV → bc_AH → Prop} {D : Nat → Int}
variable {L0 L1 H0 H1 : Nat → Int}
-- the new floor is on the stack
theorem l7_vol_289 (hG : pd_MG L0 L1 H0 H1 h) (b0 : pd_bd L0) (b1 : pd_bd L1) (b2 : pd_bd H0) (b3 : pd_bd H1) {i : Nat} (hi : i < 6) (h24 : h 104 24 = pd_ce H0 H1 i) {x : Int} (k : bc_AT (d + 1) 113 post 225 [some (.inr (.inr 104)), none, some (.inl (pd_t6 H1)), some (.inl (pd_t6 H0)), some (.inl (if pd_my L0 L1 H0 H1 (i + 1) then 1 else 0)), some (.inl ((i : Int) + 1)), none, none] [] (bc_up (bc_up h 104 23 x) 104 24 (pd_ce H0 H1 (i + 1)))) : bc_AT (d + 1) 113 post 289 [some (.inr (.inr 104)), none, some (.inl (pd_t6 H1)), some (.inl (pd_t6 H0)), some (.inl (if pd_my L0 L1 H0 H1 i then 1 else 0)), some (.inl (i : Int)), some (.inl (pd_t6 H1 - H1 i + pd_t6 H0 - H0 i)), none] [.inl x, .inr (.inr 104)] h := by
  have t2 := pd_bd_t6 b2
  have t3 := pd_bd_t6 b3
  have v2 := b2 i hi
  have v3 := b3 i hi
  have cb := pd_ce_bd b2 b3 i (by omega)
  have u24 : bc_up h 104 23 x 104 24 = pd_ce H0 H1 i := by simp [bc_up, h24]
  have hG2 : pd_MG L0 L1 H0 H1 (bc_up h 104 23 x) := fun f hf => by simp [bc_up]; exact hG f hf
  refine at_X7_laysVolumes_289 ?_
  simp only [ks_X7_laysVolumes_289, ks_X7_laysVolumes_311, ↓vl_iconst, ↓vl_bipush, ↓vl_sipush, ↓vl_lconst, ↓vl_ldc, ↓vl_ldcw, ↓vl_ldc2, ↓vl_iload0, ↓vl_aload0, ↓vl_istore0, ↓vl_iinc0, ↓vl_iload1, ↓vl_aload1, ↓vl_istore1, ↓vl_iinc1, ↓vl_iload2, ↓vl_aload2, ↓vl_istore2, ↓vl_iinc2, ↓vl_iload3, ↓vl_aload3, ↓vl_istore3, ↓vl_iinc3, ↓vl_iload4, ↓vl_istore4, ↓vl_iinc4, ↓vl_iload5, ↓vl_istore5, ↓vl_iinc5, ↓vl_iload6, ↓vl_istore6, ↓vl_iinc6, ↓vl_iload7, ↓vl_istore7, ↓vl_iinc7, ↓vl_lload5, ↓vl_lstore5, ↓vl_iadd, ↓vl_isub, ↓vl_imul, ↓vl_iand, ↓vl_ior, ↓vl_ixor, ↓vl_ishl, ↓vl_ishr, ↓vl_iushr, ↓vl_idiv, ↓vl_irem, ↓vl_ladd, ↓vl_lsub, ↓vl_lmul, ↓vl_lcmp, ↓vl_i2l, ↓vl_dup, ↓vl_dup2, ↓vl_gotoF, ↓vl_gotoB, ↓vl_nnF, ↓vl_ic_eqF, ↓vl_if_eqF, ↓vl_ic_eqB, ↓vl_if_eqB, ↓vl_ic_neF, ↓vl_if_neF, ↓vl_ic_neB, ↓vl_if_neB, ↓vl_ic_ltF, ↓vl_if_ltF, ↓vl_ic_ltB, ↓vl_if_ltB, ↓vl_ic_geF, ↓vl_if_geF, ↓vl_ic_geB, ↓vl_if_geB, ↓vl_ic_gtF, ↓vl_if_gtF, ↓vl_ic_gtB, ↓vl_if_gtB, ↓vl_ic_leF, ↓vl_if_leF, ↓vl_ic_leB, ↓vl_if_leB, ↓vl_sw, ↓vl_get, ↓vl_putI, ↓vl_putL, ↓vl_iald, ↓vl_iast, ↓vl_alen, ↓vl_aald, ↓vl_iretI, ↓vl_iretZ, ↓vl_ret, ↓vl_mark, ↓vl_markT, ↓vl_skip, ↓vl_st0, ↓vl_vi0, ↓vl_st1, ↓vl_vi1, ↓vl_st2, ↓vl_vi2, ↓vl_st3, ↓vl_vi3, ↓vl_st4, ↓vl_vi4, ↓vl_st5, ↓vl_vi5, ↓vl_st6, ↓vl_vi6, ↓vl_min, ↓vl_max, ↓vl_cpy, ↓vk_kvs, ↓vk_kvn, ↓vk_gf0, ↓vk_gv0, ↓vk_gv1, ↓vk_gv2, ↓vk_pf, ↓vk_ar, ↓vk_arr, bc_lay, bc_fn, bc_mk, bc_cs, bc_cat, bc_nl, bc_nth, bc_en, bc_sw, true_and, and_true, ↓reduceIte, reduceCtorEq, Nat.reduceEqDiff, Nat.reduceLeDiff, Nat.reduceAdd, Nat.le_refl, Nat.zero_le, Int.cast_ofNat_Int, Int.reduceEq, eq_self, true_implies, false_implies, not_true_eq_false, not_false_eq_true, bc_vr, Int.reduceToNat, Int.toNat_natCast, Int.reduceLE, Int.reduceLT, Int.reduceNeg, true_or, or_true, forall_const, Int.reduceAdd, u24]
  rw [pd_ce] at k
  refine ⟨⟨by omega, by omega⟩, ⟨by omega, by omega⟩, fun c => ?_, fun c => ?_⟩
  · have e : min (pd_ce H0 H1 i) (pd_t6 H0 - H0 i + (pd_t6 H1 - H1 i)) = pd_ce H0 H1 i := by omega
    rw [e] at k
    exact l7_vol_311 hG2 b0 b1 b2 b3 hi k
  · have e : min (pd_ce H0 H1 i) (pd_t6 H0 - H0 i + (pd_t6 H1 - H1 i)) = pd_t6 H1 - H1 i + pd_t6 H0 - H0 i := by omega
    rw [e] at k
    exact l7_vol_311 hG2 b0 b1 b2 b3 hi k
theorem pd_fl_bd (b0 : pd_bd L0) (b1 : pd_bd L1) : ∀ i, i ≤ 6 → 0 ≤ pd_fl L0 L1 i ∧ pd_fl L0 L1 i ≤ 600000 := by
  have t0 := pd_bd_t6 b0
  have t1 := pd_bd_t6 b1
  intro i hi
  refine ⟨?_, (pd_fl_le i).mpr ⟨t0.2, t1.2, fun f hf => ?_⟩⟩
  · have := ((pd_fl_le (L0 := L0) (L1 := L1) (x := pd_fl L0 L1 i) i).mp (Int.le_refl _)).1; omega
  · have := b0 f (by omega); have := b1 f (by omega); omega
theorem l7_vol_370 (b0 : pd_bd L0) (b1 : pd_bd L1) (b2 : pd_bd H0) (b3 : pd_bd H1) (h23 : h 104 23 = pd_fl L0 L1 6) (h24 : h 104 24 = pd_ce H0 H1 6) (kk : post (some (.inl (if (pd_my L0 L1 H0 H1 6 && decide (pd_fl L0 L1 6 ≤ pd_ce H0 H1 6)) = true then 1 else 0))) h) : bc_AT (d + 1) 113 post 370 [some (.inr (.inr 104)), none, none, none, some (.inl (if pd_my L0 L1 H0 H1 6 then 1 else 0)), none, none, none] [] h := by
  have := pd_fl_bd b0 b1 6 (by omega)
  have := pd_ce_bd b2 b3 6 (by omega)
  refine at_X7_laysVolumes_370 ?_
  by_cases hm : pd_my L0 L1 H0 H1 6 = true
  · rw [hm, Bool.true_and] at kk
    simp only [ks_X7_laysVolumes_370, ↓vl_iconst, ↓vl_bipush, ↓vl_sipush, ↓vl_lconst, ↓vl_ldc, ↓vl_ldcw, ↓vl_ldc2, ↓vl_iload0, ↓vl_aload0, ↓vl_istore0, ↓vl_iinc0, ↓vl_iload1, ↓vl_aload1, ↓vl_istore1, ↓vl_iinc1, ↓vl_iload2, ↓vl_aload2, ↓vl_istore2, ↓vl_iinc2, ↓vl_iload3, ↓vl_aload3, ↓vl_istore3, ↓vl_iinc3, ↓vl_iload4, ↓vl_istore4, ↓vl_iinc4, ↓vl_iload5, ↓vl_istore5, ↓vl_iinc5, ↓vl_iload6, ↓vl_istore6, ↓vl_iinc6, ↓vl_iload7, ↓vl_istore7, ↓vl_iinc7, ↓vl_lload5, ↓vl_lstore5, ↓vl_iadd, ↓vl_isub, ↓vl_imul, ↓vl_iand, ↓vl_ior, ↓vl_ixor, ↓vl_ishl, ↓vl_ishr, ↓vl_iushr, ↓vl_idiv, ↓vl_irem, ↓vl_ladd, ↓vl_lsub, ↓vl_lmul, ↓vl_lcmp, ↓vl_i2l, ↓vl_dup, ↓vl_dup2, ↓vl_gotoF, ↓vl_gotoB, ↓vl_nnF, ↓vl_ic_eqF, ↓vl_if_eqF, ↓vl_ic_eqB, ↓vl_if_eqB, ↓vl_ic_neF, ↓vl_if_neF, ↓vl_ic_neB, ↓vl_if_neB, ↓vl_ic_ltF, ↓vl_if_ltF, ↓vl_ic_ltB, ↓vl_if_ltB, ↓vl_ic_geF, ↓vl_if_geF, ↓vl_ic_geB, ↓vl_if_geB, ↓vl_ic_gtF, ↓vl_if_gtF, ↓vl_ic_gtB, ↓vl_if_gtB, ↓vl_ic_leF, ↓vl_if_leF, ↓vl_ic_leB, ↓vl_if_leB, ↓vl_sw, ↓vl_get, ↓vl_putI, ↓vl_putL, ↓vl_iald, ↓vl_iast, ↓vl_alen, ↓vl_aald, ↓vl_iretI, ↓vl_iretZ, ↓vl_ret, ↓vl_mark, ↓vl_markT, ↓vl_skip, ↓vl_st0, ↓vl_vi0, ↓vl_st1, ↓vl_vi1, ↓vl_st2, ↓vl_vi2, ↓vl_st3, ↓vl_vi3, ↓vl_st4, ↓vl_vi4, ↓vl_st5, ↓vl_vi5, ↓vl_st6, ↓vl_vi6, ↓vl_min, ↓vl_max, ↓vl_cpy, ↓vk_kvs, ↓vk_kvn, ↓vk_gf0, ↓vk_gv0, ↓vk_gv1, ↓vk_gv2, ↓vk_pf, ↓vk_ar, ↓vk_arr, bc_lay, bc_fn, bc_mk, bc_cs, bc_cat, bc_nl, bc_nth, bc_en, bc_sw, true_and, and_true, ↓reduceIte, reduceCtorEq, Nat.reduceEqDiff, Nat.reduceLeDiff, Nat.reduceAdd, Nat.le_refl, Nat.zero_le, Int.cast_ofNat_Int, Int.reduceEq, eq_self, true_implies, false_implies, not_true_eq_false, not_false_eq_true, bc_vr, Int.reduceToNat, Int.toNat_natCast, Int.reduceLE, Int.reduceLT, Int.reduceNeg, true_or, or_true, forall_const, Int.reduceAdd, hm, h23, h24]
    refine ⟨⟨by omega, by omega⟩, ⟨by omega, by omega⟩, fun c => ?_, fun c => ?_⟩
    · rw [decide_eq_false (by omega)] at kk; exact kk
    · rw [decide_eq_true (by omega)] at kk; exact kk
  · have hm' : pd_my L0 L1 H0 H1 6 = false := by simpa using hm
    rw [hm', Bool.false_and] at kk
    simp only [ks_X7_laysVolumes_370, ↓vl_iconst, ↓vl_bipush, ↓vl_sipush, ↓vl_lconst, ↓vl_ldc, ↓vl_ldcw, ↓vl_ldc2, ↓vl_iload0, ↓vl_aload0, ↓vl_istore0, ↓vl_iinc0, ↓vl_iload1, ↓vl_aload1, ↓vl_istore1, ↓vl_iinc1, ↓vl_iload2, ↓vl_aload2, ↓vl_istore2, ↓vl_iinc2, ↓vl_iload3, ↓vl_aload3, ↓vl_istore3, ↓vl_iinc3, ↓vl_iload4, ↓vl_istore4, ↓vl_iinc4, ↓vl_iload5, ↓vl_istore5, ↓vl_iinc5, ↓vl_iload6, ↓vl_istore6, ↓vl_iinc6, ↓vl_iload7, ↓vl_istore7, ↓vl_iinc7, ↓vl_lload5, ↓vl_lstore5, ↓vl_iadd, ↓vl_isub, ↓vl_imul, ↓vl_iand, ↓vl_ior, ↓vl_ixor, ↓vl_ishl, ↓vl_ishr, ↓vl_iushr, ↓vl_idiv, ↓vl_irem, ↓vl_ladd, ↓vl_lsub, ↓vl_lmul, ↓vl_lcmp, ↓vl_i2l, ↓vl_dup, ↓vl_dup2, ↓vl_gotoF, ↓vl_gotoB, ↓vl_nnF, ↓vl_ic_eqF, ↓vl_if_eqF, ↓vl_ic_eqB, ↓vl_if_eqB, ↓vl_ic_neF, ↓vl_if_neF, ↓vl_ic_neB, ↓vl_if_neB, ↓vl_ic_ltF, ↓vl_if_ltF, ↓vl_ic_ltB, ↓vl_if_ltB, ↓vl_ic_geF, ↓vl_if_geF, ↓vl_ic_geB, ↓vl_if_geB, ↓vl_ic_gtF, ↓vl_if_gtF, ↓vl_ic_gtB, ↓vl_if_gtB, ↓vl_ic_leF, ↓vl_if_leF, ↓vl_ic_leB, ↓vl_if_leB, ↓vl_sw, ↓vl_get, ↓vl_putI, ↓vl_putL, ↓vl_iald, ↓vl_iast, ↓vl_alen, ↓vl_aald, ↓vl_iretI, ↓vl_iretZ, ↓vl_ret, ↓vl_mark, ↓vl_markT, ↓vl_skip, ↓vl_st0, ↓vl_vi0, ↓vl_st1, ↓vl_vi1, ↓vl_st2, ↓vl_vi2, ↓vl_st3, ↓vl_vi3, ↓vl_st4, ↓vl_vi4, ↓vl_st5, ↓vl_vi5, ↓vl_st6, ↓vl_vi6, ↓vl_min, ↓vl_max, ↓vl_cpy, ↓vk_kvs, ↓vk_kvn, ↓vk_gf0, ↓vk_gv0, ↓vk_gv1, ↓vk_gv2, ↓vk_pf, ↓vk_ar, ↓vk_arr, bc_lay, bc_fn, bc_mk, bc_cs, bc_cat, bc_nl, bc_nth, bc_en, bc_sw, true_and, and_true, ↓reduceIte, reduceCtorEq, Nat.reduceEqDiff, Nat.reduceLeDiff, Nat.reduceAdd, Nat.le_refl, Nat.zero_le, Int.cast_ofNat_Int, Int.reduceEq, eq_self, true_implies, false_implies, not_true_eq_false, not_false_eq_true, bc_vr, Int.reduceToNat, Int.toNat_natCast, Int.reduceLE, Int.reduceLT, Int.reduceNeg, true_or, or_true, forall_const, Int.reduceAdd, hm', Bool.false_eq_true]
    exact kk
end MVol
end
section
section MVol
variable {d : Nat} {h : bc_AH} {post : Option bc_AV → bc_AH → Prop} {D : Nat → Int}
variable {L0 L1 H0 H1 : Nat → Int}
set_option maxRecDepth 20000 in
theorem l7_vol_225 (b0 : pd_bd L0) (b1 : pd_bd L1) (b2 : pd_bd H0) (b3 : pd_bd H1) {h0 : bc_AH}
    (kk : ∀ (h' : bc_AH) (b : Bool), b = (pd_my L0 L1 H0 H1 6 && decide (pd_fl L0 L1 6 ≤ pd_ce H0 H1 6)) → h' 104 23 = pd_fl L0 L1 6 → h' 104 24 = pd_ce H0 H1 6 → (∀ j : Nat, j ≠ 23 → j ≠ 24 → h' 104 j = h0 104 j) → (∀ c : Nat, c ≠ 104 → (c < 112 ∨ 115 < c) → h' c = h0 c) → post (some (.inl (if b then 1 else 0))) h') :
    ∀ (n i : Nat) (h : bc_AH), i + n = 6 → pd_MG L0 L1 H0 H1 h → h 104 23 = pd_fl L0 L1 i → h 104 24 = pd_ce H0 H1 i → (∀ j : Nat, j ≠ 23 → j ≠ 24 → h 104 j = h0 104 j) → (∀ c : Nat, c ≠ 104 → (c < 112 ∨ 115 < c) → h c = h0 c) → bc_AT (d + 1) 113 post 225 [some (.inr (.inr 104)), none, some (.inl (pd_t6 H1)), some (.inl (pd_t6 H0)), some (.inl (if pd_my L0 L1 H0 H1 i then 1 else 0)), some (.inl (i : Int)), none, none] [] h := by
  have t2 := pd_bd_t6 b2
  have t3 := pd_bd_t6 b3
  intro n
  induction n with
  | zero =>
    intro i h hi hG h23 h24 hf1 hf2
    have e : i = 6 := by omega
    subst e
    have := pd_fl_bd b0 b1 6 (by omega)
    have := pd_ce_bd b2 b3 6 (by omega)
    refine at_X7_laysVolumes_225 ?_
    simp only [ks_X7_laysVolumes_225, ks_X7_laysVolumes_289, ks_X7_laysVolumes_311, ks_X7_laysVolumes_362, ↓vl_iconst, ↓vl_bipush, ↓vl_sipush, ↓vl_lconst, ↓vl_ldc, ↓vl_ldcw, ↓vl_ldc2, ↓vl_iload0, ↓vl_aload0, ↓vl_istore0, ↓vl_iinc0, ↓vl_iload1, ↓vl_aload1, ↓vl_istore1, ↓vl_iinc1, ↓vl_iload2, ↓vl_aload2, ↓vl_istore2, ↓vl_iinc2, ↓vl_iload3, ↓vl_aload3, ↓vl_istore3, ↓vl_iinc3, ↓vl_iload4, ↓vl_istore4, ↓vl_iinc4, ↓vl_iload5, ↓vl_istore5, ↓vl_iinc5, ↓vl_iload6, ↓vl_istore6, ↓vl_iinc6, ↓vl_iload7, ↓vl_istore7, ↓vl_iinc7, ↓vl_lload5, ↓vl_lstore5, ↓vl_iadd, ↓vl_isub, ↓vl_imul, ↓vl_iand, ↓vl_ior, ↓vl_ixor, ↓vl_ishl, ↓vl_ishr, ↓vl_iushr, ↓vl_idiv, ↓vl_irem, ↓vl_ladd, ↓vl_lsub, ↓vl_lmul, ↓vl_lcmp, ↓vl_i2l, ↓vl_dup, ↓vl_dup2, ↓vl_gotoF, ↓vl_gotoB, ↓vl_nnF, ↓vl_ic_eqF, ↓vl_if_eqF, ↓vl_ic_eqB, ↓vl_if_eqB, ↓vl_ic_neF, ↓vl_if_neF, ↓vl_ic_neB, ↓vl_if_neB, ↓vl_ic_ltF, ↓vl_if_ltF, ↓vl_ic_ltB, ↓vl_if_ltB, ↓vl_ic_geF, ↓vl_if_geF, ↓vl_ic_geB, ↓vl_if_geB, ↓vl_ic_gtF, ↓vl_if_gtF, ↓vl_ic_gtB, ↓vl_if_gtB, ↓vl_ic_leF, ↓vl_if_leF, ↓vl_ic_leB, ↓vl_if_leB, ↓vl_sw, ↓vl_get, ↓vl_putI, ↓vl_putL, ↓vl_iald, ↓vl_iast, ↓vl_alen, ↓vl_aald, ↓vl_iretI, ↓vl_iretZ, ↓vl_ret, ↓vl_mark, ↓vl_markT, ↓vl_skip, ↓vl_st0, ↓vl_vi0, ↓vl_st1, ↓vl_vi1, ↓vl_st2, ↓vl_vi2, ↓vl_st3, ↓vl_vi3, ↓vl_st4, ↓vl_vi4, ↓vl_st5, ↓vl_vi5, ↓vl_st6, ↓vl_vi6, ↓vl_min, ↓vl_max, ↓vl_cpy, ↓vk_kvs, ↓vk_kvn, ↓vk_gf0, ↓vk_gv0, ↓vk_gv1, ↓vk_gv2, ↓vk_pf, ↓vk_ar, ↓vk_arr, bc_lay, bc_fn, bc_mk, bc_cs, bc_cat, bc_nl, bc_nth, bc_en, bc_sw, true_and, and_true, ↓reduceIte, reduceCtorEq, Nat.reduceEqDiff, Nat.reduceLeDiff, Nat.reduceAdd, Nat.le_refl, Nat.zero_le, Int.cast_ofNat_Int, Int.reduceEq, eq_self, true_implies, false_implies, not_true_eq_false, not_false_eq_true, bc_vr, Int.reduceToNat, Int.toNat_natCast, Int.reduceLE, Int.reduceLT, Int.reduceNeg, true_or, or_true, forall_const, Int.reduceAdd]
    exact l7_vol_370 b0 b1 b2 b3 h23 h24 (kk h _ rfl h23 h24 hf1 hf2)
  | succ n ih =>
    intro i h hi hG h23 h24 hf1 hf2
    obtain ⟨g1, g2, g3, g4⟩ := hG i (by omega)
    have v0 := b0 i (by omega)
    have v1 := b1 i (by omega)
    have v2 := b2 i (by omega)
    have v3 := b3 i (by omega)
    have := pd_fl_bd b0 b1 i (by omega)
    have := pd_ce_bd b2 b3 i (by omega)
    have e1 : ((i + 1 : Nat) : Int) = (i : Int) + 1 := by omega
    have next := ih (i + 1) (bc_up (bc_up h 104 23 (pd_fl L0 L1 (i + 1))) 104 24 (pd_ce H0 H1 (i + 1))) (by omega) (fun f hf => by simp [bc_up]; exact hG f hf) (by simp [bc_up]) (by simp [bc_up]) (fun j a b => by simp [bc_up, a, b]; exact hf1 j a b) (fun c a b => by funext q; simp [bc_up, a]; rw [hf2 c a b])
    rw [e1] at next
    refine at_X7_laysVolumes_225 ?_
    simp only [ks_X7_laysVolumes_225, ks_X7_laysVolumes_289, ↓vl_iconst, ↓vl_bipush, ↓vl_sipush, ↓vl_lconst, ↓vl_ldc, ↓vl_ldcw, ↓vl_ldc2, ↓vl_iload0, ↓vl_aload0, ↓vl_istore0, ↓vl_iinc0, ↓vl_iload1, ↓vl_aload1, ↓vl_istore1, ↓vl_iinc1, ↓vl_iload2, ↓vl_aload2, ↓vl_istore2, ↓vl_iinc2, ↓vl_iload3, ↓vl_aload3, ↓vl_istore3, ↓vl_iinc3, ↓vl_iload4, ↓vl_istore4, ↓vl_iinc4, ↓vl_iload5, ↓vl_istore5, ↓vl_iinc5, ↓vl_iload6, ↓vl_istore6, ↓vl_iinc6, ↓vl_iload7, ↓vl_istore7, ↓vl_iinc7, ↓vl_lload5, ↓vl_lstore5, ↓vl_iadd, ↓vl_isub, ↓vl_imul, ↓vl_iand, ↓vl_ior, ↓vl_ixor, ↓vl_ishl, ↓vl_ishr, ↓vl_iushr, ↓vl_idiv, ↓vl_irem, ↓vl_ladd, ↓vl_lsub, ↓vl_lmul, ↓vl_lcmp, ↓vl_i2l, ↓vl_dup, ↓vl_dup2, ↓vl_gotoF, ↓vl_gotoB, ↓vl_nnF, ↓vl_ic_eqF, ↓vl_if_eqF, ↓vl_ic_eqB, ↓vl_if_eqB, ↓vl_ic_neF, ↓vl_if_neF, ↓vl_ic_neB, ↓vl_if_neB, ↓vl_ic_ltF, ↓vl_if_ltF, ↓vl_ic_ltB, ↓vl_if_ltB, ↓vl_ic_geF, ↓vl_if_geF, ↓vl_ic_geB, ↓vl_if_geB, ↓vl_ic_gtF, ↓vl_if_gtF, ↓vl_ic_gtB, ↓vl_if_gtB, ↓vl_ic_leF, ↓vl_if_leF, ↓vl_ic_leB, ↓vl_if_leB, ↓vl_sw, ↓vl_get, ↓vl_putI, ↓vl_putL, ↓vl_iald, ↓vl_iast, ↓vl_alen, ↓vl_aald, ↓vl_iretI, ↓vl_iretZ, ↓vl_ret, ↓vl_mark, ↓vl_markT, ↓vl_skip, ↓vl_st0, ↓vl_vi0, ↓vl_st1, ↓vl_vi1, ↓vl_st2, ↓vl_vi2, ↓vl_st3, ↓vl_vi3, ↓vl_st4, ↓vl_vi4, ↓vl_st5, ↓vl_vi5, ↓vl_st6, ↓vl_vi6, ↓vl_min, ↓vl_max, ↓vl_cpy, ↓vk_kvs, ↓vk_kvn, ↓vk_gf0, ↓vk_gv0, ↓vk_gv1, ↓vk_gv2, ↓vk_pf, ↓vk_ar, ↓vk_arr, bc_lay, bc_fn, bc_mk, bc_cs, bc_cat, bc_nl, bc_nth, bc_en, bc_sw, true_and, and_true, ↓reduceIte, reduceCtorEq, Nat.reduceEqDiff, Nat.reduceLeDiff, Nat.reduceAdd, Nat.le_refl, Nat.zero_le, Int.cast_ofNat_Int, Int.reduceEq, eq_self, true_implies, false_implies, not_true_eq_false, not_false_eq_true, bc_vr, Int.reduceToNat, Int.toNat_natCast, Int.reduceLE, Int.reduceLT, Int.reduceNeg, true_or, or_true, forall_const, Int.reduceAdd, g1, g2, g3, g4, h23]
    refine ⟨by omega, fun c => absurd c (by omega), fun _ => ⟨by omega, by omega, by omega, by omega, by omega, by omega, by omega, by omega, ⟨by omega, by omega⟩, ⟨by omega, by omega⟩, fun c => ?_, fun c => ?_⟩⟩
    · have e : pd_fl L0 L1 (i + 1) = pd_fl L0 L1 i := by rw [pd_fl, if_neg (by omega)]
      rw [e] at next
      exact l7_vol_289 hG b0 b1 b2 b3 (by omega) h24 next
    · have e : pd_fl L0 L1 (i + 1) = L1 i + L0 i := by rw [pd_fl, if_pos (by omega)]
      rw [e] at next
      exact l7_vol_289 hG b0 b1 b2 b3 (by omega) h24 next
end MVol
end
section
section MVol
variable {d : Nat} {h : bc_AH} {post : Option bc_AV → bc_AH → Prop} {D : Nat → Int}
variable {L0 L1 H0 H1 : Nat → Int}
-- behind the second loop: the sums of all
theorem l7_vol_216 (hG : pd_MG L0 L1 H0 H1 h) (b0 : pd_bd L0) (b1 : pd_bd L1) (b2 : pd_bd H0) (b3 : pd_bd H1) {h0 : bc_AH} (h23 : h 104 23 = pd_fl L0 L1 0) (hf1 : ∀ j : Nat, j ≠ 23 → j ≠ 24 → h 104 j = h0 104 j) (hf2 : ∀ c : Nat, c ≠ 104 → (c < 112 ∨ 115 < c) → h c = h0 c)
    (kk : ∀ (h' : bc_AH) (b : Bool), b = (pd_my L0 L1 H0 H1 6 && decide (pd_fl L0 L1 6 ≤ pd_ce H0 H1 6)) → h' 104 23 = pd_fl L0 L1 6 → h' 104 24 = pd_ce H0 H1 6 → (∀ j : Nat, j ≠ 23 → j ≠ 24 → h' 104 j = h0 104 j) → (∀ c : Nat, c ≠ 104 → (c < 112 ∨ 115 < c) → h' c = h0 c) → post (some (.inl (if b then 1 else 0))) h') : bc_AT (d + 1) 113 post 216 [some (.inr (.inr 104)), none, some (.inl (pd_t6 H1)), some (.inl (pd_t6 H0)), none, none, none, none] [.inl (pd_ce H0 H1 0), .inr (.inr 104)] h := by
  refine at_X7_laysVolumes_216 ?_
  simp only [ks_X7_laysVolumes_216, ↓vl_iconst, ↓vl_bipush, ↓vl_sipush, ↓vl_lconst, ↓vl_ldc, ↓vl_ldcw, ↓vl_ldc2, ↓vl_iload0, ↓vl_aload0, ↓vl_istore0, ↓vl_iinc0, ↓vl_iload1, ↓vl_aload1, ↓vl_istore1, ↓vl_iinc1, ↓vl_iload2, ↓vl_aload2, ↓vl_istore2, ↓vl_iinc2, ↓vl_iload3, ↓vl_aload3, ↓vl_istore3, ↓vl_iinc3, ↓vl_iload4, ↓vl_istore4, ↓vl_iinc4, ↓vl_iload5, ↓vl_istore5, ↓vl_iinc5, ↓vl_iload6, ↓vl_istore6, ↓vl_iinc6, ↓vl_iload7, ↓vl_istore7, ↓vl_iinc7, ↓vl_lload5, ↓vl_lstore5, ↓vl_iadd, ↓vl_isub, ↓vl_imul, ↓vl_iand, ↓vl_ior, ↓vl_ixor, ↓vl_ishl, ↓vl_ishr, ↓vl_iushr, ↓vl_idiv, ↓vl_irem, ↓vl_ladd, ↓vl_lsub, ↓vl_lmul, ↓vl_lcmp, ↓vl_i2l, ↓vl_dup, ↓vl_dup2, ↓vl_gotoF, ↓vl_gotoB, ↓vl_nnF, ↓vl_ic_eqF, ↓vl_if_eqF, ↓vl_ic_eqB, ↓vl_if_eqB, ↓vl_ic_neF, ↓vl_if_neF, ↓vl_ic_neB, ↓vl_if_neB, ↓vl_ic_ltF, ↓vl_if_ltF, ↓vl_ic_ltB, ↓vl_if_ltB, ↓vl_ic_geF, ↓vl_if_geF, ↓vl_ic_geB, ↓vl_if_geB, ↓vl_ic_gtF, ↓vl_if_gtF, ↓vl_ic_gtB, ↓vl_if_gtB, ↓vl_ic_leF, ↓vl_if_leF, ↓vl_ic_leB, ↓vl_if_leB, ↓vl_sw, ↓vl_get, ↓vl_putI, ↓vl_putL, ↓vl_iald, ↓vl_iast, ↓vl_alen, ↓vl_aald, ↓vl_iretI, ↓vl_iretZ, ↓vl_ret, ↓vl_mark, ↓vl_markT, ↓vl_skip, ↓vl_st0, ↓vl_vi0, ↓vl_st1, ↓vl_vi1, ↓vl_st2, ↓vl_vi2, ↓vl_st3, ↓vl_vi3, ↓vl_st4, ↓vl_vi4, ↓vl_st5, ↓vl_vi5, ↓vl_st6, ↓vl_vi6, ↓vl_min, ↓vl_max, ↓vl_cpy, ↓vk_kvs, ↓vk_kvn, ↓vk_gf0, ↓vk_gv0, ↓vk_gv1, ↓vk_gv2, ↓vk_pf, ↓vk_ar, ↓vk_arr, bc_lay, bc_fn, bc_mk, bc_cs, bc_cat, bc_nl, bc_nth, bc_en, bc_sw, true_and, and_true, ↓reduceIte, reduceCtorEq, Nat.reduceEqDiff, Nat.reduceLeDiff, Nat.reduceAdd, Nat.le_refl, Nat.zero_le, Int.cast_ofNat_Int, Int.reduceEq, eq_self, true_implies, false_implies, not_true_eq_false, not_false_eq_true, bc_vr, Int.reduceToNat, Int.toNat_natCast, Int.reduceLE, Int.reduceLT, Int.reduceNeg, true_or, or_true, forall_const, Int.reduceAdd]
  exact l7_vol_225 b0 b1 b2 b3 kk 6 0 _ (by omega) (fun f hf => by simp [bc_up]; exact hG f hf) (by simp [bc_up, h23]) (by simp [bc_up]) (fun j a b => by simp [bc_up, b]; exact hf1 j a b) (fun c a b => by funext q; simp [bc_up, a]; rw [hf2 c a b])
end MVol
end
section
section MVol
variable {d : Nat} {h : bc_AH} {post : Option bc_AV → bc_AH → Prop} {D : Nat → Int}
variable {L0 L1 H0 H1 : Nat → Int}
theorem l7_vol_202 (hG : pd_MG L0 L1 H0 H1 h) (b0 : pd_bd L0) (b1 : pd_bd L1) (b2 : pd_bd H0) (b3 : pd_bd H1) {h0 : bc_AH} (hf1 : ∀ j : Nat, j ≠ 23 → j ≠ 24 → h 104 j = h0 104 j) (hf2 : ∀ c : Nat, c ≠ 104 → (c < 112 ∨ 115 < c) → h c = h0 c)
    (kk : ∀ (h' : bc_AH) (b : Bool), b = (pd_my L0 L1 H0 H1 6 && decide (pd_fl L0 L1 6 ≤ pd_ce H0 H1 6)) → h' 104 23 = pd_fl L0 L1 6 → h' 104 24 = pd_ce H0 H1 6 → (∀ j : Nat, j ≠ 23 → j ≠ 24 → h' 104 j = h0 104 j) → (∀ c : Nat, c ≠ 104 → (c < 112 ∨ 115 < c) → h' c = h0 c) → post (some (.inl (if b then 1 else 0))) h') : bc_AT (d + 1) 113 post 202 [some (.inr (.inr 104)), none, some (.inl (pd_t6 H1)), some (.inl (pd_t6 H0)), none, none, none, none] [.inl (pd_fl L0 L1 0), .inr (.inr 104)] h := by
  have t2 := pd_bd_t6 b2
  have t3 := pd_bd_t6 b3
  have key : ∀ x : Int, x = pd_ce H0 H1 0 → bc_AT (d + 1) 113 post 216 [some (.inr (.inr 104)), none, some (.inl (pd_t6 H1)), some (.inl (pd_t6 H0)), none, none, none, none] [.inl x, .inr (.inr 104)] (bc_up h 104 23 (pd_fl L0 L1 0)) := by
    intro x hx
    rw [hx]
    exact l7_vol_216 (fun f hf => by simp [bc_up]; exact hG f hf) b0 b1 b2 b3 (h0 := h0) (by simp [bc_up]) (fun j a b => by simp [bc_up, a]; exact hf1 j a b) (fun c a b => by funext q; simp [bc_up, a]; rw [hf2 c a b]) kk
  refine at_X7_laysVolumes_202 ?_
  rw [ks_X7_laysVolumes_202, vl_putI]
  simp only [bc_lay, ↓vk_pf, bc_fn, true_and, eq_self]
  rw [vl_aload0, vl_iload2, vl_iload3, vl_ic_geF]
  refine ⟨⟨by omega, by omega⟩, ⟨by omega, by omega⟩, fun c => ?_, fun c => ?_⟩
  · rw [vl_skip, if_neg (by decide), vl_skip, if_neg (by decide), vl_skip, if_pos rfl, vl_iload3, vl_mark]
    simp only [bc_mk]
    refine key _ ?_
    rw [pd_ce]
    omega
  · rw [vl_iload2, vl_gotoF, vl_skip, if_neg (by decide), vl_skip, if_pos rfl, vl_mark]
    simp only [bc_mk]
    refine key _ ?_
    rw [pd_ce]
    omega
end MVol
section MVol
variable {d : Nat} {h : bc_AH} {post : Option bc_AV → bc_AH → Prop} {D : Nat → Int}
variable {L0 L1 H0 H1 : Nat → Int}
theorem pd_t6_eq {g g' : Nat → Int} (q : ∀ f, f < 6 → g f = g' f) : pd_t6 g = pd_t6 g' := by
  unfold pd_t6
  rw [q 0 (by omega), q 1 (by omega), q 2 (by omega), q 3 (by omega), q 4 (by omega), q 5 (by omega)]
theorem l7_vol_151 (hG : pd_MG L0 L1 H0 H1 h) (b0 : pd_bd L0) (b1 : pd_bd L1) (b2 : pd_bd H0) (b3 : pd_bd H1) {h0 : bc_AH} (hf1 : ∀ j : Nat, j ≠ 23 → j ≠ 24 → h 104 j = h0 104 j) (hf2 : ∀ c : Nat, c ≠ 104 → (c < 112 ∨ 115 < c) → h c = h0 c)
    (kk : ∀ (h' : bc_AH) (b : Bool), b = (pd_my L0 L1 H0 H1 6 && decide (pd_fl L0 L1 6 ≤ pd_ce H0 H1 6)) → h' 104 23 = pd_fl L0 L1 6 → h' 104 24 = pd_ce H0 H1 6 → (∀ j : Nat, j ≠ 23 → j ≠ 24 → h' 104 j = h0 104 j) → (∀ c : Nat, c ≠ 104 → (c < 112 ∨ 115 < c) → h' c = h0 c) → post (some (.inl (if b then 1 else 0))) h') : bc_AT (d + 1) 113 post 151 [some (.inr (.inr 104)), none, none, none, none, none, none, none] [] h := by
  have t0 := pd_bd_t6 b0
  have t1 := pd_bd_t6 b1
  have s0 : pd_t6 (h 114) = pd_t6 L0 := pd_t6_eq (fun f hf => (hG f hf).1)
  have s1 : pd_t6 (h 112) = pd_t6 L1 := pd_t6_eq (fun f hf => (hG f hf).2.1)
  have s2 : pd_t6 (h 115) = pd_t6 H0 := pd_t6_eq (fun f hf => (hG f hf).2.2.1)
  have s3 : pd_t6 (h 113) = pd_t6 H1 := pd_t6_eq (fun f hf => (hG f hf).2.2.2)
  have go := l7_vol_202 (d := d) (post := post) hG b0 b1 b2 b3 hf1 hf2 kk
  rw [pd_fl] at go
  refine at_X7_laysVolumes_151 ?_
  simp only [ks_X7_laysVolumes_151, ks_X7_laysVolumes_202, ↓vl_iconst, ↓vl_bipush, ↓vl_sipush, ↓vl_lconst, ↓vl_ldc, ↓vl_ldcw, ↓vl_ldc2, ↓vl_iload0, ↓vl_aload0, ↓vl_istore0, ↓vl_iinc0, ↓vl_iload1, ↓vl_aload1, ↓vl_istore1, ↓vl_iinc1, ↓vl_iload2, ↓vl_aload2, ↓vl_istore2, ↓vl_iinc2, ↓vl_iload3, ↓vl_aload3, ↓vl_istore3, ↓vl_iinc3, ↓vl_iload4, ↓vl_istore4, ↓vl_iinc4, ↓vl_iload5, ↓vl_istore5, ↓vl_iinc5, ↓vl_iload6, ↓vl_istore6, ↓vl_iinc6, ↓vl_iload7, ↓vl_istore7, ↓vl_iinc7, ↓vl_lload5, ↓vl_lstore5, ↓vl_iadd, ↓vl_isub, ↓vl_imul, ↓vl_iand, ↓vl_ior, ↓vl_ixor, ↓vl_ishl, ↓vl_ishr, ↓vl_iushr, ↓vl_idiv, ↓vl_irem, ↓vl_ladd, ↓vl_lsub, ↓vl_lmul, ↓vl_lcmp, ↓vl_i2l, ↓vl_dup, ↓vl_dup2, ↓vl_gotoF, ↓vl_gotoB, ↓vl_nnF, ↓vl_ic_eqF, ↓vl_if_eqF, ↓vl_ic_eqB, ↓vl_if_eqB, ↓vl_ic_neF, ↓vl_if_neF, ↓vl_ic_neB, ↓vl_if_neB, ↓vl_ic_ltF, ↓vl_if_ltF, ↓vl_ic_ltB, ↓vl_if_ltB, ↓vl_ic_geF, ↓vl_if_geF, ↓vl_ic_geB, ↓vl_if_geB, ↓vl_ic_gtF, ↓vl_if_gtF, ↓vl_ic_gtB, ↓vl_if_gtB, ↓vl_ic_leF, ↓vl_if_leF, ↓vl_ic_leB, ↓vl_if_leB, ↓vl_sw, ↓vl_get, ↓vl_putI, ↓vl_putL, ↓vl_iald, ↓vl_iast, ↓vl_alen, ↓vl_aald, ↓vl_iretI, ↓vl_iretZ, ↓vl_ret, ↓vl_mark, ↓vl_markT, ↓vl_skip, ↓vl_st0, ↓vl_vi0, ↓vl_st1, ↓vl_vi1, ↓vl_st2, ↓vl_vi2, ↓vl_st3, ↓vl_vi3, ↓vl_st4, ↓vl_vi4, ↓vl_st5, ↓vl_vi5, ↓vl_st6, ↓vl_vi6, ↓vl_min, ↓vl_max, ↓vl_cpy, ↓vk_kvs, ↓vk_kvn, ↓vk_gf0, ↓vk_gv0, ↓vk_gv1, ↓vk_gv2, ↓vk_pf, ↓vk_ar, ↓vk_arr, bc_lay, bc_fn, bc_mk, bc_cs, bc_cat, bc_nl, bc_nth, bc_en, bc_sw, true_and, and_true, ↓reduceIte, reduceCtorEq, Nat.reduceEqDiff, Nat.reduceLeDiff, Nat.reduceAdd, Nat.le_refl, Nat.zero_le, Int.cast_ofNat_Int, Int.reduceEq, eq_self, true_implies, false_implies, not_true_eq_false, not_false_eq_true, bc_vr, Int.reduceToNat, Int.toNat_natCast, Int.reduceLE, Int.reduceLT, Int.reduceNeg, true_or, or_true, forall_const, Int.reduceAdd]
  refine c7_sum (Or.inr (Or.inl rfl)) ?_
  simp only [↓vl_iconst, ↓vl_bipush, ↓vl_sipush, ↓vl_lconst, ↓vl_ldc, ↓vl_ldcw, ↓vl_ldc2, ↓vl_iload0, ↓vl_aload0, ↓vl_istore0, ↓vl_iinc0, ↓vl_iload1, ↓vl_aload1, ↓vl_istore1, ↓vl_iinc1, ↓vl_iload2, ↓vl_aload2, ↓vl_istore2, ↓vl_iinc2, ↓vl_iload3, ↓vl_aload3, ↓vl_istore3, ↓vl_iinc3, ↓vl_iload4, ↓vl_istore4, ↓vl_iinc4, ↓vl_iload5, ↓vl_istore5, ↓vl_iinc5, ↓vl_iload6, ↓vl_istore6, ↓vl_iinc6, ↓vl_iload7, ↓vl_istore7, ↓vl_iinc7, ↓vl_lload5, ↓vl_lstore5, ↓vl_iadd, ↓vl_isub, ↓vl_imul, ↓vl_iand, ↓vl_ior, ↓vl_ixor, ↓vl_ishl, ↓vl_ishr, ↓vl_iushr, ↓vl_idiv, ↓vl_irem, ↓vl_ladd, ↓vl_lsub, ↓vl_lmul, ↓vl_lcmp, ↓vl_i2l, ↓vl_dup, ↓vl_dup2, ↓vl_gotoF, ↓vl_gotoB, ↓vl_nnF, ↓vl_ic_eqF, ↓vl_if_eqF, ↓vl_ic_eqB, ↓vl_if_eqB, ↓vl_ic_neF, ↓vl_if_neF, ↓vl_ic_neB, ↓vl_if_neB, ↓vl_ic_ltF, ↓vl_if_ltF, ↓vl_ic_ltB, ↓vl_if_ltB, ↓vl_ic_geF, ↓vl_if_geF, ↓vl_ic_geB, ↓vl_if_geB, ↓vl_ic_gtF, ↓vl_if_gtF, ↓vl_ic_gtB, ↓vl_if_gtB, ↓vl_ic_leF, ↓vl_if_leF, ↓vl_ic_leB, ↓vl_if_leB, ↓vl_sw, ↓vl_get, ↓vl_putI, ↓vl_putL, ↓vl_iald, ↓vl_iast, ↓vl_alen, ↓vl_aald, ↓vl_iretI, ↓vl_iretZ, ↓vl_ret, ↓vl_mark, ↓vl_markT, ↓vl_skip, ↓vl_st0, ↓vl_vi0, ↓vl_st1, ↓vl_vi1, ↓vl_st2, ↓vl_vi2, ↓vl_st3, ↓vl_vi3, ↓vl_st4, ↓vl_vi4, ↓vl_st5, ↓vl_vi5, ↓vl_st6, ↓vl_vi6, ↓vl_min, ↓vl_max, ↓vl_cpy, ↓vk_kvs, ↓vk_kvn, ↓vk_gf0, ↓vk_gv0, ↓vk_gv1, ↓vk_gv2, ↓vk_pf, ↓vk_ar, ↓vk_arr, bc_lay, bc_fn, bc_mk, bc_cs, bc_cat, bc_nl, bc_nth, bc_en, bc_sw, true_and, and_true, ↓reduceIte, reduceCtorEq, Nat.reduceEqDiff, Nat.reduceLeDiff, Nat.reduceAdd, Nat.le_refl, Nat.zero_le, Int.cast_ofNat_Int, Int.reduceEq, eq_self, true_implies, false_implies, not_true_eq_false, not_false_eq_true, bc_vr, Int.reduceToNat, Int.toNat_natCast, Int.reduceLE, Int.reduceLT, Int.reduceNeg, true_or, or_true, forall_const, Int.reduceAdd, s3]
  refine c7_sum (Or.inr (Or.inr (Or.inr rfl))) ?_
  simp only [↓vl_iconst, ↓vl_bipush, ↓vl_sipush, ↓vl_lconst, ↓vl_ldc, ↓vl_ldcw, ↓vl_ldc2, ↓vl_iload0, ↓vl_aload0, ↓vl_istore0, ↓vl_iinc0, ↓vl_iload1, ↓vl_aload1, ↓vl_istore1, ↓vl_iinc1, ↓vl_iload2, ↓vl_aload2, ↓vl_istore2, ↓vl_iinc2, ↓vl_iload3, ↓vl_aload3, ↓vl_istore3, ↓vl_iinc3, ↓vl_iload4, ↓vl_istore4, ↓vl_iinc4, ↓vl_iload5, ↓vl_istore5, ↓vl_iinc5, ↓vl_iload6, ↓vl_istore6, ↓vl_iinc6, ↓vl_iload7, ↓vl_istore7, ↓vl_iinc7, ↓vl_lload5, ↓vl_lstore5, ↓vl_iadd, ↓vl_isub, ↓vl_imul, ↓vl_iand, ↓vl_ior, ↓vl_ixor, ↓vl_ishl, ↓vl_ishr, ↓vl_iushr, ↓vl_idiv, ↓vl_irem, ↓vl_ladd, ↓vl_lsub, ↓vl_lmul, ↓vl_lcmp, ↓vl_i2l, ↓vl_dup, ↓vl_dup2, ↓vl_gotoF, ↓vl_gotoB, ↓vl_nnF, ↓vl_ic_eqF, ↓vl_if_eqF, ↓vl_ic_eqB, ↓vl_if_eqB, ↓vl_ic_neF, ↓vl_if_neF, ↓vl_ic_neB, ↓vl_if_neB, ↓vl_ic_ltF, ↓vl_if_ltF, ↓vl_ic_ltB, ↓vl_if_ltB, ↓vl_ic_geF, ↓vl_if_geF, ↓vl_ic_geB, ↓vl_if_geB, ↓vl_ic_gtF, ↓vl_if_gtF, ↓vl_ic_gtB, ↓vl_if_gtB, ↓vl_ic_leF, ↓vl_if_leF, ↓vl_ic_leB, ↓vl_if_leB, ↓vl_sw, ↓vl_get, ↓vl_putI, ↓vl_putL, ↓vl_iald, ↓vl_iast, ↓vl_alen, ↓vl_aald, ↓vl_iretI, ↓vl_iretZ, ↓vl_ret, ↓vl_mark, ↓vl_markT, ↓vl_skip, ↓vl_st0, ↓vl_vi0, ↓vl_st1, ↓vl_vi1, ↓vl_st2, ↓vl_vi2, ↓vl_st3, ↓vl_vi3, ↓vl_st4, ↓vl_vi4, ↓vl_st5, ↓vl_vi5, ↓vl_st6, ↓vl_vi6, ↓vl_min, ↓vl_max, ↓vl_cpy, ↓vk_kvs, ↓vk_kvn, ↓vk_gf0, ↓vk_gv0, ↓vk_gv1, ↓vk_gv2, ↓vk_pf, ↓vk_ar, ↓vk_arr, bc_lay, bc_fn, bc_mk, bc_cs, bc_cat, bc_nl, bc_nth, bc_en, bc_sw, true_and, and_true, ↓reduceIte, reduceCtorEq, Nat.reduceEqDiff, Nat.reduceLeDiff, Nat.reduceAdd, Nat.le_refl, Nat.zero_le, Int.cast_ofNat_Int, Int.reduceEq, eq_self, true_implies, false_implies, not_true_eq_false, not_false_eq_true, bc_vr, Int.reduceToNat, Int.toNat_natCast, Int.reduceLE, Int.reduceLT, Int.reduceNeg, true_or, or_true, forall_const, Int.reduceAdd, s2]
  refine c7_sum (Or.inl rfl) ?_
  simp only [↓vl_iconst, ↓vl_bipush, ↓vl_sipush, ↓vl_lconst, ↓vl_ldc, ↓vl_ldcw, ↓vl_ldc2, ↓vl_iload0, ↓vl_aload0, ↓vl_istore0, ↓vl_iinc0, ↓vl_iload1, ↓vl_aload1, ↓vl_istore1, ↓vl_iinc1, ↓vl_iload2, ↓vl_aload2, ↓vl_istore2, ↓vl_iinc2, ↓vl_iload3, ↓vl_aload3, ↓vl_istore3, ↓vl_iinc3, ↓vl_iload4, ↓vl_istore4, ↓vl_iinc4, ↓vl_iload5, ↓vl_istore5, ↓vl_iinc5, ↓vl_iload6, ↓vl_istore6, ↓vl_iinc6, ↓vl_iload7, ↓vl_istore7, ↓vl_iinc7, ↓vl_lload5, ↓vl_lstore5, ↓vl_iadd, ↓vl_isub, ↓vl_imul, ↓vl_iand, ↓vl_ior, ↓vl_ixor, ↓vl_ishl, ↓vl_ishr, ↓vl_iushr, ↓vl_idiv, ↓vl_irem, ↓vl_ladd, ↓vl_lsub, ↓vl_lmul, ↓vl_lcmp, ↓vl_i2l, ↓vl_dup, ↓vl_dup2, ↓vl_gotoF, ↓vl_gotoB, ↓vl_nnF, ↓vl_ic_eqF, ↓vl_if_eqF, ↓vl_ic_eqB, ↓vl_if_eqB, ↓vl_ic_neF, ↓vl_if_neF, ↓vl_ic_neB, ↓vl_if_neB, ↓vl_ic_ltF, ↓vl_if_ltF, ↓vl_ic_ltB, ↓vl_if_ltB, ↓vl_ic_geF, ↓vl_if_geF, ↓vl_ic_geB, ↓vl_if_geB, ↓vl_ic_gtF, ↓vl_if_gtF, ↓vl_ic_gtB, ↓vl_if_gtB, ↓vl_ic_leF, ↓vl_if_leF, ↓vl_ic_leB, ↓vl_if_leB, ↓vl_sw, ↓vl_get, ↓vl_putI, ↓vl_putL, ↓vl_iald, ↓vl_iast, ↓vl_alen, ↓vl_aald, ↓vl_iretI, ↓vl_iretZ, ↓vl_ret, ↓vl_mark, ↓vl_markT, ↓vl_skip, ↓vl_st0, ↓vl_vi0, ↓vl_st1, ↓vl_vi1, ↓vl_st2, ↓vl_vi2, ↓vl_st3, ↓vl_vi3, ↓vl_st4, ↓vl_vi4, ↓vl_st5, ↓vl_vi5, ↓vl_st6, ↓vl_vi6, ↓vl_min, ↓vl_max, ↓vl_cpy, ↓vk_kvs, ↓vk_kvn, ↓vk_gf0, ↓vk_gv0, ↓vk_gv1, ↓vk_gv2, ↓vk_pf, ↓vk_ar, ↓vk_arr, bc_lay, bc_fn, bc_mk, bc_cs, bc_cat, bc_nl, bc_nth, bc_en, bc_sw, true_and, and_true, ↓reduceIte, reduceCtorEq, Nat.reduceEqDiff, Nat.reduceLeDiff, Nat.reduceAdd, Nat.le_refl, Nat.zero_le, Int.cast_ofNat_Int, Int.reduceEq, eq_self, true_implies, false_implies, not_true_eq_false, not_false_eq_true, bc_vr, Int.reduceToNat, Int.toNat_natCast, Int.reduceLE, Int.reduceLT, Int.reduceNeg, true_or, or_true, forall_const, Int.reduceAdd, s1]
  refine c7_sum (Or.inr (Or.inr (Or.inl rfl))) ?_
  simp only [↓vl_iconst, ↓vl_bipush, ↓vl_sipush, ↓vl_lconst, ↓vl_ldc, ↓vl_ldcw, ↓vl_ldc2, ↓vl_iload0, ↓vl_aload0, ↓vl_istore0, ↓vl_iinc0, ↓vl_iload1, ↓vl_aload1, ↓vl_istore1, ↓vl_iinc1, ↓vl_iload2, ↓vl_aload2, ↓vl_istore2, ↓vl_iinc2, ↓vl_iload3, ↓vl_aload3, ↓vl_istore3, ↓vl_iinc3, ↓vl_iload4, ↓vl_istore4, ↓vl_iinc4, ↓vl_iload5, ↓vl_istore5, ↓vl_iinc5, ↓vl_iload6, ↓vl_istore6, ↓vl_iinc6, ↓vl_iload7, ↓vl_istore7, ↓vl_iinc7, ↓vl_lload5, ↓vl_lstore5, ↓vl_iadd, ↓vl_isub, ↓vl_imul, ↓vl_iand, ↓vl_ior, ↓vl_ixor, ↓vl_ishl, ↓vl_ishr, ↓vl_iushr, ↓vl_idiv, ↓vl_irem, ↓vl_ladd, ↓vl_lsub, ↓vl_lmul, ↓vl_lcmp, ↓vl_i2l, ↓vl_dup, ↓vl_dup2, ↓vl_gotoF, ↓vl_gotoB, ↓vl_nnF, ↓vl_ic_eqF, ↓vl_if_eqF, ↓vl_ic_eqB, ↓vl_if_eqB, ↓vl_ic_neF, ↓vl_if_neF, ↓vl_ic_neB, ↓vl_if_neB, ↓vl_ic_ltF, ↓vl_if_ltF, ↓vl_ic_ltB, ↓vl_if_ltB, ↓vl_ic_geF, ↓vl_if_geF, ↓vl_ic_geB, ↓vl_if_geB, ↓vl_ic_gtF, ↓vl_if_gtF, ↓vl_ic_gtB, ↓vl_if_gtB, ↓vl_ic_leF, ↓vl_if_leF, ↓vl_ic_leB, ↓vl_if_leB, ↓vl_sw, ↓vl_get, ↓vl_putI, ↓vl_putL, ↓vl_iald, ↓vl_iast, ↓vl_alen, ↓vl_aald, ↓vl_iretI, ↓vl_iretZ, ↓vl_ret, ↓vl_mark, ↓vl_markT, ↓vl_skip, ↓vl_st0, ↓vl_vi0, ↓vl_st1, ↓vl_vi1, ↓vl_st2, ↓vl_vi2, ↓vl_st3, ↓vl_vi3, ↓vl_st4, ↓vl_vi4, ↓vl_st5, ↓vl_vi5, ↓vl_st6, ↓vl_vi6, ↓vl_min, ↓vl_max, ↓vl_cpy, ↓vk_kvs, ↓vk_kvn, ↓vk_gf0, ↓vk_gv0, ↓vk_gv1, ↓vk_gv2, ↓vk_pf, ↓vk_ar, ↓vk_arr, bc_lay, bc_fn, bc_mk, bc_cs, bc_cat, bc_nl, bc_nth, bc_en, bc_sw, true_and, and_true, ↓reduceIte, reduceCtorEq, Nat.reduceEqDiff, Nat.reduceLeDiff, Nat.reduceAdd, Nat.le_refl, Nat.zero_le, Int.cast_ofNat_Int, Int.reduceEq, eq_self, true_implies, false_implies, not_true_eq_false, not_false_eq_true, bc_vr, Int.reduceToNat, Int.toNat_natCast, Int.reduceLE, Int.reduceLT, Int.reduceNeg, true_or, or_true, forall_const, Int.reduceAdd, s0]
  refine ⟨⟨by omega, by omega⟩, ⟨by omega, by omega⟩, fun c => ?_, fun c => ?_⟩
  · refine c7_sum (Or.inr (Or.inr (Or.inl rfl))) ?_
    simp only [↓vl_iconst, ↓vl_bipush, ↓vl_sipush, ↓vl_lconst, ↓vl_ldc, ↓vl_ldcw, ↓vl_ldc2, ↓vl_iload0, ↓vl_aload0, ↓vl_istore0, ↓vl_iinc0, ↓vl_iload1, ↓vl_aload1, ↓vl_istore1, ↓vl_iinc1, ↓vl_iload2, ↓vl_aload2, ↓vl_istore2, ↓vl_iinc2, ↓vl_iload3, ↓vl_aload3, ↓vl_istore3, ↓vl_iinc3, ↓vl_iload4, ↓vl_istore4, ↓vl_iinc4, ↓vl_iload5, ↓vl_istore5, ↓vl_iinc5, ↓vl_iload6, ↓vl_istore6, ↓vl_iinc6, ↓vl_iload7, ↓vl_istore7, ↓vl_iinc7, ↓vl_lload5, ↓vl_lstore5, ↓vl_iadd, ↓vl_isub, ↓vl_imul, ↓vl_iand, ↓vl_ior, ↓vl_ixor, ↓vl_ishl, ↓vl_ishr, ↓vl_iushr, ↓vl_idiv, ↓vl_irem, ↓vl_ladd, ↓vl_lsub, ↓vl_lmul, ↓vl_lcmp, ↓vl_i2l, ↓vl_dup, ↓vl_dup2, ↓vl_gotoF, ↓vl_gotoB, ↓vl_nnF, ↓vl_ic_eqF, ↓vl_if_eqF, ↓vl_ic_eqB, ↓vl_if_eqB, ↓vl_ic_neF, ↓vl_if_neF, ↓vl_ic_neB, ↓vl_if_neB, ↓vl_ic_ltF, ↓vl_if_ltF, ↓vl_ic_ltB, ↓vl_if_ltB, ↓vl_ic_geF, ↓vl_if_geF, ↓vl_ic_geB, ↓vl_if_geB, ↓vl_ic_gtF, ↓vl_if_gtF, ↓vl_ic_gtB, ↓vl_if_gtB, ↓vl_ic_leF, ↓vl_if_leF, ↓vl_ic_leB, ↓vl_if_leB, ↓vl_sw, ↓vl_get, ↓vl_putI, ↓vl_putL, ↓vl_iald, ↓vl_iast, ↓vl_alen, ↓vl_aald, ↓vl_iretI, ↓vl_iretZ, ↓vl_ret, ↓vl_mark, ↓vl_markT, ↓vl_skip, ↓vl_st0, ↓vl_vi0, ↓vl_st1, ↓vl_vi1, ↓vl_st2, ↓vl_vi2, ↓vl_st3, ↓vl_vi3, ↓vl_st4, ↓vl_vi4, ↓vl_st5, ↓vl_vi5, ↓vl_st6, ↓vl_vi6, ↓vl_min, ↓vl_max, ↓vl_cpy, ↓vk_kvs, ↓vk_kvn, ↓vk_gf0, ↓vk_gv0, ↓vk_gv1, ↓vk_gv2, ↓vk_pf, ↓vk_ar, ↓vk_arr, bc_lay, bc_fn, bc_mk, bc_cs, bc_cat, bc_nl, bc_nth, bc_en, bc_sw, true_and, and_true, ↓reduceIte, reduceCtorEq, Nat.reduceEqDiff, Nat.reduceLeDiff, Nat.reduceAdd, Nat.le_refl, Nat.zero_le, Int.cast_ofNat_Int, Int.reduceEq, eq_self, true_implies, false_implies, not_true_eq_false, not_false_eq_true, bc_vr, Int.reduceToNat, Int.toNat_natCast, Int.reduceLE, Int.reduceLT, Int.reduceNeg, true_or, or_true, forall_const, Int.reduceAdd, s0]
    rw [if_neg (by omega)] at go
    exact go
  · refine c7_sum (Or.inl rfl) ?_
    simp only [↓vl_iconst, ↓vl_bipush, ↓vl_sipush, ↓vl_lconst, ↓vl_ldc, ↓vl_ldcw, ↓vl_ldc2, ↓vl_iload0, ↓vl_aload0, ↓vl_istore0, ↓vl_iinc0, ↓vl_iload1, ↓vl_aload1, ↓vl_istore1, ↓vl_iinc1, ↓vl_iload2, ↓vl_aload2, ↓vl_istore2, ↓vl_iinc2, ↓vl_iload3, ↓vl_aload3, ↓vl_istore3, ↓vl_iinc3, ↓vl_iload4, ↓vl_istore4, ↓vl_iinc4, ↓vl_iload5, ↓vl_istore5, ↓vl_iinc5, ↓vl_iload6, ↓vl_istore6, ↓vl_iinc6, ↓vl_iload7, ↓vl_istore7, ↓vl_iinc7, ↓vl_lload5, ↓vl_lstore5, ↓vl_iadd, ↓vl_isub, ↓vl_imul, ↓vl_iand, ↓vl_ior, ↓vl_ixor, ↓vl_ishl, ↓vl_ishr, ↓vl_iushr, ↓vl_idiv, ↓vl_irem, ↓vl_ladd, ↓vl_lsub, ↓vl_lmul, ↓vl_lcmp, ↓vl_i2l, ↓vl_dup, ↓vl_dup2, ↓vl_gotoF, ↓vl_gotoB, ↓vl_nnF, ↓vl_ic_eqF, ↓vl_if_eqF, ↓vl_ic_eqB, ↓vl_if_eqB, ↓vl_ic_neF, ↓vl_if_neF, ↓vl_ic_neB, ↓vl_if_neB, ↓vl_ic_ltF, ↓vl_if_ltF, ↓vl_ic_ltB, ↓vl_if_ltB, ↓vl_ic_geF, ↓vl_if_geF, ↓vl_ic_geB, ↓vl_if_geB, ↓vl_ic_gtF, ↓vl_if_gtF, ↓vl_ic_gtB, ↓vl_if_gtB, ↓vl_ic_leF, ↓vl_if_leF, ↓vl_ic_leB, ↓vl_if_leB, ↓vl_sw, ↓vl_get, ↓vl_putI, ↓vl_putL, ↓vl_iald, ↓vl_iast, ↓vl_alen, ↓vl_aald, ↓vl_iretI, ↓vl_iretZ, ↓vl_ret, ↓vl_mark, ↓vl_markT, ↓vl_skip, ↓vl_st0, ↓vl_vi0, ↓vl_st1, ↓vl_vi1, ↓vl_st2, ↓vl_vi2, ↓vl_st3, ↓vl_vi3, ↓vl_st4, ↓vl_vi4, ↓vl_st5, ↓vl_vi5, ↓vl_st6, ↓vl_vi6, ↓vl_min, ↓vl_max, ↓vl_cpy, ↓vk_kvs, ↓vk_kvn, ↓vk_gf0, ↓vk_gv0, ↓vk_gv1, ↓vk_gv2, ↓vk_pf, ↓vk_ar, ↓vk_arr, bc_lay, bc_fn, bc_mk, bc_cs, bc_cat, bc_nl, bc_nth, bc_en, bc_sw, true_and, and_true, ↓reduceIte, reduceCtorEq, Nat.reduceEqDiff, Nat.reduceLeDiff, Nat.reduceAdd, Nat.le_refl, Nat.zero_le, Int.cast_ofNat_Int, Int.reduceEq, eq_self, true_implies, false_implies, not_true_eq_false, not_false_eq_true, bc_vr, Int.reduceToNat, Int.toNat_natCast, Int.reduceLE, Int.reduceLT, Int.reduceNeg, true_or, or_true, forall_const, Int.reduceAdd, s1]
    rw [if_pos (by omega)] at go
    exact go
end MVol
end
section
/-! the reference: laysVolumes, its loops and its contract -/
section MVol2
variable {d : Nat} {h : bc_AH} {post : Option bc_AV → bc_AH → Prop} {D : Nat → Int}
/-- what a call of laysVolumes leaves alone -/
def pd_fv (h h' : bc_AH) : Prop := (∀ j : Nat, j ≠ 23 → j ≠ 24 → h' 104 j = h 104 j) ∧ ∀ c : Nat, c ≠ 104 → (c < 112 ∨ 115 < c) → h' c = h c
def pd_ML (D lo hi : Nat → Int) (S : List Nat) (h : bc_AH) : Prop := pd_MG (fun f => pd_sf D lo 0 f S) (fun f => pd_sf D lo 1 f S) (fun f => pd_sf D hi 0 f S) (fun f => pd_sf D hi 1 f S) h
def pd_vb (D lo hi : Nat → Int) (S : List Nat) : Bool := pd_my (fun f => pd_sf D lo 0 f S) (fun f => pd_sf D lo 1 f S) (fun f => pd_sf D hi 0 f S) (fun f => pd_sf D hi 1 f S) 6 && decide (pd_fl (fun f => pd_sf D lo 0 f S) (fun f => pd_sf D lo 1 f S) 6 ≤ pd_ce (fun f => pd_sf D hi 0 f S) (fun f => pd_sf D hi 1 f S) 6)
def pd_vf (D lo : Nat → Int) (S : List Nat) : Int := pd_fl (fun f => pd_sf D lo 0 f S) (fun f => pd_sf D lo 1 f S) 6
def pd_vc (D hi : Nat → Int) (S : List Nat) : Int := pd_ce (fun f => pd_sf D hi 0 f S) (fun f => pd_sf D hi 1 f S) 6
theorem l7_vol_145 {m : Int} {i : Nat} (k : bc_AT (d + 1) 113 post 44 [some (.inr (.inr 104)), some (.inl m), some (.inl ((i + 1 : Nat) : Int)), none, none, none, none, none] [] h) : bc_AT (d + 1) 113 post 145 [some (.inr (.inr 104)), some (.inl m), some (.inl (i : Int)), none, none, none, none, none] [] h := by
  have e1 : ((i + 1 : Nat) : Int) = (i : Int) + 1 := by omega
  rw [e1] at k
  refine at_X7_laysVolumes_145 ?_
  simp only [ks_X7_laysVolumes_145, ↓vl_iconst, ↓vl_bipush, ↓vl_sipush, ↓vl_lconst, ↓vl_ldc, ↓vl_ldcw, ↓vl_ldc2, ↓vl_iload0, ↓vl_aload0, ↓vl_istore0, ↓vl_iinc0, ↓vl_iload1, ↓vl_aload1, ↓vl_istore1, ↓vl_iinc1, ↓vl_iload2, ↓vl_aload2, ↓vl_istore2, ↓vl_iinc2, ↓vl_iload3, ↓vl_aload3, ↓vl_istore3, ↓vl_iinc3, ↓vl_iload4, ↓vl_istore4, ↓vl_iinc4, ↓vl_iload5, ↓vl_istore5, ↓vl_iinc5, ↓vl_iload6, ↓vl_istore6, ↓vl_iinc6, ↓vl_iload7, ↓vl_istore7, ↓vl_iinc7, ↓vl_lload5, ↓vl_lstore5, ↓vl_iadd, ↓vl_isub, ↓vl_imul, ↓vl_iand, ↓vl_ior, ↓vl_ixor, ↓vl_ishl, ↓vl_ishr, ↓vl_iushr, ↓vl_idiv, ↓vl_irem, ↓vl_ladd, ↓vl_lsub, ↓vl_lmul, ↓vl_lcmp, ↓vl_i2l, ↓vl_dup, ↓vl_dup2, ↓vl_gotoF, ↓vl_gotoB, ↓vl_nnF, ↓vl_ic_eqF, ↓vl_if_eqF, ↓vl_ic_eqB, ↓vl_if_eqB, ↓vl_ic_neF, ↓vl_if_neF, ↓vl_ic_neB, ↓vl_if_neB, ↓vl_ic_ltF, ↓vl_if_ltF, ↓vl_ic_ltB, ↓vl_if_ltB, ↓vl_ic_geF, ↓vl_if_geF, ↓vl_ic_geB, ↓vl_if_geB, ↓vl_ic_gtF, ↓vl_if_gtF, ↓vl_ic_gtB, ↓vl_if_gtB, ↓vl_ic_leF, ↓vl_if_leF, ↓vl_ic_leB, ↓vl_if_leB, ↓vl_sw, ↓vl_get, ↓vl_putI, ↓vl_putL, ↓vl_iald, ↓vl_iast, ↓vl_alen, ↓vl_aald, ↓vl_iretI, ↓vl_iretZ, ↓vl_ret, ↓vl_mark, ↓vl_markT, ↓vl_skip, ↓vl_st0, ↓vl_vi0, ↓vl_st1, ↓vl_vi1, ↓vl_st2, ↓vl_vi2, ↓vl_st3, ↓vl_vi3, ↓vl_st4, ↓vl_vi4, ↓vl_st5, ↓vl_vi5, ↓vl_st6, ↓vl_vi6, ↓vl_min, ↓vl_max, ↓vl_cpy, ↓vk_kvs, ↓vk_kvn, ↓vk_gf0, ↓vk_gv0, ↓vk_gv1, ↓vk_gv2, ↓vk_pf, ↓vk_ar, ↓vk_arr, bc_lay, bc_fn, bc_mk, bc_cs, bc_cat, bc_nl, bc_nth, bc_en, bc_sw, true_and, and_true, ↓reduceIte, reduceCtorEq, Nat.reduceEqDiff, Nat.reduceLeDiff, Nat.reduceAdd, Nat.le_refl, Nat.zero_le, Int.cast_ofNat_Int, Int.reduceEq, eq_self, true_implies, false_implies, not_true_eq_false, not_false_eq_true, bc_vr, Int.reduceToNat, Int.toNat_natCast, Int.reduceLE, Int.reduceLT, Int.reduceNeg, true_or, or_true, forall_const, Int.reduceAdd]
  exact k
set_option maxRecDepth 20000 in
theorem l7_vol_44 (hV : pd_V D) {m : Int} {lo hi : Nat → Int} {h0 : bc_AH} (hM0 : pd_M 106 D h0) (hl0 : ∀ o : Nat, (o : Int) < D 0 → h0 110 o = lo o ∧ h0 111 o = hi o)
    (kk : ∀ h', pd_ML D lo hi (pd_bl (bc_bit m) (D 0).toNat) h' → pd_fv h0 h' → bc_AT (d + 1) 113 post 151 [some (.inr (.inr 104)), none, none, none, none, none, none, none] [] h') :
    ∀ (n i : Nat) (h : bc_AH), (i : Int) + n = D 0 → pd_ML D lo hi (pd_bl (bc_bit m) i) h → pd_fv h0 h → bc_AT (d + 1) 113 post 44 [some (.inr (.inr 104)), some (.inl m), some (.inl (i : Int)), none, none, none, none, none] [] h := by
  have v0 := hV.1
  intro n
  induction n with
  | zero =>
    intro i h hi hS hf
    have hM : pd_M 106 D h := pd_M_fr hM0 (hf.2 106 (by omega) (by omega))
    have e : i = (D 0).toNat := by omega
    rw [← e] at kk
    refine at_X7_laysVolumes_44 ?_
    simp only [ks_X7_laysVolumes_44, ks_X7_laysVolumes_145, ↓vl_iconst, ↓vl_bipush, ↓vl_sipush, ↓vl_lconst, ↓vl_ldc, ↓vl_ldcw, ↓vl_ldc2, ↓vl_iload0, ↓vl_aload0, ↓vl_istore0, ↓vl_iinc0, ↓vl_iload1, ↓vl_aload1, ↓vl_istore1, ↓vl_iinc1, ↓vl_iload2, ↓vl_aload2, ↓vl_istore2, ↓vl_iinc2, ↓vl_iload3, ↓vl_aload3, ↓vl_istore3, ↓vl_iinc3, ↓vl_iload4, ↓vl_istore4, ↓vl_iinc4, ↓vl_iload5, ↓vl_istore5, ↓vl_iinc5, ↓vl_iload6, ↓vl_istore6, ↓vl_iinc6, ↓vl_iload7, ↓vl_istore7, ↓vl_iinc7, ↓vl_lload5, ↓vl_lstore5, ↓vl_iadd, ↓vl_isub, ↓vl_imul, ↓vl_iand, ↓vl_ior, ↓vl_ixor, ↓vl_ishl, ↓vl_ishr, ↓vl_iushr, ↓vl_idiv, ↓vl_irem, ↓vl_ladd, ↓vl_lsub, ↓vl_lmul, ↓vl_lcmp, ↓vl_i2l, ↓vl_dup, ↓vl_dup2, ↓vl_gotoF, ↓vl_gotoB, ↓vl_nnF, ↓vl_ic_eqF, ↓vl_if_eqF, ↓vl_ic_eqB, ↓vl_if_eqB, ↓vl_ic_neF, ↓vl_if_neF, ↓vl_ic_neB, ↓vl_if_neB, ↓vl_ic_ltF, ↓vl_if_ltF, ↓vl_ic_ltB, ↓vl_if_ltB, ↓vl_ic_geF, ↓vl_if_geF, ↓vl_ic_geB, ↓vl_if_geB, ↓vl_ic_gtF, ↓vl_if_gtF, ↓vl_ic_gtB, ↓vl_if_gtB, ↓vl_ic_leF, ↓vl_if_leF, ↓vl_ic_leB, ↓vl_if_leB, ↓vl_sw, ↓vl_get, ↓vl_putI, ↓vl_putL, ↓vl_iald, ↓vl_iast, ↓vl_alen, ↓vl_aald, ↓vl_iretI, ↓vl_iretZ, ↓vl_ret, ↓vl_mark, ↓vl_markT, ↓vl_skip, ↓vl_st0, ↓vl_vi0, ↓vl_st1, ↓vl_vi1, ↓vl_st2, ↓vl_vi2, ↓vl_st3, ↓vl_vi3, ↓vl_st4, ↓vl_vi4, ↓vl_st5, ↓vl_vi5, ↓vl_st6, ↓vl_vi6, ↓vl_min, ↓vl_max, ↓vl_cpy, ↓vk_kvs, ↓vk_kvn, ↓vk_gf0, ↓vk_gv0, ↓vk_gv1, ↓vk_gv2, ↓vk_pf, ↓vk_ar, ↓vk_arr, bc_lay, bc_fn, bc_mk, bc_cs, bc_cat, bc_nl, bc_nth, bc_en, bc_sw, true_and, and_true, ↓reduceIte, reduceCtorEq, Nat.reduceEqDiff, Nat.reduceLeDiff, Nat.reduceAdd, Nat.le_refl, Nat.zero_le, Int.cast_ofNat_Int, Int.reduceEq, eq_self, true_implies, false_implies, not_true_eq_false, not_false_eq_true, bc_vr, Int.reduceToNat, Int.toNat_natCast, Int.reduceLE, Int.reduceLT, Int.reduceNeg, true_or, or_true, forall_const, Int.reduceAdd, hM 0 (by omega)]
    exact ⟨⟨by omega, by omega⟩, ⟨by omega, by omega⟩, fun _ => kk h hS hf, fun c => absurd c (by omega)⟩
  | succ n ih =>
    intro i h hi hS hf
    have hM : pd_M 106 D h := pd_M_fr hM0 (hf.2 106 (by omega) (by omega))
    obtain ⟨l1, l2⟩ := hl0 i (by omega)
    rw [← hf.2 110 (by omega) (by omega)] at l1
    rw [← hf.2 111 (by omega) (by omega)] at l2
    obtain ⟨r0, -, -, -, r4, -⟩ := hV.2.2 i (by omega)
    obtain ⟨a, ha⟩ := Int.eq_ofNat_of_zero_le r4.1
    refine at_X7_laysVolumes_44 ?_
    simp only [ks_X7_laysVolumes_44, ks_X7_laysVolumes_145, ↓vl_iconst, ↓vl_bipush, ↓vl_sipush, ↓vl_lconst, ↓vl_ldc, ↓vl_ldcw, ↓vl_ldc2, ↓vl_iload0, ↓vl_aload0, ↓vl_istore0, ↓vl_iinc0, ↓vl_iload1, ↓vl_aload1, ↓vl_istore1, ↓vl_iinc1, ↓vl_iload2, ↓vl_aload2, ↓vl_istore2, ↓vl_iinc2, ↓vl_iload3, ↓vl_aload3, ↓vl_istore3, ↓vl_iinc3, ↓vl_iload4, ↓vl_istore4, ↓vl_iinc4, ↓vl_iload5, ↓vl_istore5, ↓vl_iinc5, ↓vl_iload6, ↓vl_istore6, ↓vl_iinc6, ↓vl_iload7, ↓vl_istore7, ↓vl_iinc7, ↓vl_lload5, ↓vl_lstore5, ↓vl_iadd, ↓vl_isub, ↓vl_imul, ↓vl_iand, ↓vl_ior, ↓vl_ixor, ↓vl_ishl, ↓vl_ishr, ↓vl_iushr, ↓vl_idiv, ↓vl_irem, ↓vl_ladd, ↓vl_lsub, ↓vl_lmul, ↓vl_lcmp, ↓vl_i2l, ↓vl_dup, ↓vl_dup2, ↓vl_gotoF, ↓vl_gotoB, ↓vl_nnF, ↓vl_ic_eqF, ↓vl_if_eqF, ↓vl_ic_eqB, ↓vl_if_eqB, ↓vl_ic_neF, ↓vl_if_neF, ↓vl_ic_neB, ↓vl_if_neB, ↓vl_ic_ltF, ↓vl_if_ltF, ↓vl_ic_ltB, ↓vl_if_ltB, ↓vl_ic_geF, ↓vl_if_geF, ↓vl_ic_geB, ↓vl_if_geB, ↓vl_ic_gtF, ↓vl_if_gtF, ↓vl_ic_gtB, ↓vl_if_gtB, ↓vl_ic_leF, ↓vl_if_leF, ↓vl_ic_leB, ↓vl_if_leB, ↓vl_sw, ↓vl_get, ↓vl_putI, ↓vl_putL, ↓vl_iald, ↓vl_iast, ↓vl_alen, ↓vl_aald, ↓vl_iretI, ↓vl_iretZ, ↓vl_ret, ↓vl_mark, ↓vl_markT, ↓vl_skip, ↓vl_st0, ↓vl_vi0, ↓vl_st1, ↓vl_vi1, ↓vl_st2, ↓vl_vi2, ↓vl_st3, ↓vl_vi3, ↓vl_st4, ↓vl_vi4, ↓vl_st5, ↓vl_vi5, ↓vl_st6, ↓vl_vi6, ↓vl_min, ↓vl_max, ↓vl_cpy, ↓vk_kvs, ↓vk_kvn, ↓vk_gf0, ↓vk_gv0, ↓vk_gv1, ↓vk_gv2, ↓vk_pf, ↓vk_ar, ↓vk_arr, bc_lay, bc_fn, bc_mk, bc_cs, bc_cat, bc_nl, bc_nth, bc_en, bc_sw, true_and, and_true, ↓reduceIte, reduceCtorEq, Nat.reduceEqDiff, Nat.reduceLeDiff, Nat.reduceAdd, Nat.le_refl, Nat.zero_le, Int.cast_ofNat_Int, Int.reduceEq, eq_self, true_implies, false_implies, not_true_eq_false, not_false_eq_true, bc_vr, Int.reduceToNat, Int.toNat_natCast, Int.reduceLE, Int.reduceLT, Int.reduceNeg, true_or, or_true, forall_const, Int.reduceAdd, hM 0 (by omega)]
    refine ⟨⟨by omega, by omega⟩, ⟨by omega, by omega⟩, fun c => absurd c (by omega), fun _ => ?_⟩
    refine c7_has (by omega) (fun hb => ?_) (fun hb => ?_)
    · have e : pd_bl (bc_bit m) (i + 1) = pd_bl (bc_bit m) i ++ [i] := by rw [pd_bl, if_pos hb]
      simp only [↓vl_iconst, ↓vl_bipush, ↓vl_sipush, ↓vl_lconst, ↓vl_ldc, ↓vl_ldcw, ↓vl_ldc2, ↓vl_iload0, ↓vl_aload0, ↓vl_istore0, ↓vl_iinc0, ↓vl_iload1, ↓vl_aload1, ↓vl_istore1, ↓vl_iinc1, ↓vl_iload2, ↓vl_aload2, ↓vl_istore2, ↓vl_iinc2, ↓vl_iload3, ↓vl_aload3, ↓vl_istore3, ↓vl_iinc3, ↓vl_iload4, ↓vl_istore4, ↓vl_iinc4, ↓vl_iload5, ↓vl_istore5, ↓vl_iinc5, ↓vl_iload6, ↓vl_istore6, ↓vl_iinc6, ↓vl_iload7, ↓vl_istore7, ↓vl_iinc7, ↓vl_lload5, ↓vl_lstore5, ↓vl_iadd, ↓vl_isub, ↓vl_imul, ↓vl_iand, ↓vl_ior, ↓vl_ixor, ↓vl_ishl, ↓vl_ishr, ↓vl_iushr, ↓vl_idiv, ↓vl_irem, ↓vl_ladd, ↓vl_lsub, ↓vl_lmul, ↓vl_lcmp, ↓vl_i2l, ↓vl_dup, ↓vl_dup2, ↓vl_gotoF, ↓vl_gotoB, ↓vl_nnF, ↓vl_ic_eqF, ↓vl_if_eqF, ↓vl_ic_eqB, ↓vl_if_eqB, ↓vl_ic_neF, ↓vl_if_neF, ↓vl_ic_neB, ↓vl_if_neB, ↓vl_ic_ltF, ↓vl_if_ltF, ↓vl_ic_ltB, ↓vl_if_ltB, ↓vl_ic_geF, ↓vl_if_geF, ↓vl_ic_geB, ↓vl_if_geB, ↓vl_ic_gtF, ↓vl_if_gtF, ↓vl_ic_gtB, ↓vl_if_gtB, ↓vl_ic_leF, ↓vl_if_leF, ↓vl_ic_leB, ↓vl_if_leB, ↓vl_sw, ↓vl_get, ↓vl_putI, ↓vl_putL, ↓vl_iald, ↓vl_iast, ↓vl_alen, ↓vl_aald, ↓vl_iretI, ↓vl_iretZ, ↓vl_ret, ↓vl_mark, ↓vl_markT, ↓vl_skip, ↓vl_st0, ↓vl_vi0, ↓vl_st1, ↓vl_vi1, ↓vl_st2, ↓vl_vi2, ↓vl_st3, ↓vl_vi3, ↓vl_st4, ↓vl_vi4, ↓vl_st5, ↓vl_vi5, ↓vl_st6, ↓vl_vi6, ↓vl_min, ↓vl_max, ↓vl_cpy, ↓vk_kvs, ↓vk_kvn, ↓vk_gf0, ↓vk_gv0, ↓vk_gv1, ↓vk_gv2, ↓vk_pf, ↓vk_ar, ↓vk_arr, bc_lay, bc_fn, bc_mk, bc_cs, bc_cat, bc_nl, bc_nth, bc_en, bc_sw, true_and, and_true, ↓reduceIte, reduceCtorEq, Nat.reduceEqDiff, Nat.reduceLeDiff, Nat.reduceAdd, Nat.le_refl, Nat.zero_le, Int.cast_ofNat_Int, Int.reduceEq, eq_self, true_implies, false_implies, not_true_eq_false, not_false_eq_true, bc_vr, Int.reduceToNat, Int.toNat_natCast, Int.reduceLE, Int.reduceLT, Int.reduceNeg, true_or, or_true, forall_const, Int.reduceAdd]
      refine c7_its hM (w := 4) (by omega) (by omega) ?_
      simp only [↓vl_iconst, ↓vl_bipush, ↓vl_sipush, ↓vl_lconst, ↓vl_ldc, ↓vl_ldcw, ↓vl_ldc2, ↓vl_iload0, ↓vl_aload0, ↓vl_istore0, ↓vl_iinc0, ↓vl_iload1, ↓vl_aload1, ↓vl_istore1, ↓vl_iinc1, ↓vl_iload2, ↓vl_aload2, ↓vl_istore2, ↓vl_iinc2, ↓vl_iload3, ↓vl_aload3, ↓vl_istore3, ↓vl_iinc3, ↓vl_iload4, ↓vl_istore4, ↓vl_iinc4, ↓vl_iload5, ↓vl_istore5, ↓vl_iinc5, ↓vl_iload6, ↓vl_istore6, ↓vl_iinc6, ↓vl_iload7, ↓vl_istore7, ↓vl_iinc7, ↓vl_lload5, ↓vl_lstore5, ↓vl_iadd, ↓vl_isub, ↓vl_imul, ↓vl_iand, ↓vl_ior, ↓vl_ixor, ↓vl_ishl, ↓vl_ishr, ↓vl_iushr, ↓vl_idiv, ↓vl_irem, ↓vl_ladd, ↓vl_lsub, ↓vl_lmul, ↓vl_lcmp, ↓vl_i2l, ↓vl_dup, ↓vl_dup2, ↓vl_gotoF, ↓vl_gotoB, ↓vl_nnF, ↓vl_ic_eqF, ↓vl_if_eqF, ↓vl_ic_eqB, ↓vl_if_eqB, ↓vl_ic_neF, ↓vl_if_neF, ↓vl_ic_neB, ↓vl_if_neB, ↓vl_ic_ltF, ↓vl_if_ltF, ↓vl_ic_ltB, ↓vl_if_ltB, ↓vl_ic_geF, ↓vl_if_geF, ↓vl_ic_geB, ↓vl_if_geB, ↓vl_ic_gtF, ↓vl_if_gtF, ↓vl_ic_gtB, ↓vl_if_gtB, ↓vl_ic_leF, ↓vl_if_leF, ↓vl_ic_leB, ↓vl_if_leB, ↓vl_sw, ↓vl_get, ↓vl_putI, ↓vl_putL, ↓vl_iald, ↓vl_iast, ↓vl_alen, ↓vl_aald, ↓vl_iretI, ↓vl_iretZ, ↓vl_ret, ↓vl_mark, ↓vl_markT, ↓vl_skip, ↓vl_st0, ↓vl_vi0, ↓vl_st1, ↓vl_vi1, ↓vl_st2, ↓vl_vi2, ↓vl_st3, ↓vl_vi3, ↓vl_st4, ↓vl_vi4, ↓vl_st5, ↓vl_vi5, ↓vl_st6, ↓vl_vi6, ↓vl_min, ↓vl_max, ↓vl_cpy, ↓vk_kvs, ↓vk_kvn, ↓vk_gf0, ↓vk_gv0, ↓vk_gv1, ↓vk_gv2, ↓vk_pf, ↓vk_ar, ↓vk_arr, bc_lay, bc_fn, bc_mk, bc_cs, bc_cat, bc_nl, bc_nth, bc_en, bc_sw, true_and, and_true, ↓reduceIte, reduceCtorEq, Nat.reduceEqDiff, Nat.reduceLeDiff, Nat.reduceAdd, Nat.le_refl, Nat.zero_le, Int.cast_ofNat_Int, Int.reduceEq, eq_self, true_implies, false_implies, not_true_eq_false, not_false_eq_true, bc_vr, Int.reduceToNat, Int.toNat_natCast, Int.reduceLE, Int.reduceLT, Int.reduceNeg, true_or, or_true, forall_const, Int.reduceAdd]
      refine c7_its hM (w := 0) (by omega) (by omega) ?_
      obtain ⟨g1, g2, g3, g4⟩ := hS a (by omega)
      simp only [↓vl_iconst, ↓vl_bipush, ↓vl_sipush, ↓vl_lconst, ↓vl_ldc, ↓vl_ldcw, ↓vl_ldc2, ↓vl_iload0, ↓vl_aload0, ↓vl_istore0, ↓vl_iinc0, ↓vl_iload1, ↓vl_aload1, ↓vl_istore1, ↓vl_iinc1, ↓vl_iload2, ↓vl_aload2, ↓vl_istore2, ↓vl_iinc2, ↓vl_iload3, ↓vl_aload3, ↓vl_istore3, ↓vl_iinc3, ↓vl_iload4, ↓vl_istore4, ↓vl_iinc4, ↓vl_iload5, ↓vl_istore5, ↓vl_iinc5, ↓vl_iload6, ↓vl_istore6, ↓vl_iinc6, ↓vl_iload7, ↓vl_istore7, ↓vl_iinc7, ↓vl_lload5, ↓vl_lstore5, ↓vl_iadd, ↓vl_isub, ↓vl_imul, ↓vl_iand, ↓vl_ior, ↓vl_ixor, ↓vl_ishl, ↓vl_ishr, ↓vl_iushr, ↓vl_idiv, ↓vl_irem, ↓vl_ladd, ↓vl_lsub, ↓vl_lmul, ↓vl_lcmp, ↓vl_i2l, ↓vl_dup, ↓vl_dup2, ↓vl_gotoF, ↓vl_gotoB, ↓vl_nnF, ↓vl_ic_eqF, ↓vl_if_eqF, ↓vl_ic_eqB, ↓vl_if_eqB, ↓vl_ic_neF, ↓vl_if_neF, ↓vl_ic_neB, ↓vl_if_neB, ↓vl_ic_ltF, ↓vl_if_ltF, ↓vl_ic_ltB, ↓vl_if_ltB, ↓vl_ic_geF, ↓vl_if_geF, ↓vl_ic_geB, ↓vl_if_geB, ↓vl_ic_gtF, ↓vl_if_gtF, ↓vl_ic_gtB, ↓vl_if_gtB, ↓vl_ic_leF, ↓vl_if_leF, ↓vl_ic_leB, ↓vl_if_leB, ↓vl_sw, ↓vl_get, ↓vl_putI, ↓vl_putL, ↓vl_iald, ↓vl_iast, ↓vl_alen, ↓vl_aald, ↓vl_iretI, ↓vl_iretZ, ↓vl_ret, ↓vl_mark, ↓vl_markT, ↓vl_skip, ↓vl_st0, ↓vl_vi0, ↓vl_st1, ↓vl_vi1, ↓vl_st2, ↓vl_vi2, ↓vl_st3, ↓vl_vi3, ↓vl_st4, ↓vl_vi4, ↓vl_st5, ↓vl_vi5, ↓vl_st6, ↓vl_vi6, ↓vl_min, ↓vl_max, ↓vl_cpy, ↓vk_kvs, ↓vk_kvn, ↓vk_gf0, ↓vk_gv0, ↓vk_gv1, ↓vk_gv2, ↓vk_pf, ↓vk_ar, ↓vk_arr, bc_lay, bc_fn, bc_mk, bc_cs, bc_cat, bc_nl, bc_nth, bc_en, bc_sw, true_and, and_true, ↓reduceIte, reduceCtorEq, Nat.reduceEqDiff, Nat.reduceLeDiff, Nat.reduceAdd, Nat.le_refl, Nat.zero_le, Int.cast_ofNat_Int, Int.reduceEq, eq_self, true_implies, false_implies, not_true_eq_false, not_false_eq_true, bc_vr, Int.reduceToNat, Int.toNat_natCast, Int.reduceLE, Int.reduceLT, Int.reduceNeg, true_or, or_true, forall_const, Int.reduceAdd, Nat.add_zero, ha]
      refine ⟨⟨by omega, by omega⟩, fun c => ?_, fun c => ?_⟩
      · have hs : D (7 + 9 * i) = 0 := by omega
        refine ⟨by omega, by omega, by omega, by omega, by omega, by omega, by omega, by omega, by omega, by omega, by omega, by omega, ?_⟩
        refine l7_vol_145 (ih (i + 1) _ (by omega) ?_ ⟨fun j x y => by simp [bc_up]; exact hf.1 j x y, fun c x y => by
          have n1 : ¬ c = 114 := by omega
          have n2 : ¬ c = 115 := by omega
          funext q; simp [bc_up, n1, n2]; rw [hf.2 c x y]⟩)
        rw [e]
        intro f hff
        obtain ⟨u1, u2, u3, u4⟩ := hS f hff
        simp only [pd_sf_snoc, hs, ha]
        by_cases hfa : f = a
        · subst hfa; simp [bc_up, u1, u2, u3, u4, l1, l2]
        · have n1 : ¬ (a : Int) = (f : Int) := by omega
          simp [bc_up, u1, u2, u3, u4, hfa, n1]
      · have hs : D (7 + 9 * i) = 1 := by omega
        refine ⟨by omega, by omega, by omega, by omega, by omega, by omega, by omega, by omega, by omega, by omega, by omega, by omega, ?_⟩
        refine l7_vol_145 (ih (i + 1) _ (by omega) ?_ ⟨fun j x y => by simp [bc_up]; exact hf.1 j x y, fun c x y => by
          have n1 : ¬ c = 112 := by omega
          have n2 : ¬ c = 113 := by omega
          funext q; simp [bc_up, n1, n2]; rw [hf.2 c x y]⟩)
        rw [e]
        intro f hff
        obtain ⟨u1, u2, u3, u4⟩ := hS f hff
        simp only [pd_sf_snoc, hs, ha]
        by_cases hfa : f = a
        · subst hfa; simp [bc_up, u1, u2, u3, u4, l1, l2]
        · have n1 : ¬ (a : Int) = (f : Int) := by omega
          simp [bc_up, u1, u2, u3, u4, hfa, n1]
    · have e : pd_bl (bc_bit m) (i + 1) = pd_bl (bc_bit m) i := by rw [pd_bl, if_neg hb]
      simp only [↓vl_iconst, ↓vl_bipush, ↓vl_sipush, ↓vl_lconst, ↓vl_ldc, ↓vl_ldcw, ↓vl_ldc2, ↓vl_iload0, ↓vl_aload0, ↓vl_istore0, ↓vl_iinc0, ↓vl_iload1, ↓vl_aload1, ↓vl_istore1, ↓vl_iinc1, ↓vl_iload2, ↓vl_aload2, ↓vl_istore2, ↓vl_iinc2, ↓vl_iload3, ↓vl_aload3, ↓vl_istore3, ↓vl_iinc3, ↓vl_iload4, ↓vl_istore4, ↓vl_iinc4, ↓vl_iload5, ↓vl_istore5, ↓vl_iinc5, ↓vl_iload6, ↓vl_istore6, ↓vl_iinc6, ↓vl_iload7, ↓vl_istore7, ↓vl_iinc7, ↓vl_lload5, ↓vl_lstore5, ↓vl_iadd, ↓vl_isub, ↓vl_imul, ↓vl_iand, ↓vl_ior, ↓vl_ixor, ↓vl_ishl, ↓vl_ishr, ↓vl_iushr, ↓vl_idiv, ↓vl_irem, ↓vl_ladd, ↓vl_lsub, ↓vl_lmul, ↓vl_lcmp, ↓vl_i2l, ↓vl_dup, ↓vl_dup2, ↓vl_gotoF, ↓vl_gotoB, ↓vl_nnF, ↓vl_ic_eqF, ↓vl_if_eqF, ↓vl_ic_eqB, ↓vl_if_eqB, ↓vl_ic_neF, ↓vl_if_neF, ↓vl_ic_neB, ↓vl_if_neB, ↓vl_ic_ltF, ↓vl_if_ltF, ↓vl_ic_ltB, ↓vl_if_ltB, ↓vl_ic_geF, ↓vl_if_geF, ↓vl_ic_geB, ↓vl_if_geB, ↓vl_ic_gtF, ↓vl_if_gtF, ↓vl_ic_gtB, ↓vl_if_gtB, ↓vl_ic_leF, ↓vl_if_leF, ↓vl_ic_leB, ↓vl_if_leB, ↓vl_sw, ↓vl_get, ↓vl_putI, ↓vl_putL, ↓vl_iald, ↓vl_iast, ↓vl_alen, ↓vl_aald, ↓vl_iretI, ↓vl_iretZ, ↓vl_ret, ↓vl_mark, ↓vl_markT, ↓vl_skip, ↓vl_st0, ↓vl_vi0, ↓vl_st1, ↓vl_vi1, ↓vl_st2, ↓vl_vi2, ↓vl_st3, ↓vl_vi3, ↓vl_st4, ↓vl_vi4, ↓vl_st5, ↓vl_vi5, ↓vl_st6, ↓vl_vi6, ↓vl_min, ↓vl_max, ↓vl_cpy, ↓vk_kvs, ↓vk_kvn, ↓vk_gf0, ↓vk_gv0, ↓vk_gv1, ↓vk_gv2, ↓vk_pf, ↓vk_ar, ↓vk_arr, bc_lay, bc_fn, bc_mk, bc_cs, bc_cat, bc_nl, bc_nth, bc_en, bc_sw, true_and, and_true, ↓reduceIte, reduceCtorEq, Nat.reduceEqDiff, Nat.reduceLeDiff, Nat.reduceAdd, Nat.le_refl, Nat.zero_le, Int.cast_ofNat_Int, Int.reduceEq, eq_self, true_implies, false_implies, not_true_eq_false, not_false_eq_true, bc_vr, Int.reduceToNat, Int.toNat_natCast, Int.reduceLE, Int.reduceLT, Int.reduceNeg, true_or, or_true, forall_const, Int.reduceAdd]
      exact l7_vol_145 (ih (i + 1) h (by omega) (by rw [e]; exact hS) hf)
theorem l7_vol_2 {m : Int} {h0 : bc_AH} (kk : ∀ h', pd_MG (fun _ => 0) (fun _ => 0) (fun _ => 0) (fun _ => 0) h' → pd_fv h0 h' → bc_AT (d + 1) 113 post 44 [some (.inr (.inr 104)), some (.inl m), some (.inl 0), none, none, none, none, none] [] h') :
    ∀ (n i : Nat) (h : bc_AH), i + n = 6 → (∀ f : Nat, f < i → h 114 f = 0 ∧ h 112 f = 0 ∧ h 115 f = 0 ∧ h 113 f = 0) → pd_fv h0 h → bc_AT (d + 1) 113 post 2 [some (.inr (.inr 104)), some (.inl m), some (.inl (i : Int)), none, none, none, none, none] [] h := by
  intro n
  induction n with
  | zero =>
    intro i h hi hz hf
    have e : i = 6 := by omega
    subst e
    refine at_X7_laysVolumes_2 ?_
    simp only [ks_X7_laysVolumes_2, ↓vl_iconst, ↓vl_bipush, ↓vl_sipush, ↓vl_lconst, ↓vl_ldc, ↓vl_ldcw, ↓vl_ldc2, ↓vl_iload0, ↓vl_aload0, ↓vl_istore0, ↓vl_iinc0, ↓vl_iload1, ↓vl_aload1, ↓vl_istore1, ↓vl_iinc1, ↓vl_iload2, ↓vl_aload2, ↓vl_istore2, ↓vl_iinc2, ↓vl_iload3, ↓vl_aload3, ↓vl_istore3, ↓vl_iinc3, ↓vl_iload4, ↓vl_istore4, ↓vl_iinc4, ↓vl_iload5, ↓vl_istore5, ↓vl_iinc5, ↓vl_iload6, ↓vl_istore6, ↓vl_iinc6, ↓vl_iload7, ↓vl_istore7, ↓vl_iinc7, ↓vl_lload5, ↓vl_lstore5, ↓vl_iadd, ↓vl_isub, ↓vl_imul, ↓vl_iand, ↓vl_ior, ↓vl_ixor, ↓vl_ishl, ↓vl_ishr, ↓vl_iushr, ↓vl_idiv, ↓vl_irem, ↓vl_ladd, ↓vl_lsub, ↓vl_lmul, ↓vl_lcmp, ↓vl_i2l, ↓vl_dup, ↓vl_dup2, ↓vl_gotoF, ↓vl_gotoB, ↓vl_nnF, ↓vl_ic_eqF, ↓vl_if_eqF, ↓vl_ic_eqB, ↓vl_if_eqB, ↓vl_ic_neF, ↓vl_if_neF, ↓vl_ic_neB, ↓vl_if_neB, ↓vl_ic_ltF, ↓vl_if_ltF, ↓vl_ic_ltB, ↓vl_if_ltB, ↓vl_ic_geF, ↓vl_if_geF, ↓vl_ic_geB, ↓vl_if_geB, ↓vl_ic_gtF, ↓vl_if_gtF, ↓vl_ic_gtB, ↓vl_if_gtB, ↓vl_ic_leF, ↓vl_if_leF, ↓vl_ic_leB, ↓vl_if_leB, ↓vl_sw, ↓vl_get, ↓vl_putI, ↓vl_putL, ↓vl_iald, ↓vl_iast, ↓vl_alen, ↓vl_aald, ↓vl_iretI, ↓vl_iretZ, ↓vl_ret, ↓vl_mark, ↓vl_markT, ↓vl_skip, ↓vl_st0, ↓vl_vi0, ↓vl_st1, ↓vl_vi1, ↓vl_st2, ↓vl_vi2, ↓vl_st3, ↓vl_vi3, ↓vl_st4, ↓vl_vi4, ↓vl_st5, ↓vl_vi5, ↓vl_st6, ↓vl_vi6, ↓vl_min, ↓vl_max, ↓vl_cpy, ↓vk_kvs, ↓vk_kvn, ↓vk_gf0, ↓vk_gv0, ↓vk_gv1, ↓vk_gv2, ↓vk_pf, ↓vk_ar, ↓vk_arr, bc_lay, bc_fn, bc_mk, bc_cs, bc_cat, bc_nl, bc_nth, bc_en, bc_sw, true_and, and_true, ↓reduceIte, reduceCtorEq, Nat.reduceEqDiff, Nat.reduceLeDiff, Nat.reduceAdd, Nat.le_refl, Nat.zero_le, Int.cast_ofNat_Int, Int.reduceEq, eq_self, true_implies, false_implies, not_true_eq_false, not_false_eq_true, bc_vr, Int.reduceToNat, Int.toNat_natCast, Int.reduceLE, Int.reduceLT, Int.reduceNeg, true_or, or_true, forall_const, Int.reduceAdd]
    exact kk h hz hf
  | succ n ih =>
    intro i h hi hz hf
    have e1 : (i : Int) + 1 = ((i + 1 : Nat) : Int) := by omega
    refine at_X7_laysVolumes_2 ?_
    simp only [ks_X7_laysVolumes_2, ↓vl_iconst, ↓vl_bipush, ↓vl_sipush, ↓vl_lconst, ↓vl_ldc, ↓vl_ldcw, ↓vl_ldc2, ↓vl_iload0, ↓vl_aload0, ↓vl_istore0, ↓vl_iinc0, ↓vl_iload1, ↓vl_aload1, ↓vl_istore1, ↓vl_iinc1, ↓vl_iload2, ↓vl_aload2, ↓vl_istore2, ↓vl_iinc2, ↓vl_iload3, ↓vl_aload3, ↓vl_istore3, ↓vl_iinc3, ↓vl_iload4, ↓vl_istore4, ↓vl_iinc4, ↓vl_iload5, ↓vl_istore5, ↓vl_iinc5, ↓vl_iload6, ↓vl_istore6, ↓vl_iinc6, ↓vl_iload7, ↓vl_istore7, ↓vl_iinc7, ↓vl_lload5, ↓vl_lstore5, ↓vl_iadd, ↓vl_isub, ↓vl_imul, ↓vl_iand, ↓vl_ior, ↓vl_ixor, ↓vl_ishl, ↓vl_ishr, ↓vl_iushr, ↓vl_idiv, ↓vl_irem, ↓vl_ladd, ↓vl_lsub, ↓vl_lmul, ↓vl_lcmp, ↓vl_i2l, ↓vl_dup, ↓vl_dup2, ↓vl_gotoF, ↓vl_gotoB, ↓vl_nnF, ↓vl_ic_eqF, ↓vl_if_eqF, ↓vl_ic_eqB, ↓vl_if_eqB, ↓vl_ic_neF, ↓vl_if_neF, ↓vl_ic_neB, ↓vl_if_neB, ↓vl_ic_ltF, ↓vl_if_ltF, ↓vl_ic_ltB, ↓vl_if_ltB, ↓vl_ic_geF, ↓vl_if_geF, ↓vl_ic_geB, ↓vl_if_geB, ↓vl_ic_gtF, ↓vl_if_gtF, ↓vl_ic_gtB, ↓vl_if_gtB, ↓vl_ic_leF, ↓vl_if_leF, ↓vl_ic_leB, ↓vl_if_leB, ↓vl_sw, ↓vl_get, ↓vl_putI, ↓vl_putL, ↓vl_iald, ↓vl_iast, ↓vl_alen, ↓vl_aald, ↓vl_iretI, ↓vl_iretZ, ↓vl_ret, ↓vl_mark, ↓vl_markT, ↓vl_skip, ↓vl_st0, ↓vl_vi0, ↓vl_st1, ↓vl_vi1, ↓vl_st2, ↓vl_vi2, ↓vl_st3, ↓vl_vi3, ↓vl_st4, ↓vl_vi4, ↓vl_st5, ↓vl_vi5, ↓vl_st6, ↓vl_vi6, ↓vl_min, ↓vl_max, ↓vl_cpy, ↓vk_kvs, ↓vk_kvn, ↓vk_gf0, ↓vk_gv0, ↓vk_gv1, ↓vk_gv2, ↓vk_pf, ↓vk_ar, ↓vk_arr, bc_lay, bc_fn, bc_mk, bc_cs, bc_cat, bc_nl, bc_nth, bc_en, bc_sw, true_and, and_true, ↓reduceIte, reduceCtorEq, Nat.reduceEqDiff, Nat.reduceLeDiff, Nat.reduceAdd, Nat.le_refl, Nat.zero_le, Int.cast_ofNat_Int, Int.reduceEq, eq_self, true_implies, false_implies, not_true_eq_false, not_false_eq_true, bc_vr, Int.reduceToNat, Int.toNat_natCast, Int.reduceLE, Int.reduceLT, Int.reduceNeg, true_or, or_true, forall_const, Int.reduceAdd]
    refine ⟨⟨by omega, by omega⟩, fun c => absurd c (by omega), fun _ => ⟨by omega, by omega, by omega, by omega, by omega, by omega, by omega, by omega, ?_⟩⟩
    rw [e1]
    refine ih (i + 1) _ (by omega) (fun f hff => ?_) ⟨fun j x y => by simp [bc_up]; exact hf.1 j x y, fun c x y => by
      have n1 : ¬ c = 112 := by omega
      have n2 : ¬ c = 113 := by omega
      have n3 : ¬ c = 114 := by omega
      have n4 : ¬ c = 115 := by omega
      funext q; simp [bc_up, n1, n2, n3, n4]; rw [hf.2 c x y]⟩
    by_cases e : f = i
    · subst e; simp [bc_up]
    · have : ¬ f = i := e
      simp [bc_up, this]; exact hz f (by omega)
theorem c7_laysVolumes (hM : pd_M 106 D h) (hV : pd_V D) {m : Int} {lo hi : Nat → Int} (hl : ∀ o : Nat, (o : Int) < D 0 → h 110 o = lo o ∧ h 111 o = hi o) (blo : ∀ x ∈ pd_bl (bc_bit m) (D 0).toNat, 0 ≤ lo x ∧ lo x ≤ 999) (bhi : ∀ x ∈ pd_bl (bc_bit m) (D 0).toNat, 0 ≤ hi x ∧ hi x ≤ 999)
    (kk : ∀ h', h' 104 23 = pd_vf D lo (pd_bl (bc_bit m) (D 0).toNat) → h' 104 24 = pd_vc D hi (pd_bl (bc_bit m) (D 0).toNat) → pd_fv h h' → post (some (.inl (if pd_vb D lo hi (pd_bl (bc_bit m) (D 0).toNat) then 1 else 0))) h') : bc_OK (d + 2) 113 [.inr (.inr 104), .inl m] h post := by
  have v0 := hV.1
  have hlen := pd_bl_len (p := bc_bit m) (D 0).toNat
  refine bc_run (n := 8) ck_X7_laysVolumes rfl rfl rfl rfl (Nat.le_of_ble_eq_true rfl) ?_
  simp only [k_X7_laysVolumes, ↓vl_iconst, ↓vl_bipush, ↓vl_sipush, ↓vl_lconst, ↓vl_ldc, ↓vl_ldcw, ↓vl_ldc2, ↓vl_iload0, ↓vl_aload0, ↓vl_istore0, ↓vl_iinc0, ↓vl_iload1, ↓vl_aload1, ↓vl_istore1, ↓vl_iinc1, ↓vl_iload2, ↓vl_aload2, ↓vl_istore2, ↓vl_iinc2, ↓vl_iload3, ↓vl_aload3, ↓vl_istore3, ↓vl_iinc3, ↓vl_iload4, ↓vl_istore4, ↓vl_iinc4, ↓vl_iload5, ↓vl_istore5, ↓vl_iinc5, ↓vl_iload6, ↓vl_istore6, ↓vl_iinc6, ↓vl_iload7, ↓vl_istore7, ↓vl_iinc7, ↓vl_lload5, ↓vl_lstore5, ↓vl_iadd, ↓vl_isub, ↓vl_imul, ↓vl_iand, ↓vl_ior, ↓vl_ixor, ↓vl_ishl, ↓vl_ishr, ↓vl_iushr, ↓vl_idiv, ↓vl_irem, ↓vl_ladd, ↓vl_lsub, ↓vl_lmul, ↓vl_lcmp, ↓vl_i2l, ↓vl_dup, ↓vl_dup2, ↓vl_gotoF, ↓vl_gotoB, ↓vl_nnF, ↓vl_ic_eqF, ↓vl_if_eqF, ↓vl_ic_eqB, ↓vl_if_eqB, ↓vl_ic_neF, ↓vl_if_neF, ↓vl_ic_neB, ↓vl_if_neB, ↓vl_ic_ltF, ↓vl_if_ltF, ↓vl_ic_ltB, ↓vl_if_ltB, ↓vl_ic_geF, ↓vl_if_geF, ↓vl_ic_geB, ↓vl_if_geB, ↓vl_ic_gtF, ↓vl_if_gtF, ↓vl_ic_gtB, ↓vl_if_gtB, ↓vl_ic_leF, ↓vl_if_leF, ↓vl_ic_leB, ↓vl_if_leB, ↓vl_sw, ↓vl_get, ↓vl_putI, ↓vl_putL, ↓vl_iald, ↓vl_iast, ↓vl_alen, ↓vl_aald, ↓vl_iretI, ↓vl_iretZ, ↓vl_ret, ↓vl_mark, ↓vl_markT, ↓vl_skip, ↓vl_st0, ↓vl_vi0, ↓vl_st1, ↓vl_vi1, ↓vl_st2, ↓vl_vi2, ↓vl_st3, ↓vl_vi3, ↓vl_st4, ↓vl_vi4, ↓vl_st5, ↓vl_vi5, ↓vl_st6, ↓vl_vi6, ↓vl_min, ↓vl_max, ↓vl_cpy, ↓vk_kvs, ↓vk_kvn, ↓vk_gf0, ↓vk_gv0, ↓vk_gv1, ↓vk_gv2, ↓vk_pf, ↓vk_ar, ↓vk_arr, bc_lay, bc_fn, bc_mk, bc_cs, bc_cat, bc_nl, bc_nth, bc_en, bc_sw, true_and, and_true, ↓reduceIte, reduceCtorEq, Nat.reduceEqDiff, Nat.reduceLeDiff, Nat.reduceAdd, Nat.le_refl, Nat.zero_le, Int.cast_ofNat_Int, Int.reduceEq, eq_self, true_implies, false_implies, not_true_eq_false, not_false_eq_true, bc_vr, Int.reduceToNat, Int.toNat_natCast, Int.reduceLE, Int.reduceLT, Int.reduceNeg, true_or, or_true, forall_const, Int.reduceAdd]
  refine l7_vol_2 (h0 := h) (fun h1 hG1 hf1 => ?_) 6 0 h (by omega) (fun f hf => by omega) ⟨fun _ _ _ => rfl, fun _ _ _ => rfl⟩
  refine l7_vol_44 hV (h0 := h1) (lo := lo) (hi := hi) (pd_M_fr hM (hf1.2 106 (by omega) (by omega))) (fun o ho => by rw [hf1.2 110 (by omega) (by omega), hf1.2 111 (by omega) (by omega)]; exact hl o ho) (fun h2 hS2 hf2 => ?_) (D 0).toNat 0 h1 (by omega) (fun f hf => by simp [pd_bl, pd_sf]; exact hG1 f hf) ⟨fun _ _ _ => rfl, fun _ _ _ => rfl⟩
  refine l7_vol_151 (h0 := h) hS2 (pd_bd_sf blo (by omega)) (pd_bd_sf blo (by omega)) (pd_bd_sf bhi (by omega)) (pd_bd_sf bhi (by omega)) (fun j a b => by rw [hf2.1 j a b, hf1.1 j a b]) (fun c a b => by rw [hf2.2 c a b, hf1.2 c a b]) (fun h' b hb e1 e2 e3 e4 => ?_)
  subst hb
  exact kk h' e1 e2 ⟨e3, e4⟩
end MVol2
end
section
/-! PURE: the reference's codes are the sets, those with the first by rank first -/
theorem bc_bit_nat (c j : Nat) (hc : c < 2 ^ 31) (hj : j < 32) : bc_bit (c : Int) j = c.testBit j := by
  unfold bc_bit
  have e : (Int32.ofInt (c : Int)).toBitVec = BitVec.ofNat 32 c := by
    show (Int32.ofNat c).toBitVec = _
    rfl
  rw [e, BitVec.getLsbD_ofNat]
  simp [hj]
theorem pd_tb (c j : Nat) : c.testBit j = true ↔ 2 ^ j ≤ c % 2 ^ (j + 1) := by
  rw [Nat.testBit_eq_decide_div_mod_eq, decide_eq_true_eq, Nat.pow_succ, Nat.mod_mul]
  have h1 : c % 2 ^ j < 2 ^ j := Nat.mod_lt _ (Nat.two_pow_pos j)
  have h2 : c / 2 ^ j % 2 = 0 ∨ c / 2 ^ j % 2 = 1 := by omega
  rcases h2 with e | e <;> rw [e] <;> constructor <;> intro h
  · omega
  · simp at h; omega
  · simp
  · rfl
theorem pd_mod1 (c j : Nat) (h : 2 ^ j ≤ c % 2 ^ (j + 1)) : c % 2 ^ (j + 1) - 2 ^ j = c % 2 ^ j := by
  rw [Nat.pow_succ, Nat.mod_mul] at h ⊢
  have h1 : c % 2 ^ j < 2 ^ j := Nat.mod_lt _ (Nat.two_pow_pos j)
  have h2 : c / 2 ^ j % 2 = 0 ∨ c / 2 ^ j % 2 = 1 := by omega
  rcases h2 with e | e
  · rw [e] at h; simp at h; omega
  · rw [e]; simp
theorem pd_mod0 (c j : Nat) (h : ¬ 2 ^ j ≤ c % 2 ^ (j + 1)) : c % 2 ^ (j + 1) = c % 2 ^ j := by
  rw [Nat.pow_succ, Nat.mod_mul] at h ⊢
  have h2 : c / 2 ^ j % 2 = 0 ∨ c / 2 ^ j % 2 = 1 := by omega
  rcases h2 with e | e
  · rw [e]; simp
  · rw [e] at h; simp at h
def pd_sc : List Nat → Nat → List Nat
  | [], _ => []
  | x :: R, c => if 2 ^ R.length ≤ c then x :: pd_sc R (c - 2 ^ R.length) else pd_sc R c
theorem pd_sc_0 : ∀ R : List Nat, pd_sc R 0 = [] := by
  intro R
  induction R with
  | nil => rfl
  | cons x R ih =>
    have := Nat.two_pow_pos R.length
    rw [pd_sc, if_neg (by omega), ih]
theorem pd_sc_sub : ∀ (R : List Nat) (c : Nat), (pd_sc R c).Sublist R := by
  intro R
  induction R with
  | nil => intro c; exact List.Sublist.refl _
  | cons x R ih =>
    intro c
    rw [pd_sc]
    split
    · exact (ih _).cons_cons x
    · exact (ih _).cons x
def pd_cd (R : List Nat) : Nat → List (List Nat)
  | 0 => []
  | c + 1 => pd_sc R (c + 1) :: pd_cd R c
theorem pd_cd_low {x : Nat} {R : List Nat} : ∀ c, c < 2 ^ R.length → pd_cd (x :: R) c = pd_cd R c := by
  intro c
  induction c with
  | zero => intro _; rfl
  | succ c ih =>
    intro h
    rw [pd_cd, pd_cd, ih (by omega), pd_sc, if_neg (by omega)]
theorem pd_cd_high {x : Nat} {R : List Nat} : ∀ c, c < 2 ^ R.length → pd_cd (x :: R) (2 ^ R.length + c) = (pd_cd R c).map (fun S => x :: S) ++ [x] :: pd_cd (x :: R) (2 ^ R.length - 1) := by
  intro c
  induction c with
  | zero =>
    intro h
    obtain ⟨n, hn⟩ : ∃ n, 2 ^ R.length = n + 1 := ⟨2 ^ R.length - 1, by omega⟩
    rw [Nat.add_zero]
    show pd_cd (x :: R) (2 ^ R.length) = [x] :: pd_cd (x :: R) (2 ^ R.length - 1)
    rw [hn, pd_cd, pd_sc, if_pos (by omega), hn, Nat.sub_self, pd_sc_0]
    rfl
  | succ c ih =>
    intro h
    rw [← Nat.add_assoc, pd_cd, ih (by omega), pd_cd, pd_sc, if_pos (by omega)]
    have e : 2 ^ R.length + c + 1 - 2 ^ R.length = c + 1 := by omega
    rw [e]
    rfl
theorem pd_cd_subs : ∀ R : List Nat, pd_cd R (2 ^ R.length - 1) ++ [[]] = pd_subs (fun _ => false) R := by
  intro R
  induction R with
  | nil => rfl
  | cons x R ih =>
    have hp := Nat.two_pow_pos R.length
    have e : 2 ^ (x :: R).length - 1 = 2 ^ R.length + (2 ^ R.length - 1) := by
      rw [List.length_cons, Nat.pow_succ]; omega
    rw [e, pd_cd_high _ (by omega), pd_cd_low _ (by omega), pd_subs, ← ih]
    simp
theorem pd_scan_cd {V mk : List Nat → Int} {R : List Nat} {a : Int × Int} (h0 : V [] ≤ 0) (ha : 0 ≤ a.1) : pd_scan V mk (pd_cd R (2 ^ R.length - 1)) a = pd_scan V mk (pd_subs (fun _ => false) R) a := by
  rw [← pd_cd_subs, pd_scan_app]
  have := (pd_scan_spec V mk (pd_cd R (2 ^ R.length - 1)) a).1
  show _ = pd_scan V mk [[]] _
  rw [pd_scan, pd_scan, if_neg (by omega)]
theorem pd_subs_congr {p q : Nat → Bool} : ∀ R : List Nat, (∀ x ∈ R, p x = q x) → pd_subs p R = pd_subs q R := by
  intro R
  induction R with
  | nil => intro _; rfl
  | cons x R ih =>
    intro h
    rw [pd_subs, pd_subs, ih (fun y hy => h y (List.mem_cons_of_mem _ hy)), h x List.mem_cons_self]
/-- with leasts no more than sizes the reference's test is that of the sums alone -/
theorem pd_vb_can {D lo hi : Nat → Int} {S : List Nat} (hl : ∀ x ∈ S, 0 ≤ lo x ∧ lo x ≤ hi x) : pd_vb D lo hi S = true ↔ 0 ≤ pd_VM D lo hi S S := by
  have a0 : ∀ f, f < 6 → 0 ≤ pd_sf D lo 0 f S ∧ pd_sf D lo 0 f S ≤ pd_sf D hi 0 f S := fun f _ => ⟨pd_sf_nn S (fun x hx => (hl x hx).1), pd_sf_le S (fun x hx => (hl x hx).2)⟩
  have a1 : ∀ f, f < 6 → 0 ≤ pd_sf D lo 1 f S ∧ pd_sf D lo 1 f S ≤ pd_sf D hi 1 f S := fun f _ => ⟨pd_sf_nn S (fun x hx => (hl x hx).1), pd_sf_le S (fun x hx => (hl x hx).2)⟩
  unfold pd_vb pd_VM pd_vol
  rw [Bool.and_eq_true, decide_eq_true_eq, pd_fl_le]
  constructor
  · intro h
    have hm := (pd_my_iff 6).mp h.1
    have hc : pd_can (fun f => pd_sf D lo 0 f S) (fun f => pd_sf D lo 1 f S) (fun f => pd_sf D hi 0 f S) (fun f => pd_sf D hi 1 f S) = true := pd_can_iff.mpr ⟨hm, h.2.1, h.2.2.1⟩
    rw [if_pos hc]
    have t : 0 ≤ pd_t6 (fun f => pd_sf D lo 0 f S) := by
      have h0 := (a0 0 (by omega)).1; have h1 := (a0 1 (by omega)).1; have h2 := (a0 2 (by omega)).1; have h3 := (a0 3 (by omega)).1; have h4 := (a0 4 (by omega)).1; have h5 := (a0 5 (by omega)).1
      simp only [pd_t6]; omega
    omega
  · intro h
    by_cases hc : pd_can (fun f => pd_sf D lo 0 f S) (fun f => pd_sf D lo 1 f S) (fun f => pd_sf D hi 0 f S) (fun f => pd_sf D hi 1 f S) = true
    · obtain ⟨c1, c2, c3⟩ := pd_can_iff.mp hc
      refine ⟨(pd_my_iff 6).mpr c1, c2, c3, fun f hf => ?_⟩
      exact pd_own c1 a0 a1 hf
    · rw [if_neg hc] at h
      omega
theorem pd_VM_vc {D lo hi : Nat → Int} {S : List Nat} (h : 0 ≤ pd_VM D lo hi S S) : pd_VM D lo hi S S = pd_vc D hi S := by
  unfold pd_VM pd_vol at h ⊢
  split at h
  · rename_i hc
    rw [if_pos hc]; rfl
  · omega
theorem pd_VM_nil {D lo hi : Nat → Int} : pd_VM D lo hi [] [] = 0 := by
  have e : (fun f => pd_sf D lo 0 f []) = (fun _ => (0 : Int)) := rfl
  show pd_vol (fun _ => 0) (fun _ => 0) (fun _ => 0) (fun _ => 0) = 0
  decide +kernel
end
section
/-! the reference: laysChosen -/
section MCh
variable {d : Nat} {h : bc_AH} {post : Option bc_AV → bc_AH → Prop} {D : Nat → Int}
/-- what a call of laysChosen leaves alone -/
def pd_fc (h h' : bc_AH) : Prop := (∀ j : Nat, j ≠ 16 → j ≠ 23 → j ≠ 24 → j ≠ 25 → j ≠ 26 → h' 104 j = h 104 j) ∧ ∀ c : Nat, c ≠ 104 → c ≠ 109 → (c < 112 ∨ 115 < c) → h' c = h c
theorem pd_fc_trans {h h1 h2 : bc_AH} (x : pd_fc h h1) (y : pd_fc h1 h2) : pd_fc h h2 := ⟨fun j a b c e f => (y.1 j a b c e f).trans (x.1 j a b c e f), fun c a b e => (y.2 c a b e).trans (x.2 c a b e)⟩
def pd_CS (D lo hi : Nat → Int) (R : List Nat) (h : bc_AH) : Prop := pd_M 106 D h ∧ (∀ o : Nat, (o : Int) < D 0 → h 110 o = lo o ∧ h 111 o = hi o) ∧ ∀ (j x : Nat), R[j]? = some x → h 109 j = (x : Int)
theorem l7_ch_174 {n : Int} {c : Nat} (k : bc_AT (d + 4) 114 post 86 [some (.inr (.inr 104)), none, none, some (.inl n), some (.inl (c : Int)), none, none] [] h) : bc_AT (d + 4) 114 post 174 [some (.inr (.inr 104)), none, none, some (.inl n), some (.inl ((c + 1 : Nat) : Int)), none, none] [] h := by
  have e1 : ((c + 1 : Nat) : Int) + -1 = (c : Int) := by omega
  refine at_X7_laysChosen_174 ?_
  simp only [ks_X7_laysChosen_174, ↓vl_iconst, ↓vl_bipush, ↓vl_sipush, ↓vl_lconst, ↓vl_ldc, ↓vl_ldcw, ↓vl_ldc2, ↓vl_iload0, ↓vl_aload0, ↓vl_istore0, ↓vl_iinc0, ↓vl_iload1, ↓vl_aload1, ↓vl_istore1, ↓vl_iinc1, ↓vl_iload2, ↓vl_aload2, ↓vl_istore2, ↓vl_iinc2, ↓vl_iload3, ↓vl_aload3, ↓vl_istore3, ↓vl_iinc3, ↓vl_iload4, ↓vl_istore4, ↓vl_iinc4, ↓vl_iload5, ↓vl_istore5, ↓vl_iinc5, ↓vl_iload6, ↓vl_istore6, ↓vl_iinc6, ↓vl_iload7, ↓vl_istore7, ↓vl_iinc7, ↓vl_lload5, ↓vl_lstore5, ↓vl_iadd, ↓vl_isub, ↓vl_imul, ↓vl_iand, ↓vl_ior, ↓vl_ixor, ↓vl_ishl, ↓vl_ishr, ↓vl_iushr, ↓vl_idiv, ↓vl_irem, ↓vl_ladd, ↓vl_lsub, ↓vl_lmul, ↓vl_lcmp, ↓vl_i2l, ↓vl_dup, ↓vl_dup2, ↓vl_gotoF, ↓vl_gotoB, ↓vl_nnF, ↓vl_ic_eqF, ↓vl_if_eqF, ↓vl_ic_eqB, ↓vl_if_eqB, ↓vl_ic_neF, ↓vl_if_neF, ↓vl_ic_neB, ↓vl_if_neB, ↓vl_ic_ltF, ↓vl_if_ltF, ↓vl_ic_ltB, ↓vl_if_ltB, ↓vl_ic_geF, ↓vl_if_geF, ↓vl_ic_geB, ↓vl_if_geB, ↓vl_ic_gtF, ↓vl_if_gtF, ↓vl_ic_gtB, ↓vl_if_gtB, ↓vl_ic_leF, ↓vl_if_leF, ↓vl_ic_leB, ↓vl_if_leB, ↓vl_sw, ↓vl_get, ↓vl_putI, ↓vl_putL, ↓vl_iald, ↓vl_iast, ↓vl_alen, ↓vl_aald, ↓vl_iretI, ↓vl_iretZ, ↓vl_ret, ↓vl_mark, ↓vl_markT, ↓vl_skip, ↓vl_st0, ↓vl_vi0, ↓vl_st1, ↓vl_vi1, ↓vl_st2, ↓vl_vi2, ↓vl_st3, ↓vl_vi3, ↓vl_st4, ↓vl_vi4, ↓vl_st5, ↓vl_vi5, ↓vl_st6, ↓vl_vi6, ↓vl_min, ↓vl_max, ↓vl_cpy, ↓vk_kvs, ↓vk_kvn, ↓vk_gf0, ↓vk_gv0, ↓vk_gv1, ↓vk_gv2, ↓vk_pf, ↓vk_ar, ↓vk_arr, bc_lay, bc_fn, bc_mk, bc_cs, bc_cat, bc_nl, bc_nth, bc_en, bc_sw, true_and, and_true, ↓reduceIte, reduceCtorEq, Nat.reduceEqDiff, Nat.reduceLeDiff, Nat.reduceAdd, Nat.le_refl, Nat.zero_le, Int.cast_ofNat_Int, Int.reduceEq, eq_self, true_implies, false_implies, not_true_eq_false, not_false_eq_true, bc_vr, Int.reduceToNat, Int.toNat_natCast, Int.reduceLE, Int.reduceLT, Int.reduceNeg, true_or, or_true, forall_const, Int.reduceAdd, e1]
  exact k
set_option maxRecDepth 20000 in
theorem l7_ch_137 (hV : pd_V D) {lo hi : Nat → Int} {R S : List Nat} {n : Int} {c : Nat} {a : Int × Int} (hC : pd_CS D lo hi R h) (hS : S.Sublist R) (hR : R.Nodup) (hlt : ∀ x ∈ R, (x : Int) < D 0) (blo : ∀ x ∈ R, 0 ≤ lo x ∧ lo x ≤ hi x) (bhi : ∀ x ∈ R, hi x ≤ 999) (h26 : h 104 26 = a.1) (h25 : h 104 25 = a.2) (ha : 0 ≤ a.1 ∧ a.1 ≤ 600000)
    (k : ∀ h', pd_CS D lo hi R h' → pd_fc h h' → h' 104 26 = (if a.1 < pd_VM D lo hi S S then (pd_VM D lo hi S S, pd_ml S) else a).1 → h' 104 25 = (if a.1 < pd_VM D lo hi S S then (pd_VM D lo hi S S, pd_ml S) else a).2 → bc_AT (d + 4) 114 post 86 [some (.inr (.inr 104)), none, none, some (.inl n), some (.inl (c : Int)), none, none] [] h') :
    bc_AT (d + 4) 114 post 137 [some (.inr (.inr 104)), none, none, some (.inl n), some (.inl ((c + 1 : Nat) : Int)), some (.inl (pd_ml S)), none] [] h := by
  have v0 := hV.1
  have hlt32 : ∀ x ∈ S, x < 32 := fun x hx => by have := hlt x (hS.subset hx); omega
  have hmem : ∀ x, x ∈ pd_bl (bc_bit (pd_ml S)) (D 0).toNat ↔ x ∈ S := by
    intro x
    rw [pd_bl_mem]
    constructor
    · intro q
      have := q.2
      rw [pd_ml_bit hlt32 (by omega)] at this
      simpa using this
    · intro q
      have h1 := hlt x (hS.subset q)
      refine ⟨by omega, ?_⟩
      rw [pd_ml_bit hlt32 (by omega)]
      simpa using q
  have hnS : S.Nodup := hS.nodup hR
  have eV : pd_VM D lo hi (pd_bl (bc_bit (pd_ml S)) (D 0).toNat) (pd_bl (bc_bit (pd_ml S)) (D 0).toNat) = pd_VM D lo hi S S := pd_VM_same (pd_bl_nodup _) hnS hmem
  have hvb := pd_vb_can (D := D) (lo := lo) (hi := hi) (S := pd_bl (bc_bit (pd_ml S)) (D 0).toNat) (fun x hx => blo x (hS.subset ((hmem x).mp hx)))
  rw [eV] at hvb
  have hb1 : ∀ x ∈ pd_bl (bc_bit (pd_ml S)) (D 0).toNat, 0 ≤ lo x ∧ lo x ≤ 999 := fun x hx => by
    have h1 := blo x (hS.subset ((hmem x).mp hx)); have h2 := bhi x (hS.subset ((hmem x).mp hx)); omega
  have hb2 : ∀ x ∈ pd_bl (bc_bit (pd_ml S)) (D 0).toNat, 0 ≤ hi x ∧ hi x ≤ 999 := fun x hx => by
    have h1 := blo x (hS.subset ((hmem x).mp hx)); have h2 := bhi x (hS.subset ((hmem x).mp hx)); omega
  have hlen := pd_bl_len (p := bc_bit (pd_ml S)) (D 0).toNat
  have hVb := pd_VM_bd (D := D) (lo := lo) (T := pd_bl (bc_bit (pd_ml S)) (D 0).toNat) hb2 (by omega)
  rw [eV] at hVb
  refine at_X7_laysChosen_137 ?_
  simp only [ks_X7_laysChosen_137, ↓vl_iconst, ↓vl_bipush, ↓vl_sipush, ↓vl_lconst, ↓vl_ldc, ↓vl_ldcw, ↓vl_ldc2, ↓vl_iload0, ↓vl_aload0, ↓vl_istore0, ↓vl_iinc0, ↓vl_iload1, ↓vl_aload1, ↓vl_istore1, ↓vl_iinc1, ↓vl_iload2, ↓vl_aload2, ↓vl_istore2, ↓vl_iinc2, ↓vl_iload3, ↓vl_aload3, ↓vl_istore3, ↓vl_iinc3, ↓vl_iload4, ↓vl_istore4, ↓vl_iinc4, ↓vl_iload5, ↓vl_istore5, ↓vl_iinc5, ↓vl_iload6, ↓vl_istore6, ↓vl_iinc6, ↓vl_iload7, ↓vl_istore7, ↓vl_iinc7, ↓vl_lload5, ↓vl_lstore5, ↓vl_iadd, ↓vl_isub, ↓vl_imul, ↓vl_iand, ↓vl_ior, ↓vl_ixor, ↓vl_ishl, ↓vl_ishr, ↓vl_iushr, ↓vl_idiv, ↓vl_irem, ↓vl_ladd, ↓vl_lsub, ↓vl_lmul, ↓vl_lcmp, ↓vl_i2l, ↓vl_dup, ↓vl_dup2, ↓vl_gotoF, ↓vl_gotoB, ↓vl_nnF, ↓vl_ic_eqF, ↓vl_if_eqF, ↓vl_ic_eqB, ↓vl_if_eqB, ↓vl_ic_neF, ↓vl_if_neF, ↓vl_ic_neB, ↓vl_if_neB, ↓vl_ic_ltF, ↓vl_if_ltF, ↓vl_ic_ltB, ↓vl_if_ltB, ↓vl_ic_geF, ↓vl_if_geF, ↓vl_ic_geB, ↓vl_if_geB, ↓vl_ic_gtF, ↓vl_if_gtF, ↓vl_ic_gtB, ↓vl_if_gtB, ↓vl_ic_leF, ↓vl_if_leF, ↓vl_ic_leB, ↓vl_if_leB, ↓vl_sw, ↓vl_get, ↓vl_putI, ↓vl_putL, ↓vl_iald, ↓vl_iast, ↓vl_alen, ↓vl_aald, ↓vl_iretI, ↓vl_iretZ, ↓vl_ret, ↓vl_mark, ↓vl_markT, ↓vl_skip, ↓vl_st0, ↓vl_vi0, ↓vl_st1, ↓vl_vi1, ↓vl_st2, ↓vl_vi2, ↓vl_st3, ↓vl_vi3, ↓vl_st4, ↓vl_vi4, ↓vl_st5, ↓vl_vi5, ↓vl_st6, ↓vl_vi6, ↓vl_min, ↓vl_max, ↓vl_cpy, ↓vk_kvs, ↓vk_kvn, ↓vk_gf0, ↓vk_gv0, ↓vk_gv1, ↓vk_gv2, ↓vk_pf, ↓vk_ar, ↓vk_arr, bc_lay, bc_fn, bc_mk, bc_cs, bc_cat, bc_nl, bc_nth, bc_en, bc_sw, true_and, and_true, ↓reduceIte, reduceCtorEq, Nat.reduceEqDiff, Nat.reduceLeDiff, Nat.reduceAdd, Nat.le_refl, Nat.zero_le, Int.cast_ofNat_Int, Int.reduceEq, eq_self, true_implies, false_implies, not_true_eq_false, not_false_eq_true, bc_vr, Int.reduceToNat, Int.toNat_natCast, Int.reduceLE, Int.reduceLT, Int.reduceNeg, true_or, or_true, forall_const, Int.reduceAdd]
  refine c7_laysVolumes hC.1 hV hC.2.1 hb1 hb2 (fun h1 e23 e24 hf => ?_)
  have hC1 : pd_CS D lo hi R h1 := ⟨pd_M_fr hC.1 (hf.2 106 (by omega) (by omega)), fun o ho => by rw [hf.2 110 (by omega) (by omega), hf.2 111 (by omega) (by omega)]; exact hC.2.1 o ho, fun j x hx => by rw [hf.2 109 (by omega) (by omega)]; exact hC.2.2 j x hx⟩
  have hfc1 : pd_fc h h1 := ⟨fun j _ b c _ _ => hf.1 j b c, fun c a _ e => hf.2 c a e⟩
  have f26 : h1 104 26 = a.1 := by rw [hf.1 26 (by omega) (by omega)]; exact h26
  have f25 : h1 104 25 = a.2 := by rw [hf.1 25 (by omega) (by omega)]; exact h25
  by_cases hb : pd_vb D lo hi (pd_bl (bc_bit (pd_ml S)) (D 0).toNat) = true
  · have hge := hvb.mp hb
    have evc := pd_VM_vc (D := D) (lo := lo) (hi := hi) (S := pd_bl (bc_bit (pd_ml S)) (D 0).toNat) (by rw [eV]; exact hge)
    rw [eV] at evc
    simp only [↓vl_iconst, ↓vl_bipush, ↓vl_sipush, ↓vl_lconst, ↓vl_ldc, ↓vl_ldcw, ↓vl_ldc2, ↓vl_iload0, ↓vl_aload0, ↓vl_istore0, ↓vl_iinc0, ↓vl_iload1, ↓vl_aload1, ↓vl_istore1, ↓vl_iinc1, ↓vl_iload2, ↓vl_aload2, ↓vl_istore2, ↓vl_iinc2, ↓vl_iload3, ↓vl_aload3, ↓vl_istore3, ↓vl_iinc3, ↓vl_iload4, ↓vl_istore4, ↓vl_iinc4, ↓vl_iload5, ↓vl_istore5, ↓vl_iinc5, ↓vl_iload6, ↓vl_istore6, ↓vl_iinc6, ↓vl_iload7, ↓vl_istore7, ↓vl_iinc7, ↓vl_lload5, ↓vl_lstore5, ↓vl_iadd, ↓vl_isub, ↓vl_imul, ↓vl_iand, ↓vl_ior, ↓vl_ixor, ↓vl_ishl, ↓vl_ishr, ↓vl_iushr, ↓vl_idiv, ↓vl_irem, ↓vl_ladd, ↓vl_lsub, ↓vl_lmul, ↓vl_lcmp, ↓vl_i2l, ↓vl_dup, ↓vl_dup2, ↓vl_gotoF, ↓vl_gotoB, ↓vl_nnF, ↓vl_ic_eqF, ↓vl_if_eqF, ↓vl_ic_eqB, ↓vl_if_eqB, ↓vl_ic_neF, ↓vl_if_neF, ↓vl_ic_neB, ↓vl_if_neB, ↓vl_ic_ltF, ↓vl_if_ltF, ↓vl_ic_ltB, ↓vl_if_ltB, ↓vl_ic_geF, ↓vl_if_geF, ↓vl_ic_geB, ↓vl_if_geB, ↓vl_ic_gtF, ↓vl_if_gtF, ↓vl_ic_gtB, ↓vl_if_gtB, ↓vl_ic_leF, ↓vl_if_leF, ↓vl_ic_leB, ↓vl_if_leB, ↓vl_sw, ↓vl_get, ↓vl_putI, ↓vl_putL, ↓vl_iald, ↓vl_iast, ↓vl_alen, ↓vl_aald, ↓vl_iretI, ↓vl_iretZ, ↓vl_ret, ↓vl_mark, ↓vl_markT, ↓vl_skip, ↓vl_st0, ↓vl_vi0, ↓vl_st1, ↓vl_vi1, ↓vl_st2, ↓vl_vi2, ↓vl_st3, ↓vl_vi3, ↓vl_st4, ↓vl_vi4, ↓vl_st5, ↓vl_vi5, ↓vl_st6, ↓vl_vi6, ↓vl_min, ↓vl_max, ↓vl_cpy, ↓vk_kvs, ↓vk_kvn, ↓vk_gf0, ↓vk_gv0, ↓vk_gv1, ↓vk_gv2, ↓vk_pf, ↓vk_ar, ↓vk_arr, bc_lay, bc_fn, bc_mk, bc_cs, bc_cat, bc_nl, bc_nth, bc_en, bc_sw, true_and, and_true, ↓reduceIte, reduceCtorEq, Nat.reduceEqDiff, Nat.reduceLeDiff, Nat.reduceAdd, Nat.le_refl, Nat.zero_le, Int.cast_ofNat_Int, Int.reduceEq, eq_self, true_implies, false_implies, not_true_eq_false, not_false_eq_true, bc_vr, Int.reduceToNat, Int.toNat_natCast, Int.reduceLE, Int.reduceLT, Int.reduceNeg, true_or, or_true, forall_const, Int.reduceAdd, hb, e24, f26, ← evc]
    refine ⟨⟨by omega, by omega⟩, ⟨by omega, by omega⟩, fun c1 => ?_, fun c1 => ?_⟩
    · rw [if_pos c1] at k
      refine l7_ch_174 (k _ ⟨fun j hj => by simp [bc_up]; exact hC1.1 j hj, fun o ho => by simp [bc_up]; exact hC1.2.1 o ho, fun j x hx => by simp [bc_up]; exact hC1.2.2 j x hx⟩ ⟨fun j a b c e f => by simp [bc_up, e, f]; exact hfc1.1 j a b c e f, fun c a b e => by funext q; simp [bc_up, a]; rw [hfc1.2 c a b e]⟩ ?_ ?_)
      · simp [bc_up, e24, evc]
      · simp [bc_up]
    · rw [if_neg c1] at k
      exact l7_ch_174 (k h1 hC1 hfc1 f26 f25)
  · have hb' : pd_vb D lo hi (pd_bl (bc_bit (pd_ml S)) (D 0).toNat) = false := by simpa using hb
    have hlt0 : pd_VM D lo hi S S < 0 := by
      by_cases q : 0 ≤ pd_VM D lo hi S S
      · exact absurd (hvb.mpr q) hb
      · omega
    rw [if_neg (by omega)] at k
    simp only [↓vl_iconst, ↓vl_bipush, ↓vl_sipush, ↓vl_lconst, ↓vl_ldc, ↓vl_ldcw, ↓vl_ldc2, ↓vl_iload0, ↓vl_aload0, ↓vl_istore0, ↓vl_iinc0, ↓vl_iload1, ↓vl_aload1, ↓vl_istore1, ↓vl_iinc1, ↓vl_iload2, ↓vl_aload2, ↓vl_istore2, ↓vl_iinc2, ↓vl_iload3, ↓vl_aload3, ↓vl_istore3, ↓vl_iinc3, ↓vl_iload4, ↓vl_istore4, ↓vl_iinc4, ↓vl_iload5, ↓vl_istore5, ↓vl_iinc5, ↓vl_iload6, ↓vl_istore6, ↓vl_iinc6, ↓vl_iload7, ↓vl_istore7, ↓vl_iinc7, ↓vl_lload5, ↓vl_lstore5, ↓vl_iadd, ↓vl_isub, ↓vl_imul, ↓vl_iand, ↓vl_ior, ↓vl_ixor, ↓vl_ishl, ↓vl_ishr, ↓vl_iushr, ↓vl_idiv, ↓vl_irem, ↓vl_ladd, ↓vl_lsub, ↓vl_lmul, ↓vl_lcmp, ↓vl_i2l, ↓vl_dup, ↓vl_dup2, ↓vl_gotoF, ↓vl_gotoB, ↓vl_nnF, ↓vl_ic_eqF, ↓vl_if_eqF, ↓vl_ic_eqB, ↓vl_if_eqB, ↓vl_ic_neF, ↓vl_if_neF, ↓vl_ic_neB, ↓vl_if_neB, ↓vl_ic_ltF, ↓vl_if_ltF, ↓vl_ic_ltB, ↓vl_if_ltB, ↓vl_ic_geF, ↓vl_if_geF, ↓vl_ic_geB, ↓vl_if_geB, ↓vl_ic_gtF, ↓vl_if_gtF, ↓vl_ic_gtB, ↓vl_if_gtB, ↓vl_ic_leF, ↓vl_if_leF, ↓vl_ic_leB, ↓vl_if_leB, ↓vl_sw, ↓vl_get, ↓vl_putI, ↓vl_putL, ↓vl_iald, ↓vl_iast, ↓vl_alen, ↓vl_aald, ↓vl_iretI, ↓vl_iretZ, ↓vl_ret, ↓vl_mark, ↓vl_markT, ↓vl_skip, ↓vl_st0, ↓vl_vi0, ↓vl_st1, ↓vl_vi1, ↓vl_st2, ↓vl_vi2, ↓vl_st3, ↓vl_vi3, ↓vl_st4, ↓vl_vi4, ↓vl_st5, ↓vl_vi5, ↓vl_st6, ↓vl_vi6, ↓vl_min, ↓vl_max, ↓vl_cpy, ↓vk_kvs, ↓vk_kvn, ↓vk_gf0, ↓vk_gv0, ↓vk_gv1, ↓vk_gv2, ↓vk_pf, ↓vk_ar, ↓vk_arr, bc_lay, bc_fn, bc_mk, bc_cs, bc_cat, bc_nl, bc_nth, bc_en, bc_sw, true_and, and_true, ↓reduceIte, reduceCtorEq, Nat.reduceEqDiff, Nat.reduceLeDiff, Nat.reduceAdd, Nat.le_refl, Nat.zero_le, Int.cast_ofNat_Int, Int.reduceEq, eq_self, true_implies, false_implies, not_true_eq_false, not_false_eq_true, bc_vr, Int.reduceToNat, Int.toNat_natCast, Int.reduceLE, Int.reduceLT, Int.reduceNeg, true_or, or_true, forall_const, Int.reduceAdd, hb', Bool.false_eq_true]
    exact l7_ch_174 (k h1 hC1 hfc1 f26 f25)
-- the inner loop: the set of a code
set_option maxRecDepth 20000 in
theorem l7_ch_97 {lo hi : Nat → Int} {R : List Nat} {c : Nat} (hR10 : R.length ≤ 10) (hlt : ∀ x ∈ R, x < 32) (hc : c < 2048) (hC : pd_CS D lo hi R h) (hV : pd_V D) {T : List Nat}
    (k : bc_AT (d + 4) 114 post 137 [some (.inr (.inr 104)), none, none, some (.inl (R.length : Int)), some (.inl (c : Int)), some (.inl (pd_ml T)), none] [] h) :
    ∀ (R' : List Nat) (j : Nat) (s : Int), R.drop j = R' → j + R'.length = R.length → pd_mlk s (pd_sc R' (c % 2 ^ R'.length)) = pd_ml T → bc_AT (d + 4) 114 post 97 [some (.inr (.inr 104)), none, none, some (.inl (R.length : Int)), some (.inl (c : Int)), some (.inl s), some (.inl (j : Int))] [] h := by
  intro R'
  induction R' with
  | nil =>
    intro j s hd hj hs
    simp only [List.length_nil] at hj
    have e : pd_ml T = s := by rw [← hs]; rfl
    rw [e] at k
    refine at_X7_laysChosen_97 ?_
    simp only [ks_X7_laysChosen_97, ks_X7_laysChosen_131, ↓vl_iconst, ↓vl_bipush, ↓vl_sipush, ↓vl_lconst, ↓vl_ldc, ↓vl_ldcw, ↓vl_ldc2, ↓vl_iload0, ↓vl_aload0, ↓vl_istore0, ↓vl_iinc0, ↓vl_iload1, ↓vl_aload1, ↓vl_istore1, ↓vl_iinc1, ↓vl_iload2, ↓vl_aload2, ↓vl_istore2, ↓vl_iinc2, ↓vl_iload3, ↓vl_aload3, ↓vl_istore3, ↓vl_iinc3, ↓vl_iload4, ↓vl_istore4, ↓vl_iinc4, ↓vl_iload5, ↓vl_istore5, ↓vl_iinc5, ↓vl_iload6, ↓vl_istore6, ↓vl_iinc6, ↓vl_iload7, ↓vl_istore7, ↓vl_iinc7, ↓vl_lload5, ↓vl_lstore5, ↓vl_iadd, ↓vl_isub, ↓vl_imul, ↓vl_iand, ↓vl_ior, ↓vl_ixor, ↓vl_ishl, ↓vl_ishr, ↓vl_iushr, ↓vl_idiv, ↓vl_irem, ↓vl_ladd, ↓vl_lsub, ↓vl_lmul, ↓vl_lcmp, ↓vl_i2l, ↓vl_dup, ↓vl_dup2, ↓vl_gotoF, ↓vl_gotoB, ↓vl_nnF, ↓vl_ic_eqF, ↓vl_if_eqF, ↓vl_ic_eqB, ↓vl_if_eqB, ↓vl_ic_neF, ↓vl_if_neF, ↓vl_ic_neB, ↓vl_if_neB, ↓vl_ic_ltF, ↓vl_if_ltF, ↓vl_ic_ltB, ↓vl_if_ltB, ↓vl_ic_geF, ↓vl_if_geF, ↓vl_ic_geB, ↓vl_if_geB, ↓vl_ic_gtF, ↓vl_if_gtF, ↓vl_ic_gtB, ↓vl_if_gtB, ↓vl_ic_leF, ↓vl_if_leF, ↓vl_ic_leB, ↓vl_if_leB, ↓vl_sw, ↓vl_get, ↓vl_putI, ↓vl_putL, ↓vl_iald, ↓vl_iast, ↓vl_alen, ↓vl_aald, ↓vl_iretI, ↓vl_iretZ, ↓vl_ret, ↓vl_mark, ↓vl_markT, ↓vl_skip, ↓vl_st0, ↓vl_vi0, ↓vl_st1, ↓vl_vi1, ↓vl_st2, ↓vl_vi2, ↓vl_st3, ↓vl_vi3, ↓vl_st4, ↓vl_vi4, ↓vl_st5, ↓vl_vi5, ↓vl_st6, ↓vl_vi6, ↓vl_min, ↓vl_max, ↓vl_cpy, ↓vk_kvs, ↓vk_kvn, ↓vk_gf0, ↓vk_gv0, ↓vk_gv1, ↓vk_gv2, ↓vk_pf, ↓vk_ar, ↓vk_arr, bc_lay, bc_fn, bc_mk, bc_cs, bc_cat, bc_nl, bc_nth, bc_en, bc_sw, true_and, and_true, ↓reduceIte, reduceCtorEq, Nat.reduceEqDiff, Nat.reduceLeDiff, Nat.reduceAdd, Nat.le_refl, Nat.zero_le, Int.cast_ofNat_Int, Int.reduceEq, eq_self, true_implies, false_implies, not_true_eq_false, not_false_eq_true, bc_vr, Int.reduceToNat, Int.toNat_natCast, Int.reduceLE, Int.reduceLT, Int.reduceNeg, true_or, or_true, forall_const, Int.reduceAdd]
    exact ⟨⟨by omega, by omega⟩, ⟨by omega, by omega⟩, fun _ => k, fun q => absurd q (by omega)⟩
  | cons x R' ih =>
    intro j s hd hj hs
    rw [List.length_cons] at hj hs
    have hx : R[j]? = some x := by
      have : (R.drop j)[0]? = some x := by rw [hd]; rfl
      simpa using this
    have hd2 : R.drop (j + 1) = R' := by
      have : (R.drop j).drop 1 = R' := by rw [hd]; rfl
      rw [List.drop_drop] at this
      exact this
    have h109 := hC.2.2 j x hx
    have e1 : (j : Int) + 1 = ((j + 1 : Nat) : Int) := by omega
    have e2 : (R.length : Int) - 1 - (j : Int) = ((R'.length : Nat) : Int) := by omega
    have hbit := bc_bit_nat c R'.length (by omega) (by omega)
    have htb := pd_tb c R'.length
    refine at_X7_laysChosen_97 ?_
    simp only [ks_X7_laysChosen_97, ks_X7_laysChosen_131, ↓vl_iconst, ↓vl_bipush, ↓vl_sipush, ↓vl_lconst, ↓vl_ldc, ↓vl_ldcw, ↓vl_ldc2, ↓vl_iload0, ↓vl_aload0, ↓vl_istore0, ↓vl_iinc0, ↓vl_iload1, ↓vl_aload1, ↓vl_istore1, ↓vl_iinc1, ↓vl_iload2, ↓vl_aload2, ↓vl_istore2, ↓vl_iinc2, ↓vl_iload3, ↓vl_aload3, ↓vl_istore3, ↓vl_iinc3, ↓vl_iload4, ↓vl_istore4, ↓vl_iinc4, ↓vl_iload5, ↓vl_istore5, ↓vl_iinc5, ↓vl_iload6, ↓vl_istore6, ↓vl_iinc6, ↓vl_iload7, ↓vl_istore7, ↓vl_iinc7, ↓vl_lload5, ↓vl_lstore5, ↓vl_iadd, ↓vl_isub, ↓vl_imul, ↓vl_iand, ↓vl_ior, ↓vl_ixor, ↓vl_ishl, ↓vl_ishr, ↓vl_iushr, ↓vl_idiv, ↓vl_irem, ↓vl_ladd, ↓vl_lsub, ↓vl_lmul, ↓vl_lcmp, ↓vl_i2l, ↓vl_dup, ↓vl_dup2, ↓vl_gotoF, ↓vl_gotoB, ↓vl_nnF, ↓vl_ic_eqF, ↓vl_if_eqF, ↓vl_ic_eqB, ↓vl_if_eqB, ↓vl_ic_neF, ↓vl_if_neF, ↓vl_ic_neB, ↓vl_if_neB, ↓vl_ic_ltF, ↓vl_if_ltF, ↓vl_ic_ltB, ↓vl_if_ltB, ↓vl_ic_geF, ↓vl_if_geF, ↓vl_ic_geB, ↓vl_if_geB, ↓vl_ic_gtF, ↓vl_if_gtF, ↓vl_ic_gtB, ↓vl_if_gtB, ↓vl_ic_leF, ↓vl_if_leF, ↓vl_ic_leB, ↓vl_if_leB, ↓vl_sw, ↓vl_get, ↓vl_putI, ↓vl_putL, ↓vl_iald, ↓vl_iast, ↓vl_alen, ↓vl_aald, ↓vl_iretI, ↓vl_iretZ, ↓vl_ret, ↓vl_mark, ↓vl_markT, ↓vl_skip, ↓vl_st0, ↓vl_vi0, ↓vl_st1, ↓vl_vi1, ↓vl_st2, ↓vl_vi2, ↓vl_st3, ↓vl_vi3, ↓vl_st4, ↓vl_vi4, ↓vl_st5, ↓vl_vi5, ↓vl_st6, ↓vl_vi6, ↓vl_min, ↓vl_max, ↓vl_cpy, ↓vk_kvs, ↓vk_kvn, ↓vk_gf0, ↓vk_gv0, ↓vk_gv1, ↓vk_gv2, ↓vk_pf, ↓vk_ar, ↓vk_arr, bc_lay, bc_fn, bc_mk, bc_cs, bc_cat, bc_nl, bc_nth, bc_en, bc_sw, true_and, and_true, ↓reduceIte, reduceCtorEq, Nat.reduceEqDiff, Nat.reduceLeDiff, Nat.reduceAdd, Nat.le_refl, Nat.zero_le, Int.cast_ofNat_Int, Int.reduceEq, eq_self, true_implies, false_implies, not_true_eq_false, not_false_eq_true, bc_vr, Int.reduceToNat, Int.toNat_natCast, Int.reduceLE, Int.reduceLT, Int.reduceNeg, true_or, or_true, forall_const, Int.reduceAdd, e2]
    refine ⟨⟨by omega, by omega⟩, ⟨by omega, by omega⟩, fun q => absurd q (by omega), fun _ => ?_⟩
    refine c7_has (by omega) (fun hb => ?_) (fun hb => ?_)
    · rw [hbit, htb] at hb
      rw [pd_sc, if_pos hb, pd_mod1 c R'.length hb, pd_mlk] at hs
      simp only [↓vl_iconst, ↓vl_bipush, ↓vl_sipush, ↓vl_lconst, ↓vl_ldc, ↓vl_ldcw, ↓vl_ldc2, ↓vl_iload0, ↓vl_aload0, ↓vl_istore0, ↓vl_iinc0, ↓vl_iload1, ↓vl_aload1, ↓vl_istore1, ↓vl_iinc1, ↓vl_iload2, ↓vl_aload2, ↓vl_istore2, ↓vl_iinc2, ↓vl_iload3, ↓vl_aload3, ↓vl_istore3, ↓vl_iinc3, ↓vl_iload4, ↓vl_istore4, ↓vl_iinc4, ↓vl_iload5, ↓vl_istore5, ↓vl_iinc5, ↓vl_iload6, ↓vl_istore6, ↓vl_iinc6, ↓vl_iload7, ↓vl_istore7, ↓vl_iinc7, ↓vl_lload5, ↓vl_lstore5, ↓vl_iadd, ↓vl_isub, ↓vl_imul, ↓vl_iand, ↓vl_ior, ↓vl_ixor, ↓vl_ishl, ↓vl_ishr, ↓vl_iushr, ↓vl_idiv, ↓vl_irem, ↓vl_ladd, ↓vl_lsub, ↓vl_lmul, ↓vl_lcmp, ↓vl_i2l, ↓vl_dup, ↓vl_dup2, ↓vl_gotoF, ↓vl_gotoB, ↓vl_nnF, ↓vl_ic_eqF, ↓vl_if_eqF, ↓vl_ic_eqB, ↓vl_if_eqB, ↓vl_ic_neF, ↓vl_if_neF, ↓vl_ic_neB, ↓vl_if_neB, ↓vl_ic_ltF, ↓vl_if_ltF, ↓vl_ic_ltB, ↓vl_if_ltB, ↓vl_ic_geF, ↓vl_if_geF, ↓vl_ic_geB, ↓vl_if_geB, ↓vl_ic_gtF, ↓vl_if_gtF, ↓vl_ic_gtB, ↓vl_if_gtB, ↓vl_ic_leF, ↓vl_if_leF, ↓vl_ic_leB, ↓vl_if_leB, ↓vl_sw, ↓vl_get, ↓vl_putI, ↓vl_putL, ↓vl_iald, ↓vl_iast, ↓vl_alen, ↓vl_aald, ↓vl_iretI, ↓vl_iretZ, ↓vl_ret, ↓vl_mark, ↓vl_markT, ↓vl_skip, ↓vl_st0, ↓vl_vi0, ↓vl_st1, ↓vl_vi1, ↓vl_st2, ↓vl_vi2, ↓vl_st3, ↓vl_vi3, ↓vl_st4, ↓vl_vi4, ↓vl_st5, ↓vl_vi5, ↓vl_st6, ↓vl_vi6, ↓vl_min, ↓vl_max, ↓vl_cpy, ↓vk_kvs, ↓vk_kvn, ↓vk_gf0, ↓vk_gv0, ↓vk_gv1, ↓vk_gv2, ↓vk_pf, ↓vk_ar, ↓vk_arr, bc_lay, bc_fn, bc_mk, bc_cs, bc_cat, bc_nl, bc_nth, bc_en, bc_sw, true_and, and_true, ↓reduceIte, reduceCtorEq, Nat.reduceEqDiff, Nat.reduceLeDiff, Nat.reduceAdd, Nat.le_refl, Nat.zero_le, Int.cast_ofNat_Int, Int.reduceEq, eq_self, true_implies, false_implies, not_true_eq_false, not_false_eq_true, bc_vr, Int.reduceToNat, Int.toNat_natCast, Int.reduceLE, Int.reduceLT, Int.reduceNeg, true_or, or_true, forall_const, Int.reduceAdd, h109]
      refine ⟨by omega, by omega, ?_⟩
      refine at_X7_laysChosen_131 ?_
      simp only [ks_X7_laysChosen_131, ↓vl_iconst, ↓vl_bipush, ↓vl_sipush, ↓vl_lconst, ↓vl_ldc, ↓vl_ldcw, ↓vl_ldc2, ↓vl_iload0, ↓vl_aload0, ↓vl_istore0, ↓vl_iinc0, ↓vl_iload1, ↓vl_aload1, ↓vl_istore1, ↓vl_iinc1, ↓vl_iload2, ↓vl_aload2, ↓vl_istore2, ↓vl_iinc2, ↓vl_iload3, ↓vl_aload3, ↓vl_istore3, ↓vl_iinc3, ↓vl_iload4, ↓vl_istore4, ↓vl_iinc4, ↓vl_iload5, ↓vl_istore5, ↓vl_iinc5, ↓vl_iload6, ↓vl_istore6, ↓vl_iinc6, ↓vl_iload7, ↓vl_istore7, ↓vl_iinc7, ↓vl_lload5, ↓vl_lstore5, ↓vl_iadd, ↓vl_isub, ↓vl_imul, ↓vl_iand, ↓vl_ior, ↓vl_ixor, ↓vl_ishl, ↓vl_ishr, ↓vl_iushr, ↓vl_idiv, ↓vl_irem, ↓vl_ladd, ↓vl_lsub, ↓vl_lmul, ↓vl_lcmp, ↓vl_i2l, ↓vl_dup, ↓vl_dup2, ↓vl_gotoF, ↓vl_gotoB, ↓vl_nnF, ↓vl_ic_eqF, ↓vl_if_eqF, ↓vl_ic_eqB, ↓vl_if_eqB, ↓vl_ic_neF, ↓vl_if_neF, ↓vl_ic_neB, ↓vl_if_neB, ↓vl_ic_ltF, ↓vl_if_ltF, ↓vl_ic_ltB, ↓vl_if_ltB, ↓vl_ic_geF, ↓vl_if_geF, ↓vl_ic_geB, ↓vl_if_geB, ↓vl_ic_gtF, ↓vl_if_gtF, ↓vl_ic_gtB, ↓vl_if_gtB, ↓vl_ic_leF, ↓vl_if_leF, ↓vl_ic_leB, ↓vl_if_leB, ↓vl_sw, ↓vl_get, ↓vl_putI, ↓vl_putL, ↓vl_iald, ↓vl_iast, ↓vl_alen, ↓vl_aald, ↓vl_iretI, ↓vl_iretZ, ↓vl_ret, ↓vl_mark, ↓vl_markT, ↓vl_skip, ↓vl_st0, ↓vl_vi0, ↓vl_st1, ↓vl_vi1, ↓vl_st2, ↓vl_vi2, ↓vl_st3, ↓vl_vi3, ↓vl_st4, ↓vl_vi4, ↓vl_st5, ↓vl_vi5, ↓vl_st6, ↓vl_vi6, ↓vl_min, ↓vl_max, ↓vl_cpy, ↓vk_kvs, ↓vk_kvn, ↓vk_gf0, ↓vk_gv0, ↓vk_gv1, ↓vk_gv2, ↓vk_pf, ↓vk_ar, ↓vk_arr, bc_lay, bc_fn, bc_mk, bc_cs, bc_cat, bc_nl, bc_nth, bc_en, bc_sw, true_and, and_true, ↓reduceIte, reduceCtorEq, Nat.reduceEqDiff, Nat.reduceLeDiff, Nat.reduceAdd, Nat.le_refl, Nat.zero_le, Int.cast_ofNat_Int, Int.reduceEq, eq_self, true_implies, false_implies, not_true_eq_false, not_false_eq_true, bc_vr, Int.reduceToNat, Int.toNat_natCast, Int.reduceLE, Int.reduceLT, Int.reduceNeg, true_or, or_true, forall_const, Int.reduceAdd]
      rw [e1]
      exact ih (j + 1) _ hd2 (by omega) hs
    · rw [hbit, htb] at hb
      rw [pd_sc, if_neg hb, pd_mod0 c R'.length hb] at hs
      simp only [↓vl_iconst, ↓vl_bipush, ↓vl_sipush, ↓vl_lconst, ↓vl_ldc, ↓vl_ldcw, ↓vl_ldc2, ↓vl_iload0, ↓vl_aload0, ↓vl_istore0, ↓vl_iinc0, ↓vl_iload1, ↓vl_aload1, ↓vl_istore1, ↓vl_iinc1, ↓vl_iload2, ↓vl_aload2, ↓vl_istore2, ↓vl_iinc2, ↓vl_iload3, ↓vl_aload3, ↓vl_istore3, ↓vl_iinc3, ↓vl_iload4, ↓vl_istore4, ↓vl_iinc4, ↓vl_iload5, ↓vl_istore5, ↓vl_iinc5, ↓vl_iload6, ↓vl_istore6, ↓vl_iinc6, ↓vl_iload7, ↓vl_istore7, ↓vl_iinc7, ↓vl_lload5, ↓vl_lstore5, ↓vl_iadd, ↓vl_isub, ↓vl_imul, ↓vl_iand, ↓vl_ior, ↓vl_ixor, ↓vl_ishl, ↓vl_ishr, ↓vl_iushr, ↓vl_idiv, ↓vl_irem, ↓vl_ladd, ↓vl_lsub, ↓vl_lmul, ↓vl_lcmp, ↓vl_i2l, ↓vl_dup, ↓vl_dup2, ↓vl_gotoF, ↓vl_gotoB, ↓vl_nnF, ↓vl_ic_eqF, ↓vl_if_eqF, ↓vl_ic_eqB, ↓vl_if_eqB, ↓vl_ic_neF, ↓vl_if_neF, ↓vl_ic_neB, ↓vl_if_neB, ↓vl_ic_ltF, ↓vl_if_ltF, ↓vl_ic_ltB, ↓vl_if_ltB, ↓vl_ic_geF, ↓vl_if_geF, ↓vl_ic_geB, ↓vl_if_geB, ↓vl_ic_gtF, ↓vl_if_gtF, ↓vl_ic_gtB, ↓vl_if_gtB, ↓vl_ic_leF, ↓vl_if_leF, ↓vl_ic_leB, ↓vl_if_leB, ↓vl_sw, ↓vl_get, ↓vl_putI, ↓vl_putL, ↓vl_iald, ↓vl_iast, ↓vl_alen, ↓vl_aald, ↓vl_iretI, ↓vl_iretZ, ↓vl_ret, ↓vl_mark, ↓vl_markT, ↓vl_skip, ↓vl_st0, ↓vl_vi0, ↓vl_st1, ↓vl_vi1, ↓vl_st2, ↓vl_vi2, ↓vl_st3, ↓vl_vi3, ↓vl_st4, ↓vl_vi4, ↓vl_st5, ↓vl_vi5, ↓vl_st6, ↓vl_vi6, ↓vl_min, ↓vl_max, ↓vl_cpy, ↓vk_kvs, ↓vk_kvn, ↓vk_gf0, ↓vk_gv0, ↓vk_gv1, ↓vk_gv2, ↓vk_pf, ↓vk_ar, ↓vk_arr, bc_lay, bc_fn, bc_mk, bc_cs, bc_cat, bc_nl, bc_nth, bc_en, bc_sw, true_and, and_true, ↓reduceIte, reduceCtorEq, Nat.reduceEqDiff, Nat.reduceLeDiff, Nat.reduceAdd, Nat.le_refl, Nat.zero_le, Int.cast_ofNat_Int, Int.reduceEq, eq_self, true_implies, false_implies, not_true_eq_false, not_false_eq_true, bc_vr, Int.reduceToNat, Int.toNat_natCast, Int.reduceLE, Int.reduceLT, Int.reduceNeg, true_or, or_true, forall_const, Int.reduceAdd]
      refine at_X7_laysChosen_131 ?_
      simp only [ks_X7_laysChosen_131, ↓vl_iconst, ↓vl_bipush, ↓vl_sipush, ↓vl_lconst, ↓vl_ldc, ↓vl_ldcw, ↓vl_ldc2, ↓vl_iload0, ↓vl_aload0, ↓vl_istore0, ↓vl_iinc0, ↓vl_iload1, ↓vl_aload1, ↓vl_istore1, ↓vl_iinc1, ↓vl_iload2, ↓vl_aload2, ↓vl_istore2, ↓vl_iinc2, ↓vl_iload3, ↓vl_aload3, ↓vl_istore3, ↓vl_iinc3, ↓vl_iload4, ↓vl_istore4, ↓vl_iinc4, ↓vl_iload5, ↓vl_istore5, ↓vl_iinc5, ↓vl_iload6, ↓vl_istore6, ↓vl_iinc6, ↓vl_iload7, ↓vl_istore7, ↓vl_iinc7, ↓vl_lload5, ↓vl_lstore5, ↓vl_iadd, ↓vl_isub, ↓vl_imul, ↓vl_iand, ↓vl_ior, ↓vl_ixor, ↓vl_ishl, ↓vl_ishr, ↓vl_iushr, ↓vl_idiv, ↓vl_irem, ↓vl_ladd, ↓vl_lsub, ↓vl_lmul, ↓vl_lcmp, ↓vl_i2l, ↓vl_dup, ↓vl_dup2, ↓vl_gotoF, ↓vl_gotoB, ↓vl_nnF, ↓vl_ic_eqF, ↓vl_if_eqF, ↓vl_ic_eqB, ↓vl_if_eqB, ↓vl_ic_neF, ↓vl_if_neF, ↓vl_ic_neB, ↓vl_if_neB, ↓vl_ic_ltF, ↓vl_if_ltF, ↓vl_ic_ltB, ↓vl_if_ltB, ↓vl_ic_geF, ↓vl_if_geF, ↓vl_ic_geB, ↓vl_if_geB, ↓vl_ic_gtF, ↓vl_if_gtF, ↓vl_ic_gtB, ↓vl_if_gtB, ↓vl_ic_leF, ↓vl_if_leF, ↓vl_ic_leB, ↓vl_if_leB, ↓vl_sw, ↓vl_get, ↓vl_putI, ↓vl_putL, ↓vl_iald, ↓vl_iast, ↓vl_alen, ↓vl_aald, ↓vl_iretI, ↓vl_iretZ, ↓vl_ret, ↓vl_mark, ↓vl_markT, ↓vl_skip, ↓vl_st0, ↓vl_vi0, ↓vl_st1, ↓vl_vi1, ↓vl_st2, ↓vl_vi2, ↓vl_st3, ↓vl_vi3, ↓vl_st4, ↓vl_vi4, ↓vl_st5, ↓vl_vi5, ↓vl_st6, ↓vl_vi6, ↓vl_min, ↓vl_max, ↓vl_cpy, ↓vk_kvs, ↓vk_kvn, ↓vk_gf0, ↓vk_gv0, ↓vk_gv1, ↓vk_gv2, ↓vk_pf, ↓vk_ar, ↓vk_arr, bc_lay, bc_fn, bc_mk, bc_cs, bc_cat, bc_nl, bc_nth, bc_en, bc_sw, true_and, and_true, ↓reduceIte, reduceCtorEq, Nat.reduceEqDiff, Nat.reduceLeDiff, Nat.reduceAdd, Nat.le_refl, Nat.zero_le, Int.cast_ofNat_Int, Int.reduceEq, eq_self, true_implies, false_implies, not_true_eq_false, not_false_eq_true, bc_vr, Int.reduceToNat, Int.toNat_natCast, Int.reduceLE, Int.reduceLT, Int.reduceNeg, true_or, or_true, forall_const, Int.reduceAdd]
      rw [e1]
      exact ih (j + 1) _ hd2 (by omega) hs
end MCh
end
section
/-! the reference: laysChosen, the codes, the filter, the contract -/
theorem bc_shl_pow : ∀ n : Nat, n < 11 → bc_shl 1 (n : Int) = ((2 ^ n : Nat) : Int) := by decide +kernel
theorem pd_pow_le {n : Nat} (h : n ≤ 10) : 2 ^ n ≤ 1024 := by
  have : 2 ^ n ≤ 2 ^ 10 := Nat.pow_le_pow_right (by omega) h
  simpa using this
section MCh
variable {d : Nat} {h : bc_AH} {post : Option bc_AV → bc_AH → Prop} {D : Nat → Int}
set_option maxRecDepth 20000 in
theorem l7_ch_86 (hV : pd_V D) {lo hi : Nat → Int} {R : List Nat} (hR10 : R.length ≤ 10) (hR : R.Nodup) (hlt : ∀ x ∈ R, (x : Int) < D 0) (blo : ∀ x ∈ R, 0 ≤ lo x ∧ lo x ≤ hi x) (bhi : ∀ x ∈ R, hi x ≤ 999) {h0 : bc_AH} :
    ∀ (c : Nat) (h : bc_AH) (a : Int × Int), c < 2 ^ R.length → pd_CS D lo hi R h → pd_fc h0 h → h 104 26 = a.1 → h 104 25 = a.2 → (0 ≤ a.1 ∧ a.1 ≤ 600000) →
      (∀ h', pd_fc h0 h' → h' 104 26 = (pd_scan (fun S => pd_VM D lo hi S S) pd_ml (pd_cd R c) a).1 → h' 104 25 = (pd_scan (fun S => pd_VM D lo hi S S) pd_ml (pd_cd R c) a).2 → post none h') →
      bc_AT (d + 4) 114 post 86 [some (.inr (.inr 104)), none, none, some (.inl (R.length : Int)), some (.inl (c : Int)), none, none] [] h := by
  have v0 := hV.1
  have hp := pd_pow_le hR10
  intro c
  induction c with
  | zero =>
    intro h a hc hC hf h26 h25 ha kk
    refine at_X7_laysChosen_86 ?_
    simp only [ks_X7_laysChosen_86, ks_X7_laysChosen_97, ks_X7_laysChosen_131, ks_X7_laysChosen_137, ks_X7_laysChosen_174, ↓vl_iconst, ↓vl_bipush, ↓vl_sipush, ↓vl_lconst, ↓vl_ldc, ↓vl_ldcw, ↓vl_ldc2, ↓vl_iload0, ↓vl_aload0, ↓vl_istore0, ↓vl_iinc0, ↓vl_iload1, ↓vl_aload1, ↓vl_istore1, ↓vl_iinc1, ↓vl_iload2, ↓vl_aload2, ↓vl_istore2, ↓vl_iinc2, ↓vl_iload3, ↓vl_aload3, ↓vl_istore3, ↓vl_iinc3, ↓vl_iload4, ↓vl_istore4, ↓vl_iinc4, ↓vl_iload5, ↓vl_istore5, ↓vl_iinc5, ↓vl_iload6, ↓vl_istore6, ↓vl_iinc6, ↓vl_iload7, ↓vl_istore7, ↓vl_iinc7, ↓vl_lload5, ↓vl_lstore5, ↓vl_iadd, ↓vl_isub, ↓vl_imul, ↓vl_iand, ↓vl_ior, ↓vl_ixor, ↓vl_ishl, ↓vl_ishr, ↓vl_iushr, ↓vl_idiv, ↓vl_irem, ↓vl_ladd, ↓vl_lsub, ↓vl_lmul, ↓vl_lcmp, ↓vl_i2l, ↓vl_dup, ↓vl_dup2, ↓vl_gotoF, ↓vl_gotoB, ↓vl_nnF, ↓vl_ic_eqF, ↓vl_if_eqF, ↓vl_ic_eqB, ↓vl_if_eqB, ↓vl_ic_neF, ↓vl_if_neF, ↓vl_ic_neB, ↓vl_if_neB, ↓vl_ic_ltF, ↓vl_if_ltF, ↓vl_ic_ltB, ↓vl_if_ltB, ↓vl_ic_geF, ↓vl_if_geF, ↓vl_ic_geB, ↓vl_if_geB, ↓vl_ic_gtF, ↓vl_if_gtF, ↓vl_ic_gtB, ↓vl_if_gtB, ↓vl_ic_leF, ↓vl_if_leF, ↓vl_ic_leB, ↓vl_if_leB, ↓vl_sw, ↓vl_get, ↓vl_putI, ↓vl_putL, ↓vl_iald, ↓vl_iast, ↓vl_alen, ↓vl_aald, ↓vl_iretI, ↓vl_iretZ, ↓vl_ret, ↓vl_mark, ↓vl_markT, ↓vl_skip, ↓vl_st0, ↓vl_vi0, ↓vl_st1, ↓vl_vi1, ↓vl_st2, ↓vl_vi2, ↓vl_st3, ↓vl_vi3, ↓vl_st4, ↓vl_vi4, ↓vl_st5, ↓vl_vi5, ↓vl_st6, ↓vl_vi6, ↓vl_min, ↓vl_max, ↓vl_cpy, ↓vk_kvs, ↓vk_kvn, ↓vk_gf0, ↓vk_gv0, ↓vk_gv1, ↓vk_gv2, ↓vk_pf, ↓vk_ar, ↓vk_arr, bc_lay, bc_fn, bc_mk, bc_cs, bc_cat, bc_nl, bc_nth, bc_en, bc_sw, true_and, and_true, ↓reduceIte, reduceCtorEq, Nat.reduceEqDiff, Nat.reduceLeDiff, Nat.reduceAdd, Nat.le_refl, Nat.zero_le, Int.cast_ofNat_Int, Int.reduceEq, eq_self, true_implies, false_implies, not_true_eq_false, not_false_eq_true, bc_vr, Int.reduceToNat, Int.toNat_natCast, Int.reduceLE, Int.reduceLT, Int.reduceNeg, true_or, or_true, forall_const, Int.reduceAdd]
    refine at_X7_laysChosen_180 ?_
    simp only [ks_X7_laysChosen_180, ↓vl_iconst, ↓vl_bipush, ↓vl_sipush, ↓vl_lconst, ↓vl_ldc, ↓vl_ldcw, ↓vl_ldc2, ↓vl_iload0, ↓vl_aload0, ↓vl_istore0, ↓vl_iinc0, ↓vl_iload1, ↓vl_aload1, ↓vl_istore1, ↓vl_iinc1, ↓vl_iload2, ↓vl_aload2, ↓vl_istore2, ↓vl_iinc2, ↓vl_iload3, ↓vl_aload3, ↓vl_istore3, ↓vl_iinc3, ↓vl_iload4, ↓vl_istore4, ↓vl_iinc4, ↓vl_iload5, ↓vl_istore5, ↓vl_iinc5, ↓vl_iload6, ↓vl_istore6, ↓vl_iinc6, ↓vl_iload7, ↓vl_istore7, ↓vl_iinc7, ↓vl_lload5, ↓vl_lstore5, ↓vl_iadd, ↓vl_isub, ↓vl_imul, ↓vl_iand, ↓vl_ior, ↓vl_ixor, ↓vl_ishl, ↓vl_ishr, ↓vl_iushr, ↓vl_idiv, ↓vl_irem, ↓vl_ladd, ↓vl_lsub, ↓vl_lmul, ↓vl_lcmp, ↓vl_i2l, ↓vl_dup, ↓vl_dup2, ↓vl_gotoF, ↓vl_gotoB, ↓vl_nnF, ↓vl_ic_eqF, ↓vl_if_eqF, ↓vl_ic_eqB, ↓vl_if_eqB, ↓vl_ic_neF, ↓vl_if_neF, ↓vl_ic_neB, ↓vl_if_neB, ↓vl_ic_ltF, ↓vl_if_ltF, ↓vl_ic_ltB, ↓vl_if_ltB, ↓vl_ic_geF, ↓vl_if_geF, ↓vl_ic_geB, ↓vl_if_geB, ↓vl_ic_gtF, ↓vl_if_gtF, ↓vl_ic_gtB, ↓vl_if_gtB, ↓vl_ic_leF, ↓vl_if_leF, ↓vl_ic_leB, ↓vl_if_leB, ↓vl_sw, ↓vl_get, ↓vl_putI, ↓vl_putL, ↓vl_iald, ↓vl_iast, ↓vl_alen, ↓vl_aald, ↓vl_iretI, ↓vl_iretZ, ↓vl_ret, ↓vl_mark, ↓vl_markT, ↓vl_skip, ↓vl_st0, ↓vl_vi0, ↓vl_st1, ↓vl_vi1, ↓vl_st2, ↓vl_vi2, ↓vl_st3, ↓vl_vi3, ↓vl_st4, ↓vl_vi4, ↓vl_st5, ↓vl_vi5, ↓vl_st6, ↓vl_vi6, ↓vl_min, ↓vl_max, ↓vl_cpy, ↓vk_kvs, ↓vk_kvn, ↓vk_gf0, ↓vk_gv0, ↓vk_gv1, ↓vk_gv2, ↓vk_pf, ↓vk_ar, ↓vk_arr, bc_lay, bc_fn, bc_mk, bc_cs, bc_cat, bc_nl, bc_nth, bc_en, bc_sw, true_and, and_true, ↓reduceIte, reduceCtorEq, Nat.reduceEqDiff, Nat.reduceLeDiff, Nat.reduceAdd, Nat.le_refl, Nat.zero_le, Int.cast_ofNat_Int, Int.reduceEq, eq_self, true_implies, false_implies, not_true_eq_false, not_false_eq_true, bc_vr, Int.reduceToNat, Int.toNat_natCast, Int.reduceLE, Int.reduceLT, Int.reduceNeg, true_or, or_true, forall_const, Int.reduceAdd]
    exact kk h hf h26 h25
  | succ c ih =>
    intro h a hc hC hf h26 h25 ha kk
    have hs := pd_sc_sub R (c + 1)
    have hmod : (c + 1) % 2 ^ R.length = c + 1 := Nat.mod_eq_of_lt hc
    have bS : ∀ x ∈ pd_sc R (c + 1), 0 ≤ hi x ∧ hi x ≤ 999 := fun x hx => by
      have h1 := blo x (hs.subset hx); have h2 := bhi x (hs.subset hx); omega
    have hlS : (pd_sc R (c + 1)).length ≤ 24 := by have := hs.length_le; omega
    have hVb := pd_VM_bd (D := D) (lo := lo) (T := pd_sc R (c + 1)) bS hlS
    refine at_X7_laysChosen_86 ?_
    simp only [ks_X7_laysChosen_86, ks_X7_laysChosen_97, ks_X7_laysChosen_131, ks_X7_laysChosen_137, ks_X7_laysChosen_174, ↓vl_iconst, ↓vl_bipush, ↓vl_sipush, ↓vl_lconst, ↓vl_ldc, ↓vl_ldcw, ↓vl_ldc2, ↓vl_iload0, ↓vl_aload0, ↓vl_istore0, ↓vl_iinc0, ↓vl_iload1, ↓vl_aload1, ↓vl_istore1, ↓vl_iinc1, ↓vl_iload2, ↓vl_aload2, ↓vl_istore2, ↓vl_iinc2, ↓vl_iload3, ↓vl_aload3, ↓vl_istore3, ↓vl_iinc3, ↓vl_iload4, ↓vl_istore4, ↓vl_iinc4, ↓vl_iload5, ↓vl_istore5, ↓vl_iinc5, ↓vl_iload6, ↓vl_istore6, ↓vl_iinc6, ↓vl_iload7, ↓vl_istore7, ↓vl_iinc7, ↓vl_lload5, ↓vl_lstore5, ↓vl_iadd, ↓vl_isub, ↓vl_imul, ↓vl_iand, ↓vl_ior, ↓vl_ixor, ↓vl_ishl, ↓vl_ishr, ↓vl_iushr, ↓vl_idiv, ↓vl_irem, ↓vl_ladd, ↓vl_lsub, ↓vl_lmul, ↓vl_lcmp, ↓vl_i2l, ↓vl_dup, ↓vl_dup2, ↓vl_gotoF, ↓vl_gotoB, ↓vl_nnF, ↓vl_ic_eqF, ↓vl_if_eqF, ↓vl_ic_eqB, ↓vl_if_eqB, ↓vl_ic_neF, ↓vl_if_neF, ↓vl_ic_neB, ↓vl_if_neB, ↓vl_ic_ltF, ↓vl_if_ltF, ↓vl_ic_ltB, ↓vl_if_ltB, ↓vl_ic_geF, ↓vl_if_geF, ↓vl_ic_geB, ↓vl_if_geB, ↓vl_ic_gtF, ↓vl_if_gtF, ↓vl_ic_gtB, ↓vl_if_gtB, ↓vl_ic_leF, ↓vl_if_leF, ↓vl_ic_leB, ↓vl_if_leB, ↓vl_sw, ↓vl_get, ↓vl_putI, ↓vl_putL, ↓vl_iald, ↓vl_iast, ↓vl_alen, ↓vl_aald, ↓vl_iretI, ↓vl_iretZ, ↓vl_ret, ↓vl_mark, ↓vl_markT, ↓vl_skip, ↓vl_st0, ↓vl_vi0, ↓vl_st1, ↓vl_vi1, ↓vl_st2, ↓vl_vi2, ↓vl_st3, ↓vl_vi3, ↓vl_st4, ↓vl_vi4, ↓vl_st5, ↓vl_vi5, ↓vl_st6, ↓vl_vi6, ↓vl_min, ↓vl_max, ↓vl_cpy, ↓vk_kvs, ↓vk_kvn, ↓vk_gf0, ↓vk_gv0, ↓vk_gv1, ↓vk_gv2, ↓vk_pf, ↓vk_ar, ↓vk_arr, bc_lay, bc_fn, bc_mk, bc_cs, bc_cat, bc_nl, bc_nth, bc_en, bc_sw, true_and, and_true, ↓reduceIte, reduceCtorEq, Nat.reduceEqDiff, Nat.reduceLeDiff, Nat.reduceAdd, Nat.le_refl, Nat.zero_le, Int.cast_ofNat_Int, Int.reduceEq, eq_self, true_implies, false_implies, not_true_eq_false, not_false_eq_true, bc_vr, Int.reduceToNat, Int.toNat_natCast, Int.reduceLE, Int.reduceLT, Int.reduceNeg, true_or, or_true, forall_const, Int.reduceAdd]
    refine ⟨⟨by omega, by omega⟩, fun q => absurd q (by omega), fun _ => ?_⟩
    refine l7_ch_97 hR10 (fun x hx => by have := hlt x hx; omega) (by omega) hC hV (T := pd_sc R (c + 1)) ?_ R 0 0 rfl (by omega) (by rw [hmod]; rfl)
    refine l7_ch_137 hV hC hs hR hlt blo bhi h26 h25 ha (fun h' hC' hf' e26 e25 => ?_)
    refine ih h' _ (by omega) hC' (pd_fc_trans hf hf') e26 e25 ?_ (fun h'' f1 f2 f3 => kk h'' f1 f2 f3)
    split
    · exact ⟨by omega, hVb.2⟩
    · exact ha
/-- which ranked orders stay: willing at mid, and not 'but' -/
def pd_qf (D : Nat → Int) (mid but : Int) (x : Nat) : Bool := !decide ((x : Int) = but) && pd_wb D mid x
theorem l7_ch_63 {mid but n : Int} {k : Nat} (q : bc_AT (d + 4) 114 post 9 [some (.inr (.inr 104)), some (.inl mid), some (.inl but), some (.inl n), some (.inl ((k + 1 : Nat) : Int)), none, none] [] h) : bc_AT (d + 4) 114 post 63 [some (.inr (.inr 104)), some (.inl mid), some (.inl but), some (.inl n), some (.inl (k : Int)), none, none] [] h := by
  have e1 : ((k + 1 : Nat) : Int) = (k : Int) + 1 := by omega
  rw [e1] at q
  refine at_X7_laysChosen_63 ?_
  simp only [ks_X7_laysChosen_63, ↓vl_iconst, ↓vl_bipush, ↓vl_sipush, ↓vl_lconst, ↓vl_ldc, ↓vl_ldcw, ↓vl_ldc2, ↓vl_iload0, ↓vl_aload0, ↓vl_istore0, ↓vl_iinc0, ↓vl_iload1, ↓vl_aload1, ↓vl_istore1, ↓vl_iinc1, ↓vl_iload2, ↓vl_aload2, ↓vl_istore2, ↓vl_iinc2, ↓vl_iload3, ↓vl_aload3, ↓vl_istore3, ↓vl_iinc3, ↓vl_iload4, ↓vl_istore4, ↓vl_iinc4, ↓vl_iload5, ↓vl_istore5, ↓vl_iinc5, ↓vl_iload6, ↓vl_istore6, ↓vl_iinc6, ↓vl_iload7, ↓vl_istore7, ↓vl_iinc7, ↓vl_lload5, ↓vl_lstore5, ↓vl_iadd, ↓vl_isub, ↓vl_imul, ↓vl_iand, ↓vl_ior, ↓vl_ixor, ↓vl_ishl, ↓vl_ishr, ↓vl_iushr, ↓vl_idiv, ↓vl_irem, ↓vl_ladd, ↓vl_lsub, ↓vl_lmul, ↓vl_lcmp, ↓vl_i2l, ↓vl_dup, ↓vl_dup2, ↓vl_gotoF, ↓vl_gotoB, ↓vl_nnF, ↓vl_ic_eqF, ↓vl_if_eqF, ↓vl_ic_eqB, ↓vl_if_eqB, ↓vl_ic_neF, ↓vl_if_neF, ↓vl_ic_neB, ↓vl_if_neB, ↓vl_ic_ltF, ↓vl_if_ltF, ↓vl_ic_ltB, ↓vl_if_ltB, ↓vl_ic_geF, ↓vl_if_geF, ↓vl_ic_geB, ↓vl_if_geB, ↓vl_ic_gtF, ↓vl_if_gtF, ↓vl_ic_gtB, ↓vl_if_gtB, ↓vl_ic_leF, ↓vl_if_leF, ↓vl_ic_leB, ↓vl_if_leB, ↓vl_sw, ↓vl_get, ↓vl_putI, ↓vl_putL, ↓vl_iald, ↓vl_iast, ↓vl_alen, ↓vl_aald, ↓vl_iretI, ↓vl_iretZ, ↓vl_ret, ↓vl_mark, ↓vl_markT, ↓vl_skip, ↓vl_st0, ↓vl_vi0, ↓vl_st1, ↓vl_vi1, ↓vl_st2, ↓vl_vi2, ↓vl_st3, ↓vl_vi3, ↓vl_st4, ↓vl_vi4, ↓vl_st5, ↓vl_vi5, ↓vl_st6, ↓vl_vi6, ↓vl_min, ↓vl_max, ↓vl_cpy, ↓vk_kvs, ↓vk_kvn, ↓vk_gf0, ↓vk_gv0, ↓vk_gv1, ↓vk_gv2, ↓vk_pf, ↓vk_ar, ↓vk_arr, bc_lay, bc_fn, bc_mk, bc_cs, bc_cat, bc_nl, bc_nth, bc_en, bc_sw, true_and, and_true, ↓reduceIte, reduceCtorEq, Nat.reduceEqDiff, Nat.reduceLeDiff, Nat.reduceAdd, Nat.le_refl, Nat.zero_le, Int.cast_ofNat_Int, Int.reduceEq, eq_self, true_implies, false_implies, not_true_eq_false, not_false_eq_true, bc_vr, Int.reduceToNat, Int.toNat_natCast, Int.reduceLE, Int.reduceLT, Int.reduceNeg, true_or, or_true, forall_const, Int.reduceAdd]
  exact q
set_option maxRecDepth 20000 in
theorem l7_ch_9 (hV : pd_V D) {mid but : Int} (hm : bc_vr mid) (hbut : bc_vr but) {l : List Nat} (hl : l.length ≤ 10) (hlt : ∀ x ∈ l, (x : Int) < D 0) {h0 : bc_AH} (hM0 : pd_M 106 D h0) (h16 : h0 104 16 = (l.length : Int))
    (kk : ∀ h', (∀ (j x : Nat), (l.filter (pd_qf D mid but))[j]? = some x → h' 109 j = (x : Int)) → (∀ c : Nat, c ≠ 109 → h' c = h0 c) → bc_AT (d + 4) 114 post 69 [some (.inr (.inr 104)), none, none, some (.inl ((l.filter (pd_qf D mid but)).length : Int)), none, none, none] [] h') :
    ∀ (n k : Nat) (h : bc_AH), k + n = l.length → (∀ (j x : Nat), ((l.take k).filter (pd_qf D mid but))[j]? = some x → h 109 j = (x : Int)) → (∀ (j x : Nat), k ≤ j → l[j]? = some x → h 109 j = (x : Int)) → (∀ c : Nat, c ≠ 109 → h c = h0 c) → bc_AT (d + 4) 114 post 9 [some (.inr (.inr 104)), some (.inl mid), some (.inl but), some (.inl (((l.take k).filter (pd_qf D mid but)).length : Int)), some (.inl (k : Int)), none, none] [] h := by
  have v0 := hV.1
  intro n
  induction n with
  | zero =>
    intro k h hk h1 h2 hf
    have e : k = l.length := by omega
    have e16 : h 104 16 = (l.length : Int) := by rw [hf 104 (by omega)]; exact h16
    rw [e, List.take_length] at h1 ⊢
    refine at_X7_laysChosen_9 ?_
    simp only [ks_X7_laysChosen_9, ks_X7_laysChosen_63, ↓vl_iconst, ↓vl_bipush, ↓vl_sipush, ↓vl_lconst, ↓vl_ldc, ↓vl_ldcw, ↓vl_ldc2, ↓vl_iload0, ↓vl_aload0, ↓vl_istore0, ↓vl_iinc0, ↓vl_iload1, ↓vl_aload1, ↓vl_istore1, ↓vl_iinc1, ↓vl_iload2, ↓vl_aload2, ↓vl_istore2, ↓vl_iinc2, ↓vl_iload3, ↓vl_aload3, ↓vl_istore3, ↓vl_iinc3, ↓vl_iload4, ↓vl_istore4, ↓vl_iinc4, ↓vl_iload5, ↓vl_istore5, ↓vl_iinc5, ↓vl_iload6, ↓vl_istore6, ↓vl_iinc6, ↓vl_iload7, ↓vl_istore7, ↓vl_iinc7, ↓vl_lload5, ↓vl_lstore5, ↓vl_iadd, ↓vl_isub, ↓vl_imul, ↓vl_iand, ↓vl_ior, ↓vl_ixor, ↓vl_ishl, ↓vl_ishr, ↓vl_iushr, ↓vl_idiv, ↓vl_irem, ↓vl_ladd, ↓vl_lsub, ↓vl_lmul, ↓vl_lcmp, ↓vl_i2l, ↓vl_dup, ↓vl_dup2, ↓vl_gotoF, ↓vl_gotoB, ↓vl_nnF, ↓vl_ic_eqF, ↓vl_if_eqF, ↓vl_ic_eqB, ↓vl_if_eqB, ↓vl_ic_neF, ↓vl_if_neF, ↓vl_ic_neB, ↓vl_if_neB, ↓vl_ic_ltF, ↓vl_if_ltF, ↓vl_ic_ltB, ↓vl_if_ltB, ↓vl_ic_geF, ↓vl_if_geF, ↓vl_ic_geB, ↓vl_if_geB, ↓vl_ic_gtF, ↓vl_if_gtF, ↓vl_ic_gtB, ↓vl_if_gtB, ↓vl_ic_leF, ↓vl_if_leF, ↓vl_ic_leB, ↓vl_if_leB, ↓vl_sw, ↓vl_get, ↓vl_putI, ↓vl_putL, ↓vl_iald, ↓vl_iast, ↓vl_alen, ↓vl_aald, ↓vl_iretI, ↓vl_iretZ, ↓vl_ret, ↓vl_mark, ↓vl_markT, ↓vl_skip, ↓vl_st0, ↓vl_vi0, ↓vl_st1, ↓vl_vi1, ↓vl_st2, ↓vl_vi2, ↓vl_st3, ↓vl_vi3, ↓vl_st4, ↓vl_vi4, ↓vl_st5, ↓vl_vi5, ↓vl_st6, ↓vl_vi6, ↓vl_min, ↓vl_max, ↓vl_cpy, ↓vk_kvs, ↓vk_kvn, ↓vk_gf0, ↓vk_gv0, ↓vk_gv1, ↓vk_gv2, ↓vk_pf, ↓vk_ar, ↓vk_arr, bc_lay, bc_fn, bc_mk, bc_cs, bc_cat, bc_nl, bc_nth, bc_en, bc_sw, true_and, and_true, ↓reduceIte, reduceCtorEq, Nat.reduceEqDiff, Nat.reduceLeDiff, Nat.reduceAdd, Nat.le_refl, Nat.zero_le, Int.cast_ofNat_Int, Int.reduceEq, eq_self, true_implies, false_implies, not_true_eq_false, not_false_eq_true, bc_vr, Int.reduceToNat, Int.toNat_natCast, Int.reduceLE, Int.reduceLT, Int.reduceNeg, true_or, or_true, forall_const, Int.reduceAdd, e16]
    exact ⟨⟨by omega, by omega⟩, ⟨by omega, by omega⟩, fun _ => kk h h1 hf, fun q => absurd (Int.le_refl _) q⟩
  | succ n ih =>
    intro k h hk h1 h2 hf
    have hkl : k < l.length := by omega
    have hx : l[k]? = some l[k] := List.getElem?_eq_getElem hkl
    have hM : pd_M 106 D h := pd_M_fr hM0 (hf 106 (by omega))
    have hxl := hlt _ (List.getElem_mem hkl)
    have h109 := h2 k _ (by omega) hx
    have e16 : h 104 16 = (l.length : Int) := by rw [hf 104 (by omega)]; exact h16
    have etk := pd_take_succ hx
    have hln : ((l.take k).filter (pd_qf D mid but)).length ≤ k := by
      have := List.length_filter_le (pd_qf D mid but) (l.take k)
      have h3 : (l.take k).length = k := by simp; omega
      omega
    have hb1 := hbut.1
    have hb2 := hbut.2
    refine at_X7_laysChosen_9 ?_
    simp only [ks_X7_laysChosen_9, ks_X7_laysChosen_63, ↓vl_iconst, ↓vl_bipush, ↓vl_sipush, ↓vl_lconst, ↓vl_ldc, ↓vl_ldcw, ↓vl_ldc2, ↓vl_iload0, ↓vl_aload0, ↓vl_istore0, ↓vl_iinc0, ↓vl_iload1, ↓vl_aload1, ↓vl_istore1, ↓vl_iinc1, ↓vl_iload2, ↓vl_aload2, ↓vl_istore2, ↓vl_iinc2, ↓vl_iload3, ↓vl_aload3, ↓vl_istore3, ↓vl_iinc3, ↓vl_iload4, ↓vl_istore4, ↓vl_iinc4, ↓vl_iload5, ↓vl_istore5, ↓vl_iinc5, ↓vl_iload6, ↓vl_istore6, ↓vl_iinc6, ↓vl_iload7, ↓vl_istore7, ↓vl_iinc7, ↓vl_lload5, ↓vl_lstore5, ↓vl_iadd, ↓vl_isub, ↓vl_imul, ↓vl_iand, ↓vl_ior, ↓vl_ixor, ↓vl_ishl, ↓vl_ishr, ↓vl_iushr, ↓vl_idiv, ↓vl_irem, ↓vl_ladd, ↓vl_lsub, ↓vl_lmul, ↓vl_lcmp, ↓vl_i2l, ↓vl_dup, ↓vl_dup2, ↓vl_gotoF, ↓vl_gotoB, ↓vl_nnF, ↓vl_ic_eqF, ↓vl_if_eqF, ↓vl_ic_eqB, ↓vl_if_eqB, ↓vl_ic_neF, ↓vl_if_neF, ↓vl_ic_neB, ↓vl_if_neB, ↓vl_ic_ltF, ↓vl_if_ltF, ↓vl_ic_ltB, ↓vl_if_ltB, ↓vl_ic_geF, ↓vl_if_geF, ↓vl_ic_geB, ↓vl_if_geB, ↓vl_ic_gtF, ↓vl_if_gtF, ↓vl_ic_gtB, ↓vl_if_gtB, ↓vl_ic_leF, ↓vl_if_leF, ↓vl_ic_leB, ↓vl_if_leB, ↓vl_sw, ↓vl_get, ↓vl_putI, ↓vl_putL, ↓vl_iald, ↓vl_iast, ↓vl_alen, ↓vl_aald, ↓vl_iretI, ↓vl_iretZ, ↓vl_ret, ↓vl_mark, ↓vl_markT, ↓vl_skip, ↓vl_st0, ↓vl_vi0, ↓vl_st1, ↓vl_vi1, ↓vl_st2, ↓vl_vi2, ↓vl_st3, ↓vl_vi3, ↓vl_st4, ↓vl_vi4, ↓vl_st5, ↓vl_vi5, ↓vl_st6, ↓vl_vi6, ↓vl_min, ↓vl_max, ↓vl_cpy, ↓vk_kvs, ↓vk_kvn, ↓vk_gf0, ↓vk_gv0, ↓vk_gv1, ↓vk_gv2, ↓vk_pf, ↓vk_ar, ↓vk_arr, bc_lay, bc_fn, bc_mk, bc_cs, bc_cat, bc_nl, bc_nth, bc_en, bc_sw, true_and, and_true, ↓reduceIte, reduceCtorEq, Nat.reduceEqDiff, Nat.reduceLeDiff, Nat.reduceAdd, Nat.le_refl, Nat.zero_le, Int.cast_ofNat_Int, Int.reduceEq, eq_self, true_implies, false_implies, not_true_eq_false, not_false_eq_true, bc_vr, Int.reduceToNat, Int.toNat_natCast, Int.reduceLE, Int.reduceLT, Int.reduceNeg, true_or, or_true, forall_const, Int.reduceAdd, e16, h109]
    refine ⟨⟨by omega, by omega⟩, ⟨by omega, by omega⟩, fun q => absurd q (by omega), fun _ => ⟨by omega, by omega, ⟨by omega, by omega⟩, ⟨by omega, by omega⟩, fun c => ?_, fun c => ⟨by omega, by omega, ?_⟩⟩⟩
    · have hq : ¬ pd_qf D mid but l[k] = true := by simp [pd_qf, c]
      have e : (l.take (k + 1)).filter (pd_qf D mid but) = (l.take k).filter (pd_qf D mid but) := by rw [etk, List.filter_append]; simp [hq]
      have := ih (k + 1) h (by omega) (by rw [e]; exact h1) (fun j x hj hjx => h2 j x (by omega) hjx) hf
      rw [e] at this
      exact l7_ch_63 this
    · refine c7_isWilling hM hV ⟨by omega, by omega⟩ hm (fun _ _ hw => ?_) (fun hw => ?_)
      · simp only [Int.toNat_natCast] at hw
        have hq : pd_qf D mid but l[k] = true := by simp [pd_qf, c, hw]
        have e : (l.take (k + 1)).filter (pd_qf D mid but) = (l.take k).filter (pd_qf D mid but) ++ [l[k]] := by rw [etk, List.filter_append]; simp [hq]
        simp only [↓vl_iconst, ↓vl_bipush, ↓vl_sipush, ↓vl_lconst, ↓vl_ldc, ↓vl_ldcw, ↓vl_ldc2, ↓vl_iload0, ↓vl_aload0, ↓vl_istore0, ↓vl_iinc0, ↓vl_iload1, ↓vl_aload1, ↓vl_istore1, ↓vl_iinc1, ↓vl_iload2, ↓vl_aload2, ↓vl_istore2, ↓vl_iinc2, ↓vl_iload3, ↓vl_aload3, ↓vl_istore3, ↓vl_iinc3, ↓vl_iload4, ↓vl_istore4, ↓vl_iinc4, ↓vl_iload5, ↓vl_istore5, ↓vl_iinc5, ↓vl_iload6, ↓vl_istore6, ↓vl_iinc6, ↓vl_iload7, ↓vl_istore7, ↓vl_iinc7, ↓vl_lload5, ↓vl_lstore5, ↓vl_iadd, ↓vl_isub, ↓vl_imul, ↓vl_iand, ↓vl_ior, ↓vl_ixor, ↓vl_ishl, ↓vl_ishr, ↓vl_iushr, ↓vl_idiv, ↓vl_irem, ↓vl_ladd, ↓vl_lsub, ↓vl_lmul, ↓vl_lcmp, ↓vl_i2l, ↓vl_dup, ↓vl_dup2, ↓vl_gotoF, ↓vl_gotoB, ↓vl_nnF, ↓vl_ic_eqF, ↓vl_if_eqF, ↓vl_ic_eqB, ↓vl_if_eqB, ↓vl_ic_neF, ↓vl_if_neF, ↓vl_ic_neB, ↓vl_if_neB, ↓vl_ic_ltF, ↓vl_if_ltF, ↓vl_ic_ltB, ↓vl_if_ltB, ↓vl_ic_geF, ↓vl_if_geF, ↓vl_ic_geB, ↓vl_if_geB, ↓vl_ic_gtF, ↓vl_if_gtF, ↓vl_ic_gtB, ↓vl_if_gtB, ↓vl_ic_leF, ↓vl_if_leF, ↓vl_ic_leB, ↓vl_if_leB, ↓vl_sw, ↓vl_get, ↓vl_putI, ↓vl_putL, ↓vl_iald, ↓vl_iast, ↓vl_alen, ↓vl_aald, ↓vl_iretI, ↓vl_iretZ, ↓vl_ret, ↓vl_mark, ↓vl_markT, ↓vl_skip, ↓vl_st0, ↓vl_vi0, ↓vl_st1, ↓vl_vi1, ↓vl_st2, ↓vl_vi2, ↓vl_st3, ↓vl_vi3, ↓vl_st4, ↓vl_vi4, ↓vl_st5, ↓vl_vi5, ↓vl_st6, ↓vl_vi6, ↓vl_min, ↓vl_max, ↓vl_cpy, ↓vk_kvs, ↓vk_kvn, ↓vk_gf0, ↓vk_gv0, ↓vk_gv1, ↓vk_gv2, ↓vk_pf, ↓vk_ar, ↓vk_arr, bc_lay, bc_fn, bc_mk, bc_cs, bc_cat, bc_nl, bc_nth, bc_en, bc_sw, true_and, and_true, ↓reduceIte, reduceCtorEq, Nat.reduceEqDiff, Nat.reduceLeDiff, Nat.reduceAdd, Nat.le_refl, Nat.zero_le, Int.cast_ofNat_Int, Int.reduceEq, eq_self, true_implies, false_implies, not_true_eq_false, not_false_eq_true, bc_vr, Int.reduceToNat, Int.toNat_natCast, Int.reduceLE, Int.reduceLT, Int.reduceNeg, true_or, or_true, forall_const, Int.reduceAdd, h109]
        refine ⟨by omega, by omega, by omega, by omega, ?_⟩
        have := ih (k + 1) (bc_up h 109 ((l.take k).filter (pd_qf D mid but)).length (l[k] : Int)) (by omega) (fun j x hjx => ?_) (fun j x hj hjx => ?_) (fun c hc => by funext q; simp [bc_up, hc]; rw [hf c hc])
        · rw [e] at this
          have e3 : (((l.take k).filter (pd_qf D mid but) ++ [l[k]]).length : Int) = (((l.take k).filter (pd_qf D mid but)).length : Int) + 1 := by simp
          rw [e3] at this
          exact l7_ch_63 this
        · rw [e] at hjx
          by_cases c1 : j < ((l.take k).filter (pd_qf D mid but)).length
          · rw [List.getElem?_append_left c1] at hjx
            have : ¬ j = ((l.take k).filter (pd_qf D mid but)).length := by omega
            simp [bc_up, this]; exact h1 j x hjx
          · rw [List.getElem?_append_right (by omega)] at hjx
            have e4 : j = ((l.take k).filter (pd_qf D mid but)).length := by
              have := (List.getElem?_eq_some_iff.mp hjx).1
              simp at this
              omega
            rw [e4] at hjx
            simp at hjx
            rw [e4]
            simp [bc_up, hjx]
        · have : ¬ j = ((l.take k).filter (pd_qf D mid but)).length := by omega
          simp [bc_up, this]; exact h2 j x (by omega) hjx
      · have hq : ¬ pd_qf D mid but l[k] = true := by
          intro z
          simp only [pd_qf, Bool.and_eq_true] at z
          exact hw ⟨by omega, by simpa using z.2⟩
        have e : (l.take (k + 1)).filter (pd_qf D mid but) = (l.take k).filter (pd_qf D mid but) := by rw [etk, List.filter_append]; simp [hq]
        have := ih (k + 1) h (by omega) (by rw [e]; exact h1) (fun j x hj hjx => h2 j x (by omega) hjx) hf
        rw [e] at this
        simp only [↓vl_iconst, ↓vl_bipush, ↓vl_sipush, ↓vl_lconst, ↓vl_ldc, ↓vl_ldcw, ↓vl_ldc2, ↓vl_iload0, ↓vl_aload0, ↓vl_istore0, ↓vl_iinc0, ↓vl_iload1, ↓vl_aload1, ↓vl_istore1, ↓vl_iinc1, ↓vl_iload2, ↓vl_aload2, ↓vl_istore2, ↓vl_iinc2, ↓vl_iload3, ↓vl_aload3, ↓vl_istore3, ↓vl_iinc3, ↓vl_iload4, ↓vl_istore4, ↓vl_iinc4, ↓vl_iload5, ↓vl_istore5, ↓vl_iinc5, ↓vl_iload6, ↓vl_istore6, ↓vl_iinc6, ↓vl_iload7, ↓vl_istore7, ↓vl_iinc7, ↓vl_lload5, ↓vl_lstore5, ↓vl_iadd, ↓vl_isub, ↓vl_imul, ↓vl_iand, ↓vl_ior, ↓vl_ixor, ↓vl_ishl, ↓vl_ishr, ↓vl_iushr, ↓vl_idiv, ↓vl_irem, ↓vl_ladd, ↓vl_lsub, ↓vl_lmul, ↓vl_lcmp, ↓vl_i2l, ↓vl_dup, ↓vl_dup2, ↓vl_gotoF, ↓vl_gotoB, ↓vl_nnF, ↓vl_ic_eqF, ↓vl_if_eqF, ↓vl_ic_eqB, ↓vl_if_eqB, ↓vl_ic_neF, ↓vl_if_neF, ↓vl_ic_neB, ↓vl_if_neB, ↓vl_ic_ltF, ↓vl_if_ltF, ↓vl_ic_ltB, ↓vl_if_ltB, ↓vl_ic_geF, ↓vl_if_geF, ↓vl_ic_geB, ↓vl_if_geB, ↓vl_ic_gtF, ↓vl_if_gtF, ↓vl_ic_gtB, ↓vl_if_gtB, ↓vl_ic_leF, ↓vl_if_leF, ↓vl_ic_leB, ↓vl_if_leB, ↓vl_sw, ↓vl_get, ↓vl_putI, ↓vl_putL, ↓vl_iald, ↓vl_iast, ↓vl_alen, ↓vl_aald, ↓vl_iretI, ↓vl_iretZ, ↓vl_ret, ↓vl_mark, ↓vl_markT, ↓vl_skip, ↓vl_st0, ↓vl_vi0, ↓vl_st1, ↓vl_vi1, ↓vl_st2, ↓vl_vi2, ↓vl_st3, ↓vl_vi3, ↓vl_st4, ↓vl_vi4, ↓vl_st5, ↓vl_vi5, ↓vl_st6, ↓vl_vi6, ↓vl_min, ↓vl_max, ↓vl_cpy, ↓vk_kvs, ↓vk_kvn, ↓vk_gf0, ↓vk_gv0, ↓vk_gv1, ↓vk_gv2, ↓vk_pf, ↓vk_ar, ↓vk_arr, bc_lay, bc_fn, bc_mk, bc_cs, bc_cat, bc_nl, bc_nth, bc_en, bc_sw, true_and, and_true, ↓reduceIte, reduceCtorEq, Nat.reduceEqDiff, Nat.reduceLeDiff, Nat.reduceAdd, Nat.le_refl, Nat.zero_le, Int.cast_ofNat_Int, Int.reduceEq, eq_self, true_implies, false_implies, not_true_eq_false, not_false_eq_true, bc_vr, Int.reduceToNat, Int.toNat_natCast, Int.reduceLE, Int.reduceLT, Int.reduceNeg, true_or, or_true, forall_const, Int.reduceAdd]
        exact l7_ch_63 this
end MCh
end
section
/-! the reference: laysChosen's contract; choosesNow, chosen -/
section MCh
variable {d : Nat} {h : bc_AH} {post : Option bc_AV → bc_AH → Prop} {D : Nat → Int}
/-- the ranked orders that are willing at mid, but one -/
def pd_wl (D : Nat → Int) (mid but : Int) : List Nat := (pd_rk D (pd_ob D) (D 0).toNat).filter (pd_qf D mid but)
set_option maxRecDepth 20000 in
theorem c7_laysChosen (hM : pd_M 106 D h) (hV : pd_V D) (hl10 : (pd_rk D (pd_ob D) (D 0).toNat).length ≤ 10) {mid but : Int} (hm : bc_vr mid) (hbut : bc_vr but) {lo hi : Nat → Int} (hlh : ∀ o : Nat, (o : Int) < D 0 → h 110 o = lo o ∧ h 111 o = hi o) (blo : ∀ x ∈ pd_wl D mid but, 0 ≤ lo x ∧ lo x ≤ hi x) (bhi : ∀ x ∈ pd_wl D mid but, hi x ≤ 999)
    (kk : ∀ h', pd_fc h h' → h' 104 26 = (pd_ch D lo hi (fun _ => false) (pd_wl D mid but)).1 → h' 104 25 = (pd_ch D lo hi (fun _ => false) (pd_wl D mid but)).2 → post none h') : bc_OK (d + 5) 114 [.inr (.inr 104), .inl mid, .inl but] h post := by
  have v0 := hV.1
  have hlt : ∀ x ∈ pd_rk D (pd_ob D) (D 0).toNat, (x : Int) < D 0 := fun x hx => by have := ((pd_rk_mem _).mp hx).1; omega
  have hnd : (pd_wl D mid but).Nodup := (List.filter_sublist).nodup (pd_rk_nodup _)
  have hlen : (pd_wl D mid but).length ≤ 10 := by
    have := List.length_filter_le (pd_qf D mid but) (pd_rk D (pd_ob D) (D 0).toNat)
    unfold pd_wl; omega
  have hlt2 : ∀ x ∈ pd_wl D mid but, (x : Int) < D 0 := fun x hx => hlt x (List.mem_filter.mp hx).1
  have hpw := Nat.two_pow_pos (pd_wl D mid but).length
  refine bc_run (n := 7) ck_X7_laysChosen rfl rfl rfl rfl (Nat.le_of_ble_eq_true rfl) ?_
  simp only [k_X7_laysChosen, ↓vl_iconst, ↓vl_bipush, ↓vl_sipush, ↓vl_lconst, ↓vl_ldc, ↓vl_ldcw, ↓vl_ldc2, ↓vl_iload0, ↓vl_aload0, ↓vl_istore0, ↓vl_iinc0, ↓vl_iload1, ↓vl_aload1, ↓vl_istore1, ↓vl_iinc1, ↓vl_iload2, ↓vl_aload2, ↓vl_istore2, ↓vl_iinc2, ↓vl_iload3, ↓vl_aload3, ↓vl_istore3, ↓vl_iinc3, ↓vl_iload4, ↓vl_istore4, ↓vl_iinc4, ↓vl_iload5, ↓vl_istore5, ↓vl_iinc5, ↓vl_iload6, ↓vl_istore6, ↓vl_iinc6, ↓vl_iload7, ↓vl_istore7, ↓vl_iinc7, ↓vl_lload5, ↓vl_lstore5, ↓vl_iadd, ↓vl_isub, ↓vl_imul, ↓vl_iand, ↓vl_ior, ↓vl_ixor, ↓vl_ishl, ↓vl_ishr, ↓vl_iushr, ↓vl_idiv, ↓vl_irem, ↓vl_ladd, ↓vl_lsub, ↓vl_lmul, ↓vl_lcmp, ↓vl_i2l, ↓vl_dup, ↓vl_dup2, ↓vl_gotoF, ↓vl_gotoB, ↓vl_nnF, ↓vl_ic_eqF, ↓vl_if_eqF, ↓vl_ic_eqB, ↓vl_if_eqB, ↓vl_ic_neF, ↓vl_if_neF, ↓vl_ic_neB, ↓vl_if_neB, ↓vl_ic_ltF, ↓vl_if_ltF, ↓vl_ic_ltB, ↓vl_if_ltB, ↓vl_ic_geF, ↓vl_if_geF, ↓vl_ic_geB, ↓vl_if_geB, ↓vl_ic_gtF, ↓vl_if_gtF, ↓vl_ic_gtB, ↓vl_if_gtB, ↓vl_ic_leF, ↓vl_if_leF, ↓vl_ic_leB, ↓vl_if_leB, ↓vl_sw, ↓vl_get, ↓vl_putI, ↓vl_putL, ↓vl_iald, ↓vl_iast, ↓vl_alen, ↓vl_aald, ↓vl_iretI, ↓vl_iretZ, ↓vl_ret, ↓vl_mark, ↓vl_markT, ↓vl_skip, ↓vl_st0, ↓vl_vi0, ↓vl_st1, ↓vl_vi1, ↓vl_st2, ↓vl_vi2, ↓vl_st3, ↓vl_vi3, ↓vl_st4, ↓vl_vi4, ↓vl_st5, ↓vl_vi5, ↓vl_st6, ↓vl_vi6, ↓vl_min, ↓vl_max, ↓vl_cpy, ↓vk_kvs, ↓vk_kvn, ↓vk_gf0, ↓vk_gv0, ↓vk_gv1, ↓vk_gv2, ↓vk_pf, ↓vk_ar, ↓vk_arr, bc_lay, bc_fn, bc_mk, bc_cs, bc_cat, bc_nl, bc_nth, bc_en, bc_sw, true_and, and_true, ↓reduceIte, reduceCtorEq, Nat.reduceEqDiff, Nat.reduceLeDiff, Nat.reduceAdd, Nat.le_refl, Nat.zero_le, Int.cast_ofNat_Int, Int.reduceEq, eq_self, true_implies, false_implies, not_true_eq_false, not_false_eq_true, bc_vr, Int.reduceToNat, Int.toNat_natCast, Int.reduceLE, Int.reduceLT, Int.reduceNeg, true_or, or_true, forall_const, Int.reduceAdd]
  refine c7_laysRanks hM hV hl10 (fun h1 a1 a2 a3 a4 => ?_)
  simp only [↓vl_iconst, ↓vl_bipush, ↓vl_sipush, ↓vl_lconst, ↓vl_ldc, ↓vl_ldcw, ↓vl_ldc2, ↓vl_iload0, ↓vl_aload0, ↓vl_istore0, ↓vl_iinc0, ↓vl_iload1, ↓vl_aload1, ↓vl_istore1, ↓vl_iinc1, ↓vl_iload2, ↓vl_aload2, ↓vl_istore2, ↓vl_iinc2, ↓vl_iload3, ↓vl_aload3, ↓vl_istore3, ↓vl_iinc3, ↓vl_iload4, ↓vl_istore4, ↓vl_iinc4, ↓vl_iload5, ↓vl_istore5, ↓vl_iinc5, ↓vl_iload6, ↓vl_istore6, ↓vl_iinc6, ↓vl_iload7, ↓vl_istore7, ↓vl_iinc7, ↓vl_lload5, ↓vl_lstore5, ↓vl_iadd, ↓vl_isub, ↓vl_imul, ↓vl_iand, ↓vl_ior, ↓vl_ixor, ↓vl_ishl, ↓vl_ishr, ↓vl_iushr, ↓vl_idiv, ↓vl_irem, ↓vl_ladd, ↓vl_lsub, ↓vl_lmul, ↓vl_lcmp, ↓vl_i2l, ↓vl_dup, ↓vl_dup2, ↓vl_gotoF, ↓vl_gotoB, ↓vl_nnF, ↓vl_ic_eqF, ↓vl_if_eqF, ↓vl_ic_eqB, ↓vl_if_eqB, ↓vl_ic_neF, ↓vl_if_neF, ↓vl_ic_neB, ↓vl_if_neB, ↓vl_ic_ltF, ↓vl_if_ltF, ↓vl_ic_ltB, ↓vl_if_ltB, ↓vl_ic_geF, ↓vl_if_geF, ↓vl_ic_geB, ↓vl_if_geB, ↓vl_ic_gtF, ↓vl_if_gtF, ↓vl_ic_gtB, ↓vl_if_gtB, ↓vl_ic_leF, ↓vl_if_leF, ↓vl_ic_leB, ↓vl_if_leB, ↓vl_sw, ↓vl_get, ↓vl_putI, ↓vl_putL, ↓vl_iald, ↓vl_iast, ↓vl_alen, ↓vl_aald, ↓vl_iretI, ↓vl_iretZ, ↓vl_ret, ↓vl_mark, ↓vl_markT, ↓vl_skip, ↓vl_st0, ↓vl_vi0, ↓vl_st1, ↓vl_vi1, ↓vl_st2, ↓vl_vi2, ↓vl_st3, ↓vl_vi3, ↓vl_st4, ↓vl_vi4, ↓vl_st5, ↓vl_vi5, ↓vl_st6, ↓vl_vi6, ↓vl_min, ↓vl_max, ↓vl_cpy, ↓vk_kvs, ↓vk_kvn, ↓vk_gf0, ↓vk_gv0, ↓vk_gv1, ↓vk_gv2, ↓vk_pf, ↓vk_ar, ↓vk_arr, bc_lay, bc_fn, bc_mk, bc_cs, bc_cat, bc_nl, bc_nth, bc_en, bc_sw, true_and, and_true, ↓reduceIte, reduceCtorEq, Nat.reduceEqDiff, Nat.reduceLeDiff, Nat.reduceAdd, Nat.le_refl, Nat.zero_le, Int.cast_ofNat_Int, Int.reduceEq, eq_self, true_implies, false_implies, not_true_eq_false, not_false_eq_true, bc_vr, Int.reduceToNat, Int.toNat_natCast, Int.reduceLE, Int.reduceLT, Int.reduceNeg, true_or, or_true, forall_const, Int.reduceAdd]
  have hM1 : pd_M 106 D h1 := pd_M_fr hM (a4 106 (by omega) (by omega))
  refine l7_ch_9 hV hm hbut hl10 hlt (h0 := h1) hM1 a2 (fun h2 b1 b2 => ?_) (pd_rk D (pd_ob D) (D 0).toNat).length 0 h1 (by omega) (fun j x hx => by simp at hx) (fun j x _ hx => a1 j x hx) (fun _ _ => rfl)
  have eshl : bc_shl 1 ((pd_wl D mid but).length : Int) - 1 = ((2 ^ (pd_wl D mid but).length - 1 : Nat) : Int) := by
    rw [bc_shl_pow _ (by omega)]; omega
  refine at_X7_laysChosen_69 ?_
  simp only [ks_X7_laysChosen_69, ↓vl_iconst, ↓vl_bipush, ↓vl_sipush, ↓vl_lconst, ↓vl_ldc, ↓vl_ldcw, ↓vl_ldc2, ↓vl_iload0, ↓vl_aload0, ↓vl_istore0, ↓vl_iinc0, ↓vl_iload1, ↓vl_aload1, ↓vl_istore1, ↓vl_iinc1, ↓vl_iload2, ↓vl_aload2, ↓vl_istore2, ↓vl_iinc2, ↓vl_iload3, ↓vl_aload3, ↓vl_istore3, ↓vl_iinc3, ↓vl_iload4, ↓vl_istore4, ↓vl_iinc4, ↓vl_iload5, ↓vl_istore5, ↓vl_iinc5, ↓vl_iload6, ↓vl_istore6, ↓vl_iinc6, ↓vl_iload7, ↓vl_istore7, ↓vl_iinc7, ↓vl_lload5, ↓vl_lstore5, ↓vl_iadd, ↓vl_isub, ↓vl_imul, ↓vl_iand, ↓vl_ior, ↓vl_ixor, ↓vl_ishl, ↓vl_ishr, ↓vl_iushr, ↓vl_idiv, ↓vl_irem, ↓vl_ladd, ↓vl_lsub, ↓vl_lmul, ↓vl_lcmp, ↓vl_i2l, ↓vl_dup, ↓vl_dup2, ↓vl_gotoF, ↓vl_gotoB, ↓vl_nnF, ↓vl_ic_eqF, ↓vl_if_eqF, ↓vl_ic_eqB, ↓vl_if_eqB, ↓vl_ic_neF, ↓vl_if_neF, ↓vl_ic_neB, ↓vl_if_neB, ↓vl_ic_ltF, ↓vl_if_ltF, ↓vl_ic_ltB, ↓vl_if_ltB, ↓vl_ic_geF, ↓vl_if_geF, ↓vl_ic_geB, ↓vl_if_geB, ↓vl_ic_gtF, ↓vl_if_gtF, ↓vl_ic_gtB, ↓vl_if_gtB, ↓vl_ic_leF, ↓vl_if_leF, ↓vl_ic_leB, ↓vl_if_leB, ↓vl_sw, ↓vl_get, ↓vl_putI, ↓vl_putL, ↓vl_iald, ↓vl_iast, ↓vl_alen, ↓vl_aald, ↓vl_iretI, ↓vl_iretZ, ↓vl_ret, ↓vl_mark, ↓vl_markT, ↓vl_skip, ↓vl_st0, ↓vl_vi0, ↓vl_st1, ↓vl_vi1, ↓vl_st2, ↓vl_vi2, ↓vl_st3, ↓vl_vi3, ↓vl_st4, ↓vl_vi4, ↓vl_st5, ↓vl_vi5, ↓vl_st6, ↓vl_vi6, ↓vl_min, ↓vl_max, ↓vl_cpy, ↓vk_kvs, ↓vk_kvn, ↓vk_gf0, ↓vk_gv0, ↓vk_gv1, ↓vk_gv2, ↓vk_pf, ↓vk_ar, ↓vk_arr, bc_lay, bc_fn, bc_mk, bc_cs, bc_cat, bc_nl, bc_nth, bc_en, bc_sw, true_and, and_true, ↓reduceIte, reduceCtorEq, Nat.reduceEqDiff, Nat.reduceLeDiff, Nat.reduceAdd, Nat.le_refl, Nat.zero_le, Int.cast_ofNat_Int, Int.reduceEq, eq_self, true_implies, false_implies, not_true_eq_false, not_false_eq_true, bc_vr, Int.reduceToNat, Int.toNat_natCast, Int.reduceLE, Int.reduceLT, Int.reduceNeg, true_or, or_true, forall_const, Int.reduceAdd]
  show bc_AT (d + 4) 114 post 86 [some (.inr (.inr 104)), none, none, some (.inl ((pd_wl D mid but).length : Int)), some (.inl (bc_shl 1 ((pd_wl D mid but).length : Int) - 1)), none, none] [] _
  rw [eshl]
  refine l7_ch_86 hV (lo := lo) (hi := hi) hlen hnd hlt2 blo bhi (h0 := h) (2 ^ (pd_wl D mid but).length - 1) _ (0, 0) (by omega) ⟨fun j hj => ?_, fun o ho => ?_, fun j x hx => ?_⟩ ⟨fun j c1 c2 c3 c4 c5 => ?_, fun c c1 c2 c3 => ?_⟩ (by simp [bc_up]) (by simp [bc_up]) (by simp) (fun h' f1 f2 f3 => ?_)
  · simp [bc_up]; rw [b2 106 (by omega)]; exact hM1 j hj
  · simp [bc_up]; rw [b2 110 (by omega), b2 111 (by omega), a4 110 (by omega) (by omega), a4 111 (by omega) (by omega)]; exact hlh o ho
  · simp [bc_up]; exact b1 j x hx
  · simp [bc_up, c4, c5]; rw [b2 104 (by omega)]; exact a3 j c1
  · funext q; simp [bc_up, c1]; rw [b2 c c2, a4 c c1 c2]
  · have e : pd_scan (fun S => pd_VM D lo hi S S) pd_ml (pd_cd (pd_wl D mid but) (2 ^ (pd_wl D mid but).length - 1)) (0, 0) = pd_ch D lo hi (fun _ => false) (pd_wl D mid but) := pd_scan_cd (by show pd_VM D lo hi [] [] ≤ 0; rw [pd_VM_nil]; omega) (by simp)
    rw [e] at f2 f3
    exact kk h' f1 f2 f3
/-- leasts and sizes as they are -/
def pd_l0 (D : Nat → Int) (o : Nat) : Int := D (7 + 9 * o + 2)
theorem pd_wl_ok (hV : pd_V D) {mid but : Int} {x : Nat} (hx : x ∈ pd_wl D mid but) : (x : Int) < D 0 ∧ pd_wb D mid x = true ∧ ¬ (x : Int) = but ∧ 1 ≤ pd_l0 D x ∧ pd_l0 D x ≤ pd_sz D x ∧ pd_sz D x ≤ 999 := by
  obtain ⟨h1, h2⟩ := List.mem_filter.mp hx
  obtain ⟨h3, h4⟩ := (pd_rk_mem _).mp h1
  simp only [pd_qf, Bool.and_eq_true] at h2
  have hb := h2.1
  simp at hb
  have v0 := hV.1
  have hlt : (x : Int) < D 0 := by omega
  obtain ⟨-, r1, -, -, -, -, r6⟩ := hV.2.2 x hlt
  have := r6 (pd_ob_iff.mp h4).2
  exact ⟨hlt, h2.2, hb, this.1, this.2, r1.2⟩
theorem c7_choosesNow (hM : pd_M 106 D h) (hV : pd_V D) (hl10 : (pd_rk D (pd_ob D) (D 0).toNat).length ≤ 10)
    (kk : ∀ h', (∀ j : Nat, j ≠ 16 → j ≠ 23 → j ≠ 24 → j ≠ 25 → j ≠ 26 → h' 104 j = h 104 j) → (∀ c : Nat, c ≠ 104 → (c < 109 ∨ 115 < c) → h' c = h c) → (∀ o : Nat, o < 24 → h' 110 o = pd_l0 D o ∧ h' 111 o = pd_sz D o) → h' 104 26 = (pd_ch D (pd_l0 D) (pd_sz D) (fun _ => false) (pd_wl D (D 1) (-1))).1 → h' 104 25 = (pd_ch D (pd_l0 D) (pd_sz D) (fun _ => false) (pd_wl D (D 1) (-1))).2 → post none h') : bc_OK (d + 6) 115 [.inr (.inr 104)] h post := by
  have v0 := hV.1
  have v1 := hV.2.1
  refine bc_run (n := 1) ck_X7_choosesNow rfl rfl rfl rfl (Nat.le_of_ble_eq_true rfl) ?_
  simp only [k_X7_choosesNow, ↓vl_iconst, ↓vl_bipush, ↓vl_sipush, ↓vl_lconst, ↓vl_ldc, ↓vl_ldcw, ↓vl_ldc2, ↓vl_iload0, ↓vl_aload0, ↓vl_istore0, ↓vl_iinc0, ↓vl_iload1, ↓vl_aload1, ↓vl_istore1, ↓vl_iinc1, ↓vl_iload2, ↓vl_aload2, ↓vl_istore2, ↓vl_iinc2, ↓vl_iload3, ↓vl_aload3, ↓vl_istore3, ↓vl_iinc3, ↓vl_iload4, ↓vl_istore4, ↓vl_iinc4, ↓vl_iload5, ↓vl_istore5, ↓vl_iinc5, ↓vl_iload6, ↓vl_istore6, ↓vl_iinc6, ↓vl_iload7, ↓vl_istore7, ↓vl_iinc7, ↓vl_lload5, ↓vl_lstore5, ↓vl_iadd, ↓vl_isub, ↓vl_imul, ↓vl_iand, ↓vl_ior, ↓vl_ixor, ↓vl_ishl, ↓vl_ishr, ↓vl_iushr, ↓vl_idiv, ↓vl_irem, ↓vl_ladd, ↓vl_lsub, ↓vl_lmul, ↓vl_lcmp, ↓vl_i2l, ↓vl_dup, ↓vl_dup2, ↓vl_gotoF, ↓vl_gotoB, ↓vl_nnF, ↓vl_ic_eqF, ↓vl_if_eqF, ↓vl_ic_eqB, ↓vl_if_eqB, ↓vl_ic_neF, ↓vl_if_neF, ↓vl_ic_neB, ↓vl_if_neB, ↓vl_ic_ltF, ↓vl_if_ltF, ↓vl_ic_ltB, ↓vl_if_ltB, ↓vl_ic_geF, ↓vl_if_geF, ↓vl_ic_geB, ↓vl_if_geB, ↓vl_ic_gtF, ↓vl_if_gtF, ↓vl_ic_gtB, ↓vl_if_gtB, ↓vl_ic_leF, ↓vl_if_leF, ↓vl_ic_leB, ↓vl_if_leB, ↓vl_sw, ↓vl_get, ↓vl_putI, ↓vl_putL, ↓vl_iald, ↓vl_iast, ↓vl_alen, ↓vl_aald, ↓vl_iretI, ↓vl_iretZ, ↓vl_ret, ↓vl_mark, ↓vl_markT, ↓vl_skip, ↓vl_st0, ↓vl_vi0, ↓vl_st1, ↓vl_vi1, ↓vl_st2, ↓vl_vi2, ↓vl_st3, ↓vl_vi3, ↓vl_st4, ↓vl_vi4, ↓vl_st5, ↓vl_vi5, ↓vl_st6, ↓vl_vi6, ↓vl_min, ↓vl_max, ↓vl_cpy, ↓vk_kvs, ↓vk_kvn, ↓vk_gf0, ↓vk_gv0, ↓vk_gv1, ↓vk_gv2, ↓vk_pf, ↓vk_ar, ↓vk_arr, bc_lay, bc_fn, bc_mk, bc_cs, bc_cat, bc_nl, bc_nth, bc_en, bc_sw, true_and, and_true, ↓reduceIte, reduceCtorEq, Nat.reduceEqDiff, Nat.reduceLeDiff, Nat.reduceAdd, Nat.le_refl, Nat.zero_le, Int.cast_ofNat_Int, Int.reduceEq, eq_self, true_implies, false_implies, not_true_eq_false, not_false_eq_true, bc_vr, Int.reduceToNat, Int.toNat_natCast, Int.reduceLE, Int.reduceLT, Int.reduceNeg, true_or, or_true, forall_const, Int.reduceAdd]
  refine c7_laysBounds hM (fun h1 b1 f1 => ?_)
  have hM1 : pd_M 106 D h1 := pd_M_fr hM (f1 106 (by omega))
  simp only [↓vl_iconst, ↓vl_bipush, ↓vl_sipush, ↓vl_lconst, ↓vl_ldc, ↓vl_ldcw, ↓vl_ldc2, ↓vl_iload0, ↓vl_aload0, ↓vl_istore0, ↓vl_iinc0, ↓vl_iload1, ↓vl_aload1, ↓vl_istore1, ↓vl_iinc1, ↓vl_iload2, ↓vl_aload2, ↓vl_istore2, ↓vl_iinc2, ↓vl_iload3, ↓vl_aload3, ↓vl_istore3, ↓vl_iinc3, ↓vl_iload4, ↓vl_istore4, ↓vl_iinc4, ↓vl_iload5, ↓vl_istore5, ↓vl_iinc5, ↓vl_iload6, ↓vl_istore6, ↓vl_iinc6, ↓vl_iload7, ↓vl_istore7, ↓vl_iinc7, ↓vl_lload5, ↓vl_lstore5, ↓vl_iadd, ↓vl_isub, ↓vl_imul, ↓vl_iand, ↓vl_ior, ↓vl_ixor, ↓vl_ishl, ↓vl_ishr, ↓vl_iushr, ↓vl_idiv, ↓vl_irem, ↓vl_ladd, ↓vl_lsub, ↓vl_lmul, ↓vl_lcmp, ↓vl_i2l, ↓vl_dup, ↓vl_dup2, ↓vl_gotoF, ↓vl_gotoB, ↓vl_nnF, ↓vl_ic_eqF, ↓vl_if_eqF, ↓vl_ic_eqB, ↓vl_if_eqB, ↓vl_ic_neF, ↓vl_if_neF, ↓vl_ic_neB, ↓vl_if_neB, ↓vl_ic_ltF, ↓vl_if_ltF, ↓vl_ic_ltB, ↓vl_if_ltB, ↓vl_ic_geF, ↓vl_if_geF, ↓vl_ic_geB, ↓vl_if_geB, ↓vl_ic_gtF, ↓vl_if_gtF, ↓vl_ic_gtB, ↓vl_if_gtB, ↓vl_ic_leF, ↓vl_if_leF, ↓vl_ic_leB, ↓vl_if_leB, ↓vl_sw, ↓vl_get, ↓vl_putI, ↓vl_putL, ↓vl_iald, ↓vl_iast, ↓vl_alen, ↓vl_aald, ↓vl_iretI, ↓vl_iretZ, ↓vl_ret, ↓vl_mark, ↓vl_markT, ↓vl_skip, ↓vl_st0, ↓vl_vi0, ↓vl_st1, ↓vl_vi1, ↓vl_st2, ↓vl_vi2, ↓vl_st3, ↓vl_vi3, ↓vl_st4, ↓vl_vi4, ↓vl_st5, ↓vl_vi5, ↓vl_st6, ↓vl_vi6, ↓vl_min, ↓vl_max, ↓vl_cpy, ↓vk_kvs, ↓vk_kvn, ↓vk_gf0, ↓vk_gv0, ↓vk_gv1, ↓vk_gv2, ↓vk_pf, ↓vk_ar, ↓vk_arr, bc_lay, bc_fn, bc_mk, bc_cs, bc_cat, bc_nl, bc_nth, bc_en, bc_sw, true_and, and_true, ↓reduceIte, reduceCtorEq, Nat.reduceEqDiff, Nat.reduceLeDiff, Nat.reduceAdd, Nat.le_refl, Nat.zero_le, Int.cast_ofNat_Int, Int.reduceEq, eq_self, true_implies, false_implies, not_true_eq_false, not_false_eq_true, bc_vr, Int.reduceToNat, Int.toNat_natCast, Int.reduceLE, Int.reduceLT, Int.reduceNeg, true_or, or_true, forall_const, Int.reduceAdd, hM1 1 (by omega)]
  refine c7_laysChosen hM1 hV hl10 ⟨by omega, by omega⟩ ⟨by omega, by omega⟩ (lo := pd_l0 D) (hi := pd_sz D) (fun o ho => b1 o (by omega)) (fun x hx => by have := pd_wl_ok hV hx; omega) (fun x hx => by have := pd_wl_ok hV hx; omega) (fun h2 f2 e26 e25 => ?_)
  simp only [↓vl_iconst, ↓vl_bipush, ↓vl_sipush, ↓vl_lconst, ↓vl_ldc, ↓vl_ldcw, ↓vl_ldc2, ↓vl_iload0, ↓vl_aload0, ↓vl_istore0, ↓vl_iinc0, ↓vl_iload1, ↓vl_aload1, ↓vl_istore1, ↓vl_iinc1, ↓vl_iload2, ↓vl_aload2, ↓vl_istore2, ↓vl_iinc2, ↓vl_iload3, ↓vl_aload3, ↓vl_istore3, ↓vl_iinc3, ↓vl_iload4, ↓vl_istore4, ↓vl_iinc4, ↓vl_iload5, ↓vl_istore5, ↓vl_iinc5, ↓vl_iload6, ↓vl_istore6, ↓vl_iinc6, ↓vl_iload7, ↓vl_istore7, ↓vl_iinc7, ↓vl_lload5, ↓vl_lstore5, ↓vl_iadd, ↓vl_isub, ↓vl_imul, ↓vl_iand, ↓vl_ior, ↓vl_ixor, ↓vl_ishl, ↓vl_ishr, ↓vl_iushr, ↓vl_idiv, ↓vl_irem, ↓vl_ladd, ↓vl_lsub, ↓vl_lmul, ↓vl_lcmp, ↓vl_i2l, ↓vl_dup, ↓vl_dup2, ↓vl_gotoF, ↓vl_gotoB, ↓vl_nnF, ↓vl_ic_eqF, ↓vl_if_eqF, ↓vl_ic_eqB, ↓vl_if_eqB, ↓vl_ic_neF, ↓vl_if_neF, ↓vl_ic_neB, ↓vl_if_neB, ↓vl_ic_ltF, ↓vl_if_ltF, ↓vl_ic_ltB, ↓vl_if_ltB, ↓vl_ic_geF, ↓vl_if_geF, ↓vl_ic_geB, ↓vl_if_geB, ↓vl_ic_gtF, ↓vl_if_gtF, ↓vl_ic_gtB, ↓vl_if_gtB, ↓vl_ic_leF, ↓vl_if_leF, ↓vl_ic_leB, ↓vl_if_leB, ↓vl_sw, ↓vl_get, ↓vl_putI, ↓vl_putL, ↓vl_iald, ↓vl_iast, ↓vl_alen, ↓vl_aald, ↓vl_iretI, ↓vl_iretZ, ↓vl_ret, ↓vl_mark, ↓vl_markT, ↓vl_skip, ↓vl_st0, ↓vl_vi0, ↓vl_st1, ↓vl_vi1, ↓vl_st2, ↓vl_vi2, ↓vl_st3, ↓vl_vi3, ↓vl_st4, ↓vl_vi4, ↓vl_st5, ↓vl_vi5, ↓vl_st6, ↓vl_vi6, ↓vl_min, ↓vl_max, ↓vl_cpy, ↓vk_kvs, ↓vk_kvn, ↓vk_gf0, ↓vk_gv0, ↓vk_gv1, ↓vk_gv2, ↓vk_pf, ↓vk_ar, ↓vk_arr, bc_lay, bc_fn, bc_mk, bc_cs, bc_cat, bc_nl, bc_nth, bc_en, bc_sw, true_and, and_true, ↓reduceIte, reduceCtorEq, Nat.reduceEqDiff, Nat.reduceLeDiff, Nat.reduceAdd, Nat.le_refl, Nat.zero_le, Int.cast_ofNat_Int, Int.reduceEq, eq_self, true_implies, false_implies, not_true_eq_false, not_false_eq_true, bc_vr, Int.reduceToNat, Int.toNat_natCast, Int.reduceLE, Int.reduceLT, Int.reduceNeg, true_or, or_true, forall_const, Int.reduceAdd]
  refine kk h2 (fun j c1 c2 c3 c4 c5 => ?_) (fun c c1 c2 => ?_) (fun o ho => ?_) e26 e25
  · rw [f2.1 j c1 c2 c3 c4 c5, f1 104 (by omega)]
  · rw [f2.2 c c1 (by omega) (by omega), f1 c (by omega)]
  · rw [f2.2 110 (by omega) (by omega) (by omega), f2.2 111 (by omega) (by omega) (by omega)]; exact b1 o ho
end MCh
end
section
/-! both sides: what is chosen, as one pure value; isPrice, volumeAt, chosen, were, worth -/
/-- what is chosen at mid with these leasts, 'but' left out, 'must' held in -/
def pd_pk (D lo : Nat → Int) (must : Nat → Bool) (mid but : Int) : Int × Int := pd_ch D lo (pd_sz D) must (pd_wl D mid but)
def pd_W (D : Nat → Int) : Prop := pd_V D ∧ (pd_rk D (pd_ob D) (D 0).toNat).length ≤ 10
theorem pd_wl_rk {D : Nat → Int} {mid but : Int} : pd_wl D mid but = pd_rk D (fun x => pd_wb D mid x && !decide ((x : Int) = but)) (D 0).toNat := by
  unfold pd_wl
  rw [pd_rk_filter]
  refine pd_rk_congr _ (fun i hi => ?_)
  unfold pd_qf pd_wb
  cases pd_ob D i <;> cases decide ((i : Int) = but) <;> simp
theorem pd_ch_congr {D lo lo' hi hi' : Nat → Int} {p q : Nat → Bool} {R : List Nat} (hl : ∀ x ∈ R, lo x = lo' x) (hh : ∀ x ∈ R, hi x = hi' x) (hp : ∀ x ∈ R, p x = q x) : pd_ch D lo hi p R = pd_ch D lo' hi' q R := by
  unfold pd_ch
  rw [pd_subs_congr R hp]
  have sfc : ∀ (g g' : Nat → Int) (s : Int) (f : Nat) (S : List Nat), (∀ x ∈ S, g x = g' x) → pd_sf D g s f S = pd_sf D g' s f S := by
    intro g g' s f S
    induction S with
    | nil => intro _; rfl
    | cons x r ih => intro h; rw [pd_sf, pd_sf, ih (fun y hy => h y (List.mem_cons_of_mem _ hy)), h x List.mem_cons_self]
  have vme : ∀ S : List Nat, (∀ x ∈ S, x ∈ R) → pd_VM D lo hi S S = pd_VM D lo' hi' S S := by
    intro S hS
    unfold pd_VM
    congr 1 <;> (funext f; first | exact sfc _ _ _ _ _ (fun x hx => hl x (hS x hx)) | exact sfc _ _ _ _ _ (fun x hx => hh x (hS x hx)))
  have scn : ∀ (L : List (List Nat)) (a : Int × Int), (∀ S ∈ L, ∀ x ∈ S, x ∈ R) → pd_scan (fun S => pd_VM D lo hi S S) pd_ml L a = pd_scan (fun S => pd_VM D lo' hi' S S) pd_ml L a := by
    intro L
    induction L with
    | nil => intro a _; rfl
    | cons S L ih =>
      intro a h
      rw [pd_scan, pd_scan, vme S (h S List.mem_cons_self)]
      exact ih _ (fun S' hS' => h S' (List.mem_cons_of_mem _ hS'))
  exact scn _ _ (fun S hS x hx => (pd_subs_sub R S hS).subset hx)
section Pick
variable {d : Nat} {h : bc_AH} {post : Option bc_AV → bc_AH → Prop} {D : Nat → Int}
theorem c6_isPrice {v : Int} (hv : bc_vr v) (k1 : 0 ≤ v → v ≤ 999 → post (some (.inl 1)) h) (k0 : ¬ (0 ≤ v ∧ v ≤ 999) → post (some (.inl 0)) h) : bc_OK (d + 1) 77 [.inl v] h post := by
  refine bc_run (n := 1) ck_X6_isPrice rfl rfl rfl rfl (Nat.le_of_ble_eq_true rfl) ?_
  simp only [k_X6_isPrice, ↓vl_iconst, ↓vl_bipush, ↓vl_sipush, ↓vl_lconst, ↓vl_ldc, ↓vl_ldcw, ↓vl_ldc2, ↓vl_iload0, ↓vl_aload0, ↓vl_istore0, ↓vl_iinc0, ↓vl_iload1, ↓vl_aload1, ↓vl_istore1, ↓vl_iinc1, ↓vl_iload2, ↓vl_aload2, ↓vl_istore2, ↓vl_iinc2, ↓vl_iload3, ↓vl_aload3, ↓vl_istore3, ↓vl_iinc3, ↓vl_iload4, ↓vl_istore4, ↓vl_iinc4, ↓vl_iload5, ↓vl_istore5, ↓vl_iinc5, ↓vl_iload6, ↓vl_istore6, ↓vl_iinc6, ↓vl_iload7, ↓vl_istore7, ↓vl_iinc7, ↓vl_lload5, ↓vl_lstore5, ↓vl_iadd, ↓vl_isub, ↓vl_imul, ↓vl_iand, ↓vl_ior, ↓vl_ixor, ↓vl_ishl, ↓vl_ishr, ↓vl_iushr, ↓vl_idiv, ↓vl_irem, ↓vl_ladd, ↓vl_lsub, ↓vl_lmul, ↓vl_lcmp, ↓vl_i2l, ↓vl_dup, ↓vl_dup2, ↓vl_gotoF, ↓vl_gotoB, ↓vl_nnF, ↓vl_ic_eqF, ↓vl_if_eqF, ↓vl_ic_eqB, ↓vl_if_eqB, ↓vl_ic_neF, ↓vl_if_neF, ↓vl_ic_neB, ↓vl_if_neB, ↓vl_ic_ltF, ↓vl_if_ltF, ↓vl_ic_ltB, ↓vl_if_ltB, ↓vl_ic_geF, ↓vl_if_geF, ↓vl_ic_geB, ↓vl_if_geB, ↓vl_ic_gtF, ↓vl_if_gtF, ↓vl_ic_gtB, ↓vl_if_gtB, ↓vl_ic_leF, ↓vl_if_leF, ↓vl_ic_leB, ↓vl_if_leB, ↓vl_sw, ↓vl_get, ↓vl_putI, ↓vl_putL, ↓vl_iald, ↓vl_iast, ↓vl_alen, ↓vl_aald, ↓vl_iretI, ↓vl_iretZ, ↓vl_ret, ↓vl_mark, ↓vl_markT, ↓vl_skip, ↓vl_st0, ↓vl_vi0, ↓vl_st1, ↓vl_vi1, ↓vl_st2, ↓vl_vi2, ↓vl_st3, ↓vl_vi3, ↓vl_st4, ↓vl_vi4, ↓vl_st5, ↓vl_vi5, ↓vl_st6, ↓vl_vi6, ↓vl_min, ↓vl_max, ↓vl_cpy, ↓vk_kvs, ↓vk_kvn, ↓vk_gf0, ↓vk_gv0, ↓vk_gv1, ↓vk_gv2, ↓vk_pf, ↓vk_ar, ↓vk_arr, bc_lay, bc_fn, bc_mk, bc_cs, bc_cat, bc_nl, bc_nth, bc_en, bc_sw, true_and, and_true, ↓reduceIte, reduceCtorEq, Nat.reduceEqDiff, Nat.reduceLeDiff, Nat.reduceAdd, Nat.le_refl, Nat.zero_le, Int.cast_ofNat_Int, Int.reduceEq, eq_self, true_implies, false_implies, not_true_eq_false, not_false_eq_true, bc_vr, Int.reduceToNat, Int.toNat_natCast, Int.reduceLE, Int.reduceLT, Int.reduceNeg, true_or, or_true, forall_const, Int.reduceAdd]
  repeat' (first | refine And.intro ?_ ?_ | intro _)
  all_goals first | exact hv.1 | exact hv.2 | omega | exact k0 (by omega) | exact k1 (by omega) (by omega)
/-- the class's choose among the willing (but one), 'needed' held in -/
theorem c0_pick (hC : pd_C 4 D h) (hW : pd_W D) {m nd sp sl mid but : Int} (e5 : h 22 5 = sp) (e6 : h 22 6 = sl) (hsp : bc_vr sp) (hmk : ∀ i : Nat, (i : Int) < D 0 → bc_bit m i = (pd_wb D mid i && !decide ((i : Int) = but))) {lo : Nat → Int} (hlo : ∀ o, lo o = pd_lo D sp sl o) (blo : ∀ x ∈ pd_wl D mid but, 0 ≤ lo x ∧ lo x ≤ 999)
    (kk : ∀ h', pd_XS D (pd_wl D mid but) sp sl nd h' → h' 22 8 = (pd_pk D lo (bc_bit nd) mid but).1 → h' 22 9 = (pd_pk D lo (bc_bit nd) mid but).2 → pd_fr 22 28 h h' → post none h') : bc_OK (d + 16) 2 [.inr (.inr 22), .inl m, .inl nd] h post := by
  have v0 := hW.1.1
  have e : pd_rk D (bc_bit m) (D 0).toNat = pd_wl D mid but := by
    rw [pd_wl_rk]
    exact pd_rk_congr _ (fun i hi => hmk i (by omega))
  have hlen : (pd_wl D mid but).length ≤ 10 := by
    have := List.length_filter_le (pd_qf D mid but) (pd_rk D (pd_ob D) (D 0).toNat)
    have := hW.2
    unfold pd_wl; omega
  refine c0_choose hC hW.1 e5 e6 (by rw [e]; exact hlen) (lo := lo) (hi := pd_sz D) hlo (fun _ => rfl) hsp (by rw [e]; exact blo) (fun h' x1 x2 x3 x4 => ?_)
  rw [e] at x1 x2 x3
  exact kk h' x1 x2 x3 x4
theorem pd_mask_wb {mid : Int} (hV : pd_V D) {i : Nat} (hi : (i : Int) < D 0) : bc_bit (pd_mask (pd_wb D mid) (D 0).toNat) i = pd_wb D mid i := by
  have v0 := hV.1
  rw [pd_mask_bit _ _ _ (by omega) (by omega), decide_eq_true (by omega), Bool.true_and]
theorem pd_wl_b (hV : pd_V D) {mid but : Int} : ∀ x ∈ pd_wl D mid but, 0 ≤ pd_l0 D x ∧ pd_l0 D x ≤ 999 := fun x hx => by
  have := pd_wl_ok hV hx
  omega
/-- the class between calls: nothing supposed -/
theorem c0_pickNow (hC : pd_C 4 D h) (hW : pd_W D) (e5 : h 22 5 = -1) {mid nd : Int}
    (kk : ∀ h', pd_XS D (pd_wl D mid (-1)) (-1) (h 22 6) nd h' → h' 22 8 = (pd_pk D (pd_l0 D) (bc_bit nd) mid (-1)).1 → h' 22 9 = (pd_pk D (pd_l0 D) (bc_bit nd) mid (-1)).2 → pd_fr 22 28 h h' → post none h') : bc_OK (d + 16) 2 [.inr (.inr 22), .inl (pd_mask (pd_wb D mid) (D 0).toNat), .inl nd] h post := by
  refine c0_pick hC hW e5 rfl ⟨by omega, by omega⟩ (mid := mid) (but := -1) (fun i hi => ?_) (lo := pd_l0 D) (fun o => ?_) (pd_wl_b hW.1) kk
  · rw [pd_mask_wb hW.1 hi, decide_eq_false (by omega)]; simp
  · unfold pd_lo pd_l0; rw [if_neg (by omega)]
theorem pd_pk0 {lo : Nat → Int} {mid but : Int} : pd_pk D lo (bc_bit 0) mid but = pd_pk D lo (fun _ => false) mid but := pd_ch_congr (fun _ _ => rfl) (fun _ _ => rfl) (fun x _ => bc_bit_0 x)
/-- chosen(mid, what), the class -/
theorem c6_chosen (hC : pd_C 4 D h) (hW : pd_W D) (e5 : h 22 5 = -1) {mid w : Int} (hm : bc_vr mid) (hw : bc_vr w)
    (kk : ∀ h', pd_fr 22 28 h h' → h' 22 5 = -1 → post (some (.inl (if (0 ≤ mid ∧ mid ≤ 999) ∧ 0 ≤ w ∧ w ≤ 1 then (if w = 0 then (pd_pk D (pd_l0 D) (fun _ => false) mid (-1)).1 else (pd_pk D (pd_l0 D) (fun _ => false) mid (-1)).2) else -1))) h') : bc_OK (d + 17) 61 [.inr (.inr 0), .inl mid, .inl w] h post := by
  have k0 : ¬ ((0 ≤ mid ∧ mid ≤ 999) ∧ 0 ≤ w ∧ w ≤ 1) → post (some (.inl (-1))) h := fun q => by
    have := kk h pd_fr_refl e5
    rw [if_neg q] at this
    exact this
  have hw1 := hw.1
  have hw2 := hw.2
  refine bc_run (n := 3) ck_X6_chosen rfl rfl rfl rfl (Nat.le_of_ble_eq_true rfl) ?_
  simp only [k_X6_chosen, ↓vl_iconst, ↓vl_bipush, ↓vl_sipush, ↓vl_lconst, ↓vl_ldc, ↓vl_ldcw, ↓vl_ldc2, ↓vl_iload0, ↓vl_aload0, ↓vl_istore0, ↓vl_iinc0, ↓vl_iload1, ↓vl_aload1, ↓vl_istore1, ↓vl_iinc1, ↓vl_iload2, ↓vl_aload2, ↓vl_istore2, ↓vl_iinc2, ↓vl_iload3, ↓vl_aload3, ↓vl_istore3, ↓vl_iinc3, ↓vl_iload4, ↓vl_istore4, ↓vl_iinc4, ↓vl_iload5, ↓vl_istore5, ↓vl_iinc5, ↓vl_iload6, ↓vl_istore6, ↓vl_iinc6, ↓vl_iload7, ↓vl_istore7, ↓vl_iinc7, ↓vl_lload5, ↓vl_lstore5, ↓vl_iadd, ↓vl_isub, ↓vl_imul, ↓vl_iand, ↓vl_ior, ↓vl_ixor, ↓vl_ishl, ↓vl_ishr, ↓vl_iushr, ↓vl_idiv, ↓vl_irem, ↓vl_ladd, ↓vl_lsub, ↓vl_lmul, ↓vl_lcmp, ↓vl_i2l, ↓vl_dup, ↓vl_dup2, ↓vl_gotoF, ↓vl_gotoB, ↓vl_nnF, ↓vl_ic_eqF, ↓vl_if_eqF, ↓vl_ic_eqB, ↓vl_if_eqB, ↓vl_ic_neF, ↓vl_if_neF, ↓vl_ic_neB, ↓vl_if_neB, ↓vl_ic_ltF, ↓vl_if_ltF, ↓vl_ic_ltB, ↓vl_if_ltB, ↓vl_ic_geF, ↓vl_if_geF, ↓vl_ic_geB, ↓vl_if_geB, ↓vl_ic_gtF, ↓vl_if_gtF, ↓vl_ic_gtB, ↓vl_if_gtB, ↓vl_ic_leF, ↓vl_if_leF, ↓vl_ic_leB, ↓vl_if_leB, ↓vl_sw, ↓vl_get, ↓vl_putI, ↓vl_putL, ↓vl_iald, ↓vl_iast, ↓vl_alen, ↓vl_aald, ↓vl_iretI, ↓vl_iretZ, ↓vl_ret, ↓vl_mark, ↓vl_markT, ↓vl_skip, ↓vl_st0, ↓vl_vi0, ↓vl_st1, ↓vl_vi1, ↓vl_st2, ↓vl_vi2, ↓vl_st3, ↓vl_vi3, ↓vl_st4, ↓vl_vi4, ↓vl_st5, ↓vl_vi5, ↓vl_st6, ↓vl_vi6, ↓vl_min, ↓vl_max, ↓vl_cpy, ↓vk_kvs, ↓vk_kvn, ↓vk_gf0, ↓vk_gv0, ↓vk_gv1, ↓vk_gv2, ↓vk_pf, ↓vk_ar, ↓vk_arr, bc_lay, bc_fn, bc_mk, bc_cs, bc_cat, bc_nl, bc_nth, bc_en, bc_sw, true_and, and_true, ↓reduceIte, reduceCtorEq, Nat.reduceEqDiff, Nat.reduceLeDiff, Nat.reduceAdd, Nat.le_refl, Nat.zero_le, Int.cast_ofNat_Int, Int.reduceEq, eq_self, true_implies, false_implies, not_true_eq_false, not_false_eq_true, bc_vr, Int.reduceToNat, Int.toNat_natCast, Int.reduceLE, Int.reduceLT, Int.reduceNeg, true_or, or_true, forall_const, Int.reduceAdd]
  refine c6_isPrice hm (fun h1 h2 => ?_) (fun h1 => ?_)
  · simp only [↓vl_iconst, ↓vl_bipush, ↓vl_sipush, ↓vl_lconst, ↓vl_ldc, ↓vl_ldcw, ↓vl_ldc2, ↓vl_iload0, ↓vl_aload0, ↓vl_istore0, ↓vl_iinc0, ↓vl_iload1, ↓vl_aload1, ↓vl_istore1, ↓vl_iinc1, ↓vl_iload2, ↓vl_aload2, ↓vl_istore2, ↓vl_iinc2, ↓vl_iload3, ↓vl_aload3, ↓vl_istore3, ↓vl_iinc3, ↓vl_iload4, ↓vl_istore4, ↓vl_iinc4, ↓vl_iload5, ↓vl_istore5, ↓vl_iinc5, ↓vl_iload6, ↓vl_istore6, ↓vl_iinc6, ↓vl_iload7, ↓vl_istore7, ↓vl_iinc7, ↓vl_lload5, ↓vl_lstore5, ↓vl_iadd, ↓vl_isub, ↓vl_imul, ↓vl_iand, ↓vl_ior, ↓vl_ixor, ↓vl_ishl, ↓vl_ishr, ↓vl_iushr, ↓vl_idiv, ↓vl_irem, ↓vl_ladd, ↓vl_lsub, ↓vl_lmul, ↓vl_lcmp, ↓vl_i2l, ↓vl_dup, ↓vl_dup2, ↓vl_gotoF, ↓vl_gotoB, ↓vl_nnF, ↓vl_ic_eqF, ↓vl_if_eqF, ↓vl_ic_eqB, ↓vl_if_eqB, ↓vl_ic_neF, ↓vl_if_neF, ↓vl_ic_neB, ↓vl_if_neB, ↓vl_ic_ltF, ↓vl_if_ltF, ↓vl_ic_ltB, ↓vl_if_ltB, ↓vl_ic_geF, ↓vl_if_geF, ↓vl_ic_geB, ↓vl_if_geB, ↓vl_ic_gtF, ↓vl_if_gtF, ↓vl_ic_gtB, ↓vl_if_gtB, ↓vl_ic_leF, ↓vl_if_leF, ↓vl_ic_leB, ↓vl_if_leB, ↓vl_sw, ↓vl_get, ↓vl_putI, ↓vl_putL, ↓vl_iald, ↓vl_iast, ↓vl_alen, ↓vl_aald, ↓vl_iretI, ↓vl_iretZ, ↓vl_ret, ↓vl_mark, ↓vl_markT, ↓vl_skip, ↓vl_st0, ↓vl_vi0, ↓vl_st1, ↓vl_vi1, ↓vl_st2, ↓vl_vi2, ↓vl_st3, ↓vl_vi3, ↓vl_st4, ↓vl_vi4, ↓vl_st5, ↓vl_vi5, ↓vl_st6, ↓vl_vi6, ↓vl_min, ↓vl_max, ↓vl_cpy, ↓vk_kvs, ↓vk_kvn, ↓vk_gf0, ↓vk_gv0, ↓vk_gv1, ↓vk_gv2, ↓vk_pf, ↓vk_ar, ↓vk_arr, bc_lay, bc_fn, bc_mk, bc_cs, bc_cat, bc_nl, bc_nth, bc_en, bc_sw, true_and, and_true, ↓reduceIte, reduceCtorEq, Nat.reduceEqDiff, Nat.reduceLeDiff, Nat.reduceAdd, Nat.le_refl, Nat.zero_le, Int.cast_ofNat_Int, Int.reduceEq, eq_self, true_implies, false_implies, not_true_eq_false, not_false_eq_true, bc_vr, Int.reduceToNat, Int.toNat_natCast, Int.reduceLE, Int.reduceLT, Int.reduceNeg, true_or, or_true, forall_const, Int.reduceAdd]
    refine ⟨⟨by omega, by omega⟩, fun c => k0 (by omega), fun c => ⟨⟨by omega, by omega⟩, fun c2 => ?_, fun c2 => k0 (by omega)⟩⟩
    refine c1_willingOrders hm hC hW.1 ?_
    simp only [↓vl_iconst, ↓vl_bipush, ↓vl_sipush, ↓vl_lconst, ↓vl_ldc, ↓vl_ldcw, ↓vl_ldc2, ↓vl_iload0, ↓vl_aload0, ↓vl_istore0, ↓vl_iinc0, ↓vl_iload1, ↓vl_aload1, ↓vl_istore1, ↓vl_iinc1, ↓vl_iload2, ↓vl_aload2, ↓vl_istore2, ↓vl_iinc2, ↓vl_iload3, ↓vl_aload3, ↓vl_istore3, ↓vl_iinc3, ↓vl_iload4, ↓vl_istore4, ↓vl_iinc4, ↓vl_iload5, ↓vl_istore5, ↓vl_iinc5, ↓vl_iload6, ↓vl_istore6, ↓vl_iinc6, ↓vl_iload7, ↓vl_istore7, ↓vl_iinc7, ↓vl_lload5, ↓vl_lstore5, ↓vl_iadd, ↓vl_isub, ↓vl_imul, ↓vl_iand, ↓vl_ior, ↓vl_ixor, ↓vl_ishl, ↓vl_ishr, ↓vl_iushr, ↓vl_idiv, ↓vl_irem, ↓vl_ladd, ↓vl_lsub, ↓vl_lmul, ↓vl_lcmp, ↓vl_i2l, ↓vl_dup, ↓vl_dup2, ↓vl_gotoF, ↓vl_gotoB, ↓vl_nnF, ↓vl_ic_eqF, ↓vl_if_eqF, ↓vl_ic_eqB, ↓vl_if_eqB, ↓vl_ic_neF, ↓vl_if_neF, ↓vl_ic_neB, ↓vl_if_neB, ↓vl_ic_ltF, ↓vl_if_ltF, ↓vl_ic_ltB, ↓vl_if_ltB, ↓vl_ic_geF, ↓vl_if_geF, ↓vl_ic_geB, ↓vl_if_geB, ↓vl_ic_gtF, ↓vl_if_gtF, ↓vl_ic_gtB, ↓vl_if_gtB, ↓vl_ic_leF, ↓vl_if_leF, ↓vl_ic_leB, ↓vl_if_leB, ↓vl_sw, ↓vl_get, ↓vl_putI, ↓vl_putL, ↓vl_iald, ↓vl_iast, ↓vl_alen, ↓vl_aald, ↓vl_iretI, ↓vl_iretZ, ↓vl_ret, ↓vl_mark, ↓vl_markT, ↓vl_skip, ↓vl_st0, ↓vl_vi0, ↓vl_st1, ↓vl_vi1, ↓vl_st2, ↓vl_vi2, ↓vl_st3, ↓vl_vi3, ↓vl_st4, ↓vl_vi4, ↓vl_st5, ↓vl_vi5, ↓vl_st6, ↓vl_vi6, ↓vl_min, ↓vl_max, ↓vl_cpy, ↓vk_kvs, ↓vk_kvn, ↓vk_gf0, ↓vk_gv0, ↓vk_gv1, ↓vk_gv2, ↓vk_pf, ↓vk_ar, ↓vk_arr, bc_lay, bc_fn, bc_mk, bc_cs, bc_cat, bc_nl, bc_nth, bc_en, bc_sw, true_and, and_true, ↓reduceIte, reduceCtorEq, Nat.reduceEqDiff, Nat.reduceLeDiff, Nat.reduceAdd, Nat.le_refl, Nat.zero_le, Int.cast_ofNat_Int, Int.reduceEq, eq_self, true_implies, false_implies, not_true_eq_false, not_false_eq_true, bc_vr, Int.reduceToNat, Int.toNat_natCast, Int.reduceLE, Int.reduceLT, Int.reduceNeg, true_or, or_true, forall_const, Int.reduceAdd]
    refine c0_pickNow hC hW e5 (fun h' x1 x2 x3 x4 => ?_)
    have := kk h' x4 x1.2.2.2.1
    rw [if_pos ⟨⟨h1, h2⟩, by omega, by omega⟩] at this
    rw [pd_pk0] at x2 x3
    simp only [↓vl_iconst, ↓vl_bipush, ↓vl_sipush, ↓vl_lconst, ↓vl_ldc, ↓vl_ldcw, ↓vl_ldc2, ↓vl_iload0, ↓vl_aload0, ↓vl_istore0, ↓vl_iinc0, ↓vl_iload1, ↓vl_aload1, ↓vl_istore1, ↓vl_iinc1, ↓vl_iload2, ↓vl_aload2, ↓vl_istore2, ↓vl_iinc2, ↓vl_iload3, ↓vl_aload3, ↓vl_istore3, ↓vl_iinc3, ↓vl_iload4, ↓vl_istore4, ↓vl_iinc4, ↓vl_iload5, ↓vl_istore5, ↓vl_iinc5, ↓vl_iload6, ↓vl_istore6, ↓vl_iinc6, ↓vl_iload7, ↓vl_istore7, ↓vl_iinc7, ↓vl_lload5, ↓vl_lstore5, ↓vl_iadd, ↓vl_isub, ↓vl_imul, ↓vl_iand, ↓vl_ior, ↓vl_ixor, ↓vl_ishl, ↓vl_ishr, ↓vl_iushr, ↓vl_idiv, ↓vl_irem, ↓vl_ladd, ↓vl_lsub, ↓vl_lmul, ↓vl_lcmp, ↓vl_i2l, ↓vl_dup, ↓vl_dup2, ↓vl_gotoF, ↓vl_gotoB, ↓vl_nnF, ↓vl_ic_eqF, ↓vl_if_eqF, ↓vl_ic_eqB, ↓vl_if_eqB, ↓vl_ic_neF, ↓vl_if_neF, ↓vl_ic_neB, ↓vl_if_neB, ↓vl_ic_ltF, ↓vl_if_ltF, ↓vl_ic_ltB, ↓vl_if_ltB, ↓vl_ic_geF, ↓vl_if_geF, ↓vl_ic_geB, ↓vl_if_geB, ↓vl_ic_gtF, ↓vl_if_gtF, ↓vl_ic_gtB, ↓vl_if_gtB, ↓vl_ic_leF, ↓vl_if_leF, ↓vl_ic_leB, ↓vl_if_leB, ↓vl_sw, ↓vl_get, ↓vl_putI, ↓vl_putL, ↓vl_iald, ↓vl_iast, ↓vl_alen, ↓vl_aald, ↓vl_iretI, ↓vl_iretZ, ↓vl_ret, ↓vl_mark, ↓vl_markT, ↓vl_skip, ↓vl_st0, ↓vl_vi0, ↓vl_st1, ↓vl_vi1, ↓vl_st2, ↓vl_vi2, ↓vl_st3, ↓vl_vi3, ↓vl_st4, ↓vl_vi4, ↓vl_st5, ↓vl_vi5, ↓vl_st6, ↓vl_vi6, ↓vl_min, ↓vl_max, ↓vl_cpy, ↓vk_kvs, ↓vk_kvn, ↓vk_gf0, ↓vk_gv0, ↓vk_gv1, ↓vk_gv2, ↓vk_pf, ↓vk_ar, ↓vk_arr, bc_lay, bc_fn, bc_mk, bc_cs, bc_cat, bc_nl, bc_nth, bc_en, bc_sw, true_and, and_true, ↓reduceIte, reduceCtorEq, Nat.reduceEqDiff, Nat.reduceLeDiff, Nat.reduceAdd, Nat.le_refl, Nat.zero_le, Int.cast_ofNat_Int, Int.reduceEq, eq_self, true_implies, false_implies, not_true_eq_false, not_false_eq_true, bc_vr, Int.reduceToNat, Int.toNat_natCast, Int.reduceLE, Int.reduceLT, Int.reduceNeg, true_or, or_true, forall_const, Int.reduceAdd, x2, x3]
    refine ⟨⟨by omega, by omega⟩, fun c3 => ?_, fun c3 => ?_⟩
    · rw [if_neg c3] at this; exact this
    · rw [if_pos (Classical.not_not.mp c3)] at this; exact this
  · simp only [↓vl_iconst, ↓vl_bipush, ↓vl_sipush, ↓vl_lconst, ↓vl_ldc, ↓vl_ldcw, ↓vl_ldc2, ↓vl_iload0, ↓vl_aload0, ↓vl_istore0, ↓vl_iinc0, ↓vl_iload1, ↓vl_aload1, ↓vl_istore1, ↓vl_iinc1, ↓vl_iload2, ↓vl_aload2, ↓vl_istore2, ↓vl_iinc2, ↓vl_iload3, ↓vl_aload3, ↓vl_istore3, ↓vl_iinc3, ↓vl_iload4, ↓vl_istore4, ↓vl_iinc4, ↓vl_iload5, ↓vl_istore5, ↓vl_iinc5, ↓vl_iload6, ↓vl_istore6, ↓vl_iinc6, ↓vl_iload7, ↓vl_istore7, ↓vl_iinc7, ↓vl_lload5, ↓vl_lstore5, ↓vl_iadd, ↓vl_isub, ↓vl_imul, ↓vl_iand, ↓vl_ior, ↓vl_ixor, ↓vl_ishl, ↓vl_ishr, ↓vl_iushr, ↓vl_idiv, ↓vl_irem, ↓vl_ladd, ↓vl_lsub, ↓vl_lmul, ↓vl_lcmp, ↓vl_i2l, ↓vl_dup, ↓vl_dup2, ↓vl_gotoF, ↓vl_gotoB, ↓vl_nnF, ↓vl_ic_eqF, ↓vl_if_eqF, ↓vl_ic_eqB, ↓vl_if_eqB, ↓vl_ic_neF, ↓vl_if_neF, ↓vl_ic_neB, ↓vl_if_neB, ↓vl_ic_ltF, ↓vl_if_ltF, ↓vl_ic_ltB, ↓vl_if_ltB, ↓vl_ic_geF, ↓vl_if_geF, ↓vl_ic_geB, ↓vl_if_geB, ↓vl_ic_gtF, ↓vl_if_gtF, ↓vl_ic_gtB, ↓vl_if_gtB, ↓vl_ic_leF, ↓vl_if_leF, ↓vl_ic_leB, ↓vl_if_leB, ↓vl_sw, ↓vl_get, ↓vl_putI, ↓vl_putL, ↓vl_iald, ↓vl_iast, ↓vl_alen, ↓vl_aald, ↓vl_iretI, ↓vl_iretZ, ↓vl_ret, ↓vl_mark, ↓vl_markT, ↓vl_skip, ↓vl_st0, ↓vl_vi0, ↓vl_st1, ↓vl_vi1, ↓vl_st2, ↓vl_vi2, ↓vl_st3, ↓vl_vi3, ↓vl_st4, ↓vl_vi4, ↓vl_st5, ↓vl_vi5, ↓vl_st6, ↓vl_vi6, ↓vl_min, ↓vl_max, ↓vl_cpy, ↓vk_kvs, ↓vk_kvn, ↓vk_gf0, ↓vk_gv0, ↓vk_gv1, ↓vk_gv2, ↓vk_pf, ↓vk_ar, ↓vk_arr, bc_lay, bc_fn, bc_mk, bc_cs, bc_cat, bc_nl, bc_nth, bc_en, bc_sw, true_and, and_true, ↓reduceIte, reduceCtorEq, Nat.reduceEqDiff, Nat.reduceLeDiff, Nat.reduceAdd, Nat.le_refl, Nat.zero_le, Int.cast_ofNat_Int, Int.reduceEq, eq_self, true_implies, false_implies, not_true_eq_false, not_false_eq_true, bc_vr, Int.reduceToNat, Int.toNat_natCast, Int.reduceLE, Int.reduceLT, Int.reduceNeg, true_or, or_true, forall_const, Int.reduceAdd]
    exact k0 (by omega)
/-- chosen(mid, what), the reference -/
theorem c7_chosen (hM : pd_M 106 D h) (hW : pd_W D) {mid w : Int} (hm : bc_vr mid) (hw : bc_vr w)
    (kk : ∀ h', (∀ j : Nat, j ≠ 0 → j ≠ 16 → j ≠ 23 → j ≠ 24 → j ≠ 25 → j ≠ 26 → h' 104 j = h 104 j) → (∀ c : Nat, c ≠ 104 → (c < 109 ∨ 115 < c) → h' c = h c) → post (some (.inl (if (0 ≤ mid ∧ mid ≤ 999) ∧ 0 ≤ w ∧ w ≤ 1 then (if w = 0 then (pd_pk D (pd_l0 D) (fun _ => false) mid (-1)).1 else (pd_pk D (pd_l0 D) (fun _ => false) mid (-1)).2) else -1))) h') : bc_OK (d + 6) 116 [.inr (.inr 104), .inl mid, .inl w] h post := by
  have hw1 := hw.1
  have hw2 := hw.2
  have v0 := hW.1.1
  have k0 : ¬ ((0 ≤ mid ∧ mid ≤ 999) ∧ 0 ≤ w ∧ w ≤ 1) → post (some (.inl (-1))) (bc_up h 104 0 0) := fun q => by
    have := kk (bc_up h 104 0 0) (fun j a _ _ _ _ _ => by simp [bc_up, a]) (fun c a _ => by funext q; simp [bc_up, a])
    rw [if_neg q] at this
    exact this
  have hM0 : pd_M 106 D (bc_up h 104 0 0) := fun j hj => by simp [bc_up]; exact hM j hj
  refine bc_run (n := 3) ck_X7_chosen rfl rfl rfl rfl (Nat.le_of_ble_eq_true rfl) ?_
  simp only [k_X7_chosen, ↓vl_iconst, ↓vl_bipush, ↓vl_sipush, ↓vl_lconst, ↓vl_ldc, ↓vl_ldcw, ↓vl_ldc2, ↓vl_iload0, ↓vl_aload0, ↓vl_istore0, ↓vl_iinc0, ↓vl_iload1, ↓vl_aload1, ↓vl_istore1, ↓vl_iinc1, ↓vl_iload2, ↓vl_aload2, ↓vl_istore2, ↓vl_iinc2, ↓vl_iload3, ↓vl_aload3, ↓vl_istore3, ↓vl_iinc3, ↓vl_iload4, ↓vl_istore4, ↓vl_iinc4, ↓vl_iload5, ↓vl_istore5, ↓vl_iinc5, ↓vl_iload6, ↓vl_istore6, ↓vl_iinc6, ↓vl_iload7, ↓vl_istore7, ↓vl_iinc7, ↓vl_lload5, ↓vl_lstore5, ↓vl_iadd, ↓vl_isub, ↓vl_imul, ↓vl_iand, ↓vl_ior, ↓vl_ixor, ↓vl_ishl, ↓vl_ishr, ↓vl_iushr, ↓vl_idiv, ↓vl_irem, ↓vl_ladd, ↓vl_lsub, ↓vl_lmul, ↓vl_lcmp, ↓vl_i2l, ↓vl_dup, ↓vl_dup2, ↓vl_gotoF, ↓vl_gotoB, ↓vl_nnF, ↓vl_ic_eqF, ↓vl_if_eqF, ↓vl_ic_eqB, ↓vl_if_eqB, ↓vl_ic_neF, ↓vl_if_neF, ↓vl_ic_neB, ↓vl_if_neB, ↓vl_ic_ltF, ↓vl_if_ltF, ↓vl_ic_ltB, ↓vl_if_ltB, ↓vl_ic_geF, ↓vl_if_geF, ↓vl_ic_geB, ↓vl_if_geB, ↓vl_ic_gtF, ↓vl_if_gtF, ↓vl_ic_gtB, ↓vl_if_gtB, ↓vl_ic_leF, ↓vl_if_leF, ↓vl_ic_leB, ↓vl_if_leB, ↓vl_sw, ↓vl_get, ↓vl_putI, ↓vl_putL, ↓vl_iald, ↓vl_iast, ↓vl_alen, ↓vl_aald, ↓vl_iretI, ↓vl_iretZ, ↓vl_ret, ↓vl_mark, ↓vl_markT, ↓vl_skip, ↓vl_st0, ↓vl_vi0, ↓vl_st1, ↓vl_vi1, ↓vl_st2, ↓vl_vi2, ↓vl_st3, ↓vl_vi3, ↓vl_st4, ↓vl_vi4, ↓vl_st5, ↓vl_vi5, ↓vl_st6, ↓vl_vi6, ↓vl_min, ↓vl_max, ↓vl_cpy, ↓vk_kvs, ↓vk_kvn, ↓vk_gf0, ↓vk_gv0, ↓vk_gv1, ↓vk_gv2, ↓vk_pf, ↓vk_ar, ↓vk_arr, bc_lay, bc_fn, bc_mk, bc_cs, bc_cat, bc_nl, bc_nth, bc_en, bc_sw, true_and, and_true, ↓reduceIte, reduceCtorEq, Nat.reduceEqDiff, Nat.reduceLeDiff, Nat.reduceAdd, Nat.le_refl, Nat.zero_le, Int.cast_ofNat_Int, Int.reduceEq, eq_self, true_implies, false_implies, not_true_eq_false, not_false_eq_true, bc_vr, Int.reduceToNat, Int.toNat_natCast, Int.reduceLE, Int.reduceLT, Int.reduceNeg, true_or, or_true, forall_const, Int.reduceAdd]
  refine c7_isIn hm ⟨by omega, by omega⟩ ⟨by omega, by omega⟩ (fun h1 h2 => ?_) (fun q => ?_)
  · simp only [↓vl_iconst, ↓vl_bipush, ↓vl_sipush, ↓vl_lconst, ↓vl_ldc, ↓vl_ldcw, ↓vl_ldc2, ↓vl_iload0, ↓vl_aload0, ↓vl_istore0, ↓vl_iinc0, ↓vl_iload1, ↓vl_aload1, ↓vl_istore1, ↓vl_iinc1, ↓vl_iload2, ↓vl_aload2, ↓vl_istore2, ↓vl_iinc2, ↓vl_iload3, ↓vl_aload3, ↓vl_istore3, ↓vl_iinc3, ↓vl_iload4, ↓vl_istore4, ↓vl_iinc4, ↓vl_iload5, ↓vl_istore5, ↓vl_iinc5, ↓vl_iload6, ↓vl_istore6, ↓vl_iinc6, ↓vl_iload7, ↓vl_istore7, ↓vl_iinc7, ↓vl_lload5, ↓vl_lstore5, ↓vl_iadd, ↓vl_isub, ↓vl_imul, ↓vl_iand, ↓vl_ior, ↓vl_ixor, ↓vl_ishl, ↓vl_ishr, ↓vl_iushr, ↓vl_idiv, ↓vl_irem, ↓vl_ladd, ↓vl_lsub, ↓vl_lmul, ↓vl_lcmp, ↓vl_i2l, ↓vl_dup, ↓vl_dup2, ↓vl_gotoF, ↓vl_gotoB, ↓vl_nnF, ↓vl_ic_eqF, ↓vl_if_eqF, ↓vl_ic_eqB, ↓vl_if_eqB, ↓vl_ic_neF, ↓vl_if_neF, ↓vl_ic_neB, ↓vl_if_neB, ↓vl_ic_ltF, ↓vl_if_ltF, ↓vl_ic_ltB, ↓vl_if_ltB, ↓vl_ic_geF, ↓vl_if_geF, ↓vl_ic_geB, ↓vl_if_geB, ↓vl_ic_gtF, ↓vl_if_gtF, ↓vl_ic_gtB, ↓vl_if_gtB, ↓vl_ic_leF, ↓vl_if_leF, ↓vl_ic_leB, ↓vl_if_leB, ↓vl_sw, ↓vl_get, ↓vl_putI, ↓vl_putL, ↓vl_iald, ↓vl_iast, ↓vl_alen, ↓vl_aald, ↓vl_iretI, ↓vl_iretZ, ↓vl_ret, ↓vl_mark, ↓vl_markT, ↓vl_skip, ↓vl_st0, ↓vl_vi0, ↓vl_st1, ↓vl_vi1, ↓vl_st2, ↓vl_vi2, ↓vl_st3, ↓vl_vi3, ↓vl_st4, ↓vl_vi4, ↓vl_st5, ↓vl_vi5, ↓vl_st6, ↓vl_vi6, ↓vl_min, ↓vl_max, ↓vl_cpy, ↓vk_kvs, ↓vk_kvn, ↓vk_gf0, ↓vk_gv0, ↓vk_gv1, ↓vk_gv2, ↓vk_pf, ↓vk_ar, ↓vk_arr, bc_lay, bc_fn, bc_mk, bc_cs, bc_cat, bc_nl, bc_nth, bc_en, bc_sw, true_and, and_true, ↓reduceIte, reduceCtorEq, Nat.reduceEqDiff, Nat.reduceLeDiff, Nat.reduceAdd, Nat.le_refl, Nat.zero_le, Int.cast_ofNat_Int, Int.reduceEq, eq_self, true_implies, false_implies, not_true_eq_false, not_false_eq_true, bc_vr, Int.reduceToNat, Int.toNat_natCast, Int.reduceLE, Int.reduceLT, Int.reduceNeg, true_or, or_true, forall_const, Int.reduceAdd]
    refine c7_isIn hw ⟨by omega, by omega⟩ ⟨by omega, by omega⟩ (fun h3 h4 => ?_) (fun q => ?_)
    · simp only [↓vl_iconst, ↓vl_bipush, ↓vl_sipush, ↓vl_lconst, ↓vl_ldc, ↓vl_ldcw, ↓vl_ldc2, ↓vl_iload0, ↓vl_aload0, ↓vl_istore0, ↓vl_iinc0, ↓vl_iload1, ↓vl_aload1, ↓vl_istore1, ↓vl_iinc1, ↓vl_iload2, ↓vl_aload2, ↓vl_istore2, ↓vl_iinc2, ↓vl_iload3, ↓vl_aload3, ↓vl_istore3, ↓vl_iinc3, ↓vl_iload4, ↓vl_istore4, ↓vl_iinc4, ↓vl_iload5, ↓vl_istore5, ↓vl_iinc5, ↓vl_iload6, ↓vl_istore6, ↓vl_iinc6, ↓vl_iload7, ↓vl_istore7, ↓vl_iinc7, ↓vl_lload5, ↓vl_lstore5, ↓vl_iadd, ↓vl_isub, ↓vl_imul, ↓vl_iand, ↓vl_ior, ↓vl_ixor, ↓vl_ishl, ↓vl_ishr, ↓vl_iushr, ↓vl_idiv, ↓vl_irem, ↓vl_ladd, ↓vl_lsub, ↓vl_lmul, ↓vl_lcmp, ↓vl_i2l, ↓vl_dup, ↓vl_dup2, ↓vl_gotoF, ↓vl_gotoB, ↓vl_nnF, ↓vl_ic_eqF, ↓vl_if_eqF, ↓vl_ic_eqB, ↓vl_if_eqB, ↓vl_ic_neF, ↓vl_if_neF, ↓vl_ic_neB, ↓vl_if_neB, ↓vl_ic_ltF, ↓vl_if_ltF, ↓vl_ic_ltB, ↓vl_if_ltB, ↓vl_ic_geF, ↓vl_if_geF, ↓vl_ic_geB, ↓vl_if_geB, ↓vl_ic_gtF, ↓vl_if_gtF, ↓vl_ic_gtB, ↓vl_if_gtB, ↓vl_ic_leF, ↓vl_if_leF, ↓vl_ic_leB, ↓vl_if_leB, ↓vl_sw, ↓vl_get, ↓vl_putI, ↓vl_putL, ↓vl_iald, ↓vl_iast, ↓vl_alen, ↓vl_aald, ↓vl_iretI, ↓vl_iretZ, ↓vl_ret, ↓vl_mark, ↓vl_markT, ↓vl_skip, ↓vl_st0, ↓vl_vi0, ↓vl_st1, ↓vl_vi1, ↓vl_st2, ↓vl_vi2, ↓vl_st3, ↓vl_vi3, ↓vl_st4, ↓vl_vi4, ↓vl_st5, ↓vl_vi5, ↓vl_st6, ↓vl_vi6, ↓vl_min, ↓vl_max, ↓vl_cpy, ↓vk_kvs, ↓vk_kvn, ↓vk_gf0, ↓vk_gv0, ↓vk_gv1, ↓vk_gv2, ↓vk_pf, ↓vk_ar, ↓vk_arr, bc_lay, bc_fn, bc_mk, bc_cs, bc_cat, bc_nl, bc_nth, bc_en, bc_sw, true_and, and_true, ↓reduceIte, reduceCtorEq, Nat.reduceEqDiff, Nat.reduceLeDiff, Nat.reduceAdd, Nat.le_refl, Nat.zero_le, Int.cast_ofNat_Int, Int.reduceEq, eq_self, true_implies, false_implies, not_true_eq_false, not_false_eq_true, bc_vr, Int.reduceToNat, Int.toNat_natCast, Int.reduceLE, Int.reduceLT, Int.reduceNeg, true_or, or_true, forall_const, Int.reduceAdd]
      refine c7_laysBounds hM0 (fun h5 b1 f1 => ?_)
      have hM1 : pd_M 106 D h5 := pd_M_fr hM0 (f1 106 (by omega))
      simp only [↓vl_iconst, ↓vl_bipush, ↓vl_sipush, ↓vl_lconst, ↓vl_ldc, ↓vl_ldcw, ↓vl_ldc2, ↓vl_iload0, ↓vl_aload0, ↓vl_istore0, ↓vl_iinc0, ↓vl_iload1, ↓vl_aload1, ↓vl_istore1, ↓vl_iinc1, ↓vl_iload2, ↓vl_aload2, ↓vl_istore2, ↓vl_iinc2, ↓vl_iload3, ↓vl_aload3, ↓vl_istore3, ↓vl_iinc3, ↓vl_iload4, ↓vl_istore4, ↓vl_iinc4, ↓vl_iload5, ↓vl_istore5, ↓vl_iinc5, ↓vl_iload6, ↓vl_istore6, ↓vl_iinc6, ↓vl_iload7, ↓vl_istore7, ↓vl_iinc7, ↓vl_lload5, ↓vl_lstore5, ↓vl_iadd, ↓vl_isub, ↓vl_imul, ↓vl_iand, ↓vl_ior, ↓vl_ixor, ↓vl_ishl, ↓vl_ishr, ↓vl_iushr, ↓vl_idiv, ↓vl_irem, ↓vl_ladd, ↓vl_lsub, ↓vl_lmul, ↓vl_lcmp, ↓vl_i2l, ↓vl_dup, ↓vl_dup2, ↓vl_gotoF, ↓vl_gotoB, ↓vl_nnF, ↓vl_ic_eqF, ↓vl_if_eqF, ↓vl_ic_eqB, ↓vl_if_eqB, ↓vl_ic_neF, ↓vl_if_neF, ↓vl_ic_neB, ↓vl_if_neB, ↓vl_ic_ltF, ↓vl_if_ltF, ↓vl_ic_ltB, ↓vl_if_ltB, ↓vl_ic_geF, ↓vl_if_geF, ↓vl_ic_geB, ↓vl_if_geB, ↓vl_ic_gtF, ↓vl_if_gtF, ↓vl_ic_gtB, ↓vl_if_gtB, ↓vl_ic_leF, ↓vl_if_leF, ↓vl_ic_leB, ↓vl_if_leB, ↓vl_sw, ↓vl_get, ↓vl_putI, ↓vl_putL, ↓vl_iald, ↓vl_iast, ↓vl_alen, ↓vl_aald, ↓vl_iretI, ↓vl_iretZ, ↓vl_ret, ↓vl_mark, ↓vl_markT, ↓vl_skip, ↓vl_st0, ↓vl_vi0, ↓vl_st1, ↓vl_vi1, ↓vl_st2, ↓vl_vi2, ↓vl_st3, ↓vl_vi3, ↓vl_st4, ↓vl_vi4, ↓vl_st5, ↓vl_vi5, ↓vl_st6, ↓vl_vi6, ↓vl_min, ↓vl_max, ↓vl_cpy, ↓vk_kvs, ↓vk_kvn, ↓vk_gf0, ↓vk_gv0, ↓vk_gv1, ↓vk_gv2, ↓vk_pf, ↓vk_ar, ↓vk_arr, bc_lay, bc_fn, bc_mk, bc_cs, bc_cat, bc_nl, bc_nth, bc_en, bc_sw, true_and, and_true, ↓reduceIte, reduceCtorEq, Nat.reduceEqDiff, Nat.reduceLeDiff, Nat.reduceAdd, Nat.le_refl, Nat.zero_le, Int.cast_ofNat_Int, Int.reduceEq, eq_self, true_implies, false_implies, not_true_eq_false, not_false_eq_true, bc_vr, Int.reduceToNat, Int.toNat_natCast, Int.reduceLE, Int.reduceLT, Int.reduceNeg, true_or, or_true, forall_const, Int.reduceAdd]
      refine c7_laysChosen hM1 hW.1 hW.2 hm ⟨by omega, by omega⟩ (lo := pd_l0 D) (hi := pd_sz D) (fun o ho => b1 o (by omega)) (fun x hx => by have := pd_wl_ok hW.1 hx; omega) (fun x hx => by have := pd_wl_ok hW.1 hx; omega) (fun h6 f2 e26 e25 => ?_)
      have := kk h6 (fun j c0 c1 c2 c3 c4 c5 => by rw [f2.1 j c1 c2 c3 c4 c5, f1 104 (by omega)]; simp [bc_up, c0]) (fun c c1 c2 => by
        rw [f2.2 c c1 (by omega) (by omega), f1 c (by omega)]; funext q; simp [bc_up, c1])
      rw [if_pos ⟨⟨h1, h2⟩, h3, h4⟩] at this
      simp only [↓vl_iconst, ↓vl_bipush, ↓vl_sipush, ↓vl_lconst, ↓vl_ldc, ↓vl_ldcw, ↓vl_ldc2, ↓vl_iload0, ↓vl_aload0, ↓vl_istore0, ↓vl_iinc0, ↓vl_iload1, ↓vl_aload1, ↓vl_istore1, ↓vl_iinc1, ↓vl_iload2, ↓vl_aload2, ↓vl_istore2, ↓vl_iinc2, ↓vl_iload3, ↓vl_aload3, ↓vl_istore3, ↓vl_iinc3, ↓vl_iload4, ↓vl_istore4, ↓vl_iinc4, ↓vl_iload5, ↓vl_istore5, ↓vl_iinc5, ↓vl_iload6, ↓vl_istore6, ↓vl_iinc6, ↓vl_iload7, ↓vl_istore7, ↓vl_iinc7, ↓vl_lload5, ↓vl_lstore5, ↓vl_iadd, ↓vl_isub, ↓vl_imul, ↓vl_iand, ↓vl_ior, ↓vl_ixor, ↓vl_ishl, ↓vl_ishr, ↓vl_iushr, ↓vl_idiv, ↓vl_irem, ↓vl_ladd, ↓vl_lsub, ↓vl_lmul, ↓vl_lcmp, ↓vl_i2l, ↓vl_dup, ↓vl_dup2, ↓vl_gotoF, ↓vl_gotoB, ↓vl_nnF, ↓vl_ic_eqF, ↓vl_if_eqF, ↓vl_ic_eqB, ↓vl_if_eqB, ↓vl_ic_neF, ↓vl_if_neF, ↓vl_ic_neB, ↓vl_if_neB, ↓vl_ic_ltF, ↓vl_if_ltF, ↓vl_ic_ltB, ↓vl_if_ltB, ↓vl_ic_geF, ↓vl_if_geF, ↓vl_ic_geB, ↓vl_if_geB, ↓vl_ic_gtF, ↓vl_if_gtF, ↓vl_ic_gtB, ↓vl_if_gtB, ↓vl_ic_leF, ↓vl_if_leF, ↓vl_ic_leB, ↓vl_if_leB, ↓vl_sw, ↓vl_get, ↓vl_putI, ↓vl_putL, ↓vl_iald, ↓vl_iast, ↓vl_alen, ↓vl_aald, ↓vl_iretI, ↓vl_iretZ, ↓vl_ret, ↓vl_mark, ↓vl_markT, ↓vl_skip, ↓vl_st0, ↓vl_vi0, ↓vl_st1, ↓vl_vi1, ↓vl_st2, ↓vl_vi2, ↓vl_st3, ↓vl_vi3, ↓vl_st4, ↓vl_vi4, ↓vl_st5, ↓vl_vi5, ↓vl_st6, ↓vl_vi6, ↓vl_min, ↓vl_max, ↓vl_cpy, ↓vk_kvs, ↓vk_kvn, ↓vk_gf0, ↓vk_gv0, ↓vk_gv1, ↓vk_gv2, ↓vk_pf, ↓vk_ar, ↓vk_arr, bc_lay, bc_fn, bc_mk, bc_cs, bc_cat, bc_nl, bc_nth, bc_en, bc_sw, true_and, and_true, ↓reduceIte, reduceCtorEq, Nat.reduceEqDiff, Nat.reduceLeDiff, Nat.reduceAdd, Nat.le_refl, Nat.zero_le, Int.cast_ofNat_Int, Int.reduceEq, eq_self, true_implies, false_implies, not_true_eq_false, not_false_eq_true, bc_vr, Int.reduceToNat, Int.toNat_natCast, Int.reduceLE, Int.reduceLT, Int.reduceNeg, true_or, or_true, forall_const, Int.reduceAdd, e26, e25]
      refine ⟨⟨by omega, by omega⟩, fun c3 => ?_, fun c3 => ?_⟩
      · rw [if_neg c3] at this; exact this
      · rw [if_pos (Classical.not_not.mp c3)] at this; exact this
    · simp only [↓vl_iconst, ↓vl_bipush, ↓vl_sipush, ↓vl_lconst, ↓vl_ldc, ↓vl_ldcw, ↓vl_ldc2, ↓vl_iload0, ↓vl_aload0, ↓vl_istore0, ↓vl_iinc0, ↓vl_iload1, ↓vl_aload1, ↓vl_istore1, ↓vl_iinc1, ↓vl_iload2, ↓vl_aload2, ↓vl_istore2, ↓vl_iinc2, ↓vl_iload3, ↓vl_aload3, ↓vl_istore3, ↓vl_iinc3, ↓vl_iload4, ↓vl_istore4, ↓vl_iinc4, ↓vl_iload5, ↓vl_istore5, ↓vl_iinc5, ↓vl_iload6, ↓vl_istore6, ↓vl_iinc6, ↓vl_iload7, ↓vl_istore7, ↓vl_iinc7, ↓vl_lload5, ↓vl_lstore5, ↓vl_iadd, ↓vl_isub, ↓vl_imul, ↓vl_iand, ↓vl_ior, ↓vl_ixor, ↓vl_ishl, ↓vl_ishr, ↓vl_iushr, ↓vl_idiv, ↓vl_irem, ↓vl_ladd, ↓vl_lsub, ↓vl_lmul, ↓vl_lcmp, ↓vl_i2l, ↓vl_dup, ↓vl_dup2, ↓vl_gotoF, ↓vl_gotoB, ↓vl_nnF, ↓vl_ic_eqF, ↓vl_if_eqF, ↓vl_ic_eqB, ↓vl_if_eqB, ↓vl_ic_neF, ↓vl_if_neF, ↓vl_ic_neB, ↓vl_if_neB, ↓vl_ic_ltF, ↓vl_if_ltF, ↓vl_ic_ltB, ↓vl_if_ltB, ↓vl_ic_geF, ↓vl_if_geF, ↓vl_ic_geB, ↓vl_if_geB, ↓vl_ic_gtF, ↓vl_if_gtF, ↓vl_ic_gtB, ↓vl_if_gtB, ↓vl_ic_leF, ↓vl_if_leF, ↓vl_ic_leB, ↓vl_if_leB, ↓vl_sw, ↓vl_get, ↓vl_putI, ↓vl_putL, ↓vl_iald, ↓vl_iast, ↓vl_alen, ↓vl_aald, ↓vl_iretI, ↓vl_iretZ, ↓vl_ret, ↓vl_mark, ↓vl_markT, ↓vl_skip, ↓vl_st0, ↓vl_vi0, ↓vl_st1, ↓vl_vi1, ↓vl_st2, ↓vl_vi2, ↓vl_st3, ↓vl_vi3, ↓vl_st4, ↓vl_vi4, ↓vl_st5, ↓vl_vi5, ↓vl_st6, ↓vl_vi6, ↓vl_min, ↓vl_max, ↓vl_cpy, ↓vk_kvs, ↓vk_kvn, ↓vk_gf0, ↓vk_gv0, ↓vk_gv1, ↓vk_gv2, ↓vk_pf, ↓vk_ar, ↓vk_arr, bc_lay, bc_fn, bc_mk, bc_cs, bc_cat, bc_nl, bc_nth, bc_en, bc_sw, true_and, and_true, ↓reduceIte, reduceCtorEq, Nat.reduceEqDiff, Nat.reduceLeDiff, Nat.reduceAdd, Nat.le_refl, Nat.zero_le, Int.cast_ofNat_Int, Int.reduceEq, eq_self, true_implies, false_implies, not_true_eq_false, not_false_eq_true, bc_vr, Int.reduceToNat, Int.toNat_natCast, Int.reduceLE, Int.reduceLT, Int.reduceNeg, true_or, or_true, forall_const, Int.reduceAdd]
      exact k0 (by omega)
  · simp only [↓vl_iconst, ↓vl_bipush, ↓vl_sipush, ↓vl_lconst, ↓vl_ldc, ↓vl_ldcw, ↓vl_ldc2, ↓vl_iload0, ↓vl_aload0, ↓vl_istore0, ↓vl_iinc0, ↓vl_iload1, ↓vl_aload1, ↓vl_istore1, ↓vl_iinc1, ↓vl_iload2, ↓vl_aload2, ↓vl_istore2, ↓vl_iinc2, ↓vl_iload3, ↓vl_aload3, ↓vl_istore3, ↓vl_iinc3, ↓vl_iload4, ↓vl_istore4, ↓vl_iinc4, ↓vl_iload5, ↓vl_istore5, ↓vl_iinc5, ↓vl_iload6, ↓vl_istore6, ↓vl_iinc6, ↓vl_iload7, ↓vl_istore7, ↓vl_iinc7, ↓vl_lload5, ↓vl_lstore5, ↓vl_iadd, ↓vl_isub, ↓vl_imul, ↓vl_iand, ↓vl_ior, ↓vl_ixor, ↓vl_ishl, ↓vl_ishr, ↓vl_iushr, ↓vl_idiv, ↓vl_irem, ↓vl_ladd, ↓vl_lsub, ↓vl_lmul, ↓vl_lcmp, ↓vl_i2l, ↓vl_dup, ↓vl_dup2, ↓vl_gotoF, ↓vl_gotoB, ↓vl_nnF, ↓vl_ic_eqF, ↓vl_if_eqF, ↓vl_ic_eqB, ↓vl_if_eqB, ↓vl_ic_neF, ↓vl_if_neF, ↓vl_ic_neB, ↓vl_if_neB, ↓vl_ic_ltF, ↓vl_if_ltF, ↓vl_ic_ltB, ↓vl_if_ltB, ↓vl_ic_geF, ↓vl_if_geF, ↓vl_ic_geB, ↓vl_if_geB, ↓vl_ic_gtF, ↓vl_if_gtF, ↓vl_ic_gtB, ↓vl_if_gtB, ↓vl_ic_leF, ↓vl_if_leF, ↓vl_ic_leB, ↓vl_if_leB, ↓vl_sw, ↓vl_get, ↓vl_putI, ↓vl_putL, ↓vl_iald, ↓vl_iast, ↓vl_alen, ↓vl_aald, ↓vl_iretI, ↓vl_iretZ, ↓vl_ret, ↓vl_mark, ↓vl_markT, ↓vl_skip, ↓vl_st0, ↓vl_vi0, ↓vl_st1, ↓vl_vi1, ↓vl_st2, ↓vl_vi2, ↓vl_st3, ↓vl_vi3, ↓vl_st4, ↓vl_vi4, ↓vl_st5, ↓vl_vi5, ↓vl_st6, ↓vl_vi6, ↓vl_min, ↓vl_max, ↓vl_cpy, ↓vk_kvs, ↓vk_kvn, ↓vk_gf0, ↓vk_gv0, ↓vk_gv1, ↓vk_gv2, ↓vk_pf, ↓vk_ar, ↓vk_arr, bc_lay, bc_fn, bc_mk, bc_cs, bc_cat, bc_nl, bc_nth, bc_en, bc_sw, true_and, and_true, ↓reduceIte, reduceCtorEq, Nat.reduceEqDiff, Nat.reduceLeDiff, Nat.reduceAdd, Nat.le_refl, Nat.zero_le, Int.cast_ofNat_Int, Int.reduceEq, eq_self, true_implies, false_implies, not_true_eq_false, not_false_eq_true, bc_vr, Int.reduceToNat, Int.toNat_natCast, Int.reduceLE, Int.reduceLT, Int.reduceNeg, true_or, or_true, forall_const, Int.reduceAdd]
    exact k0 (by omega)
end Pick
end
