section
-- ===== PART A: goes FIRST, ahead of the names: the tables' words, and 'selects' of the private methods out of them =====
/-- a private method of a class that the tables say can be made, by its rows of tables_1 -/
def lw_okq (q : MethodName × Nat) : Prop := (q.1.cls ≠ "java/lang/invoke/MethodHandle" ∧ q.1.cls ≠ "java/lang/invoke/VarHandle") ∧ Cond.instantiable q.1.cls q.2 ∈ tables_1 ∧ Cond.privateMethod q.1 ∈ tables_1 ∧ Cond.instanceMethod q.1 ∈ tables_1
theorem lw_p0 : lw_okq (⟨"BlockCross$Tape", "hasRoom", "()Z"⟩, 2) := ⟨⟨by decide +kernel, by decide +kernel⟩, List.mem_of_getElem? (i := 29) (by decide +kernel), List.mem_of_getElem? (i := 251) (by decide +kernel), List.mem_of_getElem? (i := 252) (by decide +kernel)⟩
theorem lw_p1 : lw_okq (⟨"BlockCross$Tape", "put", "(I)V"⟩, 2) := ⟨⟨by decide +kernel, by decide +kernel⟩, List.mem_of_getElem? (i := 29) (by decide +kernel), List.mem_of_getElem? (i := 255) (by decide +kernel), List.mem_of_getElem? (i := 256) (by decide +kernel)⟩
theorem lw_p2 : lw_okq (⟨"BlockCross$Reader", "read", "(LBlockCross$Desk;)I"⟩, 7) := ⟨⟨by decide +kernel, by decide +kernel⟩, List.mem_of_getElem? (i := 45) (by decide +kernel), List.mem_of_getElem? (i := 267) (by decide +kernel), List.mem_of_getElem? (i := 268) (by decide +kernel)⟩
theorem lw_p3 : lw_okq (⟨"BlockCross$Desk", "clear", "()V"⟩, 15) := ⟨⟨by decide +kernel, by decide +kernel⟩, List.mem_of_getElem? (i := 75) (by decide +kernel), List.mem_of_getElem? (i := 271) (by decide +kernel), List.mem_of_getElem? (i := 272) (by decide +kernel)⟩
theorem lw_p4 : lw_okq (⟨"BlockCross$Reader", "scan", "()V"⟩, 7) := ⟨⟨by decide +kernel, by decide +kernel⟩, List.mem_of_getElem? (i := 45) (by decide +kernel), List.mem_of_getElem? (i := 275) (by decide +kernel), List.mem_of_getElem? (i := 276) (by decide +kernel)⟩
theorem lw_p5 : lw_okq (⟨"BlockCross$Tape", "byteAt", "(I)I"⟩, 2) := ⟨⟨by decide +kernel, by decide +kernel⟩, List.mem_of_getElem? (i := 29) (by decide +kernel), List.mem_of_getElem? (i := 282) (by decide +kernel), List.mem_of_getElem? (i := 283) (by decide +kernel)⟩
theorem lw_p6 : lw_okq (⟨"BlockCross$Reader", "scanName", "()V"⟩, 7) := ⟨⟨by decide +kernel, by decide +kernel⟩, List.mem_of_getElem? (i := 45) (by decide +kernel), List.mem_of_getElem? (i := 289) (by decide +kernel), List.mem_of_getElem? (i := 290) (by decide +kernel)⟩
theorem lw_p7 : lw_okq (⟨"BlockCross$Reader", "readMid", "(LBlockCross$Desk;)Z"⟩, 7) := ⟨⟨by decide +kernel, by decide +kernel⟩, List.mem_of_getElem? (i := 45) (by decide +kernel), List.mem_of_getElem? (i := 299) (by decide +kernel), List.mem_of_getElem? (i := 300) (by decide +kernel)⟩
theorem lw_p8 : lw_okq (⟨"BlockCross$Reader", "spells", "(Ljava/lang/String;)Z"⟩, 7) := ⟨⟨by decide +kernel, by decide +kernel⟩, List.mem_of_getElem? (i := 45) (by decide +kernel), List.mem_of_getElem? (i := 304) (by decide +kernel), List.mem_of_getElem? (i := 305) (by decide +kernel)⟩
theorem lw_p9 : lw_okq (⟨"BlockCross$Reader", "refuse", "(I)Z"⟩, 7) := ⟨⟨by decide +kernel, by decide +kernel⟩, List.mem_of_getElem? (i := 45) (by decide +kernel), List.mem_of_getElem? (i := 356) (by decide +kernel), List.mem_of_getElem? (i := 357) (by decide +kernel)⟩
theorem lw_p10 : lw_okq (⟨"BlockCross$Reader", "readNumber", "(II)Z"⟩, 7) := ⟨⟨by decide +kernel, by decide +kernel⟩, List.mem_of_getElem? (i := 45) (by decide +kernel), List.mem_of_getElem? (i := 360) (by decide +kernel), List.mem_of_getElem? (i := 361) (by decide +kernel)⟩
theorem lw_p11 : lw_okq (⟨"BlockCross$Reader", "readSign", "()Z"⟩, 7) := ⟨⟨by decide +kernel, by decide +kernel⟩, List.mem_of_getElem? (i := 45) (by decide +kernel), List.mem_of_getElem? (i := 364) (by decide +kernel), List.mem_of_getElem? (i := 365) (by decide +kernel)⟩
theorem lw_p12 : lw_okq (⟨"BlockCross$Reader", "readOrder", "(LBlockCross$Desk;)Z"⟩, 7) := ⟨⟨by decide +kernel, by decide +kernel⟩, List.mem_of_getElem? (i := 45) (by decide +kernel), List.mem_of_getElem? (i := 368) (by decide +kernel), List.mem_of_getElem? (i := 369) (by decide +kernel)⟩
theorem lw_p13 : lw_okq (⟨"BlockCross$Desk", "add", "(IIIII)V"⟩, 15) := ⟨⟨by decide +kernel, by decide +kernel⟩, List.mem_of_getElem? (i := 75) (by decide +kernel), List.mem_of_getElem? (i := 374) (by decide +kernel), List.mem_of_getElem? (i := 375) (by decide +kernel)⟩
theorem lw_p14 : lw_okq (⟨"BlockCross$Desk", "copy", "(LBlockCross$Desk;)V"⟩, 15) := ⟨⟨by decide +kernel, by decide +kernel⟩, List.mem_of_getElem? (i := 75) (by decide +kernel), List.mem_of_getElem? (i := 378) (by decide +kernel), List.mem_of_getElem? (i := 379) (by decide +kernel)⟩
theorem lw_p15 : lw_okq (⟨"BlockCross$Past", "forget", "()V"⟩, 3) := ⟨⟨by decide +kernel, by decide +kernel⟩, List.mem_of_getElem? (i := 208) (by decide +kernel), List.mem_of_getElem? (i := 385) (by decide +kernel), List.mem_of_getElem? (i := 386) (by decide +kernel)⟩
def lw_privs_1 : List (MethodName × Nat) := [(⟨"BlockCross$Tape", "hasRoom", "()Z"⟩, 2), (⟨"BlockCross$Tape", "put", "(I)V"⟩, 2), (⟨"BlockCross$Reader", "read", "(LBlockCross$Desk;)I"⟩, 7), (⟨"BlockCross$Desk", "clear", "()V"⟩, 15), (⟨"BlockCross$Reader", "scan", "()V"⟩, 7), (⟨"BlockCross$Tape", "byteAt", "(I)I"⟩, 2), (⟨"BlockCross$Reader", "scanName", "()V"⟩, 7), (⟨"BlockCross$Reader", "readMid", "(LBlockCross$Desk;)Z"⟩, 7), (⟨"BlockCross$Reader", "spells", "(Ljava/lang/String;)Z"⟩, 7), (⟨"BlockCross$Reader", "refuse", "(I)Z"⟩, 7), (⟨"BlockCross$Reader", "readNumber", "(II)Z"⟩, 7), (⟨"BlockCross$Reader", "readSign", "()Z"⟩, 7), (⟨"BlockCross$Reader", "readOrder", "(LBlockCross$Desk;)Z"⟩, 7), (⟨"BlockCross$Desk", "add", "(IIIII)V"⟩, 15), (⟨"BlockCross$Desk", "copy", "(LBlockCross$Desk;)V"⟩, 15), (⟨"BlockCross$Past", "forget", "()V"⟩, 3)]
theorem lw_r1 : ∀ q ∈ lw_privs_1, lw_okq q := List.forall_mem_cons.mpr ⟨lw_p0, List.forall_mem_cons.mpr ⟨lw_p1, List.forall_mem_cons.mpr ⟨lw_p2, List.forall_mem_cons.mpr ⟨lw_p3, List.forall_mem_cons.mpr ⟨lw_p4, List.forall_mem_cons.mpr ⟨lw_p5, List.forall_mem_cons.mpr ⟨lw_p6, List.forall_mem_cons.mpr ⟨lw_p7, List.forall_mem_cons.mpr ⟨lw_p8, List.forall_mem_cons.mpr ⟨lw_p9, List.forall_mem_cons.mpr ⟨lw_p10, List.forall_mem_cons.mpr ⟨lw_p11, List.forall_mem_cons.mpr ⟨lw_p12, List.forall_mem_cons.mpr ⟨lw_p13, List.forall_mem_cons.mpr ⟨lw_p14, List.forall_mem_cons.mpr ⟨lw_p15, fun _ h => absurd h List.not_mem_nil⟩⟩⟩⟩⟩⟩⟩⟩⟩⟩⟩⟩⟩⟩⟩⟩
theorem lw_p16 : lw_okq (⟨"BlockCross$Desk", "openOrders", "()I"⟩, 15) := ⟨⟨by decide +kernel, by decide +kernel⟩, List.mem_of_getElem? (i := 75) (by decide +kernel), List.mem_of_getElem? (i := 398) (by decide +kernel), List.mem_of_getElem? (i := 399) (by decide +kernel)⟩
theorem lw_p17 : lw_okq (⟨"BlockCross$Desk", "isOpen", "(I)Z"⟩, 15) := ⟨⟨by decide +kernel, by decide +kernel⟩, List.mem_of_getElem? (i := 75) (by decide +kernel), List.mem_of_getElem? (i := 402) (by decide +kernel), List.mem_of_getElem? (i := 403) (by decide +kernel)⟩
theorem lw_p18 : lw_okq (⟨"BlockCross$Desk", "has", "(I)Z"⟩, 15) := ⟨⟨by decide +kernel, by decide +kernel⟩, List.mem_of_getElem? (i := 75) (by decide +kernel), List.mem_of_getElem? (i := 406) (by decide +kernel), List.mem_of_getElem? (i := 407) (by decide +kernel)⟩
theorem lw_p19 : lw_okq (⟨"BlockCross$Desk", "openAhead", "(I)I"⟩, 15) := ⟨⟨by decide +kernel, by decide +kernel⟩, List.mem_of_getElem? (i := 75) (by decide +kernel), List.mem_of_getElem? (i := 415) (by decide +kernel), List.mem_of_getElem? (i := 416) (by decide +kernel)⟩
theorem lw_p20 : lw_okq (⟨"BlockCross$Desk", "isAhead", "(II)Z"⟩, 15) := ⟨⟨by decide +kernel, by decide +kernel⟩, List.mem_of_getElem? (i := 75) (by decide +kernel), List.mem_of_getElem? (i := 419) (by decide +kernel), List.mem_of_getElem? (i := 420) (by decide +kernel)⟩
theorem lw_p21 : lw_okq (⟨"BlockCross$Desk", "willingOrders", "(I)I"⟩, 15) := ⟨⟨by decide +kernel, by decide +kernel⟩, List.mem_of_getElem? (i := 75) (by decide +kernel), List.mem_of_getElem? (i := 430) (by decide +kernel), List.mem_of_getElem? (i := 431) (by decide +kernel)⟩
theorem lw_p22 : lw_okq (⟨"BlockCross$Desk", "isWilling", "(II)Z"⟩, 15) := ⟨⟨by decide +kernel, by decide +kernel⟩, List.mem_of_getElem? (i := 75) (by decide +kernel), List.mem_of_getElem? (i := 434) (by decide +kernel), List.mem_of_getElem? (i := 435) (by decide +kernel)⟩
theorem lw_p23 : lw_okq (⟨"BlockCross$Cross", "choose", "(II)V"⟩, 10) := ⟨⟨by decide +kernel, by decide +kernel⟩, List.mem_of_getElem? (i := 149) (by decide +kernel), List.mem_of_getElem? (i := 438) (by decide +kernel), List.mem_of_getElem? (i := 439) (by decide +kernel)⟩
theorem lw_p24 : lw_okq (⟨"BlockCross$Cross", "arrange", "(I)V"⟩, 10) := ⟨⟨by decide +kernel, by decide +kernel⟩, List.mem_of_getElem? (i := 149) (by decide +kernel), List.mem_of_getElem? (i := 442) (by decide +kernel), List.mem_of_getElem? (i := 443) (by decide +kernel)⟩
theorem lw_p25 : lw_okq (⟨"BlockCross$Sums", "clear", "()V"⟩, 4) := ⟨⟨by decide +kernel, by decide +kernel⟩, List.mem_of_getElem? (i := 155) (by decide +kernel), List.mem_of_getElem? (i := 450) (by decide +kernel), List.mem_of_getElem? (i := 451) (by decide +kernel)⟩
theorem lw_p26 : lw_okq (⟨"BlockCross$Cross", "addSize", "(II)V"⟩, 10) := ⟨⟨by decide +kernel, by decide +kernel⟩, List.mem_of_getElem? (i := 149) (by decide +kernel), List.mem_of_getElem? (i := 454) (by decide +kernel), List.mem_of_getElem? (i := 455) (by decide +kernel)⟩
theorem lw_p27 : lw_okq (⟨"BlockCross$Sums", "addHigh", "(III)V"⟩, 4) := ⟨⟨by decide +kernel, by decide +kernel⟩, List.mem_of_getElem? (i := 155) (by decide +kernel), List.mem_of_getElem? (i := 459) (by decide +kernel), List.mem_of_getElem? (i := 460) (by decide +kernel)⟩
theorem lw_p28 : lw_okq (⟨"BlockCross$Cross", "descend", "(II)V"⟩, 10) := ⟨⟨by decide +kernel, by decide +kernel⟩, List.mem_of_getElem? (i := 149) (by decide +kernel), List.mem_of_getElem? (i := 466) (by decide +kernel), List.mem_of_getElem? (i := 467) (by decide +kernel)⟩
theorem lw_p29 : lw_okq (⟨"BlockCross$Sums", "most", "()I"⟩, 4) := ⟨⟨by decide +kernel, by decide +kernel⟩, List.mem_of_getElem? (i := 155) (by decide +kernel), List.mem_of_getElem? (i := 470) (by decide +kernel), List.mem_of_getElem? (i := 471) (by decide +kernel)⟩
theorem lw_p30 : lw_okq (⟨"BlockCross$Cross", "addLeast", "(II)V"⟩, 10) := ⟨⟨by decide +kernel, by decide +kernel⟩, List.mem_of_getElem? (i := 149) (by decide +kernel), List.mem_of_getElem? (i := 478) (by decide +kernel), List.mem_of_getElem? (i := 479) (by decide +kernel)⟩
theorem lw_p31 : lw_okq (⟨"BlockCross$Cross", "leastOf", "(I)I"⟩, 10) := ⟨⟨by decide +kernel, by decide +kernel⟩, List.mem_of_getElem? (i := 149) (by decide +kernel), List.mem_of_getElem? (i := 482) (by decide +kernel), List.mem_of_getElem? (i := 483) (by decide +kernel)⟩
def lw_privs_2 : List (MethodName × Nat) := [(⟨"BlockCross$Desk", "openOrders", "()I"⟩, 15), (⟨"BlockCross$Desk", "isOpen", "(I)Z"⟩, 15), (⟨"BlockCross$Desk", "has", "(I)Z"⟩, 15), (⟨"BlockCross$Desk", "openAhead", "(I)I"⟩, 15), (⟨"BlockCross$Desk", "isAhead", "(II)Z"⟩, 15), (⟨"BlockCross$Desk", "willingOrders", "(I)I"⟩, 15), (⟨"BlockCross$Desk", "isWilling", "(II)Z"⟩, 15), (⟨"BlockCross$Cross", "choose", "(II)V"⟩, 10), (⟨"BlockCross$Cross", "arrange", "(I)V"⟩, 10), (⟨"BlockCross$Sums", "clear", "()V"⟩, 4), (⟨"BlockCross$Cross", "addSize", "(II)V"⟩, 10), (⟨"BlockCross$Sums", "addHigh", "(III)V"⟩, 4), (⟨"BlockCross$Cross", "descend", "(II)V"⟩, 10), (⟨"BlockCross$Sums", "most", "()I"⟩, 4), (⟨"BlockCross$Cross", "addLeast", "(II)V"⟩, 10), (⟨"BlockCross$Cross", "leastOf", "(I)I"⟩, 10)]
theorem lw_r2 : ∀ q ∈ lw_privs_2, lw_okq q := List.forall_mem_cons.mpr ⟨lw_p16, List.forall_mem_cons.mpr ⟨lw_p17, List.forall_mem_cons.mpr ⟨lw_p18, List.forall_mem_cons.mpr ⟨lw_p19, List.forall_mem_cons.mpr ⟨lw_p20, List.forall_mem_cons.mpr ⟨lw_p21, List.forall_mem_cons.mpr ⟨lw_p22, List.forall_mem_cons.mpr ⟨lw_p23, List.forall_mem_cons.mpr ⟨lw_p24, List.forall_mem_cons.mpr ⟨lw_p25, List.forall_mem_cons.mpr ⟨lw_p26, List.forall_mem_cons.mpr ⟨lw_p27, List.forall_mem_cons.mpr ⟨lw_p28, List.forall_mem_cons.mpr ⟨lw_p29, List.forall_mem_cons.mpr ⟨lw_p30, List.forall_mem_cons.mpr ⟨lw_p31, fun _ h => absurd h List.not_mem_nil⟩⟩⟩⟩⟩⟩⟩⟩⟩⟩⟩⟩⟩⟩⟩⟩
theorem lw_p32 : lw_okq (⟨"BlockCross$Sums", "addLow", "(III)V"⟩, 4) := ⟨⟨by decide +kernel, by decide +kernel⟩, List.mem_of_getElem? (i := 155) (by decide +kernel), List.mem_of_getElem? (i := 486) (by decide +kernel), List.mem_of_getElem? (i := 487) (by decide +kernel)⟩
theorem lw_p33 : lw_okq (⟨"BlockCross$Cross", "share", "()V"⟩, 10) := ⟨⟨by decide +kernel, by decide +kernel⟩, List.mem_of_getElem? (i := 149) (by decide +kernel), List.mem_of_getElem? (i := 495) (by decide +kernel), List.mem_of_getElem? (i := 496) (by decide +kernel)⟩
theorem lw_p34 : lw_okq (⟨"BlockCross$Cross", "gather", "(I)V"⟩, 10) := ⟨⟨by decide +kernel, by decide +kernel⟩, List.mem_of_getElem? (i := 149) (by decide +kernel), List.mem_of_getElem? (i := 499) (by decide +kernel), List.mem_of_getElem? (i := 500) (by decide +kernel)⟩
theorem lw_p35 : lw_okq (⟨"BlockCross$Sums", "spare", "(III)I"⟩, 4) := ⟨⟨by decide +kernel, by decide +kernel⟩, List.mem_of_getElem? (i := 155) (by decide +kernel), List.mem_of_getElem? (i := 503) (by decide +kernel), List.mem_of_getElem? (i := 504) (by decide +kernel)⟩
theorem lw_p36 : lw_okq (⟨"BlockCross$Desk", "sizeAcross", "(I)I"⟩, 15) := ⟨⟨by decide +kernel, by decide +kernel⟩, List.mem_of_getElem? (i := 75) (by decide +kernel), List.mem_of_getElem? (i := 513) (by decide +kernel), List.mem_of_getElem? (i := 514) (by decide +kernel)⟩
theorem lw_p37 : lw_okq (⟨"BlockCross$Cross", "mostOf", "(I)I"⟩, 10) := ⟨⟨by decide +kernel, by decide +kernel⟩, List.mem_of_getElem? (i := 149) (by decide +kernel), List.mem_of_getElem? (i := 522) (by decide +kernel), List.mem_of_getElem? (i := 523) (by decide +kernel)⟩
theorem lw_p38 : lw_okq (⟨"BlockCross", "volumeAt", "(I)I"⟩, 6) := ⟨⟨by decide +kernel, by decide +kernel⟩, List.mem_of_getElem? (i := 21) (by decide +kernel), List.mem_of_getElem? (i := 530) (by decide +kernel), List.mem_of_getElem? (i := 531) (by decide +kernel)⟩
theorem lw_p39 : lw_okq (⟨"BlockCross$Cross", "suppose", "(II)V"⟩, 10) := ⟨⟨by decide +kernel, by decide +kernel⟩, List.mem_of_getElem? (i := 149) (by decide +kernel), List.mem_of_getElem? (i := 538) (by decide +kernel), List.mem_of_getElem? (i := 539) (by decide +kernel)⟩
theorem lw_p40 : lw_okq (⟨"BlockCross$Past", "keep", "(LBlockCross$Desk;)V"⟩, 3) := ⟨⟨by decide +kernel, by decide +kernel⟩, List.mem_of_getElem? (i := 208) (by decide +kernel), List.mem_of_getElem? (i := 560) (by decide +kernel), List.mem_of_getElem? (i := 561) (by decide +kernel)⟩
theorem lw_p41 : lw_okq (⟨"BlockCross", "change", "([III)I"⟩, 6) := ⟨⟨by decide +kernel, by decide +kernel⟩, List.mem_of_getElem? (i := 21) (by decide +kernel), List.mem_of_getElem? (i := 575) (by decide +kernel), List.mem_of_getElem? (i := 576) (by decide +kernel)⟩
theorem lw_p42 : lw_okq (⟨"BlockCross$Desk", "trade", "(I[II)V"⟩, 15) := ⟨⟨by decide +kernel, by decide +kernel⟩, List.mem_of_getElem? (i := 75) (by decide +kernel), List.mem_of_getElem? (i := 587) (by decide +kernel), List.mem_of_getElem? (i := 588) (by decide +kernel)⟩
theorem lw_p43 : lw_okq (⟨"BlockCross$Desk", "firmsOf", "(II)I"⟩, 15) := ⟨⟨by decide +kernel, by decide +kernel⟩, List.mem_of_getElem? (i := 75) (by decide +kernel), List.mem_of_getElem? (i := 591) (by decide +kernel), List.mem_of_getElem? (i := 592) (by decide +kernel)⟩
theorem lw_p44 : lw_okq (⟨"BlockCross$Past", "restore", "(LBlockCross$Desk;)Z"⟩, 3) := ⟨⟨by decide +kernel, by decide +kernel⟩, List.mem_of_getElem? (i := 208) (by decide +kernel), List.mem_of_getElem? (i := 601) (by decide +kernel), List.mem_of_getElem? (i := 602) (by decide +kernel)⟩
theorem lw_p45 : lw_okq (⟨"java/lang/Throwable", "fillInStackTrace", "(I)Ljava/lang/Throwable;"⟩, 6) := ⟨⟨by decide +kernel, by decide +kernel⟩, List.mem_of_getElem? (i := 649) (by decide +kernel), List.mem_of_getElem? (i := 647) (by decide +kernel), List.mem_of_getElem? (i := 648) (by decide +kernel)⟩
theorem lw_p46 : lw_okq (⟨"BlockCrossModel", "lays", "(I)V"⟩, 28) := ⟨⟨by decide +kernel, by decide +kernel⟩, List.mem_of_getElem? (i := 684) (by decide +kernel), List.mem_of_getElem? (i := 682) (by decide +kernel), List.mem_of_getElem? (i := 683) (by decide +kernel)⟩
theorem lw_p47 : lw_okq (⟨"BlockCrossModel", "go", "()V"⟩, 28) := ⟨⟨by decide +kernel, by decide +kernel⟩, List.mem_of_getElem? (i := 684) (by decide +kernel), List.mem_of_getElem? (i := 788) (by decide +kernel), List.mem_of_getElem? (i := 789) (by decide +kernel)⟩
def lw_privs_3 : List (MethodName × Nat) := [(⟨"BlockCross$Sums", "addLow", "(III)V"⟩, 4), (⟨"BlockCross$Cross", "share", "()V"⟩, 10), (⟨"BlockCross$Cross", "gather", "(I)V"⟩, 10), (⟨"BlockCross$Sums", "spare", "(III)I"⟩, 4), (⟨"BlockCross$Desk", "sizeAcross", "(I)I"⟩, 15), (⟨"BlockCross$Cross", "mostOf", "(I)I"⟩, 10), (⟨"BlockCross", "volumeAt", "(I)I"⟩, 6), (⟨"BlockCross$Cross", "suppose", "(II)V"⟩, 10), (⟨"BlockCross$Past", "keep", "(LBlockCross$Desk;)V"⟩, 3), (⟨"BlockCross", "change", "([III)I"⟩, 6), (⟨"BlockCross$Desk", "trade", "(I[II)V"⟩, 15), (⟨"BlockCross$Desk", "firmsOf", "(II)I"⟩, 15), (⟨"BlockCross$Past", "restore", "(LBlockCross$Desk;)Z"⟩, 3), (⟨"java/lang/Throwable", "fillInStackTrace", "(I)Ljava/lang/Throwable;"⟩, 6), (⟨"BlockCrossModel", "lays", "(I)V"⟩, 28), (⟨"BlockCrossModel", "go", "()V"⟩, 28)]
theorem lw_r3 : ∀ q ∈ lw_privs_3, lw_okq q := List.forall_mem_cons.mpr ⟨lw_p32, List.forall_mem_cons.mpr ⟨lw_p33, List.forall_mem_cons.mpr ⟨lw_p34, List.forall_mem_cons.mpr ⟨lw_p35, List.forall_mem_cons.mpr ⟨lw_p36, List.forall_mem_cons.mpr ⟨lw_p37, List.forall_mem_cons.mpr ⟨lw_p38, List.forall_mem_cons.mpr ⟨lw_p39, List.forall_mem_cons.mpr ⟨lw_p40, List.forall_mem_cons.mpr ⟨lw_p41, List.forall_mem_cons.mpr ⟨lw_p42, List.forall_mem_cons.mpr ⟨lw_p43, List.forall_mem_cons.mpr ⟨lw_p44, List.forall_mem_cons.mpr ⟨lw_p45, List.forall_mem_cons.mpr ⟨lw_p46, List.forall_mem_cons.mpr ⟨lw_p47, fun _ h => absurd h List.not_mem_nil⟩⟩⟩⟩⟩⟩⟩⟩⟩⟩⟩⟩⟩⟩⟩⟩
theorem lw_p48 : lw_okq (⟨"BlockCrossModel", "tapeAt", "(I)I"⟩, 28) := ⟨⟨by decide +kernel, by decide +kernel⟩, List.mem_of_getElem? (i := 684) (by decide +kernel), List.mem_of_getElem? (i := 798) (by decide +kernel), List.mem_of_getElem? (i := 799) (by decide +kernel)⟩
theorem lw_p49 : lw_okq (⟨"BlockCrossModel", "readLine", "(Z)Z"⟩, 28) := ⟨⟨by decide +kernel, by decide +kernel⟩, List.mem_of_getElem? (i := 684) (by decide +kernel), List.mem_of_getElem? (i := 804) (by decide +kernel), List.mem_of_getElem? (i := 805) (by decide +kernel)⟩
theorem lw_p50 : lw_okq (⟨"BlockCrossModel", "is", "(IIII)Z"⟩, 28) := ⟨⟨by decide +kernel, by decide +kernel⟩, List.mem_of_getElem? (i := 684) (by decide +kernel), List.mem_of_getElem? (i := 808) (by decide +kernel), List.mem_of_getElem? (i := 809) (by decide +kernel)⟩
theorem lw_p51 : lw_okq (⟨"BlockCrossModel", "readMid", "()Z"⟩, 28) := ⟨⟨by decide +kernel, by decide +kernel⟩, List.mem_of_getElem? (i := 684) (by decide +kernel), List.mem_of_getElem? (i := 812) (by decide +kernel), List.mem_of_getElem? (i := 813) (by decide +kernel)⟩
theorem lw_p52 : lw_okq (⟨"BlockCrossModel", "told", "(III)Z"⟩, 28) := ⟨⟨by decide +kernel, by decide +kernel⟩, List.mem_of_getElem? (i := 684) (by decide +kernel), List.mem_of_getElem? (i := 816) (by decide +kernel), List.mem_of_getElem? (i := 817) (by decide +kernel)⟩
theorem lw_p53 : lw_okq (⟨"BlockCrossModel", "bad", "(I)Z"⟩, 28) := ⟨⟨by decide +kernel, by decide +kernel⟩, List.mem_of_getElem? (i := 684) (by decide +kernel), List.mem_of_getElem? (i := 820) (by decide +kernel), List.mem_of_getElem? (i := 821) (by decide +kernel)⟩
theorem lw_p54 : lw_okq (⟨"BlockCrossModel", "readOrder", "(Z)Z"⟩, 28) := ⟨⟨by decide +kernel, by decide +kernel⟩, List.mem_of_getElem? (i := 684) (by decide +kernel), List.mem_of_getElem? (i := 827) (by decide +kernel), List.mem_of_getElem? (i := 828) (by decide +kernel)⟩
theorem lw_p55 : lw_okq (⟨"BlockCrossModel", "readEnd", "()Z"⟩, 28) := ⟨⟨by decide +kernel, by decide +kernel⟩, List.mem_of_getElem? (i := 684) (by decide +kernel), List.mem_of_getElem? (i := 831) (by decide +kernel), List.mem_of_getElem? (i := 832) (by decide +kernel)⟩
theorem lw_p56 : lw_okq (⟨"BlockCrossModel", "openSet", "()I"⟩, 28) := ⟨⟨by decide +kernel, by decide +kernel⟩, List.mem_of_getElem? (i := 684) (by decide +kernel), List.mem_of_getElem? (i := 843) (by decide +kernel), List.mem_of_getElem? (i := 844) (by decide +kernel)⟩
theorem lw_p57 : lw_okq (⟨"BlockCrossModel", "isOpen", "(I)Z"⟩, 28) := ⟨⟨by decide +kernel, by decide +kernel⟩, List.mem_of_getElem? (i := 684) (by decide +kernel), List.mem_of_getElem? (i := 847) (by decide +kernel), List.mem_of_getElem? (i := 848) (by decide +kernel)⟩
theorem lw_p58 : lw_okq (⟨"BlockCrossModel", "isOrder", "(I)Z"⟩, 28) := ⟨⟨by decide +kernel, by decide +kernel⟩, List.mem_of_getElem? (i := 684) (by decide +kernel), List.mem_of_getElem? (i := 851) (by decide +kernel), List.mem_of_getElem? (i := 852) (by decide +kernel)⟩
theorem lw_p59 : lw_okq (⟨"BlockCrossModel", "its", "(II)I"⟩, 28) := ⟨⟨by decide +kernel, by decide +kernel⟩, List.mem_of_getElem? (i := 684) (by decide +kernel), List.mem_of_getElem? (i := 855) (by decide +kernel), List.mem_of_getElem? (i := 856) (by decide +kernel)⟩
theorem lw_p60 : lw_okq (⟨"BlockCrossModel", "refuse", "()I"⟩, 28) := ⟨⟨by decide +kernel, by decide +kernel⟩, List.mem_of_getElem? (i := 684) (by decide +kernel), List.mem_of_getElem? (i := 863) (by decide +kernel), List.mem_of_getElem? (i := 864) (by decide +kernel)⟩
theorem lw_p61 : lw_okq (⟨"BlockCrossModel", "isWilling", "(II)Z"⟩, 28) := ⟨⟨by decide +kernel, by decide +kernel⟩, List.mem_of_getElem? (i := 684) (by decide +kernel), List.mem_of_getElem? (i := 867) (by decide +kernel), List.mem_of_getElem? (i := 868) (by decide +kernel)⟩
theorem lw_p62 : lw_okq (⟨"BlockCrossModel", "laysRanks", "()V"⟩, 28) := ⟨⟨by decide +kernel, by decide +kernel⟩, List.mem_of_getElem? (i := 684) (by decide +kernel), List.mem_of_getElem? (i := 875) (by decide +kernel), List.mem_of_getElem? (i := 876) (by decide +kernel)⟩
theorem lw_p63 : lw_okq (⟨"BlockCrossModel", "isAhead", "(II)Z"⟩, 28) := ⟨⟨by decide +kernel, by decide +kernel⟩, List.mem_of_getElem? (i := 684) (by decide +kernel), List.mem_of_getElem? (i := 879) (by decide +kernel), List.mem_of_getElem? (i := 880) (by decide +kernel)⟩
def lw_privs_4 : List (MethodName × Nat) := [(⟨"BlockCrossModel", "tapeAt", "(I)I"⟩, 28), (⟨"BlockCrossModel", "readLine", "(Z)Z"⟩, 28), (⟨"BlockCrossModel", "is", "(IIII)Z"⟩, 28), (⟨"BlockCrossModel", "readMid", "()Z"⟩, 28), (⟨"BlockCrossModel", "told", "(III)Z"⟩, 28), (⟨"BlockCrossModel", "bad", "(I)Z"⟩, 28), (⟨"BlockCrossModel", "readOrder", "(Z)Z"⟩, 28), (⟨"BlockCrossModel", "readEnd", "()Z"⟩, 28), (⟨"BlockCrossModel", "openSet", "()I"⟩, 28), (⟨"BlockCrossModel", "isOpen", "(I)Z"⟩, 28), (⟨"BlockCrossModel", "isOrder", "(I)Z"⟩, 28), (⟨"BlockCrossModel", "its", "(II)I"⟩, 28), (⟨"BlockCrossModel", "refuse", "()I"⟩, 28), (⟨"BlockCrossModel", "isWilling", "(II)Z"⟩, 28), (⟨"BlockCrossModel", "laysRanks", "()V"⟩, 28), (⟨"BlockCrossModel", "isAhead", "(II)Z"⟩, 28)]
theorem lw_r4 : ∀ q ∈ lw_privs_4, lw_okq q := List.forall_mem_cons.mpr ⟨lw_p48, List.forall_mem_cons.mpr ⟨lw_p49, List.forall_mem_cons.mpr ⟨lw_p50, List.forall_mem_cons.mpr ⟨lw_p51, List.forall_mem_cons.mpr ⟨lw_p52, List.forall_mem_cons.mpr ⟨lw_p53, List.forall_mem_cons.mpr ⟨lw_p54, List.forall_mem_cons.mpr ⟨lw_p55, List.forall_mem_cons.mpr ⟨lw_p56, List.forall_mem_cons.mpr ⟨lw_p57, List.forall_mem_cons.mpr ⟨lw_p58, List.forall_mem_cons.mpr ⟨lw_p59, List.forall_mem_cons.mpr ⟨lw_p60, List.forall_mem_cons.mpr ⟨lw_p61, List.forall_mem_cons.mpr ⟨lw_p62, List.forall_mem_cons.mpr ⟨lw_p63, fun _ h => absurd h List.not_mem_nil⟩⟩⟩⟩⟩⟩⟩⟩⟩⟩⟩⟩⟩⟩⟩⟩
theorem lw_p64 : lw_okq (⟨"BlockCrossModel", "laysBounds", "()V"⟩, 28) := ⟨⟨by decide +kernel, by decide +kernel⟩, List.mem_of_getElem? (i := 684) (by decide +kernel), List.mem_of_getElem? (i := 887) (by decide +kernel), List.mem_of_getElem? (i := 888) (by decide +kernel)⟩
theorem lw_p65 : lw_okq (⟨"BlockCrossModel", "laysChosen", "(II)V"⟩, 28) := ⟨⟨by decide +kernel, by decide +kernel⟩, List.mem_of_getElem? (i := 684) (by decide +kernel), List.mem_of_getElem? (i := 891) (by decide +kernel), List.mem_of_getElem? (i := 892) (by decide +kernel)⟩
theorem lw_p66 : lw_okq (⟨"BlockCrossModel", "laysVolumes", "(I)Z"⟩, 28) := ⟨⟨by decide +kernel, by decide +kernel⟩, List.mem_of_getElem? (i := 684) (by decide +kernel), List.mem_of_getElem? (i := 898) (by decide +kernel), List.mem_of_getElem? (i := 899) (by decide +kernel)⟩
theorem lw_p67 : lw_okq (⟨"BlockCrossModel", "laysFills", "()V"⟩, 28) := ⟨⟨by decide +kernel, by decide +kernel⟩, List.mem_of_getElem? (i := 684) (by decide +kernel), List.mem_of_getElem? (i := 909) (by decide +kernel), List.mem_of_getElem? (i := 910) (by decide +kernel)⟩
theorem lw_p68 : lw_okq (⟨"BlockCrossModel", "choosesNow", "()V"⟩, 28) := ⟨⟨by decide +kernel, by decide +kernel⟩, List.mem_of_getElem? (i := 684) (by decide +kernel), List.mem_of_getElem? (i := 913) (by decide +kernel), List.mem_of_getElem? (i := 914) (by decide +kernel)⟩
theorem lw_p69 : lw_okq (⟨"BlockCrossModel", "isOther", "(II)Z"⟩, 28) := ⟨⟨by decide +kernel, by decide +kernel⟩, List.mem_of_getElem? (i := 684) (by decide +kernel), List.mem_of_getElem? (i := 921) (by decide +kernel), List.mem_of_getElem? (i := 922) (by decide +kernel)⟩
theorem lw_p70 : lw_okq (⟨"BlockCrossModel", "canTrade", "(I)Z"⟩, 28) := ⟨⟨by decide +kernel, by decide +kernel⟩, List.mem_of_getElem? (i := 684) (by decide +kernel), List.mem_of_getElem? (i := 925) (by decide +kernel), List.mem_of_getElem? (i := 926) (by decide +kernel)⟩
theorem lw_p71 : lw_okq (⟨"BlockCrossModel", "snap", "()V"⟩, 28) := ⟨⟨by decide +kernel, by decide +kernel⟩, List.mem_of_getElem? (i := 684) (by decide +kernel), List.mem_of_getElem? (i := 953) (by decide +kernel), List.mem_of_getElem? (i := 954) (by decide +kernel)⟩
theorem lw_p72 : lw_okq (⟨"BlockCrossModel", "becomes", "(II)I"⟩, 28) := ⟨⟨by decide +kernel, by decide +kernel⟩, List.mem_of_getElem? (i := 684) (by decide +kernel), List.mem_of_getElem? (i := 965) (by decide +kernel), List.mem_of_getElem? (i := 966) (by decide +kernel)⟩
theorem lw_p73 : lw_okq (⟨"BlockCrossModel", "leaksOf", "(I)I"⟩, 28) := ⟨⟨by decide +kernel, by decide +kernel⟩, List.mem_of_getElem? (i := 684) (by decide +kernel), List.mem_of_getElem? (i := 977) (by decide +kernel), List.mem_of_getElem? (i := 978) (by decide +kernel)⟩
def lw_privs_5 : List (MethodName × Nat) := [(⟨"BlockCrossModel", "laysBounds", "()V"⟩, 28), (⟨"BlockCrossModel", "laysChosen", "(II)V"⟩, 28), (⟨"BlockCrossModel", "laysVolumes", "(I)Z"⟩, 28), (⟨"BlockCrossModel", "laysFills", "()V"⟩, 28), (⟨"BlockCrossModel", "choosesNow", "()V"⟩, 28), (⟨"BlockCrossModel", "isOther", "(II)Z"⟩, 28), (⟨"BlockCrossModel", "canTrade", "(I)Z"⟩, 28), (⟨"BlockCrossModel", "snap", "()V"⟩, 28), (⟨"BlockCrossModel", "becomes", "(II)I"⟩, 28), (⟨"BlockCrossModel", "leaksOf", "(I)I"⟩, 28)]
theorem lw_r5 : ∀ q ∈ lw_privs_5, lw_okq q := List.forall_mem_cons.mpr ⟨lw_p64, List.forall_mem_cons.mpr ⟨lw_p65, List.forall_mem_cons.mpr ⟨lw_p66, List.forall_mem_cons.mpr ⟨lw_p67, List.forall_mem_cons.mpr ⟨lw_p68, List.forall_mem_cons.mpr ⟨lw_p69, List.forall_mem_cons.mpr ⟨lw_p70, List.forall_mem_cons.mpr ⟨lw_p71, List.forall_mem_cons.mpr ⟨lw_p72, List.forall_mem_cons.mpr ⟨lw_p73, fun _ h => absurd h List.not_mem_nil⟩⟩⟩⟩⟩⟩⟩⟩⟩⟩
def lw_privs : List (MethodName × Nat) := lw_privs_1 ++ (lw_privs_2 ++ (lw_privs_3 ++ (lw_privs_4 ++ (lw_privs_5))))
def lw_tbl : List Cond := k2_sels lw_privs ++ tables_1
theorem lw_privs_ok : ∀ q ∈ lw_privs, lw_okq q := by
  show ∀ q ∈ lw_privs_1 ++ (lw_privs_2 ++ (lw_privs_3 ++ (lw_privs_4 ++ (lw_privs_5)))), lw_okq q
  exact List.forall_mem_append.mpr ⟨lw_r1, List.forall_mem_append.mpr ⟨lw_r2, List.forall_mem_append.mpr ⟨lw_r3, List.forall_mem_append.mpr ⟨lw_r4, lw_r5⟩⟩⟩⟩
-- ===== end of PART A; then your names; then what follows =====
def RX0 : String := "BlockCross$Cross"
def TX0 : u_T := fun k => match k with
  | 0 => ("BlockCross$Cross", "desk", "LBlockCross$Desk;", true)
  | 1 => ("BlockCross$Cross", "sums", "LBlockCross$Sums;", true)
  | 2 => ("BlockCross$Cross", "ranked", "[I", true)
  | 3 => ("BlockCross$Cross", "shares", "[I", true)
  | 4 => ("BlockCross$Cross", "many", "I", false)
  | 5 => ("BlockCross$Cross", "supposed", "I", false)
  | 6 => ("BlockCross$Cross", "supposedLeast", "I", false)
  | 7 => ("BlockCross$Cross", "must", "I", false)
  | 8 => ("BlockCross$Cross", "volume", "I", false)
  | _ => ("BlockCross$Cross", "set", "I", false)
def tyX0 : Nat → FieldType := fun k => match k with
  | 0 => .object "BlockCross$Desk"
  | 1 => .object "BlockCross$Sums"
  | 2 => .array .int
  | 3 => .array .int
  | 4 => .int
  | 5 => .int
  | 6 => .int
  | 7 => .int
  | 8 => .int
  | _ => .int
abbrev wsX00 : List Cond := u_ws RX0 TX0 10
theorem nmX0 : ∀ a, a < 10 → ∀ b, b < 10 → a ≠ b → (TX0 a).2.1 ≠ (TX0 b).2.1 := by decide +kernel
theorem tyX0_ok : ∀ k, k < 10 → parseFieldDescriptor (TX0 k).2.2.1 = some (tyX0 k) := by decide +kernel
abbrev cX0_init : ByteArray := prog_2_method_1_code
def yX0_init : MethodName := ⟨RX0, "<init>", "(LBlockCross$Desk;)V"⟩
abbrev cX0_suppose : ByteArray := prog_2_method_2_code
def yX0_suppose : MethodName := ⟨RX0, "suppose", "(II)V"⟩
abbrev cX0_choose : ByteArray := prog_2_method_3_code
def yX0_choose : MethodName := ⟨RX0, "choose", "(II)V"⟩
abbrev cX0_descend : ByteArray := prog_2_method_4_code
def yX0_descend : MethodName := ⟨RX0, "descend", "(II)V"⟩
abbrev cX0_mostOf : ByteArray := prog_2_method_5_code
def yX0_mostOf : MethodName := ⟨RX0, "mostOf", "(I)I"⟩
abbrev cX0_share : ByteArray := prog_2_method_6_code
def yX0_share : MethodName := ⟨RX0, "share", "()V"⟩
abbrev cX0_arrange : ByteArray := prog_2_method_7_code
def yX0_arrange : MethodName := ⟨RX0, "arrange", "(I)V"⟩
abbrev cX0_gather : ByteArray := prog_2_method_8_code
def yX0_gather : MethodName := ⟨RX0, "gather", "(I)V"⟩
abbrev cX0_addLeast : ByteArray := prog_2_method_9_code
def yX0_addLeast : MethodName := ⟨RX0, "addLeast", "(II)V"⟩
abbrev cX0_addSize : ByteArray := prog_2_method_10_code
def yX0_addSize : MethodName := ⟨RX0, "addSize", "(II)V"⟩
abbrev cX0_leastOf : ByteArray := prog_2_method_11_code
def yX0_leastOf : MethodName := ⟨RX0, "leastOf", "(I)I"⟩
def RX1 : String := "BlockCross$Desk"
def TX1 : u_T := fun k => match k with
  | 0 => ("BlockCross$Desk", "side", "[I", true)
  | 1 => ("BlockCross$Desk", "size", "[I", true)
  | 2 => ("BlockCross$Desk", "least", "[I", true)
  | 3 => ("BlockCross$Desk", "limit", "[I", true)
  | 4 => ("BlockCross$Desk", "firm", "[I", true)
  | 5 => ("BlockCross$Desk", "state", "[I", true)
  | 6 => ("BlockCross$Desk", "filled", "[I", true)
  | 7 => ("BlockCross$Desk", "leaks", "[I", true)
  | 8 => ("BlockCross$Desk", "count", "I", false)
  | 9 => ("BlockCross$Desk", "midpoint", "I", false)
  | 10 => ("BlockCross$Desk", "runs", "I", false)
  | 11 => ("BlockCross$Desk", "total", "I", false)
  | 12 => ("BlockCross$Desk", "latestVolume", "I", false)
  | 13 => ("BlockCross$Desk", "latestMidpoint", "I", false)
  | _ => ("BlockCross$Desk", "latestOrders", "I", false)
def tyX1 : Nat → FieldType := fun k => match k with
  | 0 => .array .int
  | 1 => .array .int
  | 2 => .array .int
  | 3 => .array .int
  | 4 => .array .int
  | 5 => .array .int
  | 6 => .array .int
  | 7 => .array .int
  | 8 => .int
  | 9 => .int
  | 10 => .int
  | 11 => .int
  | 12 => .int
  | 13 => .int
  | _ => .int
abbrev wsX10 : List Cond := u_ws RX1 TX1 15
theorem nmX1 : ∀ a, a < 15 → ∀ b, b < 15 → a ≠ b → (TX1 a).2.1 ≠ (TX1 b).2.1 := by decide +kernel
theorem tyX1_ok : ∀ k, k < 15 → parseFieldDescriptor (TX1 k).2.2.1 = some (tyX1 k) := by decide +kernel
abbrev cX1_init : ByteArray := prog_3_method_1_code
def yX1_init : MethodName := ⟨RX1, "<init>", "()V"⟩
abbrev cX1_clear : ByteArray := prog_3_method_2_code
def yX1_clear : MethodName := ⟨RX1, "clear", "()V"⟩
abbrev cX1_copy : ByteArray := prog_3_method_3_code
def yX1_copy : MethodName := ⟨RX1, "copy", "(LBlockCross$Desk;)V"⟩
abbrev cX1_add : ByteArray := prog_3_method_4_code
def yX1_add : MethodName := ⟨RX1, "add", "(IIIII)V"⟩
abbrev cX1_has : ByteArray := prog_3_method_5_code
def yX1_has : MethodName := ⟨RX1, "has", "(I)Z"⟩
abbrev cX1_isOpen : ByteArray := prog_3_method_6_code
def yX1_isOpen : MethodName := ⟨RX1, "isOpen", "(I)Z"⟩
abbrev cX1_isWilling : ByteArray := prog_3_method_7_code
def yX1_isWilling : MethodName := ⟨RX1, "isWilling", "(II)Z"⟩
abbrev cX1_openOrders : ByteArray := prog_3_method_8_code
def yX1_openOrders : MethodName := ⟨RX1, "openOrders", "()I"⟩
abbrev cX1_willingOrders : ByteArray := prog_3_method_9_code
def yX1_willingOrders : MethodName := ⟨RX1, "willingOrders", "(I)I"⟩
abbrev cX1_isAhead : ByteArray := prog_3_method_10_code
def yX1_isAhead : MethodName := ⟨RX1, "isAhead", "(II)Z"⟩
abbrev cX1_openAhead : ByteArray := prog_3_method_11_code
def yX1_openAhead : MethodName := ⟨RX1, "openAhead", "(I)I"⟩
abbrev cX1_sizeAcross : ByteArray := prog_3_method_12_code
def yX1_sizeAcross : MethodName := ⟨RX1, "sizeAcross", "(I)I"⟩
abbrev cX1_trade : ByteArray := prog_3_method_13_code
def yX1_trade : MethodName := ⟨RX1, "trade", "(I[II)V"⟩
abbrev cX1_firmsOf : ByteArray := prog_3_method_14_code
def yX1_firmsOf : MethodName := ⟨RX1, "firmsOf", "(II)I"⟩
def RX2 : String := "BlockCross$Past"
def TX2 : u_T := fun k => match k with
  | 0 => ("BlockCross$Past", "desks", "[LBlockCross$Desk;", true)
  | 1 => ("BlockCross$Past", "next", "I", false)
  | _ => ("BlockCross$Past", "kept", "I", false)
def tyX2 : Nat → FieldType := fun k => match k with
  | 0 => .array (.object "BlockCross$Desk")
  | 1 => .int
  | _ => .int
abbrev wsX20 : List Cond := u_ws RX2 TX2 3
theorem nmX2 : ∀ a, a < 3 → ∀ b, b < 3 → a ≠ b → (TX2 a).2.1 ≠ (TX2 b).2.1 := by decide +kernel
theorem tyX2_ok : ∀ k, k < 3 → parseFieldDescriptor (TX2 k).2.2.1 = some (tyX2 k) := by decide +kernel
abbrev cX2_init : ByteArray := prog_4_method_1_code
def yX2_init : MethodName := ⟨RX2, "<init>", "()V"⟩
abbrev cX2_keep : ByteArray := prog_4_method_2_code
def yX2_keep : MethodName := ⟨RX2, "keep", "(LBlockCross$Desk;)V"⟩
abbrev cX2_restore : ByteArray := prog_4_method_3_code
def yX2_restore : MethodName := ⟨RX2, "restore", "(LBlockCross$Desk;)Z"⟩
abbrev cX2_forget : ByteArray := prog_4_method_4_code
def yX2_forget : MethodName := ⟨RX2, "forget", "()V"⟩
def RX3 : String := "BlockCross$Reader"
def TX3 : u_T := fun k => match k with
  | 0 => ("BlockCross$Reader", "tape", "LBlockCross$Tape;", true)
  | 1 => ("BlockCross$Reader", "at", "I", false)
  | 2 => ("BlockCross$Reader", "start", "I", false)
  | 3 => ("BlockCross$Reader", "token", "I", false)
  | 4 => ("BlockCross$Reader", "value", "I", false)
  | 5 => ("BlockCross$Reader", "kind", "I", false)
  | _ => ("BlockCross$Reader", "place", "I", false)
def tyX3 : Nat → FieldType := fun k => match k with
  | 0 => .object "BlockCross$Tape"
  | 1 => .int
  | 2 => .int
  | 3 => .int
  | 4 => .int
  | 5 => .int
  | _ => .int
abbrev wsX30 : List Cond := u_ws RX3 TX3 7
theorem nmX3 : ∀ a, a < 7 → ∀ b, b < 7 → a ≠ b → (TX3 a).2.1 ≠ (TX3 b).2.1 := by decide +kernel
theorem tyX3_ok : ∀ k, k < 7 → parseFieldDescriptor (TX3 k).2.2.1 = some (tyX3 k) := by decide +kernel
abbrev cX3_init : ByteArray := prog_5_method_1_code
def yX3_init : MethodName := ⟨RX3, "<init>", "(LBlockCross$Tape;)V"⟩
abbrev cX3_read : ByteArray := prog_5_method_2_code
def yX3_read : MethodName := ⟨RX3, "read", "(LBlockCross$Desk;)I"⟩
abbrev cX3_readMid : ByteArray := prog_5_method_3_code
def yX3_readMid : MethodName := ⟨RX3, "readMid", "(LBlockCross$Desk;)Z"⟩
abbrev cX3_readOrder : ByteArray := prog_5_method_4_code
def yX3_readOrder : MethodName := ⟨RX3, "readOrder", "(LBlockCross$Desk;)Z"⟩
abbrev cX3_readNumber : ByteArray := prog_5_method_5_code
def yX3_readNumber : MethodName := ⟨RX3, "readNumber", "(II)Z"⟩
abbrev cX3_readSign : ByteArray := prog_5_method_6_code
def yX3_readSign : MethodName := ⟨RX3, "readSign", "()Z"⟩
abbrev cX3_refuse : ByteArray := prog_5_method_7_code
def yX3_refuse : MethodName := ⟨RX3, "refuse", "(I)Z"⟩
abbrev cX3_scan : ByteArray := prog_5_method_8_code
def yX3_scan : MethodName := ⟨RX3, "scan", "()V"⟩
abbrev cX3_scanName : ByteArray := prog_5_method_9_code
def yX3_scanName : MethodName := ⟨RX3, "scanName", "()V"⟩
abbrev cX3_spells : ByteArray := prog_5_method_10_code
def yX3_spells : MethodName := ⟨RX3, "spells", "(Ljava/lang/String;)Z"⟩
abbrev cX3_isBlank : ByteArray := prog_5_method_11_code
def yX3_isBlank : MethodName := ⟨RX3, "isBlank", "(I)Z"⟩
abbrev cX3_isLetter : ByteArray := prog_5_method_12_code
def yX3_isLetter : MethodName := ⟨RX3, "isLetter", "(I)Z"⟩
abbrev cX3_isDigit : ByteArray := prog_5_method_13_code
def yX3_isDigit : MethodName := ⟨RX3, "isDigit", "(I)Z"⟩
def RX4 : String := "BlockCross$Sums"
def TX4 : u_T := fun k => match k with
  | 0 => ("BlockCross$Sums", "low", "[I", true)
  | 1 => ("BlockCross$Sums", "high", "[I", true)
  | 2 => ("BlockCross$Sums", "lowOfSide", "[I", true)
  | _ => ("BlockCross$Sums", "highOfSide", "[I", true)
def tyX4 : Nat → FieldType := fun k => match k with
  | 0 => .array .int
  | 1 => .array .int
  | 2 => .array .int
  | _ => .array .int
abbrev wsX40 : List Cond := u_ws RX4 TX4 4
theorem nmX4 : ∀ a, a < 4 → ∀ b, b < 4 → a ≠ b → (TX4 a).2.1 ≠ (TX4 b).2.1 := by decide +kernel
theorem tyX4_ok : ∀ k, k < 4 → parseFieldDescriptor (TX4 k).2.2.1 = some (tyX4 k) := by decide +kernel
abbrev cX4_init : ByteArray := prog_6_method_1_code
def yX4_init : MethodName := ⟨RX4, "<init>", "()V"⟩
abbrev cX4_clear : ByteArray := prog_6_method_2_code
def yX4_clear : MethodName := ⟨RX4, "clear", "()V"⟩
abbrev cX4_isCell : ByteArray := prog_6_method_3_code
def yX4_isCell : MethodName := ⟨RX4, "isCell", "(II)Z"⟩
abbrev cX4_addLow : ByteArray := prog_6_method_4_code
def yX4_addLow : MethodName := ⟨RX4, "addLow", "(III)V"⟩
abbrev cX4_addHigh : ByteArray := prog_6_method_5_code
def yX4_addHigh : MethodName := ⟨RX4, "addHigh", "(III)V"⟩
abbrev cX4_most : ByteArray := prog_6_method_6_code
def yX4_most : MethodName := ⟨RX4, "most", "()I"⟩
abbrev cX4_spare : ByteArray := prog_6_method_7_code
def yX4_spare : MethodName := ⟨RX4, "spare", "(III)I"⟩
def RX5 : String := "BlockCross$Tape"
def TX5 : u_T := fun k => match k with
  | 0 => ("BlockCross$Tape", "bytes", "[I", true)
  | _ => ("BlockCross$Tape", "length", "I", false)
def tyX5 : Nat → FieldType := fun k => match k with
  | 0 => .array .int
  | _ => .int
abbrev wsX50 : List Cond := u_ws RX5 TX5 2
theorem nmX5 : ∀ a, a < 2 → ∀ b, b < 2 → a ≠ b → (TX5 a).2.1 ≠ (TX5 b).2.1 := by decide +kernel
theorem tyX5_ok : ∀ k, k < 2 → parseFieldDescriptor (TX5 k).2.2.1 = some (tyX5 k) := by decide +kernel
abbrev cX5_init : ByteArray := prog_7_method_1_code
def yX5_init : MethodName := ⟨RX5, "<init>", "()V"⟩
abbrev cX5_hasRoom : ByteArray := prog_7_method_2_code
def yX5_hasRoom : MethodName := ⟨RX5, "hasRoom", "()Z"⟩
abbrev cX5_put : ByteArray := prog_7_method_3_code
def yX5_put : MethodName := ⟨RX5, "put", "(I)V"⟩
abbrev cX5_byteAt : ByteArray := prog_7_method_4_code
def yX5_byteAt : MethodName := ⟨RX5, "byteAt", "(I)I"⟩
def RX6 : String := "BlockCross"
def TX6 : u_T := fun k => match k with
  | 0 => ("BlockCross", "tape", "LBlockCross$Tape;", true)
  | 1 => ("BlockCross", "reader", "LBlockCross$Reader;", true)
  | 2 => ("BlockCross", "desk", "LBlockCross$Desk;", true)
  | 3 => ("BlockCross", "draft", "LBlockCross$Desk;", true)
  | 4 => ("BlockCross", "cross", "LBlockCross$Cross;", true)
  | _ => ("BlockCross", "past", "LBlockCross$Past;", true)
def tyX6 : Nat → FieldType := fun k => match k with
  | 0 => .object "BlockCross$Tape"
  | 1 => .object "BlockCross$Reader"
  | 2 => .object "BlockCross$Desk"
  | 3 => .object "BlockCross$Desk"
  | 4 => .object "BlockCross$Cross"
  | _ => .object "BlockCross$Past"
abbrev wsX60 : List Cond := u_ws RX6 TX6 6
theorem nmX6 : ∀ a, a < 6 → ∀ b, b < 6 → a ≠ b → (TX6 a).2.1 ≠ (TX6 b).2.1 := by decide +kernel
theorem tyX6_ok : ∀ k, k < 6 → parseFieldDescriptor (TX6 k).2.2.1 = some (tyX6 k) := by decide +kernel
abbrev cX6_init : ByteArray := prog_1_method_1_code
def yX6_init : MethodName := ⟨RX6, "<init>", "()V"⟩
abbrev cX6_feed : ByteArray := prog_1_method_2_code
def yX6_feed : MethodName := ⟨RX6, "feed", "(IIIII)I"⟩
abbrev cX6_end : ByteArray := prog_1_method_3_code
def yX6_end : MethodName := ⟨RX6, "end", "(I)Z"⟩
abbrev cX6_text : ByteArray := prog_1_method_4_code
def yX6_text : MethodName := ⟨RX6, "text", "()I"⟩
abbrev cX6_fault : ByteArray := prog_1_method_5_code
def yX6_fault : MethodName := ⟨RX6, "fault", "()I"⟩
abbrev cX6_now : ByteArray := prog_1_method_6_code
def yX6_now : MethodName := ⟨RX6, "now", "(I)I"⟩
abbrev cX6_order : ByteArray := prog_1_method_7_code
def yX6_order : MethodName := ⟨RX6, "order", "(II)I"⟩
abbrev cX6_rank : ByteArray := prog_1_method_8_code
def yX6_rank : MethodName := ⟨RX6, "rank", "(I)I"⟩
abbrev cX6_chosen : ByteArray := prog_1_method_9_code
def yX6_chosen : MethodName := ⟨RX6, "chosen", "(II)I"⟩
abbrev cX6_fill : ByteArray := prog_1_method_10_code
def yX6_fill : MethodName := ⟨RX6, "fill", "(I)I"⟩
abbrev cX6_why : ByteArray := prog_1_method_11_code
def yX6_why : MethodName := ⟨RX6, "why", "(I)I"⟩
abbrev cX6_volume : ByteArray := prog_1_method_12_code
def yX6_volume : MethodName := ⟨RX6, "volume", "(I)I"⟩
abbrev cX6_best : ByteArray := prog_1_method_13_code
def yX6_best : MethodName := ⟨RX6, "best", "()I"⟩
abbrev cX6_were : ByteArray := prog_1_method_14_code
def yX6_were : MethodName := ⟨RX6, "were", "(II)I"⟩
abbrev cX6_worth : ByteArray := prog_1_method_15_code
def yX6_worth : MethodName := ⟨RX6, "worth", "(I)I"⟩
abbrev cX6_reach : ByteArray := prog_1_method_16_code
def yX6_reach : MethodName := ⟨RX6, "reach", "(I)I"⟩
abbrev cX6_come : ByteArray := prog_1_method_17_code
def yX6_come : MethodName := ⟨RX6, "come", "(IIIII)I"⟩
abbrev cX6_withdraw : ByteArray := prog_1_method_18_code
def yX6_withdraw : MethodName := ⟨RX6, "withdraw", "(I)I"⟩
abbrev cX6_amend : ByteArray := prog_1_method_19_code
def yX6_amend : MethodName := ⟨RX6, "amend", "(III)I"⟩
abbrev cX6_mid : ByteArray := prog_1_method_20_code
def yX6_mid : MethodName := ⟨RX6, "mid", "(I)I"⟩
abbrev cX6_run : ByteArray := prog_1_method_21_code
def yX6_run : MethodName := ⟨RX6, "run", "()I"⟩
abbrev cX6_undo : ByteArray := prog_1_method_22_code
def yX6_undo : MethodName := ⟨RX6, "undo", "()I"⟩
abbrev cX6_volumeAt : ByteArray := prog_1_method_23_code
def yX6_volumeAt : MethodName := ⟨RX6, "volumeAt", "(I)I"⟩
abbrev cX6_change : ByteArray := prog_1_method_24_code
def yX6_change : MethodName := ⟨RX6, "change", "([III)I"⟩
abbrev cX6_isPrice : ByteArray := prog_1_method_25_code
def yX6_isPrice : MethodName := ⟨RX6, "isPrice", "(I)Z"⟩
abbrev cX6_isIn : ByteArray := prog_1_method_26_code
def yX6_isIn : MethodName := ⟨RX6, "isIn", "(II)Z"⟩
def RX7 : String := "BlockCrossModel"
def TX7 : u_T := fun k => match k with
  | 0 => ("BlockCrossModel", "thrown", "I", false)
  | 1 => ("BlockCrossModel", "tape", "[I", true)
  | 2 => ("BlockCrossModel", "taped", "I", false)
  | 3 => ("BlockCrossModel", "size", "I", false)
  | 4 => ("BlockCrossModel", "to", "I", false)
  | 5 => ("BlockCrossModel", "from", "I", false)
  | 6 => ("BlockCrossModel", "sort", "I", false)
  | 7 => ("BlockCrossModel", "number", "I", false)
  | 8 => ("BlockCrossModel", "fault", "I", false)
  | 9 => ("BlockCrossModel", "place", "I", false)
  | 10 => ("BlockCrossModel", "word", "J", false)
  | 11 => ("BlockCrossModel", "now", "[I", true)
  | 12 => ("BlockCrossModel", "read", "[I", true)
  | 13 => ("BlockCrossModel", "snaps", "[I", true)
  | 14 => ("BlockCrossModel", "snapMany", "I", false)
  | 15 => ("BlockCrossModel", "ranked", "[I", true)
  | 16 => ("BlockCrossModel", "rankedMany", "I", false)
  | 17 => ("BlockCrossModel", "low", "[I", true)
  | 18 => ("BlockCrossModel", "high", "[I", true)
  | 19 => ("BlockCrossModel", "buyLow", "[I", true)
  | 20 => ("BlockCrossModel", "buyHigh", "[I", true)
  | 21 => ("BlockCrossModel", "sellLow", "[I", true)
  | 22 => ("BlockCrossModel", "sellHigh", "[I", true)
  | 23 => ("BlockCrossModel", "floor", "I", false)
  | 24 => ("BlockCrossModel", "ceiling", "I", false)
  | 25 => ("BlockCrossModel", "chosenSet", "I", false)
  | 26 => ("BlockCrossModel", "chosenVolume", "I", false)
  | _ => ("BlockCrossModel", "fills", "[I", true)
def tyX7 : Nat → FieldType := fun k => match k with
  | 0 => .int
  | 1 => .array .int
  | 2 => .int
  | 3 => .int
  | 4 => .int
  | 5 => .int
  | 6 => .int
  | 7 => .int
  | 8 => .int
  | 9 => .int
  | 10 => .long
  | 11 => .array .int
  | 12 => .array .int
  | 13 => .array .int
  | 14 => .int
  | 15 => .array .int
  | 16 => .int
  | 17 => .array .int
  | 18 => .array .int
  | 19 => .array .int
  | 20 => .array .int
  | 21 => .array .int
  | 22 => .array .int
  | 23 => .int
  | 24 => .int
  | 25 => .int
  | 26 => .int
  | _ => .array .int
abbrev wsX70 : List Cond := u_ws RX7 TX7 28
theorem nmX7 : ∀ a, a < 28 → ∀ b, b < 28 → a ≠ b → (TX7 a).2.1 ≠ (TX7 b).2.1 := by decide +kernel
theorem tyX7_ok : ∀ k, k < 28 → parseFieldDescriptor (TX7 k).2.2.1 = some (tyX7 k) := by decide +kernel
abbrev cX7_thrown : ByteArray := prog_9_method_1_code
def yX7_thrown : MethodName := ⟨RX7, "thrown", "()I"⟩
abbrev cX7_refuse : ByteArray := prog_9_method_2_code
def yX7_refuse : MethodName := ⟨RX7, "refuse", "()I"⟩
abbrev cX7_isIn : ByteArray := prog_9_method_3_code
def yX7_isIn : MethodName := ⟨RX7, "isIn", "(III)Z"⟩
abbrev cX7_has : ByteArray := prog_9_method_4_code
def yX7_has : MethodName := ⟨RX7, "has", "(II)Z"⟩
abbrev cX7_lays : ByteArray := prog_9_method_5_code
def yX7_lays : MethodName := ⟨RX7, "lays", "(I)V"⟩
abbrev cX7_feed : ByteArray := prog_9_method_6_code
def yX7_feed : MethodName := ⟨RX7, "feed", "(IIIII)I"⟩
abbrev cX7_end : ByteArray := prog_9_method_7_code
def yX7_end : MethodName := ⟨RX7, "end", "(I)Z"⟩
abbrev cX7_tapeAt : ByteArray := prog_9_method_8_code
def yX7_tapeAt : MethodName := ⟨RX7, "tapeAt", "(I)I"⟩
abbrev cX7_isDigit : ByteArray := prog_9_method_9_code
def yX7_isDigit : MethodName := ⟨RX7, "isDigit", "(I)Z"⟩
abbrev cX7_isLetter : ByteArray := prog_9_method_10_code
def yX7_isLetter : MethodName := ⟨RX7, "isLetter", "(I)Z"⟩
abbrev cX7_go : ByteArray := prog_9_method_11_code
def yX7_go : MethodName := ⟨RX7, "go", "()V"⟩
abbrev cX7_is : ByteArray := prog_9_method_12_code
def yX7_is : MethodName := ⟨RX7, "is", "(IIII)Z"⟩
abbrev cX7_bad : ByteArray := prog_9_method_13_code
def yX7_bad : MethodName := ⟨RX7, "bad", "(I)Z"⟩
abbrev cX7_init : ByteArray := prog_9_method_14_code
def yX7_init : MethodName := ⟨RX7, "<init>", "()V"⟩
abbrev cX7_clears : ByteArray := prog_9_method_15_code
def yX7_clears : MethodName := ⟨RX7, "clears", "([I)V"⟩
abbrev cX7_told : ByteArray := prog_9_method_16_code
def yX7_told : MethodName := ⟨RX7, "told", "(III)Z"⟩
abbrev cX7_readMid : ByteArray := prog_9_method_17_code
def yX7_readMid : MethodName := ⟨RX7, "readMid", "()Z"⟩
abbrev cX7_readOrder : ByteArray := prog_9_method_18_code
def yX7_readOrder : MethodName := ⟨RX7, "readOrder", "(Z)Z"⟩
abbrev cX7_readLine : ByteArray := prog_9_method_19_code
def yX7_readLine : MethodName := ⟨RX7, "readLine", "(Z)Z"⟩
abbrev cX7_readEnd : ByteArray := prog_9_method_20_code
def yX7_readEnd : MethodName := ⟨RX7, "readEnd", "()Z"⟩
abbrev cX7_text : ByteArray := prog_9_method_21_code
def yX7_text : MethodName := ⟨RX7, "text", "()I"⟩
abbrev cX7_fault : ByteArray := prog_9_method_22_code
def yX7_fault : MethodName := ⟨RX7, "fault", "()I"⟩
abbrev cX7_isOrder : ByteArray := prog_9_method_23_code
def yX7_isOrder : MethodName := ⟨RX7, "isOrder", "(I)Z"⟩
abbrev cX7_its : ByteArray := prog_9_method_24_code
def yX7_its : MethodName := ⟨RX7, "its", "(II)I"⟩
abbrev cX7_isOpen : ByteArray := prog_9_method_25_code
def yX7_isOpen : MethodName := ⟨RX7, "isOpen", "(I)Z"⟩
abbrev cX7_isWilling : ByteArray := prog_9_method_26_code
def yX7_isWilling : MethodName := ⟨RX7, "isWilling", "(II)Z"⟩
abbrev cX7_openSet : ByteArray := prog_9_method_27_code
def yX7_openSet : MethodName := ⟨RX7, "openSet", "()I"⟩
abbrev cX7_now : ByteArray := prog_9_method_28_code
def yX7_now : MethodName := ⟨RX7, "now", "(I)I"⟩
abbrev cX7_order : ByteArray := prog_9_method_29_code
def yX7_order : MethodName := ⟨RX7, "order", "(II)I"⟩
abbrev cX7_isAhead : ByteArray := prog_9_method_30_code
def yX7_isAhead : MethodName := ⟨RX7, "isAhead", "(II)Z"⟩
abbrev cX7_laysRanks : ByteArray := prog_9_method_31_code
def yX7_laysRanks : MethodName := ⟨RX7, "laysRanks", "()V"⟩
abbrev cX7_rank : ByteArray := prog_9_method_32_code
def yX7_rank : MethodName := ⟨RX7, "rank", "(I)I"⟩
abbrev cX7_laysBounds : ByteArray := prog_9_method_33_code
def yX7_laysBounds : MethodName := ⟨RX7, "laysBounds", "()V"⟩
abbrev cX7_sum : ByteArray := prog_9_method_34_code
def yX7_sum : MethodName := ⟨RX7, "sum", "([I)I"⟩
abbrev cX7_laysVolumes : ByteArray := prog_9_method_35_code
def yX7_laysVolumes : MethodName := ⟨RX7, "laysVolumes", "(I)Z"⟩
abbrev cX7_laysChosen : ByteArray := prog_9_method_36_code
def yX7_laysChosen : MethodName := ⟨RX7, "laysChosen", "(II)V"⟩
abbrev cX7_choosesNow : ByteArray := prog_9_method_37_code
def yX7_choosesNow : MethodName := ⟨RX7, "choosesNow", "()V"⟩
abbrev cX7_chosen : ByteArray := prog_9_method_38_code
def yX7_chosen : MethodName := ⟨RX7, "chosen", "(II)I"⟩
abbrev cX7_laysFills : ByteArray := prog_9_method_39_code
def yX7_laysFills : MethodName := ⟨RX7, "laysFills", "()V"⟩
abbrev cX7_fill : ByteArray := prog_9_method_40_code
def yX7_fill : MethodName := ⟨RX7, "fill", "(I)I"⟩
abbrev cX7_isOther : ByteArray := prog_9_method_41_code
def yX7_isOther : MethodName := ⟨RX7, "isOther", "(II)Z"⟩
abbrev cX7_canTrade : ByteArray := prog_9_method_42_code
def yX7_canTrade : MethodName := ⟨RX7, "canTrade", "(I)Z"⟩
abbrev cX7_why : ByteArray := prog_9_method_43_code
def yX7_why : MethodName := ⟨RX7, "why", "(I)I"⟩
abbrev cX7_volume : ByteArray := prog_9_method_44_code
def yX7_volume : MethodName := ⟨RX7, "volume", "(I)I"⟩
abbrev cX7_best : ByteArray := prog_9_method_45_code
def yX7_best : MethodName := ⟨RX7, "best", "()I"⟩
abbrev cX7_were : ByteArray := prog_9_method_46_code
def yX7_were : MethodName := ⟨RX7, "were", "(II)I"⟩
abbrev cX7_worth : ByteArray := prog_9_method_47_code
def yX7_worth : MethodName := ⟨RX7, "worth", "(I)I"⟩
abbrev cX7_reach : ByteArray := prog_9_method_48_code
def yX7_reach : MethodName := ⟨RX7, "reach", "(I)I"⟩
abbrev cX7_snap : ByteArray := prog_9_method_49_code
def yX7_snap : MethodName := ⟨RX7, "snap", "()V"⟩
abbrev cX7_come : ByteArray := prog_9_method_50_code
def yX7_come : MethodName := ⟨RX7, "come", "(IIIII)I"⟩
abbrev cX7_withdraw : ByteArray := prog_9_method_51_code
def yX7_withdraw : MethodName := ⟨RX7, "withdraw", "(I)I"⟩
abbrev cX7_becomes : ByteArray := prog_9_method_52_code
def yX7_becomes : MethodName := ⟨RX7, "becomes", "(II)I"⟩
abbrev cX7_amend : ByteArray := prog_9_method_53_code
def yX7_amend : MethodName := ⟨RX7, "amend", "(III)I"⟩
abbrev cX7_mid : ByteArray := prog_9_method_54_code
def yX7_mid : MethodName := ⟨RX7, "mid", "(I)I"⟩
abbrev cX7_leaksOf : ByteArray := prog_9_method_55_code
def yX7_leaksOf : MethodName := ⟨RX7, "leaksOf", "(I)I"⟩
abbrev cX7_run : ByteArray := prog_9_method_56_code
def yX7_run : MethodName := ⟨RX7, "run", "()I"⟩
abbrev cX7_undo : ByteArray := prog_9_method_57_code
def yX7_undo : MethodName := ⟨RX7, "undo", "()I"⟩
def RJx145de : String := "java/io/Serializable"
def TJx145de : u_T := fun k => match k with
  | _ => ("", "", "", false)
def tyJx145de : Nat → FieldType := fun k => match k with
  | _ => .int
abbrev wsJx145de0 : List Cond := u_ws RJx145de TJx145de 0
theorem nmJx145de : ∀ a, a < 0 → ∀ b, b < 0 → a ≠ b → (TJx145de a).2.1 ≠ (TJx145de b).2.1 := by decide +kernel
theorem tyJx145de_ok : ∀ k, k < 0 → parseFieldDescriptor (TJx145de k).2.2.1 = some (tyJx145de k) := by decide +kernel
def RJx9f9b0 : String := "java/lang/CharSequence"
def TJx9f9b0 : u_T := fun k => match k with
  | _ => ("", "", "", false)
def tyJx9f9b0 : Nat → FieldType := fun k => match k with
  | _ => .int
abbrev wsJx9f9b00 : List Cond := u_ws RJx9f9b0 TJx9f9b0 0
theorem nmJx9f9b0 : ∀ a, a < 0 → ∀ b, b < 0 → a ≠ b → (TJx9f9b0 a).2.1 ≠ (TJx9f9b0 b).2.1 := by decide +kernel
theorem tyJx9f9b0_ok : ∀ k, k < 0 → parseFieldDescriptor (TJx9f9b0 k).2.2.1 = some (tyJx9f9b0 k) := by decide +kernel
def RJxb160c : String := "java/lang/Comparable"
def TJxb160c : u_T := fun k => match k with
  | _ => ("", "", "", false)
def tyJxb160c : Nat → FieldType := fun k => match k with
  | _ => .int
abbrev wsJxb160c0 : List Cond := u_ws RJxb160c TJxb160c 0
theorem nmJxb160c : ∀ a, a < 0 → ∀ b, b < 0 → a ≠ b → (TJxb160c a).2.1 ≠ (TJxb160c b).2.1 := by decide +kernel
theorem tyJxb160c_ok : ∀ k, k < 0 → parseFieldDescriptor (TJxb160c k).2.2.1 = some (tyJxb160c k) := by decide +kernel
def RJ6 : String := "java/lang/Integer"
def TJ6 : u_T := fun k => match k with
  | _ => ("", "", "", false)
def tyJ6 : Nat → FieldType := fun k => match k with
  | _ => .int
abbrev wsJ60 : List Cond := u_ws RJ6 TJ6 0
theorem nmJ6 : ∀ a, a < 0 → ∀ b, b < 0 → a ≠ b → (TJ6 a).2.1 ≠ (TJ6 b).2.1 := by decide +kernel
theorem tyJ6_ok : ∀ k, k < 0 → parseFieldDescriptor (TJ6 k).2.2.1 = some (tyJ6 k) := by decide +kernel
abbrev cJ6_bitCount_0f7a4 : ByteArray := prog_14_method_49_code
def yJ6_bitCount_0f7a4 : MethodName := ⟨RJ6, "bitCount", "(I)I"⟩
def RJ9 : String := "java/lang/Math"
def TJ9 : u_T := fun k => match k with
  | _ => ("", "", "", false)
def tyJ9 : Nat → FieldType := fun k => match k with
  | _ => .int
abbrev wsJ90 : List Cond := u_ws RJ9 TJ9 0
theorem nmJ9 : ∀ a, a < 0 → ∀ b, b < 0 → a ≠ b → (TJ9 a).2.1 ≠ (TJ9 b).2.1 := by decide +kernel
theorem tyJ9_ok : ∀ k, k < 0 → parseFieldDescriptor (TJ9 k).2.2.1 = some (tyJ9 k) := by decide +kernel
abbrev cJ9_max_7cf53 : ByteArray := prog_15_method_65_code
def yJ9_max_7cf53 : MethodName := ⟨RJ9, "max", "(II)I"⟩
abbrev cJ9_min_7cf53 : ByteArray := prog_15_method_69_code
def yJ9_min_7cf53 : MethodName := ⟨RJ9, "min", "(II)I"⟩
def RJ0 : String := "java/lang/String"
def TJ0 : u_T := fun k => match k with
  | _ => ("", "", "", false)
def tyJ0 : Nat → FieldType := fun k => match k with
  | _ => .int
abbrev wsJ00 : List Cond := u_ws RJ0 TJ0 0
theorem nmJ0 : ∀ a, a < 0 → ∀ b, b < 0 → a ≠ b → (TJ0 a).2.1 ≠ (TJ0 b).2.1 := by decide +kernel
theorem tyJ0_ok : ∀ k, k < 0 → parseFieldDescriptor (TJ0 k).2.2.1 = some (tyJ0 k) := by decide +kernel
abbrev cJ0_length_8abf5 : ByteArray := prog_17_method_54_code
def yJ0_length_8abf5 : MethodName := ⟨RJ0, "length", "()I"⟩
abbrev cJ0_charAt_5068e : ByteArray := prog_17_method_56_code
def yJ0_charAt_5068e : MethodName := ⟨RJ0, "charAt", "(I)C"⟩
abbrev cJ0_coder_7d493 : ByteArray := prog_17_method_152_code
def yJ0_coder_7d493 : MethodName := ⟨RJ0, "coder", "()B"⟩
abbrev cJ0_isLatin1_aae02 : ByteArray := prog_17_method_154_code
def yJ0_isLatin1_aae02 : MethodName := ⟨RJ0, "isLatin1", "()Z"⟩
abbrev cJ0_checkIndex_df160 : ByteArray := prog_17_method_155_code
def yJ0_checkIndex_df160 : MethodName := ⟨RJ0, "checkIndex", "(II)V"⟩
def RJ1 : String := "java/lang/StringLatin1"
def TJ1 : u_T := fun k => match k with
  | _ => ("", "", "", false)
def tyJ1 : Nat → FieldType := fun k => match k with
  | _ => .int
abbrev wsJ10 : List Cond := u_ws RJ1 TJ1 0
theorem nmJ1 : ∀ a, a < 0 → ∀ b, b < 0 → a ≠ b → (TJ1 a).2.1 ≠ (TJ1 b).2.1 := by decide +kernel
theorem tyJ1_ok : ∀ k, k < 0 → parseFieldDescriptor (TJ1 k).2.2.1 = some (tyJ1 k) := by decide +kernel
abbrev cJ1_charAt_3b067 : ByteArray := prog_18_method_2_code
def yJ1_charAt_3b067 : MethodName := ⟨RJ1, "charAt", "([BI)C"⟩
def RJ2 : String := "java/lang/StringUTF16"
def TJ2 : u_T := fun k => match k with
  | _ => ("", "", "", false)
def tyJ2 : Nat → FieldType := fun k => match k with
  | _ => .int
abbrev wsJ20 : List Cond := u_ws RJ2 TJ2 0
theorem nmJ2 : ∀ a, a < 0 → ∀ b, b < 0 → a ≠ b → (TJ2 a).2.1 ≠ (TJ2 b).2.1 := by decide +kernel
theorem tyJ2_ok : ∀ k, k < 0 → parseFieldDescriptor (TJ2 k).2.2.1 = some (tyJ2 k) := by decide +kernel
abbrev cJ2_getChar_3b067 : ByteArray := prog_19_method_5_code
def yJ2_getChar_3b067 : MethodName := ⟨RJ2, "getChar", "([BI)C"⟩
abbrev cJ2_length_9d52b : ByteArray := prog_19_method_6_code
def yJ2_length_9d52b : MethodName := ⟨RJ2, "length", "([B)I"⟩
abbrev cJ2_charAt_3b067 : ByteArray := prog_19_method_83_code
def yJ2_charAt_3b067 : MethodName := ⟨RJ2, "charAt", "([BI)C"⟩
abbrev cJ2_checkIndex_2214a : ByteArray := prog_19_method_91_code
def yJ2_checkIndex_2214a : MethodName := ⟨RJ2, "checkIndex", "(I[B)V"⟩
def RJ10 : String := "java/lang/System"
def TJ10 : u_T := fun k => match k with
  | _ => ("", "", "", false)
def tyJ10 : Nat → FieldType := fun k => match k with
  | _ => .int
abbrev wsJ100 : List Cond := u_ws RJ10 TJ10 0
theorem nmJ10 : ∀ a, a < 0 → ∀ b, b < 0 → a ≠ b → (TJ10 a).2.1 ≠ (TJ10 b).2.1 := by decide +kernel
theorem tyJ10_ok : ∀ k, k < 0 → parseFieldDescriptor (TJ10 k).2.2.1 = some (tyJ10 k) := by decide +kernel
def RJxfd54e : String := "java/lang/constant/Constable"
def TJxfd54e : u_T := fun k => match k with
  | _ => ("", "", "", false)
def tyJxfd54e : Nat → FieldType := fun k => match k with
  | _ => .int
abbrev wsJxfd54e0 : List Cond := u_ws RJxfd54e TJxfd54e 0
theorem nmJxfd54e : ∀ a, a < 0 → ∀ b, b < 0 → a ≠ b → (TJxfd54e a).2.1 ≠ (TJxfd54e b).2.1 := by decide +kernel
theorem tyJxfd54e_ok : ∀ k, k < 0 → parseFieldDescriptor (TJxfd54e k).2.2.1 = some (tyJxfd54e k) := by decide +kernel
def RJx3cf43 : String := "java/lang/constant/ConstantDesc"
def TJx3cf43 : u_T := fun k => match k with
  | _ => ("", "", "", false)
def tyJx3cf43 : Nat → FieldType := fun k => match k with
  | _ => .int
abbrev wsJx3cf430 : List Cond := u_ws RJx3cf43 TJx3cf43 0
theorem nmJx3cf43 : ∀ a, a < 0 → ∀ b, b < 0 → a ≠ b → (TJx3cf43 a).2.1 ≠ (TJx3cf43 b).2.1 := by decide +kernel
theorem tyJx3cf43_ok : ∀ k, k < 0 → parseFieldDescriptor (TJx3cf43 k).2.2.1 = some (tyJx3cf43 k) := by decide +kernel
def RJ3 : String := "jdk/internal/util/Preconditions"
def TJ3 : u_T := fun k => match k with
  | _ => ("", "", "", false)
def tyJ3 : Nat → FieldType := fun k => match k with
  | _ => .int
abbrev wsJ30 : List Cond := u_ws RJ3 TJ3 0
theorem nmJ3 : ∀ a, a < 0 → ∀ b, b < 0 → a ≠ b → (TJ3 a).2.1 ≠ (TJ3 b).2.1 := by decide +kernel
theorem tyJ3_ok : ∀ k, k < 0 → parseFieldDescriptor (TJ3 k).2.2.1 = some (tyJ3 k) := by decide +kernel
abbrev cJ3_checkIndex_8e157 : ByteArray := prog_25_method_11_code
def yJ3_checkIndex_8e157 : MethodName := ⟨RJ3, "checkIndex", "(IILjava/util/function/BiFunction;)I"⟩
def RL : String := "BlockCrossLaw"
abbrev cL_order : ByteArray := method_3_code
def yL_order : MethodName := ⟨RL, "order", "(LBlockCross;II[J)I"⟩
abbrev cL_law : ByteArray := code
def yL_law : MethodName := ⟨RL, "law", "([I)Z"⟩
abbrev vwCl : List vw_C := [(RX0, TX0, 10), (RX1, TX1, 15), (RX2, TX2, 3), (RX3, TX3, 7), (RX4, TX4, 4), (RX5, TX5, 2), (RX6, TX6, 6), (RX7, TX7, 28)]
end
section
/-- the layout: (0, class, fields) an object, (1, n, _) ints, (2, n, _) longs, (3, n, refs) references; a field: (0,_) int, (1,_) long, (2, cell) -/
def bc_lay (k : Nat) : Nat × Nat × List (Nat × Nat) := match k with
  | 0 => (0, 6, [(2, 1), (2, 3), (2, 4), (2, 13), (2, 22), (2, 30)]) -- BlockCross
  | 1 => (0, 5, [(2, 2), (0, 0)]) -- Tape
  | 2 => (1, 440, []) -- Tape.bytes
  | 3 => (0, 3, [(2, 1), (0, 0), (0, 0), (0, 0), (0, 0), (0, 0), (0, 0)]) -- Reader
  | 4 => (0, 1, [(2, 5), (2, 6), (2, 7), (2, 8), (2, 9), (2, 10), (2, 11), (2, 12), (0, 0), (0, 0), (0, 0), (0, 0), (0, 0), (0, 0), (0, 0)]) -- desk
  | 5 => (1, 24, []) -- desk.side
  | 6 => (1, 24, []) -- desk.size
  | 7 => (1, 24, []) -- desk.least
  | 8 => (1, 24, []) -- desk.limit
  | 9 => (1, 24, []) -- desk.firm
  | 10 => (1, 24, []) -- desk.state
  | 11 => (1, 24, []) -- desk.filled
  | 12 => (1, 24, []) -- desk.leaks
  | 13 => (0, 1, [(2, 14), (2, 15), (2, 16), (2, 17), (2, 18), (2, 19), (2, 20), (2, 21), (0, 0), (0, 0), (0, 0), (0, 0), (0, 0), (0, 0), (0, 0)]) -- draft
  | 14 => (1, 24, []) -- draft.side
  | 15 => (1, 24, []) -- draft.size
  | 16 => (1, 24, []) -- draft.least
  | 17 => (1, 24, []) -- draft.limit
  | 18 => (1, 24, []) -- draft.firm
  | 19 => (1, 24, []) -- draft.state
  | 20 => (1, 24, []) -- draft.filled
  | 21 => (1, 24, []) -- draft.leaks
  | 22 => (0, 0, [(2, 4), (2, 23), (2, 28), (2, 29), (0, 0), (0, 0), (0, 0), (0, 0), (0, 0), (0, 0)]) -- Cross
  | 23 => (0, 4, [(2, 24), (2, 25), (2, 26), (2, 27)]) -- Sums
  | 24 => (1, 12, []) -- Sums.low
  | 25 => (1, 12, []) -- Sums.high
  | 26 => (1, 2, []) -- Sums.lowOfSide
  | 27 => (1, 2, []) -- Sums.highOfSide
  | 28 => (1, 10, []) -- Cross.ranked
  | 29 => (1, 24, []) -- Cross.shares
  | 30 => (0, 2, [(2, 31), (0, 0), (0, 0)]) -- Past
  | 31 => (3, 8, [(2, 32), (2, 41), (2, 50), (2, 59), (2, 68), (2, 77), (2, 86), (2, 95)]) -- Past.desks
  | 32 => (0, 1, [(2, 33), (2, 34), (2, 35), (2, 36), (2, 37), (2, 38), (2, 39), (2, 40), (0, 0), (0, 0), (0, 0), (0, 0), (0, 0), (0, 0), (0, 0)]) -- kept0
  | 33 => (1, 24, []) -- kept0.side
  | 34 => (1, 24, []) -- kept0.size
  | 35 => (1, 24, []) -- kept0.least
  | 36 => (1, 24, []) -- kept0.limit
  | 37 => (1, 24, []) -- kept0.firm
  | 38 => (1, 24, []) -- kept0.state
  | 39 => (1, 24, []) -- kept0.filled
  | 40 => (1, 24, []) -- kept0.leaks
  | 41 => (0, 1, [(2, 42), (2, 43), (2, 44), (2, 45), (2, 46), (2, 47), (2, 48), (2, 49), (0, 0), (0, 0), (0, 0), (0, 0), (0, 0), (0, 0), (0, 0)]) -- kept1
  | 42 => (1, 24, []) -- kept1.side
  | 43 => (1, 24, []) -- kept1.size
  | 44 => (1, 24, []) -- kept1.least
  | 45 => (1, 24, []) -- kept1.limit
  | 46 => (1, 24, []) -- kept1.firm
  | 47 => (1, 24, []) -- kept1.state
  | 48 => (1, 24, []) -- kept1.filled
  | 49 => (1, 24, []) -- kept1.leaks
  | 50 => (0, 1, [(2, 51), (2, 52), (2, 53), (2, 54), (2, 55), (2, 56), (2, 57), (2, 58), (0, 0), (0, 0), (0, 0), (0, 0), (0, 0), (0, 0), (0, 0)]) -- kept2
  | 51 => (1, 24, []) -- kept2.side
  | 52 => (1, 24, []) -- kept2.size
  | 53 => (1, 24, []) -- kept2.least
  | 54 => (1, 24, []) -- kept2.limit
  | 55 => (1, 24, []) -- kept2.firm
  | 56 => (1, 24, []) -- kept2.state
  | 57 => (1, 24, []) -- kept2.filled
  | 58 => (1, 24, []) -- kept2.leaks
  | 59 => (0, 1, [(2, 60), (2, 61), (2, 62), (2, 63), (2, 64), (2, 65), (2, 66), (2, 67), (0, 0), (0, 0), (0, 0), (0, 0), (0, 0), (0, 0), (0, 0)]) -- kept3
  | 60 => (1, 24, []) -- kept3.side
  | 61 => (1, 24, []) -- kept3.size
  | 62 => (1, 24, []) -- kept3.least
  | 63 => (1, 24, []) -- kept3.limit
  | 64 => (1, 24, []) -- kept3.firm
  | 65 => (1, 24, []) -- kept3.state
  | 66 => (1, 24, []) -- kept3.filled
  | 67 => (1, 24, []) -- kept3.leaks
  | 68 => (0, 1, [(2, 69), (2, 70), (2, 71), (2, 72), (2, 73), (2, 74), (2, 75), (2, 76), (0, 0), (0, 0), (0, 0), (0, 0), (0, 0), (0, 0), (0, 0)]) -- kept4
  | 69 => (1, 24, []) -- kept4.side
  | 70 => (1, 24, []) -- kept4.size
  | 71 => (1, 24, []) -- kept4.least
  | 72 => (1, 24, []) -- kept4.limit
  | 73 => (1, 24, []) -- kept4.firm
  | 74 => (1, 24, []) -- kept4.state
  | 75 => (1, 24, []) -- kept4.filled
  | 76 => (1, 24, []) -- kept4.leaks
  | 77 => (0, 1, [(2, 78), (2, 79), (2, 80), (2, 81), (2, 82), (2, 83), (2, 84), (2, 85), (0, 0), (0, 0), (0, 0), (0, 0), (0, 0), (0, 0), (0, 0)]) -- kept5
  | 78 => (1, 24, []) -- kept5.side
  | 79 => (1, 24, []) -- kept5.size
  | 80 => (1, 24, []) -- kept5.least
  | 81 => (1, 24, []) -- kept5.limit
  | 82 => (1, 24, []) -- kept5.firm
  | 83 => (1, 24, []) -- kept5.state
  | 84 => (1, 24, []) -- kept5.filled
  | 85 => (1, 24, []) -- kept5.leaks
  | 86 => (0, 1, [(2, 87), (2, 88), (2, 89), (2, 90), (2, 91), (2, 92), (2, 93), (2, 94), (0, 0), (0, 0), (0, 0), (0, 0), (0, 0), (0, 0), (0, 0)]) -- kept6
  | 87 => (1, 24, []) -- kept6.side
  | 88 => (1, 24, []) -- kept6.size
  | 89 => (1, 24, []) -- kept6.least
  | 90 => (1, 24, []) -- kept6.limit
  | 91 => (1, 24, []) -- kept6.firm
  | 92 => (1, 24, []) -- kept6.state
  | 93 => (1, 24, []) -- kept6.filled
  | 94 => (1, 24, []) -- kept6.leaks
  | 95 => (0, 1, [(2, 96), (2, 97), (2, 98), (2, 99), (2, 100), (2, 101), (2, 102), (2, 103), (0, 0), (0, 0), (0, 0), (0, 0), (0, 0), (0, 0), (0, 0)]) -- kept7
  | 96 => (1, 24, []) -- kept7.side
  | 97 => (1, 24, []) -- kept7.size
  | 98 => (1, 24, []) -- kept7.least
  | 99 => (1, 24, []) -- kept7.limit
  | 100 => (1, 24, []) -- kept7.firm
  | 101 => (1, 24, []) -- kept7.state
  | 102 => (1, 24, []) -- kept7.filled
  | 103 => (1, 24, []) -- kept7.leaks
  | 104 => (0, 7, [(0, 0), (2, 105), (0, 0), (0, 0), (0, 0), (0, 0), (0, 0), (0, 0), (0, 0), (0, 0), (1, 0), (2, 106), (2, 107), (2, 108), (0, 0), (2, 109), (0, 0), (2, 110), (2, 111), (2, 112), (2, 113), (2, 114), (2, 115), (0, 0), (0, 0), (0, 0), (0, 0), (2, 116)]) -- Model
  | 105 => (1, 440, []) -- Model.tape
  | 106 => (1, 223, []) -- Model.now
  | 107 => (1, 223, []) -- Model.read
  | 108 => (1, 1784, []) -- Model.snaps
  | 109 => (1, 10, []) -- Model.ranked
  | 110 => (1, 24, []) -- Model.low
  | 111 => (1, 24, []) -- Model.high
  | 112 => (1, 6, []) -- Model.buyLow
  | 113 => (1, 6, []) -- Model.buyHigh
  | 114 => (1, 6, []) -- Model.sellLow
  | 115 => (1, 6, []) -- Model.sellHigh
  | 116 => (1, 24, []) -- Model.fills
  | 117 => (2, 1, []) -- out
  | _ => (9, 0, [])
/-- the methods: name, bytes, locals, answer; 0 static, else 1 + the class of the receiver; parameters -/
def bc_MT (k : Nat) : (MethodName × ByteArray × Nat × Option FieldType) × Nat × Nat := match k with
  | 0 => ((yX0_init, cX0_init, 2, none), 1, 1)
  | 1 => ((yX0_suppose, cX0_suppose, 3, none), 1, 2)
  | 2 => ((yX0_choose, cX0_choose, 4, none), 1, 2)
  | 3 => ((yX0_descend, cX0_descend, 5, none), 1, 2)
  | 4 => ((yX0_mostOf, cX0_mostOf, 2, some FieldType.int), 1, 1)
  | 5 => ((yX0_share, cX0_share, 6, none), 1, 0)
  | 6 => ((yX0_arrange, cX0_arrange, 4, none), 1, 1)
  | 7 => ((yX0_gather, cX0_gather, 3, none), 1, 1)
  | 8 => ((yX0_addLeast, cX0_addLeast, 3, none), 1, 2)
  | 9 => ((yX0_addSize, cX0_addSize, 3, none), 1, 2)
  | 10 => ((yX0_leastOf, cX0_leastOf, 2, some FieldType.int), 1, 1)
  | 11 => ((yX1_init, cX1_init, 1, none), 2, 0)
  | 12 => ((yX1_clear, cX1_clear, 1, none), 2, 0)
  | 13 => ((yX1_copy, cX1_copy, 2, none), 2, 1)
  | 14 => ((yX1_add, cX1_add, 6, none), 2, 5)
  | 15 => ((yX1_has, cX1_has, 2, some FieldType.boolean), 2, 1)
  | 16 => ((yX1_isOpen, cX1_isOpen, 2, some FieldType.boolean), 2, 1)
  | 17 => ((yX1_isWilling, cX1_isWilling, 3, some FieldType.boolean), 2, 2)
  | 18 => ((yX1_openOrders, cX1_openOrders, 3, some FieldType.int), 2, 0)
  | 19 => ((yX1_willingOrders, cX1_willingOrders, 4, some FieldType.int), 2, 1)
  | 20 => ((yX1_isAhead, cX1_isAhead, 3, some FieldType.boolean), 2, 2)
  | 21 => ((yX1_openAhead, cX1_openAhead, 4, some FieldType.int), 2, 1)
  | 22 => ((yX1_sizeAcross, cX1_sizeAcross, 4, some FieldType.int), 2, 1)
  | 23 => ((yX1_trade, cX1_trade, 7, none), 2, 3)
  | 24 => ((yX1_firmsOf, cX1_firmsOf, 5, some FieldType.int), 2, 2)
  | 25 => ((yX2_init, cX2_init, 2, none), 3, 0)
  | 26 => ((yX2_keep, cX2_keep, 2, none), 3, 1)
  | 27 => ((yX2_restore, cX2_restore, 3, some FieldType.boolean), 3, 1)
  | 28 => ((yX2_forget, cX2_forget, 1, none), 3, 0)
  | 29 => ((yX3_init, cX3_init, 2, none), 4, 1)
  | 30 => ((yX3_read, cX3_read, 3, some FieldType.int), 4, 1)
  | 31 => ((yX3_readMid, cX3_readMid, 2, some FieldType.boolean), 4, 1)
  | 32 => ((yX3_readOrder, cX3_readOrder, 6, some FieldType.boolean), 4, 1)
  | 33 => ((yX3_readNumber, cX3_readNumber, 3, some FieldType.boolean), 4, 2)
  | 34 => ((yX3_readSign, cX3_readSign, 1, some FieldType.boolean), 4, 0)
  | 35 => ((yX3_refuse, cX3_refuse, 2, some FieldType.boolean), 4, 1)
  | 36 => ((yX3_scan, cX3_scan, 2, none), 4, 0)
  | 37 => ((yX3_scanName, cX3_scanName, 4, none), 4, 0)
  | 38 => ((yX3_spells, cX3_spells, 3, some FieldType.boolean), 4, 1)
  | 39 => ((yX3_isBlank, cX3_isBlank, 1, some FieldType.boolean), 0, 1)
  | 40 => ((yX3_isLetter, cX3_isLetter, 1, some FieldType.boolean), 0, 1)
  | 41 => ((yX3_isDigit, cX3_isDigit, 1, some FieldType.boolean), 0, 1)
  | 42 => ((yX4_init, cX4_init, 1, none), 5, 0)
  | 43 => ((yX4_clear, cX4_clear, 2, none), 5, 0)
  | 44 => ((yX4_isCell, cX4_isCell, 2, some FieldType.boolean), 0, 2)
  | 45 => ((yX4_addLow, cX4_addLow, 4, none), 5, 3)
  | 46 => ((yX4_addHigh, cX4_addHigh, 4, none), 5, 3)
  | 47 => ((yX4_most, cX4_most, 6, some FieldType.int), 5, 0)
  | 48 => ((yX4_spare, cX4_spare, 6, some FieldType.int), 5, 3)
  | 49 => ((yX5_init, cX5_init, 1, none), 6, 0)
  | 50 => ((yX5_hasRoom, cX5_hasRoom, 1, some FieldType.boolean), 6, 0)
  | 51 => ((yX5_put, cX5_put, 3, none), 6, 1)
  | 52 => ((yX5_byteAt, cX5_byteAt, 2, some FieldType.int), 6, 1)
  | 53 => ((yX6_init, cX6_init, 1, none), 7, 0)
  | 54 => ((yX6_feed, cX6_feed, 6, some FieldType.int), 7, 5)
  | 55 => ((yX6_end, cX6_end, 2, some FieldType.boolean), 7, 1)
  | 56 => ((yX6_text, cX6_text, 2, some FieldType.int), 7, 0)
  | 57 => ((yX6_fault, cX6_fault, 1, some FieldType.int), 7, 0)
  | 58 => ((yX6_now, cX6_now, 2, some FieldType.int), 7, 1)
  | 59 => ((yX6_order, cX6_order, 3, some FieldType.int), 7, 2)
  | 60 => ((yX6_rank, cX6_rank, 3, some FieldType.int), 7, 1)
  | 61 => ((yX6_chosen, cX6_chosen, 3, some FieldType.int), 7, 2)
  | 62 => ((yX6_fill, cX6_fill, 2, some FieldType.int), 7, 1)
  | 63 => ((yX6_why, cX6_why, 4, some FieldType.int), 7, 1)
  | 64 => ((yX6_volume, cX6_volume, 3, some FieldType.int), 7, 1)
  | 65 => ((yX6_best, cX6_best, 6, some FieldType.int), 7, 0)
  | 66 => ((yX6_were, cX6_were, 4, some FieldType.int), 7, 2)
  | 67 => ((yX6_worth, cX6_worth, 4, some FieldType.int), 7, 1)
  | 68 => ((yX6_reach, cX6_reach, 6, some FieldType.int), 7, 1)
  | 69 => ((yX6_come, cX6_come, 7, some FieldType.int), 7, 5)
  | 70 => ((yX6_withdraw, cX6_withdraw, 2, some FieldType.int), 7, 1)
  | 71 => ((yX6_amend, cX6_amend, 4, some FieldType.int), 7, 3)
  | 72 => ((yX6_mid, cX6_mid, 3, some FieldType.int), 7, 1)
  | 73 => ((yX6_run, cX6_run, 1, some FieldType.int), 7, 0)
  | 74 => ((yX6_undo, cX6_undo, 1, some FieldType.int), 7, 0)
  | 75 => ((yX6_volumeAt, cX6_volumeAt, 2, some FieldType.int), 7, 1)
  | 76 => ((yX6_change, cX6_change, 5, some FieldType.int), 7, 3)
  | 77 => ((yX6_isPrice, cX6_isPrice, 1, some FieldType.boolean), 0, 1)
  | 78 => ((yX6_isIn, cX6_isIn, 2, some FieldType.boolean), 0, 2)
  | 79 => ((yX7_thrown, cX7_thrown, 1, some FieldType.int), 8, 0)
  | 80 => ((yX7_refuse, cX7_refuse, 1, some FieldType.int), 8, 0)
  | 81 => ((yX7_isIn, cX7_isIn, 3, some FieldType.boolean), 0, 3)
  | 82 => ((yX7_has, cX7_has, 2, some FieldType.boolean), 0, 2)
  | 83 => ((yX7_lays, cX7_lays, 3, none), 8, 1)
  | 84 => ((yX7_feed, cX7_feed, 6, some FieldType.int), 8, 5)
  | 85 => ((yX7_end, cX7_end, 2, some FieldType.boolean), 8, 1)
  | 86 => ((yX7_tapeAt, cX7_tapeAt, 2, some FieldType.int), 8, 1)
  | 87 => ((yX7_isDigit, cX7_isDigit, 1, some FieldType.boolean), 0, 1)
  | 88 => ((yX7_isLetter, cX7_isLetter, 1, some FieldType.boolean), 0, 1)
  | 89 => ((yX7_go, cX7_go, 5, none), 8, 0)
  | 90 => ((yX7_is, cX7_is, 7, some FieldType.boolean), 8, 4)
  | 91 => ((yX7_bad, cX7_bad, 2, some FieldType.boolean), 8, 1)
  | 92 => ((yX7_init, cX7_init, 1, none), 8, 0)
  | 93 => ((yX7_clears, cX7_clears, 2, none), 0, 1)
  | 94 => ((yX7_told, cX7_told, 4, some FieldType.boolean), 8, 3)
  | 95 => ((yX7_readMid, cX7_readMid, 1, some FieldType.boolean), 8, 0)
  | 96 => ((yX7_readOrder, cX7_readOrder, 3, some FieldType.boolean), 8, 1)
  | 97 => ((yX7_readLine, cX7_readLine, 3, some FieldType.boolean), 8, 1)
  | 98 => ((yX7_readEnd, cX7_readEnd, 1, some FieldType.boolean), 8, 0)
  | 99 => ((yX7_text, cX7_text, 3, some FieldType.int), 8, 0)
  | 100 => ((yX7_fault, cX7_fault, 1, some FieldType.int), 8, 0)
  | 101 => ((yX7_isOrder, cX7_isOrder, 2, some FieldType.boolean), 8, 1)
  | 102 => ((yX7_its, cX7_its, 3, some FieldType.int), 8, 2)
  | 103 => ((yX7_isOpen, cX7_isOpen, 2, some FieldType.boolean), 8, 1)
  | 104 => ((yX7_isWilling, cX7_isWilling, 3, some FieldType.boolean), 8, 2)
  | 105 => ((yX7_openSet, cX7_openSet, 3, some FieldType.int), 8, 0)
  | 106 => ((yX7_now, cX7_now, 2, some FieldType.int), 8, 1)
  | 107 => ((yX7_order, cX7_order, 3, some FieldType.int), 8, 2)
  | 108 => ((yX7_isAhead, cX7_isAhead, 3, some FieldType.boolean), 8, 2)
  | 109 => ((yX7_laysRanks, cX7_laysRanks, 3, none), 8, 0)
  | 110 => ((yX7_rank, cX7_rank, 2, some FieldType.int), 8, 1)
  | 111 => ((yX7_laysBounds, cX7_laysBounds, 2, none), 8, 0)
  | 112 => ((yX7_sum, cX7_sum, 3, some FieldType.int), 0, 1)
  | 113 => ((yX7_laysVolumes, cX7_laysVolumes, 8, some FieldType.boolean), 8, 1)
  | 114 => ((yX7_laysChosen, cX7_laysChosen, 7, none), 8, 2)
  | 115 => ((yX7_choosesNow, cX7_choosesNow, 1, none), 8, 0)
  | 116 => ((yX7_chosen, cX7_chosen, 3, some FieldType.int), 8, 2)
  | 117 => ((yX7_laysFills, cX7_laysFills, 8, none), 8, 0)
  | 118 => ((yX7_fill, cX7_fill, 2, some FieldType.int), 8, 1)
  | 119 => ((yX7_isOther, cX7_isOther, 3, some FieldType.boolean), 8, 2)
  | 120 => ((yX7_canTrade, cX7_canTrade, 4, some FieldType.boolean), 8, 1)
  | 121 => ((yX7_why, cX7_why, 5, some FieldType.int), 8, 1)
  | 122 => ((yX7_volume, cX7_volume, 3, some FieldType.int), 8, 1)
  | 123 => ((yX7_best, cX7_best, 6, some FieldType.int), 8, 0)
  | 124 => ((yX7_were, cX7_were, 3, some FieldType.int), 8, 2)
  | 125 => ((yX7_worth, cX7_worth, 3, some FieldType.int), 8, 1)
  | 126 => ((yX7_reach, cX7_reach, 5, some FieldType.int), 8, 1)
  | 127 => ((yX7_snap, cX7_snap, 2, none), 8, 0)
  | 128 => ((yX7_come, cX7_come, 8, some FieldType.int), 8, 5)
  | 129 => ((yX7_withdraw, cX7_withdraw, 2, some FieldType.int), 8, 1)
  | 130 => ((yX7_becomes, cX7_becomes, 4, some FieldType.int), 8, 2)
  | 131 => ((yX7_amend, cX7_amend, 4, some FieldType.int), 8, 3)
  | 132 => ((yX7_mid, cX7_mid, 2, some FieldType.int), 8, 1)
  | 133 => ((yX7_leaksOf, cX7_leaksOf, 4, some FieldType.int), 8, 1)
  | 134 => ((yX7_run, cX7_run, 5, some FieldType.int), 8, 0)
  | 135 => ((yX7_undo, cX7_undo, 2, some FieldType.int), 8, 0)
  | 136 => ((yJ6_bitCount_0f7a4, cJ6_bitCount_0f7a4, 1, some FieldType.int), 0, 1)
  | 137 => ((yJ9_max_7cf53, cJ9_max_7cf53, 2, some FieldType.int), 0, 2)
  | 138 => ((yJ9_min_7cf53, cJ9_min_7cf53, 2, some FieldType.int), 0, 2)
  | 139 => ((yJ0_length_8abf5, cJ0_length_8abf5, 1, some FieldType.int), 91, 0)
  | 140 => ((yJ0_charAt_5068e, cJ0_charAt_5068e, 2, some FieldType.char), 91, 1)
  | 141 => ((yJ0_coder_7d493, cJ0_coder_7d493, 1, some FieldType.byte), 91, 0)
  | 142 => ((yJ0_isLatin1_aae02, cJ0_isLatin1_aae02, 1, some FieldType.boolean), 91, 0)
  | 143 => ((yJ0_checkIndex_df160, cJ0_checkIndex_df160, 2, none), 0, 2)
  | 144 => ((yJ1_charAt_3b067, cJ1_charAt_3b067, 2, some FieldType.char), 0, 2)
  | 145 => ((yJ2_getChar_3b067, cJ2_getChar_3b067, 2, some FieldType.char), 0, 2)
  | 146 => ((yJ2_length_9d52b, cJ2_length_9d52b, 1, some FieldType.int), 0, 1)
  | 147 => ((yJ2_charAt_3b067, cJ2_charAt_3b067, 2, some FieldType.char), 0, 2)
  | 148 => ((yJ2_checkIndex_2214a, cJ2_checkIndex_2214a, 2, none), 0, 2)
  | 149 => ((yJ3_checkIndex_8e157, cJ3_checkIndex_8e157, 3, some FieldType.int), 0, 3)
  | _ => ((yX0_init, cX0_init, 0, none), 0, 0)
def bc_MP (k : Nat) : Nat × Nat × Nat × Nat := match k with
  | 1 => (614, 613, 39, 79)
  | 2 => (514, 513, 23, 79)
  | 3 => (542, 541, 28, 79)
  | 4 => (598, 597, 37, 79)
  | 5 => (571, 570, 33, 79)
  | 6 => (518, 517, 24, 79)
  | 7 => (575, 574, 34, 79)
  | 8 => (554, 553, 30, 79)
  | 9 => (530, 529, 26, 79)
  | 10 => (558, 557, 31, 79)
  | 12 => (347, 346, 3, 78)
  | 13 => (454, 453, 14, 78)
  | 14 => (450, 449, 13, 78)
  | 15 => (482, 481, 18, 78)
  | 16 => (478, 477, 17, 78)
  | 17 => (510, 509, 22, 78)
  | 18 => (474, 473, 16, 78)
  | 19 => (506, 505, 21, 78)
  | 20 => (495, 494, 20, 78)
  | 21 => (491, 490, 19, 78)
  | 22 => (589, 588, 36, 78)
  | 23 => (663, 662, 42, 78)
  | 24 => (667, 666, 43, 78)
  | 26 => (636, 635, 40, 81)
  | 27 => (677, 676, 44, 81)
  | 28 => (461, 460, 15, 81)
  | 30 => (343, 342, 2, 77)
  | 31 => (375, 374, 7, 77)
  | 32 => (444, 443, 12, 77)
  | 33 => (436, 435, 10, 77)
  | 34 => (440, 439, 11, 77)
  | 35 => (432, 431, 9, 77)
  | 36 => (351, 350, 4, 77)
  | 37 => (365, 364, 6, 77)
  | 38 => (380, 379, 8, 77)
  | 39 => (361, 360, 0, 77)
  | 40 => (368, 367, 0, 77)
  | 41 => (371, 370, 0, 77)
  | 43 => (526, 525, 25, 80)
  | 44 => (538, 537, 0, 80)
  | 45 => (562, 561, 32, 80)
  | 46 => (535, 534, 27, 80)
  | 47 => (546, 545, 29, 80)
  | 48 => (579, 578, 35, 80)
  | 50 => (327, 326, 0, 76)
  | 51 => (331, 330, 1, 76)
  | 52 => (358, 357, 5, 76)
  | 54 => (323, 321, 322, 75)
  | 55 => (335, 333, 334, 75)
  | 56 => (339, 337, 338, 75)
  | 57 => (466, 464, 465, 75)
  | 58 => (470, 468, 469, 75)
  | 59 => (685, 683, 684, 75)
  | 60 => (486, 484, 485, 75)
  | 61 => (499, 497, 498, 75)
  | 62 => (566, 564, 565, 75)
  | 63 => (584, 582, 583, 75)
  | 64 => (594, 592, 593, 75)
  | 65 => (602, 600, 601, 75)
  | 66 => (610, 608, 609, 75)
  | 67 => (618, 616, 617, 75)
  | 68 => (622, 620, 621, 75)
  | 69 => (626, 624, 625, 75)
  | 70 => (643, 641, 642, 75)
  | 71 => (647, 645, 646, 75)
  | 72 => (655, 653, 654, 75)
  | 73 => (659, 657, 658, 75)
  | 74 => (673, 671, 672, 75)
  | 75 => (606, 605, 38, 75)
  | 76 => (651, 650, 41, 75)
  | 77 => (502, 501, 0, 75)
  | 78 => (521, 520, 0, 75)
  | 79 => (750, 748, 749, 82)
  | 80 => (939, 938, 60, 82)
  | 81 => (899, 898, 0, 82)
  | 82 => (970, 969, 0, 82)
  | 83 => (759, 757, 46, 82)
  | 84 => (754, 752, 753, 82)
  | 85 => (763, 761, 762, 82)
  | 86 => (874, 873, 48, 82)
  | 87 => (870, 869, 0, 82)
  | 88 => (867, 866, 0, 82)
  | 89 => (864, 863, 47, 82)
  | 90 => (884, 883, 50, 82)
  | 91 => (896, 895, 53, 82)
  | 93 => (771, 770, 0, 82)
  | 94 => (892, 891, 52, 82)
  | 95 => (888, 887, 51, 82)
  | 96 => (903, 902, 54, 82)
  | 97 => (880, 879, 49, 82)
  | 98 => (907, 906, 55, 82)
  | 99 => (860, 858, 859, 82)
  | 100 => (911, 909, 910, 82)
  | 101 => (927, 926, 58, 82)
  | 102 => (931, 930, 59, 82)
  | 103 => (923, 922, 57, 82)
  | 104 => (943, 942, 61, 82)
  | 105 => (919, 918, 56, 82)
  | 106 => (915, 913, 914, 82)
  | 107 => (935, 933, 934, 82)
  | 108 => (955, 954, 63, 82)
  | 109 => (951, 950, 62, 82)
  | 110 => (947, 945, 946, 82)
  | 111 => (963, 962, 64, 82)
  | 112 => (977, 976, 0, 82)
  | 113 => (974, 973, 66, 82)
  | 114 => (967, 966, 65, 82)
  | 115 => (989, 988, 68, 82)
  | 116 => (959, 957, 958, 82)
  | 117 => (985, 984, 67, 82)
  | 118 => (981, 979, 980, 82)
  | 119 => (997, 996, 69, 82)
  | 120 => (1001, 1000, 70, 82)
  | 121 => (993, 991, 992, 82)
  | 122 => (1005, 1003, 1004, 82)
  | 123 => (1009, 1007, 1008, 82)
  | 124 => (1013, 1011, 1012, 82)
  | 125 => (1017, 1015, 1016, 82)
  | 126 => (1021, 1019, 1020, 82)
  | 127 => (1029, 1028, 71, 82)
  | 128 => (1025, 1023, 1024, 82)
  | 129 => (1033, 1031, 1032, 82)
  | 130 => (1041, 1040, 72, 82)
  | 131 => (1037, 1035, 1036, 82)
  | 132 => (1045, 1043, 1044, 82)
  | 133 => (1053, 1052, 73, 82)
  | 134 => (1049, 1047, 1048, 82)
  | 135 => (1057, 1055, 1056, 82)
  | 136 => (629, 628, 0, 93)
  | 137 => (550, 549, 0, 83)
  | 138 => (354, 353, 0, 83)
  | _ => (0, 0, 0, 0)
def bc_gl0 : List Nat := [1, 2, 3, 4, 5, 6, 7, 8, 9, 10, 12, 13, 14, 15, 16, 17, 18, 19, 20, 21, 22, 23, 24, 26]
def bc_gl1 : List Nat := [27, 28, 30, 31, 32, 33, 34, 35, 36, 37, 38, 39, 40, 41, 43, 44, 45, 46, 47, 48, 50, 51, 52, 54]
def bc_gl2 : List Nat := [55, 56, 57, 58, 59, 60, 61, 62, 63, 64, 65, 66, 67, 68, 69, 70, 71, 72, 73, 74, 75, 76, 77, 78]
def bc_gl3 : List Nat := [79, 80, 81, 82, 83, 84, 85, 86, 87, 88, 89, 90, 91, 93, 94, 95, 96, 97, 98, 99, 100, 101, 102, 103]
def bc_gl4 : List Nat := [104, 105, 106, 107, 108, 109, 110, 111, 112, 113, 114, 115, 116, 117, 118, 119, 120, 121, 122, 123, 124, 125, 126, 127]
def bc_gl5 : List Nat := [128, 129, 130, 131, 132, 133, 134, 135, 136, 137, 138]
def bc_gl : List Nat := bc_gl0 ++ (bc_gl1 ++ (bc_gl2 ++ (bc_gl3 ++ (bc_gl4 ++ (bc_gl5)))))
def bc_good (mi : Nat) : Bool := bc_gl.contains mi
set_option maxRecDepth 100000 in
theorem bc_mc0 : ∀ mi ∈ bc_gl0, lw_tbl[(bc_MP mi).1]? = some (Cond.code (bc_MT mi).1.1 (bc_MT mi).1.2.1 (bc_MT mi).1.2.2.1 (bc_MT mi).1.2.2.2) := List.forall_mem_cons.mpr ⟨rfl, List.forall_mem_cons.mpr ⟨rfl, List.forall_mem_cons.mpr ⟨rfl, List.forall_mem_cons.mpr ⟨rfl, List.forall_mem_cons.mpr ⟨rfl, List.forall_mem_cons.mpr ⟨rfl, List.forall_mem_cons.mpr ⟨rfl, List.forall_mem_cons.mpr ⟨rfl, List.forall_mem_cons.mpr ⟨rfl, List.forall_mem_cons.mpr ⟨rfl, List.forall_mem_cons.mpr ⟨rfl, List.forall_mem_cons.mpr ⟨rfl, List.forall_mem_cons.mpr ⟨rfl, List.forall_mem_cons.mpr ⟨rfl, List.forall_mem_cons.mpr ⟨rfl, List.forall_mem_cons.mpr ⟨rfl, List.forall_mem_cons.mpr ⟨rfl, List.forall_mem_cons.mpr ⟨rfl, List.forall_mem_cons.mpr ⟨rfl, List.forall_mem_cons.mpr ⟨rfl, List.forall_mem_cons.mpr ⟨rfl, List.forall_mem_cons.mpr ⟨rfl, List.forall_mem_cons.mpr ⟨rfl, List.forall_mem_cons.mpr ⟨rfl, fun _ h => by cases h⟩⟩⟩⟩⟩⟩⟩⟩⟩⟩⟩⟩⟩⟩⟩⟩⟩⟩⟩⟩⟩⟩⟩⟩
set_option maxRecDepth 100000 in
theorem bc_mc1 : ∀ mi ∈ bc_gl1, lw_tbl[(bc_MP mi).1]? = some (Cond.code (bc_MT mi).1.1 (bc_MT mi).1.2.1 (bc_MT mi).1.2.2.1 (bc_MT mi).1.2.2.2) := List.forall_mem_cons.mpr ⟨rfl, List.forall_mem_cons.mpr ⟨rfl, List.forall_mem_cons.mpr ⟨rfl, List.forall_mem_cons.mpr ⟨rfl, List.forall_mem_cons.mpr ⟨rfl, List.forall_mem_cons.mpr ⟨rfl, List.forall_mem_cons.mpr ⟨rfl, List.forall_mem_cons.mpr ⟨rfl, List.forall_mem_cons.mpr ⟨rfl, List.forall_mem_cons.mpr ⟨rfl, List.forall_mem_cons.mpr ⟨rfl, List.forall_mem_cons.mpr ⟨rfl, List.forall_mem_cons.mpr ⟨rfl, List.forall_mem_cons.mpr ⟨rfl, List.forall_mem_cons.mpr ⟨rfl, List.forall_mem_cons.mpr ⟨rfl, List.forall_mem_cons.mpr ⟨rfl, List.forall_mem_cons.mpr ⟨rfl, List.forall_mem_cons.mpr ⟨rfl, List.forall_mem_cons.mpr ⟨rfl, List.forall_mem_cons.mpr ⟨rfl, List.forall_mem_cons.mpr ⟨rfl, List.forall_mem_cons.mpr ⟨rfl, List.forall_mem_cons.mpr ⟨rfl, fun _ h => by cases h⟩⟩⟩⟩⟩⟩⟩⟩⟩⟩⟩⟩⟩⟩⟩⟩⟩⟩⟩⟩⟩⟩⟩⟩
set_option maxRecDepth 100000 in
theorem bc_mc2 : ∀ mi ∈ bc_gl2, lw_tbl[(bc_MP mi).1]? = some (Cond.code (bc_MT mi).1.1 (bc_MT mi).1.2.1 (bc_MT mi).1.2.2.1 (bc_MT mi).1.2.2.2) := List.forall_mem_cons.mpr ⟨rfl, List.forall_mem_cons.mpr ⟨rfl, List.forall_mem_cons.mpr ⟨rfl, List.forall_mem_cons.mpr ⟨rfl, List.forall_mem_cons.mpr ⟨rfl, List.forall_mem_cons.mpr ⟨rfl, List.forall_mem_cons.mpr ⟨rfl, List.forall_mem_cons.mpr ⟨rfl, List.forall_mem_cons.mpr ⟨rfl, List.forall_mem_cons.mpr ⟨rfl, List.forall_mem_cons.mpr ⟨rfl, List.forall_mem_cons.mpr ⟨rfl, List.forall_mem_cons.mpr ⟨rfl, List.forall_mem_cons.mpr ⟨rfl, List.forall_mem_cons.mpr ⟨rfl, List.forall_mem_cons.mpr ⟨rfl, List.forall_mem_cons.mpr ⟨rfl, List.forall_mem_cons.mpr ⟨rfl, List.forall_mem_cons.mpr ⟨rfl, List.forall_mem_cons.mpr ⟨rfl, List.forall_mem_cons.mpr ⟨rfl, List.forall_mem_cons.mpr ⟨rfl, List.forall_mem_cons.mpr ⟨rfl, List.forall_mem_cons.mpr ⟨rfl, fun _ h => by cases h⟩⟩⟩⟩⟩⟩⟩⟩⟩⟩⟩⟩⟩⟩⟩⟩⟩⟩⟩⟩⟩⟩⟩⟩
set_option maxRecDepth 100000 in
theorem bc_mc3 : ∀ mi ∈ bc_gl3, lw_tbl[(bc_MP mi).1]? = some (Cond.code (bc_MT mi).1.1 (bc_MT mi).1.2.1 (bc_MT mi).1.2.2.1 (bc_MT mi).1.2.2.2) := List.forall_mem_cons.mpr ⟨rfl, List.forall_mem_cons.mpr ⟨rfl, List.forall_mem_cons.mpr ⟨rfl, List.forall_mem_cons.mpr ⟨rfl, List.forall_mem_cons.mpr ⟨rfl, List.forall_mem_cons.mpr ⟨rfl, List.forall_mem_cons.mpr ⟨rfl, List.forall_mem_cons.mpr ⟨rfl, List.forall_mem_cons.mpr ⟨rfl, List.forall_mem_cons.mpr ⟨rfl, List.forall_mem_cons.mpr ⟨rfl, List.forall_mem_cons.mpr ⟨rfl, List.forall_mem_cons.mpr ⟨rfl, List.forall_mem_cons.mpr ⟨rfl, List.forall_mem_cons.mpr ⟨rfl, List.forall_mem_cons.mpr ⟨rfl, List.forall_mem_cons.mpr ⟨rfl, List.forall_mem_cons.mpr ⟨rfl, List.forall_mem_cons.mpr ⟨rfl, List.forall_mem_cons.mpr ⟨rfl, List.forall_mem_cons.mpr ⟨rfl, List.forall_mem_cons.mpr ⟨rfl, List.forall_mem_cons.mpr ⟨rfl, List.forall_mem_cons.mpr ⟨rfl, fun _ h => by cases h⟩⟩⟩⟩⟩⟩⟩⟩⟩⟩⟩⟩⟩⟩⟩⟩⟩⟩⟩⟩⟩⟩⟩⟩
set_option maxRecDepth 100000 in
theorem bc_mc4 : ∀ mi ∈ bc_gl4, lw_tbl[(bc_MP mi).1]? = some (Cond.code (bc_MT mi).1.1 (bc_MT mi).1.2.1 (bc_MT mi).1.2.2.1 (bc_MT mi).1.2.2.2) := List.forall_mem_cons.mpr ⟨rfl, List.forall_mem_cons.mpr ⟨rfl, List.forall_mem_cons.mpr ⟨rfl, List.forall_mem_cons.mpr ⟨rfl, List.forall_mem_cons.mpr ⟨rfl, List.forall_mem_cons.mpr ⟨rfl, List.forall_mem_cons.mpr ⟨rfl, List.forall_mem_cons.mpr ⟨rfl, List.forall_mem_cons.mpr ⟨rfl, List.forall_mem_cons.mpr ⟨rfl, List.forall_mem_cons.mpr ⟨rfl, List.forall_mem_cons.mpr ⟨rfl, List.forall_mem_cons.mpr ⟨rfl, List.forall_mem_cons.mpr ⟨rfl, List.forall_mem_cons.mpr ⟨rfl, List.forall_mem_cons.mpr ⟨rfl, List.forall_mem_cons.mpr ⟨rfl, List.forall_mem_cons.mpr ⟨rfl, List.forall_mem_cons.mpr ⟨rfl, List.forall_mem_cons.mpr ⟨rfl, List.forall_mem_cons.mpr ⟨rfl, List.forall_mem_cons.mpr ⟨rfl, List.forall_mem_cons.mpr ⟨rfl, List.forall_mem_cons.mpr ⟨rfl, fun _ h => by cases h⟩⟩⟩⟩⟩⟩⟩⟩⟩⟩⟩⟩⟩⟩⟩⟩⟩⟩⟩⟩⟩⟩⟩⟩
set_option maxRecDepth 100000 in
theorem bc_mc5 : ∀ mi ∈ bc_gl5, lw_tbl[(bc_MP mi).1]? = some (Cond.code (bc_MT mi).1.1 (bc_MT mi).1.2.1 (bc_MT mi).1.2.2.1 (bc_MT mi).1.2.2.2) := List.forall_mem_cons.mpr ⟨rfl, List.forall_mem_cons.mpr ⟨rfl, List.forall_mem_cons.mpr ⟨rfl, List.forall_mem_cons.mpr ⟨rfl, List.forall_mem_cons.mpr ⟨rfl, List.forall_mem_cons.mpr ⟨rfl, List.forall_mem_cons.mpr ⟨rfl, List.forall_mem_cons.mpr ⟨rfl, List.forall_mem_cons.mpr ⟨rfl, List.forall_mem_cons.mpr ⟨rfl, List.forall_mem_cons.mpr ⟨rfl, fun _ h => by cases h⟩⟩⟩⟩⟩⟩⟩⟩⟩⟩⟩
theorem bc_mc : ∀ mi ∈ bc_gl, lw_tbl[(bc_MP mi).1]? = some (Cond.code (bc_MT mi).1.1 (bc_MT mi).1.2.1 (bc_MT mi).1.2.2.1 (bc_MT mi).1.2.2.2) := (List.forall_mem_append.mpr ⟨bc_mc0, (List.forall_mem_append.mpr ⟨bc_mc1, (List.forall_mem_append.mpr ⟨bc_mc2, (List.forall_mem_append.mpr ⟨bc_mc3, (List.forall_mem_append.mpr ⟨bc_mc4, bc_mc5⟩)⟩)⟩)⟩)⟩)
def bc_NC : Nat := 118
def bc_NM : Nat := 150
end
section
/-! THE SYSTEM AS A PURE PICTURE: cells by number (bc_lay), ints as unbounded Int, references by the number of their cell -/
abbrev bc_AV : Type := Int ⊕ (Int ⊕ Nat)
abbrev bc_AH : Type := Nat → Nat → Int
abbrev bc_ZT : Type := va_G × (Nat → Nat) × ClassId × ClassId × ClassId
abbrev bc_En : Type := Nat × Instr × Nat × List Nat
def bc_GW : List Cond := lw_tbl.filter goodWord
def bc_isN (w : Cond) : Bool := match w with
  | .fieldLinkNest .. => true
  | .methodLinkNest .. => true
  | _ => false
def bc_NW : List Cond := lw_tbl.filter bc_isN
def bc_inG (i : Nat) (w : Cond) : Bool := decide (lw_tbl[i]? = some w) && goodWord w
def bc_inN (i : Nat) (w : Cond) : Bool := decide (lw_tbl[i]? = some w) && bc_isN w
theorem bc_inG_mem {i : Nat} {w : Cond} (h : bc_inG i w = true) : w ∈ bc_GW := by
  simp only [bc_inG, Bool.and_eq_true, decide_eq_true_eq] at h
  exact List.mem_filter.mpr ⟨List.mem_of_getElem? h.1, h.2⟩
theorem bc_inN_mem {i : Nat} {w : Cond} (h : bc_inN i w = true) : w ∈ bc_NW := by
  simp only [bc_inN, Bool.and_eq_true, decide_eq_true_eq] at h
  exact List.mem_filter.mpr ⟨List.mem_of_getElem? h.1, h.2⟩
theorem bc_GW_good {w : Cond} (h : w ∈ bc_GW) : (w.onTables && w.keeps) = true ∨ ∃ ty, w = .arrayClass ty := good_of_word (List.mem_filter.mp h).2
-- what an abstract value, field, cell is in the machine
def bc_cv (ad : Nat → Nat) (v : bc_AV) : Value := match v with
  | .inl x => .int (Int32.ofInt x)
  | .inr (.inl x) => .long (Int64.ofInt x)
  | .inr (.inr r) => .ref (ad r)
def bc_cat (v : bc_AV) : Nat := match v with
  | .inl _ => 1
  | .inr (.inl _) => 2
  | .inr (.inr _) => 1
theorem bc_cv_cat (ad : Nat → Nat) (v : bc_AV) : (bc_cv ad v).category = bc_cat v := by
  rcases v with x | x | x <;> rfl
def bc_fv (ad : Nat → Nat) (x : Int) (c : Nat × Nat) : Value := match c.1 with
  | 0 => .int (Int32.ofInt x)
  | 1 => .long (Int64.ofInt x)
  | _ => .ref (ad c.2)
def bc_fs (ad : Nat → Nat) (g : Nat → Int) (fs : List (Nat × Nat)) : List Value := (List.range fs.length).map (fun j => bc_fv ad (g j) (fs.getD j (9, 0)))
def bc_E (Z : bc_ZT) (h : bc_AH) (k : Nat) : va_E := match bc_lay k with
  | (0, ci, fs) => .inr (ci, bc_fs Z.2.1 (h k) fs)
  | (1, n, _) => .inl (Z.2.2.1, n, .inl (fun j => Int32.ofInt (h k j)))
  | (2, n, _) => .inl (Z.2.2.2.1, n, .inr (.inl (fun j => Int64.ofInt (h k j))))
  | (_, n, fs) => .inl (Z.2.2.2.2, n, .inr (.inr (.inr (.inr (fun j => some (Z.2.1 (fs.getD j (0, 0)).2))))))
def bc_WS (Z : bc_ZT) (h : bc_AH) : va_W := (List.range bc_NC).map (fun k => (Z.2.1 k, bc_E Z h k))
def bc_up (h : bc_AH) (k j : Nat) (v : Int) : bc_AH := fun a b => if a = k then (if b = j then v else h a b) else h a b
def bc_cpy (h : bc_AH) (a b n : Nat) : bc_AH := fun k j => if k = b then (if j < n then h a j else h k j) else h k j
theorem bc_fs_len (ad : Nat → Nat) (g : Nat → Int) (fs : List (Nat × Nat)) : (bc_fs ad g fs).length = fs.length := by simp [bc_fs]
theorem bc_fs_get (ad : Nat → Nat) (g : Nat → Int) {fs : List (Nat × Nat)} {k : Nat} (hk : k < fs.length) : (bc_fs ad g fs)[k]? = some (bc_fv ad (g k) (fs.getD k (9, 0))) := by
  simp [bc_fs, List.getElem?_map, List.getElem?_range hk]
theorem bc_fs_set (ad : Nat → Nat) (g : Nat → Int) {fs : List (Nat × Nat)} {k : Nat} (v : Int) {w : Value} (hw : bc_fv ad v (fs.getD k (9, 0)) = w) : (bc_fs ad g fs).set k w = bc_fs ad (fun j => if j = k then v else g j) fs := by
  apply List.ext_getElem?
  intro i
  rw [List.getElem?_set, bc_fs_len]
  by_cases hi : i < fs.length
  · rw [bc_fs_get ad _ hi, bc_fs_get ad _ hi]
    by_cases hki : k = i
    · subst hki
      simp [hi, ← hw]
    · have : ¬ i = k := fun q => hki q.symm
      simp [hki, this]
  · have h1 : (bc_fs ad g fs)[i]? = none := List.getElem?_eq_none (by rw [bc_fs_len]; omega)
    have h2 : (bc_fs ad (fun j => if j = k then v else g j) fs)[i]? = none := List.getElem?_eq_none (by rw [bc_fs_len]; omega)
    rw [h1, h2]
    by_cases hki : k = i
    · subst hki
      simp [hi]
    · simp [hki]
theorem bc_WS_len (Z : bc_ZT) (h : bc_AH) : (bc_WS Z h).length = bc_NC := by simp [bc_WS]
theorem bc_WS_get (Z : bc_ZT) (h : bc_AH) {k : Nat} (hk : k < bc_NC) : (bc_WS Z h)[k]? = some (Z.2.1 k, bc_E Z h k) := by
  simp [bc_WS, List.getElem?_map, List.getElem?_range hk]
theorem bc_WS_set (Z : bc_ZT) (h h' : bc_AH) (k : Nat) {E : va_E} (hE : bc_E Z h' k = E) (ho : ∀ j, j ≠ k → bc_E Z h' j = bc_E Z h j) : (bc_WS Z h).set k (Z.2.1 k, E) = bc_WS Z h' := by
  apply List.ext_getElem?
  intro i
  rw [List.getElem?_set, bc_WS_len]
  by_cases hi : i < bc_NC
  · rw [bc_WS_get Z _ hi, bc_WS_get Z _ hi]
    by_cases hki : k = i
    · subst hki
      simp [hi, hE]
    · simp [hki, ho i (fun q => hki q.symm)]
  · have h1 : (bc_WS Z h)[i]? = none := List.getElem?_eq_none (by rw [bc_WS_len]; omega)
    have h2 : (bc_WS Z h')[i]? = none := List.getElem?_eq_none (by rw [bc_WS_len]; omega)
    rw [h1, h2]
    by_cases hki : k = i
    · subst hki
      simp [hi]
    · simp [hki]
theorem bc_E_congr (Z : bc_ZT) {h h' : bc_AH} {k : Nat} (e : h' k = h k) : bc_E Z h' k = bc_E Z h k := by
  unfold bc_E
  rw [e]
theorem bc_E_up_ne (Z : bc_ZT) (h : bc_AH) {k j : Nat} (i : Nat) (v : Int) (hj : j ≠ k) : bc_E Z (bc_up h k i v) j = bc_E Z h j := bc_E_congr Z (by funext b; simp [bc_up, hj])
theorem bc_E_0 (Z : bc_ZT) (h : bc_AH) {k ci : Nat} {fs : List (Nat × Nat)} (e : bc_lay k = (0, ci, fs)) : bc_E Z h k = .inr (ci, bc_fs Z.2.1 (h k) fs) := by
  unfold bc_E; rw [e]; rfl
theorem bc_E_1 (Z : bc_ZT) (h : bc_AH) {k n : Nat} {fs : List (Nat × Nat)} (e : bc_lay k = (1, n, fs)) : bc_E Z h k = .inl (Z.2.2.1, n, .inl (fun j => Int32.ofInt (h k j))) := by
  unfold bc_E; rw [e]; rfl
theorem bc_E_3 (Z : bc_ZT) (h : bc_AH) {k n : Nat} {fs : List (Nat × Nat)} (e : bc_lay k = (3, n, fs)) : bc_E Z h k = .inl (Z.2.2.2.2, n, .inr (.inr (.inr (.inr (fun j => some (Z.2.1 (fs.getD j (0, 0)).2)))))) := by
  unfold bc_E; rw [e]; rfl
theorem bc_lay_out {k : Nat} (hk : ¬ k < bc_NC) : bc_lay k = (9, 0, []) := by
  unfold bc_NC at hk
  unfold bc_lay
  split <;> first | rfl | omega
theorem bc_lay_lt {k t n : Nat} {fs : List (Nat × Nat)} (h : bc_lay k = (t, n, fs)) (ht : t ≠ 9) : k < bc_NC := by
  by_cases hk : k < bc_NC
  · exact hk
  · rw [bc_lay_out hk] at h
    cases h
    exact absurd rfl ht
theorem bc_lay_n {k : Nat} (hk : k < bc_NC) : (bc_lay k).2.1 < 2000 := by
  have h : ∀ k, k < bc_NC → (bc_lay k).2.1 < 2000 := by decide +kernel
  exact h k hk
-- the script's and the literals' own cells are outside; tables
def bc_tys (Z : bc_ZT) : List (ClassId × FieldType) := [(Z.2.2.1, .int), (Z.2.2.2.1, .long), (Z.2.2.2.2, .object "BlockCross$Desk")]
def bc_lit (i : Nat) : Nat × String := match i with
  | 0 => (45, "mid")
  | 1 => (69, "buy")
  | _ => (71, "sell")
def bc_slen : List Nat := [3, 3, 4]
def bc_sbyt : List (List Int32) := [[109, 105, 100], [98, 117, 121], [115, 101, 108, 108]]
def bc_ST (Z : bc_ZT) (A : Nat → Prop) (U : State) (H0 : Heap) : Prop :=
  (∀ i, i < 3 → vk_R "BlockCross$Reader" (bc_lit i).1 (bc_lit i).2 (Z.2.1 (1000 + i)) U) ∧
  vk_S 3 bc_slen bc_sbyt (fun i => Z.2.1 (1000 + i)) (fun i => Z.2.1 (1100 + i)) A U H0 ∧
  va_Z "java/lang/String" "COMPACT_STRINGS" "Z" (.int 1) A U H0 ∧
  va_Zq "jdk/internal/util/Preconditions" "SIOOBE_FORMATTER" "Ljava/util/function/BiFunction;" A U H0
def bc_WK (Z : bc_ZT) (A : Nat → Prop) (U : State) (H0 : Heap) : Prop :=
  va_K Z.1 vwCl (bc_tys Z) U ∧ (∀ w ∈ bc_NW, va_Nw w U) ∧ (∀ i j, i < bc_NC → j < bc_NC → Z.2.1 i = Z.2.1 j → i = j) ∧ (∀ k, k < bc_NC → A (Z.2.1 k)) ∧ bc_ST Z A U H0
theorem bc_Nw_warm {w : Cond} (hw : bc_isN w = true) {s U : State} (hW : s.WarmedH U.vm) (h : va_Nw w s) : va_Nw w U := by
  cases w <;> first | exact va_Nw.warmF hW h | exact va_Nw.warmM hW h | (simp [bc_isN] at hw)
theorem bc_WK_warm {Z : bc_ZT} {A : Nat → Prop} {s U : State} {H0 : Heap} (hW : s.WarmedH U.vm) (h : bc_WK Z A s H0) : bc_WK Z A U H0 := by
  obtain ⟨h1, h2, h3, h4, h5, h6, h7, h8⟩ := h
  exact ⟨va_K.moved hW.alike h1, fun w hw => bc_Nw_warm (List.mem_filter.mp hw).2 hW (h2 w hw), h3, h4, fun i hi => (h5 i hi).warm hW, h6.moved hW.alike, h7.moved hW.alike, h8.moved hW.alike⟩
theorem bc_WK_same {Z : bc_ZT} {A : Nat → Prop} {s U : State} {H0 : Heap} (hW : U.vm = s.vm) (h : bc_WK Z A s H0) : bc_WK Z A U H0 := by
  obtain ⟨h1, h2, h3, h4, h5, h6, h7, h8⟩ := h
  have ha : s.vm.Alike U.vm := by rw [hW]; exact Vm.Alike.refl s.vm
  exact ⟨va_K.moved ha h1, fun w hw => (by
    have hn := (List.mem_filter.mp hw).2
    have hz := h2 w hw
    cases w <;> first | (exact va_Nw.same rfl hW.symm hz) | (simp [bc_isN] at hn)), h3, h4, fun i hi => (h5 i hi).same hW, h6.moved ha, h7.moved ha, h8.moved ha⟩
theorem bc_WK_kept {Z : bc_ZT} {A B : Nat → Prop} {s : State} {H0 H1 : Heap} (h : bc_WK Z A s H0) (hq : ∀ a : Nat, a < H0.size → ¬ A a → H1[a]? = H0[a]?) (hAB : ∀ q, B q → A q) (hB : ∀ k, k < bc_NC → B (Z.2.1 k)) : bc_WK Z B s H1 := by
  obtain ⟨h1, h2, h3, h4, h5, h6, h7, h8⟩ := h
  exact ⟨h1, h2, h3, hB, h5, (h6.kept hq).narrow hAB, (h7.kept hq).narrow hAB, (h8.kept hq).narrow hAB⟩
theorem bc_WK_D {Z : bc_ZT} {A : Nat → Prop} {U : State} {H0 : Heap} (h : bc_WK Z A U H0) (g : bc_AH) : va_D A (bc_WS Z g) := by
  obtain ⟨-, -, h3, h4, -⟩ := h
  have hb : ∀ (i : Nat) (q : Nat × va_E), (bc_WS Z g)[i]? = some q → i < bc_NC ∧ q.1 = Z.2.1 i := by
    intro i q hq
    have hi : i < bc_NC := by
      have := (List.getElem?_eq_some_iff.mp hq).1
      rwa [bc_WS_len] at this
    rw [bc_WS_get Z g hi] at hq
    cases hq
    exact ⟨hi, rfl⟩
  refine ⟨fun i j x y hx hy e => ?_, fun k q hq => ?_⟩
  · obtain ⟨a1, a2⟩ := hb i x hx
    obtain ⟨b1, b2⟩ := hb j y hy
    exact h3 i j a1 b1 (by rw [← a2, ← b2]; exact e)
  · obtain ⟨a1, a2⟩ := hb k q hq
    rw [a2]
    exact h4 k a1
-- a method, its words, its room, its contract
abbrev bc_y (mi : Nat) : MethodName := (bc_MT mi).1.1
abbrev bc_by (mi : Nat) : ByteArray := (bc_MT mi).1.2.1
abbrev bc_mL (mi : Nat) : Nat := (bc_MT mi).1.2.2.1
abbrev bc_rt (mi : Nat) : Option FieldType := (bc_MT mi).1.2.2.2
def bc_ws (mi : Nat) : List Cond := .code (bc_y mi) (bc_by mi) (bc_mL mi) (bc_rt mi) :: bc_GW
def bc_rm (d : Nat) : Room := { frames := d + 1, cells := 0, slots := 0, locals := 64 * (d + 1) }
def bc_A (Z : bc_ZT) (sz : Nat) : Nat → Prop := fun q => (∃ k, k < bc_NC ∧ q = Z.2.1 k) ∨ sz ≤ q
def bc_Q (Z : bc_ZT) (post : Option bc_AV → bc_AH → Prop) (A : Nat → Prop) : Array Value → State → Outcome → State → Prop := fun _ st oc t => (∃ (r : Option bc_AV) (h' : bc_AH), oc = .returned (r.map (bc_cv Z.2.1)) ∧ post r h' ∧ va_P Z.1 vwCl (bc_WS Z h') t.heap) ∧ va_F A st t
def bc_Pre (Z : bc_ZT) (sz : Nat) (args : List bc_AV) (h : bc_AH) : Array Value → State → Prop := va_Pc (args.map (bc_cv Z.2.1)) (fun U => U.heap.size = sz ∧ bc_WK Z (bc_A Z sz) U U.heap ∧ va_P Z.1 vwCl (bc_WS Z h) U.heap)
/-- the contract: method mi, at call depth d, from these arguments and this picture, returns r and leaves a picture h' with post r h' -/
def bc_OK (d mi : Nat) (args : List bc_AV) (h : bc_AH) (post : Option bc_AV → bc_AH → Prop) : Prop :=
  ∀ (l : Launch) (Z : bc_ZT) (sz : Nat), Met l (bc_y mi) (bc_ws mi) (bc_rm d) (bc_Pre Z sz args h) (bc_Q Z post (bc_A Z sz)) 0 0 (bc_A Z sz)
def bc_L (Z : bc_ZT) (ls : Array Slot) (nL : Nat) (loc : List (Option bc_AV)) : Prop := ls.size = nL ∧ lv_wf ls ∧ ∀ (i : Nat) (v : bc_AV), loc[i]? = some (some v) → ls[i]? = some (.val (bc_cv Z.2.1 v))
def bc_X (mi : Nat) (p : Program) (s : State) (m : MethodId) (args : Array Value) (meth : Method) (c : Code) : Prop :=
  p.tables.exec = Jvm.exec ∧ c.code = bc_by mi ∧ c.maxLocals = bc_mL mi ∧ meth.sig.returnType = bc_rt mi ∧ (∀ w ∈ bc_ws mi, w.before args s = true) ∧ s.vm.findClass (bc_y mi).cls = some m.cls ∧ meth.locks = false
/-- inside method mi (its callees at depth d): from here it comes to its end, with post -/
def bc_AT (d mi : Nat) (post : Option bc_AV → bc_AH → Prop) (pc : Nat) (loc : List (Option bc_AV)) (st : List bc_AV) (h : bc_AH) : Prop :=
  ∀ (p : Program) (l : Launch) (e : Env) (s : State) (m : MethodId) (args : Array Value) (below : List Frame) (meth : Method) (c : Code) (Z : bc_ZT) (A : Nat → Prop) (H : Heap) (locs : List Loc) (ls : Array Slot),
    bc_X mi p s m args meth c → (∀ q, s.heap.size ≤ q → A q) → bc_WK Z A s s.heap → va_P Z.1 vwCl (bc_WS Z h) H → va_S A s.heap H locs → bc_L Z ls (bc_mL mi) loc →
    W p l e (bc_rm (d + 1)) s m args below meth c H locs 0 0 (MQ below (bc_Q Z post A) args s 0 0 A) (F0 m pc ls (st.map (bc_cv Z.2.1)))
theorem bc_AT_weak {d mi : Nat} {post : Option bc_AV → bc_AH → Prop} {pc : Nat} {loc loc' : List (Option bc_AV)} {st : List bc_AV} {h : bc_AH} (k : bc_AT d mi post pc loc' st h) (hl : ∀ (i : Nat) (v : bc_AV), loc'[i]? = some (some v) → loc[i]? = some (some v)) : bc_AT d mi post pc loc st h := by
  intro p l e s m args below meth c Z A H locs ls hX hA hW hP hS hL
  exact k p l e s m args below meth c Z A H locs ls hX hA hW hP hS ⟨hL.1, hL.2.1, fun i v hi => hL.2.2 i v (hl i v hi)⟩
end
section
/-! ONE LEMMA AN INSTRUCTION, over bc_AT -/
def bc_vr (x : Int) : Prop := -2147483648 ≤ x ∧ x ≤ 2147483647
def bc_vl (x : Int) : Prop := -9223372036854775808 ≤ x ∧ x ≤ 9223372036854775807
theorem bc_ti {x : Int} (h : bc_vr x) : (Int32.ofInt x).toInt = x := by
  unfold bc_vr at h
  exact Int32.toInt_ofInt_of_le (by omega) (by omega)
theorem bc_tl {x : Int} (h : bc_vl x) : (Int64.ofInt x).toInt = x := by
  unfold bc_vl at h
  exact Int64.toInt_ofInt_of_le (by omega) (by omega)
theorem bc_eq {x y : Int} (hx : bc_vr x) (hy : bc_vr y) : Int32.ofInt x = Int32.ofInt y ↔ x = y := by
  constructor
  · intro h
    rw [← bc_ti hx, ← bc_ti hy, h]
  · intro h
    rw [h]
theorem bc_lt {x y : Int} (hx : bc_vr x) (hy : bc_vr y) : Int32.ofInt x < Int32.ofInt y ↔ x < y := by
  rw [Int32.lt_iff_toInt_lt, bc_ti hx, bc_ti hy]
theorem bc_le {x y : Int} (hx : bc_vr x) (hy : bc_vr y) : Int32.ofInt x ≤ Int32.ofInt y ↔ x ≤ y := by
  rw [Int32.le_iff_toInt_le, bc_ti hx, bc_ti hy]
theorem bc_in {i : Int} {n : Nat} (h0 : 0 ≤ i) (h1 : i < n) (hn : n < 2000) : vp_in (Int32.ofInt i) n := by
  rw [vp_in_iff, bc_ti ⟨by omega, by omega⟩]
  exact ⟨h0, h1⟩
theorem bc_cl {i : Int} (h0 : 0 ≤ i) (h1 : i < 2000) : (Int32.ofInt i).toNatClampNeg = i.toNat := by
  show (Int32.ofInt i).toInt.toNat = i.toNat
  rw [bc_ti ⟨by omega, by omega⟩]
-- int functions that are not homomorphic: by the machine's own
def bc_and (x y : Int) : Int := (Int32.ofInt x &&& Int32.ofInt y).toInt
def bc_or (x y : Int) : Int := (Int32.ofInt x ||| Int32.ofInt y).toInt
def bc_xor (x y : Int) : Int := (Int32.ofInt x ^^^ Int32.ofInt y).toInt
def bc_shl (x y : Int) : Int := (Int32.ofInt x <<< (Int32.ofInt y &&& 31)).toInt
def bc_shr (x y : Int) : Int := (Int32.ofInt x >>> (Int32.ofInt y &&& 31)).toInt
def bc_ushr (x y : Int) : Int := ((Int32.ofInt x).toUInt32 >>> ((Int32.ofInt y).toUInt32 &&& Int32.toUInt32 31)).toInt32.toInt
section Steps
variable {d mi : Nat} {post : Option bc_AV → bc_AH → Prop} {pc : Nat} {loc : List (Option bc_AV)} {st : List bc_AV} {h : bc_AH}
theorem bc_go {pc' : Nat} {st' : List bc_AV} (hn : bc_AT d mi post pc' loc st' h)
    (k : ∀ (p : Program) (l : Launch) (e : Env) (R : Room) (s : State) (m : MethodId) (args : Array Value) (below : List Frame) (meth : Method) (c : Code) (H : Heap) (locs : List Loc) (cells slots : Nat) (Q : State → Prop) (ls : Array Slot) (ad : Nat → Nat), p.tables.exec = Jvm.exec → c.code = bc_by mi → s.vm.findClass (bc_y mi).cls = some m.cls → (∀ w ∈ bc_ws mi, w.before args s = true) →
      W p l e R s m args below meth c H locs cells slots Q (F0 m pc' ls (st'.map (bc_cv ad))) → W p l e R s m args below meth c H locs cells slots Q (F0 m pc ls (st.map (bc_cv ad)))) : bc_AT d mi post pc loc st h := by
  intro p l e s m args below meth c Z A H locs ls hX hA hW hP hS hL
  exact k p l e _ s m args below meth c H locs 0 0 _ ls Z.2.1 hX.1 hX.2.1 hX.2.2.2.2.2.1 hX.2.2.2.2.1 (hn p l e s m args below meth c Z A H locs ls hX hA hW hP hS hL)
theorem bc_s_iconst {n : Int} (hd : decode (bc_by mi) pc = .ok (.iconst n, 1)) (hn : bc_AT d mi post (pc + 1) loc (.inl n :: st) h) : bc_AT d mi post pc loc st h :=
  bc_go hn (fun _ _ _ _ _ _ _ _ _ _ _ _ _ _ _ _ _ hx hb _ _ w => lv_iconst hx hb hd rfl w)
theorem bc_s_bipush {n : Int} (hd : decode (bc_by mi) pc = .ok (.bipush n, 2)) (h1 : -128 ≤ n) (h2 : n ≤ 127) (hn : bc_AT d mi post (pc + 2) loc (.inl n :: st) h) : bc_AT d mi post pc loc st h :=
  bc_go hn (fun _ _ _ _ _ _ _ _ _ _ _ _ _ _ _ _ _ hx hb _ _ w => lv_bipush hx hb hd (by
    apply Int32.toInt_inj.mp
    rw [Int8.toInt_toInt32, Int8.toInt_ofInt_of_le (by omega) (by omega), bc_ti ⟨by omega, by omega⟩]) w)
theorem bc_s_sipush {n : Int} (hd : decode (bc_by mi) pc = .ok (.sipush n, 3)) (h1 : -32768 ≤ n) (h2 : n ≤ 32767) (hn : bc_AT d mi post (pc + 3) loc (.inl n :: st) h) : bc_AT d mi post pc loc st h :=
  bc_go hn (fun _ _ _ _ _ _ _ _ _ _ _ _ _ _ _ _ _ hx hb _ _ w => lv_sipush hx hb hd (by
    apply Int32.toInt_inj.mp
    rw [Int16.toInt_toInt32, Int16.toInt_ofInt_of_le (by omega) (by omega), bc_ti ⟨by omega, by omega⟩]) w)
theorem bc_s_lconst {n : Fin 2} (hd : decode (bc_by mi) pc = .ok (.lconst n, 1)) (hn : bc_AT d mi post (pc + 1) loc (.inr (.inl ((n : Nat) : Int)) :: st) h) : bc_AT d mi post pc loc st h :=
  bc_go hn (fun _ _ _ _ _ _ _ _ _ _ _ _ _ _ _ _ _ hx hb _ _ w => lv_lconst hx hb hd rfl w)
theorem bc_s_ldcw {i v : Nat} (hd : decode (bc_by mi) pc = .ok (.ldc_w i, 3)) (hw : Cond.constant (bc_y mi).cls i (Int32.ofInt (v : Int)) ∈ bc_GW) (hn : bc_AT d mi post (pc + 3) loc (.inl ((v : Nat) : Int) :: st) h) : bc_AT d mi post pc loc st h :=
  bc_go hn (fun _ _ _ _ _ _ _ _ _ _ _ _ _ _ _ _ _ hx hb ho ht w => lv_ldcw hx hb ho (ht _ (List.mem_cons_of_mem _ hw)) hd w)
theorem bc_s_ldc2 {i v : Nat} (hd : decode (bc_by mi) pc = .ok (.ldc2_w i, 3)) (hw : Cond.constantLong (bc_y mi).cls i (Int64.ofInt (v : Int)) ∈ bc_GW) (hn : bc_AT d mi post (pc + 3) loc (.inr (.inl ((v : Nat) : Int)) :: st) h) : bc_AT d mi post pc loc st h :=
  bc_go hn (fun _ _ _ _ _ _ _ _ _ _ _ _ _ _ _ _ _ hx hb ho ht w => lv_ldc2 hx hb ho (ht _ (List.mem_cons_of_mem _ hw)) hd w)
theorem bc_s_iadd {x y : Int} (hd : decode (bc_by mi) pc = .ok (.iadd, 1)) (hn : bc_AT d mi post (pc + 1) loc (.inl (x + y) :: st) h) : bc_AT d mi post pc loc (.inl y :: .inl x :: st) h :=
  bc_go hn (fun _ _ _ _ _ _ _ _ _ _ _ _ _ _ _ _ _ hx hb _ _ w => lv_iadd hx hb hd (by rw [← Int32.ofInt_add]; exact w))
theorem bc_s_isub {x y : Int} (hd : decode (bc_by mi) pc = .ok (.isub, 1)) (hn : bc_AT d mi post (pc + 1) loc (.inl (x - y) :: st) h) : bc_AT d mi post pc loc (.inl y :: .inl x :: st) h :=
  bc_go hn (fun _ _ _ _ _ _ _ _ _ _ _ _ _ _ _ _ _ hx hb _ _ w => lv_isub hx hb hd (by rw [← Int32.ofInt_sub]; exact w))
theorem bc_s_imul {x y : Int} (hd : decode (bc_by mi) pc = .ok (.imul, 1)) (hn : bc_AT d mi post (pc + 1) loc (.inl (x * y) :: st) h) : bc_AT d mi post pc loc (.inl y :: .inl x :: st) h :=
  bc_go hn (fun _ _ _ _ _ _ _ _ _ _ _ _ _ _ _ _ _ hx hb _ _ w => lv_imul hx hb hd (by rw [← Int32.ofInt_mul]; exact w))
theorem bc_s_ladd {x y : Int} (hd : decode (bc_by mi) pc = .ok (.ladd, 1)) (hn : bc_AT d mi post (pc + 1) loc (.inr (.inl (x + y)) :: st) h) : bc_AT d mi post pc loc (.inr (.inl y) :: .inr (.inl x) :: st) h :=
  bc_go hn (fun _ _ _ _ _ _ _ _ _ _ _ _ _ _ _ _ _ hx hb _ _ w => lv_ladd hx hb hd (by rw [← Int64.ofInt_add]; exact w))
theorem bc_s_lsub {x y : Int} (hd : decode (bc_by mi) pc = .ok (.lsub, 1)) (hn : bc_AT d mi post (pc + 1) loc (.inr (.inl (x - y)) :: st) h) : bc_AT d mi post pc loc (.inr (.inl y) :: .inr (.inl x) :: st) h :=
  bc_go hn (fun _ _ _ _ _ _ _ _ _ _ _ _ _ _ _ _ _ hx hb _ _ w => lv_lsub hx hb hd (by rw [← Int64.ofInt_sub]; exact w))
theorem bc_s_lmul {x y : Int} (hd : decode (bc_by mi) pc = .ok (.lmul, 1)) (hn : bc_AT d mi post (pc + 1) loc (.inr (.inl (x * y)) :: st) h) : bc_AT d mi post pc loc (.inr (.inl y) :: .inr (.inl x) :: st) h :=
  bc_go hn (fun _ _ _ _ _ _ _ _ _ _ _ _ _ _ _ _ _ hx hb _ _ w => lv_lmul hx hb hd (by rw [← Int64.ofInt_mul]; exact w))
theorem bc_s_i2l {x : Int} (hd : decode (bc_by mi) pc = .ok (.i2l, 1)) (hv : bc_vr x) (hn : bc_AT d mi post (pc + 1) loc (.inr (.inl x) :: st) h) : bc_AT d mi post pc loc (.inl x :: st) h :=
  bc_go hn (fun _ _ _ _ _ _ _ _ _ _ _ _ _ _ _ _ _ hx hb _ _ w => lv_i2l hx hb hd (by
    apply Int64.toInt_inj.mp
    rw [Int32.toInt_toInt64, bc_ti hv, bc_tl (by unfold bc_vr at hv; exact ⟨by omega, by omega⟩)]) w)
theorem bc_s_lcmp {x y : Int} (hd : decode (bc_by mi) pc = .ok (.lcmp, 1)) (hx : bc_vl x) (hy : bc_vl y) (hn : bc_AT d mi post (pc + 1) loc (.inl (if x < y then -1 else if x = y then 0 else 1) :: st) h) : bc_AT d mi post pc loc (.inr (.inl y) :: .inr (.inl x) :: st) h :=
  bc_go hn (fun _ _ _ _ _ _ _ _ _ _ _ _ _ _ _ _ _ hx' hb _ _ w => W.lcmp hx' hb hd (by
    have e : lg_cmp (Int64.ofInt x) (Int64.ofInt y) = Int32.ofInt (if x < y then -1 else if x = y then 0 else 1) := by
      have h1 : Int64.ofInt x < Int64.ofInt y ↔ x < y := by rw [Int64.lt_iff_toInt_lt, bc_tl hx, bc_tl hy]
      have h3 : Int64.ofInt y < Int64.ofInt x ↔ y < x := by rw [Int64.lt_iff_toInt_lt, bc_tl hx, bc_tl hy]
      have h2 : Int64.ofInt x = Int64.ofInt y ↔ x = y := by rw [← Int64.toInt_inj, bc_tl hx, bc_tl hy]
      unfold lg_cmp
      by_cases c1 : x < y
      · have c2 : ¬ y < x := by omega
        have c3 : ¬ x = y := by omega
        simp [h1, h2, h3, c1, c2, c3]
      · by_cases c2 : x = y
        · subst c2
          simp
        · have c3 : y < x := by omega
          simp [h1, h2, h3, c1, c2, c3]
    rw [e]; exact w))
theorem bc_s_idiv {x y : Int} (hd : decode (bc_by mi) pc = .ok (.idiv, 1)) (h1 : 0 ≤ x) (h2 : bc_vr x) (h3 : 0 < y) (h4 : bc_vr y) (hn : bc_AT d mi post (pc + 1) loc (.inl (x / y) :: st) h) : bc_AT d mi post pc loc (.inl y :: .inl x :: st) h :=
  bc_go hn (fun _ _ _ _ _ _ _ _ _ _ _ _ _ _ _ _ _ hx hb _ _ w => by
    obtain ⟨a, rfl⟩ := Int.eq_ofNat_of_zero_le h1
    obtain ⟨b, rfl⟩ := Int.eq_ofNat_of_zero_le (Int.le_of_lt h3)
    unfold bc_vr at h2 h4
    have e := pk_div (a := a) (d := b) (by omega) (by omega) (by omega)
    refine lv_idiv hx hb hd (fun q => ?_) ?_
    · have := (bc_eq (x := (b : Int)) (y := 0) h4 ⟨by omega, by omega⟩).mp q
      omega
    · have e2 : Int32.ofInt (a : Int) / Int32.ofInt (b : Int) = Int32.ofInt ((a : Int) / (b : Int)) := e
      rw [e2]; exact w)
theorem bc_s_irem {x y : Int} (hd : decode (bc_by mi) pc = .ok (.irem, 1)) (h1 : 0 ≤ x) (h2 : bc_vr x) (h3 : 0 < y) (h4 : bc_vr y) (hn : bc_AT d mi post (pc + 1) loc (.inl (x % y) :: st) h) : bc_AT d mi post pc loc (.inl y :: .inl x :: st) h :=
  bc_go hn (fun _ _ _ _ _ _ _ _ _ _ _ _ _ _ _ _ _ hx hb _ _ w => by
    obtain ⟨a, rfl⟩ := Int.eq_ofNat_of_zero_le h1
    obtain ⟨b, rfl⟩ := Int.eq_ofNat_of_zero_le (Int.le_of_lt h3)
    unfold bc_vr at h2 h4
    have e := pk_rem (a := a) (d := b) (by omega) (by omega) (by omega)
    refine lv_irem hx hb hd (fun q => ?_) ?_
    · have := (bc_eq (x := (b : Int)) (y := 0) h4 ⟨by omega, by omega⟩).mp q
      omega
    · have e2 : Int32.ofInt (a : Int) - Int32.ofInt (a : Int) / Int32.ofInt (b : Int) * Int32.ofInt (b : Int) = Int32.ofInt ((a : Int) % (b : Int)) := e
      rw [e2]; exact w)
theorem bc_oi (x : Int32) : Int32.ofInt x.toInt = x := Int32.ofInt_toInt x
theorem bc_s_iand {x y : Int} (hd : decode (bc_by mi) pc = .ok (.iand, 1)) (hn : bc_AT d mi post (pc + 1) loc (.inl (bc_and x y) :: st) h) : bc_AT d mi post pc loc (.inl y :: .inl x :: st) h :=
  bc_go hn (fun _ _ _ _ _ _ _ _ _ _ _ _ _ _ _ _ _ hx hb _ _ w => lv_iand hx hb hd (by rw [← bc_oi (_ &&& _)]; exact w))
theorem bc_s_ior {x y : Int} (hd : decode (bc_by mi) pc = .ok (.ior, 1)) (hn : bc_AT d mi post (pc + 1) loc (.inl (bc_or x y) :: st) h) : bc_AT d mi post pc loc (.inl y :: .inl x :: st) h :=
  bc_go hn (fun _ _ _ _ _ _ _ _ _ _ _ _ _ _ _ _ _ hx hb _ _ w => lv_ior hx hb hd (by rw [← bc_oi (_ ||| _)]; exact w))
theorem bc_s_ixor {x y : Int} (hd : decode (bc_by mi) pc = .ok (.ixor, 1)) (hn : bc_AT d mi post (pc + 1) loc (.inl (bc_xor x y) :: st) h) : bc_AT d mi post pc loc (.inl y :: .inl x :: st) h :=
  bc_go hn (fun _ _ _ _ _ _ _ _ _ _ _ _ _ _ _ _ _ hx hb _ _ w => lv_ixor hx hb hd (by rw [← bc_oi (_ ^^^ _)]; exact w))
theorem bc_s_ishl {x y : Int} (hd : decode (bc_by mi) pc = .ok (.ishl, 1)) (hn : bc_AT d mi post (pc + 1) loc (.inl (bc_shl x y) :: st) h) : bc_AT d mi post pc loc (.inl y :: .inl x :: st) h :=
  bc_go hn (fun _ _ _ _ _ _ _ _ _ _ _ _ _ _ _ _ _ hx hb _ _ w => lv_ishl hx hb hd (by rw [← bc_oi (_ <<< _)]; exact w))
theorem bc_s_ishr {x y : Int} (hd : decode (bc_by mi) pc = .ok (.ishr, 1)) (hn : bc_AT d mi post (pc + 1) loc (.inl (bc_shr x y) :: st) h) : bc_AT d mi post pc loc (.inl y :: .inl x :: st) h :=
  bc_go hn (fun _ _ _ _ _ _ _ _ _ _ _ _ _ _ _ _ _ hx hb _ _ w => lv_ishr hx hb hd (by rw [← bc_oi (_ >>> _)]; exact w))
theorem bc_s_iushr {x y : Int} (hd : decode (bc_by mi) pc = .ok (.iushr, 1)) (hn : bc_AT d mi post (pc + 1) loc (.inl (bc_ushr x y) :: st) h) : bc_AT d mi post pc loc (.inl y :: .inl x :: st) h :=
  bc_go hn (fun _ _ _ _ _ _ _ _ _ _ _ _ _ _ _ _ _ hx hb _ _ w => lv_iushr hx hb hd rfl (by rw [← bc_oi (UInt32.toInt32 _)]; exact w))
theorem bc_s_dup {v : bc_AV} (hd : decode (bc_by mi) pc = .ok (.dup, 1)) (hv : bc_cat v = 1) (hn : bc_AT d mi post (pc + 1) loc (v :: v :: st) h) : bc_AT d mi post pc loc (v :: st) h :=
  bc_go hn (fun _ _ _ _ _ _ _ _ _ _ _ _ _ _ _ _ ad hx hb _ _ w => lv_dup hx hb hd (by rw [bc_cv_cat]; exact hv) w)
theorem bc_s_dup2 {v u : bc_AV} (hd : decode (bc_by mi) pc = .ok (.dup2, 1)) (hv : bc_cat v = 1) (hu : bc_cat u = 1) (hn : bc_AT d mi post (pc + 1) loc (v :: u :: v :: u :: st) h) : bc_AT d mi post pc loc (v :: u :: st) h :=
  bc_go hn (fun _ _ _ _ _ _ _ _ _ _ _ _ _ _ _ _ ad hx hb _ _ w => lv_dup2_11 hx hb hd (by rw [bc_cv_cat]; exact hv) (by rw [bc_cv_cat]; exact hu) w)
theorem bc_s_goto {off : Int} {t : Nat} (hd : decode (bc_by mi) pc = .ok (.goto off, 3)) (ht : (pc : Int) + off = (t : Int)) (hn : bc_AT d mi post t loc st h) : bc_AT d mi post pc loc st h :=
  bc_go hn (fun _ _ _ _ _ _ _ _ _ _ _ _ _ _ _ _ _ hx hb _ _ w => lv_goto hx hb hd ht w)
theorem bc_s_ifnonnull {off : Int} {t : Nat} {x : Nat} (hd : decode (bc_by mi) pc = .ok (.ifnonnull off, 3)) (ht : (pc : Int) + off = (t : Int)) (hn : bc_AT d mi post t loc st h) : bc_AT d mi post pc loc (.inr (.inr x) :: st) h :=
  bc_go hn (fun _ _ _ _ _ _ _ _ _ _ _ _ _ _ _ _ _ hx hb _ _ w => lv_ifnonnull hx hb hd ht w)
end Steps
end
section
/-! locals, branches, fields, arrays, calls, ends, over bc_AT -/
def bc_lg (o : Option (Option bc_AV)) : Bool := match o with
  | some (some (.inr (.inl _))) => true
  | _ => false
def bc_lvo (ad : Nat → Nat) : Nat → List (Option bc_AV) → List (Nat × Value)
  | _, [] => []
  | i, none :: r => bc_lvo ad (i + 1) r
  | i, some v :: r => (i, bc_cv ad v) :: bc_lvo ad (i + 1) r
theorem bc_lvo_mem (ad : Nat → Nat) : ∀ (loc : List (Option bc_AV)) (b j : Nat) (v : bc_AV), loc[j]? = some (some v) → (b + j, bc_cv ad v) ∈ bc_lvo ad b loc := by
  intro loc
  induction loc with
  | nil => intro b j v h; simp at h
  | cons a r ih =>
    intro b j v h
    cases j with
    | zero =>
      simp at h
      subst h
      exact List.mem_cons_self
    | succ j =>
      simp at h
      have := ih (b + 1) j v h
      have e : b + (j + 1) = b + 1 + j := by omega
      rw [e]
      cases a with
      | none => exact this
      | some a => exact List.mem_cons_of_mem _ this
theorem bc_lvo_of (ad : Nat → Nat) : ∀ (loc : List (Option bc_AV)) (b : Nat) (q : Nat × Value), q ∈ bc_lvo ad b loc → ∃ (j : Nat) (v : bc_AV), q = (b + j, bc_cv ad v) ∧ loc[j]? = some (some v) := by
  intro loc
  induction loc with
  | nil => intro b q h; cases h
  | cons a r ih =>
    intro b q h
    have tail : q ∈ bc_lvo ad (b + 1) r → ∃ (j : Nat) (v : bc_AV), q = (b + j, bc_cv ad v) ∧ (a :: r)[j]? = some (some v) := by
      intro h
      obtain ⟨j, v, e, hj⟩ := ih (b + 1) q h
      exact ⟨j + 1, v, by rw [e]; congr 1; omega, by simpa using hj⟩
    cases a with
    | none => exact tail h
    | some a =>
      rcases List.mem_cons.mp h with e | h
      · exact ⟨0, a, e, rfl⟩
      · exact tail h
theorem bc_L_has {Z : bc_ZT} {ls : Array Slot} {nL : Nat} {loc : List (Option bc_AV)} (h : bc_L Z ls nL loc) : lv_has ls nL (bc_lvo Z.2.1 0 loc) := by
  refine ⟨h.1, h.2.1, fun q hq => ?_⟩
  obtain ⟨j, v, e, hj⟩ := bc_lvo_of Z.2.1 loc 0 q hq
  rw [e, Nat.zero_add]
  exact h.2.2 j v hj
theorem bc_L_set1 {Z : bc_ZT} {ls : Array Slot} {nL i : Nat} {loc : List (Option bc_AV)} {v : bc_AV} (hlg : ∀ j, j + 1 = i → bc_lg loc[j]? = false)
    (h : lv_has ls nL ((i, bc_cv Z.2.1 v) :: (bc_lvo Z.2.1 0 loc).filter (fun q => !(q.1 == i) && !(q.1 + 1 == i && q.2.category == 2)))) : bc_L Z ls nL (loc.set i (some v)) := by
  refine ⟨h.1, h.2.1, fun j u hj => ?_⟩
  rw [List.getElem?_set] at hj
  by_cases hij : i = j
  · subst hij
    simp at hj
    have e : v = u := by
      have := hj.2
      exact this
    rw [← e]
    exact h.2.2 (i, bc_cv Z.2.1 v) List.mem_cons_self
  · rw [if_neg hij] at hj
    refine h.2.2 (j, bc_cv Z.2.1 u) (List.mem_cons_of_mem _ (List.mem_filter.mpr ⟨?_, ?_⟩))
    · have := bc_lvo_mem Z.2.1 loc 0 j u hj
      rwa [Nat.zero_add] at this
    · have h1 : (j == i) = false := by simp; exact fun q => hij q.symm
      have h2 : (j + 1 == i && (bc_cv Z.2.1 u).category == 2) = false := by
        by_cases hj1 : j + 1 = i
        · have := hlg j hj1
          rw [hj] at this
          rcases u with x | x | x
          · simp [bc_cv, Value.category]
          · cases this
          · simp [bc_cv, Value.category]
        · simp [hj1]
      simp only [h1, h2]; rfl
section Steps
variable {d mi : Nat} {post : Option bc_AV → bc_AH → Prop} {pc : Nat} {loc : List (Option bc_AV)} {st : List bc_AV} {h : bc_AH}
theorem bc_s_iload {i : Nat} {x : Int} (hd : decode (bc_by mi) pc = .ok (.iload i, 2)) (hl : loc[i]? = some (some (.inl x))) (hn : bc_AT d mi post (pc + 2) loc (.inl x :: st) h) : bc_AT d mi post pc loc st h := by
  intro p l e s m args below meth c Z A H locs ls hX hA hW hP hS hL
  exact lv_iload hX.1 hX.2.1 hd (hL.2.2 i _ hl) (hn p l e s m args below meth c Z A H locs ls hX hA hW hP hS hL)
theorem bc_s_iload_n {k : Fin 4} {i : Nat} {x : Int} (hd : decode (bc_by mi) pc = .ok (.iload_n k, 1)) (hi : (k : Nat) = i) (hl : loc[i]? = some (some (.inl x))) (hn : bc_AT d mi post (pc + 1) loc (.inl x :: st) h) : bc_AT d mi post pc loc st h := by
  intro p l e s m args below meth c Z A H locs ls hX hA hW hP hS hL
  exact lv_iload_n hX.1 hX.2.1 hd hi (hL.2.2 i _ hl) (hn p l e s m args below meth c Z A H locs ls hX hA hW hP hS hL)
theorem bc_s_lload {i : Nat} {x : Int} (hd : decode (bc_by mi) pc = .ok (.lload i, 2)) (hl : loc[i]? = some (some (.inr (.inl x)))) (hn : bc_AT d mi post (pc + 2) loc (.inr (.inl x) :: st) h) : bc_AT d mi post pc loc st h := by
  intro p l e s m args below meth c Z A H locs ls hX hA hW hP hS hL
  exact lv_lload hX.1 hX.2.1 hd (hL.2.2 i _ hl) (hn p l e s m args below meth c Z A H locs ls hX hA hW hP hS hL)
theorem bc_s_aload {i : Nat} {x : Nat} (hd : decode (bc_by mi) pc = .ok (.aload i, 2)) (hl : loc[i]? = some (some (.inr (.inr x)))) (hn : bc_AT d mi post (pc + 2) loc (.inr (.inr x) :: st) h) : bc_AT d mi post pc loc st h := by
  intro p l e s m args below meth c Z A H locs ls hX hA hW hP hS hL
  exact lv_aload hX.1 hX.2.1 hd (hL.2.2 i _ hl) (hn p l e s m args below meth c Z A H locs ls hX hA hW hP hS hL)
theorem bc_s_aload_n {k : Fin 4} {i : Nat} {x : Nat} (hd : decode (bc_by mi) pc = .ok (.aload_n k, 1)) (hi : (k : Nat) = i) (hl : loc[i]? = some (some (.inr (.inr x)))) (hn : bc_AT d mi post (pc + 1) loc (.inr (.inr x) :: st) h) : bc_AT d mi post pc loc st h := by
  intro p l e s m args below meth c Z A H locs ls hX hA hW hP hS hL
  exact lv_aload_n hX.1 hX.2.1 hd hi (hL.2.2 i _ hl) (hn p l e s m args below meth c Z A H locs ls hX hA hW hP hS hL)
theorem bc_s_istore {i : Nat} {x : Int} (hd : decode (bc_by mi) pc = .ok (.istore i, 2)) (hi : i < bc_mL mi) (hlg : ∀ j, j + 1 = i → bc_lg loc[j]? = false) (hn : bc_AT d mi post (pc + 2) (loc.set i (some (.inl x))) st h) : bc_AT d mi post pc loc (.inl x :: st) h := by
  intro p l e s m args below meth c Z A H locs ls hX hA hW hP hS hL
  exact lv_istore hX.1 hX.2.1 hd (bc_L_has hL) hi rfl (fun ls' h' => hn p l e s m args below meth c Z A H locs ls' hX hA hW hP hS (bc_L_set1 hlg h'))
theorem bc_s_istore_n {k : Fin 4} {i : Nat} {x : Int} (hd : decode (bc_by mi) pc = .ok (.istore_n k, 1)) (hk : (k : Nat) = i) (hi : i < bc_mL mi) (hlg : ∀ j, j + 1 = i → bc_lg loc[j]? = false) (hn : bc_AT d mi post (pc + 1) (loc.set i (some (.inl x))) st h) : bc_AT d mi post pc loc (.inl x :: st) h := by
  intro p l e s m args below meth c Z A H locs ls hX hA hW hP hS hL
  exact lv_istore_n hX.1 hX.2.1 hd hk (bc_L_has hL) hi rfl (fun ls' h' => hn p l e s m args below meth c Z A H locs ls' hX hA hW hP hS (bc_L_set1 hlg h'))
theorem bc_s_iinc {i : Nat} {n x : Int} (hd : decode (bc_by mi) pc = .ok (.iinc i n, 3)) (hl : loc[i]? = some (some (.inl x))) (hi : i < bc_mL mi) (hlg : ∀ j, j + 1 = i → bc_lg loc[j]? = false) (hn : bc_AT d mi post (pc + 3) (loc.set i (some (.inl (x + n)))) st h) : bc_AT d mi post pc loc st h := by
  intro p l e s m args below meth c Z A H locs ls hX hA hW hP hS hL
  have hm := bc_lvo_mem Z.2.1 loc 0 i _ hl
  rw [Nat.zero_add] at hm
  obtain ⟨k, hk⟩ := List.getElem?_of_mem hm
  exact lv_iinc (k := k) hX.1 hX.2.1 hd (bc_L_has hL) hk (by rw [← Int32.ofInt_add]) hi rfl (fun ls' h' => hn p l e s m args below meth c Z A H locs ls' hX hA hW hP hS (bc_L_set1 (v := .inl (x + n)) hlg h'))
/-- a long is stored: the two places -/
theorem bc_s_lstore {i : Nat} {x : Int} (hd : decode (bc_by mi) pc = .ok (.lstore i, 2)) (hi : i + 1 < bc_mL mi) (hlg : ∀ j, j + 1 = i → bc_lg loc[j]? = false) (hn : bc_AT d mi post (pc + 2) ((loc.set (i + 1) none).set i (some (.inr (.inl x)))) st h) : bc_AT d mi post pc loc (.inr (.inl x) :: st) h := by
  intro p l e s m args below meth c Z A H locs ls hX hA hW hP hS hL
  refine lv_lstore hX.1 hX.2.1 hd (bc_L_has hL) hi rfl (fun ls' h' => hn p l e s m args below meth c Z A H locs ls' hX hA hW hP hS ⟨h'.1, h'.2.1, fun j u hj => ?_⟩)
  rw [List.getElem?_set] at hj
  by_cases hij : i = j
  · subst hij
    simp at hj
    rw [← hj.2]
    exact h'.2.2 (i, Value.long (Int64.ofInt x)) List.mem_cons_self
  · rw [if_neg hij, List.getElem?_set] at hj
    by_cases hij2 : i + 1 = j
    · subst hij2
      simp at hj
    · rw [if_neg hij2] at hj
      refine h'.2.2 (j, bc_cv Z.2.1 u) (List.mem_cons_of_mem _ (List.mem_filter.mpr ⟨?_, ?_⟩))
      · have := bc_lvo_mem Z.2.1 loc 0 j u hj
        rwa [Nat.zero_add] at this
      · have h1 : (j == i) = false := by simp; exact fun q => hij q.symm
        have h3 : (j == i + 1) = false := by simp; exact fun q => hij2 q.symm
        have h2 : (j + 1 == i && (bc_cv Z.2.1 u).category == 2) = false := by
          by_cases hj1 : j + 1 = i
          · have := hlg j hj1
            rw [hj] at this
            rcases u with x | x | x
            · simp [bc_cv, Value.category]
            · cases this
            · simp [bc_cv, Value.category]
          · simp [hj1]
        simp only [h1, h2, h3]; rfl
-- branches
def bc_cc (k : Jvm.ClassFile.Cond) (x y : Int) : Prop := match k with
  | .eq => x = y
  | .ne => ¬ x = y
  | .lt => x < y
  | .ge => y ≤ x
  | .gt => y < x
  | .le => x ≤ y
theorem bc_s_icmp {k : Jvm.ClassFile.Cond} {off : Int} {t : Nat} {x y : Int} (hd : decode (bc_by mi) pc = .ok (.if_icmp k off, 3)) (ht : (pc : Int) + off = (t : Int)) (hx : bc_vr x) (hy : bc_vr y) (h1 : bc_cc k x y → bc_AT d mi post t loc st h) (h2 : ¬ bc_cc k x y → bc_AT d mi post (pc + 3) loc st h) : bc_AT d mi post pc loc (.inl y :: .inl x :: st) h := by
  intro p l e s m args below meth c Z A H locs ls hX hA hW hP hS hL
  have k1 := fun q => h1 q p l e s m args below meth c Z A H locs ls hX hA hW hP hS hL
  have k2 := fun q => h2 q p l e s m args below meth c Z A H locs ls hX hA hW hP hS hL
  have e1 := bc_eq hx hy
  have e2 := bc_lt hx hy
  have e3 := bc_lt hy hx
  have e4 := bc_le hx hy
  have e5 := bc_le hy hx
  cases k with
  | eq => exact lv_icmp_eq hX.1 hX.2.1 hd ht (fun q => k1 (e1.mp q)) (fun q => k2 (fun z => q (e1.mpr z)))
  | ne => exact lv_icmp_ne hX.1 hX.2.1 hd ht (fun q => k1 (fun z => q (e1.mpr z))) (fun q => k2 (fun z => z (e1.mp q)))
  | lt => exact lv_icmp_lt hX.1 hX.2.1 hd ht (fun q => k1 (e2.mp q)) (fun q => k2 (fun z => q (e2.mpr z)))
  | ge => exact lv_icmp_ge hX.1 hX.2.1 hd ht (fun q => k1 (e5.mp q)) (fun q => k2 (fun z => q (e5.mpr z)))
  | gt => exact lv_icmp_gt hX.1 hX.2.1 hd ht (fun q => k1 (e3.mp q)) (fun q => k2 (fun z => q (e3.mpr z)))
  | le => exact lv_icmp_le hX.1 hX.2.1 hd ht (fun q => k1 (e4.mp q)) (fun q => k2 (fun z => q (e4.mpr z)))
theorem bc_s_if {k : Jvm.ClassFile.Cond} {off : Int} {t : Nat} {x : Int} (hd : decode (bc_by mi) pc = .ok (.ifCond k off, 3)) (ht : (pc : Int) + off = (t : Int)) (hx : bc_vr x) (h1 : bc_cc k x 0 → bc_AT d mi post t loc st h) (h2 : ¬ bc_cc k x 0 → bc_AT d mi post (pc + 3) loc st h) : bc_AT d mi post pc loc (.inl x :: st) h := by
  intro p l e s m args below meth c Z A H locs ls hX hA hW hP hS hL
  have k1 := fun q => h1 q p l e s m args below meth c Z A H locs ls hX hA hW hP hS hL
  have k2 := fun q => h2 q p l e s m args below meth c Z A H locs ls hX hA hW hP hS hL
  have hy : bc_vr 0 := ⟨by omega, by omega⟩
  have e1 := bc_eq hx hy
  have e2 := bc_lt hx hy
  have e3 := bc_lt hy hx
  have e4 := bc_le hx hy
  have e5 := bc_le hy hx
  cases k with
  | eq => exact lv_if_eq hX.1 hX.2.1 hd ht (fun q => k1 (e1.mp q)) (fun q => k2 (fun z => q (e1.mpr z)))
  | ne => exact lv_if_ne hX.1 hX.2.1 hd ht (fun q => k1 (fun z => q (e1.mpr z))) (fun q => k2 (fun z => z (e1.mp q)))
  | lt => exact lv_if_lt hX.1 hX.2.1 hd ht (fun q => k1 (e2.mp q)) (fun q => k2 (fun z => q (e2.mpr z)))
  | ge => exact lv_if_ge hX.1 hX.2.1 hd ht (fun q => k1 (e5.mp q)) (fun q => k2 (fun z => q (e5.mpr z)))
  | gt => exact lv_if_gt hX.1 hX.2.1 hd ht (fun q => k1 (e3.mp q)) (fun q => k2 (fun z => q (e3.mpr z)))
  | le => exact lv_if_le hX.1 hX.2.1 hd ht (fun q => k1 (e4.mp q)) (fun q => k2 (fun z => q (e4.mpr z)))
/-- the cases of a switch, from lo on: each its target -/
def bc_sw (J : Nat → Prop) (x : Int) : Int → List Nat → Prop
  | _, [] => True
  | lo, t :: ts => (x = lo → J t) ∧ bc_sw J x (lo + 1) ts
theorem bc_sw_at {J : Nat → Prop} {x : Int} : ∀ (ts : List Nat) (lo : Int) (k : Nat) (t : Nat), bc_sw J x lo ts → ts[k]? = some t → x = lo + k → J t := by
  intro ts
  induction ts with
  | nil => intro lo k t _ h; simp at h
  | cons a ts ih =>
    intro lo k t hs hk hx
    cases k with
    | zero => simp at hk; subst hk; exact hs.1 (by omega)
    | succ k => simp at hk; exact ih (lo + 1) k t hs.2 hk (by omega)
def bc_swok (pc : Nat) : List Int → List Nat → Bool
  | [], [] => true
  | o :: os, t :: ts => decide ((pc : Int) + o = (t : Int)) && bc_swok pc os ts
  | _, _ => false
theorem bc_swok_at {pc : Nat} : ∀ (os : List Int) (ts : List Nat), bc_swok pc os ts = true → ∀ (k t : Nat), ts[k]? = some t → ∃ o, os[k]? = some o ∧ (pc : Int) + o = (t : Int) := by
  intro os
  induction os with
  | nil => intro ts h k t hk; cases ts with
    | nil => simp at hk
    | cons _ _ => cases h
  | cons o os ih =>
    intro ts h k t hk
    cases ts with
    | nil => cases h
    | cons t0 ts =>
      simp only [bc_swok, Bool.and_eq_true, decide_eq_true_eq] at h
      cases k with
      | zero => simp at hk; subst hk; exact ⟨o, rfl, h.1⟩
      | succ k => simp at hk; obtain ⟨o', a, b⟩ := ih ts h.2 k t hk; exact ⟨o', by simpa using a, b⟩
theorem bc_s_switch {df lo hi : Int} {offs : Array Int} {len : Nat} {x : Int} {td : Nat} {ts : List Nat} (hd : decode (bc_by mi) pc = .ok (.tableswitch df lo hi offs, len)) (hx : bc_vr x) (hdf : (pc : Int) + df = (td : Int)) (hok : bc_swok pc offs.toList ts = true) (hlen : hi - lo + 1 = (ts.length : Int))
    (hs : bc_sw (fun t => bc_AT d mi post t loc st h) x lo ts) (ho : (x < lo ∨ hi < x) → bc_AT d mi post td loc st h) : bc_AT d mi post pc loc (.inl x :: st) h := by
  intro p l e s m args below meth c Z A H locs ls hX hA hW hP hS hL
  by_cases hin : x < lo ∨ hi < x
  · exact lv_tableOut hX.1 hX.2.1 hd (by rw [bc_ti hx]; exact hin) hdf (ho hin p l e s m args below meth c Z A H locs ls hX hA hW hP hS hL)
  · have h1 : ¬ x < lo := fun q => hin (Or.inl q)
    have h2 : ¬ hi < x := fun q => hin (Or.inr q)
    have hk : (x - lo).toNat < ts.length := by omega
    obtain ⟨o, a, b⟩ := bc_swok_at offs.toList ts hok (x - lo).toNat _ (List.getElem?_eq_getElem hk)
    have hat := bc_sw_at ts lo (x - lo).toNat _ hs (List.getElem?_eq_getElem hk) (by omega)
    exact lv_tableIn hX.1 hX.2.1 hd (by rw [bc_ti hx]; exact h1) (by rw [bc_ti hx]; exact h2) (off := o) (by rw [bc_ti hx]; simpa using a) b (hat p l e s m args below meth c Z A H locs ls hX hA hW hP hS hL)
end Steps
end
section
/-! fields, arrays, calls, ends, over bc_AT -/
theorem bc_cl_in : ∀ (ci : Nat) (q : vw_C), vwCl[ci]? = some q → ∀ w ∈ u_ws q.1 q.2.1 q.2.2, w ∈ bc_GW := by
  have h : ∀ q ∈ vwCl, (u_ws q.1 q.2.1 q.2.2).all (fun w => decide (w ∈ lw_tbl) && goodWord w) = true := by
    refine List.forall_mem_cons.mpr ⟨by decide +kernel, List.forall_mem_cons.mpr ⟨by decide +kernel, List.forall_mem_cons.mpr ⟨by decide +kernel, List.forall_mem_cons.mpr ⟨by decide +kernel, List.forall_mem_cons.mpr ⟨by decide +kernel, List.forall_mem_cons.mpr ⟨by decide +kernel, List.forall_mem_cons.mpr ⟨by decide +kernel, List.forall_mem_cons.mpr ⟨by decide +kernel, fun _ h => by cases h⟩⟩⟩⟩⟩⟩⟩⟩
  intro ci q hq w hw
  have h1 := List.all_eq_true.mp (h q (List.mem_of_getElem? hq)) w hw
  simp only [Bool.and_eq_true, decide_eq_true_eq] at h1
  exact List.mem_filter.mpr h1
theorem bc_cl_ty : ∀ (ci : Nat) (q : vw_C), vwCl[ci]? = some q → (∃ ty0 : Nat → FieldType, ∀ k, k < q.2.2 → parseFieldDescriptor (q.2.1 k).2.2.1 = some (ty0 k)) ∧ ∀ a, a < q.2.2 → ∀ b, b < q.2.2 → a ≠ b → (q.2.1 a).2.1 ≠ (q.2.1 b).2.1 := by
  have h : ∀ q ∈ vwCl, (∃ ty0 : Nat → FieldType, ∀ k, k < q.2.2 → parseFieldDescriptor (q.2.1 k).2.2.1 = some (ty0 k)) ∧ ∀ a, a < q.2.2 → ∀ b, b < q.2.2 → a ≠ b → (q.2.1 a).2.1 ≠ (q.2.1 b).2.1 := by
    refine List.forall_mem_cons.mpr ⟨⟨⟨tyX0, tyX0_ok⟩, nmX0⟩, List.forall_mem_cons.mpr ⟨⟨⟨tyX1, tyX1_ok⟩, nmX1⟩, List.forall_mem_cons.mpr ⟨⟨⟨tyX2, tyX2_ok⟩, nmX2⟩, List.forall_mem_cons.mpr ⟨⟨⟨tyX3, tyX3_ok⟩, nmX3⟩, List.forall_mem_cons.mpr ⟨⟨⟨tyX4, tyX4_ok⟩, nmX4⟩, List.forall_mem_cons.mpr ⟨⟨⟨tyX5, tyX5_ok⟩, nmX5⟩, List.forall_mem_cons.mpr ⟨⟨⟨tyX6, tyX6_ok⟩, nmX6⟩, List.forall_mem_cons.mpr ⟨⟨⟨tyX7, tyX7_ok⟩, nmX7⟩, fun _ h => by cases h⟩⟩⟩⟩⟩⟩⟩⟩
  exact fun ci q hq => h q (List.mem_of_getElem? hq)
/-- the class of an object: its fields are as many as the layout tells -/
theorem bc_lay_cl : ∀ k, k < bc_NC → (bc_lay k).1 = 0 → ∃ q, vwCl[(bc_lay k).2.1]? = some q ∧ q.2.2 = (bc_lay k).2.2.length := by
  have h : ∀ k, k < bc_NC → (bc_lay k).1 = 0 → (vwCl[(bc_lay k).2.1]?).map (fun q => q.2.2) = some (bc_lay k).2.2.length := by decide +kernel
  intro k hk h0
  have h1 := h k hk h0
  cases hq : vwCl[(bc_lay k).2.1]? with
  | none => rw [hq] at h1; cases h1
  | some q => rw [hq] at h1; exact ⟨q, rfl, Option.some.inj h1⟩
/-- the word of a field's link: of its own class or of a nest mate -/
def bc_fw (own : String) (idx ci k pos nest : Nat) : Bool := match vwCl[ci]? with
  | some q => if nest = 0 then bc_inG pos (.fieldLink own idx (q.2.1 k).1 (q.2.1 k).2.1 (q.2.1 k).2.2.1) else bc_inN pos (.fieldLinkNest own idx (q.2.1 k).1 (q.2.1 k).2.1 (q.2.1 k).2.2.1 "BlockCross")
  | none => false
section Steps
variable {d mi : Nat} {post : Option bc_AV → bc_AH → Prop} {pc : Nat} {loc : List (Option bc_AV)} {st : List bc_AV} {h : bc_AH}
theorem bc_s_get {idx ci k pos nest r : Nat} {fs : List (Nat × Nat)} {v : bc_AV} (hd : decode (bc_by mi) pc = .ok (.getfield idx, 3)) (hw : bc_fw (bc_y mi).cls idx ci k pos nest = true) (hl : bc_lay r = (0, ci, fs)) (hk : k < fs.length)
    (hv : ∀ ad, bc_fv ad (h r k) (fs.getD k (9, 0)) = bc_cv ad v) (hn : bc_AT d mi post (pc + 3) loc (v :: st) h) : bc_AT d mi post pc loc (.inr (.inr r) :: st) h := by
  intro p l e s m args below meth c Z A H locs ls hX hA hW hP hS hL
  have hN := hn p l e s m args below meth c Z A H locs ls hX hA hW hP hS hL
  obtain ⟨hx, hb, hml, hr, hts, hown, hlk⟩ := hX
  have hr := bc_lay_lt hl (by decide)
  obtain ⟨q, hq, hqn⟩ := bc_lay_cl r hr (by rw [hl])
  rw [hl] at hq hqn
  have hge := bc_WS_get Z h hr
  rw [bc_E_0 Z h hl] at hge
  have hfg : (bc_fs Z.2.1 (h r) fs)[k]? = some (bc_cv Z.2.1 v) := by rw [bc_fs_get _ _ hk, hv]
  unfold bc_fw at hw
  simp only [hq] at hw
  obtain ⟨C, T, N⟩ := q
  dsimp only at hw hqn
  have hkN : k < N := by rw [hqn]; exact hk
  by_cases hne : nest = 0
  · rw [if_pos hne] at hw
    exact va_get (C := C) (T := T) (N := N) hx hb hts (fun w h' => List.mem_cons_of_mem _ (bc_cl_in ci _ hq w h')) hown hW.1 hP r hge hq k hkN (hts _ (List.mem_cons_of_mem _ (bc_inG_mem hw))) (fun _ h9 => h9) hfg hd hN
  · rw [if_neg hne] at hw
    exact va_getN (C := C) (T := T) (N := N) hx hb hts (fun w h' => List.mem_cons_of_mem _ (bc_cl_in ci _ hq w h')) hown hW.1 hP r hge hq k hkN (va_Nw.use rfl (hW.2.1 _ (bc_inN_mem hw))) (fun _ h9 => h9) hfg hd hN
/-- an int, or a long, is put: the field's descriptor, not final -/
def bc_fp (ci k : Nat) (ty : FieldType) : Bool := match vwCl[ci]? with
  | some q => decide (parseFieldDescriptor (q.2.1 k).2.2.1 = some ty) && !(q.2.1 k).2.2.2
  | none => false
theorem bc_s_put {idx ci k pos nest r : Nat} {fs : List (Nat × Nat)} {v : bc_AV} {x : Int} {ty : FieldType} (hd : decode (bc_by mi) pc = .ok (.putfield idx, 3)) (hw : bc_fw (bc_y mi).cls idx ci k pos nest = true) (hf : bc_fp ci k ty = true) (hl : bc_lay r = (0, ci, fs)) (hk : k < fs.length)
    (hv : ∀ ad, bc_fv ad x (fs.getD k (9, 0)) = bc_cv ad v) (hnar : ∀ ad, narrow ty (bc_cv ad v) = bc_cv ad v) (hfit : ∀ ad, fits ty (bc_cv ad v) = true) (hn : bc_AT d mi post (pc + 3) loc st (bc_up h r k x)) : bc_AT d mi post pc loc (v :: .inr (.inr r) :: st) h := by
  intro p l e s m args below meth c Z A H locs ls hX hA hW hP hS hL
  have hN := fun H1 locs1 hP1 hS1 => hn p l e s m args below meth c Z A H1 locs1 ls hX hA hW hP1 hS1 hL
  obtain ⟨hx, hb, hml, hr, hts, hown, hlk⟩ := hX
  have hr := bc_lay_lt hl (by decide)
  obtain ⟨q, hq, hqn⟩ := bc_lay_cl r hr (by rw [hl])
  rw [hl] at hq hqn
  have hge := bc_WS_get Z h hr
  rw [bc_E_0 Z h hl] at hge
  obtain ⟨⟨ty0, hty⟩, hnm⟩ := bc_cl_ty ci q hq
  unfold bc_fw at hw
  unfold bc_fp at hf
  dsimp only at hq
  simp only [hq, Bool.and_eq_true, decide_eq_true_eq] at hw hf
  obtain ⟨C, T, N⟩ := q
  dsimp only at hw hf hqn hty hnm
  have hkN : k < N := by rw [hqn]; exact hk
  have hset : (bc_WS Z h).set r (Z.2.1 r, .inr (ci, (bc_fs Z.2.1 (h r) fs).set k (bc_cv Z.2.1 v))) = bc_WS Z (bc_up h r k x) := by
    refine bc_WS_set Z h _ r ?_ (fun j hj => bc_E_up_ne Z h k x hj)
    rw [bc_E_0 Z _ hl, bc_fs_set Z.2.1 (h r) x (hv Z.2.1)]
    have e : bc_up h r k x r = fun j => if j = k then x else h r j := by funext b; simp [bc_up]
    rw [e]
  have hin : ∀ w ∈ u_ws C T N, w ∈ bc_ws mi := fun w h' => List.mem_cons_of_mem _ (bc_cl_in ci _ hq w h')
  have hfin : (T k).2.2.2 = false := by
    have := hf.2
    simpa using this
  have hlen : k < (bc_fs Z.2.1 (h r) fs).length := by rw [bc_fs_len]; exact hk
  by_cases hne : nest = 0
  · rw [if_pos hne] at hw
    exact va_put (C := C) (T := T) (N := N) hx hb hts hin ty0 hty hnm hown hW.1 hP (bc_WK_D hW h) hS r hge hq k hkN (hts _ (List.mem_cons_of_mem _ (bc_inG_mem hw))) (fun _ h9 => h9) hfin hf.1 (hnar Z.2.1) (hfit Z.2.1) hlen hd (fun H1 locs1 hP1 _ hS1 => hN H1 locs1 (by rw [← hset]; exact hP1) hS1)
  · rw [if_neg hne] at hw
    exact va_putN (C := C) (T := T) (N := N) hx hb hts hin ty0 hty hnm hown hW.1 hP (bc_WK_D hW h) hS r hge hq k hkN (va_Nw.use rfl (hW.2.1 _ (bc_inN_mem hw))) (fun _ h9 => h9) hfin hf.1 (hnar Z.2.1) (hfit Z.2.1) hlen hd (fun H1 locs1 hP1 _ hS1 => hN H1 locs1 (by rw [← hset]; exact hP1) hS1)
theorem bc_s_iald {r n : Nat} {fs : List (Nat × Nat)} {i : Int} (hd : decode (bc_by mi) pc = .ok (.iaload, 1)) (hl : bc_lay r = (1, n, fs)) (h0 : 0 ≤ i) (h1 : i < n) (hn : bc_AT d mi post (pc + 1) loc (.inl (h r i.toNat) :: st) h) : bc_AT d mi post pc loc (.inl i :: .inr (.inr r) :: st) h := by
  intro p l e s m args below meth c Z A H locs ls hX hA hW hP hS hL
  have hN := hn p l e s m args below meth c Z A H locs ls hX hA hW hP hS hL
  have hr := bc_lay_lt hl (by decide)
  have hn2 : n < 2000 := by have := bc_lay_n hr; rw [hl] at this; exact this
  have hge := bc_WS_get Z h hr
  rw [bc_E_1 Z h hl] at hge
  refine va_iald hX.1 hX.2.1 hW.1 hP r 0 hge rfl (bc_in h0 h1 hn2) hd ?_
  rw [bc_cl h0 (by omega)]
  exact hN
theorem bc_s_iast {r n : Nat} {fs : List (Nat × Nat)} {i x : Int} (hd : decode (bc_by mi) pc = .ok (.iastore, 1)) (hl : bc_lay r = (1, n, fs)) (h0 : 0 ≤ i) (h1 : i < n) (hn : bc_AT d mi post (pc + 1) loc st (bc_up h r i.toNat x)) : bc_AT d mi post pc loc (.inl x :: .inl i :: .inr (.inr r) :: st) h := by
  intro p l e s m args below meth c Z A H locs ls hX hA hW hP hS hL
  have hN := fun H1 locs1 hP1 hS1 => hn p l e s m args below meth c Z A H1 locs1 ls hX hA hW hP1 hS1 hL
  have hr := bc_lay_lt hl (by decide)
  have hn2 : n < 2000 := by have := bc_lay_n hr; rw [hl] at this; exact this
  have hge := bc_WS_get Z h hr
  rw [bc_E_1 Z h hl] at hge
  have hset : (bc_WS Z h).set r (Z.2.1 r, .inl (Z.2.2.1, n, .inl (upd (fun j => Int32.ofInt (h r j)) (Int32.ofInt i).toNatClampNeg (Int32.ofInt x)))) = bc_WS Z (bc_up h r i.toNat x) := by
    refine bc_WS_set Z h _ r ?_ (fun j hj => bc_E_up_ne Z h _ x hj)
    rw [bc_E_1 Z _ hl, bc_cl h0 (by omega)]
    have e : (fun j => Int32.ofInt (bc_up h r i.toNat x r j)) = upd (fun j => Int32.ofInt (h r j)) i.toNat (Int32.ofInt x) := by
      funext b
      unfold upd bc_up
      by_cases hb : b = i.toNat <;> simp [hb]
    rw [e]
  exact va_iast hX.1 hX.2.1 hW.1 hP (bc_WK_D hW h) hS r 0 hge rfl (bc_in h0 h1 hn2) hd (fun H1 locs1 hP1 _ hS1 => hN H1 locs1 (by rw [← hset]; exact hP1) hS1)
theorem bc_s_alen {r n : Nat} {fs : List (Nat × Nat)} (hd : decode (bc_by mi) pc = .ok (.arraylength, 1)) (hl : bc_lay r = (1, n, fs)) (hn : bc_AT d mi post (pc + 1) loc (.inl (n : Int) :: st) h) : bc_AT d mi post pc loc (.inr (.inr r) :: st) h := by
  intro p l e s m args below meth c Z A H locs ls hX hA hW hP hS hL
  have hN := hn p l e s m args below meth c Z A H locs ls hX hA hW hP hS hL
  have hr := bc_lay_lt hl (by decide)
  have hge := bc_WS_get Z h hr
  rw [bc_E_1 Z h hl] at hge
  exact va_alen hX.1 hX.2.1 hW.1 hP r 0 hge rfl rfl hd hN
theorem bc_s_aald {r n : Nat} {fs : List (Nat × Nat)} {i : Int} (hd : decode (bc_by mi) pc = .ok (.aaload, 1)) (hl : bc_lay r = (3, n, fs)) (h0 : 0 ≤ i) (h1 : i < n) (hn : bc_AT d mi post (pc + 1) loc (.inr (.inr (fs.getD i.toNat (0, 0)).2) :: st) h) : bc_AT d mi post pc loc (.inl i :: .inr (.inr r) :: st) h := by
  intro p l e s m args below meth c Z A H locs ls hX hA hW hP hS hL
  have hN := hn p l e s m args below meth c Z A H locs ls hX hA hW hP hS hL
  have hr := bc_lay_lt hl (by decide)
  have hn2 : n < 2000 := by have := bc_lay_n hr; rw [hl] at this; exact this
  have hge := bc_WS_get Z h hr
  rw [bc_E_3 Z h hl] at hge
  refine va_aldq hX.1 hX.2.1 hW.1 hP r 2 hge rfl (bc_in h0 h1 hn2) hd ?_
  rw [bc_cl h0 (by omega)]
  exact hN
theorem bc_s_ireturn {x : Int} (hd : decode (bc_by mi) pc = .ok (.ireturn, 1)) (hr : bc_rt mi = some .int ∨ (bc_rt mi = some .boolean ∧ (x = 0 ∨ x = 1))) (hp : post (some (.inl x)) h) : bc_AT d mi post pc loc [.inl x] h := by
  intro p l e s m args below meth c Z A H locs ls hX hA hW hP hS hL
  obtain ⟨hx, hb, hml, hret, hts, hown, hlk⟩ := hX
  have hq : ∀ t : State, t.heap = H → s.WarmedH t.vm → bc_Q Z post A args s (.returned (some (.int (Int32.ofInt x)))) t := fun t ht _ => ⟨⟨some (.inl x), h, rfl, hp, by rw [ht]; exact hP⟩, hS.F ht⟩
  rcases hr with hr | ⟨hr, hx01⟩
  · exact W.iret hx hb (by rw [hret, hr]) hq hS.2.2 hd hlk
  · exact W.zret hx hb (ty := .boolean) (by rw [hret, hr]) (by rcases hx01 with q | q <;> subst q <;> decide +kernel) hq hS.2.2 hd hlk
theorem bc_s_return (hd : decode (bc_by mi) pc = .ok (.return_, 1)) (hr : bc_rt mi = none) (hp : post none h) : bc_AT d mi post pc loc [] h := by
  intro p l e s m args below meth c Z A H locs ls hX hA hW hP hS hL
  obtain ⟨hx, hb, hml, hret, hts, hown, hlk⟩ := hX
  exact W.vret hx hb (by rw [hret, hr]) (fun t ht _ => ⟨⟨none, h, rfl, hp, by rw [ht]; exact hP⟩, hS.F ht⟩) hS.2.2 hd hlk
theorem bc_s_ldcS {idx i : Nat} (hd : decode (bc_by mi) pc = .ok (.ldc idx, 2)) (hi : i < 3) (hy : (bc_y mi).cls = "BlockCross$Reader") (hx : (bc_lit i).1 = idx) (hn : bc_AT d mi post (pc + 2) loc (.inr (.inr (1000 + i)) :: st) h) : bc_AT d mi post pc loc st h := by
  intro p l e s m args below meth c Z A H locs ls hX hA hW hP hS hL
  have hN := hn p l e s m args below meth c Z A H locs ls hX hA hW hP hS hL
  have hZ := hW.2.2.2.2.1 i hi
  rw [hx] at hZ
  exact va_ldcS hX.1 hX.2.1 (by rw [← hy]; exact hX.2.2.2.2.2.1) hZ hd hN
end Steps
end
section
/-! calls: the callee by its contract bc_OK -/
/-- a method's own words are there -/
def bc_mok (mi : Nat) : Bool :=
  (if (bc_MT mi).2.1 = 0 then bc_inG (bc_MP mi).2.1 (.static (bc_y mi)) else (bc_inG (bc_MP mi).2.1 (.instanceMethod (bc_y mi)) && bc_inG (bc_MP mi).2.2.1 (.selects (bc_y mi).cls (bc_y mi) (bc_y mi)))) &&
  bc_inG (bc_MP mi).2.2.2 (.initialized (bc_y mi).cls) && decide ((bc_y mi).cls ≠ "java/lang/invoke/MethodHandle") && decide ((bc_y mi).cls ≠ "java/lang/invoke/VarHandle") && plainName (bc_y mi).cls && decide ((parseMethodDescriptor (bc_y mi).desc).map (fun d => d.parameters.length) = some (bc_MT mi).2.2) && decide (bc_mL mi ≤ 40)
theorem bc_mok0 : ∀ mi ∈ bc_gl0, bc_mok mi = true := by decide +kernel
theorem bc_mok1 : ∀ mi ∈ bc_gl1, bc_mok mi = true := by decide +kernel
theorem bc_mok2 : ∀ mi ∈ bc_gl2, bc_mok mi = true := by decide +kernel
theorem bc_mok3 : ∀ mi ∈ bc_gl3, bc_mok mi = true := by decide +kernel
theorem bc_mok4 : ∀ mi ∈ bc_gl4, bc_mok mi = true := by decide +kernel
theorem bc_mok5 : ∀ mi ∈ bc_gl5, bc_mok mi = true := by decide +kernel
theorem bc_mok_all (mi : Nat) (h : bc_good mi = true) : bc_mok mi = true := by
  have hm : mi ∈ bc_gl := by simpa [bc_good] using h
  have ha : ∀ mi ∈ bc_gl, bc_mok mi = true := List.forall_mem_append.mpr ⟨bc_mok0, List.forall_mem_append.mpr ⟨bc_mok1, List.forall_mem_append.mpr ⟨bc_mok2, List.forall_mem_append.mpr ⟨bc_mok3, List.forall_mem_append.mpr ⟨bc_mok4, bc_mok5⟩⟩⟩⟩⟩
  exact ha mi hm
theorem bc_mcode (mi : Nat) (h : bc_good mi = true) : Cond.code (bc_y mi) (bc_by mi) (bc_mL mi) (bc_rt mi) ∈ bc_GW := by
  have hm : mi ∈ bc_gl := by simpa [bc_good] using h
  exact List.mem_filter.mpr ⟨List.mem_of_getElem? (bc_mc mi hm), rfl⟩
theorem bc_ws_good (mi mj : Nat) (hj : Cond.code (bc_y mj) (bc_by mj) (bc_mL mj) (bc_rt mj) ∈ bc_GW) : GoodIn (bc_ws mi) (bc_ws mj) := by
  intro w hw
  have hm : w ∈ bc_GW := by
    rcases List.mem_cons.mp hw with e | h
    · rw [e]; exact hj
    · exact h
  exact ⟨List.mem_cons_of_mem _ hm, bc_GW_good hm⟩
theorem bc_GW_in {mi : Nat} {ws : List Cond} (h : ∀ w ∈ ws, w ∈ bc_GW) : GoodIn (bc_ws mi) ws := fun w hw => ⟨List.mem_cons_of_mem _ (h w hw), bc_GW_good (h w hw)⟩
/-- the link of a call: own class (0) or a nest mate (else) -/
def bc_cw (own : String) (idx mj pos nest : Nat) : Bool := if nest = 0 then bc_inG pos (.methodLink own idx (bc_y mj)) else bc_inN pos (.methodLinkNest own idx (bc_y mj) "BlockCross")
section Calls
variable {p : Program} {l : Launch} {e : Env} {R : Room} {s : State} {m : MethodId} {args : Array Value} {below : List Frame} {meth : Method} {c : Code} {H : Heap} {locs : List Loc} {Q : State → Prop}
theorem bc_callQ {pc : Nat} {ls : Array Slot} {rest st0 : List Value} {a : Array Value} {A0 A1 : Nat → Prop} {H0 : Heap} {free : Addr → Prop} {Z : bc_ZT} {post : Option bc_AV → bc_AH → Prop} {cells slots mc ms : Nat} (hr : va_Run p l e R s m args below meth c H locs cells slots mc ms (F0 m pc ls st0) rest (bc_Q Z post A1 a) free) (hS : va_S A0 H0 H locs) (hA : ∀ q, q < H.size → A1 q → A0 q) (hf : ∀ q, free q → A0 q)
    (kk : ∀ (r : Option bc_AV) (h' : bc_AH) (H1 : Heap) (locs1 : List Loc), post r h' → va_P Z.1 vwCl (bc_WS Z h') H1 → va_S A0 H0 H1 locs1 → W p l e R s m args below meth c H1 locs1 (cells + mc) (slots + ms) Q (F0 m (pc + 3) ls ((r.map (bc_cv Z.2.1)).toList ++ rest))) : W p l e R s m args below meth c H locs cells slots Q (F0 m pc ls st0) := by
  intro T hT X
  obtain ⟨v, st₀, t, T', L, h0, X', hL, e1, e2, ⟨⟨r, h', hv, hp, hb⟩, hz, hk⟩, st⟩ := hr T hT X
  cases hv
  rw [h0] at hz hk
  obtain ⟨t2, a1, b1⟩ := kk r h' T'.heap (locs ++ L) hp (by rw [e1]; exact hb)
    ⟨Nat.le_trans hS.1 (by rw [e1]; exact hz), fun q h1 h2 => by rw [e1, hk q (Nat.lt_of_lt_of_le h1 hS.1) (fun z => h2 (hA q (Nat.lt_of_lt_of_le h1 hS.1) z))]; exact hS.2.1 q h1 h2, fun q hq => by
      rcases List.mem_append.mp hq with h | h
      · exact hS.2.2 q h
      · exact hf _ (hL q h)⟩ T' rfl X'
  exact ⟨t2, st t2 a1, b1⟩
theorem bc_blind (Z : bc_ZT) (sz : Nat) (as : List bc_AV) (h : bc_AH) : FrameBlind (bc_Pre Z sz as h) := by
  intro a U g mk q
  obtain ⟨q0, q1, q2, q3⟩ := q
  exact ⟨q0, q1, bc_WK_same (U := U.calling g mk a) (s := U) rfl q2, q3⟩
theorem bc_pre {Z : bc_ZT} {A : Nat → Prop} {as : List bc_AV} {h : bc_AH} (hA : ∀ q, s.heap.size ≤ q → A q) (hW : bc_WK Z A s s.heap) (hP : va_P Z.1 vwCl (bc_WS Z h) H) (hS : va_S A s.heap H locs) : ∀ U : State, U.heap = H → s.WarmedH U.vm → bc_Pre Z H.size as h (as.map (bc_cv Z.2.1)).toArray U := by
  intro U hU hWm
  refine ⟨rfl, by rw [hU], ?_, by rw [hU]; exact hP⟩
  rw [hU]
  refine bc_WK_warm hWm (bc_WK_kept hW (fun a h1 h2 => hS.2.1 a h1 h2) (fun q hq => ?_) (fun k hk => Or.inl ⟨k, hk, rfl⟩))
  rcases hq with ⟨k, hk, rfl⟩ | hq
  · exact hW.2.2.2.1 k hk
  · exact hA q (Nat.le_trans hS.1 hq)
end Calls
def bc_pop : Nat → List bc_AV → List bc_AV → Option (List bc_AV × List bc_AV)
  | 0, acc, st => some (acc, st)
  | _ + 1, _, [] => none
  | n + 1, acc, v :: st => bc_pop n (v :: acc) st
theorem bc_pop_spec : ∀ (n : Nat) (acc st as st' : List bc_AV), bc_pop n acc st = some (as, st') → ∃ bs, st = bs.reverse ++ st' ∧ as = bs ++ acc ∧ bs.length = n := by
  intro n
  induction n with
  | zero => intro acc st as st' h; cases h; exact ⟨[], rfl, rfl, rfl⟩
  | succ n ih =>
    intro acc st as st' h
    cases st with
    | nil => cases h
    | cons v st =>
      obtain ⟨bs, h1, h2, h3⟩ := ih (v :: acc) st as st' h
      exact ⟨bs ++ [v], by rw [h1]; simp, by rw [h2]; simp, by simp [h3]⟩
section Steps
variable {d mi : Nat} {post : Option bc_AV → bc_AH → Prop} {pc : Nat} {loc : List (Option bc_AV)} {st : List bc_AV} {h : bc_AH}
theorem bc_catsum (ad : Nat → Nat) (st : List bc_AV) : ((st.map (bc_cv ad)).map fun v => v.category).sum = (st.map bc_cat).sum := by
  rw [List.map_map]
  congr 1
  apply List.map_congr_left
  intro v _
  exact bc_cv_cat ad v
theorem bc_s_static {idx mj pos nest : Nat} {as st' : List bc_AV} (hd : decode (bc_by mi) pc = .ok (.invokestatic idx, 3)) (hg : bc_good mj = true) (hk : (bc_MT mj).2.1 = 0) (hw : bc_cw (bc_y mi).cls idx mj pos nest = true) (hp : bc_pop (bc_MT mj).2.2 [] st = some (as, st')) (hc : (st'.map bc_cat).sum ≤ 8)
    (hM : bc_OK d mj as h (fun r h' => bc_AT d mi post (pc + 3) loc (r.toList ++ st') h')) : bc_AT d mi post pc loc st h := by
  intro p l e s m args below meth c Z A H locs ls hX hA hW hP hS hL
  have hX0 := hX
  obtain ⟨hx, hb, hml, hr, hts, hown, hlk⟩ := hX
  have hmk := bc_mok_all mj hg
  unfold bc_mok at hmk
  rw [if_pos hk] at hmk
  simp only [Bool.and_eq_true, decide_eq_true_eq] at hmk
  have k1 := bc_mcode mj hg
  obtain ⟨⟨⟨⟨⟨⟨k2, k4⟩, k5⟩, k6⟩, k7⟩, k8⟩, k9⟩ := hmk
  obtain ⟨bs, e1, e2, e3⟩ := bc_pop_spec _ _ _ _ _ hp
  rw [List.append_nil] at e2
  subst e2
  have hR : (bc_rm d).frames + 1 ≤ (bc_rm (d + 1)).frames ∧ 8 + (bc_mL mj + 11) + (bc_rm d).locals ≤ (bc_rm (d + 1)).locals := by
    unfold bc_rm
    exact ⟨by dsimp only; omega, by dsimp only; omega⟩
  have hst : st.map (bc_cv Z.2.1) = (as.map (bc_cv Z.2.1)).reverse ++ st'.map (bc_cv Z.2.1) := by rw [e1]; simp
  have hlen : (as.map (bc_cv Z.2.1)).length = (bc_MT mj).2.2 := by simp [e3]
  have hroom : 2 * (F0 m pc ls (st.map (bc_cv Z.2.1))).monitorRoom + ((st'.map (bc_cv Z.2.1)).map fun v => v.category).sum ≤ 8 := lv_room (by rw [bc_catsum]; exact hc)
  have hfree : ∀ q, bc_A Z H.size q → A q := by
    intro q hq
    rcases hq with ⟨k, hk, rfl⟩ | hq
    · exact hW.2.2.2.1 k hk
    · exact hA q (Nat.le_trans hS.1 hq)
  have hrun : va_Run p l e (bc_rm (d + 1)) s m args below meth c H locs 0 0 0 0 (F0 m pc ls (st.map (bc_cv Z.2.1))) (st'.map (bc_cv Z.2.1)) (bc_Q Z (fun r h' => bc_AT d mi post (pc + 3) loc (r.toList ++ st') h') (bc_A Z H.size) (as.map (bc_cv Z.2.1)).toArray) (bc_A Z H.size) := by
    unfold bc_cw at hw
    by_cases hne : nest = 0
    · rw [if_pos hne] at hw
      refine va_runS (Ts := bc_ws mi) (own := (bc_y mi).cls) (nL := bc_mL mi) ⟨hx, hb, hml, hown, hts⟩ (hM l Z H.size) (va_cwS (bc_MT mj).2.2 hts (bc_GW_in (fun w hw' => ?_)) rfl rfl rfl ⟨k5, k6, k8⟩ hR) ⟨bc_blind Z _ as h, bc_pre hA hW hP hS⟩ rfl hlen hL.1 hst hroom hd ⟨Nat.le_refl _, Nat.le_refl _⟩
      rcases List.mem_append.mp hw' with h1 | h1
      · rcases List.mem_cons.mp h1 with e | h1
        · rw [e]; exact bc_inG_mem hw
        · rcases List.mem_cons.mp h1 with e | h1
          · rw [e]; exact bc_inG_mem k2
          · rcases List.mem_cons.mp h1 with e | h1
            · rw [e]; exact bc_inG_mem k4
            · cases h1
      · rcases List.mem_cons.mp h1 with e | h1
        · rw [e]; exact k1
        · exact h1
    · rw [if_neg hne] at hw
      exact va_runSN (Ts := bc_ws mi) (own := (bc_y mi).cls) (nL := bc_mL mi) ⟨hx, hb, hml, hown, hts⟩ (hM l Z H.size) ⟨va_cnB (bc_MT mj).2.2 hts (bc_ws_good mi mj k1) rfl rfl rfl (hW.2.1 _ (bc_inN_mem hw)) (hts _ (List.mem_cons_of_mem _ (bc_inG_mem k4))) ⟨k5, k6, k8⟩ hR, hts _ (List.mem_cons_of_mem _ (bc_inG_mem k2)), trivial⟩ ⟨bc_blind Z _ as h, bc_pre hA hW hP hS⟩ rfl hlen hL.1 hst hroom hd ⟨Nat.le_refl _, Nat.le_refl _⟩
  refine bc_callQ hrun hS (fun q _ hq => hfree q hq) hfree (fun r h' H1 locs1 hp1 hP1 hS1 => ?_)
  have := hp1 p l e s m args below meth c Z A H1 locs1 ls hX0 hA hW hP1 hS1 hL
  rw [List.map_append] at this
  cases r <;> exact this
theorem bc_s_virtual {idx mj pos nest r : Nat} {as st' : List bc_AV} (hd : decode (bc_by mi) pc = .ok (.invokevirtual idx, 3)) (hg : bc_good mj = true) (hw : bc_cw (bc_y mi).cls idx mj pos nest = true) (hp : bc_pop ((bc_MT mj).2.2 + 1) [] st = some (.inr (.inr r) :: as, st')) (hc : (st'.map bc_cat).sum ≤ 8)
    (hr0 : (bc_lay r).1 = 0) (hr1 : (bc_MT mj).2.1 = (bc_lay r).2.1 + 1) (hcls : (vwCl[(bc_lay r).2.1]?).map (fun q => q.1) = some (bc_y mj).cls)
    (hM : bc_OK d mj (.inr (.inr r) :: as) h (fun r h' => bc_AT d mi post (pc + 3) loc (r.toList ++ st') h')) : bc_AT d mi post pc loc st h := by
  intro p l e s m args below meth c Z A H locs ls hX hA hW hP hS hL
  have hX0 := hX
  obtain ⟨hx, hb, hml, hr, hts, hown, hlk⟩ := hX
  have hmk := bc_mok_all mj hg
  unfold bc_mok at hmk
  rw [if_neg (by rw [hr1]; omega)] at hmk
  simp only [Bool.and_eq_true, decide_eq_true_eq] at hmk
  have k1 := bc_mcode mj hg
  obtain ⟨⟨⟨⟨⟨⟨⟨k2, k3⟩, k4⟩, k5⟩, k6⟩, k7⟩, k8⟩, k9⟩ := hmk
  obtain ⟨bs, e1, e2, e3⟩ := bc_pop_spec _ _ _ _ _ hp
  rw [List.append_nil] at e2
  subst e2
  have hR : (bc_rm d).frames + 1 ≤ (bc_rm (d + 1)).frames ∧ 8 + (bc_mL mj + 11) + (bc_rm d).locals ≤ (bc_rm (d + 1)).locals := by
    unfold bc_rm
    exact ⟨by dsimp only; omega, by dsimp only; omega⟩
  have hst : st.map (bc_cv Z.2.1) = (as.map (bc_cv Z.2.1)).reverse ++ .ref (Z.2.1 r) :: st'.map (bc_cv Z.2.1) := by rw [e1]; simp; rfl
  have hlen : (as.map (bc_cv Z.2.1)).length = (bc_MT mj).2.2 := by simp at e3; simp [e3]
  have hroom : 2 * (F0 m pc ls (st.map (bc_cv Z.2.1))).monitorRoom + ((st'.map (bc_cv Z.2.1)).map fun v => v.category).sum ≤ 8 := lv_room (by rw [bc_catsum]; exact hc)
  have hfree : ∀ q, bc_A Z H.size q → A q := by
    intro q hq
    rcases hq with ⟨k, hk, rfl⟩ | hq
    · exact hW.2.2.2.1 k hk
    · exact hA q (Nat.le_trans hS.1 hq)
  have hrlt : r < bc_NC := by
    by_cases hk : r < bc_NC
    · exact hk
    · rw [bc_lay_out hk] at hr0; cases hr0
  obtain ⟨q, hq, -⟩ := bc_lay_cl r hrlt hr0
  have hqc : q.1 = (bc_y mj).cls := by rw [hq] at hcls; exact Option.some.inj hcls
  have hrecv : ∃ cell : Cell, H[Z.2.1 r]? = some cell ∧ cell.vm.isStatics = false ∧ s.vm.findClass (bc_y mj).cls = some cell.cls := by
    have hge := bc_WS_get Z h hrlt
    rw [bc_E_0 Z h (k := r) (ci := (bc_lay r).2.1) (fs := (bc_lay r).2.2) (by rw [← hr0])] at hge
    have := va_recv hW.1 hP hq hge
    rw [hqc] at this
    exact this
  have hpre : PreV s H (bc_y mj).cls (Z.2.1 r) (bc_Pre Z H.size (.inr (.inr r) :: as) h) (as.map (bc_cv Z.2.1)) := ⟨bc_blind Z _ _ h, hrecv, bc_pre (as := .inr (.inr r) :: as) hA hW hP hS⟩
  have hrun : va_Run p l e (bc_rm (d + 1)) s m args below meth c H locs 0 0 0 0 (F0 m pc ls (st.map (bc_cv Z.2.1))) (st'.map (bc_cv Z.2.1)) (bc_Q Z (fun r h' => bc_AT d mi post (pc + 3) loc (r.toList ++ st') h') (bc_A Z H.size) (Value.ref (Z.2.1 r) :: as.map (bc_cv Z.2.1)).toArray) (bc_A Z H.size) := by
    unfold bc_cw at hw
    by_cases hne : nest = 0
    · rw [if_pos hne] at hw
      refine va_runV (Ts := bc_ws mi) (own := (bc_y mi).cls) (nL := bc_mL mi) ⟨hx, hb, hml, hown, hts⟩ (hM l Z H.size) (cwV (bc_MT mj).2.2 hts (bc_GW_in (fun w hw' => ?_)) rfl rfl rfl ⟨rfl, k5, k6, k8⟩ hR) hpre rfl hlen hL.1 hst hroom hd ⟨Nat.le_refl _, Nat.le_refl _⟩
      rcases List.mem_append.mp hw' with h1 | h1
      · rcases List.mem_cons.mp h1 with e | h1
        · rw [e]; exact bc_inG_mem hw
        · rcases List.mem_cons.mp h1 with e | h1
          · rw [e]; exact bc_inG_mem k2
          · rcases List.mem_cons.mp h1 with e | h1
            · rw [e]; exact bc_inG_mem k3
            · rcases List.mem_cons.mp h1 with e | h1
              · rw [e]; exact bc_inG_mem k4
              · cases h1
      · rcases List.mem_cons.mp h1 with e | h1
        · rw [e]; exact k1
        · exact h1
    · rw [if_neg hne] at hw
      exact va_runVN (Ts := bc_ws mi) (own := (bc_y mi).cls) (nL := bc_mL mi) ⟨hx, hb, hml, hown, hts⟩ (hM l Z H.size) ⟨va_cnB (bc_MT mj).2.2 hts (bc_ws_good mi mj k1) rfl rfl rfl (hW.2.1 _ (bc_inN_mem hw)) (hts _ (List.mem_cons_of_mem _ (bc_inG_mem k4))) ⟨k5, k6, k8⟩ hR, hts _ (List.mem_cons_of_mem _ (bc_inG_mem k2)), hts _ (List.mem_cons_of_mem _ (bc_inG_mem k3))⟩ hpre rfl hlen hL.1 hst hroom hd ⟨Nat.le_refl _, Nat.le_refl _⟩
  refine bc_callQ hrun hS (fun q _ hq => hfree q hq) hfree (fun r h' H1 locs1 hp1 hP1 hS1 => ?_)
  have := hp1 p l e s m args below meth c Z A H1 locs1 ls hX0 hA hW hP1 hS1 hL
  rw [List.map_append] at this
  cases r <;> exact this
end Steps
end
