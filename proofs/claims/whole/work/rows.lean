section
-- ===== PART A: goes FIRST, ahead of the names: the tables' words, and 'selects' of the private methods out of them =====
/-- a private method of a class that the tables say can be made, by its rows of tables_1 -/
def lw_okq (q : MethodName × Nat) : Prop := (q.1.cls ≠ "java/lang/invoke/MethodHandle" ∧ q.1.cls ≠ "java/lang/invoke/VarHandle") ∧ Cond.instantiable q.1.cls q.2 ∈ tables_1 ∧ Cond.privateMethod q.1 ∈ tables_1 ∧ Cond.instanceMethod q.1 ∈ tables_1
theorem lw_p0 : lw_okq (⟨"EachBearsPillar", "refuse", "(I)I"⟩, 11) := ⟨⟨by decide +kernel, by decide +kernel⟩, List.mem_of_getElem? (i := 15) (by decide +kernel), List.mem_of_getElem? (i := 230) (by decide +kernel), List.mem_of_getElem? (i := 231) (by decide +kernel)⟩
theorem lw_p1 : lw_okq (⟨"EachBearsPillar$Text", "append", "(I)I"⟩, 6) := ⟨⟨by decide +kernel, by decide +kernel⟩, List.mem_of_getElem? (i := 128) (by decide +kernel), List.mem_of_getElem? (i := 240) (by decide +kernel), List.mem_of_getElem? (i := 241) (by decide +kernel)⟩
theorem lw_p2 : lw_okq (⟨"EachBearsPillar$Text", "faultOfForm", "()I"⟩, 6) := ⟨⟨by decide +kernel, by decide +kernel⟩, List.mem_of_getElem? (i := 128) (by decide +kernel), List.mem_of_getElem? (i := 249) (by decide +kernel), List.mem_of_getElem? (i := 250) (by decide +kernel)⟩
theorem lw_p3 : lw_okq (⟨"EachBearsPillar$Text", "rewind", "()V"⟩, 6) := ⟨⟨by decide +kernel, by decide +kernel⟩, List.mem_of_getElem? (i := 128) (by decide +kernel), List.mem_of_getElem? (i := 253) (by decide +kernel), List.mem_of_getElem? (i := 254) (by decide +kernel)⟩
theorem lw_p4 : lw_okq (⟨"EachBearsPillar$Text", "readStatement", "()Z"⟩, 6) := ⟨⟨by decide +kernel, by decide +kernel⟩, List.mem_of_getElem? (i := 128) (by decide +kernel), List.mem_of_getElem? (i := 257) (by decide +kernel), List.mem_of_getElem? (i := 258) (by decide +kernel)⟩
theorem lw_p5 : lw_okq (⟨"EachBearsPillar$Text", "here", "()I"⟩, 6) := ⟨⟨by decide +kernel, by decide +kernel⟩, List.mem_of_getElem? (i := 128) (by decide +kernel), List.mem_of_getElem? (i := 261) (by decide +kernel), List.mem_of_getElem? (i := 262) (by decide +kernel)⟩
theorem lw_p6 : lw_okq (⟨"EachBearsPillar$Text", "readPart", "(C)Z"⟩, 6) := ⟨⟨by decide +kernel, by decide +kernel⟩, List.mem_of_getElem? (i := 128) (by decide +kernel), List.mem_of_getElem? (i := 327) (by decide +kernel), List.mem_of_getElem? (i := 328) (by decide +kernel)⟩
theorem lw_p7 : lw_okq (⟨"EachBearsPillar$Text", "readKind", "()Z"⟩, 6) := ⟨⟨by decide +kernel, by decide +kernel⟩, List.mem_of_getElem? (i := 128) (by decide +kernel), List.mem_of_getElem? (i := 331) (by decide +kernel), List.mem_of_getElem? (i := 332) (by decide +kernel)⟩
theorem lw_p8 : lw_okq (⟨"EachBearsPillar$Text", "keepNumber", "(I)V"⟩, 6) := ⟨⟨by decide +kernel, by decide +kernel⟩, List.mem_of_getElem? (i := 128) (by decide +kernel), List.mem_of_getElem? (i := 336) (by decide +kernel), List.mem_of_getElem? (i := 337) (by decide +kernel)⟩
theorem lw_p9 : lw_okq (⟨"EachBearsPillar$Text", "readNumber", "(I)Z"⟩, 6) := ⟨⟨by decide +kernel, by decide +kernel⟩, List.mem_of_getElem? (i := 128) (by decide +kernel), List.mem_of_getElem? (i := 340) (by decide +kernel), List.mem_of_getElem? (i := 341) (by decide +kernel)⟩
theorem lw_p10 : lw_okq (⟨"EachBearsPillar", "enterStatements", "()I"⟩, 11) := ⟨⟨by decide +kernel, by decide +kernel⟩, List.mem_of_getElem? (i := 15) (by decide +kernel), List.mem_of_getElem? (i := 344) (by decide +kernel), List.mem_of_getElem? (i := 345) (by decide +kernel)⟩
theorem lw_p11 : lw_okq (⟨"EachBearsPillar$Roof", "become", "(LEachBearsPillar$Roof;)V"⟩, 9) := ⟨⟨by decide +kernel, by decide +kernel⟩, List.mem_of_getElem? (i := 23) (by decide +kernel), List.mem_of_getElem? (i := 348) (by decide +kernel), List.mem_of_getElem? (i := 349) (by decide +kernel)⟩
theorem lw_p12 : lw_okq (⟨"EachBearsPillar", "enterStatement", "()Z"⟩, 11) := ⟨⟨by decide +kernel, by decide +kernel⟩, List.mem_of_getElem? (i := 15) (by decide +kernel), List.mem_of_getElem? (i := 357) (by decide +kernel), List.mem_of_getElem? (i := 358) (by decide +kernel)⟩
theorem lw_p13 : lw_okq (⟨"EachBearsPillar$Roof", "addBearer", "(III)Z"⟩, 9) := ⟨⟨by decide +kernel, by decide +kernel⟩, List.mem_of_getElem? (i := 23) (by decide +kernel), List.mem_of_getElem? (i := 361) (by decide +kernel), List.mem_of_getElem? (i := 362) (by decide +kernel)⟩
theorem lw_p14 : lw_okq (⟨"EachBearsPillar$Roof", "hasBearer", "(I)Z"⟩, 9) := ⟨⟨by decide +kernel, by decide +kernel⟩, List.mem_of_getElem? (i := 23) (by decide +kernel), List.mem_of_getElem? (i := 369) (by decide +kernel), List.mem_of_getElem? (i := 370) (by decide +kernel)⟩
theorem lw_p15 : lw_okq (⟨"EachBearsPillar$Roof", "lastAt", "()I"⟩, 9) := ⟨⟨by decide +kernel, by decide +kernel⟩, List.mem_of_getElem? (i := 23) (by decide +kernel), List.mem_of_getElem? (i := 397) (by decide +kernel), List.mem_of_getElem? (i := 398) (by decide +kernel)⟩
def lw_privs_1 : List (MethodName × Nat) := [(⟨"EachBearsPillar", "refuse", "(I)I"⟩, 11), (⟨"EachBearsPillar$Text", "append", "(I)I"⟩, 6), (⟨"EachBearsPillar$Text", "faultOfForm", "()I"⟩, 6), (⟨"EachBearsPillar$Text", "rewind", "()V"⟩, 6), (⟨"EachBearsPillar$Text", "readStatement", "()Z"⟩, 6), (⟨"EachBearsPillar$Text", "here", "()I"⟩, 6), (⟨"EachBearsPillar$Text", "readPart", "(C)Z"⟩, 6), (⟨"EachBearsPillar$Text", "readKind", "()Z"⟩, 6), (⟨"EachBearsPillar$Text", "keepNumber", "(I)V"⟩, 6), (⟨"EachBearsPillar$Text", "readNumber", "(I)Z"⟩, 6), (⟨"EachBearsPillar", "enterStatements", "()I"⟩, 11), (⟨"EachBearsPillar$Roof", "become", "(LEachBearsPillar$Roof;)V"⟩, 9), (⟨"EachBearsPillar", "enterStatement", "()Z"⟩, 11), (⟨"EachBearsPillar$Roof", "addBearer", "(III)Z"⟩, 9), (⟨"EachBearsPillar$Roof", "hasBearer", "(I)Z"⟩, 9), (⟨"EachBearsPillar$Roof", "lastAt", "()I"⟩, 9)]
theorem lw_r1 : ∀ q ∈ lw_privs_1, lw_okq q := List.forall_mem_cons.mpr ⟨lw_p0, List.forall_mem_cons.mpr ⟨lw_p1, List.forall_mem_cons.mpr ⟨lw_p2, List.forall_mem_cons.mpr ⟨lw_p3, List.forall_mem_cons.mpr ⟨lw_p4, List.forall_mem_cons.mpr ⟨lw_p5, List.forall_mem_cons.mpr ⟨lw_p6, List.forall_mem_cons.mpr ⟨lw_p7, List.forall_mem_cons.mpr ⟨lw_p8, List.forall_mem_cons.mpr ⟨lw_p9, List.forall_mem_cons.mpr ⟨lw_p10, List.forall_mem_cons.mpr ⟨lw_p11, List.forall_mem_cons.mpr ⟨lw_p12, List.forall_mem_cons.mpr ⟨lw_p13, List.forall_mem_cons.mpr ⟨lw_p14, List.forall_mem_cons.mpr ⟨lw_p15, fun _ h => absurd h List.not_mem_nil⟩⟩⟩⟩⟩⟩⟩⟩⟩⟩⟩⟩⟩⟩⟩⟩
theorem lw_p16 : lw_okq (⟨"EachBearsPillar$Mind", "asTold", "()V"⟩, 10) := ⟨⟨by decide +kernel, by decide +kernel⟩, List.mem_of_getElem? (i := 79) (by decide +kernel), List.mem_of_getElem? (i := 405) (by decide +kernel), List.mem_of_getElem? (i := 406) (by decide +kernel)⟩
theorem lw_p17 : lw_okq (⟨"EachBearsPillar$Mind", "topOf", "(II)I"⟩, 10) := ⟨⟨by decide +kernel, by decide +kernel⟩, List.mem_of_getElem? (i := 79) (by decide +kernel), List.mem_of_getElem? (i := 411) (by decide +kernel), List.mem_of_getElem? (i := 412) (by decide +kernel)⟩
theorem lw_p18 : lw_okq (⟨"EachBearsPillar$Mind", "canBear", "(II)Z"⟩, 10) := ⟨⟨by decide +kernel, by decide +kernel⟩, List.mem_of_getElem? (i := 79) (by decide +kernel), List.mem_of_getElem? (i := 416) (by decide +kernel), List.mem_of_getElem? (i := 417) (by decide +kernel)⟩
theorem lw_p19 : lw_okq (⟨"EachBearsPillar$Mind", "mightOf", "(II)I"⟩, 10) := ⟨⟨by decide +kernel, by decide +kernel⟩, List.mem_of_getElem? (i := 79) (by decide +kernel), List.mem_of_getElem? (i := 420) (by decide +kernel), List.mem_of_getElem? (i := 421) (by decide +kernel)⟩
theorem lw_p20 : lw_okq (⟨"EachBearsPillar$Mind", "standAndWeigh", "()V"⟩, 10) := ⟨⟨by decide +kernel, by decide +kernel⟩, List.mem_of_getElem? (i := 79) (by decide +kernel), List.mem_of_getElem? (i := 431) (by decide +kernel), List.mem_of_getElem? (i := 432) (by decide +kernel)⟩
theorem lw_p21 : lw_okq (⟨"EachBearsPillar$Mind", "stand", "()V"⟩, 10) := ⟨⟨by decide +kernel, by decide +kernel⟩, List.mem_of_getElem? (i := 79) (by decide +kernel), List.mem_of_getElem? (i := 435) (by decide +kernel), List.mem_of_getElem? (i := 436) (by decide +kernel)⟩
theorem lw_p22 : lw_okq (⟨"EachBearsPillar$Mind", "weigh", "()V"⟩, 10) := ⟨⟨by decide +kernel, by decide +kernel⟩, List.mem_of_getElem? (i := 79) (by decide +kernel), List.mem_of_getElem? (i := 442) (by decide +kernel), List.mem_of_getElem? (i := 443) (by decide +kernel)⟩
theorem lw_p23 : lw_okq (⟨"EachBearsPillar$Mind", "shareOf", "(II)I"⟩, 10) := ⟨⟨by decide +kernel, by decide +kernel⟩, List.mem_of_getElem? (i := 79) (by decide +kernel), List.mem_of_getElem? (i := 446) (by decide +kernel), List.mem_of_getElem? (i := 447) (by decide +kernel)⟩
theorem lw_p24 : lw_okq (⟨"EachBearsPillar$Mind", "isFirm", "()Z"⟩, 10) := ⟨⟨by decide +kernel, by decide +kernel⟩, List.mem_of_getElem? (i := 79) (by decide +kernel), List.mem_of_getElem? (i := 458) (by decide +kernel), List.mem_of_getElem? (i := 459) (by decide +kernel)⟩
theorem lw_p25 : lw_okq (⟨"EachBearsPillar$Mind", "isBorne", "()Z"⟩, 10) := ⟨⟨by decide +kernel, by decide +kernel⟩, List.mem_of_getElem? (i := 79) (by decide +kernel), List.mem_of_getElem? (i := 462) (by decide +kernel), List.mem_of_getElem? (i := 463) (by decide +kernel)⟩
theorem lw_p26 : lw_okq (⟨"EachBearsPillar$Mind", "firstOverloaded", "()I"⟩, 10) := ⟨⟨by decide +kernel, by decide +kernel⟩, List.mem_of_getElem? (i := 79) (by decide +kernel), List.mem_of_getElem? (i := 466) (by decide +kernel), List.mem_of_getElem? (i := 467) (by decide +kernel)⟩
theorem lw_p27 : lw_okq (⟨"EachBearsPillar$Mind", "firstFalling", "()I"⟩, 10) := ⟨⟨by decide +kernel, by decide +kernel⟩, List.mem_of_getElem? (i := 79) (by decide +kernel), List.mem_of_getElem? (i := 470) (by decide +kernel), List.mem_of_getElem? (i := 471) (by decide +kernel)⟩
theorem lw_p28 : lw_okq (⟨"EachBearsPillar", "raiseBoth", "(II)I"⟩, 11) := ⟨⟨by decide +kernel, by decide +kernel⟩, List.mem_of_getElem? (i := 15) (by decide +kernel), List.mem_of_getElem? (i := 495) (by decide +kernel), List.mem_of_getElem? (i := 496) (by decide +kernel)⟩
theorem lw_p29 : lw_okq (⟨"EachBearsPillar", "raise", "(I)I"⟩, 11) := ⟨⟨by decide +kernel, by decide +kernel⟩, List.mem_of_getElem? (i := 15) (by decide +kernel), List.mem_of_getElem? (i := 499) (by decide +kernel), List.mem_of_getElem? (i := 500) (by decide +kernel)⟩
theorem lw_p30 : lw_okq (⟨"EachBearsPillar$Orders", "fill", "()V"⟩, 3) := ⟨⟨by decide +kernel, by decide +kernel⟩, List.mem_of_getElem? (i := 176) (by decide +kernel), List.mem_of_getElem? (i := 511) (by decide +kernel), List.mem_of_getElem? (i := 512) (by decide +kernel)⟩
theorem lw_p31 : lw_okq (⟨"EachBearsPillar$Orders", "waysOn", "(III)I"⟩, 3) := ⟨⟨by decide +kernel, by decide +kernel⟩, List.mem_of_getElem? (i := 176) (by decide +kernel), List.mem_of_getElem? (i := 522) (by decide +kernel), List.mem_of_getElem? (i := 523) (by decide +kernel)⟩
def lw_privs_2 : List (MethodName × Nat) := [(⟨"EachBearsPillar$Mind", "asTold", "()V"⟩, 10), (⟨"EachBearsPillar$Mind", "topOf", "(II)I"⟩, 10), (⟨"EachBearsPillar$Mind", "canBear", "(II)Z"⟩, 10), (⟨"EachBearsPillar$Mind", "mightOf", "(II)I"⟩, 10), (⟨"EachBearsPillar$Mind", "standAndWeigh", "()V"⟩, 10), (⟨"EachBearsPillar$Mind", "stand", "()V"⟩, 10), (⟨"EachBearsPillar$Mind", "weigh", "()V"⟩, 10), (⟨"EachBearsPillar$Mind", "shareOf", "(II)I"⟩, 10), (⟨"EachBearsPillar$Mind", "isFirm", "()Z"⟩, 10), (⟨"EachBearsPillar$Mind", "isBorne", "()Z"⟩, 10), (⟨"EachBearsPillar$Mind", "firstOverloaded", "()I"⟩, 10), (⟨"EachBearsPillar$Mind", "firstFalling", "()I"⟩, 10), (⟨"EachBearsPillar", "raiseBoth", "(II)I"⟩, 11), (⟨"EachBearsPillar", "raise", "(I)I"⟩, 11), (⟨"EachBearsPillar$Orders", "fill", "()V"⟩, 3), (⟨"EachBearsPillar$Orders", "waysOn", "(III)I"⟩, 3)]
theorem lw_r2 : ∀ q ∈ lw_privs_2, lw_okq q := List.forall_mem_cons.mpr ⟨lw_p16, List.forall_mem_cons.mpr ⟨lw_p17, List.forall_mem_cons.mpr ⟨lw_p18, List.forall_mem_cons.mpr ⟨lw_p19, List.forall_mem_cons.mpr ⟨lw_p20, List.forall_mem_cons.mpr ⟨lw_p21, List.forall_mem_cons.mpr ⟨lw_p22, List.forall_mem_cons.mpr ⟨lw_p23, List.forall_mem_cons.mpr ⟨lw_p24, List.forall_mem_cons.mpr ⟨lw_p25, List.forall_mem_cons.mpr ⟨lw_p26, List.forall_mem_cons.mpr ⟨lw_p27, List.forall_mem_cons.mpr ⟨lw_p28, List.forall_mem_cons.mpr ⟨lw_p29, List.forall_mem_cons.mpr ⟨lw_p30, List.forall_mem_cons.mpr ⟨lw_p31, fun _ h => absurd h List.not_mem_nil⟩⟩⟩⟩⟩⟩⟩⟩⟩⟩⟩⟩⟩⟩⟩⟩
theorem lw_p32 : lw_okq (⟨"EachBearsPillar$Orders", "bearsLeft", "(IIII)Z"⟩, 3) := ⟨⟨by decide +kernel, by decide +kernel⟩, List.mem_of_getElem? (i := 176) (by decide +kernel), List.mem_of_getElem? (i := 532) (by decide +kernel), List.mem_of_getElem? (i := 533) (by decide +kernel)⟩
theorem lw_p33 : lw_okq (⟨"EachBearsPillar$Orders", "mostOf", "(II)I"⟩, 3) := ⟨⟨by decide +kernel, by decide +kernel⟩, List.mem_of_getElem? (i := 176) (by decide +kernel), List.mem_of_getElem? (i := 536) (by decide +kernel), List.mem_of_getElem? (i := 537) (by decide +kernel)⟩
theorem lw_p34 : lw_okq (⟨"EachBearsPillar$Orders", "waysWith", "(IIII)I"⟩, 3) := ⟨⟨by decide +kernel, by decide +kernel⟩, List.mem_of_getElem? (i := 176) (by decide +kernel), List.mem_of_getElem? (i := 541) (by decide +kernel), List.mem_of_getElem? (i := 542) (by decide +kernel)⟩
theorem lw_p35 : lw_okq (⟨"EachBearsPillar$Orders", "total", "()I"⟩, 3) := ⟨⟨by decide +kernel, by decide +kernel⟩, List.mem_of_getElem? (i := 176) (by decide +kernel), List.mem_of_getElem? (i := 545) (by decide +kernel), List.mem_of_getElem? (i := 546) (by decide +kernel)⟩
theorem lw_p36 : lw_okq (⟨"EachBearsPillar$Orders", "firstUnder", "(I)I"⟩, 3) := ⟨⟨by decide +kernel, by decide +kernel⟩, List.mem_of_getElem? (i := 176) (by decide +kernel), List.mem_of_getElem? (i := 549) (by decide +kernel), List.mem_of_getElem? (i := 550) (by decide +kernel)⟩
theorem lw_p37 : lw_okq (⟨"EachBearsPillar$Orders", "leastNext", "(III)I"⟩, 3) := ⟨⟨by decide +kernel, by decide +kernel⟩, List.mem_of_getElem? (i := 176) (by decide +kernel), List.mem_of_getElem? (i := 553) (by decide +kernel), List.mem_of_getElem? (i := 554) (by decide +kernel)⟩
theorem lw_p38 : lw_okq (⟨"EachBearsPillar", "firstUntrue", "()I"⟩, 11) := ⟨⟨by decide +kernel, by decide +kernel⟩, List.mem_of_getElem? (i := 15) (by decide +kernel), List.mem_of_getElem? (i := 583) (by decide +kernel), List.mem_of_getElem? (i := 584) (by decide +kernel)⟩
theorem lw_p39 : lw_okq (⟨"EachBearsPillar$Walk", "explore", "()V"⟩, 4) := ⟨⟨by decide +kernel, by decide +kernel⟩, List.mem_of_getElem? (i := 157) (by decide +kernel), List.mem_of_getElem? (i := 596) (by decide +kernel), List.mem_of_getElem? (i := 597) (by decide +kernel)⟩
theorem lw_p40 : lw_okq (⟨"EachBearsPillar$Walk", "visit", "(III)V"⟩, 4) := ⟨⟨by decide +kernel, by decide +kernel⟩, List.mem_of_getElem? (i := 157) (by decide +kernel), List.mem_of_getElem? (i := 601) (by decide +kernel), List.mem_of_getElem? (i := 602) (by decide +kernel)⟩
theorem lw_p41 : lw_okq (⟨"EachBearsPillar$Walk", "fewestTo", "(I)I"⟩, 4) := ⟨⟨by decide +kernel, by decide +kernel⟩, List.mem_of_getElem? (i := 157) (by decide +kernel), List.mem_of_getElem? (i := 608) (by decide +kernel), List.mem_of_getElem? (i := 609) (by decide +kernel)⟩
theorem lw_p42 : lw_okq (⟨"EachBearsPillar$Walk", "minutesTo", "(II)I"⟩, 4) := ⟨⟨by decide +kernel, by decide +kernel⟩, List.mem_of_getElem? (i := 157) (by decide +kernel), List.mem_of_getElem? (i := 612) (by decide +kernel), List.mem_of_getElem? (i := 613) (by decide +kernel)⟩
theorem lw_p43 : lw_okq (⟨"EachBearsPillar$Walk", "reachedWithin", "(I)I"⟩, 4) := ⟨⟨by decide +kernel, by decide +kernel⟩, List.mem_of_getElem? (i := 157) (by decide +kernel), List.mem_of_getElem? (i := 620) (by decide +kernel), List.mem_of_getElem? (i := 621) (by decide +kernel)⟩
theorem lw_p44 : lw_okq (⟨"EachBearsPillar$Walk", "lowestAt", "(II)I"⟩, 4) := ⟨⟨by decide +kernel, by decide +kernel⟩, List.mem_of_getElem? (i := 157) (by decide +kernel), List.mem_of_getElem? (i := 629) (by decide +kernel), List.mem_of_getElem? (i := 630) (by decide +kernel)⟩
theorem lw_p45 : lw_okq (⟨"EachBearsPillarModel", "no", "(I)I"⟩, 35) := ⟨⟨by decide +kernel, by decide +kernel⟩, List.mem_of_getElem? (i := 641) (by decide +kernel), List.mem_of_getElem? (i := 757) (by decide +kernel), List.mem_of_getElem? (i := 758) (by decide +kernel)⟩
theorem lw_p46 : lw_okq (⟨"EachBearsPillarModel", "isText", "()Z"⟩, 35) := ⟨⟨by decide +kernel, by decide +kernel⟩, List.mem_of_getElem? (i := 641) (by decide +kernel), List.mem_of_getElem? (i := 765) (by decide +kernel), List.mem_of_getElem? (i := 766) (by decide +kernel)⟩
theorem lw_p47 : lw_okq (⟨"EachBearsPillarModel", "takesStatement", "()Z"⟩, 35) := ⟨⟨by decide +kernel, by decide +kernel⟩, List.mem_of_getElem? (i := 641) (by decide +kernel), List.mem_of_getElem? (i := 769) (by decide +kernel), List.mem_of_getElem? (i := 770) (by decide +kernel)⟩
def lw_privs_3 : List (MethodName × Nat) := [(⟨"EachBearsPillar$Orders", "bearsLeft", "(IIII)Z"⟩, 3), (⟨"EachBearsPillar$Orders", "mostOf", "(II)I"⟩, 3), (⟨"EachBearsPillar$Orders", "waysWith", "(IIII)I"⟩, 3), (⟨"EachBearsPillar$Orders", "total", "()I"⟩, 3), (⟨"EachBearsPillar$Orders", "firstUnder", "(I)I"⟩, 3), (⟨"EachBearsPillar$Orders", "leastNext", "(III)I"⟩, 3), (⟨"EachBearsPillar", "firstUntrue", "()I"⟩, 11), (⟨"EachBearsPillar$Walk", "explore", "()V"⟩, 4), (⟨"EachBearsPillar$Walk", "visit", "(III)V"⟩, 4), (⟨"EachBearsPillar$Walk", "fewestTo", "(I)I"⟩, 4), (⟨"EachBearsPillar$Walk", "minutesTo", "(II)I"⟩, 4), (⟨"EachBearsPillar$Walk", "reachedWithin", "(I)I"⟩, 4), (⟨"EachBearsPillar$Walk", "lowestAt", "(II)I"⟩, 4), (⟨"EachBearsPillarModel", "no", "(I)I"⟩, 35), (⟨"EachBearsPillarModel", "isText", "()Z"⟩, 35), (⟨"EachBearsPillarModel", "takesStatement", "()Z"⟩, 35)]
theorem lw_r3 : ∀ q ∈ lw_privs_3, lw_okq q := List.forall_mem_cons.mpr ⟨lw_p32, List.forall_mem_cons.mpr ⟨lw_p33, List.forall_mem_cons.mpr ⟨lw_p34, List.forall_mem_cons.mpr ⟨lw_p35, List.forall_mem_cons.mpr ⟨lw_p36, List.forall_mem_cons.mpr ⟨lw_p37, List.forall_mem_cons.mpr ⟨lw_p38, List.forall_mem_cons.mpr ⟨lw_p39, List.forall_mem_cons.mpr ⟨lw_p40, List.forall_mem_cons.mpr ⟨lw_p41, List.forall_mem_cons.mpr ⟨lw_p42, List.forall_mem_cons.mpr ⟨lw_p43, List.forall_mem_cons.mpr ⟨lw_p44, List.forall_mem_cons.mpr ⟨lw_p45, List.forall_mem_cons.mpr ⟨lw_p46, List.forall_mem_cons.mpr ⟨lw_p47, fun _ h => absurd h List.not_mem_nil⟩⟩⟩⟩⟩⟩⟩⟩⟩⟩⟩⟩⟩⟩⟩⟩
theorem lw_p48 : lw_okq (⟨"EachBearsPillarModel", "next", "()I"⟩, 35) := ⟨⟨by decide +kernel, by decide +kernel⟩, List.mem_of_getElem? (i := 641) (by decide +kernel), List.mem_of_getElem? (i := 773) (by decide +kernel), List.mem_of_getElem? (i := 774) (by decide +kernel)⟩
theorem lw_p49 : lw_okq (⟨"EachBearsPillarModel", "takesRest", "(I)Z"⟩, 35) := ⟨⟨by decide +kernel, by decide +kernel⟩, List.mem_of_getElem? (i := 641) (by decide +kernel), List.mem_of_getElem? (i := 777) (by decide +kernel), List.mem_of_getElem? (i := 778) (by decide +kernel)⟩
theorem lw_p50 : lw_okq (⟨"EachBearsPillarModel", "takesKind", "()Z"⟩, 35) := ⟨⟨by decide +kernel, by decide +kernel⟩, List.mem_of_getElem? (i := 641) (by decide +kernel), List.mem_of_getElem? (i := 781) (by decide +kernel), List.mem_of_getElem? (i := 782) (by decide +kernel)⟩
theorem lw_p51 : lw_okq (⟨"EachBearsPillarModel", "kindOf", "(I)I"⟩, 35) := ⟨⟨by decide +kernel, by decide +kernel⟩, List.mem_of_getElem? (i := 641) (by decide +kernel), List.mem_of_getElem? (i := 785) (by decide +kernel), List.mem_of_getElem? (i := 786) (by decide +kernel)⟩
theorem lw_p52 : lw_okq (⟨"EachBearsPillarModel", "takesTwo", "(II)Z"⟩, 35) := ⟨⟨by decide +kernel, by decide +kernel⟩, List.mem_of_getElem? (i := 641) (by decide +kernel), List.mem_of_getElem? (i := 789) (by decide +kernel), List.mem_of_getElem? (i := 790) (by decide +kernel)⟩
theorem lw_p53 : lw_okq (⟨"EachBearsPillarModel", "number", "(I)I"⟩, 35) := ⟨⟨by decide +kernel, by decide +kernel⟩, List.mem_of_getElem? (i := 641) (by decide +kernel), List.mem_of_getElem? (i := 793) (by decide +kernel), List.mem_of_getElem? (i := 794) (by decide +kernel)⟩
theorem lw_p54 : lw_okq (⟨"EachBearsPillarModel", "isDigit", "()Z"⟩, 35) := ⟨⟨by decide +kernel, by decide +kernel⟩, List.mem_of_getElem? (i := 641) (by decide +kernel), List.mem_of_getElem? (i := 797) (by decide +kernel), List.mem_of_getElem? (i := 798) (by decide +kernel)⟩
theorem lw_p55 : lw_okq (⟨"EachBearsPillarModel", "in", "(III)Z"⟩, 35) := ⟨⟨by decide +kernel, by decide +kernel⟩, List.mem_of_getElem? (i := 641) (by decide +kernel), List.mem_of_getElem? (i := 801) (by decide +kernel), List.mem_of_getElem? (i := 802) (by decide +kernel)⟩
theorem lw_p56 : lw_okq (⟨"EachBearsPillarModel", "takes", "(I)Z"⟩, 35) := ⟨⟨by decide +kernel, by decide +kernel⟩, List.mem_of_getElem? (i := 641) (by decide +kernel), List.mem_of_getElem? (i := 805) (by decide +kernel), List.mem_of_getElem? (i := 806) (by decide +kernel)⟩
theorem lw_p57 : lw_okq (⟨"EachBearsPillarModel", "wrongPlace", "()I"⟩, 35) := ⟨⟨by decide +kernel, by decide +kernel⟩, List.mem_of_getElem? (i := 641) (by decide +kernel), List.mem_of_getElem? (i := 809) (by decide +kernel), List.mem_of_getElem? (i := 810) (by decide +kernel)⟩
theorem lw_p58 : lw_okq (⟨"EachBearsPillarModel", "isGood", "(II)Z"⟩, 35) := ⟨⟨by decide +kernel, by decide +kernel⟩, List.mem_of_getElem? (i := 641) (by decide +kernel), List.mem_of_getElem? (i := 813) (by decide +kernel), List.mem_of_getElem? (i := 814) (by decide +kernel)⟩
theorem lw_p59 : lw_okq (⟨"EachBearsPillarModel", "comesAll", "()I"⟩, 35) := ⟨⟨by decide +kernel, by decide +kernel⟩, List.mem_of_getElem? (i := 641) (by decide +kernel), List.mem_of_getElem? (i := 817) (by decide +kernel), List.mem_of_getElem? (i := 818) (by decide +kernel)⟩
theorem lw_p60 : lw_okq (⟨"EachBearsPillarModel", "comes", "(I)V"⟩, 35) := ⟨⟨by decide +kernel, by decide +kernel⟩, List.mem_of_getElem? (i := 641) (by decide +kernel), List.mem_of_getElem? (i := 821) (by decide +kernel), List.mem_of_getElem? (i := 822) (by decide +kernel)⟩
theorem lw_p61 : lw_okq (⟨"EachBearsPillarModel", "isBearer", "(I)Z"⟩, 35) := ⟨⟨by decide +kernel, by decide +kernel⟩, List.mem_of_getElem? (i := 641) (by decide +kernel), List.mem_of_getElem? (i := 829) (by decide +kernel), List.mem_of_getElem? (i := 830) (by decide +kernel)⟩
theorem lw_p62 : lw_okq (⟨"EachBearsPillarModel", "topOf", "(I)I"⟩, 35) := ⟨⟨by decide +kernel, by decide +kernel⟩, List.mem_of_getElem? (i := 641) (by decide +kernel), List.mem_of_getElem? (i := 833) (by decide +kernel), List.mem_of_getElem? (i := 834) (by decide +kernel)⟩
theorem lw_p63 : lw_okq (⟨"EachBearsPillarModel", "bears", "(I)Z"⟩, 35) := ⟨⟨by decide +kernel, by decide +kernel⟩, List.mem_of_getElem? (i := 641) (by decide +kernel), List.mem_of_getElem? (i := 837) (by decide +kernel), List.mem_of_getElem? (i := 838) (by decide +kernel)⟩
def lw_privs_4 : List (MethodName × Nat) := [(⟨"EachBearsPillarModel", "next", "()I"⟩, 35), (⟨"EachBearsPillarModel", "takesRest", "(I)Z"⟩, 35), (⟨"EachBearsPillarModel", "takesKind", "()Z"⟩, 35), (⟨"EachBearsPillarModel", "kindOf", "(I)I"⟩, 35), (⟨"EachBearsPillarModel", "takesTwo", "(II)Z"⟩, 35), (⟨"EachBearsPillarModel", "number", "(I)I"⟩, 35), (⟨"EachBearsPillarModel", "isDigit", "()Z"⟩, 35), (⟨"EachBearsPillarModel", "in", "(III)Z"⟩, 35), (⟨"EachBearsPillarModel", "takes", "(I)Z"⟩, 35), (⟨"EachBearsPillarModel", "wrongPlace", "()I"⟩, 35), (⟨"EachBearsPillarModel", "isGood", "(II)Z"⟩, 35), (⟨"EachBearsPillarModel", "comesAll", "()I"⟩, 35), (⟨"EachBearsPillarModel", "comes", "(I)V"⟩, 35), (⟨"EachBearsPillarModel", "isBearer", "(I)Z"⟩, 35), (⟨"EachBearsPillarModel", "topOf", "(I)I"⟩, 35), (⟨"EachBearsPillarModel", "bears", "(I)Z"⟩, 35)]
theorem lw_r4 : ∀ q ∈ lw_privs_4, lw_okq q := List.forall_mem_cons.mpr ⟨lw_p48, List.forall_mem_cons.mpr ⟨lw_p49, List.forall_mem_cons.mpr ⟨lw_p50, List.forall_mem_cons.mpr ⟨lw_p51, List.forall_mem_cons.mpr ⟨lw_p52, List.forall_mem_cons.mpr ⟨lw_p53, List.forall_mem_cons.mpr ⟨lw_p54, List.forall_mem_cons.mpr ⟨lw_p55, List.forall_mem_cons.mpr ⟨lw_p56, List.forall_mem_cons.mpr ⟨lw_p57, List.forall_mem_cons.mpr ⟨lw_p58, List.forall_mem_cons.mpr ⟨lw_p59, List.forall_mem_cons.mpr ⟨lw_p60, List.forall_mem_cons.mpr ⟨lw_p61, List.forall_mem_cons.mpr ⟨lw_p62, List.forall_mem_cons.mpr ⟨lw_p63, fun _ h => absurd h List.not_mem_nil⟩⟩⟩⟩⟩⟩⟩⟩⟩⟩⟩⟩⟩⟩⟩⟩
theorem lw_p64 : lw_okq (⟨"EachBearsPillarModel", "mightOf", "(I)I"⟩, 35) := ⟨⟨by decide +kernel, by decide +kernel⟩, List.mem_of_getElem? (i := 641) (by decide +kernel), List.mem_of_getElem? (i := 841) (by decide +kernel), List.mem_of_getElem? (i := 842) (by decide +kernel)⟩
theorem lw_p65 : lw_okq (⟨"EachBearsPillarModel", "lastAt", "()I"⟩, 35) := ⟨⟨by decide +kernel, by decide +kernel⟩, List.mem_of_getElem? (i := 641) (by decide +kernel), List.mem_of_getElem? (i := 865) (by decide +kernel), List.mem_of_getElem? (i := 866) (by decide +kernel)⟩
theorem lw_p66 : lw_okq (⟨"EachBearsPillarModel", "loadOf", "(I)I"⟩, 35) := ⟨⟨by decide +kernel, by decide +kernel⟩, List.mem_of_getElem? (i := 641) (by decide +kernel), List.mem_of_getElem? (i := 873) (by decide +kernel), List.mem_of_getElem? (i := 874) (by decide +kernel)⟩
theorem lw_p67 : lw_okq (⟨"EachBearsPillarModel", "loadBy", "(III)I"⟩, 35) := ⟨⟨by decide +kernel, by decide +kernel⟩, List.mem_of_getElem? (i := 641) (by decide +kernel), List.mem_of_getElem? (i := 877) (by decide +kernel), List.mem_of_getElem? (i := 878) (by decide +kernel)⟩
theorem lw_p68 : lw_okq (⟨"EachBearsPillarModel", "hasEnds", "(I)Z"⟩, 35) := ⟨⟨by decide +kernel, by decide +kernel⟩, List.mem_of_getElem? (i := 641) (by decide +kernel), List.mem_of_getElem? (i := 881) (by decide +kernel), List.mem_of_getElem? (i := 882) (by decide +kernel)⟩
theorem lw_p69 : lw_okq (⟨"EachBearsPillarModel", "isHeld", "()Z"⟩, 35) := ⟨⟨by decide +kernel, by decide +kernel⟩, List.mem_of_getElem? (i := 641) (by decide +kernel), List.mem_of_getElem? (i := 889) (by decide +kernel), List.mem_of_getElem? (i := 890) (by decide +kernel)⟩
theorem lw_p70 : lw_okq (⟨"EachBearsPillarModel", "sagNow", "()I"⟩, 35) := ⟨⟨by decide +kernel, by decide +kernel⟩, List.mem_of_getElem? (i := 641) (by decide +kernel), List.mem_of_getElem? (i := 893) (by decide +kernel), List.mem_of_getElem? (i := 894) (by decide +kernel)⟩
theorem lw_p71 : lw_okq (⟨"EachBearsPillarModel", "falls", "(I)Z"⟩, 35) := ⟨⟨by decide +kernel, by decide +kernel⟩, List.mem_of_getElem? (i := 641) (by decide +kernel), List.mem_of_getElem? (i := 897) (by decide +kernel), List.mem_of_getElem? (i := 898) (by decide +kernel)⟩
theorem lw_p72 : lw_okq (⟨"EachBearsPillarModel", "blocksFor", "(III)I"⟩, 35) := ⟨⟨by decide +kernel, by decide +kernel⟩, List.mem_of_getElem? (i := 641) (by decide +kernel), List.mem_of_getElem? (i := 913) (by decide +kernel), List.mem_of_getElem? (i := 914) (by decide +kernel)⟩
theorem lw_p73 : lw_okq (⟨"EachBearsPillarModel", "changes", "(II)V"⟩, 35) := ⟨⟨by decide +kernel, by decide +kernel⟩, List.mem_of_getElem? (i := 641) (by decide +kernel), List.mem_of_getElem? (i := 921) (by decide +kernel), List.mem_of_getElem? (i := 922) (by decide +kernel)⟩
theorem lw_p74 : lw_okq (⟨"EachBearsPillarModel", "layOrder", "(I)Z"⟩, 35) := ⟨⟨by decide +kernel, by decide +kernel⟩, List.mem_of_getElem? (i := 641) (by decide +kernel), List.mem_of_getElem? (i := 929) (by decide +kernel), List.mem_of_getElem? (i := 930) (by decide +kernel)⟩
theorem lw_p75 : lw_okq (⟨"EachBearsPillarModel", "has", "(II)Z"⟩, 35) := ⟨⟨by decide +kernel, by decide +kernel⟩, List.mem_of_getElem? (i := 641) (by decide +kernel), List.mem_of_getElem? (i := 933) (by decide +kernel), List.mem_of_getElem? (i := 934) (by decide +kernel)⟩
theorem lw_p76 : lw_okq (⟨"EachBearsPillarModel", "isRow", "()Z"⟩, 35) := ⟨⟨by decide +kernel, by decide +kernel⟩, List.mem_of_getElem? (i := 641) (by decide +kernel), List.mem_of_getElem? (i := 953) (by decide +kernel), List.mem_of_getElem? (i := 954) (by decide +kernel)⟩
theorem lw_p77 : lw_okq (⟨"EachBearsPillarModel", "judged", "()I"⟩, 35) := ⟨⟨by decide +kernel, by decide +kernel⟩, List.mem_of_getElem? (i := 641) (by decide +kernel), List.mem_of_getElem? (i := 961) (by decide +kernel), List.mem_of_getElem? (i := 962) (by decide +kernel)⟩
theorem lw_p78 : lw_okq (⟨"EachBearsPillarModel", "layWays", "()V"⟩, 35) := ⟨⟨by decide +kernel, by decide +kernel⟩, List.mem_of_getElem? (i := 641) (by decide +kernel), List.mem_of_getElem? (i := 969) (by decide +kernel), List.mem_of_getElem? (i := 970) (by decide +kernel)⟩
theorem lw_p79 : lw_okq (⟨"EachBearsPillarModel", "reaches", "(III)V"⟩, 35) := ⟨⟨by decide +kernel, by decide +kernel⟩, List.mem_of_getElem? (i := 641) (by decide +kernel), List.mem_of_getElem? (i := 973) (by decide +kernel), List.mem_of_getElem? (i := 974) (by decide +kernel)⟩
def lw_privs_5 : List (MethodName × Nat) := [(⟨"EachBearsPillarModel", "mightOf", "(I)I"⟩, 35), (⟨"EachBearsPillarModel", "lastAt", "()I"⟩, 35), (⟨"EachBearsPillarModel", "loadOf", "(I)I"⟩, 35), (⟨"EachBearsPillarModel", "loadBy", "(III)I"⟩, 35), (⟨"EachBearsPillarModel", "hasEnds", "(I)Z"⟩, 35), (⟨"EachBearsPillarModel", "isHeld", "()Z"⟩, 35), (⟨"EachBearsPillarModel", "sagNow", "()I"⟩, 35), (⟨"EachBearsPillarModel", "falls", "(I)Z"⟩, 35), (⟨"EachBearsPillarModel", "blocksFor", "(III)I"⟩, 35), (⟨"EachBearsPillarModel", "changes", "(II)V"⟩, 35), (⟨"EachBearsPillarModel", "layOrder", "(I)Z"⟩, 35), (⟨"EachBearsPillarModel", "has", "(II)Z"⟩, 35), (⟨"EachBearsPillarModel", "isRow", "()Z"⟩, 35), (⟨"EachBearsPillarModel", "judged", "()I"⟩, 35), (⟨"EachBearsPillarModel", "layWays", "()V"⟩, 35), (⟨"EachBearsPillarModel", "reaches", "(III)V"⟩, 35)]
theorem lw_r5 : ∀ q ∈ lw_privs_5, lw_okq q := List.forall_mem_cons.mpr ⟨lw_p64, List.forall_mem_cons.mpr ⟨lw_p65, List.forall_mem_cons.mpr ⟨lw_p66, List.forall_mem_cons.mpr ⟨lw_p67, List.forall_mem_cons.mpr ⟨lw_p68, List.forall_mem_cons.mpr ⟨lw_p69, List.forall_mem_cons.mpr ⟨lw_p70, List.forall_mem_cons.mpr ⟨lw_p71, List.forall_mem_cons.mpr ⟨lw_p72, List.forall_mem_cons.mpr ⟨lw_p73, List.forall_mem_cons.mpr ⟨lw_p74, List.forall_mem_cons.mpr ⟨lw_p75, List.forall_mem_cons.mpr ⟨lw_p76, List.forall_mem_cons.mpr ⟨lw_p77, List.forall_mem_cons.mpr ⟨lw_p78, List.forall_mem_cons.mpr ⟨lw_p79, fun _ h => absurd h List.not_mem_nil⟩⟩⟩⟩⟩⟩⟩⟩⟩⟩⟩⟩⟩⟩⟩⟩
theorem lw_p80 : lw_okq (⟨"EachBearsPillarModel", "isHeldAt", "(II)Z"⟩, 35) := ⟨⟨by decide +kernel, by decide +kernel⟩, List.mem_of_getElem? (i := 641) (by decide +kernel), List.mem_of_getElem? (i := 977) (by decide +kernel), List.mem_of_getElem? (i := 978) (by decide +kernel)⟩
theorem lw_p81 : lw_okq (⟨"EachBearsPillarModel", "draw", "(I)I"⟩, 35) := ⟨⟨by decide +kernel, by decide +kernel⟩, List.mem_of_getElem? (i := 641) (by decide +kernel), List.mem_of_getElem? (i := 993) (by decide +kernel), List.mem_of_getElem? (i := 994) (by decide +kernel)⟩
theorem lw_p82 : lw_okq (⟨"EachBearsPillarModel", "allWeight", "()I"⟩, 35) := ⟨⟨by decide +kernel, by decide +kernel⟩, List.mem_of_getElem? (i := 641) (by decide +kernel), List.mem_of_getElem? (i := 1012) (by decide +kernel), List.mem_of_getElem? (i := 1013) (by decide +kernel)⟩
theorem lw_p83 : lw_okq (⟨"EachBearsPillarModel", "allLoads", "()I"⟩, 35) := ⟨⟨by decide +kernel, by decide +kernel⟩, List.mem_of_getElem? (i := 641) (by decide +kernel), List.mem_of_getElem? (i := 1016) (by decide +kernel), List.mem_of_getElem? (i := 1017) (by decide +kernel)⟩
theorem lw_p84 : lw_okq (⟨"EachBearsPillarModel", "manyBear", "()I"⟩, 35) := ⟨⟨by decide +kernel, by decide +kernel⟩, List.mem_of_getElem? (i := 641) (by decide +kernel), List.mem_of_getElem? (i := 1020) (by decide +kernel), List.mem_of_getElem? (i := 1021) (by decide +kernel)⟩
def lw_privs_6 : List (MethodName × Nat) := [(⟨"EachBearsPillarModel", "isHeldAt", "(II)Z"⟩, 35), (⟨"EachBearsPillarModel", "draw", "(I)I"⟩, 35), (⟨"EachBearsPillarModel", "allWeight", "()I"⟩, 35), (⟨"EachBearsPillarModel", "allLoads", "()I"⟩, 35), (⟨"EachBearsPillarModel", "manyBear", "()I"⟩, 35)]
theorem lw_r6 : ∀ q ∈ lw_privs_6, lw_okq q := List.forall_mem_cons.mpr ⟨lw_p80, List.forall_mem_cons.mpr ⟨lw_p81, List.forall_mem_cons.mpr ⟨lw_p82, List.forall_mem_cons.mpr ⟨lw_p83, List.forall_mem_cons.mpr ⟨lw_p84, fun _ h => absurd h List.not_mem_nil⟩⟩⟩⟩⟩
def lw_privs : List (MethodName × Nat) := lw_privs_1 ++ (lw_privs_2 ++ (lw_privs_3 ++ (lw_privs_4 ++ (lw_privs_5 ++ (lw_privs_6)))))
def lw_tbl : List Cond := k2_sels lw_privs ++ tables_1
theorem lw_privs_ok : ∀ q ∈ lw_privs, lw_okq q := by
  show ∀ q ∈ lw_privs_1 ++ (lw_privs_2 ++ (lw_privs_3 ++ (lw_privs_4 ++ (lw_privs_5 ++ (lw_privs_6))))), lw_okq q
  exact List.forall_mem_append.mpr ⟨lw_r1, List.forall_mem_append.mpr ⟨lw_r2, List.forall_mem_append.mpr ⟨lw_r3, List.forall_mem_append.mpr ⟨lw_r4, List.forall_mem_append.mpr ⟨lw_r5, lw_r6⟩⟩⟩⟩⟩
-- ===== end of PART A; then your names; then what follows =====
end
section
/-! ===== BASE: a side's world as a function of object and place; the machine's rows over it ===== -/
/-- the words that every method has: the good words of the tables -/
def gx_big : List Cond := lw_tbl.filter goodWord
def gx_isNest : Cond → Bool
  | .fieldLinkNest .. => true
  | .methodLinkNest .. => true
  | _ => false
/-- the links to private members of nest mates -/
def gx_nest : List Cond := lw_tbl.filter gx_isNest
def gx_NW (U : State) : Prop := ∀ w ∈ gx_nest, va_Nw w U
theorem gx_NW.warm {s U : State} (hW : s.WarmedH U.vm) (h : gx_NW s) : gx_NW U := by
  intro w hw
  have hn := (List.mem_filter.mp hw).2
  have h1 := h w hw
  cases w <;> first | exact va_Nw.warmF hW h1 | exact va_Nw.warmM hW h1 | (simp [gx_isNest] at hn; done)
theorem gx_NW.same {s U : State} (hv : s.vm = U.vm) (h : gx_NW s) : gx_NW U := by
  intro w hw
  have hn := (List.mem_filter.mp hw).2
  have h1 := h w hw
  cases w <;> first | exact va_Nw.same rfl hv h1 | (simp [gx_isNest] at hn; done)
theorem gx_good {h c : Cond} (hc : c ∈ gx_big) : GoodIn (h :: gx_big) (c :: gx_big) := by
  intro w hw
  rcases List.mem_cons.mp hw with rfl | hw
  · exact ⟨List.mem_cons_of_mem _ hc, good_of_word (List.mem_filter.mp hc).2⟩
  · exact ⟨List.mem_cons_of_mem _ hw, good_of_word (List.mem_filter.mp hw).2⟩
abbrev gx_V : Type := Int32 ⊕ Nat
abbrev gx_Wd : Type := Nat → Nat → Int32
abbrev gx_Sh : Type := Nat ⊕ (Nat × List (Option Nat))
/-- a side: its objects' shapes, classes' numbers, addresses, the class of int[], the texts' rows -/
abbrev gx_Sd : Type := List gx_Sh × va_G × (Nat → Nat) × ClassId × (Nat → Nat)
def gx_cv (ad : Nat → Nat) : gx_V → Value
  | .inl x => .int x
  | .inr o => .ref (ad o)
def gx_fs (ad : Nat → Nat) (f : Nat → Int32) : Nat → List (Option Nat) → List Value
  | _, [] => []
  | k, none :: t => .int (f k) :: gx_fs ad f (k + 1) t
  | k, some o :: t => .ref (ad o) :: gx_fs ad f (k + 1) t
def gx_ce (S : gx_Sd) (f : Nat → Int32) : gx_Sh → va_E
  | .inl n => .inl (S.2.2.2.1, n, .inl f)
  | .inr c => .inr (c.1, gx_fs S.2.2.1 f 0 c.2)
def gx_cs (S : gx_Sd) (w : gx_Wd) : Nat → List gx_Sh → va_W
  | _, [] => []
  | k, s :: t => (S.2.2.1 k, gx_ce S (w k) s) :: gx_cs S w (k + 1) t
def gx_cells (S : gx_Sd) (w : gx_Wd) : va_W := gx_cs S w 0 S.1
theorem gx_cs_get (S : gx_Sd) (w : gx_Wd) : ∀ (t : List gx_Sh) (k i : Nat), (gx_cs S w k t)[i]? = (t[i]?).map (fun s => (S.2.2.1 (k + i), gx_ce S (w (k + i)) s)) := by
  intro t
  induction t with
  | nil => intro k i; simp [gx_cs]
  | cons s t ih =>
    intro k i
    cases i with
    | zero => simp [gx_cs]
    | succ i =>
      simp only [gx_cs, List.getElem?_cons_succ]
      rw [ih (k + 1) i, Nat.add_assoc, Nat.add_comm 1 i]
theorem gx_get {S : gx_Sd} {w : gx_Wd} {o : Nat} {s : gx_Sh} (h : S.1[o]? = some s) : (gx_cells S w)[o]? = some (S.2.2.1 o, gx_ce S (w o) s) := by
  unfold gx_cells
  rw [gx_cs_get, h]
  simp
theorem gx_fs_congr (ad : Nat → Nat) {f g : Nat → Int32} : ∀ (t : List (Option Nat)) (k : Nat), (∀ i, k ≤ i → f i = g i) → gx_fs ad f k t = gx_fs ad g k t := by
  intro t
  induction t with
  | nil => intro k _; rfl
  | cons a t ih =>
    intro k h
    have e := ih (k + 1) (fun i hi => h i (by omega))
    cases a with
    | none => simp only [gx_fs]; rw [e, h k (Nat.le_refl k)]
    | some o => simp only [gx_fs]; rw [e]
theorem gx_fs_set (ad : Nat → Nat) {f : Nat → Int32} {x : Int32} : ∀ (t : List (Option Nat)) (j k : Nat), t[k]? = some none → (gx_fs ad f j t).set k (.int x) = gx_fs ad (upd f (j + k) x) j t := by
  intro t
  induction t with
  | nil => intro j k h; simp at h
  | cons a t ih =>
    intro j k h
    cases k with
    | zero =>
      simp only [List.getElem?_cons_zero, Option.some.injEq] at h
      subst h
      simp only [gx_fs, List.set_cons_zero, Nat.add_zero]
      rw [gx_fs_congr ad (f := upd f j x) (g := f) t (j + 1) (fun i hi => by simp [upd]; omega)]
      simp [upd]
    | succ k =>
      have e := ih (j + 1) k (by simpa using h)
      rw [show j + 1 + k = j + (k + 1) by omega] at e
      cases a with
      | none =>
        simp only [gx_fs, List.set_cons_succ]
        rw [e]
        simp [upd]
      | some o =>
        simp only [gx_fs, List.set_cons_succ]
        rw [e]
theorem gx_fs_int (ad : Nat → Nat) {f : Nat → Int32} : ∀ (t : List (Option Nat)) (j k : Nat), t[k]? = some none → (gx_fs ad f j t)[k]? = some (.int (f (j + k))) := by
  intro t
  induction t with
  | nil => intro j k h; simp at h
  | cons a t ih =>
    intro j k h
    cases k with
    | zero =>
      simp only [List.getElem?_cons_zero, Option.some.injEq] at h
      subst h
      simp [gx_fs]
    | succ k =>
      have e := ih (j + 1) k (by simpa using h)
      rw [show j + 1 + k = j + (k + 1) by omega] at e
      cases a <;> simpa [gx_fs] using e
theorem gx_fs_ref (ad : Nat → Nat) {f : Nat → Int32} {o : Nat} : ∀ (t : List (Option Nat)) (j k : Nat), t[k]? = some (some o) → (gx_fs ad f j t)[k]? = some (.ref (ad o)) := by
  intro t
  induction t with
  | nil => intro j k h; simp at h
  | cons a t ih =>
    intro j k h
    cases k with
    | zero =>
      simp only [List.getElem?_cons_zero, Option.some.injEq] at h
      subst h
      simp [gx_fs]
    | succ k =>
      have e := ih (j + 1) k (by simpa using h)
      cases a <;> simpa [gx_fs] using e
theorem gx_fs_len (ad : Nat → Nat) {f : Nat → Int32} : ∀ (t : List (Option Nat)) (j : Nat), (gx_fs ad f j t).length = t.length := by
  intro t
  induction t with
  | nil => intro j; rfl
  | cons a t ih => intro j; cases a <;> simp [gx_fs, ih]
/-- one place of one object gets a number -/
def gx_w (w : gx_Wd) (o k : Nat) (x : Int32) : gx_Wd := fun a => if a = o then upd (w o) k x else w a
theorem gx_cells_set {S : gx_Sd} {w : gx_Wd} {o k : Nat} {x : Int32} {s : gx_Sh} {e : va_E} (h : S.1[o]? = some s) (he : e = gx_ce S (upd (w o) k x) s) : (gx_cells S w).set o (S.2.2.1 o, e) = gx_cells S (gx_w w o k x) := by
  subst he
  apply List.ext_getElem?
  intro i
  rw [List.getElem?_set]
  unfold gx_cells
  rw [gx_cs_get, gx_cs_get]
  by_cases hi : o = i
  · subst hi
    have hlt : o < (gx_cs S w 0 S.1).length := by
      have h2 := gx_get (w := w) h
      unfold gx_cells at h2
      exact (List.getElem?_eq_some_iff.mp h2).1
    simp [h, hlt, gx_w]
  · simp only [if_neg hi]
    have : ¬ i = o := fun e => hi e.symm
    simp [gx_w, this]
/-- the addresses of the side's objects -/
def gx_A (S : gx_Sd) : Nat → Prop := fun q => ∃ k, k < S.1.length ∧ q = S.2.2.1 k
def gx_DD (S : gx_Sd) : Prop := ∀ i j, i < S.1.length → j < S.1.length → S.2.2.1 i = S.2.2.1 j → i = j
theorem gx_cells_at {S : gx_Sd} {w : gx_Wd} {i : Nat} {q : Nat × va_E} (h : (gx_cells S w)[i]? = some q) : i < S.1.length ∧ q.1 = S.2.2.1 i := by
  unfold gx_cells at h
  rw [gx_cs_get] at h
  cases hs : S.1[i]? with
  | none => rw [hs] at h; simp at h
  | some s =>
    rw [hs] at h
    simp at h
    exact ⟨(List.getElem?_eq_some_iff.mp hs).1, by rw [← h]⟩
theorem gx_DD.d {S : gx_Sd} (h : gx_DD S) (w : gx_Wd) : va_D (gx_A S) (gx_cells S w) := by
  refine ⟨fun i j p q hi hj e => ?_, fun k q hk => ?_⟩
  · obtain ⟨a1, a2⟩ := gx_cells_at hi
    obtain ⟨b1, b2⟩ := gx_cells_at hj
    exact h i j a1 b1 (by rw [← a2, ← b2]; exact e)
  · obtain ⟨a1, a2⟩ := gx_cells_at hk
    exact ⟨k, a1, a2⟩
/-- the texts of the class Text, by their places: entry, text, bytes -/
def gx_tx : List (Nat × String × List Int32) := [(65, "KN,D;", [75, 78, 44, 68, 59]), (67, "D,N;", [68, 44, 78, 59]), (69, "N,D;", [78, 44, 68, 59]), (71, "N;", [78, 59]), (73, "D,D;", [68, 44, 68, 59]), (75, "", []), (84, "bctslh", [98, 99, 116, 115, 108, 104])]
def gx_txl : List Nat := gx_tx.map (fun q => q.2.2.length)
def gx_txb : List (List Int32) := gx_tx.map (fun q => q.2.2)
/-- what is known of texts and statics -/
def gx_SX (S : gx_Sd) (U : State) (H : Heap) : Prop :=
  vk_S 7 gx_txl gx_txb (fun i => S.2.2.1 (1000 + i)) S.2.2.2.2 (gx_A S) U H ∧
  (∀ i, i < 7 → vk_R "EachBearsPillar$Text" (gx_tx.getD i (0, "", [])).1 (gx_tx.getD i (0, "", [])).2.1 (S.2.2.1 (1000 + i)) U) ∧
  va_Z "java/lang/String" "COMPACT_STRINGS" "Z" (.int 1) (gx_A S) U H ∧
  (∃ v : Value, (v = .null ∨ ∃ a, v = .ref a) ∧ va_Z "jdk/internal/util/Preconditions" "SIOOBE_FORMATTER" "Ljava/util/function/BiFunction;" v (gx_A S) U H)
theorem gx_SX.to {S : gx_Sd} {s U : State} {H0 H : Heap} (hW : s.WarmedH U.vm) (hq : ∀ a : Nat, a < H0.size → ¬ gx_A S a → H[a]? = H0[a]?) (h : gx_SX S s H0) : gx_SX S U H := by
  obtain ⟨h1, h2, h3, v, h4, h5⟩ := h
  exact ⟨(h1.moved hW.alike).kept hq, fun i hi => (h2 i hi).warm hW, (h3.moved hW.alike).kept hq, v, h4, (h5.moved hW.alike).kept hq⟩
theorem gx_SX.same {S : gx_Sd} {s U : State} {H : Heap} (hv : U.vm = s.vm) (h : gx_SX S s H) : gx_SX S U H := by
  obtain ⟨h1, h2, h3, v, h4, h5⟩ := h
  have ha : s.vm.Alike U.vm := by rw [hv]; exact Vm.Alike.refl _
  exact ⟨h1.moved ha, fun i hi => (h2 i hi).same hv, h3.moved ha, v, h4, h5.moved ha⟩
end
section
/-! ===== membership among the good words, by places in the tables ===== -/
theorem gx_ib {i : Nat} {w : Cond} (h : tables_1[i]? = some w) (hg : goodWord w = true) : w ∈ gx_big := List.mem_filter.mpr ⟨List.mem_append_right _ (List.mem_of_getElem? h), hg⟩
theorem gx_uws {C : String} {T : u_T} {N : Nat} {ps : List Nat} (h : ((List.range N).all fun k => decide (tables_1[ps.getD k 0]? = some (u_lay C T k)) && goodWord (u_lay C T k)) = true) : ∀ w ∈ u_ws C T N, w ∈ gx_big := by
  intro w hw
  obtain ⟨k, hk, rfl⟩ := List.mem_map.mp hw
  have h1 := List.all_eq_true.mp h k hk
  simp only [Bool.and_eq_true, decide_eq_true_eq] at h1
  exact gx_ib h1.1 h1.2
def gx_wl (L : List (Nat × Cond)) : Bool := L.all fun q => decide (tables_1[q.1]? = some q.2) && goodWord q.2
theorem gx_wb {L : List (Nat × Cond)} (h : gx_wl L = true) (i : Nat) {n : Nat} {w : Cond} (hi : L[i]? = some (n, w)) : w ∈ gx_big := by
  have h1 := List.all_eq_true.mp h _ (List.mem_of_getElem? hi)
  simp only [Bool.and_eq_true, decide_eq_true_eq] at h1
  exact gx_ib h1.1 h1.2
def gx_nl (L : List (Nat × Cond)) : Bool := L.all fun q => decide (tables_1[q.1]? = some q.2) && gx_isNest q.2
theorem gx_nb {L : List (Nat × Cond)} (h : gx_nl L = true) (i : Nat) {n : Nat} {w : Cond} (hi : L[i]? = some (n, w)) : w ∈ gx_nest := by
  have h1 := List.all_eq_true.mp h _ (List.mem_of_getElem? hi)
  simp only [Bool.and_eq_true, decide_eq_true_eq] at h1
  exact List.mem_filter.mpr ⟨List.mem_append_right _ (List.mem_of_getElem? h1.1), h1.2⟩
theorem gx_sb {y : MethodName} {n i : Nat} (h : lw_privs[i]? = some (y, n)) : Cond.selects y.cls y y ∈ gx_big := by
  refine List.mem_filter.mpr ⟨List.mem_append_left _ ?_, rfl⟩
  exact List.mem_map.mpr ⟨(y, n), List.mem_of_getElem? h, rfl⟩
/-! ===== the classes of both sides, their fields in the order of the slots ===== -/
def gx_FE : u_T := fun k => match k with
  | 0 => ("EachBearsPillar", "now", "LEachBearsPillar$Roof;", true)
  | 1 => ("EachBearsPillar", "draft", "LEachBearsPillar$Roof;", true)
  | 2 => ("EachBearsPillar", "kept", "LEachBearsPillar$Roof;", true)
  | 3 => ("EachBearsPillar", "hasImage", "Z", false)
  | 4 => ("EachBearsPillar", "mind", "LEachBearsPillar$Mind;", true)
  | 5 => ("EachBearsPillar", "text", "LEachBearsPillar$Text;", true)
  | 6 => ("EachBearsPillar", "walk", "LEachBearsPillar$Walk;", true)
  | 7 => ("EachBearsPillar", "standing", "LEachBearsPillar$Orders;", true)
  | 8 => ("EachBearsPillar", "told", "[I", true)
  | 9 => ("EachBearsPillar", "toldLength", "I", false)
  | _ => ("EachBearsPillar", "refused", "[I", true)
def gx_yE : Nat → FieldType := fun k => match k with
  | 0 => .object "EachBearsPillar$Roof"
  | 1 => .object "EachBearsPillar$Roof"
  | 2 => .object "EachBearsPillar$Roof"
  | 3 => .boolean
  | 4 => .object "EachBearsPillar$Mind"
  | 5 => .object "EachBearsPillar$Text"
  | 6 => .object "EachBearsPillar$Walk"
  | 7 => .object "EachBearsPillar$Orders"
  | 8 => .array .int
  | 9 => .int
  | _ => .array .int
def gx_FR : u_T := fun k => match k with
  | 0 => ("EachBearsPillar$Roof", "bearers", "I", false)
  | 1 => ("EachBearsPillar$Roof", "at", "I", false)
  | 2 => ("EachBearsPillar$Roof", "level", "I", false)
  | 3 => ("EachBearsPillar$Roof", "kind", "[I", true)
  | 4 => ("EachBearsPillar$Roof", "strength", "[I", true)
  | 5 => ("EachBearsPillar$Roof", "height", "[I", true)
  | 6 => ("EachBearsPillar$Roof", "block", "[I", true)
  | 7 => ("EachBearsPillar$Roof", "weight", "[I", true)
  | _ => ("EachBearsPillar$Roof", "ground", "[I", true)
def gx_yR : Nat → FieldType := fun k => match k with
  | 0 => .int
  | 1 => .int
  | 2 => .int
  | 3 => .array .int
  | 4 => .array .int
  | 5 => .array .int
  | 6 => .array .int
  | 7 => .array .int
  | _ => .array .int
def gx_FM : u_T := fun k => match k with
  | 0 => ("EachBearsPillar$Mind", "roof", "LEachBearsPillar$Roof;", true)
  | 1 => ("EachBearsPillar$Mind", "at", "I", false)
  | 2 => ("EachBearsPillar$Mind", "level", "I", false)
  | 3 => ("EachBearsPillar$Mind", "idle", "I", false)
  | 4 => ("EachBearsPillar$Mind", "who", "[I", true)
  | 5 => ("EachBearsPillar$Mind", "raised", "[I", true)
  | 6 => ("EachBearsPillar$Mind", "weight", "[I", true)
  | 7 => ("EachBearsPillar$Mind", "bearing", "[I", true)
  | 8 => ("EachBearsPillar$Mind", "might", "[I", true)
  | _ => ("EachBearsPillar$Mind", "load", "[I", true)
def gx_yM : Nat → FieldType := fun k => match k with
  | 0 => .object "EachBearsPillar$Roof"
  | 1 => .int
  | 2 => .int
  | 3 => .int
  | 4 => .array .int
  | 5 => .array .int
  | 6 => .array .int
  | 7 => .array .int
  | 8 => .array .int
  | _ => .array .int
def gx_FT : u_T := fun k => match k with
  | 0 => ("EachBearsPillar$Text", "letters", "[I", true)
  | 1 => ("EachBearsPillar$Text", "length", "I", false)
  | 2 => ("EachBearsPillar$Text", "place", "I", false)
  | 3 => ("EachBearsPillar$Text", "opener", "I", false)
  | 4 => ("EachBearsPillar$Text", "numbers", "[I", true)
  | _ => ("EachBearsPillar$Text", "numbersRead", "I", false)
def gx_yT : Nat → FieldType := fun k => match k with
  | 0 => .array .int
  | 1 => .int
  | 2 => .int
  | 3 => .int
  | 4 => .array .int
  | _ => .int
def gx_FW : u_T := fun k => match k with
  | 0 => ("EachBearsPillar$Walk", "mind", "LEachBearsPillar$Mind;", true)
  | 1 => ("EachBearsPillar$Walk", "minutes", "[I", true)
  | 2 => ("EachBearsPillar$Walk", "queue", "[I", true)
  | _ => ("EachBearsPillar$Walk", "queued", "I", false)
def gx_yW : Nat → FieldType := fun k => match k with
  | 0 => .object "EachBearsPillar$Mind"
  | 1 => .array .int
  | 2 => .array .int
  | _ => .int
def gx_FO : u_T := fun k => match k with
  | 0 => ("EachBearsPillar$Orders", "mind", "LEachBearsPillar$Mind;", true)
  | 1 => ("EachBearsPillar$Orders", "most", "[I", true)
  | _ => ("EachBearsPillar$Orders", "ways", "[I", true)
def gx_yO : Nat → FieldType := fun k => match k with
  | 0 => .object "EachBearsPillar$Mind"
  | 1 => .array .int
  | _ => .array .int
def gx_FD : u_T := fun k => match k with
  | 0 => ("EachBearsPillarModel", "bearers", "I", false)
  | 1 => ("EachBearsPillarModel", "at", "I", false)
  | 2 => ("EachBearsPillarModel", "level", "I", false)
  | 3 => ("EachBearsPillarModel", "fed", "I", false)
  | 4 => ("EachBearsPillarModel", "rows", "I", false)
  | 5 => ("EachBearsPillarModel", "kind", "[I", true)
  | 6 => ("EachBearsPillarModel", "strength", "[I", true)
  | 7 => ("EachBearsPillarModel", "tall", "[I", true)
  | 8 => ("EachBearsPillarModel", "block", "[I", true)
  | 9 => ("EachBearsPillarModel", "span", "[I", true)
  | 10 => ("EachBearsPillarModel", "ground", "[I", true)
  | 11 => ("EachBearsPillarModel", "text", "[I", true)
  | 12 => ("EachBearsPillarModel", "row", "[I", true)
  | 13 => ("EachBearsPillarModel", "refused", "[I", true)
  | 14 => ("EachBearsPillarModel", "place", "I", false)
  | 15 => ("EachBearsPillarModel", "one", "I", false)
  | 16 => ("EachBearsPillarModel", "two", "I", false)
  | 17 => ("EachBearsPillarModel", "sort", "I", false)
  | 18 => ("EachBearsPillarModel", "stands", "[I", true)
  | 19 => ("EachBearsPillarModel", "slack", "I", false)
  | 20 => ("EachBearsPillarModel", "minutes", "[I", true)
  | 21 => ("EachBearsPillarModel", "waits", "[I", true)
  | 22 => ("EachBearsPillarModel", "waiting", "I", false)
  | 23 => ("EachBearsPillarModel", "seed", "I", false)
  | 24 => ("EachBearsPillarModel", "keptSpan", "[I", true)
  | 25 => ("EachBearsPillarModel", "hasImage", "Z", false)
  | 26 => ("EachBearsPillarModel", "imageBearers", "I", false)
  | 27 => ("EachBearsPillarModel", "imageAt", "I", false)
  | 28 => ("EachBearsPillarModel", "imageLevel", "I", false)
  | 29 => ("EachBearsPillarModel", "imageKind", "[I", true)
  | 30 => ("EachBearsPillarModel", "imageStrength", "[I", true)
  | 31 => ("EachBearsPillarModel", "imageTall", "[I", true)
  | 32 => ("EachBearsPillarModel", "imageBlock", "[I", true)
  | 33 => ("EachBearsPillarModel", "imageSpan", "[I", true)
  | _ => ("EachBearsPillarModel", "imageGround", "[I", true)
def gx_yD : Nat → FieldType := fun k => match k with
  | 0 => .int
  | 1 => .int
  | 2 => .int
  | 3 => .int
  | 4 => .int
  | 5 => .array .int
  | 6 => .array .int
  | 7 => .array .int
  | 8 => .array .int
  | 9 => .array .int
  | 10 => .array .int
  | 11 => .array .int
  | 12 => .array .int
  | 13 => .array .int
  | 14 => .int
  | 15 => .int
  | 16 => .int
  | 17 => .int
  | 18 => .array .int
  | 19 => .int
  | 20 => .array .int
  | 21 => .array .int
  | 22 => .int
  | 23 => .int
  | 24 => .array .int
  | 25 => .boolean
  | 26 => .int
  | 27 => .int
  | 28 => .int
  | 29 => .array .int
  | 30 => .array .int
  | 31 => .array .int
  | 32 => .array .int
  | 33 => .array .int
  | _ => .array .int
abbrev gx_cl : List vw_C := [("EachBearsPillar", gx_FE, 11), ("EachBearsPillar$Roof", gx_FR, 9), ("EachBearsPillar$Mind", gx_FM, 10), ("EachBearsPillar$Text", gx_FT, 6), ("EachBearsPillar$Walk", gx_FW, 4), ("EachBearsPillar$Orders", gx_FO, 3), ("EachBearsPillarModel", gx_FD, 35)]
theorem gx_uE_0 : ((List.range 11).all fun k => decide (tables_1[([202, 204, 206, 208, 210, 212, 214, 216, 218, 220, 222] : List Nat).getD k 0]? = some (u_lay "EachBearsPillar" gx_FE k)) && goodWord (u_lay "EachBearsPillar" gx_FE k)) = true := by decide +kernel
theorem gx_uE : ∀ w ∈ u_ws "EachBearsPillar" gx_FE 11, w ∈ gx_big := gx_uws gx_uE_0
theorem gx_nE : ∀ a, a < 11 → ∀ b, b < 11 → a ≠ b → (gx_FE a).2.1 ≠ (gx_FE b).2.1 := by decide +kernel
theorem gx_tE : ∀ k, k < 11 → parseFieldDescriptor (gx_FE k).2.2.1 = some (gx_yE k) := by decide +kernel
theorem gx_uR_0 : ((List.range 9).all fun k => decide (tables_1[([58, 60, 62, 64, 66, 68, 70, 72, 74] : List Nat).getD k 0]? = some (u_lay "EachBearsPillar$Roof" gx_FR k)) && goodWord (u_lay "EachBearsPillar$Roof" gx_FR k)) = true := by decide +kernel
theorem gx_uR : ∀ w ∈ u_ws "EachBearsPillar$Roof" gx_FR 9, w ∈ gx_big := gx_uws gx_uR_0
theorem gx_nR : ∀ a, a < 9 → ∀ b, b < 9 → a ≠ b → (gx_FR a).2.1 ≠ (gx_FR b).2.1 := by decide +kernel
theorem gx_tR : ∀ k, k < 9 → parseFieldDescriptor (gx_FR k).2.2.1 = some (gx_yR k) := by decide +kernel
theorem gx_uM_0 : ((List.range 10).all fun k => decide (tables_1[([106, 108, 110, 112, 114, 116, 118, 120, 122, 124] : List Nat).getD k 0]? = some (u_lay "EachBearsPillar$Mind" gx_FM k)) && goodWord (u_lay "EachBearsPillar$Mind" gx_FM k)) = true := by decide +kernel
theorem gx_uM : ∀ w ∈ u_ws "EachBearsPillar$Mind" gx_FM 10, w ∈ gx_big := gx_uws gx_uM_0
theorem gx_nM : ∀ a, a < 10 → ∀ b, b < 10 → a ≠ b → (gx_FM a).2.1 ≠ (gx_FM b).2.1 := by decide +kernel
theorem gx_tM : ∀ k, k < 10 → parseFieldDescriptor (gx_FM k).2.2.1 = some (gx_yM k) := by decide +kernel
theorem gx_uT_0 : ((List.range 6).all fun k => decide (tables_1[([143, 145, 147, 149, 151, 153] : List Nat).getD k 0]? = some (u_lay "EachBearsPillar$Text" gx_FT k)) && goodWord (u_lay "EachBearsPillar$Text" gx_FT k)) = true := by decide +kernel
theorem gx_uT : ∀ w ∈ u_ws "EachBearsPillar$Text" gx_FT 6, w ∈ gx_big := gx_uws gx_uT_0
theorem gx_nT : ∀ a, a < 6 → ∀ b, b < 6 → a ≠ b → (gx_FT a).2.1 ≠ (gx_FT b).2.1 := by decide +kernel
theorem gx_tT : ∀ k, k < 6 → parseFieldDescriptor (gx_FT k).2.2.1 = some (gx_yT k) := by decide +kernel
theorem gx_uW_0 : ((List.range 4).all fun k => decide (tables_1[([166, 168, 170, 172] : List Nat).getD k 0]? = some (u_lay "EachBearsPillar$Walk" gx_FW k)) && goodWord (u_lay "EachBearsPillar$Walk" gx_FW k)) = true := by decide +kernel
theorem gx_uW : ∀ w ∈ u_ws "EachBearsPillar$Walk" gx_FW 4, w ∈ gx_big := gx_uws gx_uW_0
theorem gx_nW : ∀ a, a < 4 → ∀ b, b < 4 → a ≠ b → (gx_FW a).2.1 ≠ (gx_FW b).2.1 := by decide +kernel
theorem gx_tW : ∀ k, k < 4 → parseFieldDescriptor (gx_FW k).2.2.1 = some (gx_yW k) := by decide +kernel
theorem gx_uO_0 : ((List.range 3).all fun k => decide (tables_1[([184, 186, 188] : List Nat).getD k 0]? = some (u_lay "EachBearsPillar$Orders" gx_FO k)) && goodWord (u_lay "EachBearsPillar$Orders" gx_FO k)) = true := by decide +kernel
theorem gx_uO : ∀ w ∈ u_ws "EachBearsPillar$Orders" gx_FO 3, w ∈ gx_big := gx_uws gx_uO_0
theorem gx_nO : ∀ a, a < 3 → ∀ b, b < 3 → a ≠ b → (gx_FO a).2.1 ≠ (gx_FO b).2.1 := by decide +kernel
theorem gx_tO : ∀ k, k < 3 → parseFieldDescriptor (gx_FO k).2.2.1 = some (gx_yO k) := by decide +kernel
theorem gx_uD_0 : ((List.range 35).all fun k => decide (tables_1[([681, 683, 685, 687, 689, 691, 693, 695, 697, 699, 701, 703, 705, 707, 709, 711, 713, 715, 717, 719, 721, 723, 725, 727, 729, 731, 733, 735, 737, 739, 741, 743, 745, 747, 749] : List Nat).getD k 0]? = some (u_lay "EachBearsPillarModel" gx_FD k)) && goodWord (u_lay "EachBearsPillarModel" gx_FD k)) = true := by decide +kernel
theorem gx_uD : ∀ w ∈ u_ws "EachBearsPillarModel" gx_FD 35, w ∈ gx_big := gx_uws gx_uD_0
theorem gx_nD : ∀ a, a < 35 → ∀ b, b < 35 → a ≠ b → (gx_FD a).2.1 ≠ (gx_FD b).2.1 := by decide +kernel
theorem gx_tD : ∀ k, k < 35 → parseFieldDescriptor (gx_FD k).2.2.1 = some (gx_yD k) := by decide +kernel
theorem gx_clok : ∀ (ci : Nat) (C : String) (T : u_T) (N : Nat), gx_cl[ci]? = some (C, T, N) → (∀ w ∈ u_ws C T N, w ∈ gx_big) ∧ (∃ ty : Nat → FieldType, ∀ k, k < N → parseFieldDescriptor (T k).2.2.1 = some (ty k)) ∧ (∀ a, a < N → ∀ b, b < N → a ≠ b → (T a).2.1 ≠ (T b).2.1) := by
  intro ci C T N h
  match ci, h with
  | 0, h => cases h; exact ⟨gx_uE, ⟨gx_yE, gx_tE⟩, gx_nE⟩
  | 1, h => cases h; exact ⟨gx_uR, ⟨gx_yR, gx_tR⟩, gx_nR⟩
  | 2, h => cases h; exact ⟨gx_uM, ⟨gx_yM, gx_tM⟩, gx_nM⟩
  | 3, h => cases h; exact ⟨gx_uT, ⟨gx_yT, gx_tT⟩, gx_nT⟩
  | 4, h => cases h; exact ⟨gx_uW, ⟨gx_yW, gx_tW⟩, gx_nW⟩
  | 5, h => cases h; exact ⟨gx_uO, ⟨gx_yO, gx_tO⟩, gx_nO⟩
  | 6, h => cases h; exact ⟨gx_uD, ⟨gx_yD, gx_tD⟩, gx_nD⟩
  | _ + 7, h => simp [gx_cl] at h
end
section
/-! ===== a method's book: name, bytes, locals, answer, room, the side's shapes ===== -/
abbrev gx_Mi : Type := MethodName × ByteArray × Nat × Option FieldType × Room × List gx_Sh
abbrev gx_X : Type := Program × Launch × Env × State × MethodId × Array Value × List Frame × Method × Code × gx_Sd × Option gx_V × gx_Wd
def gx_res : gx_X → Option gx_V
  | (_, _, _, _, _, _, _, _, _, _, res, _) => res
def gx_wr : gx_X → gx_Wd
  | (_, _, _, _, _, _, _, _, _, _, _, w1) => w1
def gx_PX (S : gx_Sd) (w : gx_Wd) (U : State) : Prop := va_P S.2.1 gx_cl (gx_cells S w) U.heap ∧ va_K S.2.1 gx_cl [(S.2.2.2.1, .int)] U ∧ gx_DD S ∧ gx_NW U ∧ gx_SX S U U.heap
def gx_Q (S : gx_Sd) (res : Option gx_V) (w1 : gx_Wd) : Array Value → State → Outcome → State → Prop := fun _ st oc t => (oc = .returned (res.map (gx_cv S.2.2.1)) ∧ va_P S.2.1 gx_cl (gx_cells S w1) t.heap) ∧ va_F (gx_A S) st t
def gx_MT (M : gx_Mi) (args : List gx_V) (w : gx_Wd) (res : Option gx_V) (w1 : gx_Wd) : Prop := ∀ (l : Launch) (S : gx_Sd), S.1 = M.2.2.2.2.2 → Met l M.1 (.code M.1 M.2.1 M.2.2.1 M.2.2.2.1 :: gx_big) M.2.2.2.2.1 (va_Pc (args.map (gx_cv S.2.2.1)) (gx_PX S w)) (gx_Q S res w1) 0 0 (gx_A S)
def gx_Ok (X : gx_X) (M : gx_Mi) : Prop := match X with
  | (p, l, e, s, m, args, below, meth, c, S, res, w1) => p.tables.exec = Jvm.exec ∧ c.code = M.2.1 ∧ c.maxLocals = M.2.2.1 ∧ (∀ w ∈ (Cond.code M.1 M.2.1 M.2.2.1 M.2.2.2.1 :: gx_big), w.before args s = true) ∧ s.vm.findClass M.1.cls = some m.cls ∧ meth.sig.returnType = M.2.2.2.1 ∧ meth.locks = false ∧ va_K S.2.1 gx_cl [(S.2.2.2.1, .int)] s ∧ gx_DD S ∧ gx_NW s ∧ gx_SX S s s.heap ∧ S.1 = M.2.2.2.2.2
def gx_lc (ad : Nat → Nat) : Nat → List (Option gx_V) → List (Nat × Value)
  | _, [] => []
  | k, none :: t => gx_lc ad (k + 1) t
  | k, some v :: t => (k, gx_cv ad v) :: gx_lc ad (k + 1) t
/-- THE GOAL: at pc, with these locals, this stack, in this world, the method comes to its end -/
def gx_G (X : gx_X) (M : gx_Mi) (pc : Nat) (ls : List (Option gx_V)) (st : List gx_V) (w : gx_Wd) : Prop := match X with
  | (p, l, e, s, m, args, below, meth, c, S, res, w1) => ∀ (H : Heap) (locs : List Loc) (LS : Array Slot), va_P S.2.1 gx_cl (gx_cells S w) H → va_S (gx_A S) s.heap H locs → lv_has LS M.2.2.1 (gx_lc S.2.2.1 0 ls) → W p l e M.2.2.2.2.1 s m args below meth c H locs 0 0 (MQ below (gx_Q S res w1) args s 0 0 (gx_A S)) (F0 m pc LS (st.map (gx_cv S.2.2.1)))
/-! locals -/
def gx_n {α : Type} : List (Option α) → Nat → Option α
  | [], _ => none
  | a :: _, 0 => a
  | _ :: t, k + 1 => gx_n t k
def gx_st {α : Type} : List (Option α) → Nat → α → List (Option α)
  | [], 0, v => [some v]
  | [], k + 1, v => none :: gx_st [] k v
  | _ :: t, 0, v => some v :: t
  | a :: t, k + 1, v => a :: gx_st t k v
theorem gx_lc_iff (ad : Nat → Nat) : ∀ (ls : List (Option gx_V)) (k : Nat) (q : Nat × Value), q ∈ gx_lc ad k ls ↔ ∃ i v, gx_n ls i = some v ∧ q = (k + i, gx_cv ad v) := by
  intro ls
  induction ls with
  | nil => intro k q; simp [gx_lc, gx_n]
  | cons a t ih =>
    intro k q
    have step : (∃ i v, gx_n t i = some v ∧ q = (k + 1 + i, gx_cv ad v)) ↔ ∃ i v, gx_n (a :: t) (i + 1) = some v ∧ q = (k + (i + 1), gx_cv ad v) := by
      constructor
      · rintro ⟨i, v, h1, h2⟩; exact ⟨i, v, h1, by rw [h2, Nat.add_assoc, Nat.add_comm 1 i]⟩
      · rintro ⟨i, v, h1, h2⟩; exact ⟨i, v, h1, by rw [h2, Nat.add_assoc, Nat.add_comm 1 i]⟩
    cases a with
    | none =>
      simp only [gx_lc]
      rw [ih (k + 1) q, step]
      constructor
      · rintro ⟨i, v, h1, h2⟩; exact ⟨i + 1, v, h1, h2⟩
      · rintro ⟨i, v, h1, h2⟩
        cases i with
        | zero => simp [gx_n] at h1
        | succ i => exact ⟨i, v, h1, h2⟩
    | some u =>
      simp only [gx_lc, List.mem_cons]
      rw [ih (k + 1) q, step]
      constructor
      · rintro (h | ⟨i, v, h1, h2⟩)
        · exact ⟨0, u, rfl, h⟩
        · exact ⟨i + 1, v, h1, h2⟩
      · rintro ⟨i, v, h1, h2⟩
        cases i with
        | zero => left; simp only [gx_n, Option.some.injEq] at h1; rw [h1]; exact h2
        | succ i => right; exact ⟨i, v, h1, h2⟩
theorem gx_n_st {α : Type} : ∀ (ls : List (Option α)) (k : Nat) (v : α) (i : Nat), gx_n (gx_st ls k v) i = if i = k then some v else gx_n ls i := by
  intro ls
  induction ls with
  | nil =>
    intro k
    induction k with
    | zero => intro v i; cases i <;> simp [gx_st, gx_n]
    | succ k ih => intro v i; cases i with
      | zero => simp [gx_st, gx_n]
      | succ i => simp only [gx_st, gx_n]; rw [ih v i]; simp [gx_n]
  | cons a t ih =>
    intro k v i
    cases k with
    | zero => cases i <;> simp [gx_st, gx_n]
    | succ k => cases i with
      | zero => simp [gx_st, gx_n]
      | succ i => simp only [gx_st, gx_n]; rw [ih k v i]; simp
theorem gx_lat {ad : Nat → Nat} {LS : Array Slot} {nL : Nat} {ls : List (Option gx_V)} (h : lv_has LS nL (gx_lc ad 0 ls)) {i : Nat} {v : gx_V} (hi : gx_n ls i = some v) : LS[i]? = some (.val (gx_cv ad v)) :=
  h.2.2 (i, gx_cv ad v) ((gx_lc_iff ad ls 0 _).mpr ⟨i, v, hi, by simp⟩)
theorem gx_lmono {ad : Nat → Nat} {LS : Array Slot} {nL : Nat} {l : List (Nat × Value)} {ls : List (Option gx_V)} (h : lv_has LS nL l) (hm : ∀ i v, gx_n ls i = some v → (i, gx_cv ad v) ∈ l) : lv_has LS nL (gx_lc ad 0 ls) := by
  refine ⟨h.1, h.2.1, fun q hq => ?_⟩
  obtain ⟨i, v, h1, h2⟩ := (gx_lc_iff ad ls 0 q).mp hq
  rw [Nat.zero_add] at h2
  subst h2
  exact h.2.2 _ (hm i v h1)
theorem gx_lset {ad : Nat → Nat} {LS : Array Slot} {nL k : Nat} {ls : List (Option gx_V)} {v : gx_V} (h : lv_has LS nL ((k, gx_cv ad v) :: (gx_lc ad 0 ls).filter (fun q => !(q.1 == k) && !(q.1 + 1 == k && q.2.category == 2)))) : lv_has LS nL (gx_lc ad 0 (gx_st ls k v)) := by
  refine gx_lmono h fun i u hi => ?_
  rw [gx_n_st] at hi
  by_cases hk : i = k
  · subst hk
    rw [if_pos rfl] at hi
    cases hi
    exact List.mem_cons_self
  · rw [if_neg hk] at hi
    refine List.mem_cons_of_mem _ (List.mem_filter.mpr ⟨(gx_lc_iff ad ls 0 _).mpr ⟨i, u, hi, by simp⟩, ?_⟩)
    have hc : (gx_cv ad u).category = 1 := by cases u <;> rfl
    simp [hk, hc]
/-- fewer locals told -/
def gx_le {α : Type} : List (Option α) → List (Option α) → Prop
  | [], _ => True
  | none :: t, [] => gx_le t []
  | some _ :: _, [] => False
  | none :: t, _ :: u => gx_le t u
  | some v :: t, a :: u => a = some v ∧ gx_le t u
theorem gx_le_n {α : Type} : ∀ (l' l : List (Option α)), gx_le l' l → ∀ i v, gx_n l' i = some v → gx_n l i = some v := by
  intro l'
  induction l' with
  | nil => intro l _ i v h; simp [gx_n] at h
  | cons a t ih =>
    intro l h i v hv
    cases l with
    | nil =>
      cases a with
      | none => cases i with
        | zero => simp [gx_n] at hv
        | succ i => have := ih [] h i v hv; simp [gx_n] at this
      | some u => exact absurd h (by simp [gx_le])
    | cons b u =>
      cases a with
      | none => cases i with
        | zero => simp [gx_n] at hv
        | succ i => exact ih u h i v hv
      | some x =>
        obtain ⟨h1, h2⟩ := h
        cases i with
        | zero => rw [h1]; exact hv
        | succ i => exact ih u h2 i v hv
variable {X : gx_X} {M : gx_Mi} {pc : Nat} {ls ls' : List (Option gx_V)} {st : List gx_V} {w : gx_Wd}
theorem gx_weak (h : gx_le ls' ls) (k : gx_G X M pc ls' st w) : gx_G X M pc ls st w := by
  obtain ⟨p, l, e, s, m, args, below, meth, c, S, res, w1⟩ := X
  intro H locs LS hP hS hl
  exact k H locs LS hP hS (gx_lmono hl fun i v hi => (gx_lc_iff _ ls 0 _).mpr ⟨i, v, gx_le_n ls' ls h i v hi, by simp⟩)
theorem gx_cat (ad : Nat → Nat) (v : gx_V) : (gx_cv ad v).category = 1 := by cases v <;> rfl
theorem gx_iconst (hX : gx_Ok X M) {n : Int} {v : Int32} (hd : decode M.2.1 pc = .ok (.iconst n, 1)) (hv : Int32.ofInt n = v) (k : gx_G X M (pc + 1) ls (.inl v :: st) w) : gx_G X M pc ls (st) w := by
  obtain ⟨p, l, e, s, m, args, below, meth, c, S, res, w1⟩ := X
  obtain ⟨hx, hb, hml, hts, hown, hrt, hlk, hK, hDD, hNW, hSX, hsh⟩ := hX
  intro H locs LS hP hS hl
  exact lv_iconst hx hb hd hv (k H locs LS hP hS hl)
theorem gx_bipush (hX : gx_Ok X M) {n : Int} {v : Int32} (hd : decode M.2.1 pc = .ok (.bipush n, 2)) (hv : (Int8.ofInt n).toInt32 = v) (k : gx_G X M (pc + 2) ls (.inl v :: st) w) : gx_G X M pc ls (st) w := by
  obtain ⟨p, l, e, s, m, args, below, meth, c, S, res, w1⟩ := X
  obtain ⟨hx, hb, hml, hts, hown, hrt, hlk, hK, hDD, hNW, hSX, hsh⟩ := hX
  intro H locs LS hP hS hl
  exact lv_bipush hx hb hd hv (k H locs LS hP hS hl)
theorem gx_sipush (hX : gx_Ok X M) {n : Int} {v : Int32} (hd : decode M.2.1 pc = .ok (.sipush n, 3)) (hv : (Int16.ofInt n).toInt32 = v) (k : gx_G X M (pc + 3) ls (.inl v :: st) w) : gx_G X M pc ls (st) w := by
  obtain ⟨p, l, e, s, m, args, below, meth, c, S, res, w1⟩ := X
  obtain ⟨hx, hb, hml, hts, hown, hrt, hlk, hK, hDD, hNW, hSX, hsh⟩ := hX
  intro H locs LS hP hS hl
  exact lv_sipush hx hb hd hv (k H locs LS hP hS hl)
theorem gx_ldci (hX : gx_Ok X M) {ix : Nat} {v : Int32} (hd : decode M.2.1 pc = .ok (.ldc ix, 2)) (hv : Cond.constant M.1.cls ix v ∈ gx_big) (k : gx_G X M (pc + 2) ls (.inl v :: st) w) : gx_G X M pc ls (st) w := by
  obtain ⟨p, l, e, s, m, args, below, meth, c, S, res, w1⟩ := X
  obtain ⟨hx, hb, hml, hts, hown, hrt, hlk, hK, hDD, hNW, hSX, hsh⟩ := hX
  intro H locs LS hP hS hl
  exact lv_ldc hx hb hown (hts _ (List.mem_cons_of_mem _ hv)) hd (k H locs LS hP hS hl)
theorem gx_ldcw (hX : gx_Ok X M) {ix : Nat} {v : Int32} (hd : decode M.2.1 pc = .ok (.ldc_w ix, 3)) (hv : Cond.constant M.1.cls ix v ∈ gx_big) (k : gx_G X M (pc + 3) ls (.inl v :: st) w) : gx_G X M pc ls (st) w := by
  obtain ⟨p, l, e, s, m, args, below, meth, c, S, res, w1⟩ := X
  obtain ⟨hx, hb, hml, hts, hown, hrt, hlk, hK, hDD, hNW, hSX, hsh⟩ := hX
  intro H locs LS hP hS hl
  exact lv_ldcw hx hb hown (hts _ (List.mem_cons_of_mem _ hv)) hd (k H locs LS hP hS hl)
theorem gx_iload_n (hX : gx_Ok X M) {i : Fin 4} {x : Int32} (hd : decode M.2.1 pc = .ok (.iload_n i, 1)) (hi : gx_n ls i.val = some (.inl x)) (k : gx_G X M (pc + 1) ls (.inl x :: st) w) : gx_G X M pc ls (st) w := by
  obtain ⟨p, l, e, s, m, args, below, meth, c, S, res, w1⟩ := X
  obtain ⟨hx, hb, hml, hts, hown, hrt, hlk, hK, hDD, hNW, hSX, hsh⟩ := hX
  intro H locs LS hP hS hl
  exact lv_iload_n hx hb hd rfl (gx_lat hl hi) (k H locs LS hP hS hl)
theorem gx_iload (hX : gx_Ok X M) {i : Nat} {x : Int32} (hd : decode M.2.1 pc = .ok (.iload i, 2)) (hi : gx_n ls i = some (.inl x)) (k : gx_G X M (pc + 2) ls (.inl x :: st) w) : gx_G X M pc ls (st) w := by
  obtain ⟨p, l, e, s, m, args, below, meth, c, S, res, w1⟩ := X
  obtain ⟨hx, hb, hml, hts, hown, hrt, hlk, hK, hDD, hNW, hSX, hsh⟩ := hX
  intro H locs LS hP hS hl
  exact lv_iload hx hb hd (gx_lat hl hi) (k H locs LS hP hS hl)
theorem gx_aload_n (hX : gx_Ok X M) {i : Fin 4} {x : Nat} (hd : decode M.2.1 pc = .ok (.aload_n i, 1)) (hi : gx_n ls i.val = some (.inr x)) (k : gx_G X M (pc + 1) ls (.inr x :: st) w) : gx_G X M pc ls (st) w := by
  obtain ⟨p, l, e, s, m, args, below, meth, c, S, res, w1⟩ := X
  obtain ⟨hx, hb, hml, hts, hown, hrt, hlk, hK, hDD, hNW, hSX, hsh⟩ := hX
  intro H locs LS hP hS hl
  exact lv_aload_n hx hb hd rfl (gx_lat hl hi) (k H locs LS hP hS hl)
theorem gx_istore_n (hX : gx_Ok X M) {i : Fin 4} {x : Int32} (hd : decode M.2.1 pc = .ok (.istore_n i, 1)) (hn : i.val < M.2.2.1) (hs : gx_st ls i.val (.inl x) = ls') (k : gx_G X M (pc + 1) ls' st w) : gx_G X M pc ls (.inl x :: st) w := by
  obtain ⟨p, l, e, s, m, args, below, meth, c, S, res, w1⟩ := X
  obtain ⟨hx, hb, hml, hts, hown, hrt, hlk, hK, hDD, hNW, hSX, hsh⟩ := hX
  subst hs
  intro H locs LS hP hS hl
  exact lv_istore_n hx hb hd rfl hl hn rfl (fun LS' hl' => k H locs LS' hP hS (gx_lset hl'))
theorem gx_istore (hX : gx_Ok X M) {i : Nat} {x : Int32} (hd : decode M.2.1 pc = .ok (.istore i, 2)) (hn : i < M.2.2.1) (hs : gx_st ls i (.inl x) = ls') (k : gx_G X M (pc + 2) ls' st w) : gx_G X M pc ls (.inl x :: st) w := by
  obtain ⟨p, l, e, s, m, args, below, meth, c, S, res, w1⟩ := X
  obtain ⟨hx, hb, hml, hts, hown, hrt, hlk, hK, hDD, hNW, hSX, hsh⟩ := hX
  subst hs
  intro H locs LS hP hS hl
  exact lv_istore hx hb hd hl hn rfl (fun LS' hl' => k H locs LS' hP hS (gx_lset hl'))
theorem gx_astore_n (hX : gx_Ok X M) {i : Fin 4} {x : Nat} (hd : decode M.2.1 pc = .ok (.astore_n i, 1)) (hn : i.val < M.2.2.1) (hs : gx_st ls i.val (.inr x) = ls') (k : gx_G X M (pc + 1) ls' st w) : gx_G X M pc ls (.inr x :: st) w := by
  obtain ⟨p, l, e, s, m, args, below, meth, c, S, res, w1⟩ := X
  obtain ⟨hx, hb, hml, hts, hown, hrt, hlk, hK, hDD, hNW, hSX, hsh⟩ := hX
  subst hs
  intro H locs LS hP hS hl
  exact lv_astore_n hx hb hd rfl hl hn rfl (fun LS' hl' => k H locs LS' hP hS (gx_lset hl'))
theorem gx_iinc (hX : gx_Ok X M) {i : Nat} {n : Int} {x v : Int32} (hd : decode M.2.1 pc = .ok (.iinc i n, 3)) (hi : gx_n ls i = some (.inl x)) (hv : x + Int32.ofInt n = v) (hn : i < M.2.2.1) (hs : gx_st ls i (.inl v) = ls') (k : gx_G X M (pc + 3) ls' st w) : gx_G X M pc ls st w := by
  obtain ⟨p, l, e, s, m, args, below, meth, c, S, res, w1⟩ := X
  obtain ⟨hx, hb, hml, hts, hown, hrt, hlk, hK, hDD, hNW, hSX, hsh⟩ := hX
  subst hs
  intro H locs LS hP hS hl
  obtain ⟨j, hj⟩ := List.getElem?_of_mem ((gx_lc_iff S.2.2.1 ls 0 (i, .int x)).mpr ⟨i, .inl x, hi, by simp [gx_cv]⟩)
  exact lv_iinc hx hb hd hl hj hv hn rfl (fun LS' hl' => k H locs LS' hP hS (gx_lset hl'))
theorem gx_iadd (hX : gx_Ok X M) {x y : Int32} (hd : decode M.2.1 pc = .ok (.iadd, 1)) (k : gx_G X M (pc + 1) ls (.inl (x + y) :: st) w) : gx_G X M pc ls (.inl y :: .inl x :: st) w := by
  obtain ⟨p, l, e, s, m, args, below, meth, c, S, res, w1⟩ := X
  obtain ⟨hx, hb, hml, hts, hown, hrt, hlk, hK, hDD, hNW, hSX, hsh⟩ := hX
  intro H locs LS hP hS hl
  exact lv_iadd hx hb hd (k H locs LS hP hS hl)
theorem gx_isub (hX : gx_Ok X M) {x y : Int32} (hd : decode M.2.1 pc = .ok (.isub, 1)) (k : gx_G X M (pc + 1) ls (.inl (x - y) :: st) w) : gx_G X M pc ls (.inl y :: .inl x :: st) w := by
  obtain ⟨p, l, e, s, m, args, below, meth, c, S, res, w1⟩ := X
  obtain ⟨hx, hb, hml, hts, hown, hrt, hlk, hK, hDD, hNW, hSX, hsh⟩ := hX
  intro H locs LS hP hS hl
  exact lv_isub hx hb hd (k H locs LS hP hS hl)
theorem gx_imul (hX : gx_Ok X M) {x y : Int32} (hd : decode M.2.1 pc = .ok (.imul, 1)) (k : gx_G X M (pc + 1) ls (.inl (x * y) :: st) w) : gx_G X M pc ls (.inl y :: .inl x :: st) w := by
  obtain ⟨p, l, e, s, m, args, below, meth, c, S, res, w1⟩ := X
  obtain ⟨hx, hb, hml, hts, hown, hrt, hlk, hK, hDD, hNW, hSX, hsh⟩ := hX
  intro H locs LS hP hS hl
  exact lv_imul hx hb hd (k H locs LS hP hS hl)
theorem gx_iand (hX : gx_Ok X M) {x y : Int32} (hd : decode M.2.1 pc = .ok (.iand, 1)) (k : gx_G X M (pc + 1) ls (.inl (x &&& y) :: st) w) : gx_G X M pc ls (.inl y :: .inl x :: st) w := by
  obtain ⟨p, l, e, s, m, args, below, meth, c, S, res, w1⟩ := X
  obtain ⟨hx, hb, hml, hts, hown, hrt, hlk, hK, hDD, hNW, hSX, hsh⟩ := hX
  intro H locs LS hP hS hl
  exact lv_iand hx hb hd (k H locs LS hP hS hl)
theorem gx_ior (hX : gx_Ok X M) {x y : Int32} (hd : decode M.2.1 pc = .ok (.ior, 1)) (k : gx_G X M (pc + 1) ls (.inl (x ||| y) :: st) w) : gx_G X M pc ls (.inl y :: .inl x :: st) w := by
  obtain ⟨p, l, e, s, m, args, below, meth, c, S, res, w1⟩ := X
  obtain ⟨hx, hb, hml, hts, hown, hrt, hlk, hK, hDD, hNW, hSX, hsh⟩ := hX
  intro H locs LS hP hS hl
  exact lv_ior hx hb hd (k H locs LS hP hS hl)
theorem gx_ixor (hX : gx_Ok X M) {x y : Int32} (hd : decode M.2.1 pc = .ok (.ixor, 1)) (k : gx_G X M (pc + 1) ls (.inl (x ^^^ y) :: st) w) : gx_G X M pc ls (.inl y :: .inl x :: st) w := by
  obtain ⟨p, l, e, s, m, args, below, meth, c, S, res, w1⟩ := X
  obtain ⟨hx, hb, hml, hts, hown, hrt, hlk, hK, hDD, hNW, hSX, hsh⟩ := hX
  intro H locs LS hP hS hl
  exact lv_ixor hx hb hd (k H locs LS hP hS hl)
theorem gx_ishl (hX : gx_Ok X M) {x y : Int32} (hd : decode M.2.1 pc = .ok (.ishl, 1)) (k : gx_G X M (pc + 1) ls (.inl (x <<< (y &&& 31)) :: st) w) : gx_G X M pc ls (.inl y :: .inl x :: st) w := by
  obtain ⟨p, l, e, s, m, args, below, meth, c, S, res, w1⟩ := X
  obtain ⟨hx, hb, hml, hts, hown, hrt, hlk, hK, hDD, hNW, hSX, hsh⟩ := hX
  intro H locs LS hP hS hl
  exact lv_ishl hx hb hd (k H locs LS hP hS hl)
theorem gx_ishr (hX : gx_Ok X M) {x y : Int32} (hd : decode M.2.1 pc = .ok (.ishr, 1)) (k : gx_G X M (pc + 1) ls (.inl (x >>> (y &&& 31)) :: st) w) : gx_G X M pc ls (.inl y :: .inl x :: st) w := by
  obtain ⟨p, l, e, s, m, args, below, meth, c, S, res, w1⟩ := X
  obtain ⟨hx, hb, hml, hts, hown, hrt, hlk, hK, hDD, hNW, hSX, hsh⟩ := hX
  intro H locs LS hP hS hl
  exact lv_ishr hx hb hd (k H locs LS hP hS hl)
theorem gx_iushr (hX : gx_Ok X M) {x y : Int32} (hd : decode M.2.1 pc = .ok (.iushr, 1)) (k : gx_G X M (pc + 1) ls (.inl ((x.toUInt32 >>> (y.toUInt32 &&& Int32.toUInt32 31)).toInt32) :: st) w) : gx_G X M pc ls (.inl y :: .inl x :: st) w := by
  obtain ⟨p, l, e, s, m, args, below, meth, c, S, res, w1⟩ := X
  obtain ⟨hx, hb, hml, hts, hown, hrt, hlk, hK, hDD, hNW, hSX, hsh⟩ := hX
  intro H locs LS hP hS hl
  exact lv_iushr hx hb hd rfl (k H locs LS hP hS hl)
theorem gx_idiv (hX : gx_Ok X M) {x y : Int32} (hd : decode M.2.1 pc = .ok (.idiv, 1)) (hy : ¬ y = 0) (k : gx_G X M (pc + 1) ls (.inl (x / y) :: st) w) : gx_G X M pc ls (.inl y :: .inl x :: st) w := by
  obtain ⟨p, l, e, s, m, args, below, meth, c, S, res, w1⟩ := X
  obtain ⟨hx, hb, hml, hts, hown, hrt, hlk, hK, hDD, hNW, hSX, hsh⟩ := hX
  intro H locs LS hP hS hl
  exact lv_idiv hx hb hd hy (k H locs LS hP hS hl)
theorem gx_irem (hX : gx_Ok X M) {x y : Int32} (hd : decode M.2.1 pc = .ok (.irem, 1)) (hy : ¬ y = 0) (k : gx_G X M (pc + 1) ls (.inl (x - x / y * y) :: st) w) : gx_G X M pc ls (.inl y :: .inl x :: st) w := by
  obtain ⟨p, l, e, s, m, args, below, meth, c, S, res, w1⟩ := X
  obtain ⟨hx, hb, hml, hts, hown, hrt, hlk, hK, hDD, hNW, hSX, hsh⟩ := hX
  intro H locs LS hP hS hl
  exact lv_irem hx hb hd hy (k H locs LS hP hS hl)
theorem gx_ineg (hX : gx_Ok X M) {x : Int32} (hd : decode M.2.1 pc = .ok (.ineg, 1)) (k : gx_G X M (pc + 1) ls (.inl (-x) :: st) w) : gx_G X M pc ls (.inl x :: st) w := by
  obtain ⟨p, l, e, s, m, args, below, meth, c, S, res, w1⟩ := X
  obtain ⟨hx, hb, hml, hts, hown, hrt, hlk, hK, hDD, hNW, hSX, hsh⟩ := hX
  intro H locs LS hP hS hl
  exact lv_ineg hx hb hd (k H locs LS hP hS hl)
theorem gx_dup (hX : gx_Ok X M) {v : gx_V} (hd : decode M.2.1 pc = .ok (.dup, 1)) (k : gx_G X M (pc + 1) ls (v :: v :: st) w) : gx_G X M pc ls (v :: st) w := by
  obtain ⟨p, l, e, s, m, args, below, meth, c, S, res, w1⟩ := X
  obtain ⟨hx, hb, hml, hts, hown, hrt, hlk, hK, hDD, hNW, hSX, hsh⟩ := hX
  intro H locs LS hP hS hl
  exact lv_dup hx hb hd (gx_cat _ v) (k H locs LS hP hS hl)
theorem gx_pop (hX : gx_Ok X M) {v : gx_V} (hd : decode M.2.1 pc = .ok (.pop, 1)) (k : gx_G X M (pc + 1) ls (st) w) : gx_G X M pc ls (v :: st) w := by
  obtain ⟨p, l, e, s, m, args, below, meth, c, S, res, w1⟩ := X
  obtain ⟨hx, hb, hml, hts, hown, hrt, hlk, hK, hDD, hNW, hSX, hsh⟩ := hX
  intro H locs LS hP hS hl
  exact lv_pop hx hb hd (gx_cat _ v) (k H locs LS hP hS hl)
theorem gx_dup2 (hX : gx_Ok X M) {v u : gx_V} (hd : decode M.2.1 pc = .ok (.dup2, 1)) (k : gx_G X M (pc + 1) ls (v :: u :: v :: u :: st) w) : gx_G X M pc ls (v :: u :: st) w := by
  obtain ⟨p, l, e, s, m, args, below, meth, c, S, res, w1⟩ := X
  obtain ⟨hx, hb, hml, hts, hown, hrt, hlk, hK, hDD, hNW, hSX, hsh⟩ := hX
  intro H locs LS hP hS hl
  exact lv_dup2_11 hx hb hd (gx_cat _ v) (gx_cat _ u) (k H locs LS hP hS hl)
theorem gx_dup_x1 (hX : gx_Ok X M) {v u : gx_V} (hd : decode M.2.1 pc = .ok (.dup_x1, 1)) (k : gx_G X M (pc + 1) ls (v :: u :: v :: st) w) : gx_G X M pc ls (v :: u :: st) w := by
  obtain ⟨p, l, e, s, m, args, below, meth, c, S, res, w1⟩ := X
  obtain ⟨hx, hb, hml, hts, hown, hrt, hlk, hK, hDD, hNW, hSX, hsh⟩ := hX
  intro H locs LS hP hS hl
  exact lv_dup_x1 hx hb hd (gx_cat _ v) (gx_cat _ u) (k H locs LS hP hS hl)
theorem gx_if_eq (hX : gx_Ok X M) {x : Int32} {off : Int} {tgt : Nat} (hd : decode M.2.1 pc = .ok (.ifCond .eq off, 3)) (ht : (pc : Int) + off = (tgt : Int)) (kt : x = 0 → gx_G X M tgt ls st w) (kf : ¬ x = 0 → gx_G X M (pc + 3) ls st w) : gx_G X M pc ls (.inl x :: st) w := by
  obtain ⟨p, l, e, s, m, args, below, meth, c, S, res, w1⟩ := X
  obtain ⟨hx, hb, hml, hts, hown, hrt, hlk, hK, hDD, hNW, hSX, hsh⟩ := hX
  intro H locs LS hP hS hl
  exact lv_if_eq hx hb hd ht (fun q => kt q H locs LS hP hS hl) (fun q => kf q H locs LS hP hS hl)
theorem gx_ic_eq (hX : gx_Ok X M) {x y : Int32} {off : Int} {tgt : Nat} (hd : decode M.2.1 pc = .ok (.if_icmp .eq off, 3)) (ht : (pc : Int) + off = (tgt : Int)) (kt : x = y → gx_G X M tgt ls st w) (kf : ¬ x = y → gx_G X M (pc + 3) ls st w) : gx_G X M pc ls (.inl y :: .inl x :: st) w := by
  obtain ⟨p, l, e, s, m, args, below, meth, c, S, res, w1⟩ := X
  obtain ⟨hx, hb, hml, hts, hown, hrt, hlk, hK, hDD, hNW, hSX, hsh⟩ := hX
  intro H locs LS hP hS hl
  exact lv_icmp_eq hx hb hd ht (fun q => kt q H locs LS hP hS hl) (fun q => kf q H locs LS hP hS hl)
theorem gx_if_ne (hX : gx_Ok X M) {x : Int32} {off : Int} {tgt : Nat} (hd : decode M.2.1 pc = .ok (.ifCond .ne off, 3)) (ht : (pc : Int) + off = (tgt : Int)) (kt : ¬ x = 0 → gx_G X M tgt ls st w) (kf : x = 0 → gx_G X M (pc + 3) ls st w) : gx_G X M pc ls (.inl x :: st) w := by
  obtain ⟨p, l, e, s, m, args, below, meth, c, S, res, w1⟩ := X
  obtain ⟨hx, hb, hml, hts, hown, hrt, hlk, hK, hDD, hNW, hSX, hsh⟩ := hX
  intro H locs LS hP hS hl
  exact lv_if_ne hx hb hd ht (fun q => kt q H locs LS hP hS hl) (fun q => kf q H locs LS hP hS hl)
theorem gx_ic_ne (hX : gx_Ok X M) {x y : Int32} {off : Int} {tgt : Nat} (hd : decode M.2.1 pc = .ok (.if_icmp .ne off, 3)) (ht : (pc : Int) + off = (tgt : Int)) (kt : ¬ x = y → gx_G X M tgt ls st w) (kf : x = y → gx_G X M (pc + 3) ls st w) : gx_G X M pc ls (.inl y :: .inl x :: st) w := by
  obtain ⟨p, l, e, s, m, args, below, meth, c, S, res, w1⟩ := X
  obtain ⟨hx, hb, hml, hts, hown, hrt, hlk, hK, hDD, hNW, hSX, hsh⟩ := hX
  intro H locs LS hP hS hl
  exact lv_icmp_ne hx hb hd ht (fun q => kt q H locs LS hP hS hl) (fun q => kf q H locs LS hP hS hl)
theorem gx_if_lt (hX : gx_Ok X M) {x : Int32} {off : Int} {tgt : Nat} (hd : decode M.2.1 pc = .ok (.ifCond .lt off, 3)) (ht : (pc : Int) + off = (tgt : Int)) (kt : x < 0 → gx_G X M tgt ls st w) (kf : ¬ x < 0 → gx_G X M (pc + 3) ls st w) : gx_G X M pc ls (.inl x :: st) w := by
  obtain ⟨p, l, e, s, m, args, below, meth, c, S, res, w1⟩ := X
  obtain ⟨hx, hb, hml, hts, hown, hrt, hlk, hK, hDD, hNW, hSX, hsh⟩ := hX
  intro H locs LS hP hS hl
  exact lv_if_lt hx hb hd ht (fun q => kt q H locs LS hP hS hl) (fun q => kf q H locs LS hP hS hl)
theorem gx_ic_lt (hX : gx_Ok X M) {x y : Int32} {off : Int} {tgt : Nat} (hd : decode M.2.1 pc = .ok (.if_icmp .lt off, 3)) (ht : (pc : Int) + off = (tgt : Int)) (kt : x < y → gx_G X M tgt ls st w) (kf : ¬ x < y → gx_G X M (pc + 3) ls st w) : gx_G X M pc ls (.inl y :: .inl x :: st) w := by
  obtain ⟨p, l, e, s, m, args, below, meth, c, S, res, w1⟩ := X
  obtain ⟨hx, hb, hml, hts, hown, hrt, hlk, hK, hDD, hNW, hSX, hsh⟩ := hX
  intro H locs LS hP hS hl
  exact lv_icmp_lt hx hb hd ht (fun q => kt q H locs LS hP hS hl) (fun q => kf q H locs LS hP hS hl)
theorem gx_if_ge (hX : gx_Ok X M) {x : Int32} {off : Int} {tgt : Nat} (hd : decode M.2.1 pc = .ok (.ifCond .ge off, 3)) (ht : (pc : Int) + off = (tgt : Int)) (kt : 0 ≤ x → gx_G X M tgt ls st w) (kf : ¬ 0 ≤ x → gx_G X M (pc + 3) ls st w) : gx_G X M pc ls (.inl x :: st) w := by
  obtain ⟨p, l, e, s, m, args, below, meth, c, S, res, w1⟩ := X
  obtain ⟨hx, hb, hml, hts, hown, hrt, hlk, hK, hDD, hNW, hSX, hsh⟩ := hX
  intro H locs LS hP hS hl
  exact lv_if_ge hx hb hd ht (fun q => kt q H locs LS hP hS hl) (fun q => kf q H locs LS hP hS hl)
theorem gx_ic_ge (hX : gx_Ok X M) {x y : Int32} {off : Int} {tgt : Nat} (hd : decode M.2.1 pc = .ok (.if_icmp .ge off, 3)) (ht : (pc : Int) + off = (tgt : Int)) (kt : y ≤ x → gx_G X M tgt ls st w) (kf : ¬ y ≤ x → gx_G X M (pc + 3) ls st w) : gx_G X M pc ls (.inl y :: .inl x :: st) w := by
  obtain ⟨p, l, e, s, m, args, below, meth, c, S, res, w1⟩ := X
  obtain ⟨hx, hb, hml, hts, hown, hrt, hlk, hK, hDD, hNW, hSX, hsh⟩ := hX
  intro H locs LS hP hS hl
  exact lv_icmp_ge hx hb hd ht (fun q => kt q H locs LS hP hS hl) (fun q => kf q H locs LS hP hS hl)
theorem gx_if_gt (hX : gx_Ok X M) {x : Int32} {off : Int} {tgt : Nat} (hd : decode M.2.1 pc = .ok (.ifCond .gt off, 3)) (ht : (pc : Int) + off = (tgt : Int)) (kt : 0 < x → gx_G X M tgt ls st w) (kf : ¬ 0 < x → gx_G X M (pc + 3) ls st w) : gx_G X M pc ls (.inl x :: st) w := by
  obtain ⟨p, l, e, s, m, args, below, meth, c, S, res, w1⟩ := X
  obtain ⟨hx, hb, hml, hts, hown, hrt, hlk, hK, hDD, hNW, hSX, hsh⟩ := hX
  intro H locs LS hP hS hl
  exact lv_if_gt hx hb hd ht (fun q => kt q H locs LS hP hS hl) (fun q => kf q H locs LS hP hS hl)
theorem gx_ic_gt (hX : gx_Ok X M) {x y : Int32} {off : Int} {tgt : Nat} (hd : decode M.2.1 pc = .ok (.if_icmp .gt off, 3)) (ht : (pc : Int) + off = (tgt : Int)) (kt : y < x → gx_G X M tgt ls st w) (kf : ¬ y < x → gx_G X M (pc + 3) ls st w) : gx_G X M pc ls (.inl y :: .inl x :: st) w := by
  obtain ⟨p, l, e, s, m, args, below, meth, c, S, res, w1⟩ := X
  obtain ⟨hx, hb, hml, hts, hown, hrt, hlk, hK, hDD, hNW, hSX, hsh⟩ := hX
  intro H locs LS hP hS hl
  exact lv_icmp_gt hx hb hd ht (fun q => kt q H locs LS hP hS hl) (fun q => kf q H locs LS hP hS hl)
theorem gx_if_le (hX : gx_Ok X M) {x : Int32} {off : Int} {tgt : Nat} (hd : decode M.2.1 pc = .ok (.ifCond .le off, 3)) (ht : (pc : Int) + off = (tgt : Int)) (kt : x ≤ 0 → gx_G X M tgt ls st w) (kf : ¬ x ≤ 0 → gx_G X M (pc + 3) ls st w) : gx_G X M pc ls (.inl x :: st) w := by
  obtain ⟨p, l, e, s, m, args, below, meth, c, S, res, w1⟩ := X
  obtain ⟨hx, hb, hml, hts, hown, hrt, hlk, hK, hDD, hNW, hSX, hsh⟩ := hX
  intro H locs LS hP hS hl
  exact lv_if_le hx hb hd ht (fun q => kt q H locs LS hP hS hl) (fun q => kf q H locs LS hP hS hl)
theorem gx_ic_le (hX : gx_Ok X M) {x y : Int32} {off : Int} {tgt : Nat} (hd : decode M.2.1 pc = .ok (.if_icmp .le off, 3)) (ht : (pc : Int) + off = (tgt : Int)) (kt : x ≤ y → gx_G X M tgt ls st w) (kf : ¬ x ≤ y → gx_G X M (pc + 3) ls st w) : gx_G X M pc ls (.inl y :: .inl x :: st) w := by
  obtain ⟨p, l, e, s, m, args, below, meth, c, S, res, w1⟩ := X
  obtain ⟨hx, hb, hml, hts, hown, hrt, hlk, hK, hDD, hNW, hSX, hsh⟩ := hX
  intro H locs LS hP hS hl
  exact lv_icmp_le hx hb hd ht (fun q => kt q H locs LS hP hS hl) (fun q => kf q H locs LS hP hS hl)
theorem gx_goto (hX : gx_Ok X M) {off : Int} {tgt : Nat} (hd : decode M.2.1 pc = .ok (.goto off, 3)) (ht : (pc : Int) + off = (tgt : Int)) (k : gx_G X M tgt ls st w) : gx_G X M pc ls st w := by
  obtain ⟨p, l, e, s, m, args, below, meth, c, S, res, w1⟩ := X
  obtain ⟨hx, hb, hml, hts, hown, hrt, hlk, hK, hDD, hNW, hSX, hsh⟩ := hX
  intro H locs LS hP hS hl
  exact lv_goto hx hb hd ht (k H locs LS hP hS hl)
theorem gx_ifnull (hX : gx_Ok X M) {off : Int} {x : Nat} (hd : decode M.2.1 pc = .ok (.ifnull off, 3)) (k : gx_G X M (pc + 3) ls st w) : gx_G X M pc ls (.inr x :: st) w := by
  obtain ⟨p, l, e, s, m, args, below, meth, c, S, res, w1⟩ := X
  obtain ⟨hx, hb, hml, hts, hown, hrt, hlk, hK, hDD, hNW, hSX, hsh⟩ := hX
  intro H locs LS hP hS hl
  exact lv_ifnull hx hb hd (k H locs LS hP hS hl)
theorem gx_ifnonnull (hX : gx_Ok X M) {off : Int} {tgt x : Nat} (hd : decode M.2.1 pc = .ok (.ifnonnull off, 3)) (ht : (pc : Int) + off = (tgt : Int)) (k : gx_G X M tgt ls st w) : gx_G X M pc ls (.inr x :: st) w := by
  obtain ⟨p, l, e, s, m, args, below, meth, c, S, res, w1⟩ := X
  obtain ⟨hx, hb, hml, hts, hown, hrt, hlk, hK, hDD, hNW, hSX, hsh⟩ := hX
  intro H locs LS hP hS hl
  exact lv_ifnonnull hx hb hd ht (k H locs LS hP hS hl)
theorem gx_lookup (hX : gx_Ok X M) {dflt : Int} {ps : Array (Int × Int)} {len : Nat} {x : Int32} {off : Int} {tgt : Nat} (hd : decode M.2.1 pc = .ok (.lookupswitch dflt ps, len)) (hp : (ps.toList.zip (ps.toList.drop 1)).all (fun (a, next) => a.1 < next.1) = true) (ho : Op.lookupswitch.offset ps.toList dflt x.toInt = off) (ht : (pc : Int) + off = (tgt : Int)) (k : gx_G X M tgt ls st w) : gx_G X M pc ls (.inl x :: st) w := by
  obtain ⟨p, l, e, s, m, args, below, meth, c, S, res, w1⟩ := X
  obtain ⟨hx, hb, hml, hts, hown, hrt, hlk, hK, hDD, hNW, hSX, hsh⟩ := hX
  intro H locs LS hP hS hl
  exact lv_lookup hx hb hd hp ho ht (k H locs LS hP hS hl)
theorem gx_tabOut (hX : gx_Ok X M) {dflt lo hi : Int} {offs : Array Int} {len : Nat} {x : Int32} {tgt : Nat} (hd : decode M.2.1 pc = .ok (.tableswitch dflt lo hi offs, len)) (h : x.toInt < lo ∨ hi < x.toInt) (ht : (pc : Int) + dflt = (tgt : Int)) (k : gx_G X M tgt ls st w) : gx_G X M pc ls (.inl x :: st) w := by
  obtain ⟨p, l, e, s, m, args, below, meth, c, S, res, w1⟩ := X
  obtain ⟨hx, hb, hml, hts, hown, hrt, hlk, hK, hDD, hNW, hSX, hsh⟩ := hX
  intro H locs LS hP hS hl
  exact lv_tableOut hx hb hd h ht (k H locs LS hP hS hl)
theorem gx_tabIn (hX : gx_Ok X M) {dflt lo hi : Int} {offs : Array Int} {len : Nat} {x : Int32} {off : Int} {tgt : Nat} (hd : decode M.2.1 pc = .ok (.tableswitch dflt lo hi offs, len)) (h1 : ¬ x.toInt < lo) (h2 : ¬ hi < x.toInt) (ho : offs[(x.toInt - lo).toNat]? = some off) (ht : (pc : Int) + off = (tgt : Int)) (k : gx_G X M tgt ls st w) : gx_G X M pc ls (.inl x :: st) w := by
  obtain ⟨p, l, e, s, m, args, below, meth, c, S, res, w1⟩ := X
  obtain ⟨hx, hb, hml, hts, hown, hrt, hlk, hK, hDD, hNW, hSX, hsh⟩ := hX
  intro H locs LS hP hS hl
  exact lv_tableIn hx hb hd h1 h2 ho ht (k H locs LS hP hS hl)
/-! fields, arrays -/
/-- the field k of the class ci, by the entry ix of the class own -/
def gx_fl (own : String) (ix ci k : Nat) : Prop := ∃ (C : String) (T : u_T) (N : Nat), gx_cl[ci]? = some (C, T, N) ∧ k < N ∧ (Cond.fieldLink own ix (T k).1 (T k).2.1 (T k).2.2.1 ∈ gx_big ∨ Cond.fieldLinkNest own ix (T k).1 (T k).2.1 (T k).2.2.1 "EachBearsPillar" ∈ gx_nest)
theorem gx_get0 (hX : gx_Ok X M) {ix ci k o : Nat} {fs : List (Option Nat)} {v : gx_V} (hf : gx_fl M.1.cls ix ci k) (hs : M.2.2.2.2.2[o]? = some (.inr (ci, fs))) (hv : ∀ S : gx_Sd, (gx_fs S.2.2.1 (w o) 0 fs)[k]? = some (gx_cv S.2.2.1 v)) (hd : decode M.2.1 pc = .ok (.getfield ix, 3)) (kk : gx_G X M (pc + 3) ls (v :: st) w) : gx_G X M pc ls (.inr o :: st) w := by
  obtain ⟨p, l, e, s, m, args, below, meth, c, S, res, w1⟩ := X
  obtain ⟨hx, hb, hml, hts, hown, hrt, hlk, hK, hDD, hNW, hSX, hsh⟩ := hX
  intro H locs LS hP hS hl
  obtain ⟨C, T, N, hc, hk, hlink⟩ := hf
  obtain ⟨hin, ⟨ty, hty⟩, hnm⟩ := gx_clok ci C T N hc
  have he : (gx_cells S w)[o]? = some (S.2.2.1 o, .inr (ci, gx_fs S.2.2.1 (w o) 0 fs)) := gx_get (by rw [hsh]; exact hs)
  rcases hlink with hlink | hlink
  · exact va_get hx hb hts (fun u hu => List.mem_cons_of_mem _ (hin u hu)) hown hK hP o he hc k hk (hts _ (List.mem_cons_of_mem _ hlink)) (fun _ h => h) (hv S) hd (kk H locs LS hP hS hl)
  · exact va_getN hx hb hts (fun u hu => List.mem_cons_of_mem _ (hin u hu)) hown hK hP o he hc k hk (va_Nw.use rfl (hNW _ hlink)) (fun _ h => h) (hv S) hd (kk H locs LS hP hS hl)
theorem gx_geti (hX : gx_Ok X M) {ix ci k o : Nat} {fs : List (Option Nat)} (hf : gx_fl M.1.cls ix ci k) (hs : M.2.2.2.2.2[o]? = some (.inr (ci, fs))) (hv : fs[k]? = some none) (hd : decode M.2.1 pc = .ok (.getfield ix, 3)) (kk : gx_G X M (pc + 3) ls (.inl (w o k) :: st) w) : gx_G X M pc ls (.inr o :: st) w :=
  gx_get0 hX hf hs (fun S => by rw [gx_fs_int S.2.2.1 fs 0 k hv, Nat.zero_add]; rfl) hd kk
theorem gx_getr (hX : gx_Ok X M) {ix ci k o q : Nat} {fs : List (Option Nat)} (hf : gx_fl M.1.cls ix ci k) (hs : M.2.2.2.2.2[o]? = some (.inr (ci, fs))) (hv : fs[k]? = some (some q)) (hd : decode M.2.1 pc = .ok (.getfield ix, 3)) (kk : gx_G X M (pc + 3) ls (.inr q :: st) w) : gx_G X M pc ls (.inr o :: st) w :=
  gx_get0 hX hf hs (fun S => by rw [gx_fs_ref S.2.2.1 fs 0 k hv]; rfl) hd kk
/-- a field that may be written, of a kind that takes the number -/
def gx_pf (ci k : Nat) (v : Int32) : Prop := ∃ (C : String) (T : u_T) (N : Nat) (ty : FieldType), gx_cl[ci]? = some (C, T, N) ∧ (T k).2.2.2 = false ∧ parseFieldDescriptor (T k).2.2.1 = some ty ∧ narrow ty (.int v) = .int v ∧ fits ty (.int v) = true
theorem gx_putf (hX : gx_Ok X M) {ix ci k o : Nat} {fs : List (Option Nat)} {v : Int32} (hf : gx_fl M.1.cls ix ci k) (hp : gx_pf ci k v) (hs : M.2.2.2.2.2[o]? = some (.inr (ci, fs))) (hv : fs[k]? = some none) (hd : decode M.2.1 pc = .ok (.putfield ix, 3)) (kk : gx_G X M (pc + 3) ls st (gx_w w o k v)) : gx_G X M pc ls (.inl v :: .inr o :: st) w := by
  obtain ⟨p, l, e, s, m, args, below, meth, c, S, res, w1⟩ := X
  obtain ⟨hx, hb, hml, hts, hown, hrt, hlk, hK, hDD, hNW, hSX, hsh⟩ := hX
  intro H locs LS hP hS hl
  obtain ⟨C, T, N, hc, hk, hlink⟩ := hf
  obtain ⟨C', T', N', ty1, hc', hfin, hpd, hnar, hfit⟩ := hp
  cases hc.symm.trans hc'
  obtain ⟨hin, ⟨ty, hty⟩, hnm⟩ := gx_clok ci C T N hc
  have hso : S.1[o]? = some (.inr (ci, fs)) := by rw [hsh]; exact hs
  have he : (gx_cells S w)[o]? = some (S.2.2.1 o, .inr (ci, gx_fs S.2.2.1 (w o) 0 fs)) := gx_get hso
  have hlen : k < (gx_fs S.2.2.1 (w o) 0 fs).length := by rw [gx_fs_len]; exact (List.getElem?_eq_some_iff.mp hv).1
  have hset : (gx_cells S w).set o (S.2.2.1 o, .inr (ci, (gx_fs S.2.2.1 (w o) 0 fs).set k (.int v))) = gx_cells S (gx_w w o k v) := gx_cells_set hso (by rw [gx_fs_set S.2.2.1 fs 0 k hv, Nat.zero_add]; rfl)
  rcases hlink with hlink | hlink
  · refine va_put hx hb hts (fun u hu => List.mem_cons_of_mem _ (hin u hu)) ty hty hnm hown hK hP (hDD.d w) hS o he hc k hk (hts _ (List.mem_cons_of_mem _ hlink)) (fun _ h => h) hfin hpd hnar hfit hlen hd (fun H1 locs1 hP1 _ hS1 => ?_)
    have hP2 : va_P S.2.1 gx_cl (gx_cells S (gx_w w o k v)) H1 := by rw [← hset]; exact hP1
    exact kk H1 locs1 LS hP2 hS1 hl
  · refine va_putN hx hb hts (fun u hu => List.mem_cons_of_mem _ (hin u hu)) ty hty hnm hown hK hP (hDD.d w) hS o he hc k hk (va_Nw.use rfl (hNW _ hlink)) (fun _ h => h) hfin hpd hnar hfit hlen hd (fun H1 locs1 hP1 _ hS1 => ?_)
    have hP2 : va_P S.2.1 gx_cl (gx_cells S (gx_w w o k v)) H1 := by rw [← hset]; exact hP1
    exact kk H1 locs1 LS hP2 hS1 hl
/-- arrays: reading, writing, length, as the machine does them -/
def gx_ald (sh : List gx_Sh) (w : gx_Wd) (o : Nat) (i : Int32) : Option Int32 := match sh[o]? with
  | some (.inl n) => if i < 0 ∨ n ≤ i.toNatClampNeg then none else some (w o i.toNatClampNeg)
  | _ => none
def gx_ast (sh : List gx_Sh) (w : gx_Wd) (o : Nat) (i v : Int32) : Option gx_Wd := match sh[o]? with
  | some (.inl n) => if i < 0 ∨ n ≤ i.toNatClampNeg then none else some (gx_w w o i.toNatClampNeg v)
  | _ => none
def gx_aln (sh : List gx_Sh) (o : Nat) : Option Int32 := match sh[o]? with
  | some (.inl n) => some (Int32.ofNat n)
  | _ => none
theorem gx_iald (hX : gx_Ok X M) {o : Nat} {i v : Int32} (hv : gx_ald M.2.2.2.2.2 w o i = some v) (hd : decode M.2.1 pc = .ok (.iaload, 1)) (kk : gx_G X M (pc + 1) ls (.inl v :: st) w) : gx_G X M pc ls (.inl i :: .inr o :: st) w := by
  obtain ⟨p, l, e, s, m, args, below, meth, c, S, res, w1⟩ := X
  obtain ⟨hx, hb, hml, hts, hown, hrt, hlk, hK, hDD, hNW, hSX, hsh⟩ := hX
  intro H locs LS hP hS hl
  rw [← hsh] at hv
  unfold gx_ald at hv
  split at hv
  · rename_i n hn
    split at hv
    · cases hv
    · rename_i hin
      cases hv
      have he : (gx_cells S w)[o]? = some (S.2.2.1 o, .inl (S.2.2.2.1, n, .inl (w o))) := gx_get hn
      exact va_iald hx hb hK hP o 0 he rfl hin hd (kk H locs LS hP hS hl)
  · cases hv
theorem gx_iast (hX : gx_Ok X M) {o : Nat} {i v : Int32} {w' : gx_Wd} (hv : gx_ast M.2.2.2.2.2 w o i v = some w') (hd : decode M.2.1 pc = .ok (.iastore, 1)) (kk : gx_G X M (pc + 1) ls st w') : gx_G X M pc ls (.inl v :: .inl i :: .inr o :: st) w := by
  obtain ⟨p, l, e, s, m, args, below, meth, c, S, res, w1⟩ := X
  obtain ⟨hx, hb, hml, hts, hown, hrt, hlk, hK, hDD, hNW, hSX, hsh⟩ := hX
  intro H locs LS hP hS hl
  rw [← hsh] at hv
  unfold gx_ast at hv
  split at hv
  · rename_i n hn
    split at hv
    · cases hv
    · rename_i hin
      cases hv
      have he : (gx_cells S w)[o]? = some (S.2.2.1 o, .inl (S.2.2.2.1, n, .inl (w o))) := gx_get hn
      refine va_iast hx hb hK hP (hDD.d w) hS o 0 he rfl hin hd (fun H1 locs1 hP1 _ hS1 => ?_)
      have hset : (gx_cells S w).set o (S.2.2.1 o, .inl (S.2.2.2.1, n, .inl (upd (w o) i.toNatClampNeg v))) = gx_cells S (gx_w w o i.toNatClampNeg v) := gx_cells_set hn rfl
      have hP2 : va_P S.2.1 gx_cl (gx_cells S (gx_w w o i.toNatClampNeg v)) H1 := by rw [← hset]; exact hP1
      exact kk H1 locs1 LS hP2 hS1 hl
  · cases hv
theorem gx_alen (hX : gx_Ok X M) {o : Nat} {v : Int32} (hv : gx_aln M.2.2.2.2.2 o = some v) (hd : decode M.2.1 pc = .ok (.arraylength, 1)) (kk : gx_G X M (pc + 1) ls (.inl v :: st) w) : gx_G X M pc ls (.inr o :: st) w := by
  obtain ⟨p, l, e, s, m, args, below, meth, c, S, res, w1⟩ := X
  obtain ⟨hx, hb, hml, hts, hown, hrt, hlk, hK, hDD, hNW, hSX, hsh⟩ := hX
  intro H locs LS hP hS hl
  rw [← hsh] at hv
  unfold gx_aln at hv
  split at hv
  · rename_i n hn
    cases hv
    have he : (gx_cells S w)[o]? = some (S.2.2.1 o, .inl (S.2.2.2.1, n, .inl (w o))) := gx_get hn
    exact va_alen hx hb hK hP o 0 he rfl rfl hd (kk H locs LS hP hS hl)
  · cases hv
/-! calls, ends -/
/-- what the tables say of a method that is called: its numbers of arguments, whether it is static -/
def gx_mo (M : gx_Mi) (n : Nat) : Prop := Cond.code M.1 M.2.1 M.2.2.1 M.2.2.2.1 ∈ gx_big ∧ Cond.initialized M.1.cls ∈ gx_big ∧ (M.1.cls ≠ "java/lang/invoke/MethodHandle" ∧ M.1.cls ≠ "java/lang/invoke/VarHandle") ∧ (parseMethodDescriptor M.1.desc).map (fun d => d.parameters.length) = some n ∧ M.2.2.2.2.1.cells = 0 ∧ M.2.2.2.2.1.slots = 0
def gx_mv (M : gx_Mi) : Prop := Cond.instanceMethod M.1 ∈ gx_big ∧ Cond.selects M.1.cls M.1 M.1 ∈ gx_big
def gx_ms (M : gx_Mi) : Prop := Cond.static M.1 ∈ gx_big
/-- the call's entry names the method -/
def gx_ln (own : String) (ix : Nat) (M : gx_Mi) : Prop := Cond.methodLink own ix M.1 ∈ gx_big ∨ Cond.methodLinkNest own ix M.1 "EachBearsPillar" ∈ gx_nest
/-- the callee's room fits -/
def gx_rm (M' M : gx_Mi) : Prop := M'.2.2.2.2.1.frames + 1 ≤ M.2.2.2.2.1.frames ∧ 8 + (M'.2.2.1 + 11) + M'.2.2.2.2.1.locals ≤ M.2.2.2.2.1.locals
theorem gx_cat1 (ad : Nat → Nat) : ∀ (st : List gx_V), ((st.map (gx_cv ad)).map fun v => v.category).sum = st.length := by
  intro st
  induction st with
  | nil => rfl
  | cons a t ih => simp only [List.map_cons, List.sum_cons, List.length_cons]; rw [ih, gx_cat]; omega
theorem gx_fb {S : gx_Sd} {w : gx_Wd} {av : List Value} : FrameBlind (va_Pc av (gx_PX S w)) := by
  intro a U g mk h
  obtain ⟨h1, h2, h3, h4, h5, h6⟩ := h
  exact ⟨h1, h2, va_K.moved (u := U) (U := U.calling g mk a) (Vm.Alike.refl U.vm) h3, h4, gx_NW.same (s := U) (U := U.calling g mk a) rfl h5, gx_SX.same (s := U) (U := U.calling g mk a) rfl h6⟩
theorem gx_after {p : Program} {l : Launch} {e : Env} {R : Room} {s : State} {m : MethodId} {args a : Array Value} {below : List Frame} {meth : Method} {c : Code} {H : Heap} {locs : List Loc} {Q : State → Prop} {S : gx_Sd} {res : Option gx_V} {w' : gx_Wd} {LS : Array Slot} {st0 : List Value}
    (hr : va_Run p l e R s m args below meth c H locs 0 0 0 0 (F0 m pc LS st0) (st.map (gx_cv S.2.2.1)) (gx_Q S res w' a) (gx_A S)) (hS : va_S (gx_A S) s.heap H locs)
    (kk : ∀ (H1 : Heap) (locs1 : List Loc), va_P S.2.1 gx_cl (gx_cells S w') H1 → va_S (gx_A S) s.heap H1 locs1 → W p l e R s m args below meth c H1 locs1 0 0 Q (F0 m (pc + 3) LS ((res.toList ++ st).map (gx_cv S.2.2.1)))) : W p l e R s m args below meth c H locs 0 0 Q (F0 m pc LS st0) := by
  intro T hT X'
  obtain ⟨v, st₀, t, T', L, h0, X'', hL, e1, e2, ⟨⟨hv, hb⟩, hz, hk⟩, stp⟩ := hr T hT X'
  rw [h0] at hz hk
  have hv2 : v = res.map (gx_cv S.2.2.1) := by cases hv; rfl
  subst hv2
  obtain ⟨t2, a1, b1⟩ := kk T'.heap (locs ++ L) (by rw [e1]; exact hb)
    ⟨Nat.le_trans hS.1 (by rw [e1]; exact hz), fun q h1 h2 => by rw [e1, hk q (Nat.lt_of_lt_of_le h1 hS.1) h2]; exact hS.2.1 q h1 h2, fun q hq => by
      rcases List.mem_append.mp hq with h | h
      · exact hS.2.2 q h
      · exact hL q h⟩ T' rfl X''
  refine ⟨t2, stp t2 ?_, b1⟩
  have e3 : (res.map (gx_cv S.2.2.1)).toList ++ st.map (gx_cv S.2.2.1) = (res.toList ++ st).map (gx_cv S.2.2.1) := by cases res <;> simp
  rw [e3]
  exact a1
theorem gx_callV (hX : gx_Ok X M) {M' : gx_Mi} {ix b ci n : Nat} {As rest : List gx_V} {fs : List (Option Nat)} {res : Option gx_V} {w' : gx_Wd} (hd : decode M.2.1 pc = .ok (.invokevirtual ix, 3)) (hl : gx_ln M.1.cls ix M') (ho : gx_mo M' n) (hv : gx_mv M') (hr : gx_rm M' M) (hs : M.2.2.2.2.2[b]? = some (.inr (ci, fs))) (hc : ∃ T N, gx_cl[ci]? = some (M'.1.cls, T, N)) (he : M'.2.2.2.2.2 = M.2.2.2.2.2) (hM : gx_MT M' (.inr b :: As) w res w') (hn : As.length = n) (hst : st = As.reverse ++ .inr b :: rest) (hrl : rest.length ≤ 8) (kk : gx_G X M (pc + 3) ls (res.toList ++ rest) w') : gx_G X M pc ls st w := by
  obtain ⟨p, l, e, s, m, args, below, meth, c, S, res, w1⟩ := X
  obtain ⟨hx, hb, hml, hts, hown, hrt, hlk, hK, hDD, hNW, hSX, hsh⟩ := hX
  intro H locs LS hP hS hlv
  obtain ⟨T, N, hc⟩ := hc
  obtain ⟨o1, o2, o3, o4, o5, o6⟩ := ho
  have hp : PreV s H M'.1.cls (S.2.2.1 b) (va_Pc ((Sum.inr b :: As : List gx_V).map (gx_cv S.2.2.1)) (gx_PX S w)) (As.map (gx_cv S.2.2.1)) := by
    refine ⟨gx_fb, va_recv hK hP hc (gx_get (by rw [hsh]; exact hs)), fun U hU hW => ⟨rfl, ?_⟩⟩
    exact ⟨by rw [hU]; exact hP, va_K.moved hW.alike hK, hDD, hNW.warm hW, by rw [hU]; exact hSX.to hW hS.2.1⟩
  have hws : ∀ w ∈ (Cond.code M'.1 M'.2.1 M'.2.2.1 M'.2.2.2.1 :: gx_big), ∀ (a' : Array Value) (U : State), s.WarmedH U.vm → w.before a' U = true := pay_in hts (gx_good o1)
  have hlen : ∀ sig, parseMethodDescriptor M'.1.desc = some sig → n = sig.parameters.length := fun sig h => by
    have h2 := o4
    rw [h] at h2
    exact (Option.some.inj h2).symm
  have hst2 : (st.map (gx_cv S.2.2.1)) = (As.map (gx_cv S.2.2.1)).reverse ++ .ref (S.2.2.1 b) :: rest.map (gx_cv S.2.2.1) := by rw [hst]; simp [gx_cv]
  have hrest : 2 * (F0 m pc LS (st.map (gx_cv S.2.2.1))).monitorRoom + ((rest.map (gx_cv S.2.2.1)).map fun v => v.category).sum ≤ 8 := by
    rw [gx_cat1]
    show 2 * 0 + _ ≤ 8
    omega
  rcases hl with hl | hl
  · exact gx_after (va_runV (own := M.1.cls) (As := As.map (gx_cv S.2.2.1)) (rest := rest.map (gx_cv S.2.2.1)) (g := F0 m pc LS (st.map (gx_cv S.2.2.1))) ⟨hx, hb, hml, hown, hts⟩ (hM l S (by rw [he]; exact hsh)) ⟨⟨o5, o6, hr.1, hr.2, hws, List.mem_cons_self, hts _ (List.mem_cons_of_mem _ o1), hts _ (List.mem_cons_of_mem _ o2), o3, hlen, hts _ (List.mem_cons_of_mem _ hl)⟩, hts _ (List.mem_cons_of_mem _ hv.1), hts _ (List.mem_cons_of_mem _ hv.2)⟩ hp rfl (by rw [List.length_map]; exact hn) hlv.1 hst2 hrest hd ⟨Nat.zero_le _, Nat.zero_le _⟩) hS (fun H1 locs1 hP1 hS1 => kk H1 locs1 LS hP1 hS1 hlv)
  · exact gx_after (va_runVN (own := M.1.cls) (host := "EachBearsPillar") (As := As.map (gx_cv S.2.2.1)) (rest := rest.map (gx_cv S.2.2.1)) (g := F0 m pc LS (st.map (gx_cv S.2.2.1))) ⟨hx, hb, hml, hown, hts⟩ (hM l S (by rw [he]; exact hsh)) ⟨⟨⟨o5, o6, hr.1, hr.2, hws, List.mem_cons_self⟩, hts _ (List.mem_cons_of_mem _ o1), hts _ (List.mem_cons_of_mem _ o2), o3, hlen, va_Nw.use rfl (hNW _ hl)⟩, hts _ (List.mem_cons_of_mem _ hv.1), hts _ (List.mem_cons_of_mem _ hv.2)⟩ hp rfl (by rw [List.length_map]; exact hn) hlv.1 hst2 hrest hd ⟨Nat.zero_le _, Nat.zero_le _⟩) hS (fun H1 locs1 hP1 hS1 => kk H1 locs1 LS hP1 hS1 hlv)
theorem gx_callS (hX : gx_Ok X M) {M' : gx_Mi} {ix n : Nat} {As rest : List gx_V} {res : Option gx_V} {w' : gx_Wd} (hd : decode M.2.1 pc = .ok (.invokestatic ix, 3)) (hl : gx_ln M.1.cls ix M') (ho : gx_mo M' n) (hv : gx_ms M') (hr : gx_rm M' M) (he : M'.2.2.2.2.2 = M.2.2.2.2.2) (hM : gx_MT M' As w res w') (hn : As.length = n) (hst : st = As.reverse ++ rest) (hrl : rest.length ≤ 8) (kk : gx_G X M (pc + 3) ls (res.toList ++ rest) w') : gx_G X M pc ls st w := by
  obtain ⟨p, l, e, s, m, args, below, meth, c, S, res, w1⟩ := X
  obtain ⟨hx, hb, hml, hts, hown, hrt, hlk, hK, hDD, hNW, hSX, hsh⟩ := hX
  intro H locs LS hP hS hlv
  obtain ⟨o1, o2, o3, o4, o5, o6⟩ := ho
  have hp : PreS s H (va_Pc (As.map (gx_cv S.2.2.1)) (gx_PX S w)) (As.map (gx_cv S.2.2.1)) := by
    refine ⟨gx_fb, fun U hU hW => ⟨rfl, ?_⟩⟩
    exact ⟨by rw [hU]; exact hP, va_K.moved hW.alike hK, hDD, hNW.warm hW, by rw [hU]; exact hSX.to hW hS.2.1⟩
  have hws : ∀ w ∈ (Cond.code M'.1 M'.2.1 M'.2.2.1 M'.2.2.2.1 :: gx_big), ∀ (a' : Array Value) (U : State), s.WarmedH U.vm → w.before a' U = true := pay_in hts (gx_good o1)
  have hlen : ∀ sig, parseMethodDescriptor M'.1.desc = some sig → n = sig.parameters.length := fun sig h => by
    have h2 := o4
    rw [h] at h2
    exact (Option.some.inj h2).symm
  have hst2 : (st.map (gx_cv S.2.2.1)) = (As.map (gx_cv S.2.2.1)).reverse ++ rest.map (gx_cv S.2.2.1) := by rw [hst]; simp
  have hrest : 2 * (F0 m pc LS (st.map (gx_cv S.2.2.1))).monitorRoom + ((rest.map (gx_cv S.2.2.1)).map fun v => v.category).sum ≤ 8 := by
    rw [gx_cat1]
    show 2 * 0 + _ ≤ 8
    omega
  rcases hl with hl | hl
  · exact gx_after (va_runS (own := M.1.cls) (As := As.map (gx_cv S.2.2.1)) (rest := rest.map (gx_cv S.2.2.1)) (g := F0 m pc LS (st.map (gx_cv S.2.2.1))) ⟨hx, hb, hml, hown, hts⟩ (hM l S (by rw [he]; exact hsh)) ⟨⟨o5, o6, hr.1, hr.2, hws, List.mem_cons_self, hts _ (List.mem_cons_of_mem _ o1), hts _ (List.mem_cons_of_mem _ o2), o3, hlen, hts _ (List.mem_cons_of_mem _ hl)⟩, hts _ (List.mem_cons_of_mem _ hv)⟩ hp rfl (by rw [List.length_map]; exact hn) hlv.1 hst2 hrest hd ⟨Nat.zero_le _, Nat.zero_le _⟩) hS (fun H1 locs1 hP1 hS1 => kk H1 locs1 LS hP1 hS1 hlv)
  · exact gx_after (va_runSN (own := M.1.cls) (host := "EachBearsPillar") (As := As.map (gx_cv S.2.2.1)) (rest := rest.map (gx_cv S.2.2.1)) (g := F0 m pc LS (st.map (gx_cv S.2.2.1))) ⟨hx, hb, hml, hown, hts⟩ (hM l S (by rw [he]; exact hsh)) ⟨⟨⟨o5, o6, hr.1, hr.2, hws, List.mem_cons_self⟩, hts _ (List.mem_cons_of_mem _ o1), hts _ (List.mem_cons_of_mem _ o2), o3, hlen, va_Nw.use rfl (hNW _ hl)⟩, hts _ (List.mem_cons_of_mem _ hv), trivial⟩ hp rfl (by rw [List.length_map]; exact hn) hlv.1 hst2 hrest hd ⟨Nat.zero_le _, Nat.zero_le _⟩) hS (fun H1 locs1 hP1 hS1 => kk H1 locs1 LS hP1 hS1 hlv)
/-- Math.min of two ints -/
theorem gx_min (hX : gx_Ok X M) {ix : Nat} {x y : Int32} (hd : decode M.2.1 pc = .ok (.invokestatic ix, 3)) (h1 : Cond.methodLink M.1.cls ix Lib.Math.min.name ∈ gx_big) (h2 : Cond.static Lib.Math.min.name ∈ gx_big) (h3 : Cond.initialized "java/lang/Math" ∈ gx_big) (h4 : Cond.code Lib.Math.min.name Lib.Math.min.code 2 (some .int) ∈ gx_big) (hf : 1 ≤ M.2.2.2.2.1.frames) (hlo : st.length + 13 ≤ M.2.2.2.2.1.locals) (k : gx_G X M (pc + 3) ls (.inl (if y < x then y else x) :: st) w) : gx_G X M pc ls (.inl y :: .inl x :: st) w := by
  obtain ⟨p, l, e, s, m, args, below, meth, c, S, res, w1⟩ := X
  obtain ⟨hx, hb, hml, hts, hown, hrt, hlk, hK, hDD, hNW, hSX, hsh⟩ := hX
  intro H locs LS hP hS hl
  have q := fun u (h : u ∈ gx_big) => hts u (List.mem_cons_of_mem _ h)
  exact va_mmin hx hb (by rw [hml]; exact hl.1.symm) hown (q _ h1) (q _ h2) (q _ h3) (q _ h4) hf (by rw [gx_cat1]; exact hlo) (Nat.zero_le _) (Nat.zero_le _) hd (k H locs LS hP hS hl)
theorem gx_max (hX : gx_Ok X M) {ix : Nat} {x y : Int32} (hd : decode M.2.1 pc = .ok (.invokestatic ix, 3)) (h1 : Cond.methodLink M.1.cls ix Lib.Math.max.name ∈ gx_big) (h2 : Cond.static Lib.Math.max.name ∈ gx_big) (h3 : Cond.initialized "java/lang/Math" ∈ gx_big) (h4 : Cond.code Lib.Math.max.name Lib.Math.max.code 2 (some .int) ∈ gx_big) (hf : 1 ≤ M.2.2.2.2.1.frames) (hlo : st.length + 13 ≤ M.2.2.2.2.1.locals) (k : gx_G X M (pc + 3) ls (.inl (if x < y then y else x) :: st) w) : gx_G X M pc ls (.inl y :: .inl x :: st) w := by
  obtain ⟨p, l, e, s, m, args, below, meth, c, S, res, w1⟩ := X
  obtain ⟨hx, hb, hml, hts, hown, hrt, hlk, hK, hDD, hNW, hSX, hsh⟩ := hX
  intro H locs LS hP hS hl
  have q := fun u (h : u ∈ gx_big) => hts u (List.mem_cons_of_mem _ h)
  exact va_mmax hx hb (by rw [hml]; exact hl.1.symm) hown (q _ h1) (q _ h2) (q _ h3) (q _ h4) hf (by rw [gx_cat1]; exact hlo) (Nat.zero_le _) (Nat.zero_le _) hd (k H locs LS hP hS hl)
theorem gx_iret (hX : gx_Ok X M) {v : Int32} (hd : decode M.2.1 pc = .ok (.ireturn, 1)) (hr : M.2.2.2.1 = some .int) (h1 : gx_res X = some (.inl v)) (h2 : gx_wr X = w) : gx_G X M pc ls [.inl v] w := by
  obtain ⟨p, l, e, s, m, args, below, meth, c, S, res, w1⟩ := X
  obtain ⟨hx, hb, hml, hts, hown, hrt, hlk, hK, hDD, hNW, hSX, hsh⟩ := hX
  intro H locs LS hP hS hl
  have e1 : res = some (.inl v) := h1
  have e2 : w1 = w := h2
  subst e1 e2
  exact W.iret hx hb (by rw [hrt]; exact hr) (fun t ht hW => ⟨⟨rfl, by rw [ht]; exact hP⟩, hS.F ht⟩) hS.2.2 hd hlk
theorem gx_zret (hX : gx_Ok X M) {v : Int32} {ty : FieldType} (hd : decode M.2.1 pc = .ok (.ireturn, 1)) (hr : M.2.2.2.1 = some ty) (hn : narrow ty (.int v) = .int v) (h1 : gx_res X = some (.inl v)) (h2 : gx_wr X = w) : gx_G X M pc ls [.inl v] w := by
  obtain ⟨p, l, e, s, m, args, below, meth, c, S, res, w1⟩ := X
  obtain ⟨hx, hb, hml, hts, hown, hrt, hlk, hK, hDD, hNW, hSX, hsh⟩ := hX
  intro H locs LS hP hS hl
  have e1 : res = some (.inl v) := h1
  have e2 : w1 = w := h2
  subst e1 e2
  exact W.zret hx hb (by rw [hrt]; exact hr) hn (fun t ht hW => ⟨⟨rfl, by rw [ht]; exact hP⟩, hS.F ht⟩) hS.2.2 hd hlk
theorem gx_vret (hX : gx_Ok X M) (hd : decode M.2.1 pc = .ok (.return_, 1)) (hr : M.2.2.2.1 = none) (h1 : gx_res X = none) (h2 : gx_wr X = w) : gx_G X M pc ls [] w := by
  obtain ⟨p, l, e, s, m, args, below, meth, c, S, res, w1⟩ := X
  obtain ⟨hx, hb, hml, hts, hown, hrt, hlk, hK, hDD, hNW, hSX, hsh⟩ := hX
  intro H locs LS hP hS hl
  have e1 : res = none := h1
  have e2 : w1 = w := h2
  subst e1 e2
  exact W.vret hx hb (by rw [hrt]; exact hr) (fun t ht hW => ⟨⟨rfl, by rw [ht]; exact hP⟩, hS.F ht⟩) hS.2.2 hd hlk
theorem gx_aret (hX : gx_Ok X M) {o : Nat} {ty : FieldType} (hd : decode M.2.1 pc = .ok (.areturn, 1)) (hr : M.2.2.2.1 = some ty) (hty : ∃ C, ty = .object C) (h1 : gx_res X = some (.inr o)) (h2 : gx_wr X = w) : gx_G X M pc ls [.inr o] w := by
  obtain ⟨p, l, e, s, m, args, below, meth, c, S, res, w1⟩ := X
  obtain ⟨hx, hb, hml, hts, hown, hrt, hlk, hK, hDD, hNW, hSX, hsh⟩ := hX
  intro H locs LS hP hS hl
  have e1 : res = some (.inr o) := h1
  have e2 : w1 = w := h2
  subst e1 e2
  obtain ⟨C, rfl⟩ := hty
  exact W.aret (v := .ref (S.2.2.1 o)) hx hb (by rw [hrt]; exact hr) (Or.inl ⟨C, rfl⟩) (Or.inr ⟨_, rfl⟩) (fun t ht hW => ⟨⟨rfl, by rw [ht]; exact hP⟩, hS.F ht⟩) hS.2.2 hd hlk
/-- a text constant of the class Text -/
theorem gx_ldcs (hX : gx_Ok X M) {ix i : Nat} {tx : String} (hC : M.1.cls = "EachBearsPillar$Text") (hi : i < 7) (hx2 : gx_tx.getD i (0, "", []) = (ix, tx, gx_txb.getD i [])) (hd : decode M.2.1 pc = .ok (.ldc ix, 2)) (k : gx_G X M (pc + 2) ls (.inr (1000 + i) :: st) w) : gx_G X M pc ls st w := by
  obtain ⟨p, l, e, s, m, args, below, meth, c, S, res, w1⟩ := X
  obtain ⟨hx, hb, hml, hts, hown, hrt, hlk, hK, hDD, hNW, hSX, hsh⟩ := hX
  intro H locs LS hP hS hl
  have h1 := hSX.2.1 i hi
  rw [hx2, ← hC] at h1
  exact va_ldcS hx hb hown h1 hd (k H locs LS hP hS hl)
/-- from the walk to the contract -/
theorem gx_met {args : List gx_V} {res : Option gx_V} {w' : gx_Wd} (hy : plainName M.1.cls = true) (hlen : args.length ≤ M.2.2.1) (h : ∀ X, gx_Ok X M → gx_res X = res → gx_wr X = w' → gx_G X M 0 (args.map some) [] w) : gx_MT M args w res w' := by
  intro l S hsh
  refine Met.ofW (cc := M.2.1) (maxL := M.2.2.1) (ret := M.2.2.2.1) hy rfl ?_
  intro p e s m args0 below meth c s₁ B hml hv
  obtain ⟨rfl, hP, hK, hDD, hNW, hSX⟩ := hv
  have hown : s.vm.findClass M.1.cls = some m.cls := findClass_of_methodNamed B.named
  have k := h (p, l, e, s, m, (args.map (gx_cv S.2.2.1)).toArray, below, meth, c, S, res, w') ⟨B.exec, B.bytes, hml, atoms_spec (ws := Cond.code M.1 M.2.1 M.2.2.1 M.2.2.2.1 :: gx_big) B.pre, hown, B.returns, B.notSynchronized, hK, hDD, hNW, hSX, hsh⟩ rfl rfl
  have hsl : ∀ vs : List gx_V, lg_sl (vs.map (gx_cv S.2.2.1)) = (vs.map (gx_cv S.2.2.1)).map Slot.val := by
    intro vs
    induction vs with
    | nil => rfl
    | cons v t ih =>
      have e : lg_sl ((v :: t).map (gx_cv S.2.2.1)) = (if (gx_cv S.2.2.1 v).category = 2 then [Slot.val (gx_cv S.2.2.1 v), Slot.second] else [Slot.val (gx_cv S.2.2.1 v)]) ++ lg_sl (t.map (gx_cv S.2.2.1)) := rfl
      rw [e, gx_cat, ih]
      rfl
  have hl := lv_entry (args.map (gx_cv S.2.2.1)) (n := M.2.2.1) (by rw [hsl]; simpa using hlen)
  rw [lg_entry_eq]
  refine k s.heap [] _ hP va_S.rf (gx_lmono hl fun i v hi => ?_)
  have key : ∀ (vs : List gx_V) (j i : Nat) (v : gx_V), gx_n (vs.map some) i = some v → (j + i, gx_cv S.2.2.1 v) ∈ lv_args j (vs.map (gx_cv S.2.2.1)) := by
    intro vs
    induction vs with
    | nil => intro j i v h; simp [gx_n] at h
    | cons a t ih =>
      intro j i v h
      have hc : (gx_cv S.2.2.1 a).category = 1 := gx_cat _ a
      cases i with
      | zero => simp [gx_n] at h; subst h; simp [lv_args]
      | succ i =>
        have := ih (j + 1) i v h
        simp only [List.map_cons, lv_args, hc]
        refine List.mem_cons_of_mem _ ?_
        rw [show j + (i + 1) = j + 1 + i by omega]
        simpa using this
  have := key args 0 i v hi
  rwa [Nat.zero_add] at this
end
