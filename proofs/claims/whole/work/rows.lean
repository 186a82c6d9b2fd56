section
-- ===== PART A: goes FIRST, ahead of the names: the tables' words, and 'selects' of the private methods out of them =====
/-- a private method of a class that the tables say can be made, by its rows of tables_1 -/
def lw_okq (q : MethodName × Nat) : Prop := (q.1.cls ≠ "java/lang/invoke/MethodHandle" ∧ q.1.cls ≠ "java/lang/invoke/VarHandle") ∧ Cond.instantiable q.1.cls q.2 ∈ tables_1 ∧ Cond.privateMethod q.1 ∈ tables_1 ∧ Cond.instanceMethod q.1 ∈ tables_1
theorem lw_p0 : lw_okq (⟨"EachBearsPillar", "refuse", "(I)I"⟩, 11) := ⟨⟨by decide +kernel, by decide +kernel⟩, List.mem_of_getElem? (i := 15) (by decide +kernel), List.mem_of_getElem? (i := 230) (by decide +kernel), List.mem_of_getElem? (i := 231) (by decide +kernel)⟩
theorem lw_p1 : lw_okq (⟨"EachBearsPillar$Text", "append", "(I)I"⟩, 6) := ⟨⟨by decide +kernel, by decide +kernel⟩, List.mem_of_getElem? (i := 128) (by decide +kernel), List.mem_of_getElem? (i := 240) (by decide +kernel), List.mem_of_getElem? (i := 241) (by decide +kernel)⟩
theorem lw_p2 : lw_okq (⟨"EachBearsPillar$Text", "faultOfForm", "()I"⟩, 6) := ⟨⟨by decide +kernel, by decide +kernel⟩, List.mem_of_getElem? (i := 128) (by decide +kernel), List.mem_of_getElem? (i := 249) (by decide +kernel), List.mem_of_getElem? (i := 250) (by decide +kernel)⟩
theorem lw_p3 : lw_okq (⟨"EachBearsPillar$Text", "rewind", "()V"⟩, 6) := ⟨⟨by decide +kernel, by decide +kernel⟩, List.mem_of_getElem? (i := 128) (by decide +kernel), List.mem_of_getElem? (i := 253) (by decide +kernel), List.mem_of_getElem? (i := 254) (by decide +kernel)⟩
theorem lw_p4 : lw_okq (⟨"EachBearsPillar$Text", "readStatement", "()Z"⟩, 6) := ⟨⟨by decide +kernel, by decide +kernel⟩, List.mem_of_getElem? (i := 128) (by decide +kernel), List.mem_of_getElem? (i := 257) (by decide +kernel), List.mem_of_getElem? (i := 258) (by decide +kernel)⟩
theorem lw_p5 : lw_okq (⟨"EachBearsPillar$Text", "here", "()I"⟩, 6) := ⟨⟨by decide +kernel, by decide +kernel⟩, List.mem_of_getElem? (i := 128) (by decide +kernel), List.mem_of_getElem? (i := 261) (by decide +kernel), List.mem_of_getElem? (i := 262) (by decide +kernel)⟩
theorem lw_p6 : lw_okq (⟨"EachBearsPillar$Text", "readPart", "(C)Z"⟩, 6) := ⟨⟨by decide +kernel, by decide +kernel⟩, List.mem_of_getElem? (i := 128) (by decide +kernel), List.mem_of_getElem? (i := 327) (by decide +kernel), List.mem_of_getElem? (i := 328) (by decide +kernel)⟩
theorem lw_p7 : lw_okq (⟨"EachBearsPillar$Text", "readKind", "()Z"⟩, 6) := ⟨⟨by decide +kernel, by decide +kernel⟩, List.mem_of_getElem? (i := 128) (by decide +kernel), List.mem_of_getElem? (i := 331) (by decide +kernel), List.mem_of_getElem? (i := 332) (by decide +kernel)⟩
theorem lw_p8 : lw_okq (⟨"EachBearsPillar$Text", "keepNumber", "(I)V"⟩, 6) := ⟨⟨by decide +kernel, by decide +kernel⟩, List.mem_of_getElem? (i := 128) (by decide +kernel), List.mem_of_getElem? (i := 336) (by decide +kernel), List.mem_of_getElem? (i := 337) (by decide +kernel)⟩
theorem lw_p9 : lw_okq (⟨"EachBearsPillar$Text", "readNumber", "(I)Z"⟩, 6) := ⟨⟨by decide +kernel, by decide +kernel⟩, List.mem_of_getElem? (i := 128) (by decide +kernel), List.mem_of_getElem? (i := 340) (by decide +kernel), List.mem_of_getElem? (i := 341) (by decide +kernel)⟩
theorem lw_p10 : lw_okq (⟨"EachBearsPillar", "enterStatements", "()I"⟩, 11) := ⟨⟨by decide +kernel, by decide +kernel⟩, List.mem_of_getElem? (i := 15) (by decide +kernel), List.mem_of_getElem? (i := 344) (by decide +kernel), List.mem_of_getElem? (i := 345) (by decide +kernel)⟩
theorem lw_p11 : lw_okq (⟨"EachBearsPillar$Roof", "become", "(LEachBearsPillar$Roof;)V"⟩, 9) := ⟨⟨by decide +kernel, by decide +kernel⟩, List.mem_of_getElem? (i := 23) (by decide +kernel), List.mem_of_getElem? (i := 348) (by decide +kernel), List.mem_of_getElem? (i := 349) (by decide +kernel)⟩
theorem lw_p12 : lw_okq (⟨"EachBearsPillar", "enterStatement", "()Z"⟩, 11) := ⟨⟨by decide +kernel, by decide +kernel⟩, List.mem_of_getElem? (i := 15) (by decide +kernel), List.mem_of_getElem? (i := 357) (by decide +kernel), List.mem_of_getElem? (i := 358) (by decide +kernel)⟩
theorem lw_p13 : lw_okq (⟨"EachBearsPillar$Roof", "addBearer", "(III)Z"⟩, 9) := ⟨⟨by decide +kernel, by decide +kernel⟩, List.mem_of_getElem? (i := 23) (by decide +kernel), List.mem_of_getElem? (i := 361) (by decide +kernel), List.mem_of_getElem? (i := 362) (by decide +kernel)⟩
theorem lw_p14 : lw_okq (⟨"EachBearsPillar$Roof", "hasBearer", "(I)Z"⟩, 9) := ⟨⟨by decide +kernel, by decide +kernel⟩, List.mem_of_getElem? (i := 23) (by decide +kernel), List.mem_of_getElem? (i := 369) (by decide +kernel), List.mem_of_getElem? (i := 370) (by decide +kernel)⟩
theorem lw_p15 : lw_okq (⟨"EachBearsPillar$Roof", "lastAt", "()I"⟩, 9) := ⟨⟨by decide +kernel, by decide +kernel⟩, List.mem_of_getElem? (i := 23) (by decide +kernel), List.mem_of_getElem? (i := 397) (by decide +kernel), List.mem_of_getElem? (i := 398) (by decide +kernel)⟩
def lw_privs_1 : List (MethodName × Nat) := [(⟨"EachBearsPillar", "refuse", "(I)I"⟩, 11), (⟨"EachBearsPillar$Text", "append", "(I)I"⟩, 6), (⟨"EachBearsPillar$Text", "faultOfForm", "()I"⟩, 6), (⟨"EachBearsPillar$Text", "rewind", "()V"⟩, 6), (⟨"EachBearsPillar$Text", "readStatement", "()Z"⟩, 6), (⟨"EachBearsPillar$Text", "here", "()I"⟩, 6), (⟨"EachBearsPillar$Text", "readPart", "(C)Z"⟩, 6), (⟨"EachBearsPillar$Text", "readKind", "()Z"⟩, 6), (⟨"EachBearsPillar$Text", "keepNumber", "(I)V"⟩, 6), (⟨"EachBearsPillar$Text", "readNumber", "(I)Z"⟩, 6), (⟨"EachBearsPillar", "enterStatements", "()I"⟩, 11), (⟨"EachBearsPillar$Roof", "become", "(LEachBearsPillar$Roof;)V"⟩, 9), (⟨"EachBearsPillar", "enterStatement", "()Z"⟩, 11), (⟨"EachBearsPillar$Roof", "addBearer", "(III)Z"⟩, 9), (⟨"EachBearsPillar$Roof", "hasBearer", "(I)Z"⟩, 9), (⟨"EachBearsPillar$Roof", "lastAt", "()I"⟩, 9)]
theorem lw_r1 : ∀ q ∈ lw_privs_1, lw_okq q := List.forall_mem_cons.mpr ⟨lw_p0, List.forall_mem_cons.mpr ⟨lw_p1, List.forall_mem_cons.mpr ⟨lw_p2, List.forall_mem_cons.mpr ⟨lw_p3, List.forall_mem_cons.mpr ⟨lw_p4, List.forall_mem_cons.mpr ⟨lw_p5, List.forall_mem_cons.mpr ⟨lw_p6, List.forall_mem_cons.mpr ⟨lw_p7, List.forall_mem_cons.mpr ⟨lw_p8, List.forall_mem_cons.mpr ⟨lw_p9, List.forall_mem_cons.mpr ⟨lw_p10, List.forall_mem_cons.mpr ⟨lw_p11, List.forall_mem_cons.mpr ⟨lw_p12, List.forall_mem_cons.mpr ⟨lw_p13, List.forall_mem_cons.mpr ⟨lw_p14, List.forall_mem_cons.mpr ⟨lw_p15, fun _ h => absurd h List.not_mem_nil⟩⟩⟩⟩⟩⟩⟩⟩⟩⟩⟩⟩⟩⟩⟩⟩
theorem lw_p16 : lw_okq (⟨"EachBearsPillar$Mind", "asTold", "()V"⟩, 10) := ⟨⟨by decide +kernel, by decide +kernel⟩, List.mem_of_getElem? (i := 79) (by decide +kernel), List.mem_of_getElem? (i := 405) (by decide +kernel), List.mem_of_getElem? (i := 406) (by decide +kernel)⟩
theorem lw_p17 : lw_okq (⟨"EachBearsPillar$Mind", "topOf", "(II)I"⟩, 10) := ⟨⟨by decide +kernel, by decide +kernel⟩, List.mem_of_getElem? (i := 79) (by decide +kernel), List.mem_of_getElem? (i := 411) (by decide +kernel), List.mem_of_getElem? (i := 412) (by decide +kernel)⟩
theorem lw_p18 : lw_okq (⟨"EachBearsPillar$Mind", "canBear", "(II)Z"⟩, 10) := ⟨⟨by decide +kernel, by decide +kernel⟩, List.mem_of_getElem? (i := 79) (by decide +kernel), List.mem_of_getElem? (i := 416) (by decide +kernel), List.mem_of_getElem? (i := 417) (by decide +kernel)⟩
theorem lw_p19 : lw_okq (⟨"EachBearsPillar$Mind", "mightOf", "(II)I"⟩, 10) := ⟨⟨by decide +kernel, by decide +kernel⟩, List.mem_of_getElem? (i := 79) (by decide +kernel), List.mem_of_getElem? (i := 420) (by decide +kernel), List.mem_of_getElem? (i := 421) (by decide +kernel)⟩
theorem lw_p20 : lw_okq (⟨"EachBearsPillar$Mind", "standAndWeigh", "()V"⟩, 10) := ⟨⟨by decide +kernel, by decide +kernel⟩, List.mem_of_getElem? (i := 79) (by decide +kernel), List.mem_of_getElem? (i := 431) (by decide +kernel), List.mem_of_getElem? (i := 432) (by decide +kernel)⟩
theorem lw_p21 : lw_okq (⟨"EachBearsPillar$Mind", "stand", "()V"⟩, 10) := ⟨⟨by decide +kernel, by decide +kernel⟩, List.mem_of_getElem? (i := 79) (by decide +kernel), List.mem_of_getElem? (i := 435) (by decide +kernel), List.mem_of_getElem? (i := 436) (by decide +kernel)⟩
theorem lw_p22 : lw_okq (⟨"EachBearsPillar$Mind", "weigh", "()V"⟩, 10) := ⟨⟨by decide +kernel, by decide +kernel⟩, List.mem_of_getElem? (i := 79) (by decide +kernel), List.mem_of_getElem? (i := 442) (by decide +kernel), List.mem_of_getElem? (i := 443) (by decide +kernel)⟩
theorem lw_p23 : lw_okq (⟨"EachBearsPillar$Mind", "shareOf", "(II)I"⟩, 10) := ⟨⟨by decide +kernel, by decide +kernel⟩, List.mem_of_getElem? (i := 79) (by decide +kernel), List.mem_of_getElem? (i := 446) (by decide +kernel), List.mem_of_getElem? (i := 447) (by decide +kernel)⟩
theorem lw_p24 : lw_okq (⟨"EachBearsPillar$Mind", "isFirm", "()Z"⟩, 10) := ⟨⟨by decide +kernel, by decide +kernel⟩, List.mem_of_getElem? (i := 79) (by decide +kernel), List.mem_of_getElem? (i := 458) (by decide +kernel), List.mem_of_getElem? (i := 459) (by decide +kernel)⟩
theorem lw_p25 : lw_okq (⟨"EachBearsPillar$Mind", "isBorne", "()Z"⟩, 10) := ⟨⟨by decide +kernel, by decide +kernel⟩, List.mem_of_getElem? (i := 79) (by decide +kernel), List.mem_of_getElem? (i := 462) (by decide +kernel), List.mem_of_getElem? (i := 463) (by decide +kernel)⟩
theorem lw_p26 : lw_okq (⟨"EachBearsPillar$Mind", "firstOverloaded", "()I"⟩, 10) := ⟨⟨by decide +kernel, by decide +kernel⟩, List.mem_of_getElem? (i := 79) (by decide +kernel), List.mem_of_getElem? (i := 466) (by decide +kernel), List.mem_of_getElem? (i := 467) (by decide +kernel)⟩
theorem lw_p27 : lw_okq (⟨"EachBearsPillar$Mind", "firstFalling", "()I"⟩, 10) := ⟨⟨by decide +kernel, by decide +kernel⟩, List.mem_of_getElem? (i := 79) (by decide +kernel), List.mem_of_getElem? (i := 470) (by decide +kernel), List.mem_of_getElem? (i := 471) (by decide +kernel)⟩
theorem lw_p28 : lw_okq (⟨"EachBearsPillar", "raiseBoth", "(II)I"⟩, 11) := ⟨⟨by decide +kernel, by decide +kernel⟩, List.mem_of_getElem? (i := 15) (by decide +kernel), List.mem_of_getElem? (i := 495) (by decide +kernel), List.mem_of_getElem? (i := 496) (by decide +kernel)⟩
theorem lw_p29 : lw_okq (⟨"EachBearsPillar", "raise", "(I)I"⟩, 11) := ⟨⟨by decide +kernel, by decide +kernel⟩, List.mem_of_getElem? (i := 15) (by decide +kernel), List.mem_of_getElem? (i := 499) (by decide +kernel), List.mem_of_getElem? (i := 500) (by decide +kernel)⟩
theorem lw_p30 : lw_okq (⟨"EachBearsPillar$Orders", "fill", "()V"⟩, 3) := ⟨⟨by decide +kernel, by decide +kernel⟩, List.mem_of_getElem? (i := 176) (by decide +kernel), List.mem_of_getElem? (i := 511) (by decide +kernel), List.mem_of_getElem? (i := 512) (by decide +kernel)⟩
theorem lw_p31 : lw_okq (⟨"EachBearsPillar$Orders", "waysOn", "(III)I"⟩, 3) := ⟨⟨by decide +kernel, by decide +kernel⟩, List.mem_of_getElem? (i := 176) (by decide +kernel), List.mem_of_getElem? (i := 522) (by decide +kernel), List.mem_of_getElem? (i := 523) (by decide +kernel)⟩
def lw_privs_2 : List (MethodName × Nat) := [(⟨"EachBearsPillar$Mind", "asTold", "()V"⟩, 10), (⟨"EachBearsPillar$Mind", "topOf", "(II)I"⟩, 10), (⟨"EachBearsPillar$Mind", "canBear", "(II)Z"⟩, 10), (⟨"EachBearsPillar$Mind", "mightOf", "(II)I"⟩, 10), (⟨"EachBearsPillar$Mind", "standAndWeigh", "()V"⟩, 10), (⟨"EachBearsPillar$Mind", "stand", "()V"⟩, 10), (⟨"EachBearsPillar$Mind", "weigh", "()V"⟩, 10), (⟨"EachBearsPillar$Mind", "shareOf", "(II)I"⟩, 10), (⟨"EachBearsPillar$Mind", "isFirm", "()Z"⟩, 10), (⟨"EachBearsPillar$Mind", "isBorne", "()Z"⟩, 10), (⟨"EachBearsPillar$Mind", "firstOverloaded", "()I"⟩, 10), (⟨"EachBearsPillar$Mind", "firstFalling", "()I"⟩, 10), (⟨"EachBearsPillar", "raiseBoth", "(II)I"⟩, 11), (⟨"EachBearsPillar", "raise", "(I)I"⟩, 11), (⟨"EachBearsPillar$Orders", "fill", "()V"⟩, 3), (⟨"EachBearsPillar$Orders", "waysOn", "(III)I"⟩, 3)]
theorem lw_r2 : ∀ q ∈ lw_privs_2, lw_okq q := List.forall_mem_cons.mpr ⟨lw_p16, List.forall_mem_cons.mpr ⟨lw_p17, List.forall_mem_cons.mpr ⟨lw_p18, List.forall_mem_cons.mpr ⟨lw_p19, List.forall_mem_cons.mpr ⟨lw_p20, List.forall_mem_cons.mpr ⟨lw_p21, List.forall_mem_cons.mpr ⟨lw_p22, List.forall_mem_cons.mpr ⟨lw_p23, List.forall_mem_cons.mpr ⟨lw_p24, List.forall_mem_cons.mpr ⟨lw_p25, List.forall_mem_cons.mpr ⟨lw_p26, List.forall_mem_cons.mpr ⟨lw_p27, List.forall_mem_cons.mpr ⟨lw_p28, List.forall_mem_cons.mpr ⟨lw_p29, List.forall_mem_cons.mpr ⟨lw_p30, List.forall_mem_cons.mpr ⟨lw_p31, fun _ h => absurd h List.not_mem_nil⟩⟩⟩⟩⟩⟩⟩⟩⟩⟩⟩⟩⟩⟩⟩⟩
theorem lw_p32 : lw_okq (⟨"EachBearsPillar$Orders", "bearsLeft", "(IIII)Z"⟩, 3) := ⟨⟨by decide +kernel, by decide +kernel⟩, List.mem_of_getElem? (i := 176) (by decide +kernel), List.mem_of_getElem? (i := 532) (by decide +kernel), List.mem_of_getElem? (i := 533) (by decide +kernel)⟩
theorem lw_p33 : lw_okq (⟨"EachBearsPillar$Orders", "mostOf", "(II)I"⟩, 3) := ⟨⟨by decide +kernel, by decide +kernel⟩, List.mem_of_getElem? (i := 176) (by decide +kernel), List.mem_of_getElem? (i := 536) (by decide +kernel), List.mem_of_getElem? (i := 537) (by decide +kernel)⟩
theorem lw_p34 : lw_okq (⟨"EachBearsPillar$Orders", "waysWith", "(IIII)I"⟩, 3) := ⟨⟨by decide +kernel, by decide +kernel⟩, List.mem_of_getElem? (i := 176) (by decide +kernel), List.mem_of_getElem? (i := 541) (by decide +kernel), List.mem_of_getElem? (i := 542) (by decide +kernel)⟩
theorem lw_p35 : lw_okq (⟨"EachBearsPillar$Orders", "total", "()I"⟩, 3) := ⟨⟨by decide +kernel, by decide +kernel⟩, List.mem_of_getElem? (i := 176) (by decide +kernel), List.mem_of_getElem? (i := 545) (by decide +kernel), List.mem_of_getElem? (i := 546) (by decide +kernel)⟩
theorem lw_p36 : lw_okq (⟨"EachBearsPillar$Orders", "firstUnder", "(I)I"⟩, 3) := ⟨⟨by decide +kernel, by decide +kernel⟩, List.mem_of_getElem? (i := 176) (by decide +kernel), List.mem_of_getElem? (i := 549) (by decide +kernel), List.mem_of_getElem? (i := 550) (by decide +kernel)⟩
theorem lw_p37 : lw_okq (⟨"EachBearsPillar$Orders", "leastNext", "(III)I"⟩, 3) := ⟨⟨by decide +kernel, by decide +kernel⟩, List.mem_of_getElem? (i := 176) (by decide +kernel), List.mem_of_getElem? (i := 553) (by decide +kernel), List.mem_of_getElem? (i := 554) (by decide +kernel)⟩
theorem lw_p38 : lw_okq (⟨"EachBearsPillar", "firstUntrue", "()I"⟩, 11) := ⟨⟨by decide +kernel, by decide +kernel⟩, List.mem_of_getElem? (i := 15) (by decide +kernel), List.mem_of_getElem? (i := 583) (by decide +kernel), List.mem_of_getElem? (i := 584) (by decide +kernel)⟩
theorem lw_p39 : lw_okq (⟨"EachBearsPillar$Walk", "explore", "()V"⟩, 4) := ⟨⟨by decide +kernel, by decide +kernel⟩, List.mem_of_getElem? (i := 157) (by decide +kernel), List.mem_of_getElem? (i := 596) (by decide +kernel), List.mem_of_getElem? (i := 597) (by decide +kernel)⟩
theorem lw_p40 : lw_okq (⟨"EachBearsPillar$Walk", "visit", "(III)V"⟩, 4) := ⟨⟨by decide +kernel, by decide +kernel⟩, List.mem_of_getElem? (i := 157) (by decide +kernel), List.mem_of_getElem? (i := 601) (by decide +kernel), List.mem_of_getElem? (i := 602) (by decide +kernel)⟩
theorem lw_p41 : lw_okq (⟨"EachBearsPillar$Walk", "fewestTo", "(I)I"⟩, 4) := ⟨⟨by decide +kernel, by decide +kernel⟩, List.mem_of_getElem? (i := 157) (by decide +kernel), List.mem_of_getElem? (i := 608) (by decide +kernel), List.mem_of_getElem? (i := 609) (by decide +kernel)⟩
theorem lw_p42 : lw_okq (⟨"EachBearsPillar$Walk", "minutesTo", "(II)I"⟩, 4) := ⟨⟨by decide +kernel, by decide +kernel⟩, List.mem_of_getElem? (i := 157) (by decide +kernel), List.mem_of_getElem? (i := 612) (by decide +kernel), List.mem_of_getElem? (i := 613) (by decide +kernel)⟩
theorem lw_p43 : lw_okq (⟨"EachBearsPillar$Walk", "reachedWithin", "(I)I"⟩, 4) := ⟨⟨by decide +kernel, by decide +kernel⟩, List.mem_of_getElem? (i := 157) (by decide +kernel), List.mem_of_getElem? (i := 620) (by decide +kernel), List.mem_of_getElem? (i := 621) (by decide +kernel)⟩
theorem lw_p44 : lw_okq (⟨"EachBearsPillar$Walk", "lowestAt", "(II)I"⟩, 4) := ⟨⟨by decide +kernel, by decide +kernel⟩, List.mem_of_getElem? (i := 157) (by decide +kernel), List.mem_of_getElem? (i := 629) (by decide +kernel), List.mem_of_getElem? (i := 630) (by decide +kernel)⟩
theorem lw_p45 : lw_okq (⟨"EachBearsPillarModel", "no", "(I)I"⟩, 35) := ⟨⟨by decide +kernel, by decide +kernel⟩, List.mem_of_getElem? (i := 641) (by decide +kernel), List.mem_of_getElem? (i := 757) (by decide +kernel), List.mem_of_getElem? (i := 758) (by decide +kernel)⟩
theorem lw_p46 : lw_okq (⟨"EachBearsPillarModel", "isText", "()Z"⟩, 35) := ⟨⟨by decide +kernel, by decide +kernel⟩, List.mem_of_getElem? (i := 641) (by decide +kernel), List.mem_of_getElem? (i := 765) (by decide +kernel), List.mem_of_getElem? (i := 766) (by decide +kernel)⟩
theorem lw_p47 : lw_okq (⟨"EachBearsPillarModel", "takesStatement", "()Z"⟩, 35) := ⟨⟨by decide +kernel, by decide +kernel⟩, List.mem_of_getElem? (i := 641) (by decide +kernel), List.mem_of_getElem? (i := 769) (by decide +kernel), List.mem_of_getElem? (i := 770) (by decide +kernel)⟩
def lw_privs_3 : List (MethodName × Nat) := [(⟨"EachBearsPillar$Orders", "bearsLeft", "(IIII)Z"⟩, 3), (⟨"EachBearsPillar$Orders", "mostOf", "(II)I"⟩, 3), (⟨"EachBearsPillar$Orders", "waysWith", "(IIII)I"⟩, 3), (⟨"EachBearsPillar$Orders", "total", "()I"⟩, 3), (⟨"EachBearsPillar$Orders", "firstUnder", "(I)I"⟩, 3), (⟨"EachBearsPillar$Orders", "leastNext", "(III)I"⟩, 3), (⟨"EachBearsPillar", "firstUntrue", "()I"⟩, 11), (⟨"EachBearsPillar$Walk", "explore", "()V"⟩, 4), (⟨"EachBearsPillar$Walk", "visit", "(III)V"⟩, 4), (⟨"EachBearsPillar$Walk", "fewestTo", "(I)I"⟩, 4), (⟨"EachBearsPillar$Walk", "minutesTo", "(II)I"⟩, 4), (⟨"EachBearsPillar$Walk", "reachedWithin", "(I)I"⟩, 4), (⟨"EachBearsPillar$Walk", "lowestAt", "(II)I"⟩, 4), (⟨"EachBearsPillarModel", "no", "(I)I"⟩, 35), (⟨"EachBearsPillarModel", "isText", "()Z"⟩, 35), (⟨"EachBearsPillarModel", "takesStatement", "()Z"⟩, 35)]
theorem lw_r3 : ∀ q ∈ lw_privs_3, lw_okq q := List.forall_mem_cons.mpr ⟨lw_p32, List.forall_mem_cons.mpr ⟨lw_p33, List.forall_mem_cons.mpr ⟨lw_p34, List.forall_mem_cons.mpr ⟨lw_p35, List.forall_mem_cons.mpr ⟨lw_p36, List.forall_mem_cons.mpr ⟨lw_p37, List.forall_mem_cons.mpr ⟨lw_p38, List.forall_mem_cons.mpr ⟨lw_p39, List.forall_mem_cons.mpr ⟨lw_p40, List.forall_mem_cons.mpr ⟨lw_p41, List.forall_mem_cons.mpr ⟨lw_p42, List.forall_mem_cons.mpr ⟨lw_p43, List.forall_mem_cons.mpr ⟨lw_p44, List.forall_mem_cons.mpr ⟨lw_p45, List.forall_mem_cons.mpr ⟨lw_p46, List.forall_mem_cons.mpr ⟨lw_p47, fun _ h => absurd h List.not_mem_nil⟩⟩⟩⟩⟩⟩⟩⟩⟩⟩⟩⟩⟩⟩⟩⟩
theorem lw_p48 : lw_okq (⟨"EachBearsPillarModel", "next", "()I"⟩, 35) := ⟨⟨by decide +kernel, by decide +kernel⟩, List.mem_of_getElem? (i := 641) (by decide +kernel), List.mem_of_getElem? (i := 773) (by decide +kernel), List.mem_of_getElem? (i := 774) (by decide +kernel)⟩
theorem lw_p49 : lw_okq (⟨"EachBearsPillarModel", "takesRest", "(I)Z"⟩, 35) := ⟨⟨by decide +kernel, by decide +kernel⟩, List.mem_of_getElem? (i := 641) (by decide +kernel), List.mem_of_getElem? (i := 777) (by decide +kernel), List.mem_of_getElem? (i := 778) (by decide +kernel)⟩
theorem lw_p50 : lw_okq (⟨"EachBearsPillarModel", "takesKind", "()Z"⟩, 35) := ⟨⟨by decide +kernel, by decide +kernel⟩, List.mem_of_getElem? (i := 641) (by decide +kernel), List.mem_of_getElem? (i := 781) (by decide +kernel), List.mem_of_getElem? (i := 782) (by decide +kernel)⟩
theorem lw_p51 : lw_okq (⟨"EachBearsPillarModel", "kindOf", "(I)I"⟩, 35) := ⟨⟨by decide +kernel, by decide +kernel⟩, List.mem_of_getElem? (i := 641) (by decide +kernel), List.mem_of_getElem? (i := 785) (by decide +kernel), List.mem_of_getElem? (i := 786) (by decide +kernel)⟩
theorem lw_p52 : lw_okq (⟨"EachBearsPillarModel", "takesTwo", "(II)Z"⟩, 35) := ⟨⟨by decide +kernel, by decide +kernel⟩, List.mem_of_getElem? (i := 641) (by decide +kernel), List.mem_of_getElem? (i := 789) (by decide +kernel), List.mem_of_getElem? (i := 790) (by decide +kernel)⟩
theorem lw_p53 : lw_okq (⟨"EachBearsPillarModel", "number", "(I)I"⟩, 35) := ⟨⟨by decide +kernel, by decide +kernel⟩, List.mem_of_getElem? (i := 641) (by decide +kernel), List.mem_of_getElem? (i := 793) (by decide +kernel), List.mem_of_getElem? (i := 794) (by decide +kernel)⟩
theorem lw_p54 : lw_okq (⟨"EachBearsPillarModel", "isDigit", "()Z"⟩, 35) := ⟨⟨by decide +kernel, by decide +kernel⟩, List.mem_of_getElem? (i := 641) (by decide +kernel), List.mem_of_getElem? (i := 797) (by decide +kernel), List.mem_of_getElem? (i := 798) (by decide +kernel)⟩
theorem lw_p55 : lw_okq (⟨"EachBearsPillarModel", "in", "(III)Z"⟩, 35) := ⟨⟨by decide +kernel, by decide +kernel⟩, List.mem_of_getElem? (i := 641) (by decide +kernel), List.mem_of_getElem? (i := 801) (by decide +kernel), List.mem_of_getElem? (i := 802) (by decide +kernel)⟩
theorem lw_p56 : lw_okq (⟨"EachBearsPillarModel", "takes", "(I)Z"⟩, 35) := ⟨⟨by decide +kernel, by decide +kernel⟩, List.mem_of_getElem? (i := 641) (by decide +kernel), List.mem_of_getElem? (i := 805) (by decide +kernel), List.mem_of_getElem? (i := 806) (by decide +kernel)⟩
theorem lw_p57 : lw_okq (⟨"EachBearsPillarModel", "wrongPlace", "()I"⟩, 35) := ⟨⟨by decide +kernel, by decide +kernel⟩, List.mem_of_getElem? (i := 641) (by decide +kernel), List.mem_of_getElem? (i := 809) (by decide +kernel), List.mem_of_getElem? (i := 810) (by decide +kernel)⟩
theorem lw_p58 : lw_okq (⟨"EachBearsPillarModel", "isGood", "(II)Z"⟩, 35) := ⟨⟨by decide +kernel, by decide +kernel⟩, List.mem_of_getElem? (i := 641) (by decide +kernel), List.mem_of_getElem? (i := 813) (by decide +kernel), List.mem_of_getElem? (i := 814) (by decide +kernel)⟩
theorem lw_p59 : lw_okq (⟨"EachBearsPillarModel", "comesAll", "()I"⟩, 35) := ⟨⟨by decide +kernel, by decide +kernel⟩, List.mem_of_getElem? (i := 641) (by decide +kernel), List.mem_of_getElem? (i := 817) (by decide +kernel), List.mem_of_getElem? (i := 818) (by decide +kernel)⟩
theorem lw_p60 : lw_okq (⟨"EachBearsPillarModel", "comes", "(I)V"⟩, 35) := ⟨⟨by decide +kernel, by decide +kernel⟩, List.mem_of_getElem? (i := 641) (by decide +kernel), List.mem_of_getElem? (i := 821) (by decide +kernel), List.mem_of_getElem? (i := 822) (by decide +kernel)⟩
theorem lw_p61 : lw_okq (⟨"EachBearsPillarModel", "isBearer", "(I)Z"⟩, 35) := ⟨⟨by decide +kernel, by decide +kernel⟩, List.mem_of_getElem? (i := 641) (by decide +kernel), List.mem_of_getElem? (i := 829) (by decide +kernel), List.mem_of_getElem? (i := 830) (by decide +kernel)⟩
theorem lw_p62 : lw_okq (⟨"EachBearsPillarModel", "topOf", "(I)I"⟩, 35) := ⟨⟨by decide +kernel, by decide +kernel⟩, List.mem_of_getElem? (i := 641) (by decide +kernel), List.mem_of_getElem? (i := 833) (by decide +kernel), List.mem_of_getElem? (i := 834) (by decide +kernel)⟩
theorem lw_p63 : lw_okq (⟨"EachBearsPillarModel", "bears", "(I)Z"⟩, 35) := ⟨⟨by decide +kernel, by decide +kernel⟩, List.mem_of_getElem? (i := 641) (by decide +kernel), List.mem_of_getElem? (i := 837) (by decide +kernel), List.mem_of_getElem? (i := 838) (by decide +kernel)⟩
def lw_privs_4 : List (MethodName × Nat) := [(⟨"EachBearsPillarModel", "next", "()I"⟩, 35), (⟨"EachBearsPillarModel", "takesRest", "(I)Z"⟩, 35), (⟨"EachBearsPillarModel", "takesKind", "()Z"⟩, 35), (⟨"EachBearsPillarModel", "kindOf", "(I)I"⟩, 35), (⟨"EachBearsPillarModel", "takesTwo", "(II)Z"⟩, 35), (⟨"EachBearsPillarModel", "number", "(I)I"⟩, 35), (⟨"EachBearsPillarModel", "isDigit", "()Z"⟩, 35), (⟨"EachBearsPillarModel", "in", "(III)Z"⟩, 35), (⟨"EachBearsPillarModel", "takes", "(I)Z"⟩, 35), (⟨"EachBearsPillarModel", "wrongPlace", "()I"⟩, 35), (⟨"EachBearsPillarModel", "isGood", "(II)Z"⟩, 35), (⟨"EachBearsPillarModel", "comesAll", "()I"⟩, 35), (⟨"EachBearsPillarModel", "comes", "(I)V"⟩, 35), (⟨"EachBearsPillarModel", "isBearer", "(I)Z"⟩, 35), (⟨"EachBearsPillarModel", "topOf", "(I)I"⟩, 35), (⟨"EachBearsPillarModel", "bears", "(I)Z"⟩, 35)]
theorem lw_r4 : ∀ q ∈ lw_privs_4, lw_okq q := List.forall_mem_cons.mpr ⟨lw_p48, List.forall_mem_cons.mpr ⟨lw_p49, List.forall_mem_cons.mpr ⟨lw_p50, List.forall_mem_cons.mpr ⟨lw_p51, List.forall_mem_cons.mpr ⟨lw_p52, List.forall_mem_cons.mpr ⟨lw_p53, List.forall_mem_cons.mpr ⟨lw_p54, List.forall_mem_cons.mpr ⟨lw_p55, List.forall_mem_cons.mpr ⟨lw_p56, List.forall_mem_cons.mpr ⟨lw_p57, List.forall_mem_cons.mpr ⟨lw_p58, List.forall_mem_cons.mpr ⟨lw_p59, List.forall_mem_cons.mpr ⟨lw_p60, List.forall_mem_cons.mpr ⟨lw_p61, List.forall_mem_cons.mpr ⟨lw_p62, List.forall_mem_cons.mpr ⟨lw_p63, fun _ h => absurd h List.not_mem_nil⟩⟩⟩⟩⟩⟩⟩⟩⟩⟩⟩⟩⟩⟩⟩⟩
theorem lw_p64 : lw_okq (⟨"EachBearsPillarModel", "mightOf", "(I)I"⟩, 35) := ⟨⟨by decide +kernel, by decide +kernel⟩, List.mem_of_getElem? (i := 641) (by decide +kernel), List.mem_of_getElem? (i := 841) (by decide +kernel), List.mem_of_getElem? (i := 842) (by decide +kernel)⟩
theorem lw_p65 : lw_okq (⟨"EachBearsPillarModel", "lastAt", "()I"⟩, 35) := ⟨⟨by decide +kernel, by decide +kernel⟩, List.mem_of_getElem? (i := 641) (by decide +kernel), List.mem_of_getElem? (i := 865) (by decide +kernel), List.mem_of_getElem? (i := 866) (by decide +kernel)⟩
theorem lw_p66 : lw_okq (⟨"EachBearsPillarModel", "loadOf", "(I)I"⟩, 35) := ⟨⟨by decide +kernel, by decide +kernel⟩, List.mem_of_getElem? (i := 641) (by decide +kernel), List.mem_of_getElem? (i := 873) (by decide +kernel), List.mem_of_getElem? (i := 874) (by decide +kernel)⟩
theorem lw_p67 : lw_okq (⟨"EachBearsPillarModel", "loadBy", "(III)I"⟩, 35) := ⟨⟨by decide +kernel, by decide +kernel⟩, List.mem_of_getElem? (i := 641) (by decide +kernel), List.mem_of_getElem? (i := 877) (by decide +kernel), List.mem_of_getElem? (i := 878) (by decide +kernel)⟩
theorem lw_p68 : lw_okq (⟨"EachBearsPillarModel", "hasEnds", "(I)Z"⟩, 35) := ⟨⟨by decide +kernel, by decide +kernel⟩, List.mem_of_getElem? (i := 641) (by decide +kernel), List.mem_of_getElem? (i := 881) (by decide +kernel), List.mem_of_getElem? (i := 882) (by decide +kernel)⟩
theorem lw_p69 : lw_okq (⟨"EachBearsPillarModel", "isHeld", "()Z"⟩, 35) := ⟨⟨by decide +kernel, by decide +kernel⟩, List.mem_of_getElem? (i := 641) (by decide +kernel), List.mem_of_getElem? (i := 889) (by decide +kernel), List.mem_of_getElem? (i := 890) (by decide +kernel)⟩
theorem lw_p70 : lw_okq (⟨"EachBearsPillarModel", "sagNow", "()I"⟩, 35) := ⟨⟨by decide +kernel, by decide +kernel⟩, List.mem_of_getElem? (i := 641) (by decide +kernel), List.mem_of_getElem? (i := 893) (by decide +kernel), List.mem_of_getElem? (i := 894) (by decide +kernel)⟩
theorem lw_p71 : lw_okq (⟨"EachBearsPillarModel", "falls", "(I)Z"⟩, 35) := ⟨⟨by decide +kernel, by decide +kernel⟩, List.mem_of_getElem? (i := 641) (by decide +kernel), List.mem_of_getElem? (i := 897) (by decide +kernel), List.mem_of_getElem? (i := 898) (by decide +kernel)⟩
theorem lw_p72 : lw_okq (⟨"EachBearsPillarModel", "blocksFor", "(III)I"⟩, 35) := ⟨⟨by decide +kernel, by decide +kernel⟩, List.mem_of_getElem? (i := 641) (by decide +kernel), List.mem_of_getElem? (i := 913) (by decide +kernel), List.mem_of_getElem? (i := 914) (by decide +kernel)⟩
theorem lw_p73 : lw_okq (⟨"EachBearsPillarModel", "changes", "(II)V"⟩, 35) := ⟨⟨by decide +kernel, by decide +kernel⟩, List.mem_of_getElem? (i := 641) (by decide +kernel), List.mem_of_getElem? (i := 921) (by decide +kernel), List.mem_of_getElem? (i := 922) (by decide +kernel)⟩
theorem lw_p74 : lw_okq (⟨"EachBearsPillarModel", "layOrder", "(I)Z"⟩, 35) := ⟨⟨by decide +kernel, by decide +kernel⟩, List.mem_of_getElem? (i := 641) (by decide +kernel), List.mem_of_getElem? (i := 929) (by decide +kernel), List.mem_of_getElem? (i := 930) (by decide +kernel)⟩
theorem lw_p75 : lw_okq (⟨"EachBearsPillarModel", "has", "(II)Z"⟩, 35) := ⟨⟨by decide +kernel, by decide +kernel⟩, List.mem_of_getElem? (i := 641) (by decide +kernel), List.mem_of_getElem? (i := 933) (by decide +kernel), List.mem_of_getElem? (i := 934) (by decide +kernel)⟩
theorem lw_p76 : lw_okq (⟨"EachBearsPillarModel", "isRow", "()Z"⟩, 35) := ⟨⟨by decide +kernel, by decide +kernel⟩, List.mem_of_getElem? (i := 641) (by decide +kernel), List.mem_of_getElem? (i := 953) (by decide +kernel), List.mem_of_getElem? (i := 954) (by decide +kernel)⟩
theorem lw_p77 : lw_okq (⟨"EachBearsPillarModel", "judged", "()I"⟩, 35) := ⟨⟨by decide +kernel, by decide +kernel⟩, List.mem_of_getElem? (i := 641) (by decide +kernel), List.mem_of_getElem? (i := 961) (by decide +kernel), List.mem_of_getElem? (i := 962) (by decide +kernel)⟩
theorem lw_p78 : lw_okq (⟨"EachBearsPillarModel", "layWays", "()V"⟩, 35) := ⟨⟨by decide +kernel, by decide +kernel⟩, List.mem_of_getElem? (i := 641) (by decide +kernel), List.mem_of_getElem? (i := 969) (by decide +kernel), List.mem_of_getElem? (i := 970) (by decide +kernel)⟩
theorem lw_p79 : lw_okq (⟨"EachBearsPillarModel", "reaches", "(III)V"⟩, 35) := ⟨⟨by decide +kernel, by decide +kernel⟩, List.mem_of_getElem? (i := 641) (by decide +kernel), List.mem_of_getElem? (i := 973) (by decide +kernel), List.mem_of_getElem? (i := 974) (by decide +kernel)⟩
def lw_privs_5 : List (MethodName × Nat) := [(⟨"EachBearsPillarModel", "mightOf", "(I)I"⟩, 35), (⟨"EachBearsPillarModel", "lastAt", "()I"⟩, 35), (⟨"EachBearsPillarModel", "loadOf", "(I)I"⟩, 35), (⟨"EachBearsPillarModel", "loadBy", "(III)I"⟩, 35), (⟨"EachBearsPillarModel", "hasEnds", "(I)Z"⟩, 35), (⟨"EachBearsPillarModel", "isHeld", "()Z"⟩, 35), (⟨"EachBearsPillarModel", "sagNow", "()I"⟩, 35), (⟨"EachBearsPillarModel", "falls", "(I)Z"⟩, 35), (⟨"EachBearsPillarModel", "blocksFor", "(III)I"⟩, 35), (⟨"EachBearsPillarModel", "changes", "(II)V"⟩, 35), (⟨"EachBearsPillarModel", "layOrder", "(I)Z"⟩, 35), (⟨"EachBearsPillarModel", "has", "(II)Z"⟩, 35), (⟨"EachBearsPillarModel", "isRow", "()Z"⟩, 35), (⟨"EachBearsPillarModel", "judged", "()I"⟩, 35), (⟨"EachBearsPillarModel", "layWays", "()V"⟩, 35), (⟨"EachBearsPillarModel", "reaches", "(III)V"⟩, 35)]
theorem lw_r5 : ∀ q ∈ lw_privs_5, lw_okq q := List.forall_mem_cons.mpr ⟨lw_p64, List.forall_mem_cons.mpr ⟨lw_p65, List.forall_mem_cons.mpr ⟨lw_p66, List.forall_mem_cons.mpr ⟨lw_p67, List.forall_mem_cons.mpr ⟨lw_p68, List.forall_mem_cons.mpr ⟨lw_p69, List.forall_mem_cons.mpr ⟨lw_p70, List.forall_mem_cons.mpr ⟨lw_p71, List.forall_mem_cons.mpr ⟨lw_p72, List.forall_mem_cons.mpr ⟨lw_p73, List.forall_mem_cons.mpr ⟨lw_p74, List.forall_mem_cons.mpr ⟨lw_p75, List.forall_mem_cons.mpr ⟨lw_p76, List.forall_mem_cons.mpr ⟨lw_p77, List.forall_mem_cons.mpr ⟨lw_p78, List.forall_mem_cons.mpr ⟨lw_p79, fun _ h => absurd h List.not_mem_nil⟩⟩⟩⟩⟩⟩⟩⟩⟩⟩⟩⟩⟩⟩⟩⟩
theorem lw_p80 : lw_okq (⟨"EachBearsPillarModel", "isHeldAt", "(II)Z"⟩, 35) := ⟨⟨by decide +kernel, by decide +kernel⟩, List.mem_of_getElem? (i := 641) (by decide +kernel), List.mem_of_getElem? (i := 977) (by decide +kernel), List.mem_of_getElem? (i := 978) (by decide +kernel)⟩
theorem lw_p81 : lw_okq (⟨"EachBearsPillarModel", "draw", "(I)I"⟩, 35) := ⟨⟨by decide +kernel, by decide +kernel⟩, List.mem_of_getElem? (i := 641) (by decide +kernel), List.mem_of_getElem? (i := 993) (by decide +kernel), List.mem_of_getElem? (i := 994) (by decide +kernel)⟩
theorem lw_p82 : lw_okq (⟨"EachBearsPillarModel", "allWeight", "()I"⟩, 35) := ⟨⟨by decide +kernel, by decide +kernel⟩, List.mem_of_getElem? (i := 641) (by decide +kernel), List.mem_of_getElem? (i := 1012) (by decide +kernel), List.mem_of_getElem? (i := 1013) (by decide +kernel)⟩
theorem lw_p83 : lw_okq (⟨"EachBearsPillarModel", "allLoads", "()I"⟩, 35) := ⟨⟨by decide +kernel, by decide +kernel⟩, List.mem_of_getElem? (i := 641) (by decide +kernel), List.mem_of_getElem? (i := 1016) (by decide +kernel), List.mem_of_getElem? (i := 1017) (by decide +kernel)⟩
theorem lw_p84 : lw_okq (⟨"EachBearsPillarModel", "manyBear", "()I"⟩, 35) := ⟨⟨by decide +kernel, by decide +kernel⟩, List.mem_of_getElem? (i := 641) (by decide +kernel), List.mem_of_getElem? (i := 1020) (by decide +kernel), List.mem_of_getElem? (i := 1021) (by decide +kernel)⟩
def lw_privs_6 : List (MethodName × Nat) := [(⟨"EachBearsPillarModel", "isHeldAt", "(II)Z"⟩, 35), (⟨"EachBearsPillarModel", "draw", "(I)I"⟩, 35), (⟨"EachBearsPillarModel", "allWeight", "()I"⟩, 35), (⟨"EachBearsPillarModel", "allLoads", "()I"⟩, 35), (⟨"EachBearsPillarModel", "manyBear", "()I"⟩, 35)]
theorem lw_r6 : ∀ q ∈ lw_privs_6, lw_okq q := List.forall_mem_cons.mpr ⟨lw_p80, List.forall_mem_cons.mpr ⟨lw_p81, List.forall_mem_cons.mpr ⟨lw_p82, List.forall_mem_cons.mpr ⟨lw_p83, List.forall_mem_cons.mpr ⟨lw_p84, fun _ h => absurd h List.not_mem_nil⟩⟩⟩⟩⟩
def lw_privs : List (MethodName × Nat) := lw_privs_1 ++ (lw_privs_2 ++ (lw_privs_3 ++ (lw_privs_4 ++ (lw_privs_5 ++ (lw_privs_6)))))
def lw_tbl : List Cond := k2_sels lw_privs ++ tables_1
theorem lw_privs_ok : ∀ q ∈ lw_privs, lw_okq q := by
  show ∀ q ∈ lw_privs_1 ++ (lw_privs_2 ++ (lw_privs_3 ++ (lw_privs_4 ++ (lw_privs_5 ++ (lw_privs_6))))), lw_okq q
  exact List.forall_mem_append.mpr ⟨lw_r1, List.forall_mem_append.mpr ⟨lw_r2, List.forall_mem_append.mpr ⟨lw_r3, List.forall_mem_append.mpr ⟨lw_r4, List.forall_mem_append.mpr ⟨lw_r5, lw_r6⟩⟩⟩⟩⟩
-- ===== end of PART A; then your names; then what follows =====
end
section
/-! ===== BASE: a side's world as a function of object and place; the machine's rows over it ===== -/
/-- the words that every method has: the good words of the tables -/
def gx_big : List Cond := lw_tbl.filter goodWord
def gx_isNest : Cond → Bool
  | .fieldLinkNest .. => true
  | .methodLinkNest .. => true
  | _ => false
/-- the links to private members of nest mates -/
def gx_nest : List Cond := lw_tbl.filter gx_isNest
def gx_NW (U : State) : Prop := ∀ w ∈ gx_nest, va_Nw w U
theorem gx_NW.warm {s U : State} (hW : s.WarmedH U.vm) (h : gx_NW s) : gx_NW U := by
  intro w hw
  have hn := (List.mem_filter.mp hw).2
  have h1 := h w hw
  cases w <;> first | exact va_Nw.warmF hW h1 | exact va_Nw.warmM hW h1 | (simp [gx_isNest] at hn; done)
theorem gx_NW.same {s U : State} (hv : s.vm = U.vm) (h : gx_NW s) : gx_NW U := by
  intro w hw
  have hn := (List.mem_filter.mp hw).2
  have h1 := h w hw
  cases w <;> first | exact va_Nw.same rfl hv h1 | (simp [gx_isNest] at hn; done)
theorem gx_good {h c : Cond} (hc : c ∈ gx_big) : GoodIn (h :: gx_big) (c :: gx_big) := by
  intro w hw
  rcases List.mem_cons.mp hw with rfl | hw
  · exact ⟨List.mem_cons_of_mem _ hc, good_of_word (List.mem_filter.mp hc).2⟩
  · exact ⟨List.mem_cons_of_mem _ hw, good_of_word (List.mem_filter.mp hw).2⟩
abbrev gx_V : Type := Int32 ⊕ Nat
abbrev gx_Wd : Type := Nat → Nat → Int32
abbrev gx_Sh : Type := Nat ⊕ (Nat × List (Option Nat))
/-- a side: its objects' shapes, classes' numbers, addresses, the class of int[], the texts' rows -/
abbrev gx_Sd : Type := List gx_Sh × va_G × (Nat → Nat) × ClassId × (Nat → Nat)
def gx_cv (ad : Nat → Nat) : gx_V → Value
  | .inl x => .int x
  | .inr o => .ref (ad o)
def gx_fs (ad : Nat → Nat) (f : Nat → Int32) : Nat → List (Option Nat) → List Value
  | _, [] => []
  | k, none :: t => .int (f k) :: gx_fs ad f (k + 1) t
  | k, some o :: t => .ref (ad o) :: gx_fs ad f (k + 1) t
def gx_ce (S : gx_Sd) (f : Nat → Int32) : gx_Sh → va_E
  | .inl n => .inl (S.2.2.2.1, n, .inl f)
  | .inr c => .inr (c.1, gx_fs S.2.2.1 f 0 c.2)
def gx_cs (S : gx_Sd) (w : gx_Wd) : Nat → List gx_Sh → va_W
  | _, [] => []
  | k, s :: t => (S.2.2.1 k, gx_ce S (w k) s) :: gx_cs S w (k + 1) t
def gx_cells (S : gx_Sd) (w : gx_Wd) : va_W := gx_cs S w 0 S.1
theorem gx_cs_get (S : gx_Sd) (w : gx_Wd) : ∀ (t : List gx_Sh) (k i : Nat), (gx_cs S w k t)[i]? = (t[i]?).map (fun s => (S.2.2.1 (k + i), gx_ce S (w (k + i)) s)) := by
  intro t
  induction t with
  | nil => intro k i; simp [gx_cs]
  | cons s t ih =>
    intro k i
    cases i with
    | zero => simp [gx_cs]
    | succ i =>
      simp only [gx_cs, List.getElem?_cons_succ]
      rw [ih (k + 1) i, Nat.add_assoc, Nat.add_comm 1 i]
theorem gx_get {S : gx_Sd} {w : gx_Wd} {o : Nat} {s : gx_Sh} (h : S.1[o]? = some s) : (gx_cells S w)[o]? = some (S.2.2.1 o, gx_ce S (w o) s) := by
  unfold gx_cells
  rw [gx_cs_get, h]
  simp
theorem gx_fs_congr (ad : Nat → Nat) {f g : Nat → Int32} : ∀ (t : List (Option Nat)) (k : Nat), (∀ i, k ≤ i → f i = g i) → gx_fs ad f k t = gx_fs ad g k t := by
  intro t
  induction t with
  | nil => intro k _; rfl
  | cons a t ih =>
    intro k h
    have e := ih (k + 1) (fun i hi => h i (by omega))
    cases a with
    | none => simp only [gx_fs]; rw [e, h k (Nat.le_refl k)]
    | some o => simp only [gx_fs]; rw [e]
theorem gx_fs_set (ad : Nat → Nat) {f : Nat → Int32} {x : Int32} : ∀ (t : List (Option Nat)) (j k : Nat), t[k]? = some none → (gx_fs ad f j t).set k (.int x) = gx_fs ad (upd f (j + k) x) j t := by
  intro t
  induction t with
  | nil => intro j k h; simp at h
  | cons a t ih =>
    intro j k h
    cases k with
    | zero =>
      simp only [List.getElem?_cons_zero, Option.some.injEq] at h
      subst h
      simp only [gx_fs, List.set_cons_zero, Nat.add_zero]
      rw [gx_fs_congr ad (f := upd f j x) (g := f) t (j + 1) (fun i hi => by simp [upd]; omega)]
      simp [upd]
    | succ k =>
      have e := ih (j + 1) k (by simpa using h)
      rw [show j + 1 + k = j + (k + 1) by omega] at e
      cases a with
      | none =>
        simp only [gx_fs, List.set_cons_succ]
        rw [e]
        simp [upd]
      | some o =>
        simp only [gx_fs, List.set_cons_succ]
        rw [e]
theorem gx_fs_int (ad : Nat → Nat) {f : Nat → Int32} : ∀ (t : List (Option Nat)) (j k : Nat), t[k]? = some none → (gx_fs ad f j t)[k]? = some (.int (f (j + k))) := by
  intro t
  induction t with
  | nil => intro j k h; simp at h
  | cons a t ih =>
    intro j k h
    cases k with
    | zero =>
      simp only [List.getElem?_cons_zero, Option.some.injEq] at h
      subst h
      simp [gx_fs]
    | succ k =>
      have e := ih (j + 1) k (by simpa using h)
      rw [show j + 1 + k = j + (k + 1) by omega] at e
      cases a <;> simpa [gx_fs] using e
theorem gx_fs_ref (ad : Nat → Nat) {f : Nat → Int32} {o : Nat} : ∀ (t : List (Option Nat)) (j k : Nat), t[k]? = some (some o) → (gx_fs ad f j t)[k]? = some (.ref (ad o)) := by
  intro t
  induction t with
  | nil => intro j k h; simp at h
  | cons a t ih =>
    intro j k h
    cases k with
    | zero =>
      simp only [List.getElem?_cons_zero, Option.some.injEq] at h
      subst h
      simp [gx_fs]
    | succ k =>
      have e := ih (j + 1) k (by simpa using h)
      cases a <;> simpa [gx_fs] using e
theorem gx_fs_len (ad : Nat → Nat) {f : Nat → Int32} : ∀ (t : List (Option Nat)) (j : Nat), (gx_fs ad f j t).length = t.length := by
  intro t
  induction t with
  | nil => intro j; rfl
  | cons a t ih => intro j; cases a <;> simp [gx_fs, ih]
/-- one place of one object gets a number -/
def gx_w (w : gx_Wd) (o k : Nat) (x : Int32) : gx_Wd := fun a => if a = o then upd (w o) k x else w a
theorem gx_cells_set {S : gx_Sd} {w : gx_Wd} {o k : Nat} {x : Int32} {s : gx_Sh} {e : va_E} (h : S.1[o]? = some s) (he : e = gx_ce S (upd (w o) k x) s) : (gx_cells S w).set o (S.2.2.1 o, e) = gx_cells S (gx_w w o k x) := by
  subst he
  apply List.ext_getElem?
  intro i
  rw [List.getElem?_set]
  unfold gx_cells
  rw [gx_cs_get, gx_cs_get]
  by_cases hi : o = i
  · subst hi
    have hlt : o < (gx_cs S w 0 S.1).length := by
      have h2 := gx_get (w := w) h
      unfold gx_cells at h2
      exact (List.getElem?_eq_some_iff.mp h2).1
    simp [h, hlt, gx_w]
  · simp only [if_neg hi]
    have : ¬ i = o := fun e => hi e.symm
    simp [gx_w, this]
/-- the addresses of the side's objects -/
def gx_A (S : gx_Sd) : Nat → Prop := fun q => ∃ k, k < S.1.length ∧ q = S.2.2.1 k
def gx_DD (S : gx_Sd) : Prop := ∀ i j, i < S.1.length → j < S.1.length → S.2.2.1 i = S.2.2.1 j → i = j
theorem gx_cells_at {S : gx_Sd} {w : gx_Wd} {i : Nat} {q : Nat × va_E} (h : (gx_cells S w)[i]? = some q) : i < S.1.length ∧ q.1 = S.2.2.1 i := by
  unfold gx_cells at h
  rw [gx_cs_get] at h
  cases hs : S.1[i]? with
  | none => rw [hs] at h; simp at h
  | some s =>
    rw [hs] at h
    simp at h
    exact ⟨(List.getElem?_eq_some_iff.mp hs).1, by rw [← h]⟩
theorem gx_DD.d {S : gx_Sd} (h : gx_DD S) (w : gx_Wd) : va_D (gx_A S) (gx_cells S w) := by
  refine ⟨fun i j p q hi hj e => ?_, fun k q hk => ?_⟩
  · obtain ⟨a1, a2⟩ := gx_cells_at hi
    obtain ⟨b1, b2⟩ := gx_cells_at hj
    exact h i j a1 b1 (by rw [← a2, ← b2]; exact e)
  · obtain ⟨a1, a2⟩ := gx_cells_at hk
    exact ⟨k, a1, a2⟩
/-- the texts of the class Text, by their places: entry, text, bytes -/
def gx_tx : List (Nat × String × List Int32) := [(65, "KN,D;", [75, 78, 44, 68, 59]), (67, "D,N;", [68, 44, 78, 59]), (69, "N,D;", [78, 44, 68, 59]), (71, "N;", [78, 59]), (73, "D,D;", [68, 44, 68, 59]), (75, "", []), (84, "bctslh", [98, 99, 116, 115, 108, 104])]
def gx_txl : List Nat := gx_tx.map (fun q => q.2.2.length)
def gx_txb : List (List Int32) := gx_tx.map (fun q => q.2.2)
/-- what is known of texts and statics -/
def gx_SX (S : gx_Sd) (U : State) (H : Heap) : Prop :=
  vk_S 7 gx_txl gx_txb (fun i => S.2.2.1 (1000 + i)) S.2.2.2.2 (gx_A S) U H ∧
  (∀ i, i < 7 → vk_R "EachBearsPillar$Text" (gx_tx.getD i (0, "", [])).1 (gx_tx.getD i (0, "", [])).2.1 (S.2.2.1 (1000 + i)) U) ∧
  va_Z "java/lang/String" "COMPACT_STRINGS" "Z" (.int 1) (gx_A S) U H ∧
  (∃ v : Value, (v = .null ∨ ∃ a, v = .ref a) ∧ va_Z "jdk/internal/util/Preconditions" "SIOOBE_FORMATTER" "Ljava/util/function/BiFunction;" v (gx_A S) U H)
theorem gx_SX.to {S : gx_Sd} {s U : State} {H0 H : Heap} (hW : s.WarmedH U.vm) (hq : ∀ a : Nat, a < H0.size → ¬ gx_A S a → H[a]? = H0[a]?) (h : gx_SX S s H0) : gx_SX S U H := by
  obtain ⟨h1, h2, h3, v, h4, h5⟩ := h
  exact ⟨(h1.moved hW.alike).kept hq, fun i hi => (h2 i hi).warm hW, (h3.moved hW.alike).kept hq, v, h4, (h5.moved hW.alike).kept hq⟩
theorem gx_SX.same {S : gx_Sd} {s U : State} {H : Heap} (hv : U.vm = s.vm) (h : gx_SX S s H) : gx_SX S U H := by
  obtain ⟨h1, h2, h3, v, h4, h5⟩ := h
  have ha : s.vm.Alike U.vm := by rw [hv]; exact Vm.Alike.refl _
  exact ⟨h1.moved ha, fun i hi => (h2 i hi).same hv, h3.moved ha, v, h4, h5.moved ha⟩
end
section
/-! ===== membership among the good words, by places in the tables ===== -/
theorem gx_ib {i : Nat} {w : Cond} (h : tables_1[i]? = some w) (hg : goodWord w = true) : w ∈ gx_big := List.mem_filter.mpr ⟨List.mem_append_right _ (List.mem_of_getElem? h), hg⟩
theorem gx_uws {C : String} {T : u_T} {N : Nat} {ps : List Nat} (h : ((List.range N).all fun k => decide (tables_1[ps.getD k 0]? = some (u_lay C T k)) && goodWord (u_lay C T k)) = true) : ∀ w ∈ u_ws C T N, w ∈ gx_big := by
  intro w hw
  obtain ⟨k, hk, rfl⟩ := List.mem_map.mp hw
  have h1 := List.all_eq_true.mp h k hk
  simp only [Bool.and_eq_true, decide_eq_true_eq] at h1
  exact gx_ib h1.1 h1.2
theorem gx_mp1 {w : Cond} (h : w ∈ tables_1_1) : w ∈ tables_1 := List.mem_append_left _ h
theorem gx_ic1 {i : Nat} {w : Cond} (h : tables_1_1[i]? = some w) (hg : goodWord w = true) : w ∈ gx_big := List.mem_filter.mpr ⟨List.mem_append_right _ (gx_mp1 (List.mem_of_getElem? h)), hg⟩
def gx_wl1 (L : List (Nat × Cond)) : Bool := L.all fun q => decide (tables_1_1[q.1]? = some q.2) && goodWord q.2
theorem gx_wb1 {L : List (Nat × Cond)} (h : gx_wl1 L = true) (i : Nat) {n : Nat} {w : Cond} (hi : L[i]? = some (n, w)) : w ∈ gx_big := by
  have h1 := List.all_eq_true.mp h _ (List.mem_of_getElem? hi)
  simp only [Bool.and_eq_true, decide_eq_true_eq] at h1
  exact gx_ic1 h1.1 h1.2
def gx_nl1 (L : List (Nat × Cond)) : Bool := L.all fun q => decide (tables_1_1[q.1]? = some q.2) && gx_isNest q.2
theorem gx_nb1 {L : List (Nat × Cond)} (h : gx_nl1 L = true) (i : Nat) {n : Nat} {w : Cond} (hi : L[i]? = some (n, w)) : w ∈ gx_nest := by
  have h1 := List.all_eq_true.mp h _ (List.mem_of_getElem? hi)
  simp only [Bool.and_eq_true, decide_eq_true_eq] at h1
  exact List.mem_filter.mpr ⟨List.mem_append_right _ (gx_mp1 (List.mem_of_getElem? h1.1)), h1.2⟩
theorem gx_mp2 {w : Cond} (h : w ∈ tables_1_2) : w ∈ tables_1 := List.mem_append_right _ (List.mem_append_left _ h)
theorem gx_ic2 {i : Nat} {w : Cond} (h : tables_1_2[i]? = some w) (hg : goodWord w = true) : w ∈ gx_big := List.mem_filter.mpr ⟨List.mem_append_right _ (gx_mp2 (List.mem_of_getElem? h)), hg⟩
def gx_wl2 (L : List (Nat × Cond)) : Bool := L.all fun q => decide (tables_1_2[q.1]? = some q.2) && goodWord q.2
theorem gx_wb2 {L : List (Nat × Cond)} (h : gx_wl2 L = true) (i : Nat) {n : Nat} {w : Cond} (hi : L[i]? = some (n, w)) : w ∈ gx_big := by
  have h1 := List.all_eq_true.mp h _ (List.mem_of_getElem? hi)
  simp only [Bool.and_eq_true, decide_eq_true_eq] at h1
  exact gx_ic2 h1.1 h1.2
def gx_nl2 (L : List (Nat × Cond)) : Bool := L.all fun q => decide (tables_1_2[q.1]? = some q.2) && gx_isNest q.2
theorem gx_nb2 {L : List (Nat × Cond)} (h : gx_nl2 L = true) (i : Nat) {n : Nat} {w : Cond} (hi : L[i]? = some (n, w)) : w ∈ gx_nest := by
  have h1 := List.all_eq_true.mp h _ (List.mem_of_getElem? hi)
  simp only [Bool.and_eq_true, decide_eq_true_eq] at h1
  exact List.mem_filter.mpr ⟨List.mem_append_right _ (gx_mp2 (List.mem_of_getElem? h1.1)), h1.2⟩
theorem gx_mp3 {w : Cond} (h : w ∈ tables_1_3) : w ∈ tables_1 := List.mem_append_right _ (List.mem_append_right _ (List.mem_append_left _ h))
theorem gx_ic3 {i : Nat} {w : Cond} (h : tables_1_3[i]? = some w) (hg : goodWord w = true) : w ∈ gx_big := List.mem_filter.mpr ⟨List.mem_append_right _ (gx_mp3 (List.mem_of_getElem? h)), hg⟩
def gx_wl3 (L : List (Nat × Cond)) : Bool := L.all fun q => decide (tables_1_3[q.1]? = some q.2) && goodWord q.2
theorem gx_wb3 {L : List (Nat × Cond)} (h : gx_wl3 L = true) (i : Nat) {n : Nat} {w : Cond} (hi : L[i]? = some (n, w)) : w ∈ gx_big := by
  have h1 := List.all_eq_true.mp h _ (List.mem_of_getElem? hi)
  simp only [Bool.and_eq_true, decide_eq_true_eq] at h1
  exact gx_ic3 h1.1 h1.2
def gx_nl3 (L : List (Nat × Cond)) : Bool := L.all fun q => decide (tables_1_3[q.1]? = some q.2) && gx_isNest q.2
theorem gx_nb3 {L : List (Nat × Cond)} (h : gx_nl3 L = true) (i : Nat) {n : Nat} {w : Cond} (hi : L[i]? = some (n, w)) : w ∈ gx_nest := by
  have h1 := List.all_eq_true.mp h _ (List.mem_of_getElem? hi)
  simp only [Bool.and_eq_true, decide_eq_true_eq] at h1
  exact List.mem_filter.mpr ⟨List.mem_append_right _ (gx_mp3 (List.mem_of_getElem? h1.1)), h1.2⟩
theorem gx_mp4 {w : Cond} (h : w ∈ tables_1_4) : w ∈ tables_1 := List.mem_append_right _ (List.mem_append_right _ (List.mem_append_right _ (List.mem_append_left _ h)))
theorem gx_ic4 {i : Nat} {w : Cond} (h : tables_1_4[i]? = some w) (hg : goodWord w = true) : w ∈ gx_big := List.mem_filter.mpr ⟨List.mem_append_right _ (gx_mp4 (List.mem_of_getElem? h)), hg⟩
def gx_wl4 (L : List (Nat × Cond)) : Bool := L.all fun q => decide (tables_1_4[q.1]? = some q.2) && goodWord q.2
theorem gx_wb4 {L : List (Nat × Cond)} (h : gx_wl4 L = true) (i : Nat) {n : Nat} {w : Cond} (hi : L[i]? = some (n, w)) : w ∈ gx_big := by
  have h1 := List.all_eq_true.mp h _ (List.mem_of_getElem? hi)
  simp only [Bool.and_eq_true, decide_eq_true_eq] at h1
  exact gx_ic4 h1.1 h1.2
def gx_nl4 (L : List (Nat × Cond)) : Bool := L.all fun q => decide (tables_1_4[q.1]? = some q.2) && gx_isNest q.2
theorem gx_nb4 {L : List (Nat × Cond)} (h : gx_nl4 L = true) (i : Nat) {n : Nat} {w : Cond} (hi : L[i]? = some (n, w)) : w ∈ gx_nest := by
  have h1 := List.all_eq_true.mp h _ (List.mem_of_getElem? hi)
  simp only [Bool.and_eq_true, decide_eq_true_eq] at h1
  exact List.mem_filter.mpr ⟨List.mem_append_right _ (gx_mp4 (List.mem_of_getElem? h1.1)), h1.2⟩
theorem gx_mp5 {w : Cond} (h : w ∈ tables_1_5) : w ∈ tables_1 := List.mem_append_right _ (List.mem_append_right _ (List.mem_append_right _ (List.mem_append_right _ (h))))
theorem gx_ic5 {i : Nat} {w : Cond} (h : tables_1_5[i]? = some w) (hg : goodWord w = true) : w ∈ gx_big := List.mem_filter.mpr ⟨List.mem_append_right _ (gx_mp5 (List.mem_of_getElem? h)), hg⟩
def gx_wl5 (L : List (Nat × Cond)) : Bool := L.all fun q => decide (tables_1_5[q.1]? = some q.2) && goodWord q.2
theorem gx_wb5 {L : List (Nat × Cond)} (h : gx_wl5 L = true) (i : Nat) {n : Nat} {w : Cond} (hi : L[i]? = some (n, w)) : w ∈ gx_big := by
  have h1 := List.all_eq_true.mp h _ (List.mem_of_getElem? hi)
  simp only [Bool.and_eq_true, decide_eq_true_eq] at h1
  exact gx_ic5 h1.1 h1.2
def gx_nl5 (L : List (Nat × Cond)) : Bool := L.all fun q => decide (tables_1_5[q.1]? = some q.2) && gx_isNest q.2
theorem gx_nb5 {L : List (Nat × Cond)} (h : gx_nl5 L = true) (i : Nat) {n : Nat} {w : Cond} (hi : L[i]? = some (n, w)) : w ∈ gx_nest := by
  have h1 := List.all_eq_true.mp h _ (List.mem_of_getElem? hi)
  simp only [Bool.and_eq_true, decide_eq_true_eq] at h1
  exact List.mem_filter.mpr ⟨List.mem_append_right _ (gx_mp5 (List.mem_of_getElem? h1.1)), h1.2⟩
theorem gx_sb {y : MethodName} {n i : Nat} (h : lw_privs[i]? = some (y, n)) : Cond.selects y.cls y y ∈ gx_big := by
  refine List.mem_filter.mpr ⟨List.mem_append_left _ ?_, rfl⟩
  exact List.mem_map.mpr ⟨(y, n), List.mem_of_getElem? h, rfl⟩
/-! ===== the classes of both sides, their fields in the order of the slots ===== -/
def gx_FE : u_T := fun k => match k with
  | 0 => ("EachBearsPillar", "now", "LEachBearsPillar$Roof;", true)
  | 1 => ("EachBearsPillar", "draft", "LEachBearsPillar$Roof;", true)
  | 2 => ("EachBearsPillar", "kept", "LEachBearsPillar$Roof;", true)
  | 3 => ("EachBearsPillar", "hasImage", "Z", false)
  | 4 => ("EachBearsPillar", "mind", "LEachBearsPillar$Mind;", true)
  | 5 => ("EachBearsPillar", "text", "LEachBearsPillar$Text;", true)
  | 6 => ("EachBearsPillar", "walk", "LEachBearsPillar$Walk;", true)
  | 7 => ("EachBearsPillar", "standing", "LEachBearsPillar$Orders;", true)
  | 8 => ("EachBearsPillar", "told", "[I", true)
  | 9 => ("EachBearsPillar", "toldLength", "I", false)
  | _ => ("EachBearsPillar", "refused", "[I", true)
def gx_yE : Nat → FieldType := fun k => match k with
  | 0 => .object "EachBearsPillar$Roof"
  | 1 => .object "EachBearsPillar$Roof"
  | 2 => .object "EachBearsPillar$Roof"
  | 3 => .boolean
  | 4 => .object "EachBearsPillar$Mind"
  | 5 => .object "EachBearsPillar$Text"
  | 6 => .object "EachBearsPillar$Walk"
  | 7 => .object "EachBearsPillar$Orders"
  | 8 => .array .int
  | 9 => .int
  | _ => .array .int
def gx_FR : u_T := fun k => match k with
  | 0 => ("EachBearsPillar$Roof", "bearers", "I", false)
  | 1 => ("EachBearsPillar$Roof", "at", "I", false)
  | 2 => ("EachBearsPillar$Roof", "level", "I", false)
  | 3 => ("EachBearsPillar$Roof", "kind", "[I", true)
  | 4 => ("EachBearsPillar$Roof", "strength", "[I", true)
  | 5 => ("EachBearsPillar$Roof", "height", "[I", true)
  | 6 => ("EachBearsPillar$Roof", "block", "[I", true)
  | 7 => ("EachBearsPillar$Roof", "weight", "[I", true)
  | _ => ("EachBearsPillar$Roof", "ground", "[I", true)
def gx_yR : Nat → FieldType := fun k => match k with
  | 0 => .int
  | 1 => .int
  | 2 => .int
  | 3 => .array .int
  | 4 => .array .int
  | 5 => .array .int
  | 6 => .array .int
  | 7 => .array .int
  | _ => .array .int
def gx_FM : u_T := fun k => match k with
  | 0 => ("EachBearsPillar$Mind", "roof", "LEachBearsPillar$Roof;", true)
  | 1 => ("EachBearsPillar$Mind", "at", "I", false)
  | 2 => ("EachBearsPillar$Mind", "level", "I", false)
  | 3 => ("EachBearsPillar$Mind", "idle", "I", false)
  | 4 => ("EachBearsPillar$Mind", "who", "[I", true)
  | 5 => ("EachBearsPillar$Mind", "raised", "[I", true)
  | 6 => ("EachBearsPillar$Mind", "weight", "[I", true)
  | 7 => ("EachBearsPillar$Mind", "bearing", "[I", true)
  | 8 => ("EachBearsPillar$Mind", "might", "[I", true)
  | _ => ("EachBearsPillar$Mind", "load", "[I", true)
def gx_yM : Nat → FieldType := fun k => match k with
  | 0 => .object "EachBearsPillar$Roof"
  | 1 => .int
  | 2 => .int
  | 3 => .int
  | 4 => .array .int
  | 5 => .array .int
  | 6 => .array .int
  | 7 => .array .int
  | 8 => .array .int
  | _ => .array .int
def gx_FT : u_T := fun k => match k with
  | 0 => ("EachBearsPillar$Text", "letters", "[I", true)
  | 1 => ("EachBearsPillar$Text", "length", "I", false)
  | 2 => ("EachBearsPillar$Text", "place", "I", false)
  | 3 => ("EachBearsPillar$Text", "opener", "I", false)
  | 4 => ("EachBearsPillar$Text", "numbers", "[I", true)
  | _ => ("EachBearsPillar$Text", "numbersRead", "I", false)
def gx_yT : Nat → FieldType := fun k => match k with
  | 0 => .array .int
  | 1 => .int
  | 2 => .int
  | 3 => .int
  | 4 => .array .int
  | _ => .int
def gx_FW : u_T := fun k => match k with
  | 0 => ("EachBearsPillar$Walk", "mind", "LEachBearsPillar$Mind;", true)
  | 1 => ("EachBearsPillar$Walk", "minutes", "[I", true)
  | 2 => ("EachBearsPillar$Walk", "queue", "[I", true)
  | _ => ("EachBearsPillar$Walk", "queued", "I", false)
def gx_yW : Nat → FieldType := fun k => match k with
  | 0 => .object "EachBearsPillar$Mind"
  | 1 => .array .int
  | 2 => .array .int
  | _ => .int
def gx_FO : u_T := fun k => match k with
  | 0 => ("EachBearsPillar$Orders", "mind", "LEachBearsPillar$Mind;", true)
  | 1 => ("EachBearsPillar$Orders", "most", "[I", true)
  | _ => ("EachBearsPillar$Orders", "ways", "[I", true)
def gx_yO : Nat → FieldType := fun k => match k with
  | 0 => .object "EachBearsPillar$Mind"
  | 1 => .array .int
  | _ => .array .int
def gx_FD : u_T := fun k => match k with
  | 0 => ("EachBearsPillarModel", "bearers", "I", false)
  | 1 => ("EachBearsPillarModel", "at", "I", false)
  | 2 => ("EachBearsPillarModel", "level", "I", false)
  | 3 => ("EachBearsPillarModel", "fed", "I", false)
  | 4 => ("EachBearsPillarModel", "rows", "I", false)
  | 5 => ("EachBearsPillarModel", "kind", "[I", true)
  | 6 => ("EachBearsPillarModel", "strength", "[I", true)
  | 7 => ("EachBearsPillarModel", "tall", "[I", true)
  | 8 => ("EachBearsPillarModel", "block", "[I", true)
  | 9 => ("EachBearsPillarModel", "span", "[I", true)
  | 10 => ("EachBearsPillarModel", "ground", "[I", true)
  | 11 => ("EachBearsPillarModel", "text", "[I", true)
  | 12 => ("EachBearsPillarModel", "row", "[I", true)
  | 13 => ("EachBearsPillarModel", "refused", "[I", true)
  | 14 => ("EachBearsPillarModel", "place", "I", false)
  | 15 => ("EachBearsPillarModel", "one", "I", false)
  | 16 => ("EachBearsPillarModel", "two", "I", false)
  | 17 => ("EachBearsPillarModel", "sort", "I", false)
  | 18 => ("EachBearsPillarModel", "stands", "[I", true)
  | 19 => ("EachBearsPillarModel", "slack", "I", false)
  | 20 => ("EachBearsPillarModel", "minutes", "[I", true)
  | 21 => ("EachBearsPillarModel", "waits", "[I", true)
  | 22 => ("EachBearsPillarModel", "waiting", "I", false)
  | 23 => ("EachBearsPillarModel", "seed", "I", false)
  | 24 => ("EachBearsPillarModel", "keptSpan", "[I", true)
  | 25 => ("EachBearsPillarModel", "hasImage", "Z", false)
  | 26 => ("EachBearsPillarModel", "imageBearers", "I", false)
  | 27 => ("EachBearsPillarModel", "imageAt", "I", false)
  | 28 => ("EachBearsPillarModel", "imageLevel", "I", false)
  | 29 => ("EachBearsPillarModel", "imageKind", "[I", true)
  | 30 => ("EachBearsPillarModel", "imageStrength", "[I", true)
  | 31 => ("EachBearsPillarModel", "imageTall", "[I", true)
  | 32 => ("EachBearsPillarModel", "imageBlock", "[I", true)
  | 33 => ("EachBearsPillarModel", "imageSpan", "[I", true)
  | _ => ("EachBearsPillarModel", "imageGround", "[I", true)
def gx_yD : Nat → FieldType := fun k => match k with
  | 0 => .int
  | 1 => .int
  | 2 => .int
  | 3 => .int
  | 4 => .int
  | 5 => .array .int
  | 6 => .array .int
  | 7 => .array .int
  | 8 => .array .int
  | 9 => .array .int
  | 10 => .array .int
  | 11 => .array .int
  | 12 => .array .int
  | 13 => .array .int
  | 14 => .int
  | 15 => .int
  | 16 => .int
  | 17 => .int
  | 18 => .array .int
  | 19 => .int
  | 20 => .array .int
  | 21 => .array .int
  | 22 => .int
  | 23 => .int
  | 24 => .array .int
  | 25 => .boolean
  | 26 => .int
  | 27 => .int
  | 28 => .int
  | 29 => .array .int
  | 30 => .array .int
  | 31 => .array .int
  | 32 => .array .int
  | 33 => .array .int
  | _ => .array .int
abbrev gx_cl : List vw_C := [("EachBearsPillar", gx_FE, 11), ("EachBearsPillar$Roof", gx_FR, 9), ("EachBearsPillar$Mind", gx_FM, 10), ("EachBearsPillar$Text", gx_FT, 6), ("EachBearsPillar$Walk", gx_FW, 4), ("EachBearsPillar$Orders", gx_FO, 3), ("EachBearsPillarModel", gx_FD, 35)]
theorem gx_uE_0 : ((List.range 11).all fun k => decide (tables_1[([202, 204, 206, 208, 210, 212, 214, 216, 218, 220, 222] : List Nat).getD k 0]? = some (u_lay "EachBearsPillar" gx_FE k)) && goodWord (u_lay "EachBearsPillar" gx_FE k)) = true := by decide +kernel
theorem gx_uE : ∀ w ∈ u_ws "EachBearsPillar" gx_FE 11, w ∈ gx_big := gx_uws gx_uE_0
theorem gx_nE : ∀ a, a < 11 → ∀ b, b < 11 → a ≠ b → (gx_FE a).2.1 ≠ (gx_FE b).2.1 := by decide +kernel
theorem gx_tE : ∀ k, k < 11 → parseFieldDescriptor (gx_FE k).2.2.1 = some (gx_yE k) := by decide +kernel
theorem gx_uR_0 : ((List.range 9).all fun k => decide (tables_1[([58, 60, 62, 64, 66, 68, 70, 72, 74] : List Nat).getD k 0]? = some (u_lay "EachBearsPillar$Roof" gx_FR k)) && goodWord (u_lay "EachBearsPillar$Roof" gx_FR k)) = true := by decide +kernel
theorem gx_uR : ∀ w ∈ u_ws "EachBearsPillar$Roof" gx_FR 9, w ∈ gx_big := gx_uws gx_uR_0
theorem gx_nR : ∀ a, a < 9 → ∀ b, b < 9 → a ≠ b → (gx_FR a).2.1 ≠ (gx_FR b).2.1 := by decide +kernel
theorem gx_tR : ∀ k, k < 9 → parseFieldDescriptor (gx_FR k).2.2.1 = some (gx_yR k) := by decide +kernel
theorem gx_uM_0 : ((List.range 10).all fun k => decide (tables_1[([106, 108, 110, 112, 114, 116, 118, 120, 122, 124] : List Nat).getD k 0]? = some (u_lay "EachBearsPillar$Mind" gx_FM k)) && goodWord (u_lay "EachBearsPillar$Mind" gx_FM k)) = true := by decide +kernel
theorem gx_uM : ∀ w ∈ u_ws "EachBearsPillar$Mind" gx_FM 10, w ∈ gx_big := gx_uws gx_uM_0
theorem gx_nM : ∀ a, a < 10 → ∀ b, b < 10 → a ≠ b → (gx_FM a).2.1 ≠ (gx_FM b).2.1 := by decide +kernel
theorem gx_tM : ∀ k, k < 10 → parseFieldDescriptor (gx_FM k).2.2.1 = some (gx_yM k) := by decide +kernel
theorem gx_uT_0 : ((List.range 6).all fun k => decide (tables_1[([143, 145, 147, 149, 151, 153] : List Nat).getD k 0]? = some (u_lay "EachBearsPillar$Text" gx_FT k)) && goodWord (u_lay "EachBearsPillar$Text" gx_FT k)) = true := by decide +kernel
theorem gx_uT : ∀ w ∈ u_ws "EachBearsPillar$Text" gx_FT 6, w ∈ gx_big := gx_uws gx_uT_0
theorem gx_nT : ∀ a, a < 6 → ∀ b, b < 6 → a ≠ b → (gx_FT a).2.1 ≠ (gx_FT b).2.1 := by decide +kernel
theorem gx_tT : ∀ k, k < 6 → parseFieldDescriptor (gx_FT k).2.2.1 = some (gx_yT k) := by decide +kernel
theorem gx_uW_0 : ((List.range 4).all fun k => decide (tables_1[([166, 168, 170, 172] : List Nat).getD k 0]? = some (u_lay "EachBearsPillar$Walk" gx_FW k)) && goodWord (u_lay "EachBearsPillar$Walk" gx_FW k)) = true := by decide +kernel
theorem gx_uW : ∀ w ∈ u_ws "EachBearsPillar$Walk" gx_FW 4, w ∈ gx_big := gx_uws gx_uW_0
theorem gx_nW : ∀ a, a < 4 → ∀ b, b < 4 → a ≠ b → (gx_FW a).2.1 ≠ (gx_FW b).2.1 := by decide +kernel
theorem gx_tW : ∀ k, k < 4 → parseFieldDescriptor (gx_FW k).2.2.1 = some (gx_yW k) := by decide +kernel
theorem gx_uO_0 : ((List.range 3).all fun k => decide (tables_1[([184, 186, 188] : List Nat).getD k 0]? = some (u_lay "EachBearsPillar$Orders" gx_FO k)) && goodWord (u_lay "EachBearsPillar$Orders" gx_FO k)) = true := by decide +kernel
theorem gx_uO : ∀ w ∈ u_ws "EachBearsPillar$Orders" gx_FO 3, w ∈ gx_big := gx_uws gx_uO_0
theorem gx_nO : ∀ a, a < 3 → ∀ b, b < 3 → a ≠ b → (gx_FO a).2.1 ≠ (gx_FO b).2.1 := by decide +kernel
theorem gx_tO : ∀ k, k < 3 → parseFieldDescriptor (gx_FO k).2.2.1 = some (gx_yO k) := by decide +kernel
theorem gx_uD_0 : ((List.range 35).all fun k => decide (tables_1[([681, 683, 685, 687, 689, 691, 693, 695, 697, 699, 701, 703, 705, 707, 709, 711, 713, 715, 717, 719, 721, 723, 725, 727, 729, 731, 733, 735, 737, 739, 741, 743, 745, 747, 749] : List Nat).getD k 0]? = some (u_lay "EachBearsPillarModel" gx_FD k)) && goodWord (u_lay "EachBearsPillarModel" gx_FD k)) = true := by decide +kernel
theorem gx_uD : ∀ w ∈ u_ws "EachBearsPillarModel" gx_FD 35, w ∈ gx_big := gx_uws gx_uD_0
theorem gx_nD : ∀ a, a < 35 → ∀ b, b < 35 → a ≠ b → (gx_FD a).2.1 ≠ (gx_FD b).2.1 := by decide +kernel
theorem gx_tD : ∀ k, k < 35 → parseFieldDescriptor (gx_FD k).2.2.1 = some (gx_yD k) := by decide +kernel
theorem gx_clok : ∀ (ci : Nat) (C : String) (T : u_T) (N : Nat), gx_cl[ci]? = some (C, T, N) → (∀ w ∈ u_ws C T N, w ∈ gx_big) ∧ (∃ ty : Nat → FieldType, ∀ k, k < N → parseFieldDescriptor (T k).2.2.1 = some (ty k)) ∧ (∀ a, a < N → ∀ b, b < N → a ≠ b → (T a).2.1 ≠ (T b).2.1) := by
  intro ci C T N h
  match ci, h with
  | 0, h => cases h; exact ⟨gx_uE, ⟨gx_yE, gx_tE⟩, gx_nE⟩
  | 1, h => cases h; exact ⟨gx_uR, ⟨gx_yR, gx_tR⟩, gx_nR⟩
  | 2, h => cases h; exact ⟨gx_uM, ⟨gx_yM, gx_tM⟩, gx_nM⟩
  | 3, h => cases h; exact ⟨gx_uT, ⟨gx_yT, gx_tT⟩, gx_nT⟩
  | 4, h => cases h; exact ⟨gx_uW, ⟨gx_yW, gx_tW⟩, gx_nW⟩
  | 5, h => cases h; exact ⟨gx_uO, ⟨gx_yO, gx_tO⟩, gx_nO⟩
  | 6, h => cases h; exact ⟨gx_uD, ⟨gx_yD, gx_tD⟩, gx_nD⟩
  | _ + 7, h => simp [gx_cl] at h
end
section
/-! ===== a method's book: name, bytes, locals, answer, room, the side's shapes ===== -/
abbrev gx_Mi : Type := MethodName × ByteArray × Nat × Option FieldType × Room × List gx_Sh
abbrev gx_X : Type := Program × Launch × Env × State × MethodId × Array Value × List Frame × Method × Code × gx_Sd × Option gx_V × gx_Wd
def gx_res : gx_X → Option gx_V
  | (_, _, _, _, _, _, _, _, _, _, res, _) => res
def gx_wr : gx_X → gx_Wd
  | (_, _, _, _, _, _, _, _, _, _, _, w1) => w1
def gx_PX (S : gx_Sd) (w : gx_Wd) (U : State) : Prop := va_P S.2.1 gx_cl (gx_cells S w) U.heap ∧ va_K S.2.1 gx_cl [(S.2.2.2.1, .int)] U ∧ gx_DD S ∧ gx_NW U ∧ gx_SX S U U.heap
def gx_Q (S : gx_Sd) (res : Option gx_V) (w1 : gx_Wd) : Array Value → State → Outcome → State → Prop := fun _ st oc t => (oc = .returned (res.map (gx_cv S.2.2.1)) ∧ va_P S.2.1 gx_cl (gx_cells S w1) t.heap) ∧ va_F (gx_A S) st t
def gx_MT (M : gx_Mi) (args : List gx_V) (w : gx_Wd) (res : Option gx_V) (w1 : gx_Wd) : Prop := ∀ (l : Launch) (S : gx_Sd), S.1 = M.2.2.2.2.2 → Met l M.1 (.code M.1 M.2.1 M.2.2.1 M.2.2.2.1 :: gx_big) M.2.2.2.2.1 (va_Pc (args.map (gx_cv S.2.2.1)) (gx_PX S w)) (gx_Q S res w1) 0 0 (gx_A S)
def gx_Ok (X : gx_X) (M : gx_Mi) : Prop := match X with
  | (p, l, e, s, m, args, below, meth, c, S, res, w1) => p.tables.exec = Jvm.exec ∧ c.code = M.2.1 ∧ c.maxLocals = M.2.2.1 ∧ (∀ w ∈ (Cond.code M.1 M.2.1 M.2.2.1 M.2.2.2.1 :: gx_big), w.before args s = true) ∧ s.vm.findClass M.1.cls = some m.cls ∧ meth.sig.returnType = M.2.2.2.1 ∧ meth.locks = false ∧ va_K S.2.1 gx_cl [(S.2.2.2.1, .int)] s ∧ gx_DD S ∧ gx_NW s ∧ gx_SX S s s.heap ∧ S.1 = M.2.2.2.2.2
def gx_lc (ad : Nat → Nat) : Nat → List (Option gx_V) → List (Nat × Value)
  | _, [] => []
  | k, none :: t => gx_lc ad (k + 1) t
  | k, some v :: t => (k, gx_cv ad v) :: gx_lc ad (k + 1) t
/-- THE GOAL: at pc, with these locals, this stack, in this world, the method comes to its end -/
def gx_G (X : gx_X) (M : gx_Mi) (pc : Nat) (ls : List (Option gx_V)) (st : List gx_V) (w : gx_Wd) : Prop := match X with
  | (p, l, e, s, m, args, below, meth, c, S, res, w1) => ∀ (H : Heap) (locs : List Loc) (LS : Array Slot), va_P S.2.1 gx_cl (gx_cells S w) H → va_S (gx_A S) s.heap H locs → lv_has LS M.2.2.1 (gx_lc S.2.2.1 0 ls) → W p l e M.2.2.2.2.1 s m args below meth c H locs 0 0 (MQ below (gx_Q S res w1) args s 0 0 (gx_A S)) (F0 m pc LS (st.map (gx_cv S.2.2.1)))
/-! locals -/
def gx_n {α : Type} : List (Option α) → Nat → Option α
  | [], _ => none
  | a :: _, 0 => a
  | _ :: t, k + 1 => gx_n t k
def gx_st {α : Type} : List (Option α) → Nat → α → List (Option α)
  | [], 0, v => [some v]
  | [], k + 1, v => none :: gx_st [] k v
  | _ :: t, 0, v => some v :: t
  | a :: t, k + 1, v => a :: gx_st t k v
theorem gx_lc_iff (ad : Nat → Nat) : ∀ (ls : List (Option gx_V)) (k : Nat) (q : Nat × Value), q ∈ gx_lc ad k ls ↔ ∃ i v, gx_n ls i = some v ∧ q = (k + i, gx_cv ad v) := by
  intro ls
  induction ls with
  | nil => intro k q; simp [gx_lc, gx_n]
  | cons a t ih =>
    intro k q
    have step : (∃ i v, gx_n t i = some v ∧ q = (k + 1 + i, gx_cv ad v)) ↔ ∃ i v, gx_n (a :: t) (i + 1) = some v ∧ q = (k + (i + 1), gx_cv ad v) := by
      constructor
      · rintro ⟨i, v, h1, h2⟩; exact ⟨i, v, h1, by rw [h2, Nat.add_assoc, Nat.add_comm 1 i]⟩
      · rintro ⟨i, v, h1, h2⟩; exact ⟨i, v, h1, by rw [h2, Nat.add_assoc, Nat.add_comm 1 i]⟩
    cases a with
    | none =>
      simp only [gx_lc]
      rw [ih (k + 1) q, step]
      constructor
      · rintro ⟨i, v, h1, h2⟩; exact ⟨i + 1, v, h1, h2⟩
      · rintro ⟨i, v, h1, h2⟩
        cases i with
        | zero => simp [gx_n] at h1
        | succ i => exact ⟨i, v, h1, h2⟩
    | some u =>
      simp only [gx_lc, List.mem_cons]
      rw [ih (k + 1) q, step]
      constructor
      · rintro (h | ⟨i, v, h1, h2⟩)
        · exact ⟨0, u, rfl, h⟩
        · exact ⟨i + 1, v, h1, h2⟩
      · rintro ⟨i, v, h1, h2⟩
        cases i with
        | zero => left; simp only [gx_n, Option.some.injEq] at h1; rw [h1]; exact h2
        | succ i => right; exact ⟨i, v, h1, h2⟩
theorem gx_n_st {α : Type} : ∀ (ls : List (Option α)) (k : Nat) (v : α) (i : Nat), gx_n (gx_st ls k v) i = if i = k then some v else gx_n ls i := by
  intro ls
  induction ls with
  | nil =>
    intro k
    induction k with
    | zero => intro v i; cases i <;> simp [gx_st, gx_n]
    | succ k ih => intro v i; cases i with
      | zero => simp [gx_st, gx_n]
      | succ i => simp only [gx_st, gx_n]; rw [ih v i]; simp [gx_n]
  | cons a t ih =>
    intro k v i
    cases k with
    | zero => cases i <;> simp [gx_st, gx_n]
    | succ k => cases i with
      | zero => simp [gx_st, gx_n]
      | succ i => simp only [gx_st, gx_n]; rw [ih k v i]; simp
theorem gx_lat {ad : Nat → Nat} {LS : Array Slot} {nL : Nat} {ls : List (Option gx_V)} (h : lv_has LS nL (gx_lc ad 0 ls)) {i : Nat} {v : gx_V} (hi : gx_n ls i = some v) : LS[i]? = some (.val (gx_cv ad v)) :=
  h.2.2 (i, gx_cv ad v) ((gx_lc_iff ad ls 0 _).mpr ⟨i, v, hi, by simp⟩)
theorem gx_lmono {ad : Nat → Nat} {LS : Array Slot} {nL : Nat} {l : List (Nat × Value)} {ls : List (Option gx_V)} (h : lv_has LS nL l) (hm : ∀ i v, gx_n ls i = some v → (i, gx_cv ad v) ∈ l) : lv_has LS nL (gx_lc ad 0 ls) := by
  refine ⟨h.1, h.2.1, fun q hq => ?_⟩
  obtain ⟨i, v, h1, h2⟩ := (gx_lc_iff ad ls 0 q).mp hq
  rw [Nat.zero_add] at h2
  subst h2
  exact h.2.2 _ (hm i v h1)
theorem gx_lset {ad : Nat → Nat} {LS : Array Slot} {nL k : Nat} {ls : List (Option gx_V)} {v : gx_V} (h : lv_has LS nL ((k, gx_cv ad v) :: (gx_lc ad 0 ls).filter (fun q => !(q.1 == k) && !(q.1 + 1 == k && q.2.category == 2)))) : lv_has LS nL (gx_lc ad 0 (gx_st ls k v)) := by
  refine gx_lmono h fun i u hi => ?_
  rw [gx_n_st] at hi
  by_cases hk : i = k
  · subst hk
    rw [if_pos rfl] at hi
    cases hi
    exact List.mem_cons_self
  · rw [if_neg hk] at hi
    refine List.mem_cons_of_mem _ (List.mem_filter.mpr ⟨(gx_lc_iff ad ls 0 _).mpr ⟨i, u, hi, by simp⟩, ?_⟩)
    have hc : (gx_cv ad u).category = 1 := by cases u <;> rfl
    simp [hk, hc]
/-- fewer locals told -/
def gx_le {α : Type} : List (Option α) → List (Option α) → Prop
  | [], _ => True
  | none :: t, [] => gx_le t []
  | some _ :: _, [] => False
  | none :: t, _ :: u => gx_le t u
  | some v :: t, a :: u => a = some v ∧ gx_le t u
theorem gx_le_n {α : Type} : ∀ (l' l : List (Option α)), gx_le l' l → ∀ i v, gx_n l' i = some v → gx_n l i = some v := by
  intro l'
  induction l' with
  | nil => intro l _ i v h; simp [gx_n] at h
  | cons a t ih =>
    intro l h i v hv
    cases l with
    | nil =>
      cases a with
      | none => cases i with
        | zero => simp [gx_n] at hv
        | succ i => have := ih [] h i v hv; simp [gx_n] at this
      | some u => exact absurd h (by simp [gx_le])
    | cons b u =>
      cases a with
      | none => cases i with
        | zero => simp [gx_n] at hv
        | succ i => exact ih u h i v hv
      | some x =>
        obtain ⟨h1, h2⟩ := h
        cases i with
        | zero => rw [h1]; exact hv
        | succ i => exact ih u h2 i v hv
variable {X : gx_X} {M : gx_Mi} {pc : Nat} {ls ls' : List (Option gx_V)} {st : List gx_V} {w : gx_Wd}
theorem gx_weak (h : gx_le ls' ls) (k : gx_G X M pc ls' st w) : gx_G X M pc ls st w := by
  obtain ⟨p, l, e, s, m, args, below, meth, c, S, res, w1⟩ := X
  intro H locs LS hP hS hl
  exact k H locs LS hP hS (gx_lmono hl fun i v hi => (gx_lc_iff _ ls 0 _).mpr ⟨i, v, gx_le_n ls' ls h i v hi, by simp⟩)
theorem gx_cat (ad : Nat → Nat) (v : gx_V) : (gx_cv ad v).category = 1 := by cases v <;> rfl
theorem gx_iconst (hX : gx_Ok X M) {n : Int} {v : Int32} (hd : decode M.2.1 pc = .ok (.iconst n, 1)) (hv : Int32.ofInt n = v) (k : gx_G X M (pc + 1) ls (.inl v :: st) w) : gx_G X M pc ls (st) w := by
  obtain ⟨p, l, e, s, m, args, below, meth, c, S, res, w1⟩ := X
  obtain ⟨hx, hb, hml, hts, hown, hrt, hlk, hK, hDD, hNW, hSX, hsh⟩ := hX
  intro H locs LS hP hS hl
  exact lv_iconst hx hb hd hv (k H locs LS hP hS hl)
theorem gx_bipush (hX : gx_Ok X M) {n : Int} {v : Int32} (hd : decode M.2.1 pc = .ok (.bipush n, 2)) (hv : (Int8.ofInt n).toInt32 = v) (k : gx_G X M (pc + 2) ls (.inl v :: st) w) : gx_G X M pc ls (st) w := by
  obtain ⟨p, l, e, s, m, args, below, meth, c, S, res, w1⟩ := X
  obtain ⟨hx, hb, hml, hts, hown, hrt, hlk, hK, hDD, hNW, hSX, hsh⟩ := hX
  intro H locs LS hP hS hl
  exact lv_bipush hx hb hd hv (k H locs LS hP hS hl)
theorem gx_sipush (hX : gx_Ok X M) {n : Int} {v : Int32} (hd : decode M.2.1 pc = .ok (.sipush n, 3)) (hv : (Int16.ofInt n).toInt32 = v) (k : gx_G X M (pc + 3) ls (.inl v :: st) w) : gx_G X M pc ls (st) w := by
  obtain ⟨p, l, e, s, m, args, below, meth, c, S, res, w1⟩ := X
  obtain ⟨hx, hb, hml, hts, hown, hrt, hlk, hK, hDD, hNW, hSX, hsh⟩ := hX
  intro H locs LS hP hS hl
  exact lv_sipush hx hb hd hv (k H locs LS hP hS hl)
theorem gx_ldci (hX : gx_Ok X M) {ix : Nat} {v : Int32} (hd : decode M.2.1 pc = .ok (.ldc ix, 2)) (hv : Cond.constant M.1.cls ix v ∈ gx_big) (k : gx_G X M (pc + 2) ls (.inl v :: st) w) : gx_G X M pc ls (st) w := by
  obtain ⟨p, l, e, s, m, args, below, meth, c, S, res, w1⟩ := X
  obtain ⟨hx, hb, hml, hts, hown, hrt, hlk, hK, hDD, hNW, hSX, hsh⟩ := hX
  intro H locs LS hP hS hl
  exact lv_ldc hx hb hown (hts _ (List.mem_cons_of_mem _ hv)) hd (k H locs LS hP hS hl)
theorem gx_ldcw (hX : gx_Ok X M) {ix : Nat} {v : Int32} (hd : decode M.2.1 pc = .ok (.ldc_w ix, 3)) (hv : Cond.constant M.1.cls ix v ∈ gx_big) (k : gx_G X M (pc + 3) ls (.inl v :: st) w) : gx_G X M pc ls (st) w := by
  obtain ⟨p, l, e, s, m, args, below, meth, c, S, res, w1⟩ := X
  obtain ⟨hx, hb, hml, hts, hown, hrt, hlk, hK, hDD, hNW, hSX, hsh⟩ := hX
  intro H locs LS hP hS hl
  exact lv_ldcw hx hb hown (hts _ (List.mem_cons_of_mem _ hv)) hd (k H locs LS hP hS hl)
theorem gx_iload_n (hX : gx_Ok X M) {i : Fin 4} {x : Int32} (hd : decode M.2.1 pc = .ok (.iload_n i, 1)) (hi : gx_n ls i.val = some (.inl x)) (k : gx_G X M (pc + 1) ls (.inl x :: st) w) : gx_G X M pc ls (st) w := by
  obtain ⟨p, l, e, s, m, args, below, meth, c, S, res, w1⟩ := X
  obtain ⟨hx, hb, hml, hts, hown, hrt, hlk, hK, hDD, hNW, hSX, hsh⟩ := hX
  intro H locs LS hP hS hl
  exact lv_iload_n hx hb hd rfl (gx_lat hl hi) (k H locs LS hP hS hl)
theorem gx_iload (hX : gx_Ok X M) {i : Nat} {x : Int32} (hd : decode M.2.1 pc = .ok (.iload i, 2)) (hi : gx_n ls i = some (.inl x)) (k : gx_G X M (pc + 2) ls (.inl x :: st) w) : gx_G X M pc ls (st) w := by
  obtain ⟨p, l, e, s, m, args, below, meth, c, S, res, w1⟩ := X
  obtain ⟨hx, hb, hml, hts, hown, hrt, hlk, hK, hDD, hNW, hSX, hsh⟩ := hX
  intro H locs LS hP hS hl
  exact lv_iload hx hb hd (gx_lat hl hi) (k H locs LS hP hS hl)
theorem gx_aload_n (hX : gx_Ok X M) {i : Fin 4} {x : Nat} (hd : decode M.2.1 pc = .ok (.aload_n i, 1)) (hi : gx_n ls i.val = some (.inr x)) (k : gx_G X M (pc + 1) ls (.inr x :: st) w) : gx_G X M pc ls (st) w := by
  obtain ⟨p, l, e, s, m, args, below, meth, c, S, res, w1⟩ := X
  obtain ⟨hx, hb, hml, hts, hown, hrt, hlk, hK, hDD, hNW, hSX, hsh⟩ := hX
  intro H locs LS hP hS hl
  exact lv_aload_n hx hb hd rfl (gx_lat hl hi) (k H locs LS hP hS hl)
theorem gx_istore_n (hX : gx_Ok X M) {i : Fin 4} {x : Int32} (hd : decode M.2.1 pc = .ok (.istore_n i, 1)) (hn : i.val < M.2.2.1) (hs : gx_st ls i.val (.inl x) = ls') (k : gx_G X M (pc + 1) ls' st w) : gx_G X M pc ls (.inl x :: st) w := by
  obtain ⟨p, l, e, s, m, args, below, meth, c, S, res, w1⟩ := X
  obtain ⟨hx, hb, hml, hts, hown, hrt, hlk, hK, hDD, hNW, hSX, hsh⟩ := hX
  subst hs
  intro H locs LS hP hS hl
  exact lv_istore_n hx hb hd rfl hl hn rfl (fun LS' hl' => k H locs LS' hP hS (gx_lset hl'))
theorem gx_istore (hX : gx_Ok X M) {i : Nat} {x : Int32} (hd : decode M.2.1 pc = .ok (.istore i, 2)) (hn : i < M.2.2.1) (hs : gx_st ls i (.inl x) = ls') (k : gx_G X M (pc + 2) ls' st w) : gx_G X M pc ls (.inl x :: st) w := by
  obtain ⟨p, l, e, s, m, args, below, meth, c, S, res, w1⟩ := X
  obtain ⟨hx, hb, hml, hts, hown, hrt, hlk, hK, hDD, hNW, hSX, hsh⟩ := hX
  subst hs
  intro H locs LS hP hS hl
  exact lv_istore hx hb hd hl hn rfl (fun LS' hl' => k H locs LS' hP hS (gx_lset hl'))
theorem gx_astore_n (hX : gx_Ok X M) {i : Fin 4} {x : Nat} (hd : decode M.2.1 pc = .ok (.astore_n i, 1)) (hn : i.val < M.2.2.1) (hs : gx_st ls i.val (.inr x) = ls') (k : gx_G X M (pc + 1) ls' st w) : gx_G X M pc ls (.inr x :: st) w := by
  obtain ⟨p, l, e, s, m, args, below, meth, c, S, res, w1⟩ := X
  obtain ⟨hx, hb, hml, hts, hown, hrt, hlk, hK, hDD, hNW, hSX, hsh⟩ := hX
  subst hs
  intro H locs LS hP hS hl
  exact lv_astore_n hx hb hd rfl hl hn rfl (fun LS' hl' => k H locs LS' hP hS (gx_lset hl'))
theorem gx_iinc (hX : gx_Ok X M) {i : Nat} {n : Int} {x v : Int32} (hd : decode M.2.1 pc = .ok (.iinc i n, 3)) (hi : gx_n ls i = some (.inl x)) (hv : x + Int32.ofInt n = v) (hn : i < M.2.2.1) (hs : gx_st ls i (.inl v) = ls') (k : gx_G X M (pc + 3) ls' st w) : gx_G X M pc ls st w := by
  obtain ⟨p, l, e, s, m, args, below, meth, c, S, res, w1⟩ := X
  obtain ⟨hx, hb, hml, hts, hown, hrt, hlk, hK, hDD, hNW, hSX, hsh⟩ := hX
  subst hs
  intro H locs LS hP hS hl
  obtain ⟨j, hj⟩ := List.getElem?_of_mem ((gx_lc_iff S.2.2.1 ls 0 (i, .int x)).mpr ⟨i, .inl x, hi, by simp [gx_cv]⟩)
  exact lv_iinc hx hb hd hl hj hv hn rfl (fun LS' hl' => k H locs LS' hP hS (gx_lset hl'))
theorem gx_iadd (hX : gx_Ok X M) {x y : Int32} (hd : decode M.2.1 pc = .ok (.iadd, 1)) (k : gx_G X M (pc + 1) ls (.inl (x + y) :: st) w) : gx_G X M pc ls (.inl y :: .inl x :: st) w := by
  obtain ⟨p, l, e, s, m, args, below, meth, c, S, res, w1⟩ := X
  obtain ⟨hx, hb, hml, hts, hown, hrt, hlk, hK, hDD, hNW, hSX, hsh⟩ := hX
  intro H locs LS hP hS hl
  exact lv_iadd hx hb hd (k H locs LS hP hS hl)
theorem gx_isub (hX : gx_Ok X M) {x y : Int32} (hd : decode M.2.1 pc = .ok (.isub, 1)) (k : gx_G X M (pc + 1) ls (.inl (x - y) :: st) w) : gx_G X M pc ls (.inl y :: .inl x :: st) w := by
  obtain ⟨p, l, e, s, m, args, below, meth, c, S, res, w1⟩ := X
  obtain ⟨hx, hb, hml, hts, hown, hrt, hlk, hK, hDD, hNW, hSX, hsh⟩ := hX
  intro H locs LS hP hS hl
  exact lv_isub hx hb hd (k H locs LS hP hS hl)
theorem gx_imul (hX : gx_Ok X M) {x y : Int32} (hd : decode M.2.1 pc = .ok (.imul, 1)) (k : gx_G X M (pc + 1) ls (.inl (x * y) :: st) w) : gx_G X M pc ls (.inl y :: .inl x :: st) w := by
  obtain ⟨p, l, e, s, m, args, below, meth, c, S, res, w1⟩ := X
  obtain ⟨hx, hb, hml, hts, hown, hrt, hlk, hK, hDD, hNW, hSX, hsh⟩ := hX
  intro H locs LS hP hS hl
  exact lv_imul hx hb hd (k H locs LS hP hS hl)
theorem gx_iand (hX : gx_Ok X M) {x y : Int32} (hd : decode M.2.1 pc = .ok (.iand, 1)) (k : gx_G X M (pc + 1) ls (.inl (x &&& y) :: st) w) : gx_G X M pc ls (.inl y :: .inl x :: st) w := by
  obtain ⟨p, l, e, s, m, args, below, meth, c, S, res, w1⟩ := X
  obtain ⟨hx, hb, hml, hts, hown, hrt, hlk, hK, hDD, hNW, hSX, hsh⟩ := hX
  intro H locs LS hP hS hl
  exact lv_iand hx hb hd (k H locs LS hP hS hl)
theorem gx_ior (hX : gx_Ok X M) {x y : Int32} (hd : decode M.2.1 pc = .ok (.ior, 1)) (k : gx_G X M (pc + 1) ls (.inl (x ||| y) :: st) w) : gx_G X M pc ls (.inl y :: .inl x :: st) w := by
  obtain ⟨p, l, e, s, m, args, below, meth, c, S, res, w1⟩ := X
  obtain ⟨hx, hb, hml, hts, hown, hrt, hlk, hK, hDD, hNW, hSX, hsh⟩ := hX
  intro H locs LS hP hS hl
  exact lv_ior hx hb hd (k H locs LS hP hS hl)
theorem gx_ixor (hX : gx_Ok X M) {x y : Int32} (hd : decode M.2.1 pc = .ok (.ixor, 1)) (k : gx_G X M (pc + 1) ls (.inl (x ^^^ y) :: st) w) : gx_G X M pc ls (.inl y :: .inl x :: st) w := by
  obtain ⟨p, l, e, s, m, args, below, meth, c, S, res, w1⟩ := X
  obtain ⟨hx, hb, hml, hts, hown, hrt, hlk, hK, hDD, hNW, hSX, hsh⟩ := hX
  intro H locs LS hP hS hl
  exact lv_ixor hx hb hd (k H locs LS hP hS hl)
theorem gx_ishl (hX : gx_Ok X M) {x y : Int32} (hd : decode M.2.1 pc = .ok (.ishl, 1)) (k : gx_G X M (pc + 1) ls (.inl (x <<< (y &&& 31)) :: st) w) : gx_G X M pc ls (.inl y :: .inl x :: st) w := by
  obtain ⟨p, l, e, s, m, args, below, meth, c, S, res, w1⟩ := X
  obtain ⟨hx, hb, hml, hts, hown, hrt, hlk, hK, hDD, hNW, hSX, hsh⟩ := hX
  intro H locs LS hP hS hl
  exact lv_ishl hx hb hd (k H locs LS hP hS hl)
theorem gx_ishr (hX : gx_Ok X M) {x y : Int32} (hd : decode M.2.1 pc = .ok (.ishr, 1)) (k : gx_G X M (pc + 1) ls (.inl (x >>> (y &&& 31)) :: st) w) : gx_G X M pc ls (.inl y :: .inl x :: st) w := by
  obtain ⟨p, l, e, s, m, args, below, meth, c, S, res, w1⟩ := X
  obtain ⟨hx, hb, hml, hts, hown, hrt, hlk, hK, hDD, hNW, hSX, hsh⟩ := hX
  intro H locs LS hP hS hl
  exact lv_ishr hx hb hd (k H locs LS hP hS hl)
theorem gx_iushr (hX : gx_Ok X M) {x y : Int32} (hd : decode M.2.1 pc = .ok (.iushr, 1)) (k : gx_G X M (pc + 1) ls (.inl ((x.toUInt32 >>> (y.toUInt32 &&& Int32.toUInt32 31)).toInt32) :: st) w) : gx_G X M pc ls (.inl y :: .inl x :: st) w := by
  obtain ⟨p, l, e, s, m, args, below, meth, c, S, res, w1⟩ := X
  obtain ⟨hx, hb, hml, hts, hown, hrt, hlk, hK, hDD, hNW, hSX, hsh⟩ := hX
  intro H locs LS hP hS hl
  exact lv_iushr hx hb hd rfl (k H locs LS hP hS hl)
theorem gx_idiv (hX : gx_Ok X M) {x y : Int32} (hd : decode M.2.1 pc = .ok (.idiv, 1)) (hy : ¬ y = 0) (k : gx_G X M (pc + 1) ls (.inl (x / y) :: st) w) : gx_G X M pc ls (.inl y :: .inl x :: st) w := by
  obtain ⟨p, l, e, s, m, args, below, meth, c, S, res, w1⟩ := X
  obtain ⟨hx, hb, hml, hts, hown, hrt, hlk, hK, hDD, hNW, hSX, hsh⟩ := hX
  intro H locs LS hP hS hl
  exact lv_idiv hx hb hd hy (k H locs LS hP hS hl)
theorem gx_irem (hX : gx_Ok X M) {x y : Int32} (hd : decode M.2.1 pc = .ok (.irem, 1)) (hy : ¬ y = 0) (k : gx_G X M (pc + 1) ls (.inl (x - x / y * y) :: st) w) : gx_G X M pc ls (.inl y :: .inl x :: st) w := by
  obtain ⟨p, l, e, s, m, args, below, meth, c, S, res, w1⟩ := X
  obtain ⟨hx, hb, hml, hts, hown, hrt, hlk, hK, hDD, hNW, hSX, hsh⟩ := hX
  intro H locs LS hP hS hl
  exact lv_irem hx hb hd hy (k H locs LS hP hS hl)
theorem gx_ineg (hX : gx_Ok X M) {x : Int32} (hd : decode M.2.1 pc = .ok (.ineg, 1)) (k : gx_G X M (pc + 1) ls (.inl (-x) :: st) w) : gx_G X M pc ls (.inl x :: st) w := by
  obtain ⟨p, l, e, s, m, args, below, meth, c, S, res, w1⟩ := X
  obtain ⟨hx, hb, hml, hts, hown, hrt, hlk, hK, hDD, hNW, hSX, hsh⟩ := hX
  intro H locs LS hP hS hl
  exact lv_ineg hx hb hd (k H locs LS hP hS hl)
theorem gx_dup (hX : gx_Ok X M) {v : gx_V} (hd : decode M.2.1 pc = .ok (.dup, 1)) (k : gx_G X M (pc + 1) ls (v :: v :: st) w) : gx_G X M pc ls (v :: st) w := by
  obtain ⟨p, l, e, s, m, args, below, meth, c, S, res, w1⟩ := X
  obtain ⟨hx, hb, hml, hts, hown, hrt, hlk, hK, hDD, hNW, hSX, hsh⟩ := hX
  intro H locs LS hP hS hl
  exact lv_dup hx hb hd (gx_cat _ v) (k H locs LS hP hS hl)
theorem gx_pop (hX : gx_Ok X M) {v : gx_V} (hd : decode M.2.1 pc = .ok (.pop, 1)) (k : gx_G X M (pc + 1) ls (st) w) : gx_G X M pc ls (v :: st) w := by
  obtain ⟨p, l, e, s, m, args, below, meth, c, S, res, w1⟩ := X
  obtain ⟨hx, hb, hml, hts, hown, hrt, hlk, hK, hDD, hNW, hSX, hsh⟩ := hX
  intro H locs LS hP hS hl
  exact lv_pop hx hb hd (gx_cat _ v) (k H locs LS hP hS hl)
theorem gx_dup2 (hX : gx_Ok X M) {v u : gx_V} (hd : decode M.2.1 pc = .ok (.dup2, 1)) (k : gx_G X M (pc + 1) ls (v :: u :: v :: u :: st) w) : gx_G X M pc ls (v :: u :: st) w := by
  obtain ⟨p, l, e, s, m, args, below, meth, c, S, res, w1⟩ := X
  obtain ⟨hx, hb, hml, hts, hown, hrt, hlk, hK, hDD, hNW, hSX, hsh⟩ := hX
  intro H locs LS hP hS hl
  exact lv_dup2_11 hx hb hd (gx_cat _ v) (gx_cat _ u) (k H locs LS hP hS hl)
theorem gx_dup_x1 (hX : gx_Ok X M) {v u : gx_V} (hd : decode M.2.1 pc = .ok (.dup_x1, 1)) (k : gx_G X M (pc + 1) ls (v :: u :: v :: st) w) : gx_G X M pc ls (v :: u :: st) w := by
  obtain ⟨p, l, e, s, m, args, below, meth, c, S, res, w1⟩ := X
  obtain ⟨hx, hb, hml, hts, hown, hrt, hlk, hK, hDD, hNW, hSX, hsh⟩ := hX
  intro H locs LS hP hS hl
  exact lv_dup_x1 hx hb hd (gx_cat _ v) (gx_cat _ u) (k H locs LS hP hS hl)
theorem gx_if_eq (hX : gx_Ok X M) {x : Int32} {off : Int} {tgt : Nat} (hd : decode M.2.1 pc = .ok (.ifCond .eq off, 3)) (ht : (pc : Int) + off = (tgt : Int)) (kt : x = 0 → gx_G X M tgt ls st w) (kf : ¬ x = 0 → gx_G X M (pc + 3) ls st w) : gx_G X M pc ls (.inl x :: st) w := by
  obtain ⟨p, l, e, s, m, args, below, meth, c, S, res, w1⟩ := X
  obtain ⟨hx, hb, hml, hts, hown, hrt, hlk, hK, hDD, hNW, hSX, hsh⟩ := hX
  intro H locs LS hP hS hl
  exact lv_if_eq hx hb hd ht (fun q => kt q H locs LS hP hS hl) (fun q => kf q H locs LS hP hS hl)
theorem gx_ic_eq (hX : gx_Ok X M) {x y : Int32} {off : Int} {tgt : Nat} (hd : decode M.2.1 pc = .ok (.if_icmp .eq off, 3)) (ht : (pc : Int) + off = (tgt : Int)) (kt : x = y → gx_G X M tgt ls st w) (kf : ¬ x = y → gx_G X M (pc + 3) ls st w) : gx_G X M pc ls (.inl y :: .inl x :: st) w := by
  obtain ⟨p, l, e, s, m, args, below, meth, c, S, res, w1⟩ := X
  obtain ⟨hx, hb, hml, hts, hown, hrt, hlk, hK, hDD, hNW, hSX, hsh⟩ := hX
  intro H locs LS hP hS hl
  exact lv_icmp_eq hx hb hd ht (fun q => kt q H locs LS hP hS hl) (fun q => kf q H locs LS hP hS hl)
theorem gx_if_ne (hX : gx_Ok X M) {x : Int32} {off : Int} {tgt : Nat} (hd : decode M.2.1 pc = .ok (.ifCond .ne off, 3)) (ht : (pc : Int) + off = (tgt : Int)) (kt : ¬ x = 0 → gx_G X M tgt ls st w) (kf : x = 0 → gx_G X M (pc + 3) ls st w) : gx_G X M pc ls (.inl x :: st) w := by
  obtain ⟨p, l, e, s, m, args, below, meth, c, S, res, w1⟩ := X
  obtain ⟨hx, hb, hml, hts, hown, hrt, hlk, hK, hDD, hNW, hSX, hsh⟩ := hX
  intro H locs LS hP hS hl
  exact lv_if_ne hx hb hd ht (fun q => kt q H locs LS hP hS hl) (fun q => kf q H locs LS hP hS hl)
theorem gx_ic_ne (hX : gx_Ok X M) {x y : Int32} {off : Int} {tgt : Nat} (hd : decode M.2.1 pc = .ok (.if_icmp .ne off, 3)) (ht : (pc : Int) + off = (tgt : Int)) (kt : ¬ x = y → gx_G X M tgt ls st w) (kf : x = y → gx_G X M (pc + 3) ls st w) : gx_G X M pc ls (.inl y :: .inl x :: st) w := by
  obtain ⟨p, l, e, s, m, args, below, meth, c, S, res, w1⟩ := X
  obtain ⟨hx, hb, hml, hts, hown, hrt, hlk, hK, hDD, hNW, hSX, hsh⟩ := hX
  intro H locs LS hP hS hl
  exact lv_icmp_ne hx hb hd ht (fun q => kt q H locs LS hP hS hl) (fun q => kf q H locs LS hP hS hl)
theorem gx_if_lt (hX : gx_Ok X M) {x : Int32} {off : Int} {tgt : Nat} (hd : decode M.2.1 pc = .ok (.ifCond .lt off, 3)) (ht : (pc : Int) + off = (tgt : Int)) (kt : x < 0 → gx_G X M tgt ls st w) (kf : ¬ x < 0 → gx_G X M (pc + 3) ls st w) : gx_G X M pc ls (.inl x :: st) w := by
  obtain ⟨p, l, e, s, m, args, below, meth, c, S, res, w1⟩ := X
  obtain ⟨hx, hb, hml, hts, hown, hrt, hlk, hK, hDD, hNW, hSX, hsh⟩ := hX
  intro H locs LS hP hS hl
  exact lv_if_lt hx hb hd ht (fun q => kt q H locs LS hP hS hl) (fun q => kf q H locs LS hP hS hl)
theorem gx_ic_lt (hX : gx_Ok X M) {x y : Int32} {off : Int} {tgt : Nat} (hd : decode M.2.1 pc = .ok (.if_icmp .lt off, 3)) (ht : (pc : Int) + off = (tgt : Int)) (kt : x < y → gx_G X M tgt ls st w) (kf : ¬ x < y → gx_G X M (pc + 3) ls st w) : gx_G X M pc ls (.inl y :: .inl x :: st) w := by
  obtain ⟨p, l, e, s, m, args, below, meth, c, S, res, w1⟩ := X
  obtain ⟨hx, hb, hml, hts, hown, hrt, hlk, hK, hDD, hNW, hSX, hsh⟩ := hX
  intro H locs LS hP hS hl
  exact lv_icmp_lt hx hb hd ht (fun q => kt q H locs LS hP hS hl) (fun q => kf q H locs LS hP hS hl)
theorem gx_if_ge (hX : gx_Ok X M) {x : Int32} {off : Int} {tgt : Nat} (hd : decode M.2.1 pc = .ok (.ifCond .ge off, 3)) (ht : (pc : Int) + off = (tgt : Int)) (kt : 0 ≤ x → gx_G X M tgt ls st w) (kf : ¬ 0 ≤ x → gx_G X M (pc + 3) ls st w) : gx_G X M pc ls (.inl x :: st) w := by
  obtain ⟨p, l, e, s, m, args, below, meth, c, S, res, w1⟩ := X
  obtain ⟨hx, hb, hml, hts, hown, hrt, hlk, hK, hDD, hNW, hSX, hsh⟩ := hX
  intro H locs LS hP hS hl
  exact lv_if_ge hx hb hd ht (fun q => kt q H locs LS hP hS hl) (fun q => kf q H locs LS hP hS hl)
theorem gx_ic_ge (hX : gx_Ok X M) {x y : Int32} {off : Int} {tgt : Nat} (hd : decode M.2.1 pc = .ok (.if_icmp .ge off, 3)) (ht : (pc : Int) + off = (tgt : Int)) (kt : y ≤ x → gx_G X M tgt ls st w) (kf : ¬ y ≤ x → gx_G X M (pc + 3) ls st w) : gx_G X M pc ls (.inl y :: .inl x :: st) w := by
  obtain ⟨p, l, e, s, m, args, below, meth, c, S, res, w1⟩ := X
  obtain ⟨hx, hb, hml, hts, hown, hrt, hlk, hK, hDD, hNW, hSX, hsh⟩ := hX
  intro H locs LS hP hS hl
  exact lv_icmp_ge hx hb hd ht (fun q => kt q H locs LS hP hS hl) (fun q => kf q H locs LS hP hS hl)
theorem gx_if_gt (hX : gx_Ok X M) {x : Int32} {off : Int} {tgt : Nat} (hd : decode M.2.1 pc = .ok (.ifCond .gt off, 3)) (ht : (pc : Int) + off = (tgt : Int)) (kt : 0 < x → gx_G X M tgt ls st w) (kf : ¬ 0 < x → gx_G X M (pc + 3) ls st w) : gx_G X M pc ls (.inl x :: st) w := by
  obtain ⟨p, l, e, s, m, args, below, meth, c, S, res, w1⟩ := X
  obtain ⟨hx, hb, hml, hts, hown, hrt, hlk, hK, hDD, hNW, hSX, hsh⟩ := hX
  intro H locs LS hP hS hl
  exact lv_if_gt hx hb hd ht (fun q => kt q H locs LS hP hS hl) (fun q => kf q H locs LS hP hS hl)
theorem gx_ic_gt (hX : gx_Ok X M) {x y : Int32} {off : Int} {tgt : Nat} (hd : decode M.2.1 pc = .ok (.if_icmp .gt off, 3)) (ht : (pc : Int) + off = (tgt : Int)) (kt : y < x → gx_G X M tgt ls st w) (kf : ¬ y < x → gx_G X M (pc + 3) ls st w) : gx_G X M pc ls (.inl y :: .inl x :: st) w := by
  obtain ⟨p, l, e, s, m, args, below, meth, c, S, res, w1⟩ := X
  obtain ⟨hx, hb, hml, hts, hown, hrt, hlk, hK, hDD, hNW, hSX, hsh⟩ := hX
  intro H locs LS hP hS hl
  exact lv_icmp_gt hx hb hd ht (fun q => kt q H locs LS hP hS hl) (fun q => kf q H locs LS hP hS hl)
theorem gx_if_le (hX : gx_Ok X M) {x : Int32} {off : Int} {tgt : Nat} (hd : decode M.2.1 pc = .ok (.ifCond .le off, 3)) (ht : (pc : Int) + off = (tgt : Int)) (kt : x ≤ 0 → gx_G X M tgt ls st w) (kf : ¬ x ≤ 0 → gx_G X M (pc + 3) ls st w) : gx_G X M pc ls (.inl x :: st) w := by
  obtain ⟨p, l, e, s, m, args, below, meth, c, S, res, w1⟩ := X
  obtain ⟨hx, hb, hml, hts, hown, hrt, hlk, hK, hDD, hNW, hSX, hsh⟩ := hX
  intro H locs LS hP hS hl
  exact lv_if_le hx hb hd ht (fun q => kt q H locs LS hP hS hl) (fun q => kf q H locs LS hP hS hl)
theorem gx_ic_le (hX : gx_Ok X M) {x y : Int32} {off : Int} {tgt : Nat} (hd : decode M.2.1 pc = .ok (.if_icmp .le off, 3)) (ht : (pc : Int) + off = (tgt : Int)) (kt : x ≤ y → gx_G X M tgt ls st w) (kf : ¬ x ≤ y → gx_G X M (pc + 3) ls st w) : gx_G X M pc ls (.inl y :: .inl x :: st) w := by
  obtain ⟨p, l, e, s, m, args, below, meth, c, S, res, w1⟩ := X
  obtain ⟨hx, hb, hml, hts, hown, hrt, hlk, hK, hDD, hNW, hSX, hsh⟩ := hX
  intro H locs LS hP hS hl
  exact lv_icmp_le hx hb hd ht (fun q => kt q H locs LS hP hS hl) (fun q => kf q H locs LS hP hS hl)
theorem gx_goto (hX : gx_Ok X M) {off : Int} {tgt : Nat} (hd : decode M.2.1 pc = .ok (.goto off, 3)) (ht : (pc : Int) + off = (tgt : Int)) (k : gx_G X M tgt ls st w) : gx_G X M pc ls st w := by
  obtain ⟨p, l, e, s, m, args, below, meth, c, S, res, w1⟩ := X
  obtain ⟨hx, hb, hml, hts, hown, hrt, hlk, hK, hDD, hNW, hSX, hsh⟩ := hX
  intro H locs LS hP hS hl
  exact lv_goto hx hb hd ht (k H locs LS hP hS hl)
theorem gx_ifnull (hX : gx_Ok X M) {off : Int} {x : Nat} (hd : decode M.2.1 pc = .ok (.ifnull off, 3)) (k : gx_G X M (pc + 3) ls st w) : gx_G X M pc ls (.inr x :: st) w := by
  obtain ⟨p, l, e, s, m, args, below, meth, c, S, res, w1⟩ := X
  obtain ⟨hx, hb, hml, hts, hown, hrt, hlk, hK, hDD, hNW, hSX, hsh⟩ := hX
  intro H locs LS hP hS hl
  exact lv_ifnull hx hb hd (k H locs LS hP hS hl)
theorem gx_ifnonnull (hX : gx_Ok X M) {off : Int} {tgt x : Nat} (hd : decode M.2.1 pc = .ok (.ifnonnull off, 3)) (ht : (pc : Int) + off = (tgt : Int)) (k : gx_G X M tgt ls st w) : gx_G X M pc ls (.inr x :: st) w := by
  obtain ⟨p, l, e, s, m, args, below, meth, c, S, res, w1⟩ := X
  obtain ⟨hx, hb, hml, hts, hown, hrt, hlk, hK, hDD, hNW, hSX, hsh⟩ := hX
  intro H locs LS hP hS hl
  exact lv_ifnonnull hx hb hd ht (k H locs LS hP hS hl)
theorem gx_lookup (hX : gx_Ok X M) {dflt : Int} {ps : Array (Int × Int)} {len : Nat} {x : Int32} {off : Int} {tgt : Nat} (hd : decode M.2.1 pc = .ok (.lookupswitch dflt ps, len)) (hp : (ps.toList.zip (ps.toList.drop 1)).all (fun (a, next) => a.1 < next.1) = true) (ho : Op.lookupswitch.offset ps.toList dflt x.toInt = off) (ht : (pc : Int) + off = (tgt : Int)) (k : gx_G X M tgt ls st w) : gx_G X M pc ls (.inl x :: st) w := by
  obtain ⟨p, l, e, s, m, args, below, meth, c, S, res, w1⟩ := X
  obtain ⟨hx, hb, hml, hts, hown, hrt, hlk, hK, hDD, hNW, hSX, hsh⟩ := hX
  intro H locs LS hP hS hl
  exact lv_lookup hx hb hd hp ho ht (k H locs LS hP hS hl)
theorem gx_tabOut (hX : gx_Ok X M) {dflt lo hi : Int} {offs : Array Int} {len : Nat} {x : Int32} {tgt : Nat} (hd : decode M.2.1 pc = .ok (.tableswitch dflt lo hi offs, len)) (h : x.toInt < lo ∨ hi < x.toInt) (ht : (pc : Int) + dflt = (tgt : Int)) (k : gx_G X M tgt ls st w) : gx_G X M pc ls (.inl x :: st) w := by
  obtain ⟨p, l, e, s, m, args, below, meth, c, S, res, w1⟩ := X
  obtain ⟨hx, hb, hml, hts, hown, hrt, hlk, hK, hDD, hNW, hSX, hsh⟩ := hX
  intro H locs LS hP hS hl
  exact lv_tableOut hx hb hd h ht (k H locs LS hP hS hl)
theorem gx_tabIn (hX : gx_Ok X M) {dflt lo hi : Int} {offs : Array Int} {len : Nat} {x : Int32} {off : Int} {tgt : Nat} (hd : decode M.2.1 pc = .ok (.tableswitch dflt lo hi offs, len)) (h1 : ¬ x.toInt < lo) (h2 : ¬ hi < x.toInt) (ho : offs[(x.toInt - lo).toNat]? = some off) (ht : (pc : Int) + off = (tgt : Int)) (k : gx_G X M tgt ls st w) : gx_G X M pc ls (.inl x :: st) w := by
  obtain ⟨p, l, e, s, m, args, below, meth, c, S, res, w1⟩ := X
  obtain ⟨hx, hb, hml, hts, hown, hrt, hlk, hK, hDD, hNW, hSX, hsh⟩ := hX
  intro H locs LS hP hS hl
  exact lv_tableIn hx hb hd h1 h2 ho ht (k H locs LS hP hS hl)
/-! fields, arrays -/
/-- the field k of the class ci, by the entry ix of the class own -/
def gx_fl (own : String) (ix ci k : Nat) : Prop := ∃ (C : String) (T : u_T) (N : Nat), gx_cl[ci]? = some (C, T, N) ∧ k < N ∧ (Cond.fieldLink own ix (T k).1 (T k).2.1 (T k).2.2.1 ∈ gx_big ∨ Cond.fieldLinkNest own ix (T k).1 (T k).2.1 (T k).2.2.1 "EachBearsPillar" ∈ gx_nest)
theorem gx_get0 (hX : gx_Ok X M) {ix ci k o : Nat} {fs : List (Option Nat)} {v : gx_V} (hf : gx_fl M.1.cls ix ci k) (hs : M.2.2.2.2.2[o]? = some (.inr (ci, fs))) (hv : ∀ S : gx_Sd, (gx_fs S.2.2.1 (w o) 0 fs)[k]? = some (gx_cv S.2.2.1 v)) (hd : decode M.2.1 pc = .ok (.getfield ix, 3)) (kk : gx_G X M (pc + 3) ls (v :: st) w) : gx_G X M pc ls (.inr o :: st) w := by
  obtain ⟨p, l, e, s, m, args, below, meth, c, S, res, w1⟩ := X
  obtain ⟨hx, hb, hml, hts, hown, hrt, hlk, hK, hDD, hNW, hSX, hsh⟩ := hX
  intro H locs LS hP hS hl
  obtain ⟨C, T, N, hc, hk, hlink⟩ := hf
  obtain ⟨hin, ⟨ty, hty⟩, hnm⟩ := gx_clok ci C T N hc
  have he : (gx_cells S w)[o]? = some (S.2.2.1 o, .inr (ci, gx_fs S.2.2.1 (w o) 0 fs)) := gx_get (by rw [hsh]; exact hs)
  rcases hlink with hlink | hlink
  · exact va_get hx hb hts (fun u hu => List.mem_cons_of_mem _ (hin u hu)) hown hK hP o he hc k hk (hts _ (List.mem_cons_of_mem _ hlink)) (fun _ h => h) (hv S) hd (kk H locs LS hP hS hl)
  · exact va_getN hx hb hts (fun u hu => List.mem_cons_of_mem _ (hin u hu)) hown hK hP o he hc k hk (va_Nw.use rfl (hNW _ hlink)) (fun _ h => h) (hv S) hd (kk H locs LS hP hS hl)
theorem gx_geti (hX : gx_Ok X M) {ix ci k o : Nat} {fs : List (Option Nat)} (hf : gx_fl M.1.cls ix ci k) (hs : M.2.2.2.2.2[o]? = some (.inr (ci, fs))) (hv : fs[k]? = some none) (hd : decode M.2.1 pc = .ok (.getfield ix, 3)) (kk : gx_G X M (pc + 3) ls (.inl (w o k) :: st) w) : gx_G X M pc ls (.inr o :: st) w :=
  gx_get0 hX hf hs (fun S => by rw [gx_fs_int S.2.2.1 fs 0 k hv, Nat.zero_add]; rfl) hd kk
theorem gx_getr (hX : gx_Ok X M) {ix ci k o q : Nat} {fs : List (Option Nat)} (hf : gx_fl M.1.cls ix ci k) (hs : M.2.2.2.2.2[o]? = some (.inr (ci, fs))) (hv : fs[k]? = some (some q)) (hd : decode M.2.1 pc = .ok (.getfield ix, 3)) (kk : gx_G X M (pc + 3) ls (.inr q :: st) w) : gx_G X M pc ls (.inr o :: st) w :=
  gx_get0 hX hf hs (fun S => by rw [gx_fs_ref S.2.2.1 fs 0 k hv]; rfl) hd kk
/-- a field that may be written, of a kind that takes the number -/
def gx_pf (ci k : Nat) (v : Int32) : Prop := ∃ (C : String) (T : u_T) (N : Nat) (ty : FieldType), gx_cl[ci]? = some (C, T, N) ∧ (T k).2.2.2 = false ∧ parseFieldDescriptor (T k).2.2.1 = some ty ∧ narrow ty (.int v) = .int v ∧ fits ty (.int v) = true
theorem gx_putf (hX : gx_Ok X M) {ix ci k o : Nat} {fs : List (Option Nat)} {v : Int32} (hf : gx_fl M.1.cls ix ci k) (hp : gx_pf ci k v) (hs : M.2.2.2.2.2[o]? = some (.inr (ci, fs))) (hv : fs[k]? = some none) (hd : decode M.2.1 pc = .ok (.putfield ix, 3)) (kk : gx_G X M (pc + 3) ls st (gx_w w o k v)) : gx_G X M pc ls (.inl v :: .inr o :: st) w := by
  obtain ⟨p, l, e, s, m, args, below, meth, c, S, res, w1⟩ := X
  obtain ⟨hx, hb, hml, hts, hown, hrt, hlk, hK, hDD, hNW, hSX, hsh⟩ := hX
  intro H locs LS hP hS hl
  obtain ⟨C, T, N, hc, hk, hlink⟩ := hf
  obtain ⟨C', T', N', ty1, hc', hfin, hpd, hnar, hfit⟩ := hp
  cases hc.symm.trans hc'
  obtain ⟨hin, ⟨ty, hty⟩, hnm⟩ := gx_clok ci C T N hc
  have hso : S.1[o]? = some (.inr (ci, fs)) := by rw [hsh]; exact hs
  have he : (gx_cells S w)[o]? = some (S.2.2.1 o, .inr (ci, gx_fs S.2.2.1 (w o) 0 fs)) := gx_get hso
  have hlen : k < (gx_fs S.2.2.1 (w o) 0 fs).length := by rw [gx_fs_len]; exact (List.getElem?_eq_some_iff.mp hv).1
  have hset : (gx_cells S w).set o (S.2.2.1 o, .inr (ci, (gx_fs S.2.2.1 (w o) 0 fs).set k (.int v))) = gx_cells S (gx_w w o k v) := gx_cells_set hso (by rw [gx_fs_set S.2.2.1 fs 0 k hv, Nat.zero_add]; rfl)
  rcases hlink with hlink | hlink
  · refine va_put hx hb hts (fun u hu => List.mem_cons_of_mem _ (hin u hu)) ty hty hnm hown hK hP (hDD.d w) hS o he hc k hk (hts _ (List.mem_cons_of_mem _ hlink)) (fun _ h => h) hfin hpd hnar hfit hlen hd (fun H1 locs1 hP1 _ hS1 => ?_)
    have hP2 : va_P S.2.1 gx_cl (gx_cells S (gx_w w o k v)) H1 := by rw [← hset]; exact hP1
    exact kk H1 locs1 LS hP2 hS1 hl
  · refine va_putN hx hb hts (fun u hu => List.mem_cons_of_mem _ (hin u hu)) ty hty hnm hown hK hP (hDD.d w) hS o he hc k hk (va_Nw.use rfl (hNW _ hlink)) (fun _ h => h) hfin hpd hnar hfit hlen hd (fun H1 locs1 hP1 _ hS1 => ?_)
    have hP2 : va_P S.2.1 gx_cl (gx_cells S (gx_w w o k v)) H1 := by rw [← hset]; exact hP1
    exact kk H1 locs1 LS hP2 hS1 hl
/-- arrays: reading, writing, length, as the machine does them -/
def gx_ald (sh : List gx_Sh) (w : gx_Wd) (o : Nat) (i : Int32) : Option Int32 := match sh[o]? with
  | some (.inl n) => if i < 0 ∨ n ≤ i.toNatClampNeg then none else some (w o i.toNatClampNeg)
  | _ => none
def gx_ast (sh : List gx_Sh) (w : gx_Wd) (o : Nat) (i v : Int32) : Option gx_Wd := match sh[o]? with
  | some (.inl n) => if i < 0 ∨ n ≤ i.toNatClampNeg then none else some (gx_w w o i.toNatClampNeg v)
  | _ => none
def gx_aln (sh : List gx_Sh) (o : Nat) : Option Int32 := match sh[o]? with
  | some (.inl n) => some (Int32.ofNat n)
  | _ => none
theorem gx_iald (hX : gx_Ok X M) {o : Nat} {i v : Int32} (hv : gx_ald M.2.2.2.2.2 w o i = some v) (hd : decode M.2.1 pc = .ok (.iaload, 1)) (kk : gx_G X M (pc + 1) ls (.inl v :: st) w) : gx_G X M pc ls (.inl i :: .inr o :: st) w := by
  obtain ⟨p, l, e, s, m, args, below, meth, c, S, res, w1⟩ := X
  obtain ⟨hx, hb, hml, hts, hown, hrt, hlk, hK, hDD, hNW, hSX, hsh⟩ := hX
  intro H locs LS hP hS hl
  rw [← hsh] at hv
  unfold gx_ald at hv
  split at hv
  · rename_i n hn
    split at hv
    · cases hv
    · rename_i hin
      cases hv
      have he : (gx_cells S w)[o]? = some (S.2.2.1 o, .inl (S.2.2.2.1, n, .inl (w o))) := gx_get hn
      exact va_iald hx hb hK hP o 0 he rfl hin hd (kk H locs LS hP hS hl)
  · cases hv
theorem gx_iast (hX : gx_Ok X M) {o : Nat} {i v : Int32} {w' : gx_Wd} (hv : gx_ast M.2.2.2.2.2 w o i v = some w') (hd : decode M.2.1 pc = .ok (.iastore, 1)) (kk : gx_G X M (pc + 1) ls st w') : gx_G X M pc ls (.inl v :: .inl i :: .inr o :: st) w := by
  obtain ⟨p, l, e, s, m, args, below, meth, c, S, res, w1⟩ := X
  obtain ⟨hx, hb, hml, hts, hown, hrt, hlk, hK, hDD, hNW, hSX, hsh⟩ := hX
  intro H locs LS hP hS hl
  rw [← hsh] at hv
  unfold gx_ast at hv
  split at hv
  · rename_i n hn
    split at hv
    · cases hv
    · rename_i hin
      cases hv
      have he : (gx_cells S w)[o]? = some (S.2.2.1 o, .inl (S.2.2.2.1, n, .inl (w o))) := gx_get hn
      refine va_iast hx hb hK hP (hDD.d w) hS o 0 he rfl hin hd (fun H1 locs1 hP1 _ hS1 => ?_)
      have hset : (gx_cells S w).set o (S.2.2.1 o, .inl (S.2.2.2.1, n, .inl (upd (w o) i.toNatClampNeg v))) = gx_cells S (gx_w w o i.toNatClampNeg v) := gx_cells_set hn rfl
      have hP2 : va_P S.2.1 gx_cl (gx_cells S (gx_w w o i.toNatClampNeg v)) H1 := by rw [← hset]; exact hP1
      exact kk H1 locs1 LS hP2 hS1 hl
  · cases hv
theorem gx_alen (hX : gx_Ok X M) {o : Nat} {v : Int32} (hv : gx_aln M.2.2.2.2.2 o = some v) (hd : decode M.2.1 pc = .ok (.arraylength, 1)) (kk : gx_G X M (pc + 1) ls (.inl v :: st) w) : gx_G X M pc ls (.inr o :: st) w := by
  obtain ⟨p, l, e, s, m, args, below, meth, c, S, res, w1⟩ := X
  obtain ⟨hx, hb, hml, hts, hown, hrt, hlk, hK, hDD, hNW, hSX, hsh⟩ := hX
  intro H locs LS hP hS hl
  rw [← hsh] at hv
  unfold gx_aln at hv
  split at hv
  · rename_i n hn
    cases hv
    have he : (gx_cells S w)[o]? = some (S.2.2.1 o, .inl (S.2.2.2.1, n, .inl (w o))) := gx_get hn
    exact va_alen hx hb hK hP o 0 he rfl rfl hd (kk H locs LS hP hS hl)
  · cases hv
/-! calls, ends -/
/-- what the tables say of a method that is called: its numbers of arguments, whether it is static -/
def gx_mo (M : gx_Mi) (n : Nat) : Prop := Cond.code M.1 M.2.1 M.2.2.1 M.2.2.2.1 ∈ gx_big ∧ Cond.initialized M.1.cls ∈ gx_big ∧ (M.1.cls ≠ "java/lang/invoke/MethodHandle" ∧ M.1.cls ≠ "java/lang/invoke/VarHandle") ∧ (parseMethodDescriptor M.1.desc).map (fun d => d.parameters.length) = some n ∧ M.2.2.2.2.1.cells = 0 ∧ M.2.2.2.2.1.slots = 0
def gx_mv (M : gx_Mi) : Prop := Cond.instanceMethod M.1 ∈ gx_big ∧ Cond.selects M.1.cls M.1 M.1 ∈ gx_big
def gx_ms (M : gx_Mi) : Prop := Cond.static M.1 ∈ gx_big
/-- the call's entry names the method -/
def gx_ln (own : String) (ix : Nat) (M : gx_Mi) : Prop := Cond.methodLink own ix M.1 ∈ gx_big ∨ Cond.methodLinkNest own ix M.1 "EachBearsPillar" ∈ gx_nest
/-- the callee's room fits -/
def gx_rm (M' M : gx_Mi) : Prop := M'.2.2.2.2.1.frames + 1 ≤ M.2.2.2.2.1.frames ∧ 8 + (M'.2.2.1 + 11) + M'.2.2.2.2.1.locals ≤ M.2.2.2.2.1.locals
theorem gx_cat1 (ad : Nat → Nat) : ∀ (st : List gx_V), ((st.map (gx_cv ad)).map fun v => v.category).sum = st.length := by
  intro st
  induction st with
  | nil => rfl
  | cons a t ih => simp only [List.map_cons, List.sum_cons, List.length_cons]; rw [ih, gx_cat]; omega
theorem gx_fb {S : gx_Sd} {w : gx_Wd} {av : List Value} : FrameBlind (va_Pc av (gx_PX S w)) := by
  intro a U g mk h
  obtain ⟨h1, h2, h3, h4, h5, h6⟩ := h
  exact ⟨h1, h2, va_K.moved (u := U) (U := U.calling g mk a) (Vm.Alike.refl U.vm) h3, h4, gx_NW.same (s := U) (U := U.calling g mk a) rfl h5, gx_SX.same (s := U) (U := U.calling g mk a) rfl h6⟩
theorem gx_after {p : Program} {l : Launch} {e : Env} {R : Room} {s : State} {m : MethodId} {args a : Array Value} {below : List Frame} {meth : Method} {c : Code} {H : Heap} {locs : List Loc} {Q : State → Prop} {S : gx_Sd} {res : Option gx_V} {w' : gx_Wd} {LS : Array Slot} {st0 : List Value}
    (hr : va_Run p l e R s m args below meth c H locs 0 0 0 0 (F0 m pc LS st0) (st.map (gx_cv S.2.2.1)) (gx_Q S res w' a) (gx_A S)) (hS : va_S (gx_A S) s.heap H locs)
    (kk : ∀ (H1 : Heap) (locs1 : List Loc), va_P S.2.1 gx_cl (gx_cells S w') H1 → va_S (gx_A S) s.heap H1 locs1 → W p l e R s m args below meth c H1 locs1 0 0 Q (F0 m (pc + 3) LS ((res.toList ++ st).map (gx_cv S.2.2.1)))) : W p l e R s m args below meth c H locs 0 0 Q (F0 m pc LS st0) := by
  intro T hT X'
  obtain ⟨v, st₀, t, T', L, h0, X'', hL, e1, e2, ⟨⟨hv, hb⟩, hz, hk⟩, stp⟩ := hr T hT X'
  rw [h0] at hz hk
  have hv2 : v = res.map (gx_cv S.2.2.1) := by cases hv; rfl
  subst hv2
  obtain ⟨t2, a1, b1⟩ := kk T'.heap (locs ++ L) (by rw [e1]; exact hb)
    ⟨Nat.le_trans hS.1 (by rw [e1]; exact hz), fun q h1 h2 => by rw [e1, hk q (Nat.lt_of_lt_of_le h1 hS.1) h2]; exact hS.2.1 q h1 h2, fun q hq => by
      rcases List.mem_append.mp hq with h | h
      · exact hS.2.2 q h
      · exact hL q h⟩ T' rfl X''
  refine ⟨t2, stp t2 ?_, b1⟩
  have e3 : (res.map (gx_cv S.2.2.1)).toList ++ st.map (gx_cv S.2.2.1) = (res.toList ++ st).map (gx_cv S.2.2.1) := by cases res <;> simp
  rw [e3]
  exact a1
theorem gx_callV (hX : gx_Ok X M) {M' : gx_Mi} {ix b ci n : Nat} {As rest : List gx_V} {fs : List (Option Nat)} {res : Option gx_V} {w' : gx_Wd} (hd : decode M.2.1 pc = .ok (.invokevirtual ix, 3)) (hl : gx_ln M.1.cls ix M') (ho : gx_mo M' n) (hv : gx_mv M') (hr : gx_rm M' M) (hs : M.2.2.2.2.2[b]? = some (.inr (ci, fs))) (hc : ∃ T N, gx_cl[ci]? = some (M'.1.cls, T, N)) (he : M'.2.2.2.2.2 = M.2.2.2.2.2) (hM : gx_MT M' (.inr b :: As) w res w') (hn : As.length = n) (hst : st = As.reverse ++ .inr b :: rest) (hrl : rest.length ≤ 8) (kk : gx_G X M (pc + 3) ls (res.toList ++ rest) w') : gx_G X M pc ls st w := by
  obtain ⟨p, l, e, s, m, args, below, meth, c, S, res, w1⟩ := X
  obtain ⟨hx, hb, hml, hts, hown, hrt, hlk, hK, hDD, hNW, hSX, hsh⟩ := hX
  intro H locs LS hP hS hlv
  obtain ⟨T, N, hc⟩ := hc
  obtain ⟨o1, o2, o3, o4, o5, o6⟩ := ho
  have hp : PreV s H M'.1.cls (S.2.2.1 b) (va_Pc ((Sum.inr b :: As : List gx_V).map (gx_cv S.2.2.1)) (gx_PX S w)) (As.map (gx_cv S.2.2.1)) := by
    refine ⟨gx_fb, va_recv hK hP hc (gx_get (by rw [hsh]; exact hs)), fun U hU hW => ⟨rfl, ?_⟩⟩
    exact ⟨by rw [hU]; exact hP, va_K.moved hW.alike hK, hDD, hNW.warm hW, by rw [hU]; exact hSX.to hW hS.2.1⟩
  have hws : ∀ w ∈ (Cond.code M'.1 M'.2.1 M'.2.2.1 M'.2.2.2.1 :: gx_big), ∀ (a' : Array Value) (U : State), s.WarmedH U.vm → w.before a' U = true := pay_in hts (gx_good o1)
  have hlen : ∀ sig, parseMethodDescriptor M'.1.desc = some sig → n = sig.parameters.length := fun sig h => by
    have h2 := o4
    rw [h] at h2
    exact (Option.some.inj h2).symm
  have hst2 : (st.map (gx_cv S.2.2.1)) = (As.map (gx_cv S.2.2.1)).reverse ++ .ref (S.2.2.1 b) :: rest.map (gx_cv S.2.2.1) := by rw [hst]; simp [gx_cv]
  have hrest : 2 * (F0 m pc LS (st.map (gx_cv S.2.2.1))).monitorRoom + ((rest.map (gx_cv S.2.2.1)).map fun v => v.category).sum ≤ 8 := by
    rw [gx_cat1]
    show 2 * 0 + _ ≤ 8
    omega
  rcases hl with hl | hl
  · exact gx_after (va_runV (own := M.1.cls) (As := As.map (gx_cv S.2.2.1)) (rest := rest.map (gx_cv S.2.2.1)) (g := F0 m pc LS (st.map (gx_cv S.2.2.1))) ⟨hx, hb, hml, hown, hts⟩ (hM l S (by rw [he]; exact hsh)) ⟨⟨o5, o6, hr.1, hr.2, hws, List.mem_cons_self, hts _ (List.mem_cons_of_mem _ o1), hts _ (List.mem_cons_of_mem _ o2), o3, hlen, hts _ (List.mem_cons_of_mem _ hl)⟩, hts _ (List.mem_cons_of_mem _ hv.1), hts _ (List.mem_cons_of_mem _ hv.2)⟩ hp rfl (by rw [List.length_map]; exact hn) hlv.1 hst2 hrest hd ⟨Nat.zero_le _, Nat.zero_le _⟩) hS (fun H1 locs1 hP1 hS1 => kk H1 locs1 LS hP1 hS1 hlv)
  · exact gx_after (va_runVN (own := M.1.cls) (host := "EachBearsPillar") (As := As.map (gx_cv S.2.2.1)) (rest := rest.map (gx_cv S.2.2.1)) (g := F0 m pc LS (st.map (gx_cv S.2.2.1))) ⟨hx, hb, hml, hown, hts⟩ (hM l S (by rw [he]; exact hsh)) ⟨⟨⟨o5, o6, hr.1, hr.2, hws, List.mem_cons_self⟩, hts _ (List.mem_cons_of_mem _ o1), hts _ (List.mem_cons_of_mem _ o2), o3, hlen, va_Nw.use rfl (hNW _ hl)⟩, hts _ (List.mem_cons_of_mem _ hv.1), hts _ (List.mem_cons_of_mem _ hv.2)⟩ hp rfl (by rw [List.length_map]; exact hn) hlv.1 hst2 hrest hd ⟨Nat.zero_le _, Nat.zero_le _⟩) hS (fun H1 locs1 hP1 hS1 => kk H1 locs1 LS hP1 hS1 hlv)
theorem gx_callS (hX : gx_Ok X M) {M' : gx_Mi} {ix n : Nat} {As rest : List gx_V} {res : Option gx_V} {w' : gx_Wd} (hd : decode M.2.1 pc = .ok (.invokestatic ix, 3)) (hl : gx_ln M.1.cls ix M') (ho : gx_mo M' n) (hv : gx_ms M') (hr : gx_rm M' M) (he : M'.2.2.2.2.2 = M.2.2.2.2.2) (hM : gx_MT M' As w res w') (hn : As.length = n) (hst : st = As.reverse ++ rest) (hrl : rest.length ≤ 8) (kk : gx_G X M (pc + 3) ls (res.toList ++ rest) w') : gx_G X M pc ls st w := by
  obtain ⟨p, l, e, s, m, args, below, meth, c, S, res, w1⟩ := X
  obtain ⟨hx, hb, hml, hts, hown, hrt, hlk, hK, hDD, hNW, hSX, hsh⟩ := hX
  intro H locs LS hP hS hlv
  obtain ⟨o1, o2, o3, o4, o5, o6⟩ := ho
  have hp : PreS s H (va_Pc (As.map (gx_cv S.2.2.1)) (gx_PX S w)) (As.map (gx_cv S.2.2.1)) := by
    refine ⟨gx_fb, fun U hU hW => ⟨rfl, ?_⟩⟩
    exact ⟨by rw [hU]; exact hP, va_K.moved hW.alike hK, hDD, hNW.warm hW, by rw [hU]; exact hSX.to hW hS.2.1⟩
  have hws : ∀ w ∈ (Cond.code M'.1 M'.2.1 M'.2.2.1 M'.2.2.2.1 :: gx_big), ∀ (a' : Array Value) (U : State), s.WarmedH U.vm → w.before a' U = true := pay_in hts (gx_good o1)
  have hlen : ∀ sig, parseMethodDescriptor M'.1.desc = some sig → n = sig.parameters.length := fun sig h => by
    have h2 := o4
    rw [h] at h2
    exact (Option.some.inj h2).symm
  have hst2 : (st.map (gx_cv S.2.2.1)) = (As.map (gx_cv S.2.2.1)).reverse ++ rest.map (gx_cv S.2.2.1) := by rw [hst]; simp
  have hrest : 2 * (F0 m pc LS (st.map (gx_cv S.2.2.1))).monitorRoom + ((rest.map (gx_cv S.2.2.1)).map fun v => v.category).sum ≤ 8 := by
    rw [gx_cat1]
    show 2 * 0 + _ ≤ 8
    omega
  rcases hl with hl | hl
  · exact gx_after (va_runS (own := M.1.cls) (As := As.map (gx_cv S.2.2.1)) (rest := rest.map (gx_cv S.2.2.1)) (g := F0 m pc LS (st.map (gx_cv S.2.2.1))) ⟨hx, hb, hml, hown, hts⟩ (hM l S (by rw [he]; exact hsh)) ⟨⟨o5, o6, hr.1, hr.2, hws, List.mem_cons_self, hts _ (List.mem_cons_of_mem _ o1), hts _ (List.mem_cons_of_mem _ o2), o3, hlen, hts _ (List.mem_cons_of_mem _ hl)⟩, hts _ (List.mem_cons_of_mem _ hv)⟩ hp rfl (by rw [List.length_map]; exact hn) hlv.1 hst2 hrest hd ⟨Nat.zero_le _, Nat.zero_le _⟩) hS (fun H1 locs1 hP1 hS1 => kk H1 locs1 LS hP1 hS1 hlv)
  · exact gx_after (va_runSN (own := M.1.cls) (host := "EachBearsPillar") (As := As.map (gx_cv S.2.2.1)) (rest := rest.map (gx_cv S.2.2.1)) (g := F0 m pc LS (st.map (gx_cv S.2.2.1))) ⟨hx, hb, hml, hown, hts⟩ (hM l S (by rw [he]; exact hsh)) ⟨⟨⟨o5, o6, hr.1, hr.2, hws, List.mem_cons_self⟩, hts _ (List.mem_cons_of_mem _ o1), hts _ (List.mem_cons_of_mem _ o2), o3, hlen, va_Nw.use rfl (hNW _ hl)⟩, hts _ (List.mem_cons_of_mem _ hv), trivial⟩ hp rfl (by rw [List.length_map]; exact hn) hlv.1 hst2 hrest hd ⟨Nat.zero_le _, Nat.zero_le _⟩) hS (fun H1 locs1 hP1 hS1 => kk H1 locs1 LS hP1 hS1 hlv)
/-- Math.min of two ints -/
theorem gx_min (hX : gx_Ok X M) {ix : Nat} {x y : Int32} (hd : decode M.2.1 pc = .ok (.invokestatic ix, 3)) (h1 : Cond.methodLink M.1.cls ix Lib.Math.min.name ∈ gx_big) (h2 : Cond.static Lib.Math.min.name ∈ gx_big) (h3 : Cond.initialized "java/lang/Math" ∈ gx_big) (h4 : Cond.code Lib.Math.min.name Lib.Math.min.code 2 (some .int) ∈ gx_big) (hf : 1 ≤ M.2.2.2.2.1.frames) (hlo : st.length + 13 ≤ M.2.2.2.2.1.locals) (k : gx_G X M (pc + 3) ls (.inl (if y < x then y else x) :: st) w) : gx_G X M pc ls (.inl y :: .inl x :: st) w := by
  obtain ⟨p, l, e, s, m, args, below, meth, c, S, res, w1⟩ := X
  obtain ⟨hx, hb, hml, hts, hown, hrt, hlk, hK, hDD, hNW, hSX, hsh⟩ := hX
  intro H locs LS hP hS hl
  have q := fun u (h : u ∈ gx_big) => hts u (List.mem_cons_of_mem _ h)
  exact va_mmin hx hb (by rw [hml]; exact hl.1.symm) hown (q _ h1) (q _ h2) (q _ h3) (q _ h4) hf (by rw [gx_cat1]; exact hlo) (Nat.zero_le _) (Nat.zero_le _) hd (k H locs LS hP hS hl)
theorem gx_max (hX : gx_Ok X M) {ix : Nat} {x y : Int32} (hd : decode M.2.1 pc = .ok (.invokestatic ix, 3)) (h1 : Cond.methodLink M.1.cls ix Lib.Math.max.name ∈ gx_big) (h2 : Cond.static Lib.Math.max.name ∈ gx_big) (h3 : Cond.initialized "java/lang/Math" ∈ gx_big) (h4 : Cond.code Lib.Math.max.name Lib.Math.max.code 2 (some .int) ∈ gx_big) (hf : 1 ≤ M.2.2.2.2.1.frames) (hlo : st.length + 13 ≤ M.2.2.2.2.1.locals) (k : gx_G X M (pc + 3) ls (.inl (if x < y then y else x) :: st) w) : gx_G X M pc ls (.inl y :: .inl x :: st) w := by
  obtain ⟨p, l, e, s, m, args, below, meth, c, S, res, w1⟩ := X
  obtain ⟨hx, hb, hml, hts, hown, hrt, hlk, hK, hDD, hNW, hSX, hsh⟩ := hX
  intro H locs LS hP hS hl
  have q := fun u (h : u ∈ gx_big) => hts u (List.mem_cons_of_mem _ h)
  exact va_mmax hx hb (by rw [hml]; exact hl.1.symm) hown (q _ h1) (q _ h2) (q _ h3) (q _ h4) hf (by rw [gx_cat1]; exact hlo) (Nat.zero_le _) (Nat.zero_le _) hd (k H locs LS hP hS hl)
theorem gx_iret (hX : gx_Ok X M) {v : Int32} (hd : decode M.2.1 pc = .ok (.ireturn, 1)) (hr : M.2.2.2.1 = some .int) (h1 : gx_res X = some (.inl v)) (h2 : gx_wr X = w) : gx_G X M pc ls [.inl v] w := by
  obtain ⟨p, l, e, s, m, args, below, meth, c, S, res, w1⟩ := X
  obtain ⟨hx, hb, hml, hts, hown, hrt, hlk, hK, hDD, hNW, hSX, hsh⟩ := hX
  intro H locs LS hP hS hl
  have e1 : res = some (.inl v) := h1
  have e2 : w1 = w := h2
  subst e1 e2
  exact W.iret hx hb (by rw [hrt]; exact hr) (fun t ht hW => ⟨⟨rfl, by rw [ht]; exact hP⟩, hS.F ht⟩) hS.2.2 hd hlk
theorem gx_zret (hX : gx_Ok X M) {v : Int32} {ty : FieldType} (hd : decode M.2.1 pc = .ok (.ireturn, 1)) (hr : M.2.2.2.1 = some ty) (hn : narrow ty (.int v) = .int v) (h1 : gx_res X = some (.inl v)) (h2 : gx_wr X = w) : gx_G X M pc ls [.inl v] w := by
  obtain ⟨p, l, e, s, m, args, below, meth, c, S, res, w1⟩ := X
  obtain ⟨hx, hb, hml, hts, hown, hrt, hlk, hK, hDD, hNW, hSX, hsh⟩ := hX
  intro H locs LS hP hS hl
  have e1 : res = some (.inl v) := h1
  have e2 : w1 = w := h2
  subst e1 e2
  exact W.zret hx hb (by rw [hrt]; exact hr) hn (fun t ht hW => ⟨⟨rfl, by rw [ht]; exact hP⟩, hS.F ht⟩) hS.2.2 hd hlk
theorem gx_vret (hX : gx_Ok X M) (hd : decode M.2.1 pc = .ok (.return_, 1)) (hr : M.2.2.2.1 = none) (h1 : gx_res X = none) (h2 : gx_wr X = w) : gx_G X M pc ls [] w := by
  obtain ⟨p, l, e, s, m, args, below, meth, c, S, res, w1⟩ := X
  obtain ⟨hx, hb, hml, hts, hown, hrt, hlk, hK, hDD, hNW, hSX, hsh⟩ := hX
  intro H locs LS hP hS hl
  have e1 : res = none := h1
  have e2 : w1 = w := h2
  subst e1 e2
  exact W.vret hx hb (by rw [hrt]; exact hr) (fun t ht hW => ⟨⟨rfl, by rw [ht]; exact hP⟩, hS.F ht⟩) hS.2.2 hd hlk
theorem gx_aret (hX : gx_Ok X M) {o : Nat} {ty : FieldType} (hd : decode M.2.1 pc = .ok (.areturn, 1)) (hr : M.2.2.2.1 = some ty) (hty : ∃ C, ty = .object C) (h1 : gx_res X = some (.inr o)) (h2 : gx_wr X = w) : gx_G X M pc ls [.inr o] w := by
  obtain ⟨p, l, e, s, m, args, below, meth, c, S, res, w1⟩ := X
  obtain ⟨hx, hb, hml, hts, hown, hrt, hlk, hK, hDD, hNW, hSX, hsh⟩ := hX
  intro H locs LS hP hS hl
  have e1 : res = some (.inr o) := h1
  have e2 : w1 = w := h2
  subst e1 e2
  obtain ⟨C, rfl⟩ := hty
  exact W.aret (v := .ref (S.2.2.1 o)) hx hb (by rw [hrt]; exact hr) (Or.inl ⟨C, rfl⟩) (Or.inr ⟨_, rfl⟩) (fun t ht hW => ⟨⟨rfl, by rw [ht]; exact hP⟩, hS.F ht⟩) hS.2.2 hd hlk
/-- a text constant of the class Text -/
theorem gx_ldcs (hX : gx_Ok X M) {ix i : Nat} {tx : String} (hC : M.1.cls = "EachBearsPillar$Text") (hi : i < 7) (hx2 : gx_tx.getD i (0, "", []) = (ix, tx, gx_txb.getD i [])) (hd : decode M.2.1 pc = .ok (.ldc ix, 2)) (k : gx_G X M (pc + 2) ls (.inr (1000 + i) :: st) w) : gx_G X M pc ls st w := by
  obtain ⟨p, l, e, s, m, args, below, meth, c, S, res, w1⟩ := X
  obtain ⟨hx, hb, hml, hts, hown, hrt, hlk, hK, hDD, hNW, hSX, hsh⟩ := hX
  intro H locs LS hP hS hl
  have h1 := hSX.2.1 i hi
  rw [hx2, ← hC] at h1
  exact va_ldcS hx hb hown h1 hd (k H locs LS hP hS hl)
/-- from the walk to the contract -/
theorem gx_met {args : List gx_V} {res : Option gx_V} {w' : gx_Wd} (hy : plainName M.1.cls = true) (hlen : args.length ≤ M.2.2.1) (h : ∀ X, gx_Ok X M → gx_res X = res → gx_wr X = w' → gx_G X M 0 (args.map some) [] w) : gx_MT M args w res w' := by
  intro l S hsh
  refine Met.ofW (cc := M.2.1) (maxL := M.2.2.1) (ret := M.2.2.2.1) hy rfl ?_
  intro p e s m args0 below meth c s₁ B hml hv
  obtain ⟨rfl, hP, hK, hDD, hNW, hSX⟩ := hv
  have hown : s.vm.findClass M.1.cls = some m.cls := findClass_of_methodNamed B.named
  have k := h (p, l, e, s, m, (args.map (gx_cv S.2.2.1)).toArray, below, meth, c, S, res, w') ⟨B.exec, B.bytes, hml, atoms_spec (ws := Cond.code M.1 M.2.1 M.2.2.1 M.2.2.2.1 :: gx_big) B.pre, hown, B.returns, B.notSynchronized, hK, hDD, hNW, hSX, hsh⟩ rfl rfl
  have hsl : ∀ vs : List gx_V, lg_sl (vs.map (gx_cv S.2.2.1)) = (vs.map (gx_cv S.2.2.1)).map Slot.val := by
    intro vs
    induction vs with
    | nil => rfl
    | cons v t ih =>
      have e : lg_sl ((v :: t).map (gx_cv S.2.2.1)) = (if (gx_cv S.2.2.1 v).category = 2 then [Slot.val (gx_cv S.2.2.1 v), Slot.second] else [Slot.val (gx_cv S.2.2.1 v)]) ++ lg_sl (t.map (gx_cv S.2.2.1)) := rfl
      rw [e, gx_cat, ih]
      rfl
  have hl := lv_entry (args.map (gx_cv S.2.2.1)) (n := M.2.2.1) (by rw [hsl]; simpa using hlen)
  rw [lg_entry_eq]
  refine k s.heap [] _ hP va_S.rf (gx_lmono hl fun i v hi => ?_)
  have key : ∀ (vs : List gx_V) (j i : Nat) (v : gx_V), gx_n (vs.map some) i = some v → (j + i, gx_cv S.2.2.1 v) ∈ lv_args j (vs.map (gx_cv S.2.2.1)) := by
    intro vs
    induction vs with
    | nil => intro j i v h; simp [gx_n] at h
    | cons a t ih =>
      intro j i v h
      have hc : (gx_cv S.2.2.1 a).category = 1 := gx_cat _ a
      cases i with
      | zero => simp [gx_n] at h; subst h; simp [lv_args]
      | succ i =>
        have := ih (j + 1) i v h
        simp only [List.map_cons, lv_args, hc]
        refine List.mem_cons_of_mem _ ?_
        rw [show j + (i + 1) = j + 1 + i by omega]
        simpa using this
  have := key args 0 i v hi
  rwa [Nat.zero_add] at this
end
section
/-! ===== small words of the walks ===== -/
theorem gx_dt {cc : ByteArray} {L : List (Nat × Instr × Nat)} (h : ∀ q ∈ L, decode cc q.1 = .ok (q.2.1, q.2.2)) (i : Nat) {pc : Nat} {ins : Instr} {n : Nat} (hi : L[i]? = some (pc, ins, n)) : decode cc pc = .ok (ins, n) := h (pc, ins, n) (List.mem_of_getElem? hi)
theorem gx_bd {α β : Type} {a : Option α} {f : α → Option β} {r : β} (h : a.bind f = some r) : ∃ v, a = some v ∧ f v = some r := Option.bind_eq_some_iff.mp h
theorem gx_ifp {α : Type} {c : Prop} [Decidable c] {a b r : α} (hc : c) (h : (if c then a else b) = r) : a = r := by rw [if_pos hc] at h; exact h
theorem gx_ifn {α : Type} {c : Prop} [Decidable c] {a b r : α} (hc : ¬ c) (h : (if c then a else b) = r) : b = r := by rw [if_neg hc] at h; exact h
theorem gx_nz {α : Type} {c : Prop} [Decidable c] {b : Option α} {r : α} (h : (if c then none else b) = some r) : ¬ c ∧ b = some r := by
  by_cases hc : c
  · rw [if_pos hc] at h; cases h
  · rw [if_neg hc] at h; exact ⟨hc, h⟩
theorem gx_01 {α : Type} {c : Prop} [Decidable c] {b : Option α} {r : α} (h : (if c then b else none) = some r) : c ∧ b = some r := by
  by_cases hc : c
  · rw [if_pos hc] at h; exact ⟨hc, h⟩
  · rw [if_neg hc] at h; cases h
theorem gx_nar {v : Int32} (h : v = 0 ∨ v = 1) : narrow .boolean (.int v) = .int v := by rcases h with rfl | rfl <;> rfl
theorem gx_ii {x n v : Int32} {k : Int} (e : some (x + n) = some v) (h : Int32.ofInt k = n) : x + Int32.ofInt k = v := by rw [h]; exact Option.some.inj e
theorem gx_le0 {α : Type} {u : List (Option α)} : gx_le [] u := trivial
theorem gx_leS {α : Type} {v : α} {t u : List (Option α)} (h : gx_le t u) : gx_le (some v :: t) (some v :: u) := ⟨rfl, h⟩
theorem gx_leN {α : Type} {a : Option α} {t u : List (Option α)} (h : gx_le t u) : gx_le (none :: t) (a :: u) := h
def gx_put (w : gx_Wd) (o k : Nat) (x : Int32) : Option gx_Wd := some (gx_w w o k x)
def gx_td (dflt z : Int) : Int → List Int → Prop
  | _, [] => True
  | j, o :: t => (o = dflt ∨ ¬ z = j) ∧ gx_td dflt z (j + 1) t
theorem gx_td0 {dflt z j : Int} : gx_td dflt z j [] := trivial
theorem gx_tdC {dflt z j o : Int} {t : List Int} (h1 : o = dflt ∨ ¬ z = j) (h2 : gx_td dflt z (j + 1) t) : gx_td dflt z j (o :: t) := ⟨h1, h2⟩
theorem gx_td_at {dflt z : Int} : ∀ (l : List Int) (j : Int) (i : Nat) (o : Int), gx_td dflt z j l → l[i]? = some o → o = dflt ∨ ¬ z = j + i := by
  intro l
  induction l with
  | nil => intro j i o _ h; simp at h
  | cons a t ih =>
    intro j i o h hi
    cases i with
    | zero => simp at hi; subst hi; simpa using h.1
    | succ i =>
      have := ih (j + 1) i o h.2 (by simpa using hi)
      rcases this with q | q
      · exact Or.inl q
      · exact Or.inr (by omega)
section
variable {X : gx_X} {M : gx_Mi} {pc : Nat} {ls ls' : List (Option gx_V)} {st : List gx_V} {w : gx_Wd}
theorem gx_top {x y : Int32} (e : some x = some y) (k : gx_G X M pc ls (.inl y :: st) w) : gx_G X M pc ls (.inl x :: st) w := by
  rw [Option.some.inj e]; exact k
theorem gx_putp (hX : gx_Ok X M) {ix ci k o : Nat} {fs : List (Option Nat)} {v : Int32} {w' : gx_Wd} (hf : gx_fl M.1.cls ix ci k) (hp : gx_pf ci k v) (hs : M.2.2.2.2.2[o]? = some (.inr (ci, fs))) (hv : fs[k]? = some none) (e : gx_put w o k v = some w') (hd : decode M.2.1 pc = .ok (.putfield ix, 3)) (kk : gx_G X M (pc + 3) ls st w') : gx_G X M pc ls (.inl v :: .inr o :: st) w := by
  have e1 := Option.some.inj e
  subst e1
  exact gx_putf hX hf hp hs hv hd kk
theorem gx_tabD (hX : gx_Ok X M) {dflt lo hi : Int} {offs : Array Int} {len : Nat} {x : Int32} {tgt : Nat} (hd : decode M.2.1 pc = .ok (.tableswitch dflt lo hi offs, len)) (h : gx_td dflt x.toInt lo offs.toList) (hlen : lo + offs.toList.length = hi + 1) (ht : (pc : Int) + dflt = (tgt : Int)) (k : gx_G X M tgt ls st w) : gx_G X M pc ls (.inl x :: st) w := by
  by_cases h1 : x.toInt < lo
  · exact gx_tabOut hX hd (Or.inl h1) ht k
  · by_cases h2 : hi < x.toInt
    · exact gx_tabOut hX hd (Or.inr h2) ht k
    · have hlt : (x.toInt - lo).toNat < offs.toList.length := by omega
      have hg : offs.toList[(x.toInt - lo).toNat]? = some (offs.toList[(x.toInt - lo).toNat]) := List.getElem?_eq_getElem hlt
      rcases gx_td_at _ _ _ _ h hg with q | q
      · refine gx_tabIn hX hd h1 h2 (off := dflt) ?_ ht k
        rw [← Array.getElem?_toList, hg, q]
      · exact absurd (by omega) q
theorem gx_rmb {M' M : gx_Mi} (h : (Nat.ble (M'.2.2.2.2.1.frames + 1) M.2.2.2.2.1.frames && Nat.ble (8 + (M'.2.2.1 + 11) + M'.2.2.2.2.1.locals) M.2.2.2.2.1.locals) = true) : gx_rm M' M := by
  rw [Bool.and_eq_true] at h
  exact ⟨Nat.le_of_ble_eq_true h.1, Nat.le_of_ble_eq_true h.2⟩
theorem gx_callVi (hX : gx_Ok X M) {M' : gx_Mi} {ix b ci n : Nat} {As rest : List gx_V} {fs : List (Option Nat)} {v : Int32} {w' : gx_Wd} (hd : decode M.2.1 pc = .ok (.invokevirtual ix, 3)) (hl : gx_ln M.1.cls ix M') (ho : gx_mo M' n) (hv : gx_mv M') (hr : gx_rm M' M) (hs : M.2.2.2.2.2[b]? = some (.inr (ci, fs))) (hc : ∃ T N, gx_cl[ci]? = some (M'.1.cls, T, N)) (he : M'.2.2.2.2.2 = M.2.2.2.2.2) (hM : gx_MT M' (.inr b :: As) w (some (.inl v)) w') (hn : As.length = n) (hst : st = As.reverse ++ .inr b :: rest) (hrl : rest.length ≤ 8) (kk : gx_G X M (pc + 3) ls (.inl v :: rest) w') : gx_G X M pc ls st w := gx_callV hX hd hl ho hv hr hs hc he hM hn hst hrl kk
theorem gx_callSi (hX : gx_Ok X M) {M' : gx_Mi} {ix n : Nat} {As rest : List gx_V} {v : Int32} {w' : gx_Wd} (hd : decode M.2.1 pc = .ok (.invokestatic ix, 3)) (hl : gx_ln M.1.cls ix M') (ho : gx_mo M' n) (hv : gx_ms M') (hr : gx_rm M' M) (he : M'.2.2.2.2.2 = M.2.2.2.2.2) (hM : gx_MT M' As w (some (.inl v)) w') (hn : As.length = n) (hst : st = As.reverse ++ rest) (hrl : rest.length ≤ 8) (kk : gx_G X M (pc + 3) ls (.inl v :: rest) w') : gx_G X M pc ls st w := gx_callS hX hd hl ho hv hr he hM hn hst hrl kk
theorem gx_callVv (hX : gx_Ok X M) {M' : gx_Mi} {ix b ci n : Nat} {As rest : List gx_V} {fs : List (Option Nat)} {w' : gx_Wd} (hd : decode M.2.1 pc = .ok (.invokevirtual ix, 3)) (hl : gx_ln M.1.cls ix M') (ho : gx_mo M' n) (hv : gx_mv M') (hr : gx_rm M' M) (hs : M.2.2.2.2.2[b]? = some (.inr (ci, fs))) (hc : ∃ T N, gx_cl[ci]? = some (M'.1.cls, T, N)) (he : M'.2.2.2.2.2 = M.2.2.2.2.2) (hM : gx_MT M' (.inr b :: As) w none w') (hn : As.length = n) (hst : st = As.reverse ++ .inr b :: rest) (hrl : rest.length ≤ 8) (kk : gx_G X M (pc + 3) ls (rest) w') : gx_G X M pc ls st w := gx_callV hX hd hl ho hv hr hs hc he hM hn hst hrl kk
theorem gx_callSv (hX : gx_Ok X M) {M' : gx_Mi} {ix n : Nat} {As rest : List gx_V} {w' : gx_Wd} (hd : decode M.2.1 pc = .ok (.invokestatic ix, 3)) (hl : gx_ln M.1.cls ix M') (ho : gx_mo M' n) (hv : gx_ms M') (hr : gx_rm M' M) (he : M'.2.2.2.2.2 = M.2.2.2.2.2) (hM : gx_MT M' As w none w') (hn : As.length = n) (hst : st = As.reverse ++ rest) (hrl : rest.length ≤ 8) (kk : gx_G X M (pc + 3) ls (rest) w') : gx_G X M pc ls st w := gx_callS hX hd hl ho hv hr he hM hn hst hrl kk
theorem gx_callVr (hX : gx_Ok X M) {M' : gx_Mi} {ix b ci n : Nat} {As rest : List gx_V} {fs : List (Option Nat)} {v : Nat} {w' : gx_Wd} (hd : decode M.2.1 pc = .ok (.invokevirtual ix, 3)) (hl : gx_ln M.1.cls ix M') (ho : gx_mo M' n) (hv : gx_mv M') (hr : gx_rm M' M) (hs : M.2.2.2.2.2[b]? = some (.inr (ci, fs))) (hc : ∃ T N, gx_cl[ci]? = some (M'.1.cls, T, N)) (he : M'.2.2.2.2.2 = M.2.2.2.2.2) (hM : gx_MT M' (.inr b :: As) w (some (.inr v)) w') (hn : As.length = n) (hst : st = As.reverse ++ .inr b :: rest) (hrl : rest.length ≤ 8) (kk : gx_G X M (pc + 3) ls (.inr v :: rest) w') : gx_G X M pc ls st w := gx_callV hX hd hl ho hv hr hs hc he hM hn hst hrl kk
theorem gx_callSr (hX : gx_Ok X M) {M' : gx_Mi} {ix n : Nat} {As rest : List gx_V} {v : Nat} {w' : gx_Wd} (hd : decode M.2.1 pc = .ok (.invokestatic ix, 3)) (hl : gx_ln M.1.cls ix M') (ho : gx_mo M' n) (hv : gx_ms M') (hr : gx_rm M' M) (he : M'.2.2.2.2.2 = M.2.2.2.2.2) (hM : gx_MT M' As w (some (.inr v)) w') (hn : As.length = n) (hst : st = As.reverse ++ rest) (hrl : rest.length ≤ 8) (kk : gx_G X M (pc + 3) ls (.inr v :: rest) w') : gx_G X M pc ls st w := gx_callS hX hd hl ho hv hr he hM hn hst hrl kk
end
end
section
/-! ===== the x side: shapes, books of the methods, what the tables say ===== -/
def sh_x : List gx_Sh := [.inr (0, [some 1, some 8, some 15, none, some 22, some 29, some 32, some 35, some 38, none, some 39]), .inr (1, [none, none, none, some 2, some 3, some 4, some 5, some 6, some 7]), .inl 7, .inl 7, .inl 7, .inl 7, .inl 6, .inl 16, .inr (1, [none, none, none, some 9, some 10, some 11, some 12, some 13, some 14]), .inl 7, .inl 7, .inl 7, .inl 7, .inl 6, .inl 16, .inr (1, [none, none, none, some 16, some 17, some 18, some 19, some 20, some 21]), .inl 7, .inl 7, .inl 7, .inl 7, .inl 6, .inl 16, .inr (2, [some 1, none, none, none, some 23, some 24, some 25, some 26, some 27, some 28]), .inl 7, .inl 7, .inl 6, .inl 7, .inl 7, .inl 7, .inr (3, [some 30, none, none, none, some 31, none]), .inl 96, .inl 3, .inr (4, [some 22, some 33, some 34, none]), .inl 448, .inl 448, .inr (5, [some 22, some 36, some 37]), .inl 49, .inl 1792, .inl 7, .inl 7]
theorem sh_x_0 : sh_x[0]? = some (.inr (0, [some 1, some 8, some 15, none, some 22, some 29, some 32, some 35, some 38, none, some 39])) := rfl
theorem sh_x_1 : sh_x[1]? = some (.inr (1, [none, none, none, some 2, some 3, some 4, some 5, some 6, some 7])) := rfl
theorem sh_x_8 : sh_x[8]? = some (.inr (1, [none, none, none, some 9, some 10, some 11, some 12, some 13, some 14])) := rfl
theorem sh_x_15 : sh_x[15]? = some (.inr (1, [none, none, none, some 16, some 17, some 18, some 19, some 20, some 21])) := rfl
theorem sh_x_22 : sh_x[22]? = some (.inr (2, [some 1, none, none, none, some 23, some 24, some 25, some 26, some 27, some 28])) := rfl
theorem sh_x_29 : sh_x[29]? = some (.inr (3, [some 30, none, none, none, some 31, none])) := rfl
theorem sh_x_32 : sh_x[32]? = some (.inr (4, [some 22, some 33, some 34, none])) := rfl
theorem sh_x_35 : sh_x[35]? = some (.inr (5, [some 22, some 36, some 37])) := rfl
def mi_x_E_cell : gx_Mi := (⟨"EachBearsPillar", "cell", "([II)I"⟩, prog_1_method_36_code, 2, (some .int), { frames := 0, cells := 0, slots := 0, locals := 0 }, sh_x)
def mi_x_E_setCell : gx_Mi := (⟨"EachBearsPillar", "setCell", "([III)Z"⟩, prog_1_method_37_code, 3, (some .boolean), { frames := 0, cells := 0, slots := 0, locals := 0 }, sh_x)
def mi_x_E_refuse : gx_Mi := (⟨"EachBearsPillar", "refuse", "(I)I"⟩, prog_1_method_29_code, 2, (some .int), { frames := 1, cells := 0, slots := 0, locals := 22 }, sh_x)
def mi_x_T_append : gx_Mi := (⟨"EachBearsPillar$Text", "append", "(I)I"⟩, prog_5_method_2_code, 2, (some .int), { frames := 1, cells := 0, slots := 0, locals := 22 }, sh_x)
def mi_x_E_letter : gx_Mi := (⟨"EachBearsPillar", "letter", "(I)I"⟩, prog_1_method_2_code, 2, (some .int), { frames := 2, cells := 0, slots := 0, locals := 43 }, sh_x)
def mi_x_T_rewind : gx_Mi := (⟨"EachBearsPillar$Text", "rewind", "()V"⟩, prog_5_method_3_code, 1, none, { frames := 0, cells := 0, slots := 0, locals := 0 }, sh_x)
def mi_x_T_here : gx_Mi := (⟨"EachBearsPillar$Text", "here", "()I"⟩, prog_5_method_11_code, 1, (some .int), { frames := 1, cells := 0, slots := 0, locals := 21 }, sh_x)
def mi_x_T_formOf : gx_Mi := (⟨"EachBearsPillar$Text", "formOf", "(I)Ljava/lang/String;"⟩, prog_5_method_6_code, 1, (some (.object "java/lang/String")), { frames := 0, cells := 0, slots := 0, locals := 0 }, sh_x)
def mi_x_S_isEmpty : gx_Mi := (⟨"java/lang/String", "isEmpty", "()Z"⟩, prog_11_method_55_code, 1, (some .boolean), { frames := 4, cells := 0, slots := 0, locals := 120 }, sh_x)
def mi_x_S_length : gx_Mi := (⟨"java/lang/String", "length", "()I"⟩, prog_11_method_54_code, 1, (some .int), { frames := 4, cells := 0, slots := 0, locals := 120 }, sh_x)
def mi_x_S_charAt : gx_Mi := (⟨"java/lang/String", "charAt", "(I)C"⟩, prog_11_method_56_code, 2, (some .char), { frames := 4, cells := 0, slots := 0, locals := 120 }, sh_x)
def mi_x_T_keepNumber : gx_Mi := (⟨"EachBearsPillar$Text", "keepNumber", "(I)V"⟩, prog_5_method_10_code, 2, none, { frames := 1, cells := 0, slots := 0, locals := 22 }, sh_x)
def mi_x_T_readNumber : gx_Mi := (⟨"EachBearsPillar$Text", "readNumber", "(I)Z"⟩, prog_5_method_9_code, 4, (some .boolean), { frames := 2, cells := 0, slots := 0, locals := 43 }, sh_x)
def mi_x_T_readKind : gx_Mi := (⟨"EachBearsPillar$Text", "readKind", "()Z"⟩, prog_5_method_8_code, 3, (some .boolean), { frames := 5, cells := 0, slots := 0, locals := 141 }, sh_x)
def mi_x_T_readPart : gx_Mi := (⟨"EachBearsPillar$Text", "readPart", "(C)Z"⟩, prog_5_method_7_code, 2, (some .boolean), { frames := 6, cells := 0, slots := 0, locals := 163 }, sh_x)
def mi_x_T_readStatement : gx_Mi := (⟨"EachBearsPillar$Text", "readStatement", "()Z"⟩, prog_5_method_5_code, 3, (some .boolean), { frames := 7, cells := 0, slots := 0, locals := 184 }, sh_x)
def mi_x_T_faultOfForm : gx_Mi := (⟨"EachBearsPillar$Text", "faultOfForm", "()I"⟩, prog_5_method_4_code, 2, (some .int), { frames := 8, cells := 0, slots := 0, locals := 206 }, sh_x)
def mi_x_E_copyCells : gx_Mi := (⟨"EachBearsPillar", "copyCells", "([I[I)V"⟩, prog_1_method_39_code, 3, none, { frames := 0, cells := 0, slots := 0, locals := 0 }, sh_x)
def mi_x_R_become_8_1 : gx_Mi := (⟨"EachBearsPillar$Roof", "become", "(LEachBearsPillar$Roof;)V"⟩, prog_4_method_2_code, 2, none, { frames := 1, cells := 0, slots := 0, locals := 22 }, sh_x)
def mi_x_R_become_1_8 : gx_Mi := (⟨"EachBearsPillar$Roof", "become", "(LEachBearsPillar$Roof;)V"⟩, prog_4_method_2_code, 2, none, { frames := 1, cells := 0, slots := 0, locals := 22 }, sh_x)
def mi_x_R_addBearer_8 : gx_Mi := (⟨"EachBearsPillar$Roof", "addBearer", "(III)Z"⟩, prog_4_method_5_code, 4, (some .boolean), { frames := 1, cells := 0, slots := 0, locals := 22 }, sh_x)
def mi_x_R_hasBearer_8 : gx_Mi := (⟨"EachBearsPillar$Roof", "hasBearer", "(I)Z"⟩, prog_4_method_3_code, 2, (some .boolean), { frames := 0, cells := 0, slots := 0, locals := 0 }, sh_x)
def mi_x_E_isSpan : gx_Mi := (⟨"EachBearsPillar", "isSpan", "(I)Z"⟩, prog_1_method_30_code, 1, (some .boolean), { frames := 0, cells := 0, slots := 0, locals := 0 }, sh_x)
def mi_x_E_enterStatement : gx_Mi := (⟨"EachBearsPillar", "enterStatement", "()Z"⟩, prog_1_method_32_code, 3, (some .boolean), { frames := 2, cells := 0, slots := 0, locals := 45 }, sh_x)
def mi_x_E_enterStatements : gx_Mi := (⟨"EachBearsPillar", "enterStatements", "()I"⟩, prog_1_method_31_code, 4, (some .int), { frames := 8, cells := 0, slots := 0, locals := 206 }, sh_x)
def mi_x_E_roof : gx_Mi := (⟨"EachBearsPillar", "roof", "()I"⟩, prog_1_method_3_code, 2, (some .int), { frames := 9, cells := 0, slots := 0, locals := 229 }, sh_x)
def mi_x_E_exchange : gx_Mi := (⟨"EachBearsPillar", "exchange", "([III)I"⟩, prog_1_method_38_code, 4, (some .int), { frames := 1, cells := 0, slots := 0, locals := 22 }, sh_x)
def mi_x_E_span : gx_Mi := (⟨"EachBearsPillar", "span", "(II)I"⟩, prog_1_method_4_code, 3, (some .int), { frames := 2, cells := 0, slots := 0, locals := 45 }, sh_x)
def mi_x_E_ground : gx_Mi := (⟨"EachBearsPillar", "ground", "(II)I"⟩, prog_1_method_5_code, 3, (some .int), { frames := 2, cells := 0, slots := 0, locals := 45 }, sh_x)
def mi_x_E_level : gx_Mi := (⟨"EachBearsPillar", "level", "(I)I"⟩, prog_1_method_6_code, 3, (some .int), { frames := 2, cells := 0, slots := 0, locals := 43 }, sh_x)
def mi_x_R_hasBearer_1 : gx_Mi := (⟨"EachBearsPillar$Roof", "hasBearer", "(I)Z"⟩, prog_4_method_3_code, 2, (some .boolean), { frames := 0, cells := 0, slots := 0, locals := 0 }, sh_x)
def mi_x_E_block : gx_Mi := (⟨"EachBearsPillar", "block", "(II)I"⟩, prog_1_method_7_code, 3, (some .int), { frames := 2, cells := 0, slots := 0, locals := 45 }, sh_x)
def mi_x_R_lastAt_1 : gx_Mi := (⟨"EachBearsPillar$Roof", "lastAt", "()I"⟩, prog_4_method_4_code, 1, (some .int), { frames := 0, cells := 0, slots := 0, locals := 0 }, sh_x)
def mi_x_E_at : gx_Mi := (⟨"EachBearsPillar", "at", "(I)I"⟩, prog_1_method_8_code, 3, (some .int), { frames := 2, cells := 0, slots := 0, locals := 43 }, sh_x)
def mi_x_M_asTold : gx_Mi := (⟨"EachBearsPillar$Mind", "asTold", "()V"⟩, prog_2_method_2_code, 2, none, { frames := 1, cells := 0, slots := 0, locals := 22 }, sh_x)
def mi_x_M_topOf : gx_Mi := (⟨"EachBearsPillar$Mind", "topOf", "(II)I"⟩, prog_2_method_3_code, 3, (some .int), { frames := 1, cells := 0, slots := 0, locals := 21 }, sh_x)
def mi_x_M_canBear : gx_Mi := (⟨"EachBearsPillar$Mind", "canBear", "(II)Z"⟩, prog_2_method_4_code, 3, (some .boolean), { frames := 1, cells := 0, slots := 0, locals := 21 }, sh_x)
def mi_x_M_mightOf : gx_Mi := (⟨"EachBearsPillar$Mind", "mightOf", "(II)I"⟩, prog_2_method_5_code, 5, (some .int), { frames := 1, cells := 0, slots := 0, locals := 21 }, sh_x)
def mi_x_E_bearer : gx_Mi := (⟨"EachBearsPillar", "bearer", "(II)I"⟩, prog_1_method_9_code, 4, (some .int), { frames := 2, cells := 0, slots := 0, locals := 45 }, sh_x)
def mi_x_M_stand : gx_Mi := (⟨"EachBearsPillar$Mind", "stand", "()V"⟩, prog_2_method_6_code, 5, none, { frames := 2, cells := 0, slots := 0, locals := 45 }, sh_x)
def mi_x_M_shareOf : gx_Mi := (⟨"EachBearsPillar$Mind", "shareOf", "(II)I"⟩, prog_2_method_9_code, 4, (some .int), { frames := 1, cells := 0, slots := 0, locals := 21 }, sh_x)
def mi_x_M_weigh : gx_Mi := (⟨"EachBearsPillar$Mind", "weigh", "()V"⟩, prog_2_method_7_code, 2, none, { frames := 2, cells := 0, slots := 0, locals := 44 }, sh_x)
def mi_x_M_standAndWeigh : gx_Mi := (⟨"EachBearsPillar$Mind", "standAndWeigh", "()V"⟩, prog_2_method_8_code, 1, none, { frames := 3, cells := 0, slots := 0, locals := 69 }, sh_x)
def mi_x_E_load : gx_Mi := (⟨"EachBearsPillar", "load", "(I)I"⟩, prog_1_method_10_code, 2, (some .int), { frames := 4, cells := 0, slots := 0, locals := 89 }, sh_x)
def mi_x_M_firstOverloaded : gx_Mi := (⟨"EachBearsPillar$Mind", "firstOverloaded", "()I"⟩, prog_2_method_10_code, 2, (some .int), { frames := 1, cells := 0, slots := 0, locals := 21 }, sh_x)
def mi_x_M_firstFalling : gx_Mi := (⟨"EachBearsPillar$Mind", "firstFalling", "()I"⟩, prog_2_method_11_code, 2, (some .int), { frames := 1, cells := 0, slots := 0, locals := 21 }, sh_x)
def mi_x_M_isBorne : gx_Mi := (⟨"EachBearsPillar$Mind", "isBorne", "()Z"⟩, prog_2_method_12_code, 1, (some .boolean), { frames := 2, cells := 0, slots := 0, locals := 42 }, sh_x)
def mi_x_M_isFirm : gx_Mi := (⟨"EachBearsPillar$Mind", "isFirm", "()Z"⟩, prog_2_method_13_code, 1, (some .boolean), { frames := 3, cells := 0, slots := 0, locals := 69 }, sh_x)
def mi_x_E_holds : gx_Mi := (⟨"EachBearsPillar", "holds", "()I"⟩, prog_1_method_11_code, 1, (some .int), { frames := 4, cells := 0, slots := 0, locals := 89 }, sh_x)
def mi_x_E_sag : gx_Mi := (⟨"EachBearsPillar", "sag", "()I"⟩, prog_1_method_12_code, 3, (some .int), { frames := 4, cells := 0, slots := 0, locals := 89 }, sh_x)
def mi_x_E_sumOf : gx_Mi := (⟨"EachBearsPillar", "sumOf", "([II)I"⟩, prog_1_method_40_code, 4, (some .int), { frames := 1, cells := 0, slots := 0, locals := 21 }, sh_x)
def mi_x_E_count : gx_Mi := (⟨"EachBearsPillar", "count", "(I)I"⟩, prog_1_method_13_code, 2, (some .int), { frames := 4, cells := 0, slots := 0, locals := 89 }, sh_x)
def mi_x_E_levels : gx_Mi := (⟨"EachBearsPillar", "levels", "()I"⟩, prog_1_method_14_code, 3, (some .int), { frames := 4, cells := 0, slots := 0, locals := 89 }, sh_x)
def mi_x_E_raise : gx_Mi := (⟨"EachBearsPillar", "raise", "(I)I"⟩, prog_1_method_34_code, 3, (some .int), { frames := 2, cells := 0, slots := 0, locals := 43 }, sh_x)
def mi_x_E_raiseBoth : gx_Mi := (⟨"EachBearsPillar", "raiseBoth", "(II)I"⟩, prog_1_method_33_code, 5, (some .int), { frames := 4, cells := 0, slots := 0, locals := 89 }, sh_x)
def mi_x_E_blocks : gx_Mi := (⟨"EachBearsPillar", "blocks", "()I"⟩, prog_1_method_15_code, 5, (some .int), { frames := 5, cells := 0, slots := 0, locals := 113 }, sh_x)
def mi_x_E_swap : gx_Mi := (⟨"EachBearsPillar", "swap", "()I"⟩, prog_1_method_16_code, 3, (some .int), { frames := 4, cells := 0, slots := 0, locals := 89 }, sh_x)
def mi_x_O_spotOf : gx_Mi := (⟨"EachBearsPillar$Orders", "spotOf", "(III)I"⟩, prog_3_method_3_code, 3, (some .int), { frames := 0, cells := 0, slots := 0, locals := 0 }, sh_x)
def mi_x_I_bitCount : gx_Mi := (⟨"java/lang/Integer", "bitCount", "(I)I"⟩, prog_9_method_49_code, 1, (some .int), { frames := 0, cells := 0, slots := 0, locals := 0 }, sh_x)
def mi_x_O_mostOf : gx_Mi := (⟨"EachBearsPillar$Orders", "mostOf", "(II)I"⟩, prog_3_method_4_code, 3, (some .int), { frames := 1, cells := 0, slots := 0, locals := 21 }, sh_x)
def mi_x_O_bearsLeft : gx_Mi := (⟨"EachBearsPillar$Orders", "bearsLeft", "(IIII)Z"⟩, prog_3_method_7_code, 8, (some .boolean), { frames := 2, cells := 0, slots := 0, locals := 43 }, sh_x)
def mi_x_O_waysWith : gx_Mi := (⟨"EachBearsPillar$Orders", "waysWith", "(IIII)I"⟩, prog_3_method_6_code, 9, (some .int), { frames := 3, cells := 0, slots := 0, locals := 70 }, sh_x)
def mi_x_O_waysOn : gx_Mi := (⟨"EachBearsPillar$Orders", "waysOn", "(III)I"⟩, prog_3_method_5_code, 7, (some .int), { frames := 4, cells := 0, slots := 0, locals := 98 }, sh_x)
def mi_x_O_fill : gx_Mi := (⟨"EachBearsPillar$Orders", "fill", "()V"⟩, prog_3_method_2_code, 6, none, { frames := 5, cells := 0, slots := 0, locals := 124 }, sh_x)
def mi_x_O_leastNext : gx_Mi := (⟨"EachBearsPillar$Orders", "leastNext", "(III)I"⟩, prog_3_method_10_code, 6, (some .int), { frames := 4, cells := 0, slots := 0, locals := 98 }, sh_x)
def mi_x_O_firstUnder : gx_Mi := (⟨"EachBearsPillar$Orders", "firstUnder", "(I)I"⟩, prog_3_method_9_code, 7, (some .int), { frames := 5, cells := 0, slots := 0, locals := 123 }, sh_x)
def mi_x_O_total : gx_Mi := (⟨"EachBearsPillar$Orders", "total", "()I"⟩, prog_3_method_8_code, 3, (some .int), { frames := 1, cells := 0, slots := 0, locals := 22 }, sh_x)
def mi_x_E_orders : gx_Mi := (⟨"EachBearsPillar", "orders", "(I)I"⟩, prog_1_method_17_code, 2, (some .int), { frames := 6, cells := 0, slots := 0, locals := 149 }, sh_x)
def mi_x_E_needed : gx_Mi := (⟨"EachBearsPillar", "needed", "()I"⟩, prog_1_method_18_code, 3, (some .int), { frames := 4, cells := 0, slots := 0, locals := 89 }, sh_x)
def mi_x_E_more : gx_Mi := (⟨"EachBearsPillar", "more", "(I)I"⟩, prog_1_method_19_code, 4, (some .int), { frames := 4, cells := 0, slots := 0, locals := 89 }, sh_x)
def mi_x_E_seeds : gx_Mi := (⟨"EachBearsPillar", "seeds", "(II)I"⟩, prog_1_method_20_code, 7, (some .int), { frames := 3, cells := 0, slots := 0, locals := 69 }, sh_x)
def mi_x_E_row : gx_Mi := (⟨"EachBearsPillar", "row", "(I)I"⟩, prog_1_method_21_code, 2, (some .int), { frames := 2, cells := 0, slots := 0, locals := 43 }, sh_x)
def mi_x_E_firstUntrue : gx_Mi := (⟨"EachBearsPillar", "firstUntrue", "()I"⟩, prog_1_method_35_code, 2, (some .int), { frames := 4, cells := 0, slots := 0, locals := 89 }, sh_x)
def mi_x_E_slacked : gx_Mi := (⟨"EachBearsPillar", "slacked", "()I"⟩, prog_1_method_22_code, 3, (some .int), { frames := 5, cells := 0, slots := 0, locals := 110 }, sh_x)
def mi_x_E_judge : gx_Mi := (⟨"EachBearsPillar", "judge", "()I"⟩, prog_1_method_23_code, 3, (some .int), { frames := 5, cells := 0, slots := 0, locals := 110 }, sh_x)
def mi_x_W_visit : gx_Mi := (⟨"EachBearsPillar$Walk", "visit", "(III)V"⟩, prog_6_method_3_code, 5, none, { frames := 4, cells := 0, slots := 0, locals := 89 }, sh_x)
def mi_x_W_explore : gx_Mi := (⟨"EachBearsPillar$Walk", "explore", "()V"⟩, prog_6_method_2_code, 6, none, { frames := 5, cells := 0, slots := 0, locals := 113 }, sh_x)
def mi_x_W_minutesTo : gx_Mi := (⟨"EachBearsPillar$Walk", "minutesTo", "(II)I"⟩, prog_6_method_4_code, 3, (some .int), { frames := 1, cells := 0, slots := 0, locals := 21 }, sh_x)
def mi_x_W_fewestTo : gx_Mi := (⟨"EachBearsPillar$Walk", "fewestTo", "(I)I"⟩, prog_6_method_5_code, 5, (some .int), { frames := 2, cells := 0, slots := 0, locals := 43 }, sh_x)
def mi_x_E_way : gx_Mi := (⟨"EachBearsPillar", "way", "(I)I"⟩, prog_1_method_24_code, 2, (some .int), { frames := 6, cells := 0, slots := 0, locals := 138 }, sh_x)
def mi_x_W_reachedWithin : gx_Mi := (⟨"EachBearsPillar$Walk", "reachedWithin", "(I)I"⟩, prog_6_method_6_code, 5, (some .int), { frames := 3, cells := 0, slots := 0, locals := 67 }, sh_x)
def mi_x_E_reach : gx_Mi := (⟨"EachBearsPillar", "reach", "(I)I"⟩, prog_1_method_25_code, 2, (some .int), { frames := 6, cells := 0, slots := 0, locals := 138 }, sh_x)
def mi_x_W_lowestAt : gx_Mi := (⟨"EachBearsPillar$Walk", "lowestAt", "(II)I"⟩, prog_6_method_7_code, 5, (some .int), { frames := 2, cells := 0, slots := 0, locals := 43 }, sh_x)
def mi_x_E_lowest : gx_Mi := (⟨"EachBearsPillar", "lowest", "(II)I"⟩, prog_1_method_26_code, 3, (some .int), { frames := 6, cells := 0, slots := 0, locals := 138 }, sh_x)
def mi_x_R_become_15_1 : gx_Mi := (⟨"EachBearsPillar$Roof", "become", "(LEachBearsPillar$Roof;)V"⟩, prog_4_method_2_code, 2, none, { frames := 1, cells := 0, slots := 0, locals := 22 }, sh_x)
def mi_x_E_image : gx_Mi := (⟨"EachBearsPillar", "image", "()I"⟩, prog_1_method_27_code, 1, (some .int), { frames := 2, cells := 0, slots := 0, locals := 43 }, sh_x)
def mi_x_R_become_1_15 : gx_Mi := (⟨"EachBearsPillar$Roof", "become", "(LEachBearsPillar$Roof;)V"⟩, prog_4_method_2_code, 2, none, { frames := 1, cells := 0, slots := 0, locals := 22 }, sh_x)
def mi_x_E_on : gx_Mi := (⟨"EachBearsPillar", "on", "()I"⟩, prog_1_method_28_code, 1, (some .int), { frames := 2, cells := 0, slots := 0, locals := 43 }, sh_x)
def gq_x_n1_0 : List (Nat × Cond) := [(33, Cond.fieldLinkNest "EachBearsPillar$Mind" 44 "EachBearsPillar$Roof" "at" "I" "EachBearsPillar"), (37, Cond.fieldLinkNest "EachBearsPillar$Mind" 47 "EachBearsPillar$Roof" "level" "I" "EachBearsPillar"), (53, Cond.fieldLinkNest "EachBearsPillar$Mind" 52 "EachBearsPillar$Roof" "weight" "[I" "EachBearsPillar"), (56, Cond.fieldLinkNest "EachBearsPillar$Mind" 57 "EachBearsPillar$Roof" "ground" "[I" "EachBearsPillar"), (47, Cond.fieldLinkNest "EachBearsPillar$Mind" 64 "EachBearsPillar$Roof" "height" "[I" "EachBearsPillar"), (50, Cond.fieldLinkNest "EachBearsPillar$Mind" 67 "EachBearsPillar$Roof" "block" "[I" "EachBearsPillar"), (41, Cond.fieldLinkNest "EachBearsPillar$Mind" 70 "EachBearsPillar$Roof" "kind" "[I" "EachBearsPillar"), (44, Cond.fieldLinkNest "EachBearsPillar$Mind" 73 "EachBearsPillar$Roof" "strength" "[I" "EachBearsPillar"), (30, Cond.fieldLinkNest "EachBearsPillar$Mind" 82 "EachBearsPillar$Roof" "bearers" "I" "EachBearsPillar"), (85, Cond.fieldLinkNest "EachBearsPillar$Orders" 22 "EachBearsPillar$Mind" "roof" "LEachBearsPillar$Roof;" "EachBearsPillar"), (29, Cond.fieldLinkNest "EachBearsPillar$Orders" 28 "EachBearsPillar$Roof" "bearers" "I" "EachBearsPillar"), (99, Cond.fieldLinkNest "EachBearsPillar$Orders" 74 "EachBearsPillar$Mind" "weight" "[I" "EachBearsPillar"), (86, Cond.fieldLinkNest "EachBearsPillar$Walk" 30 "EachBearsPillar$Mind" "roof" "LEachBearsPillar$Roof;" "EachBearsPillar"), (34, Cond.fieldLinkNest "EachBearsPillar$Walk" 36 "EachBearsPillar$Roof" "at" "I" "EachBearsPillar"), (38, Cond.fieldLinkNest "EachBearsPillar$Walk" 41 "EachBearsPillar$Roof" "level" "I" "EachBearsPillar"), (88, Cond.fieldLinkNest "EachBearsPillar$Walk" 56 "EachBearsPillar$Mind" "at" "I" "EachBearsPillar"), (90, Cond.fieldLinkNest "EachBearsPillar$Walk" 57 "EachBearsPillar$Mind" "level" "I" "EachBearsPillar"), (39, Cond.fieldLinkNest "EachBearsPillar" 100 "EachBearsPillar$Roof" "level" "I" "EachBearsPillar"), (51, Cond.fieldLinkNest "EachBearsPillar" 106 "EachBearsPillar$Roof" "block" "[I" "EachBearsPillar"), (35, Cond.fieldLinkNest "EachBearsPillar" 112 "EachBearsPillar$Roof" "at" "I" "EachBearsPillar"), (42, Cond.fieldLinkNest "EachBearsPillar" 122 "EachBearsPillar$Roof" "kind" "[I" "EachBearsPillar"), (45, Cond.fieldLinkNest "EachBearsPillar" 129 "EachBearsPillar$Roof" "strength" "[I" "EachBearsPillar"), (48, Cond.fieldLinkNest "EachBearsPillar" 132 "EachBearsPillar$Roof" "height" "[I" "EachBearsPillar"), (105, Cond.fieldLinkNest "EachBearsPillar" 145 "EachBearsPillar$Mind" "load" "[I" "EachBearsPillar"), (31, Cond.fieldLinkNest "EachBearsPillar" 158 "EachBearsPillar$Roof" "bearers" "I" "EachBearsPillar"), (102, Cond.fieldLinkNest "EachBearsPillar" 164 "EachBearsPillar$Mind" "bearing" "[I" "EachBearsPillar"), (91, Cond.fieldLinkNest "EachBearsPillar" 167 "EachBearsPillar$Mind" "level" "I" "EachBearsPillar"), (95, Cond.fieldLinkNest "EachBearsPillar" 171 "EachBearsPillar$Mind" "who" "[I" "EachBearsPillar"), (93, Cond.fieldLinkNest "EachBearsPillar" 187 "EachBearsPillar$Mind" "idle" "I" "EachBearsPillar"), (100, Cond.fieldLinkNest "EachBearsPillar" 190 "EachBearsPillar$Mind" "weight" "[I" "EachBearsPillar")]
theorem gq_x_n1_0_ok : gx_nl1 gq_x_n1_0 = true := by decide +kernel
def gq_x_n1_1 : List (Nat × Cond) := [(137, Cond.fieldLinkNest "EachBearsPillar" 229 "EachBearsPillar$Text" "place" "I" "EachBearsPillar"), (141, Cond.fieldLinkNest "EachBearsPillar" 238 "EachBearsPillar$Text" "numbers" "[I" "EachBearsPillar"), (139, Cond.fieldLinkNest "EachBearsPillar" 241 "EachBearsPillar$Text" "opener" "I" "EachBearsPillar"), (97, Cond.fieldLinkNest "EachBearsPillar" 251 "EachBearsPillar$Mind" "raised" "[I" "EachBearsPillar"), (135, Cond.fieldLinkNest "EachBearsPillar" 73 "EachBearsPillar$Text" "length" "I" "EachBearsPillar"), (54, Cond.fieldLinkNest "EachBearsPillar" 90 "EachBearsPillar$Roof" "weight" "[I" "EachBearsPillar"), (57, Cond.fieldLinkNest "EachBearsPillar" 97 "EachBearsPillar$Roof" "ground" "[I" "EachBearsPillar"), (239, Cond.methodLinkNest "EachBearsPillar" 76 ⟨"EachBearsPillar$Text", "append", "(I)I"⟩ "EachBearsPillar")]
theorem gq_x_n1_1_ok : gx_nl1 gq_x_n1_1 = true := by decide +kernel
def gq_x_n2_0 : List (Nat × Cond) := [(209, Cond.methodLinkNest "EachBearsPillar$Mind" 104 ⟨"EachBearsPillar$Roof", "hasBearer", "(I)Z"⟩ "EachBearsPillar"), (168, Cond.methodLinkNest "EachBearsPillar$Mind" 48 ⟨"EachBearsPillar", "setCell", "([III)Z"⟩ "EachBearsPillar"), (169, Cond.methodLinkNest "EachBearsPillar$Mind" 53 ⟨"EachBearsPillar", "copyCells", "([I[I)V"⟩ "EachBearsPillar"), (174, Cond.methodLinkNest "EachBearsPillar$Mind" 60 ⟨"EachBearsPillar", "cell", "([II)I"⟩ "EachBearsPillar"), (111, Cond.methodLinkNest "EachBearsPillar$Roof" 40 ⟨"EachBearsPillar", "copyCells", "([I[I)V"⟩ "EachBearsPillar"), (124, Cond.methodLinkNest "EachBearsPillar$Roof" 44 ⟨"EachBearsPillar", "setCell", "([III)Z"⟩ "EachBearsPillar"), (3, Cond.methodLinkNest "EachBearsPillar$Text" 31 ⟨"EachBearsPillar", "setCell", "([III)Z"⟩ "EachBearsPillar"), (24, Cond.methodLinkNest "EachBearsPillar$Text" 90 ⟨"EachBearsPillar", "cell", "([II)I"⟩ "EachBearsPillar"), (128, Cond.methodLinkNest "EachBearsPillar" 103 ⟨"EachBearsPillar$Roof", "hasBearer", "(I)Z"⟩ "EachBearsPillar"), (156, Cond.methodLinkNest "EachBearsPillar" 109 ⟨"EachBearsPillar$Roof", "lastAt", "()I"⟩ "EachBearsPillar"), (164, Cond.methodLinkNest "EachBearsPillar" 115 ⟨"EachBearsPillar$Mind", "asTold", "()V"⟩ "EachBearsPillar"), (170, Cond.methodLinkNest "EachBearsPillar" 118 ⟨"EachBearsPillar$Mind", "topOf", "(II)I"⟩ "EachBearsPillar"), (175, Cond.methodLinkNest "EachBearsPillar" 135 ⟨"EachBearsPillar$Mind", "canBear", "(II)Z"⟩ "EachBearsPillar"), (179, Cond.methodLinkNest "EachBearsPillar" 139 ⟨"EachBearsPillar$Mind", "mightOf", "(II)I"⟩ "EachBearsPillar"), (190, Cond.methodLinkNest "EachBearsPillar" 142 ⟨"EachBearsPillar$Mind", "standAndWeigh", "()V"⟩ "EachBearsPillar"), (217, Cond.methodLinkNest "EachBearsPillar" 148 ⟨"EachBearsPillar$Mind", "isFirm", "()Z"⟩ "EachBearsPillar"), (237, Cond.methodLinkNest "EachBearsPillar" 152 ⟨"EachBearsPillar$Mind", "firstOverloaded", "()I"⟩ "EachBearsPillar"), (238, Cond.methodLinkNest "EachBearsPillar" 155 ⟨"EachBearsPillar$Mind", "firstFalling", "()I"⟩ "EachBearsPillar"), (107, Cond.methodLinkNest "EachBearsPillar" 223 ⟨"EachBearsPillar$Roof", "become", "(LEachBearsPillar$Roof;)V"⟩ "EachBearsPillar"), (114, Cond.methodLinkNest "EachBearsPillar" 226 ⟨"EachBearsPillar$Text", "rewind", "()V"⟩ "EachBearsPillar"), (115, Cond.methodLinkNest "EachBearsPillar" 232 ⟨"EachBearsPillar$Text", "readStatement", "()Z"⟩ "EachBearsPillar"), (120, Cond.methodLinkNest "EachBearsPillar" 244 ⟨"EachBearsPillar$Roof", "addBearer", "(III)Z"⟩ "EachBearsPillar"), (8, Cond.methodLinkNest "EachBearsPillar" 79 ⟨"EachBearsPillar$Text", "faultOfForm", "()I"⟩ "EachBearsPillar")]
theorem gq_x_n2_0_ok : gx_nl2 gq_x_n2_0 = true := by decide +kernel
def gq_x_n3_0 : List (Nat × Cond) := [(34, Cond.methodLinkNest "EachBearsPillar$Orders" 34 ⟨"EachBearsPillar$Mind", "topOf", "(II)I"⟩ "EachBearsPillar"), (35, Cond.methodLinkNest "EachBearsPillar$Orders" 38 ⟨"EachBearsPillar$Mind", "canBear", "(II)Z"⟩ "EachBearsPillar"), (36, Cond.methodLinkNest "EachBearsPillar$Orders" 42 ⟨"EachBearsPillar$Mind", "mightOf", "(II)I"⟩ "EachBearsPillar"), (37, Cond.methodLinkNest "EachBearsPillar$Orders" 45 ⟨"EachBearsPillar", "setCell", "([III)Z"⟩ "EachBearsPillar"), (59, Cond.methodLinkNest "EachBearsPillar$Orders" 56 ⟨"EachBearsPillar", "cell", "([II)I"⟩ "EachBearsPillar"), (119, Cond.methodLinkNest "EachBearsPillar$Walk" 26 ⟨"EachBearsPillar", "setCell", "([III)Z"⟩ "EachBearsPillar"), (125, Cond.methodLinkNest "EachBearsPillar$Walk" 48 ⟨"EachBearsPillar", "cell", "([II)I"⟩ "EachBearsPillar"), (124, Cond.methodLinkNest "EachBearsPillar$Walk" 52 ⟨"EachBearsPillar$Roof", "lastAt", "()I"⟩ "EachBearsPillar"), (126, Cond.methodLinkNest "EachBearsPillar$Walk" 58 ⟨"EachBearsPillar$Mind", "isFirm", "()Z"⟩ "EachBearsPillar"), (30, Cond.methodLinkNest "EachBearsPillar" 178 ⟨"EachBearsPillar$Orders", "fill", "()V"⟩ "EachBearsPillar"), (64, Cond.methodLinkNest "EachBearsPillar" 181 ⟨"EachBearsPillar$Orders", "total", "()I"⟩ "EachBearsPillar"), (68, Cond.methodLinkNest "EachBearsPillar" 184 ⟨"EachBearsPillar$Orders", "firstUnder", "(I)I"⟩ "EachBearsPillar"), (84, Cond.methodLinkNest "EachBearsPillar" 191 ⟨"EachBearsPillar$Mind", "weigh", "()V"⟩ "EachBearsPillar"), (85, Cond.methodLinkNest "EachBearsPillar" 194 ⟨"EachBearsPillar$Mind", "isBorne", "()Z"⟩ "EachBearsPillar"), (90, Cond.methodLinkNest "EachBearsPillar" 197 ⟨"EachBearsPillar$Mind", "stand", "()V"⟩ "EachBearsPillar"), (115, Cond.methodLinkNest "EachBearsPillar" 211 ⟨"EachBearsPillar$Walk", "explore", "()V"⟩ "EachBearsPillar"), (127, Cond.methodLinkNest "EachBearsPillar" 214 ⟨"EachBearsPillar$Walk", "fewestTo", "(I)I"⟩ "EachBearsPillar"), (139, Cond.methodLinkNest "EachBearsPillar" 217 ⟨"EachBearsPillar$Walk", "reachedWithin", "(I)I"⟩ "EachBearsPillar"), (148, Cond.methodLinkNest "EachBearsPillar" 220 ⟨"EachBearsPillar$Walk", "lowestAt", "(II)I"⟩ "EachBearsPillar")]
theorem gq_x_n3_0_ok : gx_nl3 gq_x_n3_0 = true := by decide +kernel
def gq_x_w1_0 : List (Nat × Cond) := [(1, Cond.initialized "EachBearsPillar"), (234, Cond.static ⟨"EachBearsPillar", "cell", "([II)I"⟩), (237, Cond.static ⟨"EachBearsPillar", "setCell", "([III)Z"⟩), (231, Cond.instanceMethod ⟨"EachBearsPillar", "refuse", "(I)I"⟩), (4, Cond.initialized "EachBearsPillar$Text"), (226, Cond.instanceMethod ⟨"EachBearsPillar", "letter", "(I)I"⟩), (227, Cond.selects "EachBearsPillar" ⟨"EachBearsPillar", "letter", "(I)I"⟩ ⟨"EachBearsPillar", "letter", "(I)I"⟩), (8, Cond.initialized "java/lang/String"), (2, Cond.initialized "EachBearsPillar$Roof"), (3, Cond.initialized "EachBearsPillar$Mind"), (6, Cond.initialized "EachBearsPillar$Orders"), (13, Cond.initialized "java/lang/Integer"), (5, Cond.initialized "EachBearsPillar$Walk"), (87, Cond.fieldLink "EachBearsPillar$Mind" 15 "EachBearsPillar$Mind" "at" "I"), (89, Cond.fieldLink "EachBearsPillar$Mind" 19 "EachBearsPillar$Mind" "level" "I"), (92, Cond.fieldLink "EachBearsPillar$Mind" 22 "EachBearsPillar$Mind" "idle" "I"), (94, Cond.fieldLink "EachBearsPillar$Mind" 25 "EachBearsPillar$Mind" "who" "[I"), (96, Cond.fieldLink "EachBearsPillar$Mind" 29 "EachBearsPillar$Mind" "raised" "[I"), (98, Cond.fieldLink "EachBearsPillar$Mind" 32 "EachBearsPillar$Mind" "weight" "[I"), (101, Cond.fieldLink "EachBearsPillar$Mind" 35 "EachBearsPillar$Mind" "bearing" "[I"), (103, Cond.fieldLink "EachBearsPillar$Mind" 38 "EachBearsPillar$Mind" "might" "[I"), (104, Cond.fieldLink "EachBearsPillar$Mind" 41 "EachBearsPillar$Mind" "load" "[I"), (84, Cond.fieldLink "EachBearsPillar$Mind" 9 "EachBearsPillar$Mind" "roof" "LEachBearsPillar$Roof;"), (182, Cond.fieldLink "EachBearsPillar$Orders" 15 "EachBearsPillar$Orders" "most" "[I"), (183, Cond.fieldLink "EachBearsPillar$Orders" 19 "EachBearsPillar$Orders" "ways" "[I"), (181, Cond.fieldLink "EachBearsPillar$Orders" 9 "EachBearsPillar$Orders" "mind" "LEachBearsPillar$Mind;"), (32, Cond.fieldLink "EachBearsPillar$Roof" 15 "EachBearsPillar$Roof" "at" "I"), (36, Cond.fieldLink "EachBearsPillar$Roof" 18 "EachBearsPillar$Roof" "level" "I"), (40, Cond.fieldLink "EachBearsPillar$Roof" 21 "EachBearsPillar$Roof" "kind" "[I"), (43, Cond.fieldLink "EachBearsPillar$Roof" 25 "EachBearsPillar$Roof" "strength" "[I")]
theorem gq_x_w1_0_ok : gx_wl1 gq_x_w1_0 = true := by decide +kernel
def gq_x_w1_1 : List (Nat × Cond) := [(46, Cond.fieldLink "EachBearsPillar$Roof" 28 "EachBearsPillar$Roof" "height" "[I"), (49, Cond.fieldLink "EachBearsPillar$Roof" 31 "EachBearsPillar$Roof" "block" "[I"), (52, Cond.fieldLink "EachBearsPillar$Roof" 34 "EachBearsPillar$Roof" "weight" "[I"), (55, Cond.fieldLink "EachBearsPillar$Roof" 37 "EachBearsPillar$Roof" "ground" "[I"), (28, Cond.fieldLink "EachBearsPillar$Roof" 9 "EachBearsPillar$Roof" "bearers" "I"), (134, Cond.fieldLink "EachBearsPillar$Text" 15 "EachBearsPillar$Text" "length" "I"), (136, Cond.fieldLink "EachBearsPillar$Text" 19 "EachBearsPillar$Text" "place" "I"), (138, Cond.fieldLink "EachBearsPillar$Text" 22 "EachBearsPillar$Text" "opener" "I"), (140, Cond.fieldLink "EachBearsPillar$Text" 25 "EachBearsPillar$Text" "numbers" "[I"), (142, Cond.fieldLink "EachBearsPillar$Text" 28 "EachBearsPillar$Text" "numbersRead" "I"), (133, Cond.fieldLink "EachBearsPillar$Text" 9 "EachBearsPillar$Text" "letters" "[I"), (163, Cond.fieldLink "EachBearsPillar$Walk" 15 "EachBearsPillar$Walk" "minutes" "[I"), (164, Cond.fieldLink "EachBearsPillar$Walk" 19 "EachBearsPillar$Walk" "queue" "[I"), (165, Cond.fieldLink "EachBearsPillar$Walk" 22 "EachBearsPillar$Walk" "queued" "I"), (162, Cond.fieldLink "EachBearsPillar$Walk" 9 "EachBearsPillar$Walk" "mind" "LEachBearsPillar$Mind;"), (191, Cond.fieldLink "EachBearsPillar" 10 "EachBearsPillar" "now" "LEachBearsPillar$Roof;"), (192, Cond.fieldLink "EachBearsPillar" 16 "EachBearsPillar" "draft" "LEachBearsPillar$Roof;"), (193, Cond.fieldLink "EachBearsPillar" 19 "EachBearsPillar" "kept" "LEachBearsPillar$Roof;"), (194, Cond.fieldLink "EachBearsPillar" 22 "EachBearsPillar" "hasImage" "Z"), (195, Cond.fieldLink "EachBearsPillar" 31 "EachBearsPillar" "mind" "LEachBearsPillar$Mind;"), (196, Cond.fieldLink "EachBearsPillar" 38 "EachBearsPillar" "text" "LEachBearsPillar$Text;"), (197, Cond.fieldLink "EachBearsPillar" 47 "EachBearsPillar" "walk" "LEachBearsPillar$Walk;"), (198, Cond.fieldLink "EachBearsPillar" 54 "EachBearsPillar" "standing" "LEachBearsPillar$Orders;"), (199, Cond.fieldLink "EachBearsPillar" 58 "EachBearsPillar" "told" "[I"), (200, Cond.fieldLink "EachBearsPillar" 62 "EachBearsPillar" "toldLength" "I"), (201, Cond.fieldLink "EachBearsPillar" 66 "EachBearsPillar" "refused" "[I"), (233, Cond.methodLink "EachBearsPillar" 125 ⟨"EachBearsPillar", "cell", "([II)I"⟩), (236, Cond.methodLink "EachBearsPillar" 174 ⟨"EachBearsPillar", "setCell", "([III)Z"⟩), (229, Cond.methodLink "EachBearsPillar" 69 ⟨"EachBearsPillar", "refuse", "(I)I"⟩), (12, Cond.initialized "java/lang/Math")]
theorem gq_x_w1_1_ok : gx_wl1 gq_x_w1_1 = true := by decide +kernel
def gq_x_w2_0 : List (Nat × Cond) := [(1, Cond.instanceMethod ⟨"EachBearsPillar$Text", "append", "(I)I"⟩), (14, Cond.instanceMethod ⟨"EachBearsPillar$Text", "rewind", "()V"⟩), (22, Cond.instanceMethod ⟨"EachBearsPillar$Text", "here", "()I"⟩), (26, Cond.static ⟨"EachBearsPillar$Text", "formOf", "(I)Ljava/lang/String;"⟩), (35, Cond.instanceMethod ⟨"java/lang/String", "isEmpty", "()Z"⟩), (36, Cond.selects "java/lang/String" ⟨"java/lang/String", "isEmpty", "()Z"⟩ ⟨"java/lang/String", "isEmpty", "()Z"⟩), (39, Cond.instanceMethod ⟨"java/lang/String", "length", "()I"⟩), (40, Cond.selects "java/lang/String" ⟨"java/lang/String", "length", "()I"⟩ ⟨"java/lang/String", "length", "()I"⟩), (49, Cond.instanceMethod ⟨"java/lang/String", "charAt", "(I)C"⟩), (50, Cond.selects "java/lang/String" ⟨"java/lang/String", "charAt", "(I)C"⟩ ⟨"java/lang/String", "charAt", "(I)C"⟩), (97, Cond.instanceMethod ⟨"EachBearsPillar$Text", "keepNumber", "(I)V"⟩), (101, Cond.instanceMethod ⟨"EachBearsPillar$Text", "readNumber", "(I)Z"⟩), (92, Cond.instanceMethod ⟨"EachBearsPillar$Text", "readKind", "()Z"⟩), (88, Cond.instanceMethod ⟨"EachBearsPillar$Text", "readPart", "(C)Z"⟩), (18, Cond.instanceMethod ⟨"EachBearsPillar$Text", "readStatement", "()Z"⟩), (10, Cond.instanceMethod ⟨"EachBearsPillar$Text", "faultOfForm", "()I"⟩), (112, Cond.static ⟨"EachBearsPillar", "copyCells", "([I[I)V"⟩), (109, Cond.instanceMethod ⟨"EachBearsPillar$Roof", "become", "(LEachBearsPillar$Roof;)V"⟩), (122, Cond.instanceMethod ⟨"EachBearsPillar$Roof", "addBearer", "(III)Z"⟩), (130, Cond.instanceMethod ⟨"EachBearsPillar$Roof", "hasBearer", "(I)Z"⟩), (126, Cond.static ⟨"EachBearsPillar", "isSpan", "(I)Z"⟩), (118, Cond.instanceMethod ⟨"EachBearsPillar", "enterStatement", "()Z"⟩), (105, Cond.instanceMethod ⟨"EachBearsPillar", "enterStatements", "()I"⟩), (5, Cond.instanceMethod ⟨"EachBearsPillar", "roof", "()I"⟩), (6, Cond.selects "EachBearsPillar" ⟨"EachBearsPillar", "roof", "()I"⟩ ⟨"EachBearsPillar", "roof", "()I"⟩), (138, Cond.static ⟨"EachBearsPillar", "exchange", "([III)I"⟩), (134, Cond.instanceMethod ⟨"EachBearsPillar", "span", "(II)I"⟩), (135, Cond.selects "EachBearsPillar" ⟨"EachBearsPillar", "span", "(II)I"⟩ ⟨"EachBearsPillar", "span", "(II)I"⟩), (141, Cond.instanceMethod ⟨"EachBearsPillar", "ground", "(II)I"⟩), (142, Cond.selects "EachBearsPillar" ⟨"EachBearsPillar", "ground", "(II)I"⟩ ⟨"EachBearsPillar", "ground", "(II)I"⟩)]
theorem gq_x_w2_0_ok : gx_wl2 gq_x_w2_0 = true := by decide +kernel
def gq_x_w2_1 : List (Nat × Cond) := [(145, Cond.instanceMethod ⟨"EachBearsPillar", "level", "(I)I"⟩), (146, Cond.selects "EachBearsPillar" ⟨"EachBearsPillar", "level", "(I)I"⟩ ⟨"EachBearsPillar", "level", "(I)I"⟩), (149, Cond.instanceMethod ⟨"EachBearsPillar", "block", "(II)I"⟩), (150, Cond.selects "EachBearsPillar" ⟨"EachBearsPillar", "block", "(II)I"⟩ ⟨"EachBearsPillar", "block", "(II)I"⟩), (158, Cond.instanceMethod ⟨"EachBearsPillar$Roof", "lastAt", "()I"⟩), (153, Cond.instanceMethod ⟨"EachBearsPillar", "at", "(I)I"⟩), (154, Cond.selects "EachBearsPillar" ⟨"EachBearsPillar", "at", "(I)I"⟩ ⟨"EachBearsPillar", "at", "(I)I"⟩), (166, Cond.instanceMethod ⟨"EachBearsPillar$Mind", "asTold", "()V"⟩), (172, Cond.instanceMethod ⟨"EachBearsPillar$Mind", "topOf", "(II)I"⟩), (177, Cond.instanceMethod ⟨"EachBearsPillar$Mind", "canBear", "(II)Z"⟩), (181, Cond.instanceMethod ⟨"EachBearsPillar$Mind", "mightOf", "(II)I"⟩), (161, Cond.instanceMethod ⟨"EachBearsPillar", "bearer", "(II)I"⟩), (162, Cond.selects "EachBearsPillar" ⟨"EachBearsPillar", "bearer", "(II)I"⟩ ⟨"EachBearsPillar", "bearer", "(II)I"⟩), (196, Cond.instanceMethod ⟨"EachBearsPillar$Mind", "stand", "()V"⟩), (207, Cond.instanceMethod ⟨"EachBearsPillar$Mind", "shareOf", "(II)I"⟩), (203, Cond.instanceMethod ⟨"EachBearsPillar$Mind", "weigh", "()V"⟩), (192, Cond.instanceMethod ⟨"EachBearsPillar$Mind", "standAndWeigh", "()V"⟩), (187, Cond.instanceMethod ⟨"EachBearsPillar", "load", "(I)I"⟩), (188, Cond.selects "EachBearsPillar" ⟨"EachBearsPillar", "load", "(I)I"⟩ ⟨"EachBearsPillar", "load", "(I)I"⟩), (227, Cond.instanceMethod ⟨"EachBearsPillar$Mind", "firstOverloaded", "()I"⟩), (231, Cond.instanceMethod ⟨"EachBearsPillar$Mind", "firstFalling", "()I"⟩), (223, Cond.instanceMethod ⟨"EachBearsPillar$Mind", "isBorne", "()Z"⟩), (219, Cond.instanceMethod ⟨"EachBearsPillar$Mind", "isFirm", "()Z"⟩), (214, Cond.instanceMethod ⟨"EachBearsPillar", "holds", "()I"⟩), (215, Cond.selects "EachBearsPillar" ⟨"EachBearsPillar", "holds", "()I"⟩ ⟨"EachBearsPillar", "holds", "()I"⟩), (234, Cond.instanceMethod ⟨"EachBearsPillar", "sag", "()I"⟩), (235, Cond.selects "EachBearsPillar" ⟨"EachBearsPillar", "sag", "()I"⟩ ⟨"EachBearsPillar", "sag", "()I"⟩), (201, Cond.methodLink "EachBearsPillar$Mind" 101 ⟨"EachBearsPillar$Mind", "weigh", "()V"⟩), (225, Cond.methodLink "EachBearsPillar$Mind" 111 ⟨"EachBearsPillar$Mind", "firstOverloaded", "()I"⟩), (229, Cond.methodLink "EachBearsPillar$Mind" 115 ⟨"EachBearsPillar$Mind", "firstFalling", "()I"⟩)]
theorem gq_x_w2_1_ok : gx_wl2 gq_x_w2_1 = true := by decide +kernel
def gq_x_w2_2 : List (Nat × Cond) := [(221, Cond.methodLink "EachBearsPillar$Mind" 118 ⟨"EachBearsPillar$Mind", "isBorne", "()Z"⟩), (198, Cond.methodLink "EachBearsPillar$Mind" 85 ⟨"EachBearsPillar$Mind", "topOf", "(II)I"⟩), (199, Cond.methodLink "EachBearsPillar$Mind" 88 ⟨"EachBearsPillar$Mind", "canBear", "(II)Z"⟩), (200, Cond.methodLink "EachBearsPillar$Mind" 92 ⟨"EachBearsPillar$Mind", "mightOf", "(II)I"⟩), (205, Cond.methodLink "EachBearsPillar$Mind" 95 ⟨"EachBearsPillar$Mind", "shareOf", "(II)I"⟩), (194, Cond.methodLink "EachBearsPillar$Mind" 98 ⟨"EachBearsPillar$Mind", "stand", "()V"⟩), (12, Cond.methodLink "EachBearsPillar$Text" 35 ⟨"EachBearsPillar$Text", "rewind", "()V"⟩), (16, Cond.methodLink "EachBearsPillar$Text" 38 ⟨"EachBearsPillar$Text", "readStatement", "()Z"⟩), (20, Cond.methodLink "EachBearsPillar$Text" 42 ⟨"EachBearsPillar$Text", "here", "()I"⟩), (25, Cond.methodLink "EachBearsPillar$Text" 46 ⟨"EachBearsPillar$Text", "formOf", "(I)Ljava/lang/String;"⟩), (34, Cond.methodLink "EachBearsPillar$Text" 50 ⟨"java/lang/String", "isEmpty", "()Z"⟩), (38, Cond.methodLink "EachBearsPillar$Text" 55 ⟨"java/lang/String", "length", "()I"⟩), (48, Cond.methodLink "EachBearsPillar$Text" 57 ⟨"java/lang/String", "charAt", "(I)C"⟩), (86, Cond.methodLink "EachBearsPillar$Text" 61 ⟨"EachBearsPillar$Text", "readPart", "(C)Z"⟩), (90, Cond.methodLink "EachBearsPillar$Text" 77 ⟨"EachBearsPillar$Text", "readKind", "()Z"⟩), (99, Cond.methodLink "EachBearsPillar$Text" 80 ⟨"EachBearsPillar$Text", "readNumber", "(I)Z"⟩), (95, Cond.methodLink "EachBearsPillar$Text" 86 ⟨"EachBearsPillar$Text", "keepNumber", "(I)V"⟩), (116, Cond.methodLink "EachBearsPillar" 235 ⟨"EachBearsPillar", "enterStatement", "()Z"⟩), (103, Cond.methodLink "EachBearsPillar" 83 ⟨"EachBearsPillar", "enterStatements", "()I"⟩), (125, Cond.methodLink "EachBearsPillar" 86 ⟨"EachBearsPillar", "isSpan", "(I)Z"⟩), (137, Cond.methodLink "EachBearsPillar" 93 ⟨"EachBearsPillar", "exchange", "([III)I"⟩), (210, Cond.methodLink "EachBearsPillar$Mind" 108 ⟨"java/lang/Math", "min", "(II)I"⟩), (183, Cond.methodLink "EachBearsPillar$Mind" 76 ⟨"java/lang/Math", "max", "(II)I"⟩), (211, Cond.static ⟨"java/lang/Math", "min", "(II)I"⟩), (184, Cond.static ⟨"java/lang/Math", "max", "(II)I"⟩)]
theorem gq_x_w2_2_ok : gx_wl2 gq_x_w2_2 = true := by decide +kernel
def gq_x_w3_0 : List (Nat × Cond) := [(4, Cond.static ⟨"EachBearsPillar", "sumOf", "([II)I"⟩), (0, Cond.instanceMethod ⟨"EachBearsPillar", "count", "(I)I"⟩), (1, Cond.selects "EachBearsPillar" ⟨"EachBearsPillar", "count", "(I)I"⟩ ⟨"EachBearsPillar", "count", "(I)I"⟩), (7, Cond.instanceMethod ⟨"EachBearsPillar", "levels", "()I"⟩), (8, Cond.selects "EachBearsPillar" ⟨"EachBearsPillar", "levels", "()I"⟩ ⟨"EachBearsPillar", "levels", "()I"⟩), (20, Cond.instanceMethod ⟨"EachBearsPillar", "raise", "(I)I"⟩), (16, Cond.instanceMethod ⟨"EachBearsPillar", "raiseBoth", "(II)I"⟩), (11, Cond.instanceMethod ⟨"EachBearsPillar", "blocks", "()I"⟩), (12, Cond.selects "EachBearsPillar" ⟨"EachBearsPillar", "blocks", "()I"⟩ ⟨"EachBearsPillar", "blocks", "()I"⟩), (23, Cond.instanceMethod ⟨"EachBearsPillar", "swap", "()I"⟩), (24, Cond.selects "EachBearsPillar" ⟨"EachBearsPillar", "swap", "()I"⟩ ⟨"EachBearsPillar", "swap", "()I"⟩), (39, Cond.static ⟨"EachBearsPillar$Orders", "spotOf", "(III)I"⟩), (46, Cond.static ⟨"java/lang/Integer", "bitCount", "(I)I"⟩), (57, Cond.instanceMethod ⟨"EachBearsPillar$Orders", "mostOf", "(II)I"⟩), (53, Cond.instanceMethod ⟨"EachBearsPillar$Orders", "bearsLeft", "(IIII)Z"⟩), (62, Cond.instanceMethod ⟨"EachBearsPillar$Orders", "waysWith", "(IIII)I"⟩), (43, Cond.instanceMethod ⟨"EachBearsPillar$Orders", "waysOn", "(III)I"⟩), (32, Cond.instanceMethod ⟨"EachBearsPillar$Orders", "fill", "()V"⟩), (74, Cond.instanceMethod ⟨"EachBearsPillar$Orders", "leastNext", "(III)I"⟩), (70, Cond.instanceMethod ⟨"EachBearsPillar$Orders", "firstUnder", "(I)I"⟩), (66, Cond.instanceMethod ⟨"EachBearsPillar$Orders", "total", "()I"⟩), (27, Cond.instanceMethod ⟨"EachBearsPillar", "orders", "(I)I"⟩), (28, Cond.selects "EachBearsPillar" ⟨"EachBearsPillar", "orders", "(I)I"⟩ ⟨"EachBearsPillar", "orders", "(I)I"⟩), (77, Cond.instanceMethod ⟨"EachBearsPillar", "needed", "()I"⟩), (78, Cond.selects "EachBearsPillar" ⟨"EachBearsPillar", "needed", "()I"⟩ ⟨"EachBearsPillar", "needed", "()I"⟩), (81, Cond.instanceMethod ⟨"EachBearsPillar", "more", "(I)I"⟩), (82, Cond.selects "EachBearsPillar" ⟨"EachBearsPillar", "more", "(I)I"⟩ ⟨"EachBearsPillar", "more", "(I)I"⟩), (87, Cond.instanceMethod ⟨"EachBearsPillar", "seeds", "(II)I"⟩), (88, Cond.selects "EachBearsPillar" ⟨"EachBearsPillar", "seeds", "(II)I"⟩ ⟨"EachBearsPillar", "seeds", "(II)I"⟩), (95, Cond.instanceMethod ⟨"EachBearsPillar", "row", "(I)I"⟩)]
theorem gq_x_w3_0_ok : gx_wl3 gq_x_w3_0 = true := by decide +kernel
def gq_x_w3_1 : List (Nat × Cond) := [(96, Cond.selects "EachBearsPillar" ⟨"EachBearsPillar", "row", "(I)I"⟩ ⟨"EachBearsPillar", "row", "(I)I"⟩), (104, Cond.instanceMethod ⟨"EachBearsPillar", "firstUntrue", "()I"⟩), (99, Cond.instanceMethod ⟨"EachBearsPillar", "slacked", "()I"⟩), (100, Cond.selects "EachBearsPillar" ⟨"EachBearsPillar", "slacked", "()I"⟩ ⟨"EachBearsPillar", "slacked", "()I"⟩), (107, Cond.instanceMethod ⟨"EachBearsPillar", "judge", "()I"⟩), (108, Cond.selects "EachBearsPillar" ⟨"EachBearsPillar", "judge", "()I"⟩ ⟨"EachBearsPillar", "judge", "()I"⟩), (122, Cond.instanceMethod ⟨"EachBearsPillar$Walk", "visit", "(III)V"⟩), (117, Cond.instanceMethod ⟨"EachBearsPillar$Walk", "explore", "()V"⟩), (133, Cond.instanceMethod ⟨"EachBearsPillar$Walk", "minutesTo", "(II)I"⟩), (129, Cond.instanceMethod ⟨"EachBearsPillar$Walk", "fewestTo", "(I)I"⟩), (112, Cond.instanceMethod ⟨"EachBearsPillar", "way", "(I)I"⟩), (113, Cond.selects "EachBearsPillar" ⟨"EachBearsPillar", "way", "(I)I"⟩ ⟨"EachBearsPillar", "way", "(I)I"⟩), (141, Cond.instanceMethod ⟨"EachBearsPillar$Walk", "reachedWithin", "(I)I"⟩), (136, Cond.instanceMethod ⟨"EachBearsPillar", "reach", "(I)I"⟩), (137, Cond.selects "EachBearsPillar" ⟨"EachBearsPillar", "reach", "(I)I"⟩ ⟨"EachBearsPillar", "reach", "(I)I"⟩), (150, Cond.instanceMethod ⟨"EachBearsPillar$Walk", "lowestAt", "(II)I"⟩), (145, Cond.instanceMethod ⟨"EachBearsPillar", "lowest", "(II)I"⟩), (146, Cond.selects "EachBearsPillar" ⟨"EachBearsPillar", "lowest", "(II)I"⟩ ⟨"EachBearsPillar", "lowest", "(II)I"⟩), (153, Cond.instanceMethod ⟨"EachBearsPillar", "image", "()I"⟩), (154, Cond.selects "EachBearsPillar" ⟨"EachBearsPillar", "image", "()I"⟩ ⟨"EachBearsPillar", "image", "()I"⟩), (157, Cond.instanceMethod ⟨"EachBearsPillar", "on", "()I"⟩), (158, Cond.selects "EachBearsPillar" ⟨"EachBearsPillar", "on", "()I"⟩ ⟨"EachBearsPillar", "on", "()I"⟩), (38, Cond.methodLink "EachBearsPillar$Orders" 49 ⟨"EachBearsPillar$Orders", "spotOf", "(III)I"⟩), (41, Cond.methodLink "EachBearsPillar$Orders" 53 ⟨"EachBearsPillar$Orders", "waysOn", "(III)I"⟩), (45, Cond.methodLink "EachBearsPillar$Orders" 60 ⟨"java/lang/Integer", "bitCount", "(I)I"⟩), (51, Cond.methodLink "EachBearsPillar$Orders" 66 ⟨"EachBearsPillar$Orders", "bearsLeft", "(IIII)Z"⟩), (60, Cond.methodLink "EachBearsPillar$Orders" 70 ⟨"EachBearsPillar$Orders", "waysWith", "(IIII)I"⟩), (55, Cond.methodLink "EachBearsPillar$Orders" 77 ⟨"EachBearsPillar$Orders", "mostOf", "(II)I"⟩), (72, Cond.methodLink "EachBearsPillar$Orders" 80 ⟨"EachBearsPillar$Orders", "leastNext", "(III)I"⟩), (120, Cond.methodLink "EachBearsPillar$Walk" 44 ⟨"EachBearsPillar$Walk", "visit", "(III)V"⟩)]
theorem gq_x_w3_1_ok : gx_wl3 gq_x_w3_1 = true := by decide +kernel
def gq_x_w3_2 : List (Nat × Cond) := [(131, Cond.methodLink "EachBearsPillar$Walk" 62 ⟨"EachBearsPillar$Walk", "minutesTo", "(II)I"⟩), (143, Cond.methodLink "EachBearsPillar$Walk" 66 ⟨"EachBearsPillar$Walk", "fewestTo", "(I)I"⟩), (3, Cond.methodLink "EachBearsPillar" 161 ⟨"EachBearsPillar", "sumOf", "([II)I"⟩), (14, Cond.methodLink "EachBearsPillar" 168 ⟨"EachBearsPillar", "raiseBoth", "(II)I"⟩), (102, Cond.methodLink "EachBearsPillar" 203 ⟨"EachBearsPillar", "firstUntrue", "()I"⟩), (18, Cond.methodLink "EachBearsPillar" 248 ⟨"EachBearsPillar", "raise", "(I)I"⟩), (91, Cond.constant "EachBearsPillar" 200 1664525), (92, Cond.constant "EachBearsPillar" 201 1013904223), (93, Cond.constant "EachBearsPillar" 202 2147483647), (48, Cond.constant "java/lang/Integer" 265 1431655765), (49, Cond.constant "java/lang/Integer" 266 858993459), (50, Cond.constant "java/lang/Integer" 267 252645135), (110, Cond.methodLink "EachBearsPillar" 206 ⟨"java/lang/Math", "min", "(II)I"⟩)]
theorem gq_x_w3_2_ok : gx_wl3 gq_x_w3_2 = true := by decide +kernel
theorem mo_x_E_cell : gx_mo mi_x_E_cell 2 := ⟨(gx_ic1 (i := 235) rfl rfl), (gx_wb1 gq_x_w1_0_ok 0 rfl), ⟨by decide, by decide⟩, by decide +kernel, rfl, rfl⟩
theorem ms_x_E_cell : gx_ms mi_x_E_cell := (gx_wb1 gq_x_w1_0_ok 1 rfl)
theorem mo_x_E_setCell : gx_mo mi_x_E_setCell 3 := ⟨(gx_ic1 (i := 238) rfl rfl), (gx_wb1 gq_x_w1_0_ok 0 rfl), ⟨by decide, by decide⟩, by decide +kernel, rfl, rfl⟩
theorem ms_x_E_setCell : gx_ms mi_x_E_setCell := (gx_wb1 gq_x_w1_0_ok 2 rfl)
theorem mo_x_E_refuse : gx_mo mi_x_E_refuse 1 := ⟨(gx_ic1 (i := 232) rfl rfl), (gx_wb1 gq_x_w1_0_ok 0 rfl), ⟨by decide, by decide⟩, by decide +kernel, rfl, rfl⟩
theorem mv_x_E_refuse : gx_mv mi_x_E_refuse := ⟨(gx_wb1 gq_x_w1_0_ok 3 rfl), (gx_sb (i := 0) (n := 11) rfl)⟩
theorem mo_x_T_append : gx_mo mi_x_T_append 1 := ⟨(gx_ic2 (i := 2) rfl rfl), (gx_wb1 gq_x_w1_0_ok 4 rfl), ⟨by decide, by decide⟩, by decide +kernel, rfl, rfl⟩
theorem mv_x_T_append : gx_mv mi_x_T_append := ⟨(gx_wb2 gq_x_w2_0_ok 0 rfl), (gx_sb (i := 1) (n := 6) rfl)⟩
theorem mo_x_E_letter : gx_mo mi_x_E_letter 1 := ⟨(gx_ic1 (i := 228) rfl rfl), (gx_wb1 gq_x_w1_0_ok 0 rfl), ⟨by decide, by decide⟩, by decide +kernel, rfl, rfl⟩
theorem mv_x_E_letter : gx_mv mi_x_E_letter := ⟨(gx_wb1 gq_x_w1_0_ok 5 rfl), (gx_wb1 gq_x_w1_0_ok 6 rfl)⟩
theorem mo_x_T_rewind : gx_mo mi_x_T_rewind 0 := ⟨(gx_ic2 (i := 15) rfl rfl), (gx_wb1 gq_x_w1_0_ok 4 rfl), ⟨by decide, by decide⟩, by decide +kernel, rfl, rfl⟩
theorem mv_x_T_rewind : gx_mv mi_x_T_rewind := ⟨(gx_wb2 gq_x_w2_0_ok 1 rfl), (gx_sb (i := 3) (n := 6) rfl)⟩
theorem mo_x_T_here : gx_mo mi_x_T_here 0 := ⟨(gx_ic2 (i := 23) rfl rfl), (gx_wb1 gq_x_w1_0_ok 4 rfl), ⟨by decide, by decide⟩, by decide +kernel, rfl, rfl⟩
theorem mv_x_T_here : gx_mv mi_x_T_here := ⟨(gx_wb2 gq_x_w2_0_ok 2 rfl), (gx_sb (i := 5) (n := 6) rfl)⟩
theorem mo_x_T_formOf : gx_mo mi_x_T_formOf 1 := ⟨(gx_ic2 (i := 27) rfl rfl), (gx_wb1 gq_x_w1_0_ok 4 rfl), ⟨by decide, by decide⟩, by decide +kernel, rfl, rfl⟩
theorem ms_x_T_formOf : gx_ms mi_x_T_formOf := (gx_wb2 gq_x_w2_0_ok 3 rfl)
theorem mo_x_S_isEmpty : gx_mo mi_x_S_isEmpty 0 := ⟨(gx_ic2 (i := 37) rfl rfl), (gx_wb1 gq_x_w1_0_ok 7 rfl), ⟨by decide, by decide⟩, by decide +kernel, rfl, rfl⟩
theorem mv_x_S_isEmpty : gx_mv mi_x_S_isEmpty := ⟨(gx_wb2 gq_x_w2_0_ok 4 rfl), (gx_wb2 gq_x_w2_0_ok 5 rfl)⟩
theorem mo_x_S_length : gx_mo mi_x_S_length 0 := ⟨(gx_ic2 (i := 41) rfl rfl), (gx_wb1 gq_x_w1_0_ok 7 rfl), ⟨by decide, by decide⟩, by decide +kernel, rfl, rfl⟩
theorem mv_x_S_length : gx_mv mi_x_S_length := ⟨(gx_wb2 gq_x_w2_0_ok 6 rfl), (gx_wb2 gq_x_w2_0_ok 7 rfl)⟩
theorem mo_x_S_charAt : gx_mo mi_x_S_charAt 1 := ⟨(gx_ic2 (i := 51) rfl rfl), (gx_wb1 gq_x_w1_0_ok 7 rfl), ⟨by decide, by decide⟩, by decide +kernel, rfl, rfl⟩
theorem mv_x_S_charAt : gx_mv mi_x_S_charAt := ⟨(gx_wb2 gq_x_w2_0_ok 8 rfl), (gx_wb2 gq_x_w2_0_ok 9 rfl)⟩
theorem mo_x_T_keepNumber : gx_mo mi_x_T_keepNumber 1 := ⟨(gx_ic2 (i := 98) rfl rfl), (gx_wb1 gq_x_w1_0_ok 4 rfl), ⟨by decide, by decide⟩, by decide +kernel, rfl, rfl⟩
theorem mv_x_T_keepNumber : gx_mv mi_x_T_keepNumber := ⟨(gx_wb2 gq_x_w2_0_ok 10 rfl), (gx_sb (i := 8) (n := 6) rfl)⟩
theorem mo_x_T_readNumber : gx_mo mi_x_T_readNumber 1 := ⟨(gx_ic2 (i := 102) rfl rfl), (gx_wb1 gq_x_w1_0_ok 4 rfl), ⟨by decide, by decide⟩, by decide +kernel, rfl, rfl⟩
theorem mv_x_T_readNumber : gx_mv mi_x_T_readNumber := ⟨(gx_wb2 gq_x_w2_0_ok 11 rfl), (gx_sb (i := 9) (n := 6) rfl)⟩
theorem mo_x_T_readKind : gx_mo mi_x_T_readKind 0 := ⟨(gx_ic2 (i := 93) rfl rfl), (gx_wb1 gq_x_w1_0_ok 4 rfl), ⟨by decide, by decide⟩, by decide +kernel, rfl, rfl⟩
theorem mv_x_T_readKind : gx_mv mi_x_T_readKind := ⟨(gx_wb2 gq_x_w2_0_ok 12 rfl), (gx_sb (i := 7) (n := 6) rfl)⟩
theorem mo_x_T_readPart : gx_mo mi_x_T_readPart 1 := ⟨(gx_ic2 (i := 89) rfl rfl), (gx_wb1 gq_x_w1_0_ok 4 rfl), ⟨by decide, by decide⟩, by decide +kernel, rfl, rfl⟩
theorem mv_x_T_readPart : gx_mv mi_x_T_readPart := ⟨(gx_wb2 gq_x_w2_0_ok 13 rfl), (gx_sb (i := 6) (n := 6) rfl)⟩
theorem mo_x_T_readStatement : gx_mo mi_x_T_readStatement 0 := ⟨(gx_ic2 (i := 19) rfl rfl), (gx_wb1 gq_x_w1_0_ok 4 rfl), ⟨by decide, by decide⟩, by decide +kernel, rfl, rfl⟩
theorem mv_x_T_readStatement : gx_mv mi_x_T_readStatement := ⟨(gx_wb2 gq_x_w2_0_ok 14 rfl), (gx_sb (i := 4) (n := 6) rfl)⟩
theorem mo_x_T_faultOfForm : gx_mo mi_x_T_faultOfForm 0 := ⟨(gx_ic2 (i := 11) rfl rfl), (gx_wb1 gq_x_w1_0_ok 4 rfl), ⟨by decide, by decide⟩, by decide +kernel, rfl, rfl⟩
theorem mv_x_T_faultOfForm : gx_mv mi_x_T_faultOfForm := ⟨(gx_wb2 gq_x_w2_0_ok 15 rfl), (gx_sb (i := 2) (n := 6) rfl)⟩
theorem mo_x_E_copyCells : gx_mo mi_x_E_copyCells 2 := ⟨(gx_ic2 (i := 113) rfl rfl), (gx_wb1 gq_x_w1_0_ok 0 rfl), ⟨by decide, by decide⟩, by decide +kernel, rfl, rfl⟩
theorem ms_x_E_copyCells : gx_ms mi_x_E_copyCells := (gx_wb2 gq_x_w2_0_ok 16 rfl)
theorem mo_x_R_become_8_1 : gx_mo mi_x_R_become_8_1 1 := ⟨(gx_ic2 (i := 110) rfl rfl), (gx_wb1 gq_x_w1_0_ok 8 rfl), ⟨by decide, by decide⟩, by decide +kernel, rfl, rfl⟩
theorem mv_x_R_become_8_1 : gx_mv mi_x_R_become_8_1 := ⟨(gx_wb2 gq_x_w2_0_ok 17 rfl), (gx_sb (i := 11) (n := 9) rfl)⟩
theorem mo_x_R_become_1_8 : gx_mo mi_x_R_become_1_8 1 := ⟨(gx_ic2 (i := 110) rfl rfl), (gx_wb1 gq_x_w1_0_ok 8 rfl), ⟨by decide, by decide⟩, by decide +kernel, rfl, rfl⟩
theorem mv_x_R_become_1_8 : gx_mv mi_x_R_become_1_8 := ⟨(gx_wb2 gq_x_w2_0_ok 17 rfl), (gx_sb (i := 11) (n := 9) rfl)⟩
theorem mo_x_R_addBearer_8 : gx_mo mi_x_R_addBearer_8 3 := ⟨(gx_ic2 (i := 123) rfl rfl), (gx_wb1 gq_x_w1_0_ok 8 rfl), ⟨by decide, by decide⟩, by decide +kernel, rfl, rfl⟩
theorem mv_x_R_addBearer_8 : gx_mv mi_x_R_addBearer_8 := ⟨(gx_wb2 gq_x_w2_0_ok 18 rfl), (gx_sb (i := 13) (n := 9) rfl)⟩
theorem mo_x_R_hasBearer_8 : gx_mo mi_x_R_hasBearer_8 1 := ⟨(gx_ic2 (i := 131) rfl rfl), (gx_wb1 gq_x_w1_0_ok 8 rfl), ⟨by decide, by decide⟩, by decide +kernel, rfl, rfl⟩
theorem mv_x_R_hasBearer_8 : gx_mv mi_x_R_hasBearer_8 := ⟨(gx_wb2 gq_x_w2_0_ok 19 rfl), (gx_sb (i := 14) (n := 9) rfl)⟩
theorem mo_x_E_isSpan : gx_mo mi_x_E_isSpan 1 := ⟨(gx_ic2 (i := 127) rfl rfl), (gx_wb1 gq_x_w1_0_ok 0 rfl), ⟨by decide, by decide⟩, by decide +kernel, rfl, rfl⟩
theorem ms_x_E_isSpan : gx_ms mi_x_E_isSpan := (gx_wb2 gq_x_w2_0_ok 20 rfl)
theorem mo_x_E_enterStatement : gx_mo mi_x_E_enterStatement 0 := ⟨(gx_ic2 (i := 119) rfl rfl), (gx_wb1 gq_x_w1_0_ok 0 rfl), ⟨by decide, by decide⟩, by decide +kernel, rfl, rfl⟩
theorem mv_x_E_enterStatement : gx_mv mi_x_E_enterStatement := ⟨(gx_wb2 gq_x_w2_0_ok 21 rfl), (gx_sb (i := 12) (n := 11) rfl)⟩
theorem mo_x_E_enterStatements : gx_mo mi_x_E_enterStatements 0 := ⟨(gx_ic2 (i := 106) rfl rfl), (gx_wb1 gq_x_w1_0_ok 0 rfl), ⟨by decide, by decide⟩, by decide +kernel, rfl, rfl⟩
theorem mv_x_E_enterStatements : gx_mv mi_x_E_enterStatements := ⟨(gx_wb2 gq_x_w2_0_ok 22 rfl), (gx_sb (i := 10) (n := 11) rfl)⟩
theorem mo_x_E_roof : gx_mo mi_x_E_roof 0 := ⟨(gx_ic2 (i := 7) rfl rfl), (gx_wb1 gq_x_w1_0_ok 0 rfl), ⟨by decide, by decide⟩, by decide +kernel, rfl, rfl⟩
theorem mv_x_E_roof : gx_mv mi_x_E_roof := ⟨(gx_wb2 gq_x_w2_0_ok 23 rfl), (gx_wb2 gq_x_w2_0_ok 24 rfl)⟩
theorem mo_x_E_exchange : gx_mo mi_x_E_exchange 3 := ⟨(gx_ic2 (i := 139) rfl rfl), (gx_wb1 gq_x_w1_0_ok 0 rfl), ⟨by decide, by decide⟩, by decide +kernel, rfl, rfl⟩
theorem ms_x_E_exchange : gx_ms mi_x_E_exchange := (gx_wb2 gq_x_w2_0_ok 25 rfl)
theorem mo_x_E_span : gx_mo mi_x_E_span 2 := ⟨(gx_ic2 (i := 136) rfl rfl), (gx_wb1 gq_x_w1_0_ok 0 rfl), ⟨by decide, by decide⟩, by decide +kernel, rfl, rfl⟩
theorem mv_x_E_span : gx_mv mi_x_E_span := ⟨(gx_wb2 gq_x_w2_0_ok 26 rfl), (gx_wb2 gq_x_w2_0_ok 27 rfl)⟩
theorem mo_x_E_ground : gx_mo mi_x_E_ground 2 := ⟨(gx_ic2 (i := 143) rfl rfl), (gx_wb1 gq_x_w1_0_ok 0 rfl), ⟨by decide, by decide⟩, by decide +kernel, rfl, rfl⟩
theorem mv_x_E_ground : gx_mv mi_x_E_ground := ⟨(gx_wb2 gq_x_w2_0_ok 28 rfl), (gx_wb2 gq_x_w2_0_ok 29 rfl)⟩
theorem mo_x_E_level : gx_mo mi_x_E_level 1 := ⟨(gx_ic2 (i := 147) rfl rfl), (gx_wb1 gq_x_w1_0_ok 0 rfl), ⟨by decide, by decide⟩, by decide +kernel, rfl, rfl⟩
theorem mv_x_E_level : gx_mv mi_x_E_level := ⟨(gx_wb2 gq_x_w2_1_ok 0 rfl), (gx_wb2 gq_x_w2_1_ok 1 rfl)⟩
theorem mo_x_R_hasBearer_1 : gx_mo mi_x_R_hasBearer_1 1 := ⟨(gx_ic2 (i := 131) rfl rfl), (gx_wb1 gq_x_w1_0_ok 8 rfl), ⟨by decide, by decide⟩, by decide +kernel, rfl, rfl⟩
theorem mv_x_R_hasBearer_1 : gx_mv mi_x_R_hasBearer_1 := ⟨(gx_wb2 gq_x_w2_0_ok 19 rfl), (gx_sb (i := 14) (n := 9) rfl)⟩
theorem mo_x_E_block : gx_mo mi_x_E_block 2 := ⟨(gx_ic2 (i := 151) rfl rfl), (gx_wb1 gq_x_w1_0_ok 0 rfl), ⟨by decide, by decide⟩, by decide +kernel, rfl, rfl⟩
theorem mv_x_E_block : gx_mv mi_x_E_block := ⟨(gx_wb2 gq_x_w2_1_ok 2 rfl), (gx_wb2 gq_x_w2_1_ok 3 rfl)⟩
theorem mo_x_R_lastAt_1 : gx_mo mi_x_R_lastAt_1 0 := ⟨(gx_ic2 (i := 159) rfl rfl), (gx_wb1 gq_x_w1_0_ok 8 rfl), ⟨by decide, by decide⟩, by decide +kernel, rfl, rfl⟩
theorem mv_x_R_lastAt_1 : gx_mv mi_x_R_lastAt_1 := ⟨(gx_wb2 gq_x_w2_1_ok 4 rfl), (gx_sb (i := 15) (n := 9) rfl)⟩
theorem mo_x_E_at : gx_mo mi_x_E_at 1 := ⟨(gx_ic2 (i := 155) rfl rfl), (gx_wb1 gq_x_w1_0_ok 0 rfl), ⟨by decide, by decide⟩, by decide +kernel, rfl, rfl⟩
theorem mv_x_E_at : gx_mv mi_x_E_at := ⟨(gx_wb2 gq_x_w2_1_ok 5 rfl), (gx_wb2 gq_x_w2_1_ok 6 rfl)⟩
theorem mo_x_M_asTold : gx_mo mi_x_M_asTold 0 := ⟨(gx_ic2 (i := 167) rfl rfl), (gx_wb1 gq_x_w1_0_ok 9 rfl), ⟨by decide, by decide⟩, by decide +kernel, rfl, rfl⟩
theorem mv_x_M_asTold : gx_mv mi_x_M_asTold := ⟨(gx_wb2 gq_x_w2_1_ok 7 rfl), (gx_sb (i := 16) (n := 10) rfl)⟩
theorem mo_x_M_topOf : gx_mo mi_x_M_topOf 2 := ⟨(gx_ic2 (i := 173) rfl rfl), (gx_wb1 gq_x_w1_0_ok 9 rfl), ⟨by decide, by decide⟩, by decide +kernel, rfl, rfl⟩
theorem mv_x_M_topOf : gx_mv mi_x_M_topOf := ⟨(gx_wb2 gq_x_w2_1_ok 8 rfl), (gx_sb (i := 17) (n := 10) rfl)⟩
theorem mo_x_M_canBear : gx_mo mi_x_M_canBear 2 := ⟨(gx_ic2 (i := 178) rfl rfl), (gx_wb1 gq_x_w1_0_ok 9 rfl), ⟨by decide, by decide⟩, by decide +kernel, rfl, rfl⟩
theorem mv_x_M_canBear : gx_mv mi_x_M_canBear := ⟨(gx_wb2 gq_x_w2_1_ok 9 rfl), (gx_sb (i := 18) (n := 10) rfl)⟩
theorem mo_x_M_mightOf : gx_mo mi_x_M_mightOf 2 := ⟨(gx_ic2 (i := 182) rfl rfl), (gx_wb1 gq_x_w1_0_ok 9 rfl), ⟨by decide, by decide⟩, by decide +kernel, rfl, rfl⟩
theorem mv_x_M_mightOf : gx_mv mi_x_M_mightOf := ⟨(gx_wb2 gq_x_w2_1_ok 10 rfl), (gx_sb (i := 19) (n := 10) rfl)⟩
theorem mo_x_E_bearer : gx_mo mi_x_E_bearer 2 := ⟨(gx_ic2 (i := 163) rfl rfl), (gx_wb1 gq_x_w1_0_ok 0 rfl), ⟨by decide, by decide⟩, by decide +kernel, rfl, rfl⟩
theorem mv_x_E_bearer : gx_mv mi_x_E_bearer := ⟨(gx_wb2 gq_x_w2_1_ok 11 rfl), (gx_wb2 gq_x_w2_1_ok 12 rfl)⟩
theorem mo_x_M_stand : gx_mo mi_x_M_stand 0 := ⟨(gx_ic2 (i := 197) rfl rfl), (gx_wb1 gq_x_w1_0_ok 9 rfl), ⟨by decide, by decide⟩, by decide +kernel, rfl, rfl⟩
theorem mv_x_M_stand : gx_mv mi_x_M_stand := ⟨(gx_wb2 gq_x_w2_1_ok 13 rfl), (gx_sb (i := 21) (n := 10) rfl)⟩
theorem mo_x_M_shareOf : gx_mo mi_x_M_shareOf 2 := ⟨(gx_ic2 (i := 208) rfl rfl), (gx_wb1 gq_x_w1_0_ok 9 rfl), ⟨by decide, by decide⟩, by decide +kernel, rfl, rfl⟩
theorem mv_x_M_shareOf : gx_mv mi_x_M_shareOf := ⟨(gx_wb2 gq_x_w2_1_ok 14 rfl), (gx_sb (i := 23) (n := 10) rfl)⟩
theorem mo_x_M_weigh : gx_mo mi_x_M_weigh 0 := ⟨(gx_ic2 (i := 204) rfl rfl), (gx_wb1 gq_x_w1_0_ok 9 rfl), ⟨by decide, by decide⟩, by decide +kernel, rfl, rfl⟩
theorem mv_x_M_weigh : gx_mv mi_x_M_weigh := ⟨(gx_wb2 gq_x_w2_1_ok 15 rfl), (gx_sb (i := 22) (n := 10) rfl)⟩
theorem mo_x_M_standAndWeigh : gx_mo mi_x_M_standAndWeigh 0 := ⟨(gx_ic2 (i := 193) rfl rfl), (gx_wb1 gq_x_w1_0_ok 9 rfl), ⟨by decide, by decide⟩, by decide +kernel, rfl, rfl⟩
theorem mv_x_M_standAndWeigh : gx_mv mi_x_M_standAndWeigh := ⟨(gx_wb2 gq_x_w2_1_ok 16 rfl), (gx_sb (i := 20) (n := 10) rfl)⟩
theorem mo_x_E_load : gx_mo mi_x_E_load 1 := ⟨(gx_ic2 (i := 189) rfl rfl), (gx_wb1 gq_x_w1_0_ok 0 rfl), ⟨by decide, by decide⟩, by decide +kernel, rfl, rfl⟩
theorem mv_x_E_load : gx_mv mi_x_E_load := ⟨(gx_wb2 gq_x_w2_1_ok 17 rfl), (gx_wb2 gq_x_w2_1_ok 18 rfl)⟩
theorem mo_x_M_firstOverloaded : gx_mo mi_x_M_firstOverloaded 0 := ⟨(gx_ic2 (i := 228) rfl rfl), (gx_wb1 gq_x_w1_0_ok 9 rfl), ⟨by decide, by decide⟩, by decide +kernel, rfl, rfl⟩
theorem mv_x_M_firstOverloaded : gx_mv mi_x_M_firstOverloaded := ⟨(gx_wb2 gq_x_w2_1_ok 19 rfl), (gx_sb (i := 26) (n := 10) rfl)⟩
theorem mo_x_M_firstFalling : gx_mo mi_x_M_firstFalling 0 := ⟨(gx_ic2 (i := 232) rfl rfl), (gx_wb1 gq_x_w1_0_ok 9 rfl), ⟨by decide, by decide⟩, by decide +kernel, rfl, rfl⟩
theorem mv_x_M_firstFalling : gx_mv mi_x_M_firstFalling := ⟨(gx_wb2 gq_x_w2_1_ok 20 rfl), (gx_sb (i := 27) (n := 10) rfl)⟩
theorem mo_x_M_isBorne : gx_mo mi_x_M_isBorne 0 := ⟨(gx_ic2 (i := 224) rfl rfl), (gx_wb1 gq_x_w1_0_ok 9 rfl), ⟨by decide, by decide⟩, by decide +kernel, rfl, rfl⟩
theorem mv_x_M_isBorne : gx_mv mi_x_M_isBorne := ⟨(gx_wb2 gq_x_w2_1_ok 21 rfl), (gx_sb (i := 25) (n := 10) rfl)⟩
theorem mo_x_M_isFirm : gx_mo mi_x_M_isFirm 0 := ⟨(gx_ic2 (i := 220) rfl rfl), (gx_wb1 gq_x_w1_0_ok 9 rfl), ⟨by decide, by decide⟩, by decide +kernel, rfl, rfl⟩
theorem mv_x_M_isFirm : gx_mv mi_x_M_isFirm := ⟨(gx_wb2 gq_x_w2_1_ok 22 rfl), (gx_sb (i := 24) (n := 10) rfl)⟩
theorem mo_x_E_holds : gx_mo mi_x_E_holds 0 := ⟨(gx_ic2 (i := 216) rfl rfl), (gx_wb1 gq_x_w1_0_ok 0 rfl), ⟨by decide, by decide⟩, by decide +kernel, rfl, rfl⟩
theorem mv_x_E_holds : gx_mv mi_x_E_holds := ⟨(gx_wb2 gq_x_w2_1_ok 23 rfl), (gx_wb2 gq_x_w2_1_ok 24 rfl)⟩
theorem mo_x_E_sag : gx_mo mi_x_E_sag 0 := ⟨(gx_ic2 (i := 236) rfl rfl), (gx_wb1 gq_x_w1_0_ok 0 rfl), ⟨by decide, by decide⟩, by decide +kernel, rfl, rfl⟩
theorem mv_x_E_sag : gx_mv mi_x_E_sag := ⟨(gx_wb2 gq_x_w2_1_ok 25 rfl), (gx_wb2 gq_x_w2_1_ok 26 rfl)⟩
theorem mo_x_E_sumOf : gx_mo mi_x_E_sumOf 2 := ⟨(gx_ic3 (i := 5) rfl rfl), (gx_wb1 gq_x_w1_0_ok 0 rfl), ⟨by decide, by decide⟩, by decide +kernel, rfl, rfl⟩
theorem ms_x_E_sumOf : gx_ms mi_x_E_sumOf := (gx_wb3 gq_x_w3_0_ok 0 rfl)
theorem mo_x_E_count : gx_mo mi_x_E_count 1 := ⟨(gx_ic3 (i := 2) rfl rfl), (gx_wb1 gq_x_w1_0_ok 0 rfl), ⟨by decide, by decide⟩, by decide +kernel, rfl, rfl⟩
theorem mv_x_E_count : gx_mv mi_x_E_count := ⟨(gx_wb3 gq_x_w3_0_ok 1 rfl), (gx_wb3 gq_x_w3_0_ok 2 rfl)⟩
theorem mo_x_E_levels : gx_mo mi_x_E_levels 0 := ⟨(gx_ic3 (i := 9) rfl rfl), (gx_wb1 gq_x_w1_0_ok 0 rfl), ⟨by decide, by decide⟩, by decide +kernel, rfl, rfl⟩
theorem mv_x_E_levels : gx_mv mi_x_E_levels := ⟨(gx_wb3 gq_x_w3_0_ok 3 rfl), (gx_wb3 gq_x_w3_0_ok 4 rfl)⟩
theorem mo_x_E_raise : gx_mo mi_x_E_raise 1 := ⟨(gx_ic3 (i := 21) rfl rfl), (gx_wb1 gq_x_w1_0_ok 0 rfl), ⟨by decide, by decide⟩, by decide +kernel, rfl, rfl⟩
theorem mv_x_E_raise : gx_mv mi_x_E_raise := ⟨(gx_wb3 gq_x_w3_0_ok 5 rfl), (gx_sb (i := 29) (n := 11) rfl)⟩
theorem mo_x_E_raiseBoth : gx_mo mi_x_E_raiseBoth 2 := ⟨(gx_ic3 (i := 17) rfl rfl), (gx_wb1 gq_x_w1_0_ok 0 rfl), ⟨by decide, by decide⟩, by decide +kernel, rfl, rfl⟩
theorem mv_x_E_raiseBoth : gx_mv mi_x_E_raiseBoth := ⟨(gx_wb3 gq_x_w3_0_ok 6 rfl), (gx_sb (i := 28) (n := 11) rfl)⟩
theorem mo_x_E_blocks : gx_mo mi_x_E_blocks 0 := ⟨(gx_ic3 (i := 13) rfl rfl), (gx_wb1 gq_x_w1_0_ok 0 rfl), ⟨by decide, by decide⟩, by decide +kernel, rfl, rfl⟩
theorem mv_x_E_blocks : gx_mv mi_x_E_blocks := ⟨(gx_wb3 gq_x_w3_0_ok 7 rfl), (gx_wb3 gq_x_w3_0_ok 8 rfl)⟩
theorem mo_x_E_swap : gx_mo mi_x_E_swap 0 := ⟨(gx_ic3 (i := 25) rfl rfl), (gx_wb1 gq_x_w1_0_ok 0 rfl), ⟨by decide, by decide⟩, by decide +kernel, rfl, rfl⟩
theorem mv_x_E_swap : gx_mv mi_x_E_swap := ⟨(gx_wb3 gq_x_w3_0_ok 9 rfl), (gx_wb3 gq_x_w3_0_ok 10 rfl)⟩
theorem mo_x_O_spotOf : gx_mo mi_x_O_spotOf 3 := ⟨(gx_ic3 (i := 40) rfl rfl), (gx_wb1 gq_x_w1_0_ok 10 rfl), ⟨by decide, by decide⟩, by decide +kernel, rfl, rfl⟩
theorem ms_x_O_spotOf : gx_ms mi_x_O_spotOf := (gx_wb3 gq_x_w3_0_ok 11 rfl)
theorem mo_x_I_bitCount : gx_mo mi_x_I_bitCount 1 := ⟨(gx_ic3 (i := 47) rfl rfl), (gx_wb1 gq_x_w1_0_ok 11 rfl), ⟨by decide, by decide⟩, by decide +kernel, rfl, rfl⟩
theorem ms_x_I_bitCount : gx_ms mi_x_I_bitCount := (gx_wb3 gq_x_w3_0_ok 12 rfl)
theorem mo_x_O_mostOf : gx_mo mi_x_O_mostOf 2 := ⟨(gx_ic3 (i := 58) rfl rfl), (gx_wb1 gq_x_w1_0_ok 10 rfl), ⟨by decide, by decide⟩, by decide +kernel, rfl, rfl⟩
theorem mv_x_O_mostOf : gx_mv mi_x_O_mostOf := ⟨(gx_wb3 gq_x_w3_0_ok 13 rfl), (gx_sb (i := 33) (n := 3) rfl)⟩
theorem mo_x_O_bearsLeft : gx_mo mi_x_O_bearsLeft 4 := ⟨(gx_ic3 (i := 54) rfl rfl), (gx_wb1 gq_x_w1_0_ok 10 rfl), ⟨by decide, by decide⟩, by decide +kernel, rfl, rfl⟩
theorem mv_x_O_bearsLeft : gx_mv mi_x_O_bearsLeft := ⟨(gx_wb3 gq_x_w3_0_ok 14 rfl), (gx_sb (i := 32) (n := 3) rfl)⟩
theorem mo_x_O_waysWith : gx_mo mi_x_O_waysWith 4 := ⟨(gx_ic3 (i := 63) rfl rfl), (gx_wb1 gq_x_w1_0_ok 10 rfl), ⟨by decide, by decide⟩, by decide +kernel, rfl, rfl⟩
theorem mv_x_O_waysWith : gx_mv mi_x_O_waysWith := ⟨(gx_wb3 gq_x_w3_0_ok 15 rfl), (gx_sb (i := 34) (n := 3) rfl)⟩
theorem mo_x_O_waysOn : gx_mo mi_x_O_waysOn 3 := ⟨(gx_ic3 (i := 44) rfl rfl), (gx_wb1 gq_x_w1_0_ok 10 rfl), ⟨by decide, by decide⟩, by decide +kernel, rfl, rfl⟩
theorem mv_x_O_waysOn : gx_mv mi_x_O_waysOn := ⟨(gx_wb3 gq_x_w3_0_ok 16 rfl), (gx_sb (i := 31) (n := 3) rfl)⟩
theorem mo_x_O_fill : gx_mo mi_x_O_fill 0 := ⟨(gx_ic3 (i := 33) rfl rfl), (gx_wb1 gq_x_w1_0_ok 10 rfl), ⟨by decide, by decide⟩, by decide +kernel, rfl, rfl⟩
theorem mv_x_O_fill : gx_mv mi_x_O_fill := ⟨(gx_wb3 gq_x_w3_0_ok 17 rfl), (gx_sb (i := 30) (n := 3) rfl)⟩
theorem mo_x_O_leastNext : gx_mo mi_x_O_leastNext 3 := ⟨(gx_ic3 (i := 75) rfl rfl), (gx_wb1 gq_x_w1_0_ok 10 rfl), ⟨by decide, by decide⟩, by decide +kernel, rfl, rfl⟩
theorem mv_x_O_leastNext : gx_mv mi_x_O_leastNext := ⟨(gx_wb3 gq_x_w3_0_ok 18 rfl), (gx_sb (i := 37) (n := 3) rfl)⟩
theorem mo_x_O_firstUnder : gx_mo mi_x_O_firstUnder 1 := ⟨(gx_ic3 (i := 71) rfl rfl), (gx_wb1 gq_x_w1_0_ok 10 rfl), ⟨by decide, by decide⟩, by decide +kernel, rfl, rfl⟩
theorem mv_x_O_firstUnder : gx_mv mi_x_O_firstUnder := ⟨(gx_wb3 gq_x_w3_0_ok 19 rfl), (gx_sb (i := 36) (n := 3) rfl)⟩
theorem mo_x_O_total : gx_mo mi_x_O_total 0 := ⟨(gx_ic3 (i := 67) rfl rfl), (gx_wb1 gq_x_w1_0_ok 10 rfl), ⟨by decide, by decide⟩, by decide +kernel, rfl, rfl⟩
theorem mv_x_O_total : gx_mv mi_x_O_total := ⟨(gx_wb3 gq_x_w3_0_ok 20 rfl), (gx_sb (i := 35) (n := 3) rfl)⟩
theorem mo_x_E_orders : gx_mo mi_x_E_orders 1 := ⟨(gx_ic3 (i := 29) rfl rfl), (gx_wb1 gq_x_w1_0_ok 0 rfl), ⟨by decide, by decide⟩, by decide +kernel, rfl, rfl⟩
theorem mv_x_E_orders : gx_mv mi_x_E_orders := ⟨(gx_wb3 gq_x_w3_0_ok 21 rfl), (gx_wb3 gq_x_w3_0_ok 22 rfl)⟩
theorem mo_x_E_needed : gx_mo mi_x_E_needed 0 := ⟨(gx_ic3 (i := 79) rfl rfl), (gx_wb1 gq_x_w1_0_ok 0 rfl), ⟨by decide, by decide⟩, by decide +kernel, rfl, rfl⟩
theorem mv_x_E_needed : gx_mv mi_x_E_needed := ⟨(gx_wb3 gq_x_w3_0_ok 23 rfl), (gx_wb3 gq_x_w3_0_ok 24 rfl)⟩
theorem mo_x_E_more : gx_mo mi_x_E_more 1 := ⟨(gx_ic3 (i := 83) rfl rfl), (gx_wb1 gq_x_w1_0_ok 0 rfl), ⟨by decide, by decide⟩, by decide +kernel, rfl, rfl⟩
theorem mv_x_E_more : gx_mv mi_x_E_more := ⟨(gx_wb3 gq_x_w3_0_ok 25 rfl), (gx_wb3 gq_x_w3_0_ok 26 rfl)⟩
theorem mo_x_E_seeds : gx_mo mi_x_E_seeds 2 := ⟨(gx_ic3 (i := 89) rfl rfl), (gx_wb1 gq_x_w1_0_ok 0 rfl), ⟨by decide, by decide⟩, by decide +kernel, rfl, rfl⟩
theorem mv_x_E_seeds : gx_mv mi_x_E_seeds := ⟨(gx_wb3 gq_x_w3_0_ok 27 rfl), (gx_wb3 gq_x_w3_0_ok 28 rfl)⟩
theorem mo_x_E_row : gx_mo mi_x_E_row 1 := ⟨(gx_ic3 (i := 97) rfl rfl), (gx_wb1 gq_x_w1_0_ok 0 rfl), ⟨by decide, by decide⟩, by decide +kernel, rfl, rfl⟩
theorem mv_x_E_row : gx_mv mi_x_E_row := ⟨(gx_wb3 gq_x_w3_0_ok 29 rfl), (gx_wb3 gq_x_w3_1_ok 0 rfl)⟩
theorem mo_x_E_firstUntrue : gx_mo mi_x_E_firstUntrue 0 := ⟨(gx_ic3 (i := 105) rfl rfl), (gx_wb1 gq_x_w1_0_ok 0 rfl), ⟨by decide, by decide⟩, by decide +kernel, rfl, rfl⟩
theorem mv_x_E_firstUntrue : gx_mv mi_x_E_firstUntrue := ⟨(gx_wb3 gq_x_w3_1_ok 1 rfl), (gx_sb (i := 38) (n := 11) rfl)⟩
theorem mo_x_E_slacked : gx_mo mi_x_E_slacked 0 := ⟨(gx_ic3 (i := 101) rfl rfl), (gx_wb1 gq_x_w1_0_ok 0 rfl), ⟨by decide, by decide⟩, by decide +kernel, rfl, rfl⟩
theorem mv_x_E_slacked : gx_mv mi_x_E_slacked := ⟨(gx_wb3 gq_x_w3_1_ok 2 rfl), (gx_wb3 gq_x_w3_1_ok 3 rfl)⟩
theorem mo_x_E_judge : gx_mo mi_x_E_judge 0 := ⟨(gx_ic3 (i := 109) rfl rfl), (gx_wb1 gq_x_w1_0_ok 0 rfl), ⟨by decide, by decide⟩, by decide +kernel, rfl, rfl⟩
theorem mv_x_E_judge : gx_mv mi_x_E_judge := ⟨(gx_wb3 gq_x_w3_1_ok 4 rfl), (gx_wb3 gq_x_w3_1_ok 5 rfl)⟩
theorem mo_x_W_visit : gx_mo mi_x_W_visit 3 := ⟨(gx_ic3 (i := 123) rfl rfl), (gx_wb1 gq_x_w1_0_ok 12 rfl), ⟨by decide, by decide⟩, by decide +kernel, rfl, rfl⟩
theorem mv_x_W_visit : gx_mv mi_x_W_visit := ⟨(gx_wb3 gq_x_w3_1_ok 6 rfl), (gx_sb (i := 40) (n := 4) rfl)⟩
theorem mo_x_W_explore : gx_mo mi_x_W_explore 0 := ⟨(gx_ic3 (i := 118) rfl rfl), (gx_wb1 gq_x_w1_0_ok 12 rfl), ⟨by decide, by decide⟩, by decide +kernel, rfl, rfl⟩
theorem mv_x_W_explore : gx_mv mi_x_W_explore := ⟨(gx_wb3 gq_x_w3_1_ok 7 rfl), (gx_sb (i := 39) (n := 4) rfl)⟩
theorem mo_x_W_minutesTo : gx_mo mi_x_W_minutesTo 2 := ⟨(gx_ic3 (i := 134) rfl rfl), (gx_wb1 gq_x_w1_0_ok 12 rfl), ⟨by decide, by decide⟩, by decide +kernel, rfl, rfl⟩
theorem mv_x_W_minutesTo : gx_mv mi_x_W_minutesTo := ⟨(gx_wb3 gq_x_w3_1_ok 8 rfl), (gx_sb (i := 42) (n := 4) rfl)⟩
theorem mo_x_W_fewestTo : gx_mo mi_x_W_fewestTo 1 := ⟨(gx_ic3 (i := 130) rfl rfl), (gx_wb1 gq_x_w1_0_ok 12 rfl), ⟨by decide, by decide⟩, by decide +kernel, rfl, rfl⟩
theorem mv_x_W_fewestTo : gx_mv mi_x_W_fewestTo := ⟨(gx_wb3 gq_x_w3_1_ok 9 rfl), (gx_sb (i := 41) (n := 4) rfl)⟩
theorem mo_x_E_way : gx_mo mi_x_E_way 1 := ⟨(gx_ic3 (i := 114) rfl rfl), (gx_wb1 gq_x_w1_0_ok 0 rfl), ⟨by decide, by decide⟩, by decide +kernel, rfl, rfl⟩
theorem mv_x_E_way : gx_mv mi_x_E_way := ⟨(gx_wb3 gq_x_w3_1_ok 10 rfl), (gx_wb3 gq_x_w3_1_ok 11 rfl)⟩
theorem mo_x_W_reachedWithin : gx_mo mi_x_W_reachedWithin 1 := ⟨(gx_ic3 (i := 142) rfl rfl), (gx_wb1 gq_x_w1_0_ok 12 rfl), ⟨by decide, by decide⟩, by decide +kernel, rfl, rfl⟩
theorem mv_x_W_reachedWithin : gx_mv mi_x_W_reachedWithin := ⟨(gx_wb3 gq_x_w3_1_ok 12 rfl), (gx_sb (i := 43) (n := 4) rfl)⟩
theorem mo_x_E_reach : gx_mo mi_x_E_reach 1 := ⟨(gx_ic3 (i := 138) rfl rfl), (gx_wb1 gq_x_w1_0_ok 0 rfl), ⟨by decide, by decide⟩, by decide +kernel, rfl, rfl⟩
theorem mv_x_E_reach : gx_mv mi_x_E_reach := ⟨(gx_wb3 gq_x_w3_1_ok 13 rfl), (gx_wb3 gq_x_w3_1_ok 14 rfl)⟩
theorem mo_x_W_lowestAt : gx_mo mi_x_W_lowestAt 2 := ⟨(gx_ic3 (i := 151) rfl rfl), (gx_wb1 gq_x_w1_0_ok 12 rfl), ⟨by decide, by decide⟩, by decide +kernel, rfl, rfl⟩
theorem mv_x_W_lowestAt : gx_mv mi_x_W_lowestAt := ⟨(gx_wb3 gq_x_w3_1_ok 15 rfl), (gx_sb (i := 44) (n := 4) rfl)⟩
theorem mo_x_E_lowest : gx_mo mi_x_E_lowest 2 := ⟨(gx_ic3 (i := 147) rfl rfl), (gx_wb1 gq_x_w1_0_ok 0 rfl), ⟨by decide, by decide⟩, by decide +kernel, rfl, rfl⟩
theorem mv_x_E_lowest : gx_mv mi_x_E_lowest := ⟨(gx_wb3 gq_x_w3_1_ok 16 rfl), (gx_wb3 gq_x_w3_1_ok 17 rfl)⟩
theorem mo_x_R_become_15_1 : gx_mo mi_x_R_become_15_1 1 := ⟨(gx_ic2 (i := 110) rfl rfl), (gx_wb1 gq_x_w1_0_ok 8 rfl), ⟨by decide, by decide⟩, by decide +kernel, rfl, rfl⟩
theorem mv_x_R_become_15_1 : gx_mv mi_x_R_become_15_1 := ⟨(gx_wb2 gq_x_w2_0_ok 17 rfl), (gx_sb (i := 11) (n := 9) rfl)⟩
theorem mo_x_E_image : gx_mo mi_x_E_image 0 := ⟨(gx_ic3 (i := 155) rfl rfl), (gx_wb1 gq_x_w1_0_ok 0 rfl), ⟨by decide, by decide⟩, by decide +kernel, rfl, rfl⟩
theorem mv_x_E_image : gx_mv mi_x_E_image := ⟨(gx_wb3 gq_x_w3_1_ok 18 rfl), (gx_wb3 gq_x_w3_1_ok 19 rfl)⟩
theorem mo_x_R_become_1_15 : gx_mo mi_x_R_become_1_15 1 := ⟨(gx_ic2 (i := 110) rfl rfl), (gx_wb1 gq_x_w1_0_ok 8 rfl), ⟨by decide, by decide⟩, by decide +kernel, rfl, rfl⟩
theorem mv_x_R_become_1_15 : gx_mv mi_x_R_become_1_15 := ⟨(gx_wb2 gq_x_w2_0_ok 17 rfl), (gx_sb (i := 11) (n := 9) rfl)⟩
theorem mo_x_E_on : gx_mo mi_x_E_on 0 := ⟨(gx_ic3 (i := 159) rfl rfl), (gx_wb1 gq_x_w1_0_ok 0 rfl), ⟨by decide, by decide⟩, by decide +kernel, rfl, rfl⟩
theorem mv_x_E_on : gx_mv mi_x_E_on := ⟨(gx_wb3 gq_x_w3_1_ok 20 rfl), (gx_wb3 gq_x_w3_1_ok 21 rfl)⟩
theorem fl_M_15 : gx_fl "EachBearsPillar$Mind" 15 2 1 := ⟨_, _, _, rfl, by decide, Or.inl (gx_wb1 gq_x_w1_0_ok 13 rfl)⟩
theorem fl_M_19 : gx_fl "EachBearsPillar$Mind" 19 2 2 := ⟨_, _, _, rfl, by decide, Or.inl (gx_wb1 gq_x_w1_0_ok 14 rfl)⟩
theorem fl_M_22 : gx_fl "EachBearsPillar$Mind" 22 2 3 := ⟨_, _, _, rfl, by decide, Or.inl (gx_wb1 gq_x_w1_0_ok 15 rfl)⟩
theorem fl_M_25 : gx_fl "EachBearsPillar$Mind" 25 2 4 := ⟨_, _, _, rfl, by decide, Or.inl (gx_wb1 gq_x_w1_0_ok 16 rfl)⟩
theorem fl_M_29 : gx_fl "EachBearsPillar$Mind" 29 2 5 := ⟨_, _, _, rfl, by decide, Or.inl (gx_wb1 gq_x_w1_0_ok 17 rfl)⟩
theorem fl_M_32 : gx_fl "EachBearsPillar$Mind" 32 2 6 := ⟨_, _, _, rfl, by decide, Or.inl (gx_wb1 gq_x_w1_0_ok 18 rfl)⟩
theorem fl_M_35 : gx_fl "EachBearsPillar$Mind" 35 2 7 := ⟨_, _, _, rfl, by decide, Or.inl (gx_wb1 gq_x_w1_0_ok 19 rfl)⟩
theorem fl_M_38 : gx_fl "EachBearsPillar$Mind" 38 2 8 := ⟨_, _, _, rfl, by decide, Or.inl (gx_wb1 gq_x_w1_0_ok 20 rfl)⟩
theorem fl_M_41 : gx_fl "EachBearsPillar$Mind" 41 2 9 := ⟨_, _, _, rfl, by decide, Or.inl (gx_wb1 gq_x_w1_0_ok 21 rfl)⟩
theorem fl_M_44 : gx_fl "EachBearsPillar$Mind" 44 1 1 := ⟨_, _, _, rfl, by decide, Or.inr (gx_nb1 gq_x_n1_0_ok 0 rfl)⟩
theorem fl_M_47 : gx_fl "EachBearsPillar$Mind" 47 1 2 := ⟨_, _, _, rfl, by decide, Or.inr (gx_nb1 gq_x_n1_0_ok 1 rfl)⟩
theorem fl_M_52 : gx_fl "EachBearsPillar$Mind" 52 1 7 := ⟨_, _, _, rfl, by decide, Or.inr (gx_nb1 gq_x_n1_0_ok 2 rfl)⟩
theorem fl_M_57 : gx_fl "EachBearsPillar$Mind" 57 1 8 := ⟨_, _, _, rfl, by decide, Or.inr (gx_nb1 gq_x_n1_0_ok 3 rfl)⟩
theorem fl_M_64 : gx_fl "EachBearsPillar$Mind" 64 1 5 := ⟨_, _, _, rfl, by decide, Or.inr (gx_nb1 gq_x_n1_0_ok 4 rfl)⟩
theorem fl_M_67 : gx_fl "EachBearsPillar$Mind" 67 1 6 := ⟨_, _, _, rfl, by decide, Or.inr (gx_nb1 gq_x_n1_0_ok 5 rfl)⟩
theorem fl_M_70 : gx_fl "EachBearsPillar$Mind" 70 1 3 := ⟨_, _, _, rfl, by decide, Or.inr (gx_nb1 gq_x_n1_0_ok 6 rfl)⟩
theorem fl_M_73 : gx_fl "EachBearsPillar$Mind" 73 1 4 := ⟨_, _, _, rfl, by decide, Or.inr (gx_nb1 gq_x_n1_0_ok 7 rfl)⟩
theorem fl_M_82 : gx_fl "EachBearsPillar$Mind" 82 1 0 := ⟨_, _, _, rfl, by decide, Or.inr (gx_nb1 gq_x_n1_0_ok 8 rfl)⟩
theorem fl_M_9 : gx_fl "EachBearsPillar$Mind" 9 2 0 := ⟨_, _, _, rfl, by decide, Or.inl (gx_wb1 gq_x_w1_0_ok 22 rfl)⟩
theorem fl_O_15 : gx_fl "EachBearsPillar$Orders" 15 5 1 := ⟨_, _, _, rfl, by decide, Or.inl (gx_wb1 gq_x_w1_0_ok 23 rfl)⟩
theorem fl_O_19 : gx_fl "EachBearsPillar$Orders" 19 5 2 := ⟨_, _, _, rfl, by decide, Or.inl (gx_wb1 gq_x_w1_0_ok 24 rfl)⟩
theorem fl_O_22 : gx_fl "EachBearsPillar$Orders" 22 2 0 := ⟨_, _, _, rfl, by decide, Or.inr (gx_nb1 gq_x_n1_0_ok 9 rfl)⟩
theorem fl_O_28 : gx_fl "EachBearsPillar$Orders" 28 1 0 := ⟨_, _, _, rfl, by decide, Or.inr (gx_nb1 gq_x_n1_0_ok 10 rfl)⟩
theorem fl_O_74 : gx_fl "EachBearsPillar$Orders" 74 2 6 := ⟨_, _, _, rfl, by decide, Or.inr (gx_nb1 gq_x_n1_0_ok 11 rfl)⟩
theorem fl_O_9 : gx_fl "EachBearsPillar$Orders" 9 5 0 := ⟨_, _, _, rfl, by decide, Or.inl (gx_wb1 gq_x_w1_0_ok 25 rfl)⟩
theorem fl_R_15 : gx_fl "EachBearsPillar$Roof" 15 1 1 := ⟨_, _, _, rfl, by decide, Or.inl (gx_wb1 gq_x_w1_0_ok 26 rfl)⟩
theorem fl_R_18 : gx_fl "EachBearsPillar$Roof" 18 1 2 := ⟨_, _, _, rfl, by decide, Or.inl (gx_wb1 gq_x_w1_0_ok 27 rfl)⟩
theorem fl_R_21 : gx_fl "EachBearsPillar$Roof" 21 1 3 := ⟨_, _, _, rfl, by decide, Or.inl (gx_wb1 gq_x_w1_0_ok 28 rfl)⟩
theorem fl_R_25 : gx_fl "EachBearsPillar$Roof" 25 1 4 := ⟨_, _, _, rfl, by decide, Or.inl (gx_wb1 gq_x_w1_0_ok 29 rfl)⟩
theorem fl_R_28 : gx_fl "EachBearsPillar$Roof" 28 1 5 := ⟨_, _, _, rfl, by decide, Or.inl (gx_wb1 gq_x_w1_1_ok 0 rfl)⟩
theorem fl_R_31 : gx_fl "EachBearsPillar$Roof" 31 1 6 := ⟨_, _, _, rfl, by decide, Or.inl (gx_wb1 gq_x_w1_1_ok 1 rfl)⟩
theorem fl_R_34 : gx_fl "EachBearsPillar$Roof" 34 1 7 := ⟨_, _, _, rfl, by decide, Or.inl (gx_wb1 gq_x_w1_1_ok 2 rfl)⟩
theorem fl_R_37 : gx_fl "EachBearsPillar$Roof" 37 1 8 := ⟨_, _, _, rfl, by decide, Or.inl (gx_wb1 gq_x_w1_1_ok 3 rfl)⟩
theorem fl_R_9 : gx_fl "EachBearsPillar$Roof" 9 1 0 := ⟨_, _, _, rfl, by decide, Or.inl (gx_wb1 gq_x_w1_1_ok 4 rfl)⟩
theorem fl_T_15 : gx_fl "EachBearsPillar$Text" 15 3 1 := ⟨_, _, _, rfl, by decide, Or.inl (gx_wb1 gq_x_w1_1_ok 5 rfl)⟩
theorem fl_T_19 : gx_fl "EachBearsPillar$Text" 19 3 2 := ⟨_, _, _, rfl, by decide, Or.inl (gx_wb1 gq_x_w1_1_ok 6 rfl)⟩
theorem fl_T_22 : gx_fl "EachBearsPillar$Text" 22 3 3 := ⟨_, _, _, rfl, by decide, Or.inl (gx_wb1 gq_x_w1_1_ok 7 rfl)⟩
theorem fl_T_25 : gx_fl "EachBearsPillar$Text" 25 3 4 := ⟨_, _, _, rfl, by decide, Or.inl (gx_wb1 gq_x_w1_1_ok 8 rfl)⟩
theorem fl_T_28 : gx_fl "EachBearsPillar$Text" 28 3 5 := ⟨_, _, _, rfl, by decide, Or.inl (gx_wb1 gq_x_w1_1_ok 9 rfl)⟩
theorem fl_T_9 : gx_fl "EachBearsPillar$Text" 9 3 0 := ⟨_, _, _, rfl, by decide, Or.inl (gx_wb1 gq_x_w1_1_ok 10 rfl)⟩
theorem fl_W_15 : gx_fl "EachBearsPillar$Walk" 15 4 1 := ⟨_, _, _, rfl, by decide, Or.inl (gx_wb1 gq_x_w1_1_ok 11 rfl)⟩
theorem fl_W_19 : gx_fl "EachBearsPillar$Walk" 19 4 2 := ⟨_, _, _, rfl, by decide, Or.inl (gx_wb1 gq_x_w1_1_ok 12 rfl)⟩
theorem fl_W_22 : gx_fl "EachBearsPillar$Walk" 22 4 3 := ⟨_, _, _, rfl, by decide, Or.inl (gx_wb1 gq_x_w1_1_ok 13 rfl)⟩
theorem fl_W_30 : gx_fl "EachBearsPillar$Walk" 30 2 0 := ⟨_, _, _, rfl, by decide, Or.inr (gx_nb1 gq_x_n1_0_ok 12 rfl)⟩
theorem fl_W_36 : gx_fl "EachBearsPillar$Walk" 36 1 1 := ⟨_, _, _, rfl, by decide, Or.inr (gx_nb1 gq_x_n1_0_ok 13 rfl)⟩
theorem fl_W_41 : gx_fl "EachBearsPillar$Walk" 41 1 2 := ⟨_, _, _, rfl, by decide, Or.inr (gx_nb1 gq_x_n1_0_ok 14 rfl)⟩
theorem fl_W_56 : gx_fl "EachBearsPillar$Walk" 56 2 1 := ⟨_, _, _, rfl, by decide, Or.inr (gx_nb1 gq_x_n1_0_ok 15 rfl)⟩
theorem fl_W_57 : gx_fl "EachBearsPillar$Walk" 57 2 2 := ⟨_, _, _, rfl, by decide, Or.inr (gx_nb1 gq_x_n1_0_ok 16 rfl)⟩
theorem fl_W_9 : gx_fl "EachBearsPillar$Walk" 9 4 0 := ⟨_, _, _, rfl, by decide, Or.inl (gx_wb1 gq_x_w1_1_ok 14 rfl)⟩
theorem fl_E_10 : gx_fl "EachBearsPillar" 10 0 0 := ⟨_, _, _, rfl, by decide, Or.inl (gx_wb1 gq_x_w1_1_ok 15 rfl)⟩
theorem fl_E_100 : gx_fl "EachBearsPillar" 100 1 2 := ⟨_, _, _, rfl, by decide, Or.inr (gx_nb1 gq_x_n1_0_ok 17 rfl)⟩
theorem fl_E_106 : gx_fl "EachBearsPillar" 106 1 6 := ⟨_, _, _, rfl, by decide, Or.inr (gx_nb1 gq_x_n1_0_ok 18 rfl)⟩
theorem fl_E_112 : gx_fl "EachBearsPillar" 112 1 1 := ⟨_, _, _, rfl, by decide, Or.inr (gx_nb1 gq_x_n1_0_ok 19 rfl)⟩
theorem fl_E_122 : gx_fl "EachBearsPillar" 122 1 3 := ⟨_, _, _, rfl, by decide, Or.inr (gx_nb1 gq_x_n1_0_ok 20 rfl)⟩
theorem fl_E_129 : gx_fl "EachBearsPillar" 129 1 4 := ⟨_, _, _, rfl, by decide, Or.inr (gx_nb1 gq_x_n1_0_ok 21 rfl)⟩
theorem fl_E_132 : gx_fl "EachBearsPillar" 132 1 5 := ⟨_, _, _, rfl, by decide, Or.inr (gx_nb1 gq_x_n1_0_ok 22 rfl)⟩
theorem fl_E_145 : gx_fl "EachBearsPillar" 145 2 9 := ⟨_, _, _, rfl, by decide, Or.inr (gx_nb1 gq_x_n1_0_ok 23 rfl)⟩
theorem fl_E_158 : gx_fl "EachBearsPillar" 158 1 0 := ⟨_, _, _, rfl, by decide, Or.inr (gx_nb1 gq_x_n1_0_ok 24 rfl)⟩
theorem fl_E_16 : gx_fl "EachBearsPillar" 16 0 1 := ⟨_, _, _, rfl, by decide, Or.inl (gx_wb1 gq_x_w1_1_ok 16 rfl)⟩
theorem fl_E_164 : gx_fl "EachBearsPillar" 164 2 7 := ⟨_, _, _, rfl, by decide, Or.inr (gx_nb1 gq_x_n1_0_ok 25 rfl)⟩
theorem fl_E_167 : gx_fl "EachBearsPillar" 167 2 2 := ⟨_, _, _, rfl, by decide, Or.inr (gx_nb1 gq_x_n1_0_ok 26 rfl)⟩
theorem fl_E_171 : gx_fl "EachBearsPillar" 171 2 4 := ⟨_, _, _, rfl, by decide, Or.inr (gx_nb1 gq_x_n1_0_ok 27 rfl)⟩
theorem fl_E_187 : gx_fl "EachBearsPillar" 187 2 3 := ⟨_, _, _, rfl, by decide, Or.inr (gx_nb1 gq_x_n1_0_ok 28 rfl)⟩
theorem fl_E_19 : gx_fl "EachBearsPillar" 19 0 2 := ⟨_, _, _, rfl, by decide, Or.inl (gx_wb1 gq_x_w1_1_ok 17 rfl)⟩
theorem fl_E_190 : gx_fl "EachBearsPillar" 190 2 6 := ⟨_, _, _, rfl, by decide, Or.inr (gx_nb1 gq_x_n1_0_ok 29 rfl)⟩
theorem fl_E_22 : gx_fl "EachBearsPillar" 22 0 3 := ⟨_, _, _, rfl, by decide, Or.inl (gx_wb1 gq_x_w1_1_ok 18 rfl)⟩
theorem fl_E_229 : gx_fl "EachBearsPillar" 229 3 2 := ⟨_, _, _, rfl, by decide, Or.inr (gx_nb1 gq_x_n1_1_ok 0 rfl)⟩
theorem fl_E_238 : gx_fl "EachBearsPillar" 238 3 4 := ⟨_, _, _, rfl, by decide, Or.inr (gx_nb1 gq_x_n1_1_ok 1 rfl)⟩
theorem fl_E_241 : gx_fl "EachBearsPillar" 241 3 3 := ⟨_, _, _, rfl, by decide, Or.inr (gx_nb1 gq_x_n1_1_ok 2 rfl)⟩
theorem fl_E_251 : gx_fl "EachBearsPillar" 251 2 5 := ⟨_, _, _, rfl, by decide, Or.inr (gx_nb1 gq_x_n1_1_ok 3 rfl)⟩
theorem fl_E_31 : gx_fl "EachBearsPillar" 31 0 4 := ⟨_, _, _, rfl, by decide, Or.inl (gx_wb1 gq_x_w1_1_ok 19 rfl)⟩
theorem fl_E_38 : gx_fl "EachBearsPillar" 38 0 5 := ⟨_, _, _, rfl, by decide, Or.inl (gx_wb1 gq_x_w1_1_ok 20 rfl)⟩
theorem fl_E_47 : gx_fl "EachBearsPillar" 47 0 6 := ⟨_, _, _, rfl, by decide, Or.inl (gx_wb1 gq_x_w1_1_ok 21 rfl)⟩
theorem fl_E_54 : gx_fl "EachBearsPillar" 54 0 7 := ⟨_, _, _, rfl, by decide, Or.inl (gx_wb1 gq_x_w1_1_ok 22 rfl)⟩
theorem fl_E_58 : gx_fl "EachBearsPillar" 58 0 8 := ⟨_, _, _, rfl, by decide, Or.inl (gx_wb1 gq_x_w1_1_ok 23 rfl)⟩
theorem fl_E_62 : gx_fl "EachBearsPillar" 62 0 9 := ⟨_, _, _, rfl, by decide, Or.inl (gx_wb1 gq_x_w1_1_ok 24 rfl)⟩
theorem fl_E_66 : gx_fl "EachBearsPillar" 66 0 10 := ⟨_, _, _, rfl, by decide, Or.inl (gx_wb1 gq_x_w1_1_ok 25 rfl)⟩
theorem fl_E_73 : gx_fl "EachBearsPillar" 73 3 1 := ⟨_, _, _, rfl, by decide, Or.inr (gx_nb1 gq_x_n1_1_ok 4 rfl)⟩
theorem fl_E_90 : gx_fl "EachBearsPillar" 90 1 7 := ⟨_, _, _, rfl, by decide, Or.inr (gx_nb1 gq_x_n1_1_ok 5 rfl)⟩
theorem fl_E_97 : gx_fl "EachBearsPillar" 97 1 8 := ⟨_, _, _, rfl, by decide, Or.inr (gx_nb1 gq_x_n1_1_ok 6 rfl)⟩
theorem pf_M_1 (v : Int32) : gx_pf 2 1 v := ⟨_, _, _, .int, rfl, rfl, by decide +kernel, rfl, rfl⟩
theorem pf_M_2 (v : Int32) : gx_pf 2 2 v := ⟨_, _, _, .int, rfl, rfl, by decide +kernel, rfl, rfl⟩
theorem pf_M_3 (v : Int32) : gx_pf 2 3 v := ⟨_, _, _, .int, rfl, rfl, by decide +kernel, rfl, rfl⟩
theorem pf_R_0 (v : Int32) : gx_pf 1 0 v := ⟨_, _, _, .int, rfl, rfl, by decide +kernel, rfl, rfl⟩
theorem pf_R_1 (v : Int32) : gx_pf 1 1 v := ⟨_, _, _, .int, rfl, rfl, by decide +kernel, rfl, rfl⟩
theorem pf_R_2 (v : Int32) : gx_pf 1 2 v := ⟨_, _, _, .int, rfl, rfl, by decide +kernel, rfl, rfl⟩
theorem pf_T_1 (v : Int32) : gx_pf 3 1 v := ⟨_, _, _, .int, rfl, rfl, by decide +kernel, rfl, rfl⟩
theorem pf_T_2 (v : Int32) : gx_pf 3 2 v := ⟨_, _, _, .int, rfl, rfl, by decide +kernel, rfl, rfl⟩
theorem pf_T_3 (v : Int32) : gx_pf 3 3 v := ⟨_, _, _, .int, rfl, rfl, by decide +kernel, rfl, rfl⟩
theorem pf_T_5 (v : Int32) : gx_pf 3 5 v := ⟨_, _, _, .int, rfl, rfl, by decide +kernel, rfl, rfl⟩
theorem pf_W_3 (v : Int32) : gx_pf 4 3 v := ⟨_, _, _, .int, rfl, rfl, by decide +kernel, rfl, rfl⟩
theorem pf_E_3_1 : gx_pf 0 3 1 := ⟨_, _, _, .boolean, rfl, rfl, by decide +kernel, rfl, rfl⟩
theorem pf_E_9 (v : Int32) : gx_pf 0 9 v := ⟨_, _, _, .int, rfl, rfl, by decide +kernel, rfl, rfl⟩
theorem ln_M_101_x_M_weigh : gx_ln "EachBearsPillar$Mind" 101 mi_x_M_weigh := Or.inl (gx_wb2 gq_x_w2_1_ok 27 rfl)
theorem ln_M_104_x_R_hasBearer_1 : gx_ln "EachBearsPillar$Mind" 104 mi_x_R_hasBearer_1 := Or.inr (gx_nb2 gq_x_n2_0_ok 0 rfl)
theorem ln_M_111_x_M_firstOverloaded : gx_ln "EachBearsPillar$Mind" 111 mi_x_M_firstOverloaded := Or.inl (gx_wb2 gq_x_w2_1_ok 28 rfl)
theorem ln_M_115_x_M_firstFalling : gx_ln "EachBearsPillar$Mind" 115 mi_x_M_firstFalling := Or.inl (gx_wb2 gq_x_w2_1_ok 29 rfl)
theorem ln_M_118_x_M_isBorne : gx_ln "EachBearsPillar$Mind" 118 mi_x_M_isBorne := Or.inl (gx_wb2 gq_x_w2_2_ok 0 rfl)
theorem ln_M_48_x_E_setCell : gx_ln "EachBearsPillar$Mind" 48 mi_x_E_setCell := Or.inr (gx_nb2 gq_x_n2_0_ok 1 rfl)
theorem ln_M_53_x_E_copyCells : gx_ln "EachBearsPillar$Mind" 53 mi_x_E_copyCells := Or.inr (gx_nb2 gq_x_n2_0_ok 2 rfl)
theorem ln_M_60_x_E_cell : gx_ln "EachBearsPillar$Mind" 60 mi_x_E_cell := Or.inr (gx_nb2 gq_x_n2_0_ok 3 rfl)
theorem ln_M_85_x_M_topOf : gx_ln "EachBearsPillar$Mind" 85 mi_x_M_topOf := Or.inl (gx_wb2 gq_x_w2_2_ok 1 rfl)
theorem ln_M_88_x_M_canBear : gx_ln "EachBearsPillar$Mind" 88 mi_x_M_canBear := Or.inl (gx_wb2 gq_x_w2_2_ok 2 rfl)
theorem ln_M_92_x_M_mightOf : gx_ln "EachBearsPillar$Mind" 92 mi_x_M_mightOf := Or.inl (gx_wb2 gq_x_w2_2_ok 3 rfl)
theorem ln_M_95_x_M_shareOf : gx_ln "EachBearsPillar$Mind" 95 mi_x_M_shareOf := Or.inl (gx_wb2 gq_x_w2_2_ok 4 rfl)
theorem ln_M_98_x_M_stand : gx_ln "EachBearsPillar$Mind" 98 mi_x_M_stand := Or.inl (gx_wb2 gq_x_w2_2_ok 5 rfl)
theorem ln_O_34_x_M_topOf : gx_ln "EachBearsPillar$Orders" 34 mi_x_M_topOf := Or.inr (gx_nb3 gq_x_n3_0_ok 0 rfl)
theorem ln_O_38_x_M_canBear : gx_ln "EachBearsPillar$Orders" 38 mi_x_M_canBear := Or.inr (gx_nb3 gq_x_n3_0_ok 1 rfl)
theorem ln_O_42_x_M_mightOf : gx_ln "EachBearsPillar$Orders" 42 mi_x_M_mightOf := Or.inr (gx_nb3 gq_x_n3_0_ok 2 rfl)
theorem ln_O_45_x_E_setCell : gx_ln "EachBearsPillar$Orders" 45 mi_x_E_setCell := Or.inr (gx_nb3 gq_x_n3_0_ok 3 rfl)
theorem ln_O_49_x_O_spotOf : gx_ln "EachBearsPillar$Orders" 49 mi_x_O_spotOf := Or.inl (gx_wb3 gq_x_w3_1_ok 22 rfl)
theorem ln_O_53_x_O_waysOn : gx_ln "EachBearsPillar$Orders" 53 mi_x_O_waysOn := Or.inl (gx_wb3 gq_x_w3_1_ok 23 rfl)
theorem ln_O_56_x_E_cell : gx_ln "EachBearsPillar$Orders" 56 mi_x_E_cell := Or.inr (gx_nb3 gq_x_n3_0_ok 4 rfl)
theorem ln_O_60_x_I_bitCount : gx_ln "EachBearsPillar$Orders" 60 mi_x_I_bitCount := Or.inl (gx_wb3 gq_x_w3_1_ok 24 rfl)
theorem ln_O_66_x_O_bearsLeft : gx_ln "EachBearsPillar$Orders" 66 mi_x_O_bearsLeft := Or.inl (gx_wb3 gq_x_w3_1_ok 25 rfl)
theorem ln_O_70_x_O_waysWith : gx_ln "EachBearsPillar$Orders" 70 mi_x_O_waysWith := Or.inl (gx_wb3 gq_x_w3_1_ok 26 rfl)
theorem ln_O_77_x_O_mostOf : gx_ln "EachBearsPillar$Orders" 77 mi_x_O_mostOf := Or.inl (gx_wb3 gq_x_w3_1_ok 27 rfl)
theorem ln_O_80_x_O_leastNext : gx_ln "EachBearsPillar$Orders" 80 mi_x_O_leastNext := Or.inl (gx_wb3 gq_x_w3_1_ok 28 rfl)
theorem ln_R_40_x_E_copyCells : gx_ln "EachBearsPillar$Roof" 40 mi_x_E_copyCells := Or.inr (gx_nb2 gq_x_n2_0_ok 4 rfl)
theorem ln_R_44_x_E_setCell : gx_ln "EachBearsPillar$Roof" 44 mi_x_E_setCell := Or.inr (gx_nb2 gq_x_n2_0_ok 5 rfl)
theorem ln_T_31_x_E_setCell : gx_ln "EachBearsPillar$Text" 31 mi_x_E_setCell := Or.inr (gx_nb2 gq_x_n2_0_ok 6 rfl)
theorem ln_T_35_x_T_rewind : gx_ln "EachBearsPillar$Text" 35 mi_x_T_rewind := Or.inl (gx_wb2 gq_x_w2_2_ok 6 rfl)
theorem ln_T_38_x_T_readStatement : gx_ln "EachBearsPillar$Text" 38 mi_x_T_readStatement := Or.inl (gx_wb2 gq_x_w2_2_ok 7 rfl)
theorem ln_T_42_x_T_here : gx_ln "EachBearsPillar$Text" 42 mi_x_T_here := Or.inl (gx_wb2 gq_x_w2_2_ok 8 rfl)
theorem ln_T_46_x_T_formOf : gx_ln "EachBearsPillar$Text" 46 mi_x_T_formOf := Or.inl (gx_wb2 gq_x_w2_2_ok 9 rfl)
theorem ln_T_50_x_S_isEmpty : gx_ln "EachBearsPillar$Text" 50 mi_x_S_isEmpty := Or.inl (gx_wb2 gq_x_w2_2_ok 10 rfl)
theorem ln_T_55_x_S_length : gx_ln "EachBearsPillar$Text" 55 mi_x_S_length := Or.inl (gx_wb2 gq_x_w2_2_ok 11 rfl)
theorem ln_T_57_x_S_charAt : gx_ln "EachBearsPillar$Text" 57 mi_x_S_charAt := Or.inl (gx_wb2 gq_x_w2_2_ok 12 rfl)
theorem ln_T_61_x_T_readPart : gx_ln "EachBearsPillar$Text" 61 mi_x_T_readPart := Or.inl (gx_wb2 gq_x_w2_2_ok 13 rfl)
theorem ln_T_77_x_T_readKind : gx_ln "EachBearsPillar$Text" 77 mi_x_T_readKind := Or.inl (gx_wb2 gq_x_w2_2_ok 14 rfl)
theorem ln_T_80_x_T_readNumber : gx_ln "EachBearsPillar$Text" 80 mi_x_T_readNumber := Or.inl (gx_wb2 gq_x_w2_2_ok 15 rfl)
theorem ln_T_86_x_T_keepNumber : gx_ln "EachBearsPillar$Text" 86 mi_x_T_keepNumber := Or.inl (gx_wb2 gq_x_w2_2_ok 16 rfl)
theorem ln_T_90_x_E_cell : gx_ln "EachBearsPillar$Text" 90 mi_x_E_cell := Or.inr (gx_nb2 gq_x_n2_0_ok 7 rfl)
theorem ln_W_26_x_E_setCell : gx_ln "EachBearsPillar$Walk" 26 mi_x_E_setCell := Or.inr (gx_nb3 gq_x_n3_0_ok 5 rfl)
theorem ln_W_44_x_W_visit : gx_ln "EachBearsPillar$Walk" 44 mi_x_W_visit := Or.inl (gx_wb3 gq_x_w3_1_ok 29 rfl)
theorem ln_W_48_x_E_cell : gx_ln "EachBearsPillar$Walk" 48 mi_x_E_cell := Or.inr (gx_nb3 gq_x_n3_0_ok 6 rfl)
theorem ln_W_52_x_R_lastAt_1 : gx_ln "EachBearsPillar$Walk" 52 mi_x_R_lastAt_1 := Or.inr (gx_nb3 gq_x_n3_0_ok 7 rfl)
theorem ln_W_58_x_M_isFirm : gx_ln "EachBearsPillar$Walk" 58 mi_x_M_isFirm := Or.inr (gx_nb3 gq_x_n3_0_ok 8 rfl)
theorem ln_W_62_x_W_minutesTo : gx_ln "EachBearsPillar$Walk" 62 mi_x_W_minutesTo := Or.inl (gx_wb3 gq_x_w3_2_ok 0 rfl)
theorem ln_W_66_x_W_fewestTo : gx_ln "EachBearsPillar$Walk" 66 mi_x_W_fewestTo := Or.inl (gx_wb3 gq_x_w3_2_ok 1 rfl)
theorem ln_E_103_x_R_hasBearer_1 : gx_ln "EachBearsPillar" 103 mi_x_R_hasBearer_1 := Or.inr (gx_nb2 gq_x_n2_0_ok 8 rfl)
theorem ln_E_103_x_R_hasBearer_8 : gx_ln "EachBearsPillar" 103 mi_x_R_hasBearer_8 := Or.inr (gx_nb2 gq_x_n2_0_ok 8 rfl)
theorem ln_E_109_x_R_lastAt_1 : gx_ln "EachBearsPillar" 109 mi_x_R_lastAt_1 := Or.inr (gx_nb2 gq_x_n2_0_ok 9 rfl)
theorem ln_E_115_x_M_asTold : gx_ln "EachBearsPillar" 115 mi_x_M_asTold := Or.inr (gx_nb2 gq_x_n2_0_ok 10 rfl)
theorem ln_E_118_x_M_topOf : gx_ln "EachBearsPillar" 118 mi_x_M_topOf := Or.inr (gx_nb2 gq_x_n2_0_ok 11 rfl)
theorem ln_E_125_x_E_cell : gx_ln "EachBearsPillar" 125 mi_x_E_cell := Or.inl (gx_wb1 gq_x_w1_1_ok 26 rfl)
theorem ln_E_135_x_M_canBear : gx_ln "EachBearsPillar" 135 mi_x_M_canBear := Or.inr (gx_nb2 gq_x_n2_0_ok 12 rfl)
theorem ln_E_139_x_M_mightOf : gx_ln "EachBearsPillar" 139 mi_x_M_mightOf := Or.inr (gx_nb2 gq_x_n2_0_ok 13 rfl)
theorem ln_E_142_x_M_standAndWeigh : gx_ln "EachBearsPillar" 142 mi_x_M_standAndWeigh := Or.inr (gx_nb2 gq_x_n2_0_ok 14 rfl)
theorem ln_E_148_x_M_isFirm : gx_ln "EachBearsPillar" 148 mi_x_M_isFirm := Or.inr (gx_nb2 gq_x_n2_0_ok 15 rfl)
theorem ln_E_152_x_M_firstOverloaded : gx_ln "EachBearsPillar" 152 mi_x_M_firstOverloaded := Or.inr (gx_nb2 gq_x_n2_0_ok 16 rfl)
theorem ln_E_155_x_M_firstFalling : gx_ln "EachBearsPillar" 155 mi_x_M_firstFalling := Or.inr (gx_nb2 gq_x_n2_0_ok 17 rfl)
theorem ln_E_161_x_E_sumOf : gx_ln "EachBearsPillar" 161 mi_x_E_sumOf := Or.inl (gx_wb3 gq_x_w3_2_ok 2 rfl)
theorem ln_E_168_x_E_raiseBoth : gx_ln "EachBearsPillar" 168 mi_x_E_raiseBoth := Or.inl (gx_wb3 gq_x_w3_2_ok 3 rfl)
theorem ln_E_174_x_E_setCell : gx_ln "EachBearsPillar" 174 mi_x_E_setCell := Or.inl (gx_wb1 gq_x_w1_1_ok 27 rfl)
theorem ln_E_178_x_O_fill : gx_ln "EachBearsPillar" 178 mi_x_O_fill := Or.inr (gx_nb3 gq_x_n3_0_ok 9 rfl)
theorem ln_E_181_x_O_total : gx_ln "EachBearsPillar" 181 mi_x_O_total := Or.inr (gx_nb3 gq_x_n3_0_ok 10 rfl)
theorem ln_E_184_x_O_firstUnder : gx_ln "EachBearsPillar" 184 mi_x_O_firstUnder := Or.inr (gx_nb3 gq_x_n3_0_ok 11 rfl)
theorem ln_E_191_x_M_weigh : gx_ln "EachBearsPillar" 191 mi_x_M_weigh := Or.inr (gx_nb3 gq_x_n3_0_ok 12 rfl)
theorem ln_E_194_x_M_isBorne : gx_ln "EachBearsPillar" 194 mi_x_M_isBorne := Or.inr (gx_nb3 gq_x_n3_0_ok 13 rfl)
theorem ln_E_197_x_M_stand : gx_ln "EachBearsPillar" 197 mi_x_M_stand := Or.inr (gx_nb3 gq_x_n3_0_ok 14 rfl)
theorem ln_E_203_x_E_firstUntrue : gx_ln "EachBearsPillar" 203 mi_x_E_firstUntrue := Or.inl (gx_wb3 gq_x_w3_2_ok 4 rfl)
theorem ln_E_211_x_W_explore : gx_ln "EachBearsPillar" 211 mi_x_W_explore := Or.inr (gx_nb3 gq_x_n3_0_ok 15 rfl)
theorem ln_E_214_x_W_fewestTo : gx_ln "EachBearsPillar" 214 mi_x_W_fewestTo := Or.inr (gx_nb3 gq_x_n3_0_ok 16 rfl)
theorem ln_E_217_x_W_reachedWithin : gx_ln "EachBearsPillar" 217 mi_x_W_reachedWithin := Or.inr (gx_nb3 gq_x_n3_0_ok 17 rfl)
theorem ln_E_220_x_W_lowestAt : gx_ln "EachBearsPillar" 220 mi_x_W_lowestAt := Or.inr (gx_nb3 gq_x_n3_0_ok 18 rfl)
theorem ln_E_223_x_R_become_1_15 : gx_ln "EachBearsPillar" 223 mi_x_R_become_1_15 := Or.inr (gx_nb2 gq_x_n2_0_ok 18 rfl)
theorem ln_E_223_x_R_become_1_8 : gx_ln "EachBearsPillar" 223 mi_x_R_become_1_8 := Or.inr (gx_nb2 gq_x_n2_0_ok 18 rfl)
theorem ln_E_223_x_R_become_15_1 : gx_ln "EachBearsPillar" 223 mi_x_R_become_15_1 := Or.inr (gx_nb2 gq_x_n2_0_ok 18 rfl)
theorem ln_E_223_x_R_become_8_1 : gx_ln "EachBearsPillar" 223 mi_x_R_become_8_1 := Or.inr (gx_nb2 gq_x_n2_0_ok 18 rfl)
theorem ln_E_226_x_T_rewind : gx_ln "EachBearsPillar" 226 mi_x_T_rewind := Or.inr (gx_nb2 gq_x_n2_0_ok 19 rfl)
theorem ln_E_232_x_T_readStatement : gx_ln "EachBearsPillar" 232 mi_x_T_readStatement := Or.inr (gx_nb2 gq_x_n2_0_ok 20 rfl)
theorem ln_E_235_x_E_enterStatement : gx_ln "EachBearsPillar" 235 mi_x_E_enterStatement := Or.inl (gx_wb2 gq_x_w2_2_ok 17 rfl)
theorem ln_E_244_x_R_addBearer_8 : gx_ln "EachBearsPillar" 244 mi_x_R_addBearer_8 := Or.inr (gx_nb2 gq_x_n2_0_ok 21 rfl)
theorem ln_E_248_x_E_raise : gx_ln "EachBearsPillar" 248 mi_x_E_raise := Or.inl (gx_wb3 gq_x_w3_2_ok 5 rfl)
theorem ln_E_69_x_E_refuse : gx_ln "EachBearsPillar" 69 mi_x_E_refuse := Or.inl (gx_wb1 gq_x_w1_1_ok 28 rfl)
theorem ln_E_76_x_T_append : gx_ln "EachBearsPillar" 76 mi_x_T_append := Or.inr (gx_nb1 gq_x_n1_1_ok 7 rfl)
theorem ln_E_79_x_T_faultOfForm : gx_ln "EachBearsPillar" 79 mi_x_T_faultOfForm := Or.inr (gx_nb2 gq_x_n2_0_ok 22 rfl)
theorem ln_E_83_x_E_enterStatements : gx_ln "EachBearsPillar" 83 mi_x_E_enterStatements := Or.inl (gx_wb2 gq_x_w2_2_ok 18 rfl)
theorem ln_E_86_x_E_isSpan : gx_ln "EachBearsPillar" 86 mi_x_E_isSpan := Or.inl (gx_wb2 gq_x_w2_2_ok 19 rfl)
theorem ln_E_93_x_E_exchange : gx_ln "EachBearsPillar" 93 mi_x_E_exchange := Or.inl (gx_wb2 gq_x_w2_2_ok 20 rfl)
theorem wr_constant_E_200 : Cond.constant "EachBearsPillar" 200 1664525 ∈ gx_big := (gx_wb3 gq_x_w3_2_ok 6 rfl)
theorem wr_constant_E_201 : Cond.constant "EachBearsPillar" 201 1013904223 ∈ gx_big := (gx_wb3 gq_x_w3_2_ok 7 rfl)
theorem wr_constant_E_202 : Cond.constant "EachBearsPillar" 202 2147483647 ∈ gx_big := (gx_wb3 gq_x_w3_2_ok 8 rfl)
theorem wr_constant_I_265 : Cond.constant "java/lang/Integer" 265 1431655765 ∈ gx_big := (gx_wb3 gq_x_w3_2_ok 9 rfl)
theorem wr_constant_I_266 : Cond.constant "java/lang/Integer" 266 858993459 ∈ gx_big := (gx_wb3 gq_x_w3_2_ok 10 rfl)
theorem wr_constant_I_267 : Cond.constant "java/lang/Integer" 267 252645135 ∈ gx_big := (gx_wb3 gq_x_w3_2_ok 11 rfl)
theorem wr_methodLink_M_108 : Cond.methodLink "EachBearsPillar$Mind" 108 ⟨"java/lang/Math", "min", "(II)I"⟩ ∈ gx_big := (gx_wb2 gq_x_w2_2_ok 21 rfl)
theorem wr_methodLink_M_76 : Cond.methodLink "EachBearsPillar$Mind" 76 ⟨"java/lang/Math", "max", "(II)I"⟩ ∈ gx_big := (gx_wb2 gq_x_w2_2_ok 22 rfl)
theorem wr_methodLink_E_206 : Cond.methodLink "EachBearsPillar" 206 ⟨"java/lang/Math", "min", "(II)I"⟩ ∈ gx_big := (gx_wb3 gq_x_w3_2_ok 12 rfl)
theorem w_min_static : Cond.static Lib.Math.min.name ∈ gx_big := (gx_wb2 gq_x_w2_2_ok 23 rfl)
theorem w_min_code : Cond.code Lib.Math.min.name Lib.Math.min.code 2 (some .int) ∈ gx_big := (gx_ic2 (i := 212) rfl rfl)
theorem w_max_static : Cond.static Lib.Math.max.name ∈ gx_big := (gx_wb2 gq_x_w2_2_ok 24 rfl)
theorem w_max_code : Cond.code Lib.Math.max.name Lib.Math.max.code 2 (some .int) ∈ gx_big := (gx_ic2 (i := 185) rfl rfl)
theorem w_math_init : Cond.initialized "java/lang/Math" ∈ gx_big := (gx_wb1 gq_x_w1_1_ok 29 rfl)
end
section
def dl_mi_x_E_cell : List (Nat × Instr × Nat) := [(0, .aload_n 0, 1), (1, .ifnull 19, 3), (4, .iload_n 1, 1), (5, .ifCond .lt 15, 3), (8, .iload_n 1, 1), (9, .aload_n 0, 1), (10, .arraylength, 1), (11, .if_icmp .ge 9, 3), (14, .aload_n 0, 1), (15, .iload_n 1, 1), (16, .iaload, 1), (17, .goto 4, 3), (20, .iconst 0, 1), (21, .ireturn, 1)]
theorem dt_mi_x_E_cell : ∀ q ∈ dl_mi_x_E_cell, decode prog_1_method_36_code q.1 = .ok (q.2.1, q.2.2) := by decide +kernel
def dl_mi_x_E_setCell : List (Nat × Instr × Nat) := [(0, .aload_n 0, 1), (1, .ifnull 13, 3), (4, .iload_n 1, 1), (5, .ifCond .lt 9, 3), (8, .iload_n 1, 1), (9, .aload_n 0, 1), (10, .arraylength, 1), (11, .if_icmp .lt 5, 3), (14, .iconst 0, 1), (15, .ireturn, 1), (16, .aload_n 0, 1), (17, .iload_n 1, 1), (18, .iload_n 2, 1), (19, .iastore, 1), (20, .iconst 1, 1), (21, .ireturn, 1)]
theorem dt_mi_x_E_setCell : ∀ q ∈ dl_mi_x_E_setCell, decode prog_1_method_37_code q.1 = .ok (q.2.1, q.2.2) := by decide +kernel
def dl_mi_x_E_refuse : List (Nat × Instr × Nat) := [(0, .aload_n 0, 1), (1, .getfield 66, 3), (4, .iload_n 1, 1), (5, .ineg, 1), (6, .aload_n 0, 1), (7, .getfield 66, 3), (10, .iload_n 1, 1), (11, .ineg, 1), (12, .invokestatic 125, 3), (15, .iconst 1, 1), (16, .iadd, 1), (17, .invokestatic 174, 3), (20, .pop, 1), (21, .iload_n 1, 1), (22, .ireturn, 1)]
theorem dt_mi_x_E_refuse : ∀ q ∈ dl_mi_x_E_refuse, decode prog_1_method_29_code q.1 = .ok (q.2.1, q.2.2) := by decide +kernel
def dl_mi_x_T_append : List (Nat × Instr × Nat) := [(0, .aload_n 0, 1), (1, .getfield 9, 3), (4, .aload_n 0, 1), (5, .getfield 15, 3), (8, .iload_n 1, 1), (9, .invokestatic 31, 3), (12, .ifCond .eq 13, 3), (15, .aload_n 0, 1), (16, .dup, 1), (17, .getfield 15, 3), (20, .iconst 1, 1), (21, .iadd, 1), (22, .putfield 15, 3), (25, .aload_n 0, 1), (26, .getfield 15, 3), (29, .ireturn, 1)]
theorem dt_mi_x_T_append : ∀ q ∈ dl_mi_x_T_append, decode prog_5_method_2_code q.1 = .ok (q.2.1, q.2.2) := by decide +kernel
def dl_mi_x_E_letter : List (Nat × Instr × Nat) := [(0, .iload_n 1, 1), (1, .ifCond .ge 10, 3), (4, .aload_n 0, 1), (5, .bipush (-4), 2), (7, .invokevirtual 69, 3), (10, .ireturn, 1), (11, .iload_n 1, 1), (12, .sipush 255, 3), (15, .if_icmp .gt 15, 3), (18, .aload_n 0, 1), (19, .getfield 38, 3), (22, .getfield 73, 3), (25, .bipush 96, 2), (27, .if_icmp .lt 10, 3), (30, .aload_n 0, 1), (31, .bipush (-6), 2), (33, .invokevirtual 69, 3), (36, .ireturn, 1), (37, .aload_n 0, 1), (38, .getfield 38, 3), (41, .iload_n 1, 1), (42, .invokevirtual 76, 3), (45, .ireturn, 1)]
theorem dt_mi_x_E_letter : ∀ q ∈ dl_mi_x_E_letter, decode prog_1_method_2_code q.1 = .ok (q.2.1, q.2.2) := by decide +kernel
def dl_mi_x_T_rewind : List (Nat × Instr × Nat) := [(0, .aload_n 0, 1), (1, .iconst 0, 1), (2, .putfield 19, 3), (5, .return_, 1)]
theorem dt_mi_x_T_rewind : ∀ q ∈ dl_mi_x_T_rewind, decode prog_5_method_3_code q.1 = .ok (q.2.1, q.2.2) := by decide +kernel
def dl_mi_x_T_here : List (Nat × Instr × Nat) := [(0, .aload_n 0, 1), (1, .getfield 19, 3), (4, .aload_n 0, 1), (5, .getfield 15, 3), (8, .if_icmp .ge 17, 3), (11, .aload_n 0, 1), (12, .getfield 9, 3), (15, .aload_n 0, 1), (16, .getfield 19, 3), (19, .invokestatic 90, 3), (22, .goto 4, 3), (25, .iconst (-1), 1), (26, .ireturn, 1)]
theorem dt_mi_x_T_here : ∀ q ∈ dl_mi_x_T_here, decode prog_5_method_11_code q.1 = .ok (q.2.1, q.2.2) := by decide +kernel
def dl_mi_x_T_formOf : List (Nat × Instr × Nat) := [(0, .iload_n 0, 1), (1, .lookupswitch 66 #[(98, 51), (103, 57), (107, 63), (108, 60), (115, 54)], 51), (52, .ldc 65, 2), (54, .areturn, 1), (55, .ldc 67, 2), (57, .areturn, 1), (58, .ldc 69, 2), (60, .areturn, 1), (61, .ldc 71, 2), (63, .areturn, 1), (64, .ldc 73, 2), (66, .areturn, 1), (67, .ldc 75, 2), (69, .areturn, 1)]
theorem dt_mi_x_T_formOf : ∀ q ∈ dl_mi_x_T_formOf, decode prog_5_method_6_code q.1 = .ok (q.2.1, q.2.2) := by decide +kernel
def dl_mi_x_T_keepNumber : List (Nat × Instr × Nat) := [(0, .aload_n 0, 1), (1, .getfield 25, 3), (4, .aload_n 0, 1), (5, .getfield 28, 3), (8, .iload_n 1, 1), (9, .invokestatic 31, 3), (12, .pop, 1), (13, .aload_n 0, 1), (14, .dup, 1), (15, .getfield 28, 3), (18, .iconst 1, 1), (19, .iadd, 1), (20, .putfield 28, 3), (23, .return_, 1)]
theorem dt_mi_x_T_keepNumber : ∀ q ∈ dl_mi_x_T_keepNumber, decode prog_5_method_10_code q.1 = .ok (q.2.1, q.2.2) := by decide +kernel
def dl_mi_x_T_readNumber : List (Nat × Instr × Nat) := [(0, .iconst 0, 1), (1, .istore_n 2, 1), (2, .iconst 0, 1), (3, .istore_n 3, 1), (4, .iload_n 3, 1), (5, .iload_n 1, 1), (6, .if_icmp .ge 50, 3), (9, .aload_n 0, 1), (10, .invokevirtual 42, 3), (13, .bipush 48, 2), (15, .if_icmp .lt 41, 3), (18, .aload_n 0, 1), (19, .invokevirtual 42, 3), (22, .bipush 57, 2), (24, .if_icmp .gt 32, 3), (27, .bipush 10, 2), (29, .iload_n 2, 1), (30, .imul, 1), (31, .aload_n 0, 1), (32, .invokevirtual 42, 3), (35, .iadd, 1), (36, .bipush 48, 2), (38, .isub, 1), (39, .istore_n 2, 1), (40, .aload_n 0, 1), (41, .dup, 1), (42, .getfield 19, 3), (45, .iconst 1, 1), (46, .iadd, 1), (47, .putfield 19, 3), (50, .iinc 3 1, 3), (53, .goto (-49), 3), (56, .aload_n 0, 1), (57, .iload_n 2, 1), (58, .invokevirtual 86, 3), (61, .iload_n 3, 1), (62, .ifCond .le 7, 3), (65, .iconst 1, 1), (66, .goto 4, 3), (69, .iconst 0, 1), (70, .ireturn, 1)]
theorem dt_mi_x_T_readNumber : ∀ q ∈ dl_mi_x_T_readNumber, decode prog_5_method_9_code q.1 = .ok (q.2.1, q.2.2) := by decide +kernel
def dl_mi_x_T_readKind : List (Nat × Instr × Nat) := [(0, .aload_n 0, 1), (1, .invokevirtual 42, 3), (4, .istore_n 1, 1), (5, .iconst 0, 1), (6, .istore_n 2, 1), (7, .iload_n 2, 1), (8, .ldc 84, 2), (10, .invokevirtual 55, 3), (13, .if_icmp .ge 36, 3), (16, .ldc 84, 2), (18, .iload_n 2, 1), (19, .invokevirtual 57, 3), (22, .iload_n 1, 1), (23, .if_icmp .ne 20, 3), (26, .aload_n 0, 1), (27, .dup, 1), (28, .getfield 19, 3), (31, .iconst 1, 1), (32, .iadd, 1), (33, .putfield 19, 3), (36, .aload_n 0, 1), (37, .iload_n 2, 1), (38, .invokevirtual 86, 3), (41, .iconst 1, 1), (42, .ireturn, 1), (43, .iinc 2 1, 3), (46, .goto (-39), 3), (49, .iconst 0, 1), (50, .ireturn, 1)]
theorem dt_mi_x_T_readKind : ∀ q ∈ dl_mi_x_T_readKind, decode prog_5_method_8_code q.1 = .ok (q.2.1, q.2.2) := by decide +kernel
def dl_mi_x_T_readPart : List (Nat × Instr × Nat) := [(0, .iload_n 1, 1), (1, .lookupswitch 52 #[(68, 40), (75, 35), (78, 46)], 35), (36, .aload_n 0, 1), (37, .invokevirtual 77, 3), (40, .ireturn, 1), (41, .aload_n 0, 1), (42, .iconst 1, 1), (43, .invokevirtual 80, 3), (46, .ireturn, 1), (47, .aload_n 0, 1), (48, .iconst 2, 1), (49, .invokevirtual 80, 3), (52, .ireturn, 1), (53, .aload_n 0, 1), (54, .invokevirtual 42, 3), (57, .iload_n 1, 1), (58, .if_icmp .eq 5, 3), (61, .iconst 0, 1), (62, .ireturn, 1), (63, .aload_n 0, 1), (64, .dup, 1), (65, .getfield 19, 3), (68, .iconst 1, 1), (69, .iadd, 1), (70, .putfield 19, 3), (73, .iconst 1, 1), (74, .ireturn, 1)]
theorem dt_mi_x_T_readPart : ∀ q ∈ dl_mi_x_T_readPart, decode prog_5_method_7_code q.1 = .ok (q.2.1, q.2.2) := by decide +kernel
def dl_mi_x_T_readStatement : List (Nat × Instr × Nat) := [(0, .aload_n 0, 1), (1, .iconst 0, 1), (2, .putfield 28, 3), (5, .aload_n 0, 1), (6, .aload_n 0, 1), (7, .invokevirtual 42, 3), (10, .putfield 22, 3), (13, .aload_n 0, 1), (14, .getfield 22, 3), (17, .invokestatic 46, 3), (20, .astore_n 1, 1), (21, .aload_n 1, 1), (22, .invokevirtual 50, 3), (25, .ifCond .eq 5, 3), (28, .iconst 0, 1), (29, .ireturn, 1), (30, .aload_n 0, 1), (31, .dup, 1), (32, .getfield 19, 3), (35, .iconst 1, 1), (36, .iadd, 1), (37, .putfield 19, 3), (40, .iconst 0, 1), (41, .istore_n 2, 1), (42, .iload_n 2, 1), (43, .aload_n 1, 1), (44, .invokevirtual 55, 3), (47, .if_icmp .ge 23, 3), (50, .aload_n 0, 1), (51, .aload_n 1, 1), (52, .iload_n 2, 1), (53, .invokevirtual 57, 3), (56, .invokevirtual 61, 3), (59, .ifCond .ne 5, 3), (62, .iconst 0, 1), (63, .ireturn, 1), (64, .iinc 2 1, 3), (67, .goto (-25), 3), (70, .iconst 1, 1), (71, .ireturn, 1)]
theorem dt_mi_x_T_readStatement : ∀ q ∈ dl_mi_x_T_readStatement, decode prog_5_method_5_code q.1 = .ok (q.2.1, q.2.2) := by decide +kernel
def dl_mi_x_T_faultOfForm : List (Nat × Instr × Nat) := [(0, .aload_n 0, 1), (1, .invokevirtual 35, 3), (4, .aload_n 0, 1), (5, .getfield 15, 3), (8, .ifCond .ne 7, 3), (11, .sipush (-1000), 3), (14, .ireturn, 1), (15, .iconst 0, 1), (16, .istore_n 1, 1), (17, .iload_n 1, 1), (18, .bipush 96, 2), (20, .if_icmp .ge 36, 3), (23, .aload_n 0, 1), (24, .getfield 19, 3), (27, .aload_n 0, 1), (28, .getfield 15, 3), (31, .if_icmp .ge 25, 3), (34, .aload_n 0, 1), (35, .invokevirtual 38, 3), (38, .ifCond .ne 12, 3), (41, .sipush (-1000), 3), (44, .aload_n 0, 1), (45, .getfield 19, 3), (48, .isub, 1), (49, .ireturn, 1), (50, .iinc 1 1, 3), (53, .goto (-36), 3), (56, .iconst 0, 1), (57, .ireturn, 1)]
theorem dt_mi_x_T_faultOfForm : ∀ q ∈ dl_mi_x_T_faultOfForm, decode prog_5_method_4_code q.1 = .ok (q.2.1, q.2.2) := by decide +kernel
def dl_mi_x_E_copyCells : List (Nat × Instr × Nat) := [(0, .aload_n 0, 1), (1, .ifnull 7, 3), (4, .aload_n 1, 1), (5, .ifnonnull 4, 3), (8, .return_, 1), (9, .iconst 0, 1), (10, .istore_n 2, 1), (11, .iload_n 2, 1), (12, .aload_n 0, 1), (13, .arraylength, 1), (14, .if_icmp .ge 21, 3), (17, .iload_n 2, 1), (18, .aload_n 1, 1), (19, .arraylength, 1), (20, .if_icmp .ge 15, 3), (23, .aload_n 1, 1), (24, .iload_n 2, 1), (25, .aload_n 0, 1), (26, .iload_n 2, 1), (27, .iaload, 1), (28, .iastore, 1), (29, .iinc 2 1, 3), (32, .goto (-21), 3), (35, .return_, 1)]
theorem dt_mi_x_E_copyCells : ∀ q ∈ dl_mi_x_E_copyCells, decode prog_1_method_39_code q.1 = .ok (q.2.1, q.2.2) := by decide +kernel
def dl_mi_x_R_become_8_1 : List (Nat × Instr × Nat) := [(0, .aload_n 1, 1), (1, .ifnonnull 4, 3), (4, .return_, 1), (5, .aload_n 0, 1), (6, .aload_n 1, 1), (7, .getfield 9, 3), (10, .putfield 9, 3), (13, .aload_n 0, 1), (14, .aload_n 1, 1), (15, .getfield 15, 3), (18, .putfield 15, 3), (21, .aload_n 0, 1), (22, .aload_n 1, 1), (23, .getfield 18, 3), (26, .putfield 18, 3), (29, .aload_n 1, 1), (30, .getfield 21, 3), (33, .aload_n 0, 1), (34, .getfield 21, 3), (37, .invokestatic 40, 3), (40, .aload_n 1, 1), (41, .getfield 25, 3), (44, .aload_n 0, 1), (45, .getfield 25, 3), (48, .invokestatic 40, 3), (51, .aload_n 1, 1), (52, .getfield 28, 3), (55, .aload_n 0, 1), (56, .getfield 28, 3), (59, .invokestatic 40, 3), (62, .aload_n 1, 1), (63, .getfield 31, 3), (66, .aload_n 0, 1), (67, .getfield 31, 3), (70, .invokestatic 40, 3), (73, .aload_n 1, 1), (74, .getfield 34, 3), (77, .aload_n 0, 1), (78, .getfield 34, 3), (81, .invokestatic 40, 3), (84, .aload_n 1, 1), (85, .getfield 37, 3), (88, .aload_n 0, 1), (89, .getfield 37, 3), (92, .invokestatic 40, 3), (95, .return_, 1)]
theorem dt_mi_x_R_become_8_1 : ∀ q ∈ dl_mi_x_R_become_8_1, decode prog_4_method_2_code q.1 = .ok (q.2.1, q.2.2) := by decide +kernel
theorem dt_mi_x_R_become_1_8 : ∀ q ∈ dl_mi_x_R_become_8_1, decode prog_4_method_2_code q.1 = .ok (q.2.1, q.2.2) := dt_mi_x_R_become_8_1
def dl_mi_x_R_addBearer_8 : List (Nat × Instr × Nat) := [(0, .iload_n 2, 1), (1, .iconst 1, 1), (2, .if_icmp .lt 26, 3), (5, .aload_n 0, 1), (6, .getfield 9, 3), (9, .bipush 7, 2), (11, .if_icmp .ge 17, 3), (14, .aload_n 0, 1), (15, .getfield 15, 3), (18, .aload_n 0, 1), (19, .getfield 9, 3), (22, .iadd, 1), (23, .bipush 16, 2), (25, .if_icmp .lt 5, 3), (28, .iconst 0, 1), (29, .ireturn, 1), (30, .aload_n 0, 1), (31, .getfield 21, 3), (34, .aload_n 0, 1), (35, .getfield 9, 3), (38, .iload_n 1, 1), (39, .invokestatic 44, 3), (42, .pop, 1), (43, .aload_n 0, 1), (44, .getfield 25, 3), (47, .aload_n 0, 1), (48, .getfield 9, 3), (51, .iload_n 2, 1), (52, .invokestatic 44, 3), (55, .pop, 1), (56, .aload_n 0, 1), (57, .getfield 28, 3), (60, .aload_n 0, 1), (61, .getfield 9, 3), (64, .iload_n 3, 1), (65, .invokestatic 44, 3), (68, .pop, 1), (69, .aload_n 0, 1), (70, .getfield 31, 3), (73, .aload_n 0, 1), (74, .getfield 9, 3), (77, .iconst 0, 1), (78, .invokestatic 44, 3), (81, .pop, 1), (82, .aload_n 0, 1), (83, .dup, 1), (84, .getfield 9, 3), (87, .iconst 1, 1), (88, .iadd, 1), (89, .putfield 9, 3), (92, .iconst 1, 1), (93, .ireturn, 1)]
theorem dt_mi_x_R_addBearer_8 : ∀ q ∈ dl_mi_x_R_addBearer_8, decode prog_4_method_5_code q.1 = .ok (q.2.1, q.2.2) := by decide +kernel
def dl_mi_x_R_hasBearer_8 : List (Nat × Instr × Nat) := [(0, .iload_n 1, 1), (1, .ifCond .lt 15, 3), (4, .iload_n 1, 1), (5, .aload_n 0, 1), (6, .getfield 9, 3), (9, .if_icmp .ge 7, 3), (12, .iconst 1, 1), (13, .goto 4, 3), (16, .iconst 0, 1), (17, .ireturn, 1)]
theorem dt_mi_x_R_hasBearer_8 : ∀ q ∈ dl_mi_x_R_hasBearer_8, decode prog_4_method_3_code q.1 = .ok (q.2.1, q.2.2) := by decide +kernel
def dl_mi_x_E_isSpan : List (Nat × Instr × Nat) := [(0, .iload_n 0, 1), (1, .ifCond .lt 13, 3), (4, .iload_n 0, 1), (5, .bipush 6, 2), (7, .if_icmp .ge 7, 3), (10, .iconst 1, 1), (11, .goto 4, 3), (14, .iconst 0, 1), (15, .ireturn, 1)]
theorem dt_mi_x_E_isSpan : ∀ q ∈ dl_mi_x_E_isSpan, decode prog_1_method_30_code q.1 = .ok (q.2.1, q.2.2) := by decide +kernel
def dl_mi_x_E_enterStatement : List (Nat × Instr × Nat) := [(0, .aload_n 0, 1), (1, .getfield 38, 3), (4, .getfield 238, 3), (7, .iconst 0, 1), (8, .invokestatic 125, 3), (11, .istore_n 1, 1), (12, .aload_n 0, 1), (13, .getfield 38, 3), (16, .getfield 238, 3), (19, .iconst 1, 1), (20, .invokestatic 125, 3), (23, .istore_n 2, 1), (24, .aload_n 0, 1), (25, .getfield 38, 3), (28, .getfield 241, 3), (31, .lookupswitch 193 #[(98, 49), (103, 98), (107, 161), (108, 125), (115, 70)], 49), (80, .aload_n 0, 1), (81, .getfield 16, 3), (84, .iload_n 1, 1), (85, .iload_n 2, 1), (86, .aload_n 0, 1), (87, .getfield 38, 3), (90, .getfield 238, 3), (93, .iconst 2, 1), (94, .invokestatic 125, 3), (97, .invokevirtual 244, 3), (100, .ireturn, 1), (101, .iload_n 1, 1), (102, .invokestatic 86, 3), (105, .ifCond .eq 22, 3), (108, .aload_n 0, 1), (109, .getfield 16, 3), (112, .getfield 90, 3), (115, .iload_n 1, 1), (116, .iload_n 2, 1), (117, .invokestatic 174, 3), (120, .ifCond .eq 7, 3), (123, .iconst 1, 1), (124, .goto 4, 3), (127, .iconst 0, 1), (128, .ireturn, 1), (129, .iload_n 1, 1), (130, .bipush 16, 2), (132, .if_icmp .ge 22, 3), (135, .aload_n 0, 1), (136, .getfield 16, 3), (139, .getfield 97, 3), (142, .iload_n 1, 1), (143, .iload_n 2, 1), (144, .invokestatic 174, 3), (147, .ifCond .eq 7, 3), (150, .iconst 1, 1), (151, .goto 4, 3), (154, .iconst 0, 1), (155, .ireturn, 1), (156, .aload_n 0, 1), (157, .getfield 16, 3), (160, .iload_n 1, 1), (161, .bipush 28, 2), (163, .if_icmp .ge 7, 3), (166, .iload_n 1, 1), (167, .goto 10, 3), (170, .aload_n 0, 1), (171, .getfield 16, 3), (174, .getfield 100, 3), (177, .putfield 100, 3), (180, .iload_n 1, 1), (181, .bipush 28, 2), (183, .if_icmp .ge 7, 3), (186, .iconst 1, 1), (187, .goto 4, 3), (190, .iconst 0, 1), (191, .ireturn, 1), (192, .aload_n 0, 1), (193, .getfield 16, 3), (196, .iload_n 1, 1), (197, .invokevirtual 103, 3), (200, .ifCond .eq 22, 3), (203, .aload_n 0, 1), (204, .getfield 16, 3), (207, .getfield 106, 3), (210, .iload_n 1, 1), (211, .iload_n 2, 1), (212, .invokestatic 174, 3), (215, .ifCond .eq 7, 3), (218, .iconst 1, 1), (219, .goto 4, 3), (222, .iconst 0, 1), (223, .ireturn, 1), (224, .iconst 0, 1), (225, .ireturn, 1)]
theorem dt_mi_x_E_enterStatement : ∀ q ∈ dl_mi_x_E_enterStatement, decode prog_1_method_32_code q.1 = .ok (q.2.1, q.2.2) := by decide +kernel
def dl_mi_x_E_enterStatements : List (Nat × Instr × Nat) := [(0, .aload_n 0, 1), (1, .getfield 16, 3), (4, .aload_n 0, 1), (5, .getfield 10, 3), (8, .invokevirtual 223, 3), (11, .aload_n 0, 1), (12, .getfield 38, 3), (15, .invokevirtual 226, 3), (18, .iconst 0, 1), (19, .istore_n 1, 1), (20, .iconst 0, 1), (21, .istore_n 2, 1), (22, .iload_n 2, 1), (23, .bipush 96, 2), (25, .if_icmp .ge 60, 3), (28, .aload_n 0, 1), (29, .getfield 38, 3), (32, .getfield 229, 3), (35, .aload_n 0, 1), (36, .getfield 38, 3), (39, .getfield 73, 3), (42, .if_icmp .ge 43, 3), (45, .aload_n 0, 1), (46, .getfield 38, 3), (49, .getfield 229, 3), (52, .istore_n 3, 1), (53, .aload_n 0, 1), (54, .getfield 38, 3), (57, .invokevirtual 232, 3), (60, .ifCond .eq 10, 3), (63, .aload_n 0, 1), (64, .invokevirtual 235, 3), (67, .ifCond .ne 9, 3), (70, .sipush (-2000), 3), (73, .iload_n 3, 1), (74, .isub, 1), (75, .ireturn, 1), (76, .iinc 1 1, 3), (79, .iinc 2 1, 3), (82, .goto (-60), 3), (85, .aload_n 0, 1), (86, .getfield 10, 3), (89, .aload_n 0, 1), (90, .getfield 16, 3), (93, .invokevirtual 223, 3), (96, .iload_n 1, 1), (97, .ireturn, 1)]
theorem dt_mi_x_E_enterStatements : ∀ q ∈ dl_mi_x_E_enterStatements, decode prog_1_method_31_code q.1 = .ok (q.2.1, q.2.2) := by decide +kernel
def dl_mi_x_E_roof : List (Nat × Instr × Nat) := [(0, .aload_n 0, 1), (1, .getfield 38, 3), (4, .invokevirtual 79, 3), (7, .istore_n 1, 1), (8, .iload_n 1, 1), (9, .ifCond .ne 8, 3), (12, .aload_n 0, 1), (13, .invokevirtual 83, 3), (16, .istore_n 1, 1), (17, .aload_n 0, 1), (18, .getfield 38, 3), (21, .iconst 0, 1), (22, .putfield 73, 3), (25, .iload_n 1, 1), (26, .ireturn, 1)]
theorem dt_mi_x_E_roof : ∀ q ∈ dl_mi_x_E_roof, decode prog_1_method_3_code q.1 = .ok (q.2.1, q.2.2) := by decide +kernel
def dl_mi_x_E_exchange : List (Nat × Instr × Nat) := [(0, .aload_n 0, 1), (1, .iload_n 1, 1), (2, .invokestatic 125, 3), (5, .istore_n 3, 1), (6, .aload_n 0, 1), (7, .iload_n 1, 1), (8, .iload_n 2, 1), (9, .invokestatic 174, 3), (12, .pop, 1), (13, .iload_n 3, 1), (14, .ireturn, 1)]
theorem dt_mi_x_E_exchange : ∀ q ∈ dl_mi_x_E_exchange, decode prog_1_method_38_code q.1 = .ok (q.2.1, q.2.2) := by decide +kernel
def dl_mi_x_E_span : List (Nat × Instr × Nat) := [(0, .iload_n 1, 1), (1, .invokestatic 86, 3), (4, .ifCond .ne 9, 3), (7, .aload_n 0, 1), (8, .iconst (-1), 1), (9, .invokevirtual 69, 3), (12, .ireturn, 1), (13, .iload_n 2, 1), (14, .ifCond .ge 10, 3), (17, .aload_n 0, 1), (18, .bipush (-4), 2), (20, .invokevirtual 69, 3), (23, .ireturn, 1), (24, .iload_n 2, 1), (25, .bipush 99, 2), (27, .if_icmp .le 10, 3), (30, .aload_n 0, 1), (31, .bipush (-6), 2), (33, .invokevirtual 69, 3), (36, .ireturn, 1), (37, .aload_n 0, 1), (38, .getfield 10, 3), (41, .getfield 90, 3), (44, .iload_n 1, 1), (45, .iload_n 2, 1), (46, .invokestatic 93, 3), (49, .ireturn, 1)]
theorem dt_mi_x_E_span : ∀ q ∈ dl_mi_x_E_span, decode prog_1_method_4_code q.1 = .ok (q.2.1, q.2.2) := by decide +kernel
def dl_mi_x_E_ground : List (Nat × Instr × Nat) := [(0, .iload_n 1, 1), (1, .ifCond .lt 9, 3), (4, .iload_n 1, 1), (5, .bipush 16, 2), (7, .if_icmp .lt 9, 3), (10, .aload_n 0, 1), (11, .iconst (-1), 1), (12, .invokevirtual 69, 3), (15, .ireturn, 1), (16, .iload_n 2, 1), (17, .ifCond .ge 10, 3), (20, .aload_n 0, 1), (21, .bipush (-4), 2), (23, .invokevirtual 69, 3), (26, .ireturn, 1), (27, .iload_n 2, 1), (28, .bipush 9, 2), (30, .if_icmp .le 10, 3), (33, .aload_n 0, 1), (34, .bipush (-6), 2), (36, .invokevirtual 69, 3), (39, .ireturn, 1), (40, .aload_n 0, 1), (41, .getfield 10, 3), (44, .getfield 97, 3), (47, .iload_n 1, 1), (48, .iload_n 2, 1), (49, .invokestatic 93, 3), (52, .ireturn, 1)]
theorem dt_mi_x_E_ground : ∀ q ∈ dl_mi_x_E_ground, decode prog_1_method_5_code q.1 = .ok (q.2.1, q.2.2) := by decide +kernel
def dl_mi_x_E_level : List (Nat × Instr × Nat) := [(0, .iload_n 1, 1), (1, .ifCond .ge 10, 3), (4, .aload_n 0, 1), (5, .bipush (-4), 2), (7, .invokevirtual 69, 3), (10, .ireturn, 1), (11, .iload_n 1, 1), (12, .bipush 28, 2), (14, .if_icmp .lt 10, 3), (17, .aload_n 0, 1), (18, .bipush (-6), 2), (20, .invokevirtual 69, 3), (23, .ireturn, 1), (24, .aload_n 0, 1), (25, .getfield 10, 3), (28, .getfield 100, 3), (31, .istore_n 2, 1), (32, .aload_n 0, 1), (33, .getfield 10, 3), (36, .iload_n 1, 1), (37, .putfield 100, 3), (40, .iload_n 2, 1), (41, .ireturn, 1)]
theorem dt_mi_x_E_level : ∀ q ∈ dl_mi_x_E_level, decode prog_1_method_6_code q.1 = .ok (q.2.1, q.2.2) := by decide +kernel
theorem dt_mi_x_R_hasBearer_1 : ∀ q ∈ dl_mi_x_R_hasBearer_8, decode prog_4_method_3_code q.1 = .ok (q.2.1, q.2.2) := dt_mi_x_R_hasBearer_8
def dl_mi_x_E_block : List (Nat × Instr × Nat) := [(0, .aload_n 0, 1), (1, .getfield 10, 3), (4, .iload_n 1, 1), (5, .invokevirtual 103, 3), (8, .ifCond .ne 9, 3), (11, .aload_n 0, 1), (12, .iconst (-1), 1), (13, .invokevirtual 69, 3), (16, .ireturn, 1), (17, .iload_n 2, 1), (18, .ifCond .ge 10, 3), (21, .aload_n 0, 1), (22, .bipush (-4), 2), (24, .invokevirtual 69, 3), (27, .ireturn, 1), (28, .iload_n 2, 1), (29, .bipush 9, 2), (31, .if_icmp .le 10, 3), (34, .aload_n 0, 1), (35, .bipush (-6), 2), (37, .invokevirtual 69, 3), (40, .ireturn, 1), (41, .aload_n 0, 1), (42, .getfield 10, 3), (45, .getfield 106, 3), (48, .iload_n 1, 1), (49, .iload_n 2, 1), (50, .invokestatic 93, 3), (53, .ireturn, 1)]
theorem dt_mi_x_E_block : ∀ q ∈ dl_mi_x_E_block, decode prog_1_method_7_code q.1 = .ok (q.2.1, q.2.2) := by decide +kernel
def dl_mi_x_R_lastAt_1 : List (Nat × Instr × Nat) := [(0, .aload_n 0, 1), (1, .getfield 9, 3), (4, .iconst 1, 1), (5, .if_icmp .le 13, 3), (8, .bipush 16, 2), (10, .aload_n 0, 1), (11, .getfield 9, 3), (14, .isub, 1), (15, .goto 5, 3), (18, .bipush 15, 2), (20, .ireturn, 1)]
theorem dt_mi_x_R_lastAt_1 : ∀ q ∈ dl_mi_x_R_lastAt_1, decode prog_4_method_4_code q.1 = .ok (q.2.1, q.2.2) := by decide +kernel
def dl_mi_x_E_at : List (Nat × Instr × Nat) := [(0, .iload_n 1, 1), (1, .ifCond .ge 10, 3), (4, .aload_n 0, 1), (5, .bipush (-4), 2), (7, .invokevirtual 69, 3), (10, .ireturn, 1), (11, .iload_n 1, 1), (12, .aload_n 0, 1), (13, .getfield 10, 3), (16, .invokevirtual 109, 3), (19, .if_icmp .le 10, 3), (22, .aload_n 0, 1), (23, .bipush (-6), 2), (25, .invokevirtual 69, 3), (28, .ireturn, 1), (29, .aload_n 0, 1), (30, .getfield 10, 3), (33, .getfield 112, 3), (36, .istore_n 2, 1), (37, .aload_n 0, 1), (38, .getfield 10, 3), (41, .iload_n 1, 1), (42, .putfield 112, 3), (45, .iload_n 2, 1), (46, .ireturn, 1)]
theorem dt_mi_x_E_at : ∀ q ∈ dl_mi_x_E_at, decode prog_1_method_8_code q.1 = .ok (q.2.1, q.2.2) := by decide +kernel
def dl_mi_x_M_asTold : List (Nat × Instr × Nat) := [(0, .aload_n 0, 1), (1, .aload_n 0, 1), (2, .getfield 9, 3), (5, .getfield 44, 3), (8, .putfield 15, 3), (11, .aload_n 0, 1), (12, .aload_n 0, 1), (13, .getfield 9, 3), (16, .getfield 47, 3), (19, .putfield 19, 3), (22, .aload_n 0, 1), (23, .iconst 0, 1), (24, .putfield 22, 3), (27, .iconst 0, 1), (28, .istore_n 1, 1), (29, .iload_n 1, 1), (30, .bipush 7, 2), (32, .if_icmp .ge 29, 3), (35, .aload_n 0, 1), (36, .getfield 25, 3), (39, .iload_n 1, 1), (40, .iload_n 1, 1), (41, .invokestatic 48, 3), (44, .pop, 1), (45, .aload_n 0, 1), (46, .getfield 29, 3), (49, .iload_n 1, 1), (50, .iconst 0, 1), (51, .invokestatic 48, 3), (54, .pop, 1), (55, .iinc 1 1, 3), (58, .goto (-29), 3), (61, .aload_n 0, 1), (62, .getfield 9, 3), (65, .getfield 52, 3), (68, .aload_n 0, 1), (69, .getfield 32, 3), (72, .invokestatic 53, 3), (75, .return_, 1)]
theorem dt_mi_x_M_asTold : ∀ q ∈ dl_mi_x_M_asTold, decode prog_2_method_2_code q.1 = .ok (q.2.1, q.2.2) := by decide +kernel
def dl_mi_x_M_topOf : List (Nat × Instr × Nat) := [(0, .aload_n 0, 1), (1, .getfield 9, 3), (4, .getfield 57, 3), (7, .aload_n 0, 1), (8, .getfield 15, 3), (11, .iload_n 2, 1), (12, .iadd, 1), (13, .invokestatic 60, 3), (16, .aload_n 0, 1), (17, .getfield 9, 3), (20, .getfield 64, 3), (23, .iload_n 1, 1), (24, .invokestatic 60, 3), (27, .iadd, 1), (28, .aload_n 0, 1), (29, .getfield 9, 3), (32, .getfield 67, 3), (35, .iload_n 1, 1), (36, .invokestatic 60, 3), (39, .iadd, 1), (40, .aload_n 0, 1), (41, .getfield 29, 3), (44, .iload_n 1, 1), (45, .invokestatic 60, 3), (48, .iadd, 1), (49, .ireturn, 1)]
theorem dt_mi_x_M_topOf : ∀ q ∈ dl_mi_x_M_topOf, decode prog_2_method_3_code q.1 = .ok (q.2.1, q.2.2) := by decide +kernel
def dl_mi_x_M_canBear : List (Nat × Instr × Nat) := [(0, .aload_n 0, 1), (1, .getfield 9, 3), (4, .getfield 70, 3), (7, .iload_n 1, 1), (8, .invokestatic 60, 3), (11, .iconst 3, 1), (12, .if_icmp .eq 15, 3), (15, .iload_n 2, 1), (16, .aload_n 0, 1), (17, .getfield 19, 3), (20, .if_icmp .lt 7, 3), (23, .iconst 1, 1), (24, .goto 4, 3), (27, .iconst 0, 1), (28, .ireturn, 1)]
theorem dt_mi_x_M_canBear : ∀ q ∈ dl_mi_x_M_canBear, decode prog_2_method_4_code q.1 = .ok (q.2.1, q.2.2) := by decide +kernel
def dl_mi_x_M_mightOf : List (Nat × Instr × Nat) := [(0, .aload_n 0, 1), (1, .getfield 9, 3), (4, .getfield 73, 3), (7, .iload_n 1, 1), (8, .invokestatic 60, 3), (11, .istore_n 3, 1), (12, .iload_n 2, 1), (13, .aload_n 0, 1), (14, .getfield 19, 3), (17, .if_icmp .le 9, 3), (20, .iload_n 3, 1), (21, .iconst 2, 1), (22, .idiv, 1), (23, .goto 4, 3), (26, .iload_n 3, 1), (27, .istore 4, 2), (29, .aload_n 0, 1), (30, .getfield 9, 3), (33, .getfield 70, 3), (36, .iload_n 1, 1), (37, .invokestatic 60, 3), (40, .tableswitch 59 1 5 #[36, 41, 59, 46, 55], 36), (76, .iload 4, 2), (78, .iconst 2, 1), (79, .idiv, 1), (80, .ireturn, 1), (81, .iconst 2, 1), (82, .iload 4, 2), (84, .imul, 1), (85, .ireturn, 1), (86, .iconst 0, 1), (87, .iload 4, 2), (89, .iconst 3, 1), (90, .isub, 1), (91, .invokestatic 76, 3), (94, .ireturn, 1), (95, .iconst 2, 1), (96, .iload_n 3, 1), (97, .imul, 1), (98, .ireturn, 1), (99, .iload 4, 2), (101, .ireturn, 1)]
theorem dt_mi_x_M_mightOf : ∀ q ∈ dl_mi_x_M_mightOf, decode prog_2_method_5_code q.1 = .ok (q.2.1, q.2.2) := by decide +kernel
def dl_mi_x_E_bearer : List (Nat × Instr × Nat) := [(0, .aload_n 0, 1), (1, .getfield 10, 3), (4, .iload_n 1, 1), (5, .invokevirtual 103, 3), (8, .ifCond .ne 9, 3), (11, .aload_n 0, 1), (12, .iconst (-1), 1), (13, .invokevirtual 69, 3), (16, .ireturn, 1), (17, .aload_n 0, 1), (18, .getfield 31, 3), (21, .invokevirtual 115, 3), (24, .aload_n 0, 1), (25, .getfield 31, 3), (28, .iload_n 1, 1), (29, .iload_n 1, 1), (30, .invokevirtual 118, 3), (33, .istore_n 3, 1), (34, .iload_n 2, 1), (35, .tableswitch 152 0 7 #[45, 57, 69, 81, 93, 95, 113, 142], 45), (80, .aload_n 0, 1), (81, .getfield 10, 3), (84, .getfield 122, 3), (87, .iload_n 1, 1), (88, .invokestatic 125, 3), (91, .ireturn, 1), (92, .aload_n 0, 1), (93, .getfield 10, 3), (96, .getfield 129, 3), (99, .iload_n 1, 1), (100, .invokestatic 125, 3), (103, .ireturn, 1), (104, .aload_n 0, 1), (105, .getfield 10, 3), (108, .getfield 132, 3), (111, .iload_n 1, 1), (112, .invokestatic 125, 3), (115, .ireturn, 1), (116, .aload_n 0, 1), (117, .getfield 10, 3), (120, .getfield 106, 3), (123, .iload_n 1, 1), (124, .invokestatic 125, 3), (127, .ireturn, 1), (128, .iload_n 3, 1), (129, .ireturn, 1), (130, .aload_n 0, 1), (131, .getfield 31, 3), (134, .iload_n 1, 1), (135, .iload_n 3, 1), (136, .invokevirtual 135, 3), (139, .ifCond .eq 7, 3), (142, .iconst 1, 1), (143, .goto 4, 3), (146, .iconst 0, 1), (147, .ireturn, 1), (148, .aload_n 0, 1), (149, .getfield 31, 3), (152, .iload_n 1, 1), (153, .iload_n 3, 1), (154, .invokevirtual 135, 3), (157, .ifCond .eq 18, 3), (160, .iload_n 3, 1), (161, .aload_n 0, 1), (162, .getfield 10, 3), (165, .getfield 100, 3), (168, .if_icmp .le 7, 3), (171, .iconst 1, 1), (172, .goto 4, 3), (175, .iconst 0, 1), (176, .ireturn, 1), (177, .aload_n 0, 1), (178, .getfield 31, 3), (181, .iload_n 1, 1), (182, .iload_n 3, 1), (183, .invokevirtual 139, 3), (186, .ireturn, 1), (187, .aload_n 0, 1), (188, .bipush (-2), 2), (190, .invokevirtual 69, 3), (193, .ireturn, 1)]
theorem dt_mi_x_E_bearer : ∀ q ∈ dl_mi_x_E_bearer, decode prog_1_method_9_code q.1 = .ok (q.2.1, q.2.2) := by decide +kernel
def dl_mi_x_M_stand : List (Nat × Instr × Nat) := [(0, .iconst 0, 1), (1, .istore_n 1, 1), (2, .iload_n 1, 1), (3, .aload_n 0, 1), (4, .getfield 9, 3), (7, .getfield 82, 3), (10, .if_icmp .ge 86, 3), (13, .aload_n 0, 1), (14, .getfield 25, 3), (17, .iload_n 1, 1), (18, .invokestatic 60, 3), (21, .istore_n 2, 1), (22, .aload_n 0, 1), (23, .iload_n 2, 1), (24, .iload_n 1, 1), (25, .invokevirtual 85, 3), (28, .istore_n 3, 1), (29, .aload_n 0, 1), (30, .iload_n 2, 1), (31, .iload_n 3, 1), (32, .invokevirtual 88, 3), (35, .ifCond .eq 18, 3), (38, .aload_n 0, 1), (39, .getfield 22, 3), (42, .iload_n 1, 1), (43, .ishr, 1), (44, .iconst 1, 1), (45, .iand, 1), (46, .ifCond .ne 7, 3), (49, .iconst 1, 1), (50, .goto 4, 3), (53, .iconst 0, 1), (54, .istore 4, 2), (56, .aload_n 0, 1), (57, .getfield 35, 3), (60, .iload_n 1, 1), (61, .iload 4, 2), (63, .ifCond .eq 7, 3), (66, .iconst 1, 1), (67, .goto 4, 3), (70, .iconst 0, 1), (71, .invokestatic 48, 3), (74, .pop, 1), (75, .aload_n 0, 1), (76, .getfield 38, 3), (79, .iload_n 1, 1), (80, .aload_n 0, 1), (81, .iload_n 2, 1), (82, .iload_n 3, 1), (83, .invokevirtual 92, 3), (86, .invokestatic 48, 3), (89, .pop, 1), (90, .iinc 1 1, 3), (93, .goto (-91), 3), (96, .return_, 1)]
theorem dt_mi_x_M_stand : ∀ q ∈ dl_mi_x_M_stand, decode prog_2_method_6_code q.1 = .ok (q.2.1, q.2.2) := by decide +kernel
def dl_mi_x_M_shareOf : List (Nat × Instr × Nat) := [(0, .aload_n 0, 1), (1, .getfield 9, 3), (4, .iload_n 2, 1), (5, .invokevirtual 104, 3), (8, .ifCond .eq 14, 3), (11, .aload_n 0, 1), (12, .getfield 35, 3), (15, .iload_n 1, 1), (16, .invokestatic 60, 3), (19, .ifCond .ne 5, 3), (22, .iconst 0, 1), (23, .ireturn, 1), (24, .aload_n 0, 1), (25, .getfield 32, 3), (28, .iload_n 1, 1), (29, .iload_n 2, 1), (30, .invokestatic 108, 3), (33, .invokestatic 60, 3), (36, .istore_n 3, 1), (37, .aload_n 0, 1), (38, .getfield 35, 3), (41, .iload_n 2, 1), (42, .invokestatic 60, 3), (45, .iconst 1, 1), (46, .if_icmp .ne 7, 3), (49, .iload_n 3, 1), (50, .goto 6, 3), (53, .iconst 2, 1), (54, .iload_n 3, 1), (55, .imul, 1), (56, .ireturn, 1)]
theorem dt_mi_x_M_shareOf : ∀ q ∈ dl_mi_x_M_shareOf, decode prog_2_method_9_code q.1 = .ok (q.2.1, q.2.2) := by decide +kernel
def dl_mi_x_M_weigh : List (Nat × Instr × Nat) := [(0, .iconst 0, 1), (1, .istore_n 1, 1), (2, .iload_n 1, 1), (3, .aload_n 0, 1), (4, .getfield 9, 3), (7, .getfield 82, 3), (10, .if_icmp .ge 35, 3), (13, .aload_n 0, 1), (14, .getfield 41, 3), (17, .iload_n 1, 1), (18, .aload_n 0, 1), (19, .iload_n 1, 1), (20, .iload_n 1, 1), (21, .iconst 1, 1), (22, .isub, 1), (23, .invokevirtual 95, 3), (26, .aload_n 0, 1), (27, .iload_n 1, 1), (28, .iload_n 1, 1), (29, .iconst 1, 1), (30, .iadd, 1), (31, .invokevirtual 95, 3), (34, .iadd, 1), (35, .invokestatic 48, 3), (38, .pop, 1), (39, .iinc 1 1, 3), (42, .goto (-40), 3), (45, .return_, 1)]
theorem dt_mi_x_M_weigh : ∀ q ∈ dl_mi_x_M_weigh, decode prog_2_method_7_code q.1 = .ok (q.2.1, q.2.2) := by decide +kernel
def dl_mi_x_M_standAndWeigh : List (Nat × Instr × Nat) := [(0, .aload_n 0, 1), (1, .invokevirtual 98, 3), (4, .aload_n 0, 1), (5, .invokevirtual 101, 3), (8, .return_, 1)]
theorem dt_mi_x_M_standAndWeigh : ∀ q ∈ dl_mi_x_M_standAndWeigh, decode prog_2_method_8_code q.1 = .ok (q.2.1, q.2.2) := by decide +kernel
def dl_mi_x_E_load : List (Nat × Instr × Nat) := [(0, .aload_n 0, 1), (1, .getfield 10, 3), (4, .iload_n 1, 1), (5, .invokevirtual 103, 3), (8, .ifCond .ne 9, 3), (11, .aload_n 0, 1), (12, .iconst (-1), 1), (13, .invokevirtual 69, 3), (16, .ireturn, 1), (17, .aload_n 0, 1), (18, .getfield 31, 3), (21, .invokevirtual 115, 3), (24, .aload_n 0, 1), (25, .getfield 31, 3), (28, .invokevirtual 142, 3), (31, .aload_n 0, 1), (32, .getfield 31, 3), (35, .getfield 145, 3), (38, .iload_n 1, 1), (39, .invokestatic 125, 3), (42, .ireturn, 1)]
theorem dt_mi_x_E_load : ∀ q ∈ dl_mi_x_E_load, decode prog_1_method_10_code q.1 = .ok (q.2.1, q.2.2) := by decide +kernel
def dl_mi_x_M_firstOverloaded : List (Nat × Instr × Nat) := [(0, .iconst 0, 1), (1, .istore_n 1, 1), (2, .iload_n 1, 1), (3, .aload_n 0, 1), (4, .getfield 9, 3), (7, .getfield 82, 3), (10, .if_icmp .ge 32, 3), (13, .aload_n 0, 1), (14, .getfield 41, 3), (17, .iload_n 1, 1), (18, .invokestatic 60, 3), (21, .iconst 2, 1), (22, .aload_n 0, 1), (23, .getfield 38, 3), (26, .iload_n 1, 1), (27, .invokestatic 60, 3), (30, .imul, 1), (31, .if_icmp .le 5, 3), (34, .iload_n 1, 1), (35, .ireturn, 1), (36, .iinc 1 1, 3), (39, .goto (-37), 3), (42, .iconst (-1), 1), (43, .ireturn, 1)]
theorem dt_mi_x_M_firstOverloaded : ∀ q ∈ dl_mi_x_M_firstOverloaded, decode prog_2_method_10_code q.1 = .ok (q.2.1, q.2.2) := by decide +kernel
def dl_mi_x_M_firstFalling : List (Nat × Instr × Nat) := [(0, .iconst 0, 1), (1, .istore_n 1, 1), (2, .iload_n 1, 1), (3, .iconst 1, 1), (4, .iadd, 1), (5, .aload_n 0, 1), (6, .getfield 9, 3), (9, .getfield 82, 3), (12, .if_icmp .ge 46, 3), (15, .aload_n 0, 1), (16, .getfield 32, 3), (19, .iload_n 1, 1), (20, .invokestatic 60, 3), (23, .ifCond .le 29, 3), (26, .aload_n 0, 1), (27, .getfield 35, 3), (30, .iload_n 1, 1), (31, .invokestatic 60, 3), (34, .ifCond .ne 18, 3), (37, .aload_n 0, 1), (38, .getfield 35, 3), (41, .iload_n 1, 1), (42, .iconst 1, 1), (43, .iadd, 1), (44, .invokestatic 60, 3), (47, .ifCond .ne 5, 3), (50, .iload_n 1, 1), (51, .ireturn, 1), (52, .iinc 1 1, 3), (55, .goto (-53), 3), (58, .iconst (-1), 1), (59, .ireturn, 1)]
theorem dt_mi_x_M_firstFalling : ∀ q ∈ dl_mi_x_M_firstFalling, decode prog_2_method_11_code q.1 = .ok (q.2.1, q.2.2) := by decide +kernel
def dl_mi_x_M_isBorne : List (Nat × Instr × Nat) := [(0, .aload_n 0, 1), (1, .invokevirtual 111, 3), (4, .ifCond .ge 14, 3), (7, .aload_n 0, 1), (8, .invokevirtual 115, 3), (11, .ifCond .ge 7, 3), (14, .iconst 1, 1), (15, .goto 4, 3), (18, .iconst 0, 1), (19, .ireturn, 1)]
theorem dt_mi_x_M_isBorne : ∀ q ∈ dl_mi_x_M_isBorne, decode prog_2_method_12_code q.1 = .ok (q.2.1, q.2.2) := by decide +kernel
def dl_mi_x_M_isFirm : List (Nat × Instr × Nat) := [(0, .aload_n 0, 1), (1, .invokevirtual 98, 3), (4, .aload_n 0, 1), (5, .invokevirtual 101, 3), (8, .aload_n 0, 1), (9, .invokevirtual 118, 3), (12, .ireturn, 1)]
theorem dt_mi_x_M_isFirm : ∀ q ∈ dl_mi_x_M_isFirm, decode prog_2_method_13_code q.1 = .ok (q.2.1, q.2.2) := by decide +kernel
def dl_mi_x_E_holds : List (Nat × Instr × Nat) := [(0, .aload_n 0, 1), (1, .getfield 31, 3), (4, .invokevirtual 115, 3), (7, .aload_n 0, 1), (8, .getfield 31, 3), (11, .invokevirtual 148, 3), (14, .ifCond .eq 7, 3), (17, .iconst 1, 1), (18, .goto 4, 3), (21, .iconst 0, 1), (22, .ireturn, 1)]
theorem dt_mi_x_E_holds : ∀ q ∈ dl_mi_x_E_holds, decode prog_1_method_11_code q.1 = .ok (q.2.1, q.2.2) := by decide +kernel
def dl_mi_x_E_sag : List (Nat × Instr × Nat) := [(0, .aload_n 0, 1), (1, .getfield 31, 3), (4, .invokevirtual 115, 3), (7, .aload_n 0, 1), (8, .getfield 31, 3), (11, .invokevirtual 142, 3), (14, .aload_n 0, 1), (15, .getfield 31, 3), (18, .invokevirtual 152, 3), (21, .istore_n 1, 1), (22, .iload_n 1, 1), (23, .ifCond .lt 5, 3), (26, .iload_n 1, 1), (27, .ireturn, 1), (28, .aload_n 0, 1), (29, .getfield 31, 3), (32, .invokevirtual 155, 3), (35, .istore_n 2, 1), (36, .iload_n 2, 1), (37, .ifCond .lt 10, 3), (40, .bipush 10, 2), (42, .iload_n 2, 1), (43, .iadd, 1), (44, .goto 5, 3), (47, .bipush (-9), 2), (49, .ireturn, 1)]
theorem dt_mi_x_E_sag : ∀ q ∈ dl_mi_x_E_sag, decode prog_1_method_12_code q.1 = .ok (q.2.1, q.2.2) := by decide +kernel
def dl_mi_x_E_sumOf : List (Nat × Instr × Nat) := [(0, .iconst 0, 1), (1, .istore_n 2, 1), (2, .iconst 0, 1), (3, .istore_n 3, 1), (4, .iload_n 3, 1), (5, .iload_n 1, 1), (6, .if_icmp .ge 17, 3), (9, .iload_n 2, 1), (10, .aload_n 0, 1), (11, .iload_n 3, 1), (12, .invokestatic 125, 3), (15, .iadd, 1), (16, .istore_n 2, 1), (17, .iinc 3 1, 3), (20, .goto (-16), 3), (23, .iload_n 2, 1), (24, .ireturn, 1)]
theorem dt_mi_x_E_sumOf : ∀ q ∈ dl_mi_x_E_sumOf, decode prog_1_method_40_code q.1 = .ok (q.2.1, q.2.2) := by decide +kernel
def dl_mi_x_E_count : List (Nat × Instr × Nat) := [(0, .iload_n 1, 1), (1, .tableswitch 161 0 7 #[47, 55, 63, 71, 84, 116, 148, 153], 47), (48, .aload_n 0, 1), (49, .getfield 10, 3), (52, .getfield 158, 3), (55, .ireturn, 1), (56, .aload_n 0, 1), (57, .getfield 10, 3), (60, .getfield 112, 3), (63, .ireturn, 1), (64, .aload_n 0, 1), (65, .getfield 10, 3), (68, .getfield 100, 3), (71, .ireturn, 1), (72, .aload_n 0, 1), (73, .getfield 10, 3), (76, .getfield 90, 3), (79, .bipush 6, 2), (81, .invokestatic 161, 3), (84, .ireturn, 1), (85, .aload_n 0, 1), (86, .getfield 31, 3), (89, .invokevirtual 115, 3), (92, .aload_n 0, 1), (93, .getfield 31, 3), (96, .invokevirtual 142, 3), (99, .aload_n 0, 1), (100, .getfield 31, 3), (103, .getfield 145, 3), (106, .aload_n 0, 1), (107, .getfield 10, 3), (110, .getfield 158, 3), (113, .invokestatic 161, 3), (116, .ireturn, 1), (117, .aload_n 0, 1), (118, .getfield 31, 3), (121, .invokevirtual 115, 3), (124, .aload_n 0, 1), (125, .getfield 31, 3), (128, .invokevirtual 142, 3), (131, .aload_n 0, 1), (132, .getfield 31, 3), (135, .getfield 164, 3), (138, .aload_n 0, 1), (139, .getfield 10, 3), (142, .getfield 158, 3), (145, .invokestatic 161, 3), (148, .ireturn, 1), (149, .aload_n 0, 1), (150, .getfield 62, 3), (153, .ireturn, 1), (154, .aload_n 0, 1), (155, .getfield 38, 3), (158, .getfield 73, 3), (161, .ireturn, 1), (162, .iload_n 1, 1), (163, .bipush 11, 2), (165, .if_icmp .lt 23, 3), (168, .iload_n 1, 1), (169, .bipush 16, 2), (171, .if_icmp .gt 17, 3), (174, .aload_n 0, 1), (175, .getfield 66, 3), (178, .iload_n 1, 1), (179, .bipush 10, 2), (181, .isub, 1), (182, .invokestatic 125, 3), (185, .goto 5, 3), (188, .bipush (-9), 2), (190, .ireturn, 1)]
theorem dt_mi_x_E_count : ∀ q ∈ dl_mi_x_E_count, decode prog_1_method_13_code q.1 = .ok (q.2.1, q.2.2) := by decide +kernel
def dl_mi_x_E_levels : List (Nat × Instr × Nat) := [(0, .aload_n 0, 1), (1, .getfield 31, 3), (4, .invokevirtual 115, 3), (7, .iconst 0, 1), (8, .istore_n 1, 1), (9, .iconst 0, 1), (10, .istore_n 2, 1), (11, .iload_n 2, 1), (12, .bipush 28, 2), (14, .if_icmp .ge 33, 3), (17, .aload_n 0, 1), (18, .getfield 31, 3), (21, .iload_n 2, 1), (22, .putfield 167, 3), (25, .aload_n 0, 1), (26, .getfield 31, 3), (29, .invokevirtual 148, 3), (32, .ifCond .eq 9, 3), (35, .iload_n 1, 1), (36, .iconst 1, 1), (37, .iload_n 2, 1), (38, .ishl, 1), (39, .ior, 1), (40, .istore_n 1, 1), (41, .iinc 2 1, 3), (44, .goto (-33), 3), (47, .iload_n 1, 1), (48, .ireturn, 1)]
theorem dt_mi_x_E_levels : ∀ q ∈ dl_mi_x_E_levels, decode prog_1_method_14_code q.1 = .ok (q.2.1, q.2.2) := by decide +kernel
def dl_mi_x_E_raise : List (Nat × Instr × Nat) := [(0, .aload_n 0, 1), (1, .getfield 31, 3), (4, .getfield 167, 3), (7, .aload_n 0, 1), (8, .getfield 31, 3), (11, .iload_n 1, 1), (12, .iload_n 1, 1), (13, .invokevirtual 118, 3), (16, .isub, 1), (17, .istore_n 2, 1), (18, .iload_n 2, 1), (19, .ifCond .le 21, 3), (22, .aload_n 0, 1), (23, .getfield 10, 3), (26, .getfield 106, 3), (29, .iload_n 1, 1), (30, .invokestatic 125, 3), (33, .iload_n 2, 1), (34, .iadd, 1), (35, .bipush 9, 2), (37, .if_icmp .le 5, 3), (40, .iconst 0, 1), (41, .ireturn, 1), (42, .aload_n 0, 1), (43, .getfield 31, 3), (46, .getfield 251, 3), (49, .iload_n 1, 1), (50, .iload_n 2, 1), (51, .invokestatic 174, 3), (54, .pop, 1), (55, .iload_n 2, 1), (56, .ireturn, 1)]
theorem dt_mi_x_E_raise : ∀ q ∈ dl_mi_x_E_raise, decode prog_1_method_34_code q.1 = .ok (q.2.1, q.2.2) := by decide +kernel
def dl_mi_x_E_raiseBoth : List (Nat × Instr × Nat) := [(0, .aload_n 0, 1), (1, .getfield 31, 3), (4, .invokevirtual 115, 3), (7, .aload_n 0, 1), (8, .iload_n 1, 1), (9, .invokevirtual 248, 3), (12, .istore_n 3, 1), (13, .iload_n 2, 1), (14, .iload_n 1, 1), (15, .if_icmp .eq 28, 3), (18, .aload_n 0, 1), (19, .iload_n 2, 1), (20, .invokevirtual 248, 3), (23, .istore 4, 2), (25, .iload_n 3, 1), (26, .ifCond .le 15, 3), (29, .iload 4, 2), (31, .ifCond .le 10, 3), (34, .iload_n 3, 1), (35, .iload 4, 2), (37, .iadd, 1), (38, .goto 4, 3), (41, .iconst 0, 1), (42, .istore_n 3, 1), (43, .iload_n 3, 1), (44, .ifCond .le 17, 3), (47, .aload_n 0, 1), (48, .getfield 31, 3), (51, .invokevirtual 148, 3), (54, .ifCond .eq 7, 3), (57, .iload_n 3, 1), (58, .goto 4, 3), (61, .iconst 0, 1), (62, .ireturn, 1)]
theorem dt_mi_x_E_raiseBoth : ∀ q ∈ dl_mi_x_E_raiseBoth, decode prog_1_method_33_code q.1 = .ok (q.2.1, q.2.2) := by decide +kernel
def dl_mi_x_E_blocks : List (Nat × Instr × Nat) := [(0, .aload_n 0, 1), (1, .getfield 31, 3), (4, .invokevirtual 115, 3), (7, .aload_n 0, 1), (8, .getfield 31, 3), (11, .invokevirtual 148, 3), (14, .ifCond .eq 5, 3), (17, .iconst 0, 1), (18, .ireturn, 1), (19, .bipush (-9), 2), (21, .istore_n 1, 1), (22, .iconst 0, 1), (23, .istore_n 2, 1), (24, .iload_n 2, 1), (25, .aload_n 0, 1), (26, .getfield 10, 3), (29, .getfield 158, 3), (32, .if_icmp .ge 54, 3), (35, .iload_n 2, 1), (36, .istore_n 3, 1), (37, .iload_n 3, 1), (38, .aload_n 0, 1), (39, .getfield 10, 3), (42, .getfield 158, 3), (45, .if_icmp .ge 35, 3), (48, .aload_n 0, 1), (49, .iload_n 2, 1), (50, .iload_n 3, 1), (51, .invokevirtual 168, 3), (54, .istore 4, 2), (56, .iload 4, 2), (58, .ifCond .le 16, 3), (61, .iload_n 1, 1), (62, .ifCond .lt 9, 3), (65, .iload 4, 2), (67, .iload_n 1, 1), (68, .if_icmp .ge 6, 3), (71, .iload 4, 2), (73, .istore_n 1, 1), (74, .iinc 3 1, 3), (77, .goto (-40), 3), (80, .iinc 2 1, 3), (83, .goto (-59), 3), (86, .iload_n 1, 1), (87, .ireturn, 1)]
theorem dt_mi_x_E_blocks : ∀ q ∈ dl_mi_x_E_blocks, decode prog_1_method_15_code q.1 = .ok (q.2.1, q.2.2) := by decide +kernel
def dl_mi_x_E_swap : List (Nat × Instr × Nat) := [(0, .iconst 0, 1), (1, .istore_n 1, 1), (2, .iload_n 1, 1), (3, .aload_n 0, 1), (4, .getfield 10, 3), (7, .getfield 158, 3), (10, .if_icmp .ge 80, 3), (13, .iload_n 1, 1), (14, .iconst 1, 1), (15, .iadd, 1), (16, .istore_n 2, 1), (17, .iload_n 2, 1), (18, .aload_n 0, 1), (19, .getfield 10, 3), (22, .getfield 158, 3), (25, .if_icmp .ge 59, 3), (28, .aload_n 0, 1), (29, .getfield 31, 3), (32, .invokevirtual 115, 3), (35, .aload_n 0, 1), (36, .getfield 31, 3), (39, .getfield 171, 3), (42, .iload_n 1, 1), (43, .iload_n 2, 1), (44, .invokestatic 174, 3), (47, .pop, 1), (48, .aload_n 0, 1), (49, .getfield 31, 3), (52, .getfield 171, 3), (55, .iload_n 2, 1), (56, .iload_n 1, 1), (57, .invokestatic 174, 3), (60, .pop, 1), (61, .aload_n 0, 1), (62, .getfield 31, 3), (65, .invokevirtual 148, 3), (68, .ifCond .eq 10, 3), (71, .bipush 10, 2), (73, .iload_n 1, 1), (74, .imul, 1), (75, .iload_n 2, 1), (76, .iadd, 1), (77, .ireturn, 1), (78, .iinc 2 1, 3), (81, .goto (-64), 3), (84, .iinc 1 1, 3), (87, .goto (-85), 3), (90, .bipush (-9), 2), (92, .ireturn, 1)]
theorem dt_mi_x_E_swap : ∀ q ∈ dl_mi_x_E_swap, decode prog_1_method_16_code q.1 = .ok (q.2.1, q.2.2) := by decide +kernel
def dl_mi_x_O_spotOf : List (Nat × Instr × Nat) := [(0, .iload_n 0, 1), (1, .bipush 7, 2), (3, .imul, 1), (4, .iload_n 1, 1), (5, .iadd, 1), (6, .iconst 2, 1), (7, .imul, 1), (8, .iload_n 2, 1), (9, .iadd, 1), (10, .ireturn, 1)]
theorem dt_mi_x_O_spotOf : ∀ q ∈ dl_mi_x_O_spotOf, decode prog_3_method_3_code q.1 = .ok (q.2.1, q.2.2) := by decide +kernel
def dl_mi_x_I_bitCount : List (Nat × Instr × Nat) := [(0, .iload_n 0, 1), (1, .iload_n 0, 1), (2, .iconst 1, 1), (3, .iushr, 1), (4, .ldc_w 265, 3), (7, .iand, 1), (8, .isub, 1), (9, .istore_n 0, 1), (10, .iload_n 0, 1), (11, .ldc_w 266, 3), (14, .iand, 1), (15, .iload_n 0, 1), (16, .iconst 2, 1), (17, .iushr, 1), (18, .ldc_w 266, 3), (21, .iand, 1), (22, .iadd, 1), (23, .istore_n 0, 1), (24, .iload_n 0, 1), (25, .iload_n 0, 1), (26, .iconst 4, 1), (27, .iushr, 1), (28, .iadd, 1), (29, .ldc_w 267, 3), (32, .iand, 1), (33, .istore_n 0, 1), (34, .iload_n 0, 1), (35, .iload_n 0, 1), (36, .bipush 8, 2), (38, .iushr, 1), (39, .iadd, 1), (40, .istore_n 0, 1), (41, .iload_n 0, 1), (42, .iload_n 0, 1), (43, .bipush 16, 2), (45, .iushr, 1), (46, .iadd, 1), (47, .istore_n 0, 1), (48, .iload_n 0, 1), (49, .bipush 63, 2), (51, .iand, 1), (52, .ireturn, 1)]
theorem dt_mi_x_I_bitCount : ∀ q ∈ dl_mi_x_I_bitCount, decode prog_9_method_49_code q.1 = .ok (q.2.1, q.2.2) := by decide +kernel
def dl_mi_x_O_mostOf : List (Nat × Instr × Nat) := [(0, .aload_n 0, 1), (1, .getfield 15, 3), (4, .iload_n 1, 1), (5, .bipush 7, 2), (7, .imul, 1), (8, .iload_n 2, 1), (9, .iadd, 1), (10, .invokestatic 56, 3), (13, .ireturn, 1)]
theorem dt_mi_x_O_mostOf : ∀ q ∈ dl_mi_x_O_mostOf, decode prog_3_method_4_code q.1 = .ok (q.2.1, q.2.2) := by decide +kernel
def dl_mi_x_O_bearsLeft : List (Nat × Instr × Nat) := [(0, .aload_n 0, 1), (1, .iload_n 2, 1), (2, .iload_n 1, 1), (3, .invokevirtual 77, 3), (6, .istore 5, 2), (8, .aload_n 0, 1), (9, .getfield 9, 3), (12, .getfield 74, 3), (15, .iload_n 1, 1), (16, .iconst 1, 1), (17, .isub, 1), (18, .invokestatic 56, 3), (21, .istore 6, 2), (23, .iload_n 3, 1), (24, .iconst 1, 1), (25, .if_icmp .ne 8, 3), (28, .iload 6, 2), (30, .goto 7, 3), (33, .iconst 2, 1), (34, .iload 6, 2), (36, .imul, 1), (37, .istore 7, 2), (39, .iload 5, 2), (41, .ifCond .lt 13, 3), (44, .iload 7, 2), (46, .iload 4, 2), (48, .iadd, 1), (49, .iload 5, 2), (51, .if_icmp .gt 7, 3), (54, .iconst 1, 1), (55, .goto 4, 3), (58, .iconst 0, 1), (59, .ireturn, 1)]
theorem dt_mi_x_O_bearsLeft : ∀ q ∈ dl_mi_x_O_bearsLeft, decode prog_3_method_7_code q.1 = .ok (q.2.1, q.2.2) := by decide +kernel
def dl_mi_x_O_waysWith : List (Nat × Instr × Nat) := [(0, .iload_n 1, 1), (1, .iload 4, 2), (3, .ishr, 1), (4, .iconst 1, 1), (5, .iand, 1), (6, .iconst 1, 1), (7, .if_icmp .ne 5, 3), (10, .iconst 0, 1), (11, .ireturn, 1), (12, .iload_n 1, 1), (13, .invokestatic 60, 3), (16, .iconst 1, 1), (17, .isub, 1), (18, .istore 5, 2), (20, .aload_n 0, 1), (21, .getfield 9, 3), (24, .getfield 74, 3), (27, .iload 5, 2), (29, .invokestatic 56, 3), (32, .istore 6, 2), (34, .aload_n 0, 1), (35, .iload_n 2, 1), (36, .iload 5, 2), (38, .invokevirtual 77, 3), (41, .ifCond .lt 7, 3), (44, .iconst 1, 1), (45, .goto 4, 3), (48, .iconst 0, 1), (49, .istore 7, 2), (51, .aload_n 0, 1), (52, .iload 4, 2), (54, .iload 5, 2), (56, .iconst 1, 1), (57, .iadd, 1), (58, .invokevirtual 77, 3), (61, .ifCond .lt 7, 3), (64, .iconst 1, 1), (65, .goto 4, 3), (68, .iconst 0, 1), (69, .istore 8, 2), (71, .iload 7, 2), (73, .ifCond .ne 15, 3), (76, .iload 8, 2), (78, .ifCond .ne 10, 3), (81, .iload 6, 2), (83, .ifCond .le 5, 3), (86, .iconst 0, 1), (87, .ireturn, 1), (88, .aload_n 0, 1), (89, .iload 5, 2), (91, .iload_n 2, 1), (92, .iload_n 3, 1), (93, .iload 8, 2), (95, .ifCond .eq 8, 3), (98, .iload 6, 2), (100, .goto 7, 3), (103, .iconst 2, 1), (104, .iload 6, 2), (106, .imul, 1), (107, .invokevirtual 66, 3), (110, .ifCond .ne 5, 3), (113, .iconst 0, 1), (114, .ireturn, 1), (115, .aload_n 0, 1), (116, .getfield 19, 3), (119, .iload_n 1, 1), (120, .iconst 1, 1), (121, .iload 4, 2), (123, .ishl, 1), (124, .ior, 1), (125, .iload 4, 2), (127, .iload 7, 2), (129, .ifCond .eq 7, 3), (132, .iconst 1, 1), (133, .goto 4, 3), (136, .iconst 0, 1), (137, .invokestatic 49, 3), (140, .invokestatic 56, 3), (143, .ireturn, 1)]
theorem dt_mi_x_O_waysWith : ∀ q ∈ dl_mi_x_O_waysWith, decode prog_3_method_6_code q.1 = .ok (q.2.1, q.2.2) := by decide +kernel
def dl_mi_x_O_waysOn : List (Nat × Instr × Nat) := [(0, .iload_n 1, 1), (1, .invokestatic 60, 3), (4, .iconst 1, 1), (5, .isub, 1), (6, .istore 4, 2), (8, .iload 4, 2), (10, .iconst 1, 1), (11, .iadd, 1), (12, .aload_n 0, 1), (13, .getfield 9, 3), (16, .getfield 22, 3), (19, .getfield 28, 3), (22, .if_icmp .lt 21, 3), (25, .aload_n 0, 1), (26, .iload 4, 2), (28, .iload_n 2, 1), (29, .iload_n 3, 1), (30, .iconst 0, 1), (31, .invokevirtual 66, 3), (34, .ifCond .eq 7, 3), (37, .iconst 1, 1), (38, .goto 4, 3), (41, .iconst 0, 1), (42, .ireturn, 1), (43, .iconst 0, 1), (44, .istore 5, 2), (46, .iconst 0, 1), (47, .istore 6, 2), (49, .iload 6, 2), (51, .aload_n 0, 1), (52, .getfield 9, 3), (55, .getfield 22, 3), (58, .getfield 28, 3), (61, .if_icmp .ge 23, 3), (64, .iload 5, 2), (66, .aload_n 0, 1), (67, .iload_n 1, 1), (68, .iload_n 2, 1), (69, .iload_n 3, 1), (70, .iload 6, 2), (72, .invokevirtual 70, 3), (75, .iadd, 1), (76, .istore 5, 2), (78, .iinc 6 1, 3), (81, .goto (-32), 3), (84, .iload 5, 2), (86, .ireturn, 1)]
theorem dt_mi_x_O_waysOn : ∀ q ∈ dl_mi_x_O_waysOn, decode prog_3_method_5_code q.1 = .ok (q.2.1, q.2.2) := by decide +kernel
def dl_mi_x_O_fill : List (Nat × Instr × Nat) := [(0, .aload_n 0, 1), (1, .getfield 9, 3), (4, .getfield 22, 3), (7, .getfield 28, 3), (10, .istore_n 1, 1), (11, .iconst 0, 1), (12, .istore_n 2, 1), (13, .iload_n 2, 1), (14, .iload_n 1, 1), (15, .if_icmp .ge 80, 3), (18, .iconst 0, 1), (19, .istore_n 3, 1), (20, .iload_n 3, 1), (21, .iload_n 1, 1), (22, .if_icmp .ge 67, 3), (25, .aload_n 0, 1), (26, .getfield 9, 3), (29, .iload_n 2, 1), (30, .iload_n 3, 1), (31, .invokevirtual 34, 3), (34, .istore 4, 2), (36, .aload_n 0, 1), (37, .getfield 9, 3), (40, .iload_n 2, 1), (41, .iload 4, 2), (43, .invokevirtual 38, 3), (46, .ifCond .eq 18, 3), (49, .iconst 2, 1), (50, .aload_n 0, 1), (51, .getfield 9, 3), (54, .iload_n 2, 1), (55, .iload 4, 2), (57, .invokevirtual 42, 3), (60, .imul, 1), (61, .goto 4, 3), (64, .iconst (-1), 1), (65, .istore 5, 2), (67, .aload_n 0, 1), (68, .getfield 15, 3), (71, .iload_n 2, 1), (72, .bipush 7, 2), (74, .imul, 1), (75, .iload_n 3, 1), (76, .iadd, 1), (77, .iload 5, 2), (79, .invokestatic 45, 3), (82, .pop, 1), (83, .iinc 3 1, 3), (86, .goto (-66), 3), (89, .iinc 2 1, 3), (92, .goto (-79), 3), (95, .iconst 1, 1), (96, .iload_n 1, 1), (97, .ishl, 1), (98, .iconst 1, 1), (99, .isub, 1), (100, .istore_n 2, 1), (101, .iload_n 2, 1), (102, .ifCond .le 73, 3), (105, .iconst 0, 1), (106, .istore_n 3, 1), (107, .iload_n 3, 1), (108, .iload_n 1, 1), (109, .if_icmp .ge 60, 3), (112, .iload_n 2, 1), (113, .iload_n 3, 1), (114, .ishr, 1), (115, .iconst 1, 1), (116, .iand, 1), (117, .iconst 1, 1), (118, .if_icmp .ne 45, 3), (121, .aload_n 0, 1), (122, .getfield 19, 3), (125, .iload_n 2, 1), (126, .iload_n 3, 1), (127, .iconst 0, 1), (128, .invokestatic 49, 3), (131, .aload_n 0, 1), (132, .iload_n 2, 1), (133, .iload_n 3, 1), (134, .iconst 0, 1), (135, .invokevirtual 53, 3), (138, .invokestatic 45, 3), (141, .pop, 1), (142, .aload_n 0, 1), (143, .getfield 19, 3), (146, .iload_n 2, 1), (147, .iload_n 3, 1), (148, .iconst 1, 1), (149, .invokestatic 49, 3), (152, .aload_n 0, 1), (153, .iload_n 2, 1), (154, .iload_n 3, 1), (155, .iconst 1, 1), (156, .invokevirtual 53, 3), (159, .invokestatic 45, 3), (162, .pop, 1), (163, .iinc 3 1, 3), (166, .goto (-59), 3), (169, .iinc 2 (-1), 3), (172, .goto (-71), 3), (175, .return_, 1)]
theorem dt_mi_x_O_fill : ∀ q ∈ dl_mi_x_O_fill, decode prog_3_method_2_code q.1 = .ok (q.2.1, q.2.2) := by decide +kernel
def dl_mi_x_O_leastNext : List (Nat × Instr × Nat) := [(0, .iconst 0, 1), (1, .istore 4, 2), (3, .iload 4, 2), (5, .aload_n 0, 1), (6, .getfield 9, 3), (9, .getfield 22, 3), (12, .getfield 28, 3), (15, .if_icmp .ge 52, 3), (18, .iload_n 1, 1), (19, .ifCond .ne 23, 3), (22, .aload_n 0, 1), (23, .getfield 19, 3), (26, .iconst 1, 1), (27, .iload 4, 2), (29, .ishl, 1), (30, .iload 4, 2), (32, .iconst 0, 1), (33, .invokestatic 49, 3), (36, .invokestatic 56, 3), (39, .goto 12, 3), (42, .aload_n 0, 1), (43, .iload_n 1, 1), (44, .iload_n 2, 1), (45, .iload_n 3, 1), (46, .iload 4, 2), (48, .invokevirtual 70, 3), (51, .istore 5, 2), (53, .iload 5, 2), (55, .ifCond .le 6, 3), (58, .iload 4, 2), (60, .ireturn, 1), (61, .iinc 4 1, 3), (64, .goto (-61), 3), (67, .iconst (-1), 1), (68, .ireturn, 1)]
theorem dt_mi_x_O_leastNext : ∀ q ∈ dl_mi_x_O_leastNext, decode prog_3_method_10_code q.1 = .ok (q.2.1, q.2.2) := by decide +kernel
def dl_mi_x_O_firstUnder : List (Nat × Instr × Nat) := [(0, .iconst 0, 1), (1, .istore_n 2, 1), (2, .iconst (-1), 1), (3, .istore_n 3, 1), (4, .iconst 0, 1), (5, .istore 4, 2), (7, .iconst 0, 1), (8, .istore 5, 2), (10, .iload 5, 2), (12, .iload_n 1, 1), (13, .if_icmp .gt 76, 3), (16, .iload 5, 2), (18, .aload_n 0, 1), (19, .getfield 9, 3), (22, .getfield 22, 3), (25, .getfield 28, 3), (28, .if_icmp .ge 61, 3), (31, .aload_n 0, 1), (32, .iload_n 2, 1), (33, .iload_n 3, 1), (34, .iload 4, 2), (36, .invokevirtual 80, 3), (39, .istore 6, 2), (41, .iload 6, 2), (43, .ifCond .ge 6, 3), (46, .bipush (-9), 2), (48, .ireturn, 1), (49, .iload 5, 2), (51, .ifCond .le 19, 3), (54, .aload_n 0, 1), (55, .iload_n 3, 1), (56, .iload 5, 2), (58, .iconst 1, 1), (59, .isub, 1), (60, .invokevirtual 77, 3), (63, .ifCond .lt 7, 3), (66, .iconst 1, 1), (67, .goto 4, 3), (70, .iconst 0, 1), (71, .istore 4, 2), (73, .iload_n 2, 1), (74, .iconst 1, 1), (75, .iload 6, 2), (77, .ishl, 1), (78, .ior, 1), (79, .istore_n 2, 1), (80, .iload 6, 2), (82, .istore_n 3, 1), (83, .iinc 5 1, 3), (86, .goto (-76), 3), (89, .iload_n 3, 1), (90, .ireturn, 1)]
theorem dt_mi_x_O_firstUnder : ∀ q ∈ dl_mi_x_O_firstUnder, decode prog_3_method_9_code q.1 = .ok (q.2.1, q.2.2) := by decide +kernel
def dl_mi_x_O_total : List (Nat × Instr × Nat) := [(0, .aload_n 0, 1), (1, .getfield 9, 3), (4, .getfield 22, 3), (7, .getfield 28, 3), (10, .ifCond .ne 5, 3), (13, .iconst 1, 1), (14, .ireturn, 1), (15, .iconst 0, 1), (16, .istore_n 1, 1), (17, .iconst 0, 1), (18, .istore_n 2, 1), (19, .iload_n 2, 1), (20, .aload_n 0, 1), (21, .getfield 9, 3), (24, .getfield 22, 3), (27, .getfield 28, 3), (30, .if_icmp .ge 27, 3), (33, .iload_n 1, 1), (34, .aload_n 0, 1), (35, .getfield 19, 3), (38, .iconst 1, 1), (39, .iload_n 2, 1), (40, .ishl, 1), (41, .iload_n 2, 1), (42, .iconst 0, 1), (43, .invokestatic 49, 3), (46, .invokestatic 56, 3), (49, .iadd, 1), (50, .istore_n 1, 1), (51, .iinc 2 1, 3), (54, .goto (-35), 3), (57, .iload_n 1, 1), (58, .ireturn, 1)]
theorem dt_mi_x_O_total : ∀ q ∈ dl_mi_x_O_total, decode prog_3_method_8_code q.1 = .ok (q.2.1, q.2.2) := by decide +kernel
def dl_mi_x_E_orders : List (Nat × Instr × Nat) := [(0, .iload_n 1, 1), (1, .iconst (-1), 1), (2, .if_icmp .lt 14, 3), (5, .iload_n 1, 1), (6, .aload_n 0, 1), (7, .getfield 10, 3), (10, .getfield 158, 3), (13, .if_icmp .lt 9, 3), (16, .aload_n 0, 1), (17, .iconst (-1), 1), (18, .invokevirtual 69, 3), (21, .ireturn, 1), (22, .aload_n 0, 1), (23, .getfield 31, 3), (26, .invokevirtual 115, 3), (29, .aload_n 0, 1), (30, .getfield 54, 3), (33, .invokevirtual 178, 3), (36, .iload_n 1, 1), (37, .iconst (-1), 1), (38, .if_icmp .ne 13, 3), (41, .aload_n 0, 1), (42, .getfield 54, 3), (45, .invokevirtual 181, 3), (48, .goto 11, 3), (51, .aload_n 0, 1), (52, .getfield 54, 3), (55, .iload_n 1, 1), (56, .invokevirtual 184, 3), (59, .ireturn, 1)]
theorem dt_mi_x_E_orders : ∀ q ∈ dl_mi_x_E_orders, decode prog_1_method_17_code q.1 = .ok (q.2.1, q.2.2) := by decide +kernel
def dl_mi_x_E_needed : List (Nat × Instr × Nat) := [(0, .aload_n 0, 1), (1, .getfield 31, 3), (4, .invokevirtual 115, 3), (7, .aload_n 0, 1), (8, .getfield 31, 3), (11, .invokevirtual 148, 3), (14, .ifCond .ne 5, 3), (17, .iconst 0, 1), (18, .ireturn, 1), (19, .iconst 0, 1), (20, .istore_n 1, 1), (21, .iconst 0, 1), (22, .istore_n 2, 1), (23, .iload_n 2, 1), (24, .aload_n 0, 1), (25, .getfield 10, 3), (28, .getfield 158, 3), (31, .if_icmp .ge 35, 3), (34, .aload_n 0, 1), (35, .getfield 31, 3), (38, .iconst 1, 1), (39, .iload_n 2, 1), (40, .ishl, 1), (41, .putfield 187, 3), (44, .aload_n 0, 1), (45, .getfield 31, 3), (48, .invokevirtual 148, 3), (51, .ifCond .ne 9, 3), (54, .iload_n 1, 1), (55, .iconst 1, 1), (56, .iload_n 2, 1), (57, .ishl, 1), (58, .ior, 1), (59, .istore_n 1, 1), (60, .iinc 2 1, 3), (63, .goto (-40), 3), (66, .iload_n 1, 1), (67, .ireturn, 1)]
theorem dt_mi_x_E_needed : ∀ q ∈ dl_mi_x_E_needed, decode prog_1_method_18_code q.1 = .ok (q.2.1, q.2.2) := by decide +kernel
def dl_mi_x_E_more : List (Nat × Instr × Nat) := [(0, .iload_n 1, 1), (1, .invokestatic 86, 3), (4, .ifCond .ne 9, 3), (7, .aload_n 0, 1), (8, .iconst (-1), 1), (9, .invokevirtual 69, 3), (12, .ireturn, 1), (13, .aload_n 0, 1), (14, .getfield 31, 3), (17, .invokevirtual 115, 3), (20, .aload_n 0, 1), (21, .getfield 31, 3), (24, .invokevirtual 148, 3), (27, .ifCond .ne 6, 3), (30, .bipush (-9), 2), (32, .ireturn, 1), (33, .iconst 0, 1), (34, .istore_n 2, 1), (35, .iconst 1, 1), (36, .istore_n 3, 1), (37, .iload_n 3, 1), (38, .bipush 99, 2), (40, .if_icmp .gt 55, 3), (43, .aload_n 0, 1), (44, .getfield 31, 3), (47, .getfield 190, 3), (50, .iload_n 1, 1), (51, .aload_n 0, 1), (52, .getfield 10, 3), (55, .getfield 90, 3), (58, .iload_n 1, 1), (59, .invokestatic 125, 3), (62, .iload_n 3, 1), (63, .iadd, 1), (64, .invokestatic 174, 3), (67, .pop, 1), (68, .aload_n 0, 1), (69, .getfield 31, 3), (72, .invokevirtual 191, 3), (75, .aload_n 0, 1), (76, .getfield 31, 3), (79, .invokevirtual 194, 3), (82, .ifCond .ne 5, 3), (85, .iload_n 2, 1), (86, .ireturn, 1), (87, .iload_n 3, 1), (88, .istore_n 2, 1), (89, .iinc 3 1, 3), (92, .goto (-55), 3), (95, .iload_n 2, 1), (96, .ireturn, 1)]
theorem dt_mi_x_E_more : ∀ q ∈ dl_mi_x_E_more, decode prog_1_method_19_code q.1 = .ok (q.2.1, q.2.2) := by decide +kernel
def dl_mi_x_E_seeds : List (Nat × Instr × Nat) := [(0, .iload_n 1, 1), (1, .iconst 1, 1), (2, .if_icmp .ge 10, 3), (5, .aload_n 0, 1), (6, .bipush (-4), 2), (8, .invokevirtual 69, 3), (11, .ireturn, 1), (12, .iload_n 1, 1), (13, .bipush 30, 2), (15, .if_icmp .le 10, 3), (18, .aload_n 0, 1), (19, .bipush (-6), 2), (21, .invokevirtual 69, 3), (24, .ireturn, 1), (25, .aload_n 0, 1), (26, .getfield 31, 3), (29, .invokevirtual 115, 3), (32, .aload_n 0, 1), (33, .getfield 31, 3), (36, .invokevirtual 197, 3), (39, .iconst 0, 1), (40, .istore_n 3, 1), (41, .iload_n 2, 1), (42, .istore 4, 2), (44, .iconst 0, 1), (45, .istore 5, 2), (47, .iload 5, 2), (49, .iload_n 1, 1), (50, .if_icmp .ge 80, 3), (53, .iconst 0, 1), (54, .istore 6, 2), (56, .iload 6, 2), (58, .bipush 6, 2), (60, .if_icmp .ge 44, 3), (63, .iload 4, 2), (65, .ldc 200, 2), (67, .imul, 1), (68, .ldc 201, 2), (70, .iadd, 1), (71, .istore 4, 2), (73, .aload_n 0, 1), (74, .getfield 31, 3), (77, .getfield 190, 3), (80, .iload 6, 2), (82, .iload 4, 2), (84, .ldc 202, 2), (86, .iand, 1), (87, .sipush 256, 3), (90, .idiv, 1), (91, .bipush 100, 2), (93, .irem, 1), (94, .invokestatic 174, 3), (97, .pop, 1), (98, .iinc 6 1, 3), (101, .goto (-45), 3), (104, .aload_n 0, 1), (105, .getfield 31, 3), (108, .invokevirtual 191, 3), (111, .aload_n 0, 1), (112, .getfield 31, 3), (115, .invokevirtual 194, 3), (118, .ifCond .eq 6, 3), (121, .iinc 3 1, 3), (124, .iinc 5 1, 3), (127, .goto (-80), 3), (130, .iload_n 3, 1), (131, .ireturn, 1)]
theorem dt_mi_x_E_seeds : ∀ q ∈ dl_mi_x_E_seeds, decode prog_1_method_20_code q.1 = .ok (q.2.1, q.2.2) := by decide +kernel
def dl_mi_x_E_row : List (Nat × Instr × Nat) := [(0, .iload_n 1, 1), (1, .ifCond .ge 10, 3), (4, .aload_n 0, 1), (5, .bipush (-4), 2), (7, .invokevirtual 69, 3), (10, .ireturn, 1), (11, .iload_n 1, 1), (12, .sipush 400, 3), (15, .if_icmp .gt 12, 3), (18, .aload_n 0, 1), (19, .getfield 62, 3), (22, .bipush 7, 2), (24, .if_icmp .lt 10, 3), (27, .aload_n 0, 1), (28, .bipush (-6), 2), (30, .invokevirtual 69, 3), (33, .ireturn, 1), (34, .aload_n 0, 1), (35, .getfield 58, 3), (38, .aload_n 0, 1), (39, .getfield 62, 3), (42, .iload_n 1, 1), (43, .invokestatic 174, 3), (46, .pop, 1), (47, .aload_n 0, 1), (48, .dup, 1), (49, .getfield 62, 3), (52, .iconst 1, 1), (53, .iadd, 1), (54, .putfield 62, 3), (57, .aload_n 0, 1), (58, .getfield 62, 3), (61, .ireturn, 1)]
theorem dt_mi_x_E_row : ∀ q ∈ dl_mi_x_E_row, decode prog_1_method_21_code q.1 = .ok (q.2.1, q.2.2) := by decide +kernel
def dl_mi_x_E_firstUntrue : List (Nat × Instr × Nat) := [(0, .aload_n 0, 1), (1, .getfield 31, 3), (4, .invokevirtual 142, 3), (7, .iconst 0, 1), (8, .istore_n 1, 1), (9, .iload_n 1, 1), (10, .aload_n 0, 1), (11, .getfield 62, 3), (14, .if_icmp .ge 44, 3), (17, .iload_n 1, 1), (18, .aload_n 0, 1), (19, .getfield 10, 3), (22, .getfield 158, 3), (25, .if_icmp .ge 33, 3), (28, .aload_n 0, 1), (29, .getfield 58, 3), (32, .iload_n 1, 1), (33, .invokestatic 125, 3), (36, .aload_n 0, 1), (37, .getfield 31, 3), (40, .getfield 145, 3), (43, .iload_n 1, 1), (44, .invokestatic 125, 3), (47, .if_icmp .eq 5, 3), (50, .iload_n 1, 1), (51, .ireturn, 1), (52, .iinc 1 1, 3), (55, .goto (-46), 3), (58, .iconst (-1), 1), (59, .ireturn, 1)]
theorem dt_mi_x_E_firstUntrue : ∀ q ∈ dl_mi_x_E_firstUntrue, decode prog_1_method_35_code q.1 = .ok (q.2.1, q.2.2) := by decide +kernel
def dl_mi_x_E_slacked : List (Nat × Instr × Nat) := [(0, .aload_n 0, 1), (1, .getfield 62, 3), (4, .aload_n 0, 1), (5, .getfield 10, 3), (8, .getfield 158, 3), (11, .if_icmp .eq 10, 3), (14, .aload_n 0, 1), (15, .bipush (-3), 2), (17, .invokevirtual 69, 3), (20, .ireturn, 1), (21, .aload_n 0, 1), (22, .getfield 31, 3), (25, .invokevirtual 115, 3), (28, .aload_n 0, 1), (29, .invokevirtual 203, 3), (32, .ifCond .ge 9, 3), (35, .sipush 128, 3), (38, .goto 4, 3), (41, .iconst 0, 1), (42, .istore_n 1, 1), (43, .iconst 0, 1), (44, .istore_n 2, 1), (45, .iload_n 2, 1), (46, .aload_n 0, 1), (47, .getfield 10, 3), (50, .getfield 158, 3), (53, .if_icmp .ge 32, 3), (56, .aload_n 0, 1), (57, .getfield 31, 3), (60, .iconst 1, 1), (61, .iload_n 2, 1), (62, .ishl, 1), (63, .putfield 187, 3), (66, .aload_n 0, 1), (67, .invokevirtual 203, 3), (70, .ifCond .ge 9, 3), (73, .iload_n 1, 1), (74, .iconst 1, 1), (75, .iload_n 2, 1), (76, .ishl, 1), (77, .ior, 1), (78, .istore_n 1, 1), (79, .iinc 2 1, 3), (82, .goto (-37), 3), (85, .iload_n 1, 1), (86, .ireturn, 1)]
theorem dt_mi_x_E_slacked : ∀ q ∈ dl_mi_x_E_slacked, decode prog_1_method_22_code q.1 = .ok (q.2.1, q.2.2) := by decide +kernel
def dl_mi_x_E_judge : List (Nat × Instr × Nat) := [(0, .aload_n 0, 1), (1, .getfield 31, 3), (4, .invokevirtual 115, 3), (7, .aload_n 0, 1), (8, .invokevirtual 203, 3), (11, .istore_n 1, 1), (12, .bipush (-9), 2), (14, .istore_n 2, 1), (15, .iload_n 1, 1), (16, .ifCond .lt 8, 3), (19, .iload_n 1, 1), (20, .istore_n 2, 1), (21, .goto 32, 3), (24, .aload_n 0, 1), (25, .getfield 62, 3), (28, .aload_n 0, 1), (29, .getfield 10, 3), (32, .getfield 158, 3), (35, .if_icmp .eq 18, 3), (38, .aload_n 0, 1), (39, .getfield 62, 3), (42, .aload_n 0, 1), (43, .getfield 10, 3), (46, .getfield 158, 3), (49, .invokestatic 206, 3), (52, .istore_n 2, 1), (53, .aload_n 0, 1), (54, .iconst 0, 1), (55, .putfield 62, 3), (58, .iload_n 2, 1), (59, .ireturn, 1)]
theorem dt_mi_x_E_judge : ∀ q ∈ dl_mi_x_E_judge, decode prog_1_method_23_code q.1 = .ok (q.2.1, q.2.2) := by decide +kernel
def dl_mi_x_W_visit : List (Nat × Instr × Nat) := [(0, .iload_n 1, 1), (1, .ifCond .lt 27, 3), (4, .iload_n 1, 1), (5, .aload_n 0, 1), (6, .getfield 9, 3), (9, .getfield 30, 3), (12, .invokevirtual 52, 3), (15, .if_icmp .gt 13, 3), (18, .iload_n 2, 1), (19, .ifCond .lt 9, 3), (22, .iload_n 2, 1), (23, .bipush 28, 2), (25, .if_icmp .lt 4, 3), (28, .return_, 1), (29, .iload_n 1, 1), (30, .bipush 28, 2), (32, .imul, 1), (33, .iload_n 2, 1), (34, .iadd, 1), (35, .istore 4, 2), (37, .aload_n 0, 1), (38, .getfield 15, 3), (41, .iload 4, 2), (43, .invokestatic 48, 3), (46, .ifCond .lt 4, 3), (49, .return_, 1), (50, .aload_n 0, 1), (51, .getfield 9, 3), (54, .iload_n 1, 1), (55, .putfield 56, 3), (58, .aload_n 0, 1), (59, .getfield 9, 3), (62, .iload_n 2, 1), (63, .putfield 57, 3), (66, .aload_n 0, 1), (67, .getfield 9, 3), (70, .invokevirtual 58, 3), (73, .ifCond .eq 40, 3), (76, .aload_n 0, 1), (77, .getfield 19, 3), (80, .aload_n 0, 1), (81, .getfield 22, 3), (84, .iload 4, 2), (86, .invokestatic 26, 3), (89, .ifCond .eq 24, 3), (92, .aload_n 0, 1), (93, .getfield 15, 3), (96, .iload 4, 2), (98, .iload_n 3, 1), (99, .invokestatic 26, 3), (102, .pop, 1), (103, .aload_n 0, 1), (104, .dup, 1), (105, .getfield 22, 3), (108, .iconst 1, 1), (109, .iadd, 1), (110, .putfield 22, 3), (113, .return_, 1)]
theorem dt_mi_x_W_visit : ∀ q ∈ dl_mi_x_W_visit, decode prog_6_method_3_code q.1 = .ok (q.2.1, q.2.2) := by decide +kernel
def dl_mi_x_W_explore : List (Nat × Instr × Nat) := [(0, .iconst 0, 1), (1, .istore_n 1, 1), (2, .iload_n 1, 1), (3, .aload_n 0, 1), (4, .getfield 15, 3), (7, .arraylength, 1), (8, .if_icmp .ge 20, 3), (11, .aload_n 0, 1), (12, .getfield 15, 3), (15, .iload_n 1, 1), (16, .bipush (-9), 2), (18, .invokestatic 26, 3), (21, .pop, 1), (22, .iinc 1 1, 3), (25, .goto (-23), 3), (28, .aload_n 0, 1), (29, .iconst 0, 1), (30, .putfield 22, 3), (33, .aload_n 0, 1), (34, .aload_n 0, 1), (35, .getfield 9, 3), (38, .getfield 30, 3), (41, .getfield 36, 3), (44, .aload_n 0, 1), (45, .getfield 9, 3), (48, .getfield 30, 3), (51, .getfield 41, 3), (54, .iconst 0, 1), (55, .invokevirtual 44, 3), (58, .iconst 0, 1), (59, .istore_n 1, 1), (60, .iload_n 1, 1), (61, .aload_n 0, 1), (62, .getfield 22, 3), (65, .if_icmp .ge 94, 3), (68, .iload_n 1, 1), (69, .aload_n 0, 1), (70, .getfield 19, 3), (73, .arraylength, 1), (74, .if_icmp .ge 85, 3), (77, .aload_n 0, 1), (78, .getfield 19, 3), (81, .iload_n 1, 1), (82, .invokestatic 48, 3), (85, .istore_n 2, 1), (86, .iload_n 2, 1), (87, .bipush 28, 2), (89, .idiv, 1), (90, .istore_n 3, 1), (91, .iload_n 2, 1), (92, .bipush 28, 2), (94, .irem, 1), (95, .istore 4, 2), (97, .aload_n 0, 1), (98, .getfield 15, 3), (101, .iload_n 2, 1), (102, .invokestatic 48, 3), (105, .iconst 1, 1), (106, .iadd, 1), (107, .istore 5, 2), (109, .aload_n 0, 1), (110, .iload_n 3, 1), (111, .iconst 1, 1), (112, .isub, 1), (113, .iload 4, 2), (115, .iload 5, 2), (117, .invokevirtual 44, 3), (120, .aload_n 0, 1), (121, .iload_n 3, 1), (122, .iconst 1, 1), (123, .iadd, 1), (124, .iload 4, 2), (126, .iload 5, 2), (128, .invokevirtual 44, 3), (131, .aload_n 0, 1), (132, .iload_n 3, 1), (133, .iload 4, 2), (135, .iconst 1, 1), (136, .isub, 1), (137, .iload 5, 2), (139, .invokevirtual 44, 3), (142, .aload_n 0, 1), (143, .iload_n 3, 1), (144, .iload 4, 2), (146, .iconst 1, 1), (147, .iadd, 1), (148, .iload 5, 2), (150, .invokevirtual 44, 3), (153, .iinc 1 1, 3), (156, .goto (-96), 3), (159, .return_, 1)]
theorem dt_mi_x_W_explore : ∀ q ∈ dl_mi_x_W_explore, decode prog_6_method_2_code q.1 = .ok (q.2.1, q.2.2) := by decide +kernel
def dl_mi_x_W_minutesTo : List (Nat × Instr × Nat) := [(0, .aload_n 0, 1), (1, .getfield 15, 3), (4, .iload_n 1, 1), (5, .bipush 28, 2), (7, .imul, 1), (8, .iload_n 2, 1), (9, .iadd, 1), (10, .invokestatic 48, 3), (13, .ireturn, 1)]
theorem dt_mi_x_W_minutesTo : ∀ q ∈ dl_mi_x_W_minutesTo, decode prog_6_method_4_code q.1 = .ok (q.2.1, q.2.2) := by decide +kernel
def dl_mi_x_W_fewestTo : List (Nat × Instr × Nat) := [(0, .bipush (-9), 2), (2, .istore_n 2, 1), (3, .iconst 0, 1), (4, .istore_n 3, 1), (5, .iload_n 3, 1), (6, .bipush 28, 2), (8, .if_icmp .ge 35, 3), (11, .aload_n 0, 1), (12, .iload_n 1, 1), (13, .iload_n 3, 1), (14, .invokevirtual 62, 3), (17, .istore 4, 2), (19, .iload 4, 2), (21, .ifCond .lt 16, 3), (24, .iload_n 2, 1), (25, .ifCond .lt 9, 3), (28, .iload 4, 2), (30, .iload_n 2, 1), (31, .if_icmp .ge 6, 3), (34, .iload 4, 2), (36, .istore_n 2, 1), (37, .iinc 3 1, 3), (40, .goto (-35), 3), (43, .iload_n 2, 1), (44, .ireturn, 1)]
theorem dt_mi_x_W_fewestTo : ∀ q ∈ dl_mi_x_W_fewestTo, decode prog_6_method_5_code q.1 = .ok (q.2.1, q.2.2) := by decide +kernel
def dl_mi_x_E_way : List (Nat × Instr × Nat) := [(0, .iload_n 1, 1), (1, .ifCond .ge 10, 3), (4, .aload_n 0, 1), (5, .bipush (-4), 2), (7, .invokevirtual 69, 3), (10, .ireturn, 1), (11, .iload_n 1, 1), (12, .aload_n 0, 1), (13, .getfield 10, 3), (16, .invokevirtual 109, 3), (19, .if_icmp .le 10, 3), (22, .aload_n 0, 1), (23, .bipush (-6), 2), (25, .invokevirtual 69, 3), (28, .ireturn, 1), (29, .aload_n 0, 1), (30, .getfield 31, 3), (33, .invokevirtual 115, 3), (36, .aload_n 0, 1), (37, .getfield 47, 3), (40, .invokevirtual 211, 3), (43, .aload_n 0, 1), (44, .getfield 47, 3), (47, .iload_n 1, 1), (48, .invokevirtual 214, 3), (51, .ireturn, 1)]
theorem dt_mi_x_E_way : ∀ q ∈ dl_mi_x_E_way, decode prog_1_method_24_code q.1 = .ok (q.2.1, q.2.2) := by decide +kernel
def dl_mi_x_W_reachedWithin : List (Nat × Instr × Nat) := [(0, .iconst 0, 1), (1, .istore_n 2, 1), (2, .iconst 0, 1), (3, .istore_n 3, 1), (4, .iload_n 3, 1), (5, .bipush 16, 2), (7, .if_icmp .ge 33, 3), (10, .aload_n 0, 1), (11, .iload_n 3, 1), (12, .invokevirtual 66, 3), (15, .istore 4, 2), (17, .iload 4, 2), (19, .ifCond .lt 15, 3), (22, .iload 4, 2), (24, .iload_n 1, 1), (25, .if_icmp .gt 9, 3), (28, .iload_n 2, 1), (29, .iconst 1, 1), (30, .iload_n 3, 1), (31, .ishl, 1), (32, .ior, 1), (33, .istore_n 2, 1), (34, .iinc 3 1, 3), (37, .goto (-33), 3), (40, .iload_n 2, 1), (41, .ireturn, 1)]
theorem dt_mi_x_W_reachedWithin : ∀ q ∈ dl_mi_x_W_reachedWithin, decode prog_6_method_6_code q.1 = .ok (q.2.1, q.2.2) := by decide +kernel
def dl_mi_x_E_reach : List (Nat × Instr × Nat) := [(0, .iload_n 1, 1), (1, .ifCond .ge 10, 3), (4, .aload_n 0, 1), (5, .bipush (-4), 2), (7, .invokevirtual 69, 3), (10, .ireturn, 1), (11, .iload_n 1, 1), (12, .bipush 40, 2), (14, .if_icmp .le 10, 3), (17, .aload_n 0, 1), (18, .bipush (-6), 2), (20, .invokevirtual 69, 3), (23, .ireturn, 1), (24, .aload_n 0, 1), (25, .getfield 31, 3), (28, .invokevirtual 115, 3), (31, .aload_n 0, 1), (32, .getfield 47, 3), (35, .invokevirtual 211, 3), (38, .aload_n 0, 1), (39, .getfield 47, 3), (42, .iload_n 1, 1), (43, .invokevirtual 217, 3), (46, .ireturn, 1)]
theorem dt_mi_x_E_reach : ∀ q ∈ dl_mi_x_E_reach, decode prog_1_method_25_code q.1 = .ok (q.2.1, q.2.2) := by decide +kernel
def dl_mi_x_W_lowestAt : List (Nat × Instr × Nat) := [(0, .iconst 0, 1), (1, .istore_n 3, 1), (2, .iload_n 3, 1), (3, .bipush 28, 2), (5, .if_icmp .ge 30, 3), (8, .aload_n 0, 1), (9, .iload_n 1, 1), (10, .iload_n 3, 1), (11, .invokevirtual 62, 3), (14, .istore 4, 2), (16, .iload 4, 2), (18, .ifCond .lt 11, 3), (21, .iload 4, 2), (23, .iload_n 2, 1), (24, .if_icmp .gt 5, 3), (27, .iload_n 3, 1), (28, .ireturn, 1), (29, .iinc 3 1, 3), (32, .goto (-30), 3), (35, .bipush (-9), 2), (37, .ireturn, 1)]
theorem dt_mi_x_W_lowestAt : ∀ q ∈ dl_mi_x_W_lowestAt, decode prog_6_method_7_code q.1 = .ok (q.2.1, q.2.2) := by decide +kernel
def dl_mi_x_E_lowest : List (Nat × Instr × Nat) := [(0, .iload_n 1, 1), (1, .ifCond .lt 7, 3), (4, .iload_n 2, 1), (5, .ifCond .ge 10, 3), (8, .aload_n 0, 1), (9, .bipush (-4), 2), (11, .invokevirtual 69, 3), (14, .ireturn, 1), (15, .iload_n 1, 1), (16, .aload_n 0, 1), (17, .getfield 10, 3), (20, .invokevirtual 109, 3), (23, .if_icmp .gt 9, 3), (26, .iload_n 2, 1), (27, .bipush 40, 2), (29, .if_icmp .le 10, 3), (32, .aload_n 0, 1), (33, .bipush (-6), 2), (35, .invokevirtual 69, 3), (38, .ireturn, 1), (39, .aload_n 0, 1), (40, .getfield 31, 3), (43, .invokevirtual 115, 3), (46, .aload_n 0, 1), (47, .getfield 47, 3), (50, .invokevirtual 211, 3), (53, .aload_n 0, 1), (54, .getfield 47, 3), (57, .iload_n 1, 1), (58, .iload_n 2, 1), (59, .invokevirtual 220, 3), (62, .ireturn, 1)]
theorem dt_mi_x_E_lowest : ∀ q ∈ dl_mi_x_E_lowest, decode prog_1_method_26_code q.1 = .ok (q.2.1, q.2.2) := by decide +kernel
theorem dt_mi_x_R_become_15_1 : ∀ q ∈ dl_mi_x_R_become_8_1, decode prog_4_method_2_code q.1 = .ok (q.2.1, q.2.2) := dt_mi_x_R_become_8_1
def dl_mi_x_E_image : List (Nat × Instr × Nat) := [(0, .aload_n 0, 1), (1, .getfield 19, 3), (4, .aload_n 0, 1), (5, .getfield 10, 3), (8, .invokevirtual 223, 3), (11, .aload_n 0, 1), (12, .iconst 1, 1), (13, .putfield 22, 3), (16, .aload_n 0, 1), (17, .getfield 10, 3), (20, .getfield 158, 3), (23, .ireturn, 1)]
theorem dt_mi_x_E_image : ∀ q ∈ dl_mi_x_E_image, decode prog_1_method_27_code q.1 = .ok (q.2.1, q.2.2) := by decide +kernel
theorem dt_mi_x_R_become_1_15 : ∀ q ∈ dl_mi_x_R_become_8_1, decode prog_4_method_2_code q.1 = .ok (q.2.1, q.2.2) := dt_mi_x_R_become_8_1
def dl_mi_x_E_on : List (Nat × Instr × Nat) := [(0, .aload_n 0, 1), (1, .getfield 22, 3), (4, .ifCond .ne 10, 3), (7, .aload_n 0, 1), (8, .bipush (-3), 2), (10, .invokevirtual 69, 3), (13, .ireturn, 1), (14, .aload_n 0, 1), (15, .getfield 10, 3), (18, .aload_n 0, 1), (19, .getfield 19, 3), (22, .invokevirtual 223, 3), (25, .aload_n 0, 1), (26, .getfield 10, 3), (29, .getfield 158, 3), (32, .ireturn, 1)]
theorem dt_mi_x_E_on : ∀ q ∈ dl_mi_x_E_on, decode prog_1_method_28_code q.1 = .ok (q.2.1, q.2.2) := by decide +kernel
end
section
/-! ===== the texts: length, sign, emptiness, as the library answers them for the class's own texts ===== -/
def x_S_isEmpty (o : Nat) (w : gx_Wd) : Option (Int32 × gx_Wd) := if 1000 ≤ o ∧ o < 1007 then some (if gx_txl.getD (o - 1000) 0 = 0 then 1 else 0, w) else none
def x_S_length (o : Nat) (w : gx_Wd) : Option (Int32 × gx_Wd) := if 1000 ≤ o ∧ o < 1007 then some (Int32.ofNat (gx_txl.getD (o - 1000) 0), w) else none
def x_S_charAt (o : Nat) (i : Int32) (w : gx_Wd) : Option (Int32 × gx_Wd) := if 1000 ≤ o ∧ o < 1007 ∧ ¬ i < 0 ∧ i.toNatClampNeg < gx_txl.getD (o - 1000) 0 then some ((gx_txb.getD (o - 1000) []).getD i.toNatClampNeg 0, w) else none
theorem gx_so_isEmpty {o : Nat} {w : gx_Wd} {r : Int32 × gx_Wd} (h : x_S_isEmpty o w = some r) : ∃ i, i < 7 ∧ o = 1000 + i := by
  unfold x_S_isEmpty at h
  split at h
  · rename_i c; exact ⟨o - 1000, by omega, by omega⟩
  · cases h
theorem gx_so_length {o : Nat} {w : gx_Wd} {r : Int32 × gx_Wd} (h : x_S_length o w = some r) : ∃ i, i < 7 ∧ o = 1000 + i := by
  unfold x_S_length at h
  split at h
  · rename_i c; exact ⟨o - 1000, by omega, by omega⟩
  · cases h
theorem gx_so_charAt {o : Nat} {i : Int32} {w : gx_Wd} {r : Int32 × gx_Wd} (h : x_S_charAt o i w = some r) : ∃ i, i < 7 ∧ o = 1000 + i := by
  unfold x_S_charAt at h
  split at h
  · rename_i c; exact ⟨o - 1000, by omega, by omega⟩
  · cases h
theorem k_x_S_isEmpty {o : Nat} {w : gx_Wd} {R : Int32 × gx_Wd} (h : x_S_isEmpty o w = some R) : gx_MT mi_x_S_isEmpty [.inr o] w (some (.inl R.1)) R.2 := by
  sorry
theorem k_x_S_length {o : Nat} {w : gx_Wd} {R : Int32 × gx_Wd} (h : x_S_length o w = some R) : gx_MT mi_x_S_length [.inr o] w (some (.inl R.1)) R.2 := by
  sorry
theorem k_x_S_charAt {o : Nat} {i : Int32} {w : gx_Wd} {R : Int32 × gx_Wd} (h : x_S_charAt o i w = some R) : gx_MT mi_x_S_charAt [.inr o, .inl i] w (some (.inl R.1)) R.2 := by
  sorry
section
variable {X : gx_X} {M : gx_Mi} {pc : Nat} {ls ls' : List (Option gx_V)} {st : List gx_V} {w : gx_Wd}
theorem gx_callTi (hX : gx_Ok X M) {M' : gx_Mi} {ix b n : Nat} {As rest : List gx_V} {v : Int32} {w' : gx_Wd} (hd : decode M.2.1 pc = .ok (.invokevirtual ix, 3)) (hl : gx_ln M.1.cls ix M') (ho : gx_mo M' n) (hv : gx_mv M') (hr : gx_rm M' M) (hc : M'.1.cls = "java/lang/String") (he : M'.2.2.2.2.2 = M.2.2.2.2.2) (hso : ∃ i, i < 7 ∧ b = 1000 + i) (hM : gx_MT M' (.inr b :: As) w (some (.inl v)) w') (hn : As.length = n) (hst : st = As.reverse ++ .inr b :: rest) (hrl : rest.length ≤ 8) (kk : gx_G X M (pc + 3) ls (.inl v :: rest) w') : gx_G X M pc ls st w := by
  obtain ⟨p, l, e, s, m, args, below, meth, c, S, res, w1⟩ := X
  obtain ⟨hx, hb, hml, hts, hown, hrt, hlk, hK, hDD, hNW, hSX, hsh⟩ := hX
  intro H locs LS hP hS hlv
  obtain ⟨i, hi, hbi⟩ := hso
  obtain ⟨o1, o2, o3, o4, o5, o6⟩ := ho
  have hp : PreV s H M'.1.cls (S.2.2.1 b) (va_Pc ((Sum.inr b :: As : List gx_V).map (gx_cv S.2.2.1)) (gx_PX S w)) (As.map (gx_cv S.2.2.1)) := by
    refine ⟨gx_fb, ?_, fun U hU hW => ⟨rfl, ?_⟩⟩
    · rw [hc, hbi]
      exact vk_recv (adK := fun i => S.2.2.1 (1000 + i)) hSX.1 hi hS
    · exact ⟨by rw [hU]; exact hP, va_K.moved hW.alike hK, hDD, hNW.warm hW, by rw [hU]; exact hSX.to hW hS.2.1⟩
  have hws : ∀ w ∈ (Cond.code M'.1 M'.2.1 M'.2.2.1 M'.2.2.2.1 :: gx_big), ∀ (a' : Array Value) (U : State), s.WarmedH U.vm → w.before a' U = true := pay_in hts (gx_good o1)
  have hlen : ∀ sig, parseMethodDescriptor M'.1.desc = some sig → n = sig.parameters.length := fun sig h => by
    have h2 := o4
    rw [h] at h2
    exact (Option.some.inj h2).symm
  have hst2 : (st.map (gx_cv S.2.2.1)) = (As.map (gx_cv S.2.2.1)).reverse ++ .ref (S.2.2.1 b) :: rest.map (gx_cv S.2.2.1) := by rw [hst]; simp [gx_cv]
  have hrest : 2 * (F0 m pc LS (st.map (gx_cv S.2.2.1))).monitorRoom + ((rest.map (gx_cv S.2.2.1)).map fun v => v.category).sum ≤ 8 := by
    rw [gx_cat1]
    show 2 * 0 + _ ≤ 8
    omega
  rcases hl with hl | hl
  · exact gx_after (va_runV (own := M.1.cls) (As := As.map (gx_cv S.2.2.1)) (rest := rest.map (gx_cv S.2.2.1)) (g := F0 m pc LS (st.map (gx_cv S.2.2.1))) ⟨hx, hb, hml, hown, hts⟩ (hM l S (by rw [he]; exact hsh)) ⟨⟨o5, o6, hr.1, hr.2, hws, List.mem_cons_self, hts _ (List.mem_cons_of_mem _ o1), hts _ (List.mem_cons_of_mem _ o2), o3, hlen, hts _ (List.mem_cons_of_mem _ hl)⟩, hts _ (List.mem_cons_of_mem _ hv.1), hts _ (List.mem_cons_of_mem _ hv.2)⟩ hp rfl (by rw [List.length_map]; exact hn) hlv.1 hst2 hrest hd ⟨Nat.zero_le _, Nat.zero_le _⟩) hS (fun H1 locs1 hP1 hS1 => kk H1 locs1 LS hP1 hS1 hlv)
  · exact gx_after (va_runVN (own := M.1.cls) (host := "EachBearsPillar") (As := As.map (gx_cv S.2.2.1)) (rest := rest.map (gx_cv S.2.2.1)) (g := F0 m pc LS (st.map (gx_cv S.2.2.1))) ⟨hx, hb, hml, hown, hts⟩ (hM l S (by rw [he]; exact hsh)) ⟨⟨⟨o5, o6, hr.1, hr.2, hws, List.mem_cons_self⟩, hts _ (List.mem_cons_of_mem _ o1), hts _ (List.mem_cons_of_mem _ o2), o3, hlen, va_Nw.use rfl (hNW _ hl)⟩, hts _ (List.mem_cons_of_mem _ hv.1), hts _ (List.mem_cons_of_mem _ hv.2)⟩ hp rfl (by rw [List.length_map]; exact hn) hlv.1 hst2 hrest hd ⟨Nat.zero_le _, Nat.zero_le _⟩) hS (fun H1 locs1 hP1 hS1 => kk H1 locs1 LS hP1 hS1 hlv)
end
end
section
-- EachBearsPillar.cell([II)I
def x_E_cell (o0 : Nat) (a1 : Int32) (w : gx_Wd) : Option (Int32 × gx_Wd) :=
  if a1 < 0 then
    some (0, w)
  else
  (gx_aln sh_x o0).bind fun v2 =>
  if v2 ≤ a1 then
    some (0, w)
  else
  (gx_ald sh_x w o0 a1).bind fun v4 =>
  some (v4, w)
theorem k_x_E_cell {o0 : Nat} {a1 : Int32} {w : gx_Wd} {R : Int32 × gx_Wd} (h : x_E_cell o0 a1 w = some R) : gx_MT mi_x_E_cell [.inr o0, .inl a1] w (some (.inl R.1)) R.2 := by
  refine gx_met (by decide +kernel) (Nat.le_of_ble_eq_true rfl) (fun X hX hres hwr => ?_)
  show gx_G X mi_x_E_cell 0 [some (.inr o0), some (.inl a1)] [] w
  rw [x_E_cell] at h
  refine gx_aload_n hX (gx_dt dt_mi_x_E_cell 0 rfl) rfl ?_
  refine gx_ifnull hX (gx_dt dt_mi_x_E_cell 1 rfl) ?_
  refine gx_iload_n hX (gx_dt dt_mi_x_E_cell 2 rfl) rfl ?_
  refine gx_if_lt hX (tgt := 20) (gx_dt dt_mi_x_E_cell 3 rfl) (by decide) (fun c1 => ?_) (fun c1 => ?_)
  · have h := gx_ifp c1 h
    refine gx_iconst hX (v := 0) (gx_dt dt_mi_x_E_cell 12 rfl) (by decide) ?_
    obtain rfl := Option.some.inj h
    exact gx_iret hX (gx_dt dt_mi_x_E_cell 13 rfl) rfl hres hwr
  · have h := gx_ifn c1 h
    refine gx_iload_n hX (gx_dt dt_mi_x_E_cell 4 rfl) rfl ?_
    refine gx_aload_n hX (gx_dt dt_mi_x_E_cell 5 rfl) rfl ?_
    obtain ⟨v2, e_v2, h⟩ := gx_bd h
    refine gx_alen hX e_v2 (gx_dt dt_mi_x_E_cell 6 rfl) ?_
    refine gx_ic_ge hX (tgt := 20) (gx_dt dt_mi_x_E_cell 7 rfl) (by decide) (fun c3 => ?_) (fun c3 => ?_)
    · have h := gx_ifp c3 h
      refine gx_iconst hX (v := 0) (gx_dt dt_mi_x_E_cell 12 rfl) (by decide) ?_
      obtain rfl := Option.some.inj h
      exact gx_iret hX (gx_dt dt_mi_x_E_cell 13 rfl) rfl hres hwr
    · have h := gx_ifn c3 h
      refine gx_aload_n hX (gx_dt dt_mi_x_E_cell 8 rfl) rfl ?_
      refine gx_iload_n hX (gx_dt dt_mi_x_E_cell 9 rfl) rfl ?_
      obtain ⟨v4, e_v4, h⟩ := gx_bd h
      refine gx_iald hX e_v4 (gx_dt dt_mi_x_E_cell 10 rfl) ?_
      refine gx_goto hX (tgt := 21) (gx_dt dt_mi_x_E_cell 11 rfl) (by decide) ?_
      obtain rfl := Option.some.inj h
      exact gx_iret hX (gx_dt dt_mi_x_E_cell 13 rfl) rfl hres hwr
-- EachBearsPillar.setCell([III)Z
def x_E_setCell (o0 : Nat) (a1 : Int32) (a2 : Int32) (w : gx_Wd) : Option (Int32 × gx_Wd) :=
  if a1 < 0 then
    some (0, w)
  else
  (gx_aln sh_x o0).bind fun v2 =>
  if a1 < v2 then
    (gx_ast sh_x w o0 a1 a2).bind fun w4 =>
    some (1, w4)
  else
  some (0, w)
theorem k_x_E_setCell {o0 : Nat} {a1 : Int32} {a2 : Int32} {w : gx_Wd} {R : Int32 × gx_Wd} (h : x_E_setCell o0 a1 a2 w = some R) : gx_MT mi_x_E_setCell [.inr o0, .inl a1, .inl a2] w (some (.inl R.1)) R.2 := by
  refine gx_met (by decide +kernel) (Nat.le_of_ble_eq_true rfl) (fun X hX hres hwr => ?_)
  show gx_G X mi_x_E_setCell 0 [some (.inr o0), some (.inl a1), some (.inl a2)] [] w
  rw [x_E_setCell] at h
  refine gx_aload_n hX (gx_dt dt_mi_x_E_setCell 0 rfl) rfl ?_
  refine gx_ifnull hX (gx_dt dt_mi_x_E_setCell 1 rfl) ?_
  refine gx_iload_n hX (gx_dt dt_mi_x_E_setCell 2 rfl) rfl ?_
  refine gx_if_lt hX (tgt := 14) (gx_dt dt_mi_x_E_setCell 3 rfl) (by decide) (fun c1 => ?_) (fun c1 => ?_)
  · have h := gx_ifp c1 h
    refine gx_iconst hX (v := 0) (gx_dt dt_mi_x_E_setCell 8 rfl) (by decide) ?_
    obtain rfl := Option.some.inj h
    exact gx_zret hX (gx_dt dt_mi_x_E_setCell 9 rfl) rfl rfl hres hwr
  · have h := gx_ifn c1 h
    refine gx_iload_n hX (gx_dt dt_mi_x_E_setCell 4 rfl) rfl ?_
    refine gx_aload_n hX (gx_dt dt_mi_x_E_setCell 5 rfl) rfl ?_
    obtain ⟨v2, e_v2, h⟩ := gx_bd h
    refine gx_alen hX e_v2 (gx_dt dt_mi_x_E_setCell 6 rfl) ?_
    refine gx_ic_lt hX (tgt := 16) (gx_dt dt_mi_x_E_setCell 7 rfl) (by decide) (fun c3 => ?_) (fun c3 => ?_)
    · have h := gx_ifp c3 h
      refine gx_aload_n hX (gx_dt dt_mi_x_E_setCell 10 rfl) rfl ?_
      refine gx_iload_n hX (gx_dt dt_mi_x_E_setCell 11 rfl) rfl ?_
      refine gx_iload_n hX (gx_dt dt_mi_x_E_setCell 12 rfl) rfl ?_
      obtain ⟨w4, e_w4, h⟩ := gx_bd h
      refine gx_iast hX e_w4 (gx_dt dt_mi_x_E_setCell 13 rfl) ?_
      refine gx_iconst hX (v := 1) (gx_dt dt_mi_x_E_setCell 14 rfl) (by decide) ?_
      obtain rfl := Option.some.inj h
      exact gx_zret hX (gx_dt dt_mi_x_E_setCell 15 rfl) rfl rfl hres hwr
    · have h := gx_ifn c3 h
      refine gx_iconst hX (v := 0) (gx_dt dt_mi_x_E_setCell 8 rfl) (by decide) ?_
      obtain rfl := Option.some.inj h
      exact gx_zret hX (gx_dt dt_mi_x_E_setCell 9 rfl) rfl rfl hres hwr
-- EachBearsPillar.refuse(I)I
def x_E_refuse (a1 : Int32) (w : gx_Wd) : Option (Int32 × gx_Wd) :=
  (x_E_cell 39 (-a1) w).bind fun r1 =>
  (x_E_setCell 39 (-a1) (r1.1 + 1) r1.2).bind fun r2 =>
  some (a1, r2.2)
theorem k_x_E_refuse {a1 : Int32} {w : gx_Wd} {R : Int32 × gx_Wd} (h : x_E_refuse a1 w = some R) : gx_MT mi_x_E_refuse [.inr 0, .inl a1] w (some (.inl R.1)) R.2 := by
  refine gx_met (by decide +kernel) (Nat.le_of_ble_eq_true rfl) (fun X hX hres hwr => ?_)
  show gx_G X mi_x_E_refuse 0 [some (.inr 0), some (.inl a1)] [] w
  rw [x_E_refuse] at h
  refine gx_aload_n hX (gx_dt dt_mi_x_E_refuse 0 rfl) rfl ?_
  refine gx_getr hX fl_E_66 sh_x_0 rfl (gx_dt dt_mi_x_E_refuse 1 rfl) ?_
  refine gx_iload_n hX (gx_dt dt_mi_x_E_refuse 2 rfl) rfl ?_
  refine gx_ineg hX (gx_dt dt_mi_x_E_refuse 3 rfl) ?_
  refine gx_aload_n hX (gx_dt dt_mi_x_E_refuse 4 rfl) rfl ?_
  refine gx_getr hX fl_E_66 sh_x_0 rfl (gx_dt dt_mi_x_E_refuse 5 rfl) ?_
  refine gx_iload_n hX (gx_dt dt_mi_x_E_refuse 6 rfl) rfl ?_
  refine gx_ineg hX (gx_dt dt_mi_x_E_refuse 7 rfl) ?_
  obtain ⟨r1, e_r1, h⟩ := gx_bd h
  refine gx_callSi hX (gx_dt dt_mi_x_E_refuse 8 rfl) ln_E_125_x_E_cell mo_x_E_cell ms_x_E_cell (gx_rmb rfl) rfl (k_x_E_cell e_r1) rfl rfl (Nat.le_of_ble_eq_true rfl) ?_
  refine gx_iconst hX (v := 1) (gx_dt dt_mi_x_E_refuse 9 rfl) (by decide) ?_
  refine gx_iadd hX (gx_dt dt_mi_x_E_refuse 10 rfl) ?_
  obtain ⟨r2, e_r2, h⟩ := gx_bd h
  refine gx_callSi hX (gx_dt dt_mi_x_E_refuse 11 rfl) ln_E_174_x_E_setCell mo_x_E_setCell ms_x_E_setCell (gx_rmb rfl) rfl (k_x_E_setCell e_r2) rfl rfl (Nat.le_of_ble_eq_true rfl) ?_
  refine gx_pop hX (gx_dt dt_mi_x_E_refuse 12 rfl) ?_
  refine gx_iload_n hX (gx_dt dt_mi_x_E_refuse 13 rfl) rfl ?_
  obtain rfl := Option.some.inj h
  exact gx_iret hX (gx_dt dt_mi_x_E_refuse 14 rfl) rfl hres hwr
-- EachBearsPillar$Text.append(I)I
def x_T_append (a1 : Int32) (w : gx_Wd) : Option (Int32 × gx_Wd) :=
  (x_E_setCell 30 (w 29 1) a1 w).bind fun r1 =>
  if r1.1 = 0 then
    some (r1.2 29 1, r1.2)
  else
  (gx_put r1.2 29 1 ((r1.2 29 1) + 1)).bind fun w3 =>
  some (w3 29 1, w3)
theorem k_x_T_append {a1 : Int32} {w : gx_Wd} {R : Int32 × gx_Wd} (h : x_T_append a1 w = some R) : gx_MT mi_x_T_append [.inr 29, .inl a1] w (some (.inl R.1)) R.2 := by
  refine gx_met (by decide +kernel) (Nat.le_of_ble_eq_true rfl) (fun X hX hres hwr => ?_)
  show gx_G X mi_x_T_append 0 [some (.inr 29), some (.inl a1)] [] w
  rw [x_T_append] at h
  refine gx_aload_n hX (gx_dt dt_mi_x_T_append 0 rfl) rfl ?_
  refine gx_getr hX fl_T_9 sh_x_29 rfl (gx_dt dt_mi_x_T_append 1 rfl) ?_
  refine gx_aload_n hX (gx_dt dt_mi_x_T_append 2 rfl) rfl ?_
  refine gx_geti hX fl_T_15 sh_x_29 rfl (gx_dt dt_mi_x_T_append 3 rfl) ?_
  refine gx_iload_n hX (gx_dt dt_mi_x_T_append 4 rfl) rfl ?_
  obtain ⟨r1, e_r1, h⟩ := gx_bd h
  refine gx_callSi hX (gx_dt dt_mi_x_T_append 5 rfl) ln_T_31_x_E_setCell mo_x_E_setCell ms_x_E_setCell (gx_rmb rfl) rfl (k_x_E_setCell e_r1) rfl rfl (Nat.le_of_ble_eq_true rfl) ?_
  refine gx_if_eq hX (tgt := 25) (gx_dt dt_mi_x_T_append 6 rfl) (by decide) (fun c2 => ?_) (fun c2 => ?_)
  · have h := gx_ifp c2 h
    refine gx_aload_n hX (gx_dt dt_mi_x_T_append 13 rfl) rfl ?_
    refine gx_geti hX fl_T_15 sh_x_29 rfl (gx_dt dt_mi_x_T_append 14 rfl) ?_
    obtain rfl := Option.some.inj h
    exact gx_iret hX (gx_dt dt_mi_x_T_append 15 rfl) rfl hres hwr
  · have h := gx_ifn c2 h
    refine gx_aload_n hX (gx_dt dt_mi_x_T_append 7 rfl) rfl ?_
    refine gx_dup hX (gx_dt dt_mi_x_T_append 8 rfl) ?_
    refine gx_geti hX fl_T_15 sh_x_29 rfl (gx_dt dt_mi_x_T_append 9 rfl) ?_
    refine gx_iconst hX (v := 1) (gx_dt dt_mi_x_T_append 10 rfl) (by decide) ?_
    refine gx_iadd hX (gx_dt dt_mi_x_T_append 11 rfl) ?_
    obtain ⟨w3, e_w3, h⟩ := gx_bd h
    refine gx_putp hX fl_T_15 (pf_T_1 _) sh_x_29 rfl e_w3 (gx_dt dt_mi_x_T_append 12 rfl) ?_
    refine gx_aload_n hX (gx_dt dt_mi_x_T_append 13 rfl) rfl ?_
    refine gx_geti hX fl_T_15 sh_x_29 rfl (gx_dt dt_mi_x_T_append 14 rfl) ?_
    obtain rfl := Option.some.inj h
    exact gx_iret hX (gx_dt dt_mi_x_T_append 15 rfl) rfl hres hwr
-- EachBearsPillar.letter(I)I
def x_E_letter (a1 : Int32) (w : gx_Wd) : Option (Int32 × gx_Wd) :=
  if 0 ≤ a1 then
    if 255 < a1 then
      (x_E_refuse (-6) w).bind fun r3 =>
      some (r3.1, r3.2)
    else
    if w 29 1 < 96 then
      (x_T_append a1 w).bind fun r5 =>
      some (r5.1, r5.2)
    else
    (x_E_refuse (-6) w).bind fun r6 =>
    some (r6.1, r6.2)
  else
  (x_E_refuse (-4) w).bind fun r7 =>
  some (r7.1, r7.2)
theorem k_x_E_letter {a1 : Int32} {w : gx_Wd} {R : Int32 × gx_Wd} (h : x_E_letter a1 w = some R) : gx_MT mi_x_E_letter [.inr 0, .inl a1] w (some (.inl R.1)) R.2 := by
  refine gx_met (by decide +kernel) (Nat.le_of_ble_eq_true rfl) (fun X hX hres hwr => ?_)
  show gx_G X mi_x_E_letter 0 [some (.inr 0), some (.inl a1)] [] w
  rw [x_E_letter] at h
  refine gx_iload_n hX (gx_dt dt_mi_x_E_letter 0 rfl) rfl ?_
  refine gx_if_ge hX (tgt := 11) (gx_dt dt_mi_x_E_letter 1 rfl) (by decide) (fun c1 => ?_) (fun c1 => ?_)
  · have h := gx_ifp c1 h
    refine gx_iload_n hX (gx_dt dt_mi_x_E_letter 6 rfl) rfl ?_
    refine gx_sipush hX (v := 255) (gx_dt dt_mi_x_E_letter 7 rfl) (by decide) ?_
    refine gx_ic_gt hX (tgt := 30) (gx_dt dt_mi_x_E_letter 8 rfl) (by decide) (fun c2 => ?_) (fun c2 => ?_)
    · have h := gx_ifp c2 h
      refine gx_aload_n hX (gx_dt dt_mi_x_E_letter 14 rfl) rfl ?_
      refine gx_bipush hX (v := (-6)) (gx_dt dt_mi_x_E_letter 15 rfl) (by decide) ?_
      obtain ⟨r3, e_r3, h⟩ := gx_bd h
      refine gx_callVi hX (gx_dt dt_mi_x_E_letter 16 rfl) ln_E_69_x_E_refuse mo_x_E_refuse mv_x_E_refuse (gx_rmb rfl) sh_x_0 ⟨_, _, rfl⟩ rfl (k_x_E_refuse e_r3) rfl rfl (Nat.le_of_ble_eq_true rfl) ?_
      obtain rfl := Option.some.inj h
      exact gx_iret hX (gx_dt dt_mi_x_E_letter 17 rfl) rfl hres hwr
    · have h := gx_ifn c2 h
      refine gx_aload_n hX (gx_dt dt_mi_x_E_letter 9 rfl) rfl ?_
      refine gx_getr hX fl_E_38 sh_x_0 rfl (gx_dt dt_mi_x_E_letter 10 rfl) ?_
      refine gx_geti hX fl_E_73 sh_x_29 rfl (gx_dt dt_mi_x_E_letter 11 rfl) ?_
      refine gx_bipush hX (v := 96) (gx_dt dt_mi_x_E_letter 12 rfl) (by decide) ?_
      refine gx_ic_lt hX (tgt := 37) (gx_dt dt_mi_x_E_letter 13 rfl) (by decide) (fun c4 => ?_) (fun c4 => ?_)
      · have h := gx_ifp c4 h
        refine gx_aload_n hX (gx_dt dt_mi_x_E_letter 18 rfl) rfl ?_
        refine gx_getr hX fl_E_38 sh_x_0 rfl (gx_dt dt_mi_x_E_letter 19 rfl) ?_
        refine gx_iload_n hX (gx_dt dt_mi_x_E_letter 20 rfl) rfl ?_
        obtain ⟨r5, e_r5, h⟩ := gx_bd h
        refine gx_callVi hX (gx_dt dt_mi_x_E_letter 21 rfl) ln_E_76_x_T_append mo_x_T_append mv_x_T_append (gx_rmb rfl) sh_x_29 ⟨_, _, rfl⟩ rfl (k_x_T_append e_r5) rfl rfl (Nat.le_of_ble_eq_true rfl) ?_
        obtain rfl := Option.some.inj h
        exact gx_iret hX (gx_dt dt_mi_x_E_letter 22 rfl) rfl hres hwr
      · have h := gx_ifn c4 h
        refine gx_aload_n hX (gx_dt dt_mi_x_E_letter 14 rfl) rfl ?_
        refine gx_bipush hX (v := (-6)) (gx_dt dt_mi_x_E_letter 15 rfl) (by decide) ?_
        obtain ⟨r6, e_r6, h⟩ := gx_bd h
        refine gx_callVi hX (gx_dt dt_mi_x_E_letter 16 rfl) ln_E_69_x_E_refuse mo_x_E_refuse mv_x_E_refuse (gx_rmb rfl) sh_x_0 ⟨_, _, rfl⟩ rfl (k_x_E_refuse e_r6) rfl rfl (Nat.le_of_ble_eq_true rfl) ?_
        obtain rfl := Option.some.inj h
        exact gx_iret hX (gx_dt dt_mi_x_E_letter 17 rfl) rfl hres hwr
  · have h := gx_ifn c1 h
    refine gx_aload_n hX (gx_dt dt_mi_x_E_letter 2 rfl) rfl ?_
    refine gx_bipush hX (v := (-4)) (gx_dt dt_mi_x_E_letter 3 rfl) (by decide) ?_
    obtain ⟨r7, e_r7, h⟩ := gx_bd h
    refine gx_callVi hX (gx_dt dt_mi_x_E_letter 4 rfl) ln_E_69_x_E_refuse mo_x_E_refuse mv_x_E_refuse (gx_rmb rfl) sh_x_0 ⟨_, _, rfl⟩ rfl (k_x_E_refuse e_r7) rfl rfl (Nat.le_of_ble_eq_true rfl) ?_
    obtain rfl := Option.some.inj h
    exact gx_iret hX (gx_dt dt_mi_x_E_letter 5 rfl) rfl hres hwr
-- EachBearsPillar$Text.rewind()V
def x_T_rewind (w : gx_Wd) : Option (gx_Wd) :=
  (gx_put w 29 2 0).bind fun w1 =>
  some w1
theorem k_x_T_rewind {w : gx_Wd} {R : gx_Wd} (h : x_T_rewind w = some R) : gx_MT mi_x_T_rewind [.inr 29] w none R := by
  refine gx_met (by decide +kernel) (Nat.le_of_ble_eq_true rfl) (fun X hX hres hwr => ?_)
  show gx_G X mi_x_T_rewind 0 [some (.inr 29)] [] w
  rw [x_T_rewind] at h
  refine gx_aload_n hX (gx_dt dt_mi_x_T_rewind 0 rfl) rfl ?_
  refine gx_iconst hX (v := 0) (gx_dt dt_mi_x_T_rewind 1 rfl) (by decide) ?_
  obtain ⟨w1, e_w1, h⟩ := gx_bd h
  refine gx_putp hX fl_T_19 (pf_T_2 _) sh_x_29 rfl e_w1 (gx_dt dt_mi_x_T_rewind 2 rfl) ?_
  obtain rfl := Option.some.inj h
  exact gx_vret hX (gx_dt dt_mi_x_T_rewind 3 rfl) rfl hres hwr
-- EachBearsPillar$Text.here()I
def x_T_here (w : gx_Wd) : Option (Int32 × gx_Wd) :=
  if w 29 1 ≤ w 29 2 then
    some ((-1), w)
  else
  (x_E_cell 30 (w 29 2) w).bind fun r2 =>
  some (r2.1, r2.2)
theorem k_x_T_here {w : gx_Wd} {R : Int32 × gx_Wd} (h : x_T_here w = some R) : gx_MT mi_x_T_here [.inr 29] w (some (.inl R.1)) R.2 := by
  refine gx_met (by decide +kernel) (Nat.le_of_ble_eq_true rfl) (fun X hX hres hwr => ?_)
  show gx_G X mi_x_T_here 0 [some (.inr 29)] [] w
  rw [x_T_here] at h
  refine gx_aload_n hX (gx_dt dt_mi_x_T_here 0 rfl) rfl ?_
  refine gx_geti hX fl_T_19 sh_x_29 rfl (gx_dt dt_mi_x_T_here 1 rfl) ?_
  refine gx_aload_n hX (gx_dt dt_mi_x_T_here 2 rfl) rfl ?_
  refine gx_geti hX fl_T_15 sh_x_29 rfl (gx_dt dt_mi_x_T_here 3 rfl) ?_
  refine gx_ic_ge hX (tgt := 25) (gx_dt dt_mi_x_T_here 4 rfl) (by decide) (fun c1 => ?_) (fun c1 => ?_)
  · have h := gx_ifp c1 h
    refine gx_iconst hX (v := (-1)) (gx_dt dt_mi_x_T_here 11 rfl) (by decide) ?_
    obtain rfl := Option.some.inj h
    exact gx_iret hX (gx_dt dt_mi_x_T_here 12 rfl) rfl hres hwr
  · have h := gx_ifn c1 h
    refine gx_aload_n hX (gx_dt dt_mi_x_T_here 5 rfl) rfl ?_
    refine gx_getr hX fl_T_9 sh_x_29 rfl (gx_dt dt_mi_x_T_here 6 rfl) ?_
    refine gx_aload_n hX (gx_dt dt_mi_x_T_here 7 rfl) rfl ?_
    refine gx_geti hX fl_T_19 sh_x_29 rfl (gx_dt dt_mi_x_T_here 8 rfl) ?_
    obtain ⟨r2, e_r2, h⟩ := gx_bd h
    refine gx_callSi hX (gx_dt dt_mi_x_T_here 9 rfl) ln_T_90_x_E_cell mo_x_E_cell ms_x_E_cell (gx_rmb rfl) rfl (k_x_E_cell e_r2) rfl rfl (Nat.le_of_ble_eq_true rfl) ?_
    refine gx_goto hX (tgt := 26) (gx_dt dt_mi_x_T_here 10 rfl) (by decide) ?_
    obtain rfl := Option.some.inj h
    exact gx_iret hX (gx_dt dt_mi_x_T_here 12 rfl) rfl hres hwr
-- EachBearsPillar$Text.formOf(I)Ljava/lang/String;
def x_T_formOf (a0 : Int32) (w : gx_Wd) : Option (Nat × gx_Wd) :=
  if a0 = 98 then
    some (1000, w)
  else
  if a0 = 103 then
    some (1002, w)
  else
  if a0 = 107 then
    some (1004, w)
  else
  if a0 = 108 then
    some (1003, w)
  else
  if a0 = 115 then
    some (1001, w)
  else
  some (1005, w)
theorem k_x_T_formOf {a0 : Int32} {w : gx_Wd} {R : Nat × gx_Wd} (h : x_T_formOf a0 w = some R) : gx_MT mi_x_T_formOf [.inl a0] w (some (.inr R.1)) R.2 := by
  refine gx_met (by decide +kernel) (Nat.le_of_ble_eq_true rfl) (fun X hX hres hwr => ?_)
  show gx_G X mi_x_T_formOf 0 [some (.inl a0)] [] w
  rw [x_T_formOf] at h
  refine gx_iload_n hX (gx_dt dt_mi_x_T_formOf 0 rfl) rfl ?_
  by_cases c1 : a0 = 98
  · have h := gx_ifp c1 h
    refine gx_lookup hX (off := 51) (tgt := 52) (gx_dt dt_mi_x_T_formOf 1 rfl) (by decide) (by rw [c1]; rfl) (by decide) ?_
    refine gx_ldcs hX (i := 0) rfl (by decide) rfl (gx_dt dt_mi_x_T_formOf 2 rfl) ?_
    obtain rfl := Option.some.inj h
    exact gx_aret hX (gx_dt dt_mi_x_T_formOf 3 rfl) rfl ⟨_, rfl⟩ hres hwr
  have h := gx_ifn c1 h
  by_cases c2 : a0 = 103
  · have h := gx_ifp c2 h
    refine gx_lookup hX (off := 57) (tgt := 58) (gx_dt dt_mi_x_T_formOf 1 rfl) (by decide) (by rw [c2]; rfl) (by decide) ?_
    refine gx_ldcs hX (i := 2) rfl (by decide) rfl (gx_dt dt_mi_x_T_formOf 6 rfl) ?_
    obtain rfl := Option.some.inj h
    exact gx_aret hX (gx_dt dt_mi_x_T_formOf 7 rfl) rfl ⟨_, rfl⟩ hres hwr
  have h := gx_ifn c2 h
  by_cases c3 : a0 = 107
  · have h := gx_ifp c3 h
    refine gx_lookup hX (off := 63) (tgt := 64) (gx_dt dt_mi_x_T_formOf 1 rfl) (by decide) (by rw [c3]; rfl) (by decide) ?_
    refine gx_ldcs hX (i := 4) rfl (by decide) rfl (gx_dt dt_mi_x_T_formOf 10 rfl) ?_
    obtain rfl := Option.some.inj h
    exact gx_aret hX (gx_dt dt_mi_x_T_formOf 11 rfl) rfl ⟨_, rfl⟩ hres hwr
  have h := gx_ifn c3 h
  by_cases c4 : a0 = 108
  · have h := gx_ifp c4 h
    refine gx_lookup hX (off := 60) (tgt := 61) (gx_dt dt_mi_x_T_formOf 1 rfl) (by decide) (by rw [c4]; rfl) (by decide) ?_
    refine gx_ldcs hX (i := 3) rfl (by decide) rfl (gx_dt dt_mi_x_T_formOf 8 rfl) ?_
    obtain rfl := Option.some.inj h
    exact gx_aret hX (gx_dt dt_mi_x_T_formOf 9 rfl) rfl ⟨_, rfl⟩ hres hwr
  have h := gx_ifn c4 h
  by_cases c5 : a0 = 115
  · have h := gx_ifp c5 h
    refine gx_lookup hX (off := 54) (tgt := 55) (gx_dt dt_mi_x_T_formOf 1 rfl) (by decide) (by rw [c5]; rfl) (by decide) ?_
    refine gx_ldcs hX (i := 1) rfl (by decide) rfl (gx_dt dt_mi_x_T_formOf 4 rfl) ?_
    obtain rfl := Option.some.inj h
    exact gx_aret hX (gx_dt dt_mi_x_T_formOf 5 rfl) rfl ⟨_, rfl⟩ hres hwr
  have h := gx_ifn c5 h
  refine gx_lookup hX (off := 66) (tgt := 67) (gx_dt dt_mi_x_T_formOf 1 rfl) (by decide) (by show Op.lookupswitch.offset [(98, 51), (103, 57), (107, 63), (108, 60), (115, 54)] _ _ = _; rw [lv_osw (a := 98) c1 rfl, lv_osw (a := 103) c2 rfl, lv_osw (a := 107) c3 rfl, lv_osw (a := 108) c4 rfl, lv_osw (a := 115) c5 rfl]; rfl) (by decide) ?_
  refine gx_ldcs hX (i := 5) rfl (by decide) rfl (gx_dt dt_mi_x_T_formOf 12 rfl) ?_
  obtain rfl := Option.some.inj h
  exact gx_aret hX (gx_dt dt_mi_x_T_formOf 13 rfl) rfl ⟨_, rfl⟩ hres hwr
-- EachBearsPillar$Text.keepNumber(I)V
def x_T_keepNumber (a1 : Int32) (w : gx_Wd) : Option (gx_Wd) :=
  (x_E_setCell 31 (w 29 5) a1 w).bind fun r1 =>
  (gx_put r1.2 29 5 ((r1.2 29 5) + 1)).bind fun w2 =>
  some w2
theorem k_x_T_keepNumber {a1 : Int32} {w : gx_Wd} {R : gx_Wd} (h : x_T_keepNumber a1 w = some R) : gx_MT mi_x_T_keepNumber [.inr 29, .inl a1] w none R := by
  refine gx_met (by decide +kernel) (Nat.le_of_ble_eq_true rfl) (fun X hX hres hwr => ?_)
  show gx_G X mi_x_T_keepNumber 0 [some (.inr 29), some (.inl a1)] [] w
  rw [x_T_keepNumber] at h
  refine gx_aload_n hX (gx_dt dt_mi_x_T_keepNumber 0 rfl) rfl ?_
  refine gx_getr hX fl_T_25 sh_x_29 rfl (gx_dt dt_mi_x_T_keepNumber 1 rfl) ?_
  refine gx_aload_n hX (gx_dt dt_mi_x_T_keepNumber 2 rfl) rfl ?_
  refine gx_geti hX fl_T_28 sh_x_29 rfl (gx_dt dt_mi_x_T_keepNumber 3 rfl) ?_
  refine gx_iload_n hX (gx_dt dt_mi_x_T_keepNumber 4 rfl) rfl ?_
  obtain ⟨r1, e_r1, h⟩ := gx_bd h
  refine gx_callSi hX (gx_dt dt_mi_x_T_keepNumber 5 rfl) ln_T_31_x_E_setCell mo_x_E_setCell ms_x_E_setCell (gx_rmb rfl) rfl (k_x_E_setCell e_r1) rfl rfl (Nat.le_of_ble_eq_true rfl) ?_
  refine gx_pop hX (gx_dt dt_mi_x_T_keepNumber 6 rfl) ?_
  refine gx_aload_n hX (gx_dt dt_mi_x_T_keepNumber 7 rfl) rfl ?_
  refine gx_dup hX (gx_dt dt_mi_x_T_keepNumber 8 rfl) ?_
  refine gx_geti hX fl_T_28 sh_x_29 rfl (gx_dt dt_mi_x_T_keepNumber 9 rfl) ?_
  refine gx_iconst hX (v := 1) (gx_dt dt_mi_x_T_keepNumber 10 rfl) (by decide) ?_
  refine gx_iadd hX (gx_dt dt_mi_x_T_keepNumber 11 rfl) ?_
  obtain ⟨w2, e_w2, h⟩ := gx_bd h
  refine gx_putp hX fl_T_28 (pf_T_5 _) sh_x_29 rfl e_w2 (gx_dt dt_mi_x_T_keepNumber 12 rfl) ?_
  obtain rfl := Option.some.inj h
  exact gx_vret hX (gx_dt dt_mi_x_T_keepNumber 13 rfl) rfl hres hwr
-- EachBearsPillar$Text.readNumber(I)Z
def x_T_readNumber_56 (b2 : Int32) (b3 : Int32) (w : gx_Wd) : Option (Int32 × gx_Wd) :=
  (x_T_keepNumber b2 w).bind fun r1 =>
  if b3 ≤ 0 then
    some (0, r1)
  else
  some (1, r1)
def x_T_readNumber_4 : Nat → Int32 → Int32 → Int32 → gx_Wd → Option (Int32 × gx_Wd)
  | 0, _, _, _, _ => none
  | n + 1, b1, b2, b3, w =>
  if b1 ≤ b3 then
    x_T_readNumber_56 b2 b3 w
  else
  (x_T_here w).bind fun r2 =>
  if r2.1 < 48 then
    x_T_readNumber_56 b2 b3 r2.2
  else
  (x_T_here r2.2).bind fun r4 =>
  if 57 < r4.1 then
    x_T_readNumber_56 b2 b3 r4.2
  else
  (x_T_here r4.2).bind fun r6 =>
  (some (((10 * b2) + r6.1) - 48)).bind fun v7 =>
  (gx_put r6.2 29 2 ((r6.2 29 2) + 1)).bind fun w8 =>
  (some (b3 + 1)).bind fun v9 =>
  (x_T_readNumber_4 n) b1 v7 v9 w8
def x_T_readNumber (a1 : Int32) (w : gx_Wd) : Option (Int32 × gx_Wd) :=
  x_T_readNumber_4 6000 a1 0 0 w
theorem t_x_T_readNumber_56 {X : gx_X} (hX : gx_Ok X mi_x_T_readNumber) {R : Int32 × gx_Wd} (hres : gx_res X = some (.inl R.1)) (hwr : gx_wr X = R.2) (b2 : Int32) (b3 : Int32) (w : gx_Wd) (h : x_T_readNumber_56 b2 b3 w = some R) : gx_G X mi_x_T_readNumber 56 [some (.inr 29), none, some (.inl b2), some (.inl b3)] [] w := by
  rw [x_T_readNumber_56] at h
  refine gx_aload_n hX (gx_dt dt_mi_x_T_readNumber 32 rfl) rfl ?_
  refine gx_iload_n hX (gx_dt dt_mi_x_T_readNumber 33 rfl) rfl ?_
  obtain ⟨r1, e_r1, h⟩ := gx_bd h
  refine gx_callVv hX (gx_dt dt_mi_x_T_readNumber 34 rfl) ln_T_86_x_T_keepNumber mo_x_T_keepNumber mv_x_T_keepNumber (gx_rmb rfl) sh_x_29 ⟨_, _, rfl⟩ rfl (k_x_T_keepNumber e_r1) rfl rfl (Nat.le_of_ble_eq_true rfl) ?_
  refine gx_iload_n hX (gx_dt dt_mi_x_T_readNumber 35 rfl) rfl ?_
  refine gx_if_le hX (tgt := 69) (gx_dt dt_mi_x_T_readNumber 36 rfl) (by decide) (fun c2 => ?_) (fun c2 => ?_)
  · have h := gx_ifp c2 h
    refine gx_iconst hX (v := 0) (gx_dt dt_mi_x_T_readNumber 39 rfl) (by decide) ?_
    obtain rfl := Option.some.inj h
    exact gx_zret hX (gx_dt dt_mi_x_T_readNumber 40 rfl) rfl rfl hres hwr
  · have h := gx_ifn c2 h
    refine gx_iconst hX (v := 1) (gx_dt dt_mi_x_T_readNumber 37 rfl) (by decide) ?_
    refine gx_goto hX (tgt := 70) (gx_dt dt_mi_x_T_readNumber 38 rfl) (by decide) ?_
    obtain rfl := Option.some.inj h
    exact gx_zret hX (gx_dt dt_mi_x_T_readNumber 40 rfl) rfl rfl hres hwr
theorem t_x_T_readNumber_4 {X : gx_X} (hX : gx_Ok X mi_x_T_readNumber) {R : Int32 × gx_Wd} (hres : gx_res X = some (.inl R.1)) (hwr : gx_wr X = R.2) : ∀ (n : Nat) (b1 : Int32) (b2 : Int32) (b3 : Int32) (w : gx_Wd), x_T_readNumber_4 n b1 b2 b3 w = some R → gx_G X mi_x_T_readNumber 4 [some (.inr 29), some (.inl b1), some (.inl b2), some (.inl b3)] [] w := by
  intro n
  induction n with
  | zero => intro b1 b2 b3 w h; rw [x_T_readNumber_4] at h; cases h
  | succ n ih =>
    intro b1 b2 b3 w h
    rw [x_T_readNumber_4] at h
    refine gx_iload_n hX (gx_dt dt_mi_x_T_readNumber 4 rfl) rfl ?_
    refine gx_iload_n hX (gx_dt dt_mi_x_T_readNumber 5 rfl) rfl ?_
    refine gx_ic_ge hX (tgt := 56) (gx_dt dt_mi_x_T_readNumber 6 rfl) (by decide) (fun c1 => ?_) (fun c1 => ?_)
    · have h := gx_ifp c1 h
      exact gx_weak (gx_leS (gx_leN (gx_leS (gx_leS gx_le0)))) (t_x_T_readNumber_56 hX hres hwr _ _ _ h)
    · have h := gx_ifn c1 h
      refine gx_aload_n hX (gx_dt dt_mi_x_T_readNumber 7 rfl) rfl ?_
      obtain ⟨r2, e_r2, h⟩ := gx_bd h
      refine gx_callVi hX (gx_dt dt_mi_x_T_readNumber 8 rfl) ln_T_42_x_T_here mo_x_T_here mv_x_T_here (gx_rmb rfl) sh_x_29 ⟨_, _, rfl⟩ rfl (k_x_T_here e_r2) rfl rfl (Nat.le_of_ble_eq_true rfl) ?_
      refine gx_bipush hX (v := 48) (gx_dt dt_mi_x_T_readNumber 9 rfl) (by decide) ?_
      refine gx_ic_lt hX (tgt := 56) (gx_dt dt_mi_x_T_readNumber 10 rfl) (by decide) (fun c3 => ?_) (fun c3 => ?_)
      · have h := gx_ifp c3 h
        exact gx_weak (gx_leS (gx_leN (gx_leS (gx_leS gx_le0)))) (t_x_T_readNumber_56 hX hres hwr _ _ _ h)
      · have h := gx_ifn c3 h
        refine gx_aload_n hX (gx_dt dt_mi_x_T_readNumber 11 rfl) rfl ?_
        obtain ⟨r4, e_r4, h⟩ := gx_bd h
        refine gx_callVi hX (gx_dt dt_mi_x_T_readNumber 12 rfl) ln_T_42_x_T_here mo_x_T_here mv_x_T_here (gx_rmb rfl) sh_x_29 ⟨_, _, rfl⟩ rfl (k_x_T_here e_r4) rfl rfl (Nat.le_of_ble_eq_true rfl) ?_
        refine gx_bipush hX (v := 57) (gx_dt dt_mi_x_T_readNumber 13 rfl) (by decide) ?_
        refine gx_ic_gt hX (tgt := 56) (gx_dt dt_mi_x_T_readNumber 14 rfl) (by decide) (fun c5 => ?_) (fun c5 => ?_)
        · have h := gx_ifp c5 h
          exact gx_weak (gx_leS (gx_leN (gx_leS (gx_leS gx_le0)))) (t_x_T_readNumber_56 hX hres hwr _ _ _ h)
        · have h := gx_ifn c5 h
          refine gx_bipush hX (v := 10) (gx_dt dt_mi_x_T_readNumber 15 rfl) (by decide) ?_
          refine gx_iload_n hX (gx_dt dt_mi_x_T_readNumber 16 rfl) rfl ?_
          refine gx_imul hX (gx_dt dt_mi_x_T_readNumber 17 rfl) ?_
          refine gx_aload_n hX (gx_dt dt_mi_x_T_readNumber 18 rfl) rfl ?_
          obtain ⟨r6, e_r6, h⟩ := gx_bd h
          refine gx_callVi hX (gx_dt dt_mi_x_T_readNumber 19 rfl) ln_T_42_x_T_here mo_x_T_here mv_x_T_here (gx_rmb rfl) sh_x_29 ⟨_, _, rfl⟩ rfl (k_x_T_here e_r6) rfl rfl (Nat.le_of_ble_eq_true rfl) ?_
          refine gx_iadd hX (gx_dt dt_mi_x_T_readNumber 20 rfl) ?_
          refine gx_bipush hX (v := 48) (gx_dt dt_mi_x_T_readNumber 21 rfl) (by decide) ?_
          refine gx_isub hX (gx_dt dt_mi_x_T_readNumber 22 rfl) ?_
          obtain ⟨v7, e_v7, h⟩ := gx_bd h
          refine gx_top e_v7 ?_
          refine gx_istore_n hX (ls' := [some (.inr 29), some (.inl b1), some (.inl v7), some (.inl b3)]) (gx_dt dt_mi_x_T_readNumber 23 rfl) (by decide) rfl ?_
          refine gx_aload_n hX (gx_dt dt_mi_x_T_readNumber 24 rfl) rfl ?_
          refine gx_dup hX (gx_dt dt_mi_x_T_readNumber 25 rfl) ?_
          refine gx_geti hX fl_T_19 sh_x_29 rfl (gx_dt dt_mi_x_T_readNumber 26 rfl) ?_
          refine gx_iconst hX (v := 1) (gx_dt dt_mi_x_T_readNumber 27 rfl) (by decide) ?_
          refine gx_iadd hX (gx_dt dt_mi_x_T_readNumber 28 rfl) ?_
          obtain ⟨w8, e_w8, h⟩ := gx_bd h
          refine gx_putp hX fl_T_19 (pf_T_2 _) sh_x_29 rfl e_w8 (gx_dt dt_mi_x_T_readNumber 29 rfl) ?_
          obtain ⟨v9, e_v9, h⟩ := gx_bd h
          refine gx_iinc hX (v := v9) (ls' := [some (.inr 29), some (.inl b1), some (.inl v7), some (.inl v9)]) (gx_dt dt_mi_x_T_readNumber 30 rfl) rfl (gx_ii e_v9 (by decide)) (by decide) rfl ?_
          refine gx_goto hX (tgt := 4) (gx_dt dt_mi_x_T_readNumber 31 rfl) (by decide) ?_
          exact gx_weak (gx_leS (gx_leS (gx_leS (gx_leS gx_le0)))) (ih _ _ _ _ h)
theorem k_x_T_readNumber {a1 : Int32} {w : gx_Wd} {R : Int32 × gx_Wd} (h : x_T_readNumber a1 w = some R) : gx_MT mi_x_T_readNumber [.inr 29, .inl a1] w (some (.inl R.1)) R.2 := by
  refine gx_met (by decide +kernel) (Nat.le_of_ble_eq_true rfl) (fun X hX hres hwr => ?_)
  show gx_G X mi_x_T_readNumber 0 [some (.inr 29), some (.inl a1)] [] w
  rw [x_T_readNumber] at h
  refine gx_iconst hX (v := 0) (gx_dt dt_mi_x_T_readNumber 0 rfl) (by decide) ?_
  refine gx_istore_n hX (ls' := [some (.inr 29), some (.inl a1), some (.inl (0))]) (gx_dt dt_mi_x_T_readNumber 1 rfl) (by decide) rfl ?_
  refine gx_iconst hX (v := 0) (gx_dt dt_mi_x_T_readNumber 2 rfl) (by decide) ?_
  refine gx_istore_n hX (ls' := [some (.inr 29), some (.inl a1), some (.inl (0)), some (.inl (0))]) (gx_dt dt_mi_x_T_readNumber 3 rfl) (by decide) rfl ?_
  exact gx_weak (gx_leS (gx_leS (gx_leS (gx_leS gx_le0)))) (t_x_T_readNumber_4 hX hres hwr _ _ _ _ _ h)
-- EachBearsPillar$Text.readKind()Z
def x_T_readKind_26 (b2 : Int32) (w : gx_Wd) : Option (Int32 × gx_Wd) :=
  (gx_put w 29 2 ((w 29 2) + 1)).bind fun w1 =>
  (x_T_keepNumber b2 w1).bind fun r2 =>
  some (1, r2)
def x_T_readKind_7 : Nat → Int32 → Int32 → gx_Wd → Option (Int32 × gx_Wd)
  | 0, _, _, _ => none
  | n + 1, b1, b2, w =>
  (x_S_length 1006 w).bind fun r1 =>
  if r1.1 ≤ b2 then
    some (0, r1.2)
  else
  (x_S_charAt 1006 b2 r1.2).bind fun r3 =>
  if r3.1 = b1 then
    x_T_readKind_26 b2 r3.2
  else
    (some (b2 + 1)).bind fun v5 =>
    (x_T_readKind_7 n) b1 v5 r3.2
def x_T_readKind (w : gx_Wd) : Option (Int32 × gx_Wd) :=
  (x_T_here w).bind fun r1 =>
  x_T_readKind_7 6000 r1.1 0 r1.2
theorem t_x_T_readKind_26 {X : gx_X} (hX : gx_Ok X mi_x_T_readKind) {R : Int32 × gx_Wd} (hres : gx_res X = some (.inl R.1)) (hwr : gx_wr X = R.2) (b2 : Int32) (w : gx_Wd) (h : x_T_readKind_26 b2 w = some R) : gx_G X mi_x_T_readKind 26 [some (.inr 29), none, some (.inl b2)] [] w := by
  rw [x_T_readKind_26] at h
  refine gx_aload_n hX (gx_dt dt_mi_x_T_readKind 14 rfl) rfl ?_
  refine gx_dup hX (gx_dt dt_mi_x_T_readKind 15 rfl) ?_
  refine gx_geti hX fl_T_19 sh_x_29 rfl (gx_dt dt_mi_x_T_readKind 16 rfl) ?_
  refine gx_iconst hX (v := 1) (gx_dt dt_mi_x_T_readKind 17 rfl) (by decide) ?_
  refine gx_iadd hX (gx_dt dt_mi_x_T_readKind 18 rfl) ?_
  obtain ⟨w1, e_w1, h⟩ := gx_bd h
  refine gx_putp hX fl_T_19 (pf_T_2 _) sh_x_29 rfl e_w1 (gx_dt dt_mi_x_T_readKind 19 rfl) ?_
  refine gx_aload_n hX (gx_dt dt_mi_x_T_readKind 20 rfl) rfl ?_
  refine gx_iload_n hX (gx_dt dt_mi_x_T_readKind 21 rfl) rfl ?_
  obtain ⟨r2, e_r2, h⟩ := gx_bd h
  refine gx_callVv hX (gx_dt dt_mi_x_T_readKind 22 rfl) ln_T_86_x_T_keepNumber mo_x_T_keepNumber mv_x_T_keepNumber (gx_rmb rfl) sh_x_29 ⟨_, _, rfl⟩ rfl (k_x_T_keepNumber e_r2) rfl rfl (Nat.le_of_ble_eq_true rfl) ?_
  refine gx_iconst hX (v := 1) (gx_dt dt_mi_x_T_readKind 23 rfl) (by decide) ?_
  obtain rfl := Option.some.inj h
  exact gx_zret hX (gx_dt dt_mi_x_T_readKind 24 rfl) rfl rfl hres hwr
theorem t_x_T_readKind_7 {X : gx_X} (hX : gx_Ok X mi_x_T_readKind) {R : Int32 × gx_Wd} (hres : gx_res X = some (.inl R.1)) (hwr : gx_wr X = R.2) : ∀ (n : Nat) (b1 : Int32) (b2 : Int32) (w : gx_Wd), x_T_readKind_7 n b1 b2 w = some R → gx_G X mi_x_T_readKind 7 [some (.inr 29), some (.inl b1), some (.inl b2)] [] w := by
  intro n
  induction n with
  | zero => intro b1 b2 w h; rw [x_T_readKind_7] at h; cases h
  | succ n ih =>
    intro b1 b2 w h
    rw [x_T_readKind_7] at h
    refine gx_iload_n hX (gx_dt dt_mi_x_T_readKind 5 rfl) rfl ?_
    refine gx_ldcs hX (i := 6) rfl (by decide) rfl (gx_dt dt_mi_x_T_readKind 6 rfl) ?_
    obtain ⟨r1, e_r1, h⟩ := gx_bd h
    refine gx_callTi hX (gx_dt dt_mi_x_T_readKind 7 rfl) ln_T_55_x_S_length mo_x_S_length mv_x_S_length (gx_rmb rfl) rfl rfl (gx_so_length e_r1) (k_x_S_length e_r1) rfl rfl (Nat.le_of_ble_eq_true rfl) ?_
    refine gx_ic_ge hX (tgt := 49) (gx_dt dt_mi_x_T_readKind 8 rfl) (by decide) (fun c2 => ?_) (fun c2 => ?_)
    · have h := gx_ifp c2 h
      refine gx_iconst hX (v := 0) (gx_dt dt_mi_x_T_readKind 27 rfl) (by decide) ?_
      obtain rfl := Option.some.inj h
      exact gx_zret hX (gx_dt dt_mi_x_T_readKind 28 rfl) rfl rfl hres hwr
    · have h := gx_ifn c2 h
      refine gx_ldcs hX (i := 6) rfl (by decide) rfl (gx_dt dt_mi_x_T_readKind 9 rfl) ?_
      refine gx_iload_n hX (gx_dt dt_mi_x_T_readKind 10 rfl) rfl ?_
      obtain ⟨r3, e_r3, h⟩ := gx_bd h
      refine gx_callTi hX (gx_dt dt_mi_x_T_readKind 11 rfl) ln_T_57_x_S_charAt mo_x_S_charAt mv_x_S_charAt (gx_rmb rfl) rfl rfl (gx_so_charAt e_r3) (k_x_S_charAt e_r3) rfl rfl (Nat.le_of_ble_eq_true rfl) ?_
      refine gx_iload_n hX (gx_dt dt_mi_x_T_readKind 12 rfl) rfl ?_
      refine gx_ic_ne hX (tgt := 43) (gx_dt dt_mi_x_T_readKind 13 rfl) (by decide) (fun c4 => ?_) (fun c4 => ?_)
      · have h := gx_ifn c4 h
        obtain ⟨v5, e_v5, h⟩ := gx_bd h
        refine gx_iinc hX (v := v5) (ls' := [some (.inr 29), some (.inl b1), some (.inl v5)]) (gx_dt dt_mi_x_T_readKind 25 rfl) rfl (gx_ii e_v5 (by decide)) (by decide) rfl ?_
        refine gx_goto hX (tgt := 7) (gx_dt dt_mi_x_T_readKind 26 rfl) (by decide) ?_
        exact gx_weak (gx_leS (gx_leS (gx_leS gx_le0))) (ih _ _ _ h)
      · have h := gx_ifp c4 h
        exact gx_weak (gx_leS (gx_leN (gx_leS gx_le0))) (t_x_T_readKind_26 hX hres hwr _ _ h)
theorem k_x_T_readKind {w : gx_Wd} {R : Int32 × gx_Wd} (h : x_T_readKind w = some R) : gx_MT mi_x_T_readKind [.inr 29] w (some (.inl R.1)) R.2 := by
  refine gx_met (by decide +kernel) (Nat.le_of_ble_eq_true rfl) (fun X hX hres hwr => ?_)
  show gx_G X mi_x_T_readKind 0 [some (.inr 29)] [] w
  rw [x_T_readKind] at h
  refine gx_aload_n hX (gx_dt dt_mi_x_T_readKind 0 rfl) rfl ?_
  obtain ⟨r1, e_r1, h⟩ := gx_bd h
  refine gx_callVi hX (gx_dt dt_mi_x_T_readKind 1 rfl) ln_T_42_x_T_here mo_x_T_here mv_x_T_here (gx_rmb rfl) sh_x_29 ⟨_, _, rfl⟩ rfl (k_x_T_here e_r1) rfl rfl (Nat.le_of_ble_eq_true rfl) ?_
  refine gx_istore_n hX (ls' := [some (.inr 29), some (.inl (r1.1))]) (gx_dt dt_mi_x_T_readKind 2 rfl) (by decide) rfl ?_
  refine gx_iconst hX (v := 0) (gx_dt dt_mi_x_T_readKind 3 rfl) (by decide) ?_
  refine gx_istore_n hX (ls' := [some (.inr 29), some (.inl (r1.1)), some (.inl (0))]) (gx_dt dt_mi_x_T_readKind 4 rfl) (by decide) rfl ?_
  exact gx_weak (gx_leS (gx_leS (gx_leS gx_le0))) (t_x_T_readKind_7 hX hres hwr _ _ _ _ h)
-- EachBearsPillar$Text.readPart(C)Z
def x_T_readPart (a1 : Int32) (w : gx_Wd) : Option (Int32 × gx_Wd) :=
  if a1 = 68 then
    (x_T_readNumber 1 w).bind fun r2 =>
    if r2.1 = 0 ∨ r2.1 = 1 then some (r2.1, r2.2) else none
  else
  if a1 = 75 then
    (x_T_readKind w).bind fun r4 =>
    if r4.1 = 0 ∨ r4.1 = 1 then some (r4.1, r4.2) else none
  else
  if a1 = 78 then
    (x_T_readNumber 2 w).bind fun r6 =>
    if r6.1 = 0 ∨ r6.1 = 1 then some (r6.1, r6.2) else none
  else
  (x_T_here w).bind fun r7 =>
  if r7.1 = a1 then
    (gx_put r7.2 29 2 ((r7.2 29 2) + 1)).bind fun w9 =>
    some (1, w9)
  else
  some (0, r7.2)
theorem k_x_T_readPart {a1 : Int32} {w : gx_Wd} {R : Int32 × gx_Wd} (h : x_T_readPart a1 w = some R) : gx_MT mi_x_T_readPart [.inr 29, .inl a1] w (some (.inl R.1)) R.2 := by
  refine gx_met (by decide +kernel) (Nat.le_of_ble_eq_true rfl) (fun X hX hres hwr => ?_)
  show gx_G X mi_x_T_readPart 0 [some (.inr 29), some (.inl a1)] [] w
  rw [x_T_readPart] at h
  refine gx_iload_n hX (gx_dt dt_mi_x_T_readPart 0 rfl) rfl ?_
  by_cases c1 : a1 = 68
  · have h := gx_ifp c1 h
    refine gx_lookup hX (off := 40) (tgt := 41) (gx_dt dt_mi_x_T_readPart 1 rfl) (by decide) (by rw [c1]; rfl) (by decide) ?_
    refine gx_aload_n hX (gx_dt dt_mi_x_T_readPart 5 rfl) rfl ?_
    refine gx_iconst hX (v := 1) (gx_dt dt_mi_x_T_readPart 6 rfl) (by decide) ?_
    obtain ⟨r2, e_r2, h⟩ := gx_bd h
    refine gx_callVi hX (gx_dt dt_mi_x_T_readPart 7 rfl) ln_T_80_x_T_readNumber mo_x_T_readNumber mv_x_T_readNumber (gx_rmb rfl) sh_x_29 ⟨_, _, rfl⟩ rfl (k_x_T_readNumber e_r2) rfl rfl (Nat.le_of_ble_eq_true rfl) ?_
    obtain ⟨c, h⟩ := gx_01 h
    obtain rfl := Option.some.inj h
    exact gx_zret hX (gx_dt dt_mi_x_T_readPart 8 rfl) rfl (gx_nar c) hres hwr
  have h := gx_ifn c1 h
  by_cases c3 : a1 = 75
  · have h := gx_ifp c3 h
    refine gx_lookup hX (off := 35) (tgt := 36) (gx_dt dt_mi_x_T_readPart 1 rfl) (by decide) (by rw [c3]; rfl) (by decide) ?_
    refine gx_aload_n hX (gx_dt dt_mi_x_T_readPart 2 rfl) rfl ?_
    obtain ⟨r4, e_r4, h⟩ := gx_bd h
    refine gx_callVi hX (gx_dt dt_mi_x_T_readPart 3 rfl) ln_T_77_x_T_readKind mo_x_T_readKind mv_x_T_readKind (gx_rmb rfl) sh_x_29 ⟨_, _, rfl⟩ rfl (k_x_T_readKind e_r4) rfl rfl (Nat.le_of_ble_eq_true rfl) ?_
    obtain ⟨c, h⟩ := gx_01 h
    obtain rfl := Option.some.inj h
    exact gx_zret hX (gx_dt dt_mi_x_T_readPart 4 rfl) rfl (gx_nar c) hres hwr
  have h := gx_ifn c3 h
  by_cases c5 : a1 = 78
  · have h := gx_ifp c5 h
    refine gx_lookup hX (off := 46) (tgt := 47) (gx_dt dt_mi_x_T_readPart 1 rfl) (by decide) (by rw [c5]; rfl) (by decide) ?_
    refine gx_aload_n hX (gx_dt dt_mi_x_T_readPart 9 rfl) rfl ?_
    refine gx_iconst hX (v := 2) (gx_dt dt_mi_x_T_readPart 10 rfl) (by decide) ?_
    obtain ⟨r6, e_r6, h⟩ := gx_bd h
    refine gx_callVi hX (gx_dt dt_mi_x_T_readPart 11 rfl) ln_T_80_x_T_readNumber mo_x_T_readNumber mv_x_T_readNumber (gx_rmb rfl) sh_x_29 ⟨_, _, rfl⟩ rfl (k_x_T_readNumber e_r6) rfl rfl (Nat.le_of_ble_eq_true rfl) ?_
    obtain ⟨c, h⟩ := gx_01 h
    obtain rfl := Option.some.inj h
    exact gx_zret hX (gx_dt dt_mi_x_T_readPart 12 rfl) rfl (gx_nar c) hres hwr
  have h := gx_ifn c5 h
  refine gx_lookup hX (off := 52) (tgt := 53) (gx_dt dt_mi_x_T_readPart 1 rfl) (by decide) (by show Op.lookupswitch.offset [(68, 40), (75, 35), (78, 46)] _ _ = _; rw [lv_osw (a := 68) c1 rfl, lv_osw (a := 75) c3 rfl, lv_osw (a := 78) c5 rfl]; rfl) (by decide) ?_
  refine gx_aload_n hX (gx_dt dt_mi_x_T_readPart 13 rfl) rfl ?_
  obtain ⟨r7, e_r7, h⟩ := gx_bd h
  refine gx_callVi hX (gx_dt dt_mi_x_T_readPart 14 rfl) ln_T_42_x_T_here mo_x_T_here mv_x_T_here (gx_rmb rfl) sh_x_29 ⟨_, _, rfl⟩ rfl (k_x_T_here e_r7) rfl rfl (Nat.le_of_ble_eq_true rfl) ?_
  refine gx_iload_n hX (gx_dt dt_mi_x_T_readPart 15 rfl) rfl ?_
  refine gx_ic_eq hX (tgt := 63) (gx_dt dt_mi_x_T_readPart 16 rfl) (by decide) (fun c8 => ?_) (fun c8 => ?_)
  · have h := gx_ifp c8 h
    refine gx_aload_n hX (gx_dt dt_mi_x_T_readPart 19 rfl) rfl ?_
    refine gx_dup hX (gx_dt dt_mi_x_T_readPart 20 rfl) ?_
    refine gx_geti hX fl_T_19 sh_x_29 rfl (gx_dt dt_mi_x_T_readPart 21 rfl) ?_
    refine gx_iconst hX (v := 1) (gx_dt dt_mi_x_T_readPart 22 rfl) (by decide) ?_
    refine gx_iadd hX (gx_dt dt_mi_x_T_readPart 23 rfl) ?_
    obtain ⟨w9, e_w9, h⟩ := gx_bd h
    refine gx_putp hX fl_T_19 (pf_T_2 _) sh_x_29 rfl e_w9 (gx_dt dt_mi_x_T_readPart 24 rfl) ?_
    refine gx_iconst hX (v := 1) (gx_dt dt_mi_x_T_readPart 25 rfl) (by decide) ?_
    obtain rfl := Option.some.inj h
    exact gx_zret hX (gx_dt dt_mi_x_T_readPart 26 rfl) rfl rfl hres hwr
  · have h := gx_ifn c8 h
    refine gx_iconst hX (v := 0) (gx_dt dt_mi_x_T_readPart 17 rfl) (by decide) ?_
    obtain rfl := Option.some.inj h
    exact gx_zret hX (gx_dt dt_mi_x_T_readPart 18 rfl) rfl rfl hres hwr
-- EachBearsPillar$Text.readStatement()Z
def x_T_readStatement_42 : Nat → Nat → Int32 → gx_Wd → Option (Int32 × gx_Wd)
  | 0, _, _, _ => none
  | n + 1, q1, b2, w =>
  (x_S_length q1 w).bind fun r1 =>
  if r1.1 ≤ b2 then
    some (1, r1.2)
  else
  (x_S_charAt q1 b2 r1.2).bind fun r3 =>
  (x_T_readPart r3.1 r3.2).bind fun r4 =>
  if r4.1 = 0 then
    some (0, r4.2)
  else
    (some (b2 + 1)).bind fun v6 =>
    (x_T_readStatement_42 n) q1 v6 r4.2
def x_T_readStatement (w : gx_Wd) : Option (Int32 × gx_Wd) :=
  (gx_put w 29 5 0).bind fun w1 =>
  (x_T_here w1).bind fun r2 =>
  (gx_put r2.2 29 3 r2.1).bind fun w3 =>
  (x_T_formOf (w3 29 3) w3).bind fun r4 =>
  (x_S_isEmpty r4.1 r4.2).bind fun r5 =>
  if r5.1 = 0 then
    (gx_put r5.2 29 2 ((r5.2 29 2) + 1)).bind fun w7 =>
    x_T_readStatement_42 6000 r4.1 0 w7
  else
  some (0, r5.2)
theorem t_x_T_readStatement_42 {X : gx_X} (hX : gx_Ok X mi_x_T_readStatement) {R : Int32 × gx_Wd} (hres : gx_res X = some (.inl R.1)) (hwr : gx_wr X = R.2) : ∀ (n : Nat) (q1 : Nat) (b2 : Int32) (w : gx_Wd), x_T_readStatement_42 n q1 b2 w = some R → gx_G X mi_x_T_readStatement 42 [some (.inr 29), some (.inr q1), some (.inl b2)] [] w := by
  intro n
  induction n with
  | zero => intro q1 b2 w h; rw [x_T_readStatement_42] at h; cases h
  | succ n ih =>
    intro q1 b2 w h
    rw [x_T_readStatement_42] at h
    refine gx_iload_n hX (gx_dt dt_mi_x_T_readStatement 24 rfl) rfl ?_
    refine gx_aload_n hX (gx_dt dt_mi_x_T_readStatement 25 rfl) rfl ?_
    obtain ⟨r1, e_r1, h⟩ := gx_bd h
    refine gx_callTi hX (gx_dt dt_mi_x_T_readStatement 26 rfl) ln_T_55_x_S_length mo_x_S_length mv_x_S_length (gx_rmb rfl) rfl rfl (gx_so_length e_r1) (k_x_S_length e_r1) rfl rfl (Nat.le_of_ble_eq_true rfl) ?_
    refine gx_ic_ge hX (tgt := 70) (gx_dt dt_mi_x_T_readStatement 27 rfl) (by decide) (fun c2 => ?_) (fun c2 => ?_)
    · have h := gx_ifp c2 h
      refine gx_iconst hX (v := 1) (gx_dt dt_mi_x_T_readStatement 38 rfl) (by decide) ?_
      obtain rfl := Option.some.inj h
      exact gx_zret hX (gx_dt dt_mi_x_T_readStatement 39 rfl) rfl rfl hres hwr
    · have h := gx_ifn c2 h
      refine gx_aload_n hX (gx_dt dt_mi_x_T_readStatement 28 rfl) rfl ?_
      refine gx_aload_n hX (gx_dt dt_mi_x_T_readStatement 29 rfl) rfl ?_
      refine gx_iload_n hX (gx_dt dt_mi_x_T_readStatement 30 rfl) rfl ?_
      obtain ⟨r3, e_r3, h⟩ := gx_bd h
      refine gx_callTi hX (gx_dt dt_mi_x_T_readStatement 31 rfl) ln_T_57_x_S_charAt mo_x_S_charAt mv_x_S_charAt (gx_rmb rfl) rfl rfl (gx_so_charAt e_r3) (k_x_S_charAt e_r3) rfl rfl (Nat.le_of_ble_eq_true rfl) ?_
      obtain ⟨r4, e_r4, h⟩ := gx_bd h
      refine gx_callVi hX (gx_dt dt_mi_x_T_readStatement 32 rfl) ln_T_61_x_T_readPart mo_x_T_readPart mv_x_T_readPart (gx_rmb rfl) sh_x_29 ⟨_, _, rfl⟩ rfl (k_x_T_readPart e_r4) rfl rfl (Nat.le_of_ble_eq_true rfl) ?_
      refine gx_if_ne hX (tgt := 64) (gx_dt dt_mi_x_T_readStatement 33 rfl) (by decide) (fun c5 => ?_) (fun c5 => ?_)
      · have h := gx_ifn c5 h
        obtain ⟨v6, e_v6, h⟩ := gx_bd h
        refine gx_iinc hX (v := v6) (ls' := [some (.inr 29), some (.inr q1), some (.inl v6)]) (gx_dt dt_mi_x_T_readStatement 36 rfl) rfl (gx_ii e_v6 (by decide)) (by decide) rfl ?_
        refine gx_goto hX (tgt := 42) (gx_dt dt_mi_x_T_readStatement 37 rfl) (by decide) ?_
        exact gx_weak (gx_leS (gx_leS (gx_leS gx_le0))) (ih _ _ _ h)
      · have h := gx_ifp c5 h
        refine gx_iconst hX (v := 0) (gx_dt dt_mi_x_T_readStatement 34 rfl) (by decide) ?_
        obtain rfl := Option.some.inj h
        exact gx_zret hX (gx_dt dt_mi_x_T_readStatement 35 rfl) rfl rfl hres hwr
theorem k_x_T_readStatement {w : gx_Wd} {R : Int32 × gx_Wd} (h : x_T_readStatement w = some R) : gx_MT mi_x_T_readStatement [.inr 29] w (some (.inl R.1)) R.2 := by
  refine gx_met (by decide +kernel) (Nat.le_of_ble_eq_true rfl) (fun X hX hres hwr => ?_)
  show gx_G X mi_x_T_readStatement 0 [some (.inr 29)] [] w
  rw [x_T_readStatement] at h
  refine gx_aload_n hX (gx_dt dt_mi_x_T_readStatement 0 rfl) rfl ?_
  refine gx_iconst hX (v := 0) (gx_dt dt_mi_x_T_readStatement 1 rfl) (by decide) ?_
  obtain ⟨w1, e_w1, h⟩ := gx_bd h
  refine gx_putp hX fl_T_28 (pf_T_5 _) sh_x_29 rfl e_w1 (gx_dt dt_mi_x_T_readStatement 2 rfl) ?_
  refine gx_aload_n hX (gx_dt dt_mi_x_T_readStatement 3 rfl) rfl ?_
  refine gx_aload_n hX (gx_dt dt_mi_x_T_readStatement 4 rfl) rfl ?_
  obtain ⟨r2, e_r2, h⟩ := gx_bd h
  refine gx_callVi hX (gx_dt dt_mi_x_T_readStatement 5 rfl) ln_T_42_x_T_here mo_x_T_here mv_x_T_here (gx_rmb rfl) sh_x_29 ⟨_, _, rfl⟩ rfl (k_x_T_here e_r2) rfl rfl (Nat.le_of_ble_eq_true rfl) ?_
  obtain ⟨w3, e_w3, h⟩ := gx_bd h
  refine gx_putp hX fl_T_22 (pf_T_3 _) sh_x_29 rfl e_w3 (gx_dt dt_mi_x_T_readStatement 6 rfl) ?_
  refine gx_aload_n hX (gx_dt dt_mi_x_T_readStatement 7 rfl) rfl ?_
  refine gx_geti hX fl_T_22 sh_x_29 rfl (gx_dt dt_mi_x_T_readStatement 8 rfl) ?_
  obtain ⟨r4, e_r4, h⟩ := gx_bd h
  refine gx_callSr hX (gx_dt dt_mi_x_T_readStatement 9 rfl) ln_T_46_x_T_formOf mo_x_T_formOf ms_x_T_formOf (gx_rmb rfl) rfl (k_x_T_formOf e_r4) rfl rfl (Nat.le_of_ble_eq_true rfl) ?_
  refine gx_astore_n hX (ls' := [some (.inr 29), some (.inr (r4.1))]) (gx_dt dt_mi_x_T_readStatement 10 rfl) (by decide) rfl ?_
  refine gx_aload_n hX (gx_dt dt_mi_x_T_readStatement 11 rfl) rfl ?_
  obtain ⟨r5, e_r5, h⟩ := gx_bd h
  refine gx_callTi hX (gx_dt dt_mi_x_T_readStatement 12 rfl) ln_T_50_x_S_isEmpty mo_x_S_isEmpty mv_x_S_isEmpty (gx_rmb rfl) rfl rfl (gx_so_isEmpty e_r5) (k_x_S_isEmpty e_r5) rfl rfl (Nat.le_of_ble_eq_true rfl) ?_
  refine gx_if_eq hX (tgt := 30) (gx_dt dt_mi_x_T_readStatement 13 rfl) (by decide) (fun c6 => ?_) (fun c6 => ?_)
  · have h := gx_ifp c6 h
    refine gx_aload_n hX (gx_dt dt_mi_x_T_readStatement 16 rfl) rfl ?_
    refine gx_dup hX (gx_dt dt_mi_x_T_readStatement 17 rfl) ?_
    refine gx_geti hX fl_T_19 sh_x_29 rfl (gx_dt dt_mi_x_T_readStatement 18 rfl) ?_
    refine gx_iconst hX (v := 1) (gx_dt dt_mi_x_T_readStatement 19 rfl) (by decide) ?_
    refine gx_iadd hX (gx_dt dt_mi_x_T_readStatement 20 rfl) ?_
    obtain ⟨w7, e_w7, h⟩ := gx_bd h
    refine gx_putp hX fl_T_19 (pf_T_2 _) sh_x_29 rfl e_w7 (gx_dt dt_mi_x_T_readStatement 21 rfl) ?_
    refine gx_iconst hX (v := 0) (gx_dt dt_mi_x_T_readStatement 22 rfl) (by decide) ?_
    refine gx_istore_n hX (ls' := [some (.inr 29), some (.inr (r4.1)), some (.inl (0))]) (gx_dt dt_mi_x_T_readStatement 23 rfl) (by decide) rfl ?_
    exact gx_weak (gx_leS (gx_leS (gx_leS gx_le0))) (t_x_T_readStatement_42 hX hres hwr _ _ _ _ h)
  · have h := gx_ifn c6 h
    refine gx_iconst hX (v := 0) (gx_dt dt_mi_x_T_readStatement 14 rfl) (by decide) ?_
    obtain rfl := Option.some.inj h
    exact gx_zret hX (gx_dt dt_mi_x_T_readStatement 15 rfl) rfl rfl hres hwr
-- EachBearsPillar$Text.faultOfForm()I
def x_T_faultOfForm_17 : Nat → Int32 → gx_Wd → Option (Int32 × gx_Wd)
  | 0, _, _ => none
  | n + 1, b1, w =>
  if 96 ≤ b1 then
    some (0, w)
  else
  if w 29 1 ≤ w 29 2 then
    some (0, w)
  else
  (x_T_readStatement w).bind fun r3 =>
  if r3.1 = 0 then
    some ((-1000) - (r3.2 29 2), r3.2)
  else
    (some (b1 + 1)).bind fun v5 =>
    (x_T_faultOfForm_17 n) v5 r3.2
def x_T_faultOfForm (w : gx_Wd) : Option (Int32 × gx_Wd) :=
  (x_T_rewind w).bind fun r1 =>
  if r1 29 1 = 0 then
    some ((-1000), r1)
  else
    x_T_faultOfForm_17 6000 0 r1
theorem t_x_T_faultOfForm_17 {X : gx_X} (hX : gx_Ok X mi_x_T_faultOfForm) {R : Int32 × gx_Wd} (hres : gx_res X = some (.inl R.1)) (hwr : gx_wr X = R.2) : ∀ (n : Nat) (b1 : Int32) (w : gx_Wd), x_T_faultOfForm_17 n b1 w = some R → gx_G X mi_x_T_faultOfForm 17 [some (.inr 29), some (.inl b1)] [] w := by
  intro n
  induction n with
  | zero => intro b1 w h; rw [x_T_faultOfForm_17] at h; cases h
  | succ n ih =>
    intro b1 w h
    rw [x_T_faultOfForm_17] at h
    refine gx_iload_n hX (gx_dt dt_mi_x_T_faultOfForm 9 rfl) rfl ?_
    refine gx_bipush hX (v := 96) (gx_dt dt_mi_x_T_faultOfForm 10 rfl) (by decide) ?_
    refine gx_ic_ge hX (tgt := 56) (gx_dt dt_mi_x_T_faultOfForm 11 rfl) (by decide) (fun c1 => ?_) (fun c1 => ?_)
    · have h := gx_ifp c1 h
      refine gx_iconst hX (v := 0) (gx_dt dt_mi_x_T_faultOfForm 27 rfl) (by decide) ?_
      obtain rfl := Option.some.inj h
      exact gx_iret hX (gx_dt dt_mi_x_T_faultOfForm 28 rfl) rfl hres hwr
    · have h := gx_ifn c1 h
      refine gx_aload_n hX (gx_dt dt_mi_x_T_faultOfForm 12 rfl) rfl ?_
      refine gx_geti hX fl_T_19 sh_x_29 rfl (gx_dt dt_mi_x_T_faultOfForm 13 rfl) ?_
      refine gx_aload_n hX (gx_dt dt_mi_x_T_faultOfForm 14 rfl) rfl ?_
      refine gx_geti hX fl_T_15 sh_x_29 rfl (gx_dt dt_mi_x_T_faultOfForm 15 rfl) ?_
      refine gx_ic_ge hX (tgt := 56) (gx_dt dt_mi_x_T_faultOfForm 16 rfl) (by decide) (fun c2 => ?_) (fun c2 => ?_)
      · have h := gx_ifp c2 h
        refine gx_iconst hX (v := 0) (gx_dt dt_mi_x_T_faultOfForm 27 rfl) (by decide) ?_
        obtain rfl := Option.some.inj h
        exact gx_iret hX (gx_dt dt_mi_x_T_faultOfForm 28 rfl) rfl hres hwr
      · have h := gx_ifn c2 h
        refine gx_aload_n hX (gx_dt dt_mi_x_T_faultOfForm 17 rfl) rfl ?_
        obtain ⟨r3, e_r3, h⟩ := gx_bd h
        refine gx_callVi hX (gx_dt dt_mi_x_T_faultOfForm 18 rfl) ln_T_38_x_T_readStatement mo_x_T_readStatement mv_x_T_readStatement (gx_rmb rfl) sh_x_29 ⟨_, _, rfl⟩ rfl (k_x_T_readStatement e_r3) rfl rfl (Nat.le_of_ble_eq_true rfl) ?_
        refine gx_if_ne hX (tgt := 50) (gx_dt dt_mi_x_T_faultOfForm 19 rfl) (by decide) (fun c4 => ?_) (fun c4 => ?_)
        · have h := gx_ifn c4 h
          obtain ⟨v5, e_v5, h⟩ := gx_bd h
          refine gx_iinc hX (v := v5) (ls' := [some (.inr 29), some (.inl v5)]) (gx_dt dt_mi_x_T_faultOfForm 25 rfl) rfl (gx_ii e_v5 (by decide)) (by decide) rfl ?_
          refine gx_goto hX (tgt := 17) (gx_dt dt_mi_x_T_faultOfForm 26 rfl) (by decide) ?_
          exact gx_weak (gx_leS (gx_leS gx_le0)) (ih _ _ h)
        · have h := gx_ifp c4 h
          refine gx_sipush hX (v := (-1000)) (gx_dt dt_mi_x_T_faultOfForm 20 rfl) (by decide) ?_
          refine gx_aload_n hX (gx_dt dt_mi_x_T_faultOfForm 21 rfl) rfl ?_
          refine gx_geti hX fl_T_19 sh_x_29 rfl (gx_dt dt_mi_x_T_faultOfForm 22 rfl) ?_
          refine gx_isub hX (gx_dt dt_mi_x_T_faultOfForm 23 rfl) ?_
          obtain rfl := Option.some.inj h
          exact gx_iret hX (gx_dt dt_mi_x_T_faultOfForm 24 rfl) rfl hres hwr
theorem k_x_T_faultOfForm {w : gx_Wd} {R : Int32 × gx_Wd} (h : x_T_faultOfForm w = some R) : gx_MT mi_x_T_faultOfForm [.inr 29] w (some (.inl R.1)) R.2 := by
  refine gx_met (by decide +kernel) (Nat.le_of_ble_eq_true rfl) (fun X hX hres hwr => ?_)
  show gx_G X mi_x_T_faultOfForm 0 [some (.inr 29)] [] w
  rw [x_T_faultOfForm] at h
  refine gx_aload_n hX (gx_dt dt_mi_x_T_faultOfForm 0 rfl) rfl ?_
  obtain ⟨r1, e_r1, h⟩ := gx_bd h
  refine gx_callVv hX (gx_dt dt_mi_x_T_faultOfForm 1 rfl) ln_T_35_x_T_rewind mo_x_T_rewind mv_x_T_rewind (gx_rmb rfl) sh_x_29 ⟨_, _, rfl⟩ rfl (k_x_T_rewind e_r1) rfl rfl (Nat.le_of_ble_eq_true rfl) ?_
  refine gx_aload_n hX (gx_dt dt_mi_x_T_faultOfForm 2 rfl) rfl ?_
  refine gx_geti hX fl_T_15 sh_x_29 rfl (gx_dt dt_mi_x_T_faultOfForm 3 rfl) ?_
  refine gx_if_ne hX (tgt := 15) (gx_dt dt_mi_x_T_faultOfForm 4 rfl) (by decide) (fun c2 => ?_) (fun c2 => ?_)
  · have h := gx_ifn c2 h
    refine gx_iconst hX (v := 0) (gx_dt dt_mi_x_T_faultOfForm 7 rfl) (by decide) ?_
    refine gx_istore_n hX (ls' := [some (.inr 29), some (.inl (0))]) (gx_dt dt_mi_x_T_faultOfForm 8 rfl) (by decide) rfl ?_
    exact gx_weak (gx_leS (gx_leS gx_le0)) (t_x_T_faultOfForm_17 hX hres hwr _ _ _ h)
  · have h := gx_ifp c2 h
    refine gx_sipush hX (v := (-1000)) (gx_dt dt_mi_x_T_faultOfForm 5 rfl) (by decide) ?_
    obtain rfl := Option.some.inj h
    exact gx_iret hX (gx_dt dt_mi_x_T_faultOfForm 6 rfl) rfl hres hwr
-- EachBearsPillar.copyCells([I[I)V
def x_E_copyCells_11 : Nat → Nat → Nat → Int32 → gx_Wd → Option (gx_Wd)
  | 0, _, _, _, _ => none
  | n + 1, q0, q1, b2, w =>
  (gx_aln sh_x q0).bind fun v1 =>
  if v1 ≤ b2 then
    some w
  else
  (gx_aln sh_x q1).bind fun v3 =>
  if v3 ≤ b2 then
    some w
  else
  (gx_ald sh_x w q0 b2).bind fun v5 =>
  (gx_ast sh_x w q1 b2 v5).bind fun w6 =>
  (some (b2 + 1)).bind fun v7 =>
  (x_E_copyCells_11 n) q0 q1 v7 w6
def x_E_copyCells (o0 : Nat) (o1 : Nat) (w : gx_Wd) : Option (gx_Wd) :=
  x_E_copyCells_11 6000 o0 o1 0 w
theorem t_x_E_copyCells_11 {X : gx_X} (hX : gx_Ok X mi_x_E_copyCells) {R : gx_Wd} (hres : gx_res X = none) (hwr : gx_wr X = R) : ∀ (n : Nat) (q0 : Nat) (q1 : Nat) (b2 : Int32) (w : gx_Wd), x_E_copyCells_11 n q0 q1 b2 w = some R → gx_G X mi_x_E_copyCells 11 [some (.inr q0), some (.inr q1), some (.inl b2)] [] w := by
  intro n
  induction n with
  | zero => intro q0 q1 b2 w h; rw [x_E_copyCells_11] at h; cases h
  | succ n ih =>
    intro q0 q1 b2 w h
    rw [x_E_copyCells_11] at h
    refine gx_iload_n hX (gx_dt dt_mi_x_E_copyCells 7 rfl) rfl ?_
    refine gx_aload_n hX (gx_dt dt_mi_x_E_copyCells 8 rfl) rfl ?_
    obtain ⟨v1, e_v1, h⟩ := gx_bd h
    refine gx_alen hX e_v1 (gx_dt dt_mi_x_E_copyCells 9 rfl) ?_
    refine gx_ic_ge hX (tgt := 35) (gx_dt dt_mi_x_E_copyCells 10 rfl) (by decide) (fun c2 => ?_) (fun c2 => ?_)
    · have h := gx_ifp c2 h
      obtain rfl := Option.some.inj h
      exact gx_vret hX (gx_dt dt_mi_x_E_copyCells 23 rfl) rfl hres hwr
    · have h := gx_ifn c2 h
      refine gx_iload_n hX (gx_dt dt_mi_x_E_copyCells 11 rfl) rfl ?_
      refine gx_aload_n hX (gx_dt dt_mi_x_E_copyCells 12 rfl) rfl ?_
      obtain ⟨v3, e_v3, h⟩ := gx_bd h
      refine gx_alen hX e_v3 (gx_dt dt_mi_x_E_copyCells 13 rfl) ?_
      refine gx_ic_ge hX (tgt := 35) (gx_dt dt_mi_x_E_copyCells 14 rfl) (by decide) (fun c4 => ?_) (fun c4 => ?_)
      · have h := gx_ifp c4 h
        obtain rfl := Option.some.inj h
        exact gx_vret hX (gx_dt dt_mi_x_E_copyCells 23 rfl) rfl hres hwr
      · have h := gx_ifn c4 h
        refine gx_aload_n hX (gx_dt dt_mi_x_E_copyCells 15 rfl) rfl ?_
        refine gx_iload_n hX (gx_dt dt_mi_x_E_copyCells 16 rfl) rfl ?_
        refine gx_aload_n hX (gx_dt dt_mi_x_E_copyCells 17 rfl) rfl ?_
        refine gx_iload_n hX (gx_dt dt_mi_x_E_copyCells 18 rfl) rfl ?_
        obtain ⟨v5, e_v5, h⟩ := gx_bd h
        refine gx_iald hX e_v5 (gx_dt dt_mi_x_E_copyCells 19 rfl) ?_
        obtain ⟨w6, e_w6, h⟩ := gx_bd h
        refine gx_iast hX e_w6 (gx_dt dt_mi_x_E_copyCells 20 rfl) ?_
        obtain ⟨v7, e_v7, h⟩ := gx_bd h
        refine gx_iinc hX (v := v7) (ls' := [some (.inr q0), some (.inr q1), some (.inl v7)]) (gx_dt dt_mi_x_E_copyCells 21 rfl) rfl (gx_ii e_v7 (by decide)) (by decide) rfl ?_
        refine gx_goto hX (tgt := 11) (gx_dt dt_mi_x_E_copyCells 22 rfl) (by decide) ?_
        exact gx_weak (gx_leS (gx_leS (gx_leS gx_le0))) (ih _ _ _ _ h)
theorem k_x_E_copyCells {o0 : Nat} {o1 : Nat} {w : gx_Wd} {R : gx_Wd} (h : x_E_copyCells o0 o1 w = some R) : gx_MT mi_x_E_copyCells [.inr o0, .inr o1] w none R := by
  refine gx_met (by decide +kernel) (Nat.le_of_ble_eq_true rfl) (fun X hX hres hwr => ?_)
  show gx_G X mi_x_E_copyCells 0 [some (.inr o0), some (.inr o1)] [] w
  rw [x_E_copyCells] at h
  refine gx_aload_n hX (gx_dt dt_mi_x_E_copyCells 0 rfl) rfl ?_
  refine gx_ifnull hX (gx_dt dt_mi_x_E_copyCells 1 rfl) ?_
  refine gx_aload_n hX (gx_dt dt_mi_x_E_copyCells 2 rfl) rfl ?_
  refine gx_ifnonnull hX (tgt := 9) (gx_dt dt_mi_x_E_copyCells 3 rfl) (by decide) ?_
  refine gx_iconst hX (v := 0) (gx_dt dt_mi_x_E_copyCells 5 rfl) (by decide) ?_
  refine gx_istore_n hX (ls' := [some (.inr o0), some (.inr o1), some (.inl (0))]) (gx_dt dt_mi_x_E_copyCells 6 rfl) (by decide) rfl ?_
  exact gx_weak (gx_leS (gx_leS (gx_leS gx_le0))) (t_x_E_copyCells_11 hX hres hwr _ _ _ _ _ h)
-- EachBearsPillar$Roof.become(LEachBearsPillar$Roof;)V
def x_R_become_8_1 (w : gx_Wd) : Option (gx_Wd) :=
  (gx_put w 8 0 (w 1 0)).bind fun w1 =>
  (gx_put w1 8 1 (w1 1 1)).bind fun w2 =>
  (gx_put w2 8 2 (w2 1 2)).bind fun w3 =>
  (x_E_copyCells 2 9 w3).bind fun r4 =>
  (x_E_copyCells 3 10 r4).bind fun r5 =>
  (x_E_copyCells 4 11 r5).bind fun r6 =>
  (x_E_copyCells 5 12 r6).bind fun r7 =>
  (x_E_copyCells 6 13 r7).bind fun r8 =>
  (x_E_copyCells 7 14 r8).bind fun r9 =>
  some r9
theorem k_x_R_become_8_1 {w : gx_Wd} {R : gx_Wd} (h : x_R_become_8_1 w = some R) : gx_MT mi_x_R_become_8_1 [.inr 8, .inr 1] w none R := by
  refine gx_met (by decide +kernel) (Nat.le_of_ble_eq_true rfl) (fun X hX hres hwr => ?_)
  show gx_G X mi_x_R_become_8_1 0 [some (.inr 8), some (.inr 1)] [] w
  rw [x_R_become_8_1] at h
  refine gx_aload_n hX (gx_dt dt_mi_x_R_become_8_1 0 rfl) rfl ?_
  refine gx_ifnonnull hX (tgt := 5) (gx_dt dt_mi_x_R_become_8_1 1 rfl) (by decide) ?_
  refine gx_aload_n hX (gx_dt dt_mi_x_R_become_8_1 3 rfl) rfl ?_
  refine gx_aload_n hX (gx_dt dt_mi_x_R_become_8_1 4 rfl) rfl ?_
  refine gx_geti hX fl_R_9 sh_x_1 rfl (gx_dt dt_mi_x_R_become_8_1 5 rfl) ?_
  obtain ⟨w1, e_w1, h⟩ := gx_bd h
  refine gx_putp hX fl_R_9 (pf_R_0 _) sh_x_8 rfl e_w1 (gx_dt dt_mi_x_R_become_8_1 6 rfl) ?_
  refine gx_aload_n hX (gx_dt dt_mi_x_R_become_8_1 7 rfl) rfl ?_
  refine gx_aload_n hX (gx_dt dt_mi_x_R_become_8_1 8 rfl) rfl ?_
  refine gx_geti hX fl_R_15 sh_x_1 rfl (gx_dt dt_mi_x_R_become_8_1 9 rfl) ?_
  obtain ⟨w2, e_w2, h⟩ := gx_bd h
  refine gx_putp hX fl_R_15 (pf_R_1 _) sh_x_8 rfl e_w2 (gx_dt dt_mi_x_R_become_8_1 10 rfl) ?_
  refine gx_aload_n hX (gx_dt dt_mi_x_R_become_8_1 11 rfl) rfl ?_
  refine gx_aload_n hX (gx_dt dt_mi_x_R_become_8_1 12 rfl) rfl ?_
  refine gx_geti hX fl_R_18 sh_x_1 rfl (gx_dt dt_mi_x_R_become_8_1 13 rfl) ?_
  obtain ⟨w3, e_w3, h⟩ := gx_bd h
  refine gx_putp hX fl_R_18 (pf_R_2 _) sh_x_8 rfl e_w3 (gx_dt dt_mi_x_R_become_8_1 14 rfl) ?_
  refine gx_aload_n hX (gx_dt dt_mi_x_R_become_8_1 15 rfl) rfl ?_
  refine gx_getr hX fl_R_21 sh_x_1 rfl (gx_dt dt_mi_x_R_become_8_1 16 rfl) ?_
  refine gx_aload_n hX (gx_dt dt_mi_x_R_become_8_1 17 rfl) rfl ?_
  refine gx_getr hX fl_R_21 sh_x_8 rfl (gx_dt dt_mi_x_R_become_8_1 18 rfl) ?_
  obtain ⟨r4, e_r4, h⟩ := gx_bd h
  refine gx_callSv hX (gx_dt dt_mi_x_R_become_8_1 19 rfl) ln_R_40_x_E_copyCells mo_x_E_copyCells ms_x_E_copyCells (gx_rmb rfl) rfl (k_x_E_copyCells e_r4) rfl rfl (Nat.le_of_ble_eq_true rfl) ?_
  refine gx_aload_n hX (gx_dt dt_mi_x_R_become_8_1 20 rfl) rfl ?_
  refine gx_getr hX fl_R_25 sh_x_1 rfl (gx_dt dt_mi_x_R_become_8_1 21 rfl) ?_
  refine gx_aload_n hX (gx_dt dt_mi_x_R_become_8_1 22 rfl) rfl ?_
  refine gx_getr hX fl_R_25 sh_x_8 rfl (gx_dt dt_mi_x_R_become_8_1 23 rfl) ?_
  obtain ⟨r5, e_r5, h⟩ := gx_bd h
  refine gx_callSv hX (gx_dt dt_mi_x_R_become_8_1 24 rfl) ln_R_40_x_E_copyCells mo_x_E_copyCells ms_x_E_copyCells (gx_rmb rfl) rfl (k_x_E_copyCells e_r5) rfl rfl (Nat.le_of_ble_eq_true rfl) ?_
  refine gx_aload_n hX (gx_dt dt_mi_x_R_become_8_1 25 rfl) rfl ?_
  refine gx_getr hX fl_R_28 sh_x_1 rfl (gx_dt dt_mi_x_R_become_8_1 26 rfl) ?_
  refine gx_aload_n hX (gx_dt dt_mi_x_R_become_8_1 27 rfl) rfl ?_
  refine gx_getr hX fl_R_28 sh_x_8 rfl (gx_dt dt_mi_x_R_become_8_1 28 rfl) ?_
  obtain ⟨r6, e_r6, h⟩ := gx_bd h
  refine gx_callSv hX (gx_dt dt_mi_x_R_become_8_1 29 rfl) ln_R_40_x_E_copyCells mo_x_E_copyCells ms_x_E_copyCells (gx_rmb rfl) rfl (k_x_E_copyCells e_r6) rfl rfl (Nat.le_of_ble_eq_true rfl) ?_
  refine gx_aload_n hX (gx_dt dt_mi_x_R_become_8_1 30 rfl) rfl ?_
  refine gx_getr hX fl_R_31 sh_x_1 rfl (gx_dt dt_mi_x_R_become_8_1 31 rfl) ?_
  refine gx_aload_n hX (gx_dt dt_mi_x_R_become_8_1 32 rfl) rfl ?_
  refine gx_getr hX fl_R_31 sh_x_8 rfl (gx_dt dt_mi_x_R_become_8_1 33 rfl) ?_
  obtain ⟨r7, e_r7, h⟩ := gx_bd h
  refine gx_callSv hX (gx_dt dt_mi_x_R_become_8_1 34 rfl) ln_R_40_x_E_copyCells mo_x_E_copyCells ms_x_E_copyCells (gx_rmb rfl) rfl (k_x_E_copyCells e_r7) rfl rfl (Nat.le_of_ble_eq_true rfl) ?_
  refine gx_aload_n hX (gx_dt dt_mi_x_R_become_8_1 35 rfl) rfl ?_
  refine gx_getr hX fl_R_34 sh_x_1 rfl (gx_dt dt_mi_x_R_become_8_1 36 rfl) ?_
  refine gx_aload_n hX (gx_dt dt_mi_x_R_become_8_1 37 rfl) rfl ?_
  refine gx_getr hX fl_R_34 sh_x_8 rfl (gx_dt dt_mi_x_R_become_8_1 38 rfl) ?_
  obtain ⟨r8, e_r8, h⟩ := gx_bd h
  refine gx_callSv hX (gx_dt dt_mi_x_R_become_8_1 39 rfl) ln_R_40_x_E_copyCells mo_x_E_copyCells ms_x_E_copyCells (gx_rmb rfl) rfl (k_x_E_copyCells e_r8) rfl rfl (Nat.le_of_ble_eq_true rfl) ?_
  refine gx_aload_n hX (gx_dt dt_mi_x_R_become_8_1 40 rfl) rfl ?_
  refine gx_getr hX fl_R_37 sh_x_1 rfl (gx_dt dt_mi_x_R_become_8_1 41 rfl) ?_
  refine gx_aload_n hX (gx_dt dt_mi_x_R_become_8_1 42 rfl) rfl ?_
  refine gx_getr hX fl_R_37 sh_x_8 rfl (gx_dt dt_mi_x_R_become_8_1 43 rfl) ?_
  obtain ⟨r9, e_r9, h⟩ := gx_bd h
  refine gx_callSv hX (gx_dt dt_mi_x_R_become_8_1 44 rfl) ln_R_40_x_E_copyCells mo_x_E_copyCells ms_x_E_copyCells (gx_rmb rfl) rfl (k_x_E_copyCells e_r9) rfl rfl (Nat.le_of_ble_eq_true rfl) ?_
  obtain rfl := Option.some.inj h
  exact gx_vret hX (gx_dt dt_mi_x_R_become_8_1 45 rfl) rfl hres hwr
-- EachBearsPillar$Roof.become(LEachBearsPillar$Roof;)V
def x_R_become_1_8 (w : gx_Wd) : Option (gx_Wd) :=
  (gx_put w 1 0 (w 8 0)).bind fun w1 =>
  (gx_put w1 1 1 (w1 8 1)).bind fun w2 =>
  (gx_put w2 1 2 (w2 8 2)).bind fun w3 =>
  (x_E_copyCells 9 2 w3).bind fun r4 =>
  (x_E_copyCells 10 3 r4).bind fun r5 =>
  (x_E_copyCells 11 4 r5).bind fun r6 =>
  (x_E_copyCells 12 5 r6).bind fun r7 =>
  (x_E_copyCells 13 6 r7).bind fun r8 =>
  (x_E_copyCells 14 7 r8).bind fun r9 =>
  some r9
theorem k_x_R_become_1_8 {w : gx_Wd} {R : gx_Wd} (h : x_R_become_1_8 w = some R) : gx_MT mi_x_R_become_1_8 [.inr 1, .inr 8] w none R := by
  refine gx_met (by decide +kernel) (Nat.le_of_ble_eq_true rfl) (fun X hX hres hwr => ?_)
  show gx_G X mi_x_R_become_1_8 0 [some (.inr 1), some (.inr 8)] [] w
  rw [x_R_become_1_8] at h
  refine gx_aload_n hX (gx_dt dt_mi_x_R_become_1_8 0 rfl) rfl ?_
  refine gx_ifnonnull hX (tgt := 5) (gx_dt dt_mi_x_R_become_1_8 1 rfl) (by decide) ?_
  refine gx_aload_n hX (gx_dt dt_mi_x_R_become_1_8 3 rfl) rfl ?_
  refine gx_aload_n hX (gx_dt dt_mi_x_R_become_1_8 4 rfl) rfl ?_
  refine gx_geti hX fl_R_9 sh_x_8 rfl (gx_dt dt_mi_x_R_become_1_8 5 rfl) ?_
  obtain ⟨w1, e_w1, h⟩ := gx_bd h
  refine gx_putp hX fl_R_9 (pf_R_0 _) sh_x_1 rfl e_w1 (gx_dt dt_mi_x_R_become_1_8 6 rfl) ?_
  refine gx_aload_n hX (gx_dt dt_mi_x_R_become_1_8 7 rfl) rfl ?_
  refine gx_aload_n hX (gx_dt dt_mi_x_R_become_1_8 8 rfl) rfl ?_
  refine gx_geti hX fl_R_15 sh_x_8 rfl (gx_dt dt_mi_x_R_become_1_8 9 rfl) ?_
  obtain ⟨w2, e_w2, h⟩ := gx_bd h
  refine gx_putp hX fl_R_15 (pf_R_1 _) sh_x_1 rfl e_w2 (gx_dt dt_mi_x_R_become_1_8 10 rfl) ?_
  refine gx_aload_n hX (gx_dt dt_mi_x_R_become_1_8 11 rfl) rfl ?_
  refine gx_aload_n hX (gx_dt dt_mi_x_R_become_1_8 12 rfl) rfl ?_
  refine gx_geti hX fl_R_18 sh_x_8 rfl (gx_dt dt_mi_x_R_become_1_8 13 rfl) ?_
  obtain ⟨w3, e_w3, h⟩ := gx_bd h
  refine gx_putp hX fl_R_18 (pf_R_2 _) sh_x_1 rfl e_w3 (gx_dt dt_mi_x_R_become_1_8 14 rfl) ?_
  refine gx_aload_n hX (gx_dt dt_mi_x_R_become_1_8 15 rfl) rfl ?_
  refine gx_getr hX fl_R_21 sh_x_8 rfl (gx_dt dt_mi_x_R_become_1_8 16 rfl) ?_
  refine gx_aload_n hX (gx_dt dt_mi_x_R_become_1_8 17 rfl) rfl ?_
  refine gx_getr hX fl_R_21 sh_x_1 rfl (gx_dt dt_mi_x_R_become_1_8 18 rfl) ?_
  obtain ⟨r4, e_r4, h⟩ := gx_bd h
  refine gx_callSv hX (gx_dt dt_mi_x_R_become_1_8 19 rfl) ln_R_40_x_E_copyCells mo_x_E_copyCells ms_x_E_copyCells (gx_rmb rfl) rfl (k_x_E_copyCells e_r4) rfl rfl (Nat.le_of_ble_eq_true rfl) ?_
  refine gx_aload_n hX (gx_dt dt_mi_x_R_become_1_8 20 rfl) rfl ?_
  refine gx_getr hX fl_R_25 sh_x_8 rfl (gx_dt dt_mi_x_R_become_1_8 21 rfl) ?_
  refine gx_aload_n hX (gx_dt dt_mi_x_R_become_1_8 22 rfl) rfl ?_
  refine gx_getr hX fl_R_25 sh_x_1 rfl (gx_dt dt_mi_x_R_become_1_8 23 rfl) ?_
  obtain ⟨r5, e_r5, h⟩ := gx_bd h
  refine gx_callSv hX (gx_dt dt_mi_x_R_become_1_8 24 rfl) ln_R_40_x_E_copyCells mo_x_E_copyCells ms_x_E_copyCells (gx_rmb rfl) rfl (k_x_E_copyCells e_r5) rfl rfl (Nat.le_of_ble_eq_true rfl) ?_
  refine gx_aload_n hX (gx_dt dt_mi_x_R_become_1_8 25 rfl) rfl ?_
  refine gx_getr hX fl_R_28 sh_x_8 rfl (gx_dt dt_mi_x_R_become_1_8 26 rfl) ?_
  refine gx_aload_n hX (gx_dt dt_mi_x_R_become_1_8 27 rfl) rfl ?_
  refine gx_getr hX fl_R_28 sh_x_1 rfl (gx_dt dt_mi_x_R_become_1_8 28 rfl) ?_
  obtain ⟨r6, e_r6, h⟩ := gx_bd h
  refine gx_callSv hX (gx_dt dt_mi_x_R_become_1_8 29 rfl) ln_R_40_x_E_copyCells mo_x_E_copyCells ms_x_E_copyCells (gx_rmb rfl) rfl (k_x_E_copyCells e_r6) rfl rfl (Nat.le_of_ble_eq_true rfl) ?_
  refine gx_aload_n hX (gx_dt dt_mi_x_R_become_1_8 30 rfl) rfl ?_
  refine gx_getr hX fl_R_31 sh_x_8 rfl (gx_dt dt_mi_x_R_become_1_8 31 rfl) ?_
  refine gx_aload_n hX (gx_dt dt_mi_x_R_become_1_8 32 rfl) rfl ?_
  refine gx_getr hX fl_R_31 sh_x_1 rfl (gx_dt dt_mi_x_R_become_1_8 33 rfl) ?_
  obtain ⟨r7, e_r7, h⟩ := gx_bd h
  refine gx_callSv hX (gx_dt dt_mi_x_R_become_1_8 34 rfl) ln_R_40_x_E_copyCells mo_x_E_copyCells ms_x_E_copyCells (gx_rmb rfl) rfl (k_x_E_copyCells e_r7) rfl rfl (Nat.le_of_ble_eq_true rfl) ?_
  refine gx_aload_n hX (gx_dt dt_mi_x_R_become_1_8 35 rfl) rfl ?_
  refine gx_getr hX fl_R_34 sh_x_8 rfl (gx_dt dt_mi_x_R_become_1_8 36 rfl) ?_
  refine gx_aload_n hX (gx_dt dt_mi_x_R_become_1_8 37 rfl) rfl ?_
  refine gx_getr hX fl_R_34 sh_x_1 rfl (gx_dt dt_mi_x_R_become_1_8 38 rfl) ?_
  obtain ⟨r8, e_r8, h⟩ := gx_bd h
  refine gx_callSv hX (gx_dt dt_mi_x_R_become_1_8 39 rfl) ln_R_40_x_E_copyCells mo_x_E_copyCells ms_x_E_copyCells (gx_rmb rfl) rfl (k_x_E_copyCells e_r8) rfl rfl (Nat.le_of_ble_eq_true rfl) ?_
  refine gx_aload_n hX (gx_dt dt_mi_x_R_become_1_8 40 rfl) rfl ?_
  refine gx_getr hX fl_R_37 sh_x_8 rfl (gx_dt dt_mi_x_R_become_1_8 41 rfl) ?_
  refine gx_aload_n hX (gx_dt dt_mi_x_R_become_1_8 42 rfl) rfl ?_
  refine gx_getr hX fl_R_37 sh_x_1 rfl (gx_dt dt_mi_x_R_become_1_8 43 rfl) ?_
  obtain ⟨r9, e_r9, h⟩ := gx_bd h
  refine gx_callSv hX (gx_dt dt_mi_x_R_become_1_8 44 rfl) ln_R_40_x_E_copyCells mo_x_E_copyCells ms_x_E_copyCells (gx_rmb rfl) rfl (k_x_E_copyCells e_r9) rfl rfl (Nat.le_of_ble_eq_true rfl) ?_
  obtain rfl := Option.some.inj h
  exact gx_vret hX (gx_dt dt_mi_x_R_become_1_8 45 rfl) rfl hres hwr
end
section
-- EachBearsPillar$Roof.addBearer(III)Z
def x_R_addBearer_8 (a1 : Int32) (a2 : Int32) (a3 : Int32) (w : gx_Wd) : Option (Int32 × gx_Wd) :=
  if a2 < 1 then
    some (0, w)
  else
  if 7 ≤ w 8 0 then
    some (0, w)
  else
  if (w 8 1) + (w 8 0) < 16 then
    (x_E_setCell 9 (w 8 0) a1 w).bind fun r4 =>
    (x_E_setCell 10 (r4.2 8 0) a2 r4.2).bind fun r5 =>
    (x_E_setCell 11 (r5.2 8 0) a3 r5.2).bind fun r6 =>
    (x_E_setCell 12 (r6.2 8 0) 0 r6.2).bind fun r7 =>
    (gx_put r7.2 8 0 ((r7.2 8 0) + 1)).bind fun w8 =>
    some (1, w8)
  else
  some (0, w)
theorem k_x_R_addBearer_8 {a1 : Int32} {a2 : Int32} {a3 : Int32} {w : gx_Wd} {R : Int32 × gx_Wd} (h : x_R_addBearer_8 a1 a2 a3 w = some R) : gx_MT mi_x_R_addBearer_8 [.inr 8, .inl a1, .inl a2, .inl a3] w (some (.inl R.1)) R.2 := by
  refine gx_met (by decide +kernel) (Nat.le_of_ble_eq_true rfl) (fun X hX hres hwr => ?_)
  show gx_G X mi_x_R_addBearer_8 0 [some (.inr 8), some (.inl a1), some (.inl a2), some (.inl a3)] [] w
  rw [x_R_addBearer_8] at h
  refine gx_iload_n hX (gx_dt dt_mi_x_R_addBearer_8 0 rfl) rfl ?_
  refine gx_iconst hX (v := 1) (gx_dt dt_mi_x_R_addBearer_8 1 rfl) (by decide) ?_
  refine gx_ic_lt hX (tgt := 28) (gx_dt dt_mi_x_R_addBearer_8 2 rfl) (by decide) (fun c1 => ?_) (fun c1 => ?_)
  · have h := gx_ifp c1 h
    refine gx_iconst hX (v := 0) (gx_dt dt_mi_x_R_addBearer_8 14 rfl) (by decide) ?_
    obtain rfl := Option.some.inj h
    exact gx_zret hX (gx_dt dt_mi_x_R_addBearer_8 15 rfl) rfl rfl hres hwr
  · have h := gx_ifn c1 h
    refine gx_aload_n hX (gx_dt dt_mi_x_R_addBearer_8 3 rfl) rfl ?_
    refine gx_geti hX fl_R_9 sh_x_8 rfl (gx_dt dt_mi_x_R_addBearer_8 4 rfl) ?_
    refine gx_bipush hX (v := 7) (gx_dt dt_mi_x_R_addBearer_8 5 rfl) (by decide) ?_
    refine gx_ic_ge hX (tgt := 28) (gx_dt dt_mi_x_R_addBearer_8 6 rfl) (by decide) (fun c2 => ?_) (fun c2 => ?_)
    · have h := gx_ifp c2 h
      refine gx_iconst hX (v := 0) (gx_dt dt_mi_x_R_addBearer_8 14 rfl) (by decide) ?_
      obtain rfl := Option.some.inj h
      exact gx_zret hX (gx_dt dt_mi_x_R_addBearer_8 15 rfl) rfl rfl hres hwr
    · have h := gx_ifn c2 h
      refine gx_aload_n hX (gx_dt dt_mi_x_R_addBearer_8 7 rfl) rfl ?_
      refine gx_geti hX fl_R_15 sh_x_8 rfl (gx_dt dt_mi_x_R_addBearer_8 8 rfl) ?_
      refine gx_aload_n hX (gx_dt dt_mi_x_R_addBearer_8 9 rfl) rfl ?_
      refine gx_geti hX fl_R_9 sh_x_8 rfl (gx_dt dt_mi_x_R_addBearer_8 10 rfl) ?_
      refine gx_iadd hX (gx_dt dt_mi_x_R_addBearer_8 11 rfl) ?_
      refine gx_bipush hX (v := 16) (gx_dt dt_mi_x_R_addBearer_8 12 rfl) (by decide) ?_
      refine gx_ic_lt hX (tgt := 30) (gx_dt dt_mi_x_R_addBearer_8 13 rfl) (by decide) (fun c3 => ?_) (fun c3 => ?_)
      · have h := gx_ifp c3 h
        refine gx_aload_n hX (gx_dt dt_mi_x_R_addBearer_8 16 rfl) rfl ?_
        refine gx_getr hX fl_R_21 sh_x_8 rfl (gx_dt dt_mi_x_R_addBearer_8 17 rfl) ?_
        refine gx_aload_n hX (gx_dt dt_mi_x_R_addBearer_8 18 rfl) rfl ?_
        refine gx_geti hX fl_R_9 sh_x_8 rfl (gx_dt dt_mi_x_R_addBearer_8 19 rfl) ?_
        refine gx_iload_n hX (gx_dt dt_mi_x_R_addBearer_8 20 rfl) rfl ?_
        obtain ⟨r4, e_r4, h⟩ := gx_bd h
        refine gx_callSi hX (gx_dt dt_mi_x_R_addBearer_8 21 rfl) ln_R_44_x_E_setCell mo_x_E_setCell ms_x_E_setCell (gx_rmb rfl) rfl (k_x_E_setCell e_r4) rfl rfl (Nat.le_of_ble_eq_true rfl) ?_
        refine gx_pop hX (gx_dt dt_mi_x_R_addBearer_8 22 rfl) ?_
        refine gx_aload_n hX (gx_dt dt_mi_x_R_addBearer_8 23 rfl) rfl ?_
        refine gx_getr hX fl_R_25 sh_x_8 rfl (gx_dt dt_mi_x_R_addBearer_8 24 rfl) ?_
        refine gx_aload_n hX (gx_dt dt_mi_x_R_addBearer_8 25 rfl) rfl ?_
        refine gx_geti hX fl_R_9 sh_x_8 rfl (gx_dt dt_mi_x_R_addBearer_8 26 rfl) ?_
        refine gx_iload_n hX (gx_dt dt_mi_x_R_addBearer_8 27 rfl) rfl ?_
        obtain ⟨r5, e_r5, h⟩ := gx_bd h
        refine gx_callSi hX (gx_dt dt_mi_x_R_addBearer_8 28 rfl) ln_R_44_x_E_setCell mo_x_E_setCell ms_x_E_setCell (gx_rmb rfl) rfl (k_x_E_setCell e_r5) rfl rfl (Nat.le_of_ble_eq_true rfl) ?_
        refine gx_pop hX (gx_dt dt_mi_x_R_addBearer_8 29 rfl) ?_
        refine gx_aload_n hX (gx_dt dt_mi_x_R_addBearer_8 30 rfl) rfl ?_
        refine gx_getr hX fl_R_28 sh_x_8 rfl (gx_dt dt_mi_x_R_addBearer_8 31 rfl) ?_
        refine gx_aload_n hX (gx_dt dt_mi_x_R_addBearer_8 32 rfl) rfl ?_
        refine gx_geti hX fl_R_9 sh_x_8 rfl (gx_dt dt_mi_x_R_addBearer_8 33 rfl) ?_
        refine gx_iload_n hX (gx_dt dt_mi_x_R_addBearer_8 34 rfl) rfl ?_
        obtain ⟨r6, e_r6, h⟩ := gx_bd h
        refine gx_callSi hX (gx_dt dt_mi_x_R_addBearer_8 35 rfl) ln_R_44_x_E_setCell mo_x_E_setCell ms_x_E_setCell (gx_rmb rfl) rfl (k_x_E_setCell e_r6) rfl rfl (Nat.le_of_ble_eq_true rfl) ?_
        refine gx_pop hX (gx_dt dt_mi_x_R_addBearer_8 36 rfl) ?_
        refine gx_aload_n hX (gx_dt dt_mi_x_R_addBearer_8 37 rfl) rfl ?_
        refine gx_getr hX fl_R_31 sh_x_8 rfl (gx_dt dt_mi_x_R_addBearer_8 38 rfl) ?_
        refine gx_aload_n hX (gx_dt dt_mi_x_R_addBearer_8 39 rfl) rfl ?_
        refine gx_geti hX fl_R_9 sh_x_8 rfl (gx_dt dt_mi_x_R_addBearer_8 40 rfl) ?_
        refine gx_iconst hX (v := 0) (gx_dt dt_mi_x_R_addBearer_8 41 rfl) (by decide) ?_
        obtain ⟨r7, e_r7, h⟩ := gx_bd h
        refine gx_callSi hX (gx_dt dt_mi_x_R_addBearer_8 42 rfl) ln_R_44_x_E_setCell mo_x_E_setCell ms_x_E_setCell (gx_rmb rfl) rfl (k_x_E_setCell e_r7) rfl rfl (Nat.le_of_ble_eq_true rfl) ?_
        refine gx_pop hX (gx_dt dt_mi_x_R_addBearer_8 43 rfl) ?_
        refine gx_aload_n hX (gx_dt dt_mi_x_R_addBearer_8 44 rfl) rfl ?_
        refine gx_dup hX (gx_dt dt_mi_x_R_addBearer_8 45 rfl) ?_
        refine gx_geti hX fl_R_9 sh_x_8 rfl (gx_dt dt_mi_x_R_addBearer_8 46 rfl) ?_
        refine gx_iconst hX (v := 1) (gx_dt dt_mi_x_R_addBearer_8 47 rfl) (by decide) ?_
        refine gx_iadd hX (gx_dt dt_mi_x_R_addBearer_8 48 rfl) ?_
        obtain ⟨w8, e_w8, h⟩ := gx_bd h
        refine gx_putp hX fl_R_9 (pf_R_0 _) sh_x_8 rfl e_w8 (gx_dt dt_mi_x_R_addBearer_8 49 rfl) ?_
        refine gx_iconst hX (v := 1) (gx_dt dt_mi_x_R_addBearer_8 50 rfl) (by decide) ?_
        obtain rfl := Option.some.inj h
        exact gx_zret hX (gx_dt dt_mi_x_R_addBearer_8 51 rfl) rfl rfl hres hwr
      · have h := gx_ifn c3 h
        refine gx_iconst hX (v := 0) (gx_dt dt_mi_x_R_addBearer_8 14 rfl) (by decide) ?_
        obtain rfl := Option.some.inj h
        exact gx_zret hX (gx_dt dt_mi_x_R_addBearer_8 15 rfl) rfl rfl hres hwr
-- EachBearsPillar$Roof.hasBearer(I)Z
def x_R_hasBearer_8 (a1 : Int32) (w : gx_Wd) : Option (Int32 × gx_Wd) :=
  if a1 < 0 then
    some (0, w)
  else
  if w 8 0 ≤ a1 then
    some (0, w)
  else
  some (1, w)
theorem k_x_R_hasBearer_8 {a1 : Int32} {w : gx_Wd} {R : Int32 × gx_Wd} (h : x_R_hasBearer_8 a1 w = some R) : gx_MT mi_x_R_hasBearer_8 [.inr 8, .inl a1] w (some (.inl R.1)) R.2 := by
  refine gx_met (by decide +kernel) (Nat.le_of_ble_eq_true rfl) (fun X hX hres hwr => ?_)
  show gx_G X mi_x_R_hasBearer_8 0 [some (.inr 8), some (.inl a1)] [] w
  rw [x_R_hasBearer_8] at h
  refine gx_iload_n hX (gx_dt dt_mi_x_R_hasBearer_8 0 rfl) rfl ?_
  refine gx_if_lt hX (tgt := 16) (gx_dt dt_mi_x_R_hasBearer_8 1 rfl) (by decide) (fun c1 => ?_) (fun c1 => ?_)
  · have h := gx_ifp c1 h
    refine gx_iconst hX (v := 0) (gx_dt dt_mi_x_R_hasBearer_8 8 rfl) (by decide) ?_
    obtain rfl := Option.some.inj h
    exact gx_zret hX (gx_dt dt_mi_x_R_hasBearer_8 9 rfl) rfl rfl hres hwr
  · have h := gx_ifn c1 h
    refine gx_iload_n hX (gx_dt dt_mi_x_R_hasBearer_8 2 rfl) rfl ?_
    refine gx_aload_n hX (gx_dt dt_mi_x_R_hasBearer_8 3 rfl) rfl ?_
    refine gx_geti hX fl_R_9 sh_x_8 rfl (gx_dt dt_mi_x_R_hasBearer_8 4 rfl) ?_
    refine gx_ic_ge hX (tgt := 16) (gx_dt dt_mi_x_R_hasBearer_8 5 rfl) (by decide) (fun c2 => ?_) (fun c2 => ?_)
    · have h := gx_ifp c2 h
      refine gx_iconst hX (v := 0) (gx_dt dt_mi_x_R_hasBearer_8 8 rfl) (by decide) ?_
      obtain rfl := Option.some.inj h
      exact gx_zret hX (gx_dt dt_mi_x_R_hasBearer_8 9 rfl) rfl rfl hres hwr
    · have h := gx_ifn c2 h
      refine gx_iconst hX (v := 1) (gx_dt dt_mi_x_R_hasBearer_8 6 rfl) (by decide) ?_
      refine gx_goto hX (tgt := 17) (gx_dt dt_mi_x_R_hasBearer_8 7 rfl) (by decide) ?_
      obtain rfl := Option.some.inj h
      exact gx_zret hX (gx_dt dt_mi_x_R_hasBearer_8 9 rfl) rfl rfl hres hwr
-- EachBearsPillar.isSpan(I)Z
def x_E_isSpan (a0 : Int32) (w : gx_Wd) : Option (Int32 × gx_Wd) :=
  if a0 < 0 then
    some (0, w)
  else
  if 6 ≤ a0 then
    some (0, w)
  else
  some (1, w)
theorem k_x_E_isSpan {a0 : Int32} {w : gx_Wd} {R : Int32 × gx_Wd} (h : x_E_isSpan a0 w = some R) : gx_MT mi_x_E_isSpan [.inl a0] w (some (.inl R.1)) R.2 := by
  refine gx_met (by decide +kernel) (Nat.le_of_ble_eq_true rfl) (fun X hX hres hwr => ?_)
  show gx_G X mi_x_E_isSpan 0 [some (.inl a0)] [] w
  rw [x_E_isSpan] at h
  refine gx_iload_n hX (gx_dt dt_mi_x_E_isSpan 0 rfl) rfl ?_
  refine gx_if_lt hX (tgt := 14) (gx_dt dt_mi_x_E_isSpan 1 rfl) (by decide) (fun c1 => ?_) (fun c1 => ?_)
  · have h := gx_ifp c1 h
    refine gx_iconst hX (v := 0) (gx_dt dt_mi_x_E_isSpan 7 rfl) (by decide) ?_
    obtain rfl := Option.some.inj h
    exact gx_zret hX (gx_dt dt_mi_x_E_isSpan 8 rfl) rfl rfl hres hwr
  · have h := gx_ifn c1 h
    refine gx_iload_n hX (gx_dt dt_mi_x_E_isSpan 2 rfl) rfl ?_
    refine gx_bipush hX (v := 6) (gx_dt dt_mi_x_E_isSpan 3 rfl) (by decide) ?_
    refine gx_ic_ge hX (tgt := 14) (gx_dt dt_mi_x_E_isSpan 4 rfl) (by decide) (fun c2 => ?_) (fun c2 => ?_)
    · have h := gx_ifp c2 h
      refine gx_iconst hX (v := 0) (gx_dt dt_mi_x_E_isSpan 7 rfl) (by decide) ?_
      obtain rfl := Option.some.inj h
      exact gx_zret hX (gx_dt dt_mi_x_E_isSpan 8 rfl) rfl rfl hres hwr
    · have h := gx_ifn c2 h
      refine gx_iconst hX (v := 1) (gx_dt dt_mi_x_E_isSpan 5 rfl) (by decide) ?_
      refine gx_goto hX (tgt := 15) (gx_dt dt_mi_x_E_isSpan 6 rfl) (by decide) ?_
      obtain rfl := Option.some.inj h
      exact gx_zret hX (gx_dt dt_mi_x_E_isSpan 8 rfl) rfl rfl hres hwr
-- EachBearsPillar.enterStatement()Z
def x_E_enterStatement_177 (b1 : Int32) (s0 : Int32) (w : gx_Wd) : Option (Int32 × gx_Wd) :=
  (gx_put w 8 2 s0).bind fun w1 =>
  if 28 ≤ b1 then
    some (0, w1)
  else
  some (1, w1)
def x_E_enterStatement (w : gx_Wd) : Option (Int32 × gx_Wd) :=
  (x_E_cell 31 0 w).bind fun r1 =>
  (x_E_cell 31 1 r1.2).bind fun r2 =>
  if r2.2 29 3 = 98 then
    (x_E_cell 31 2 r2.2).bind fun r4 =>
    (x_R_addBearer_8 r1.1 r2.1 r4.1 r4.2).bind fun r5 =>
    if r5.1 = 0 ∨ r5.1 = 1 then some (r5.1, r5.2) else none
  else
  if r2.2 29 3 = 103 then
    if 16 ≤ r1.1 then
      some (0, r2.2)
    else
    (x_E_setCell 14 r1.1 r2.1 r2.2).bind fun r8 =>
    if r8.1 = 0 then
      some (0, r8.2)
    else
    some (1, r8.2)
  else
  if r2.2 29 3 = 107 then
    (x_R_hasBearer_8 r1.1 r2.2).bind fun r11 =>
    if r11.1 = 0 then
      some (0, r11.2)
    else
    (x_E_setCell 12 r1.1 r2.1 r11.2).bind fun r13 =>
    if r13.1 = 0 then
      some (0, r13.2)
    else
    some (1, r13.2)
  else
  if r2.2 29 3 = 108 then
    if 28 ≤ r1.1 then
      x_E_enterStatement_177 r1.1 (r2.2 8 2) r2.2
    else
    x_E_enterStatement_177 r1.1 r1.1 r2.2
  else
  if r2.2 29 3 = 115 then
    (x_E_isSpan r1.1 r2.2).bind fun r18 =>
    if r18.1 = 0 then
      some (0, r18.2)
    else
    (x_E_setCell 13 r1.1 r2.1 r18.2).bind fun r20 =>
    if r20.1 = 0 then
      some (0, r20.2)
    else
    some (1, r20.2)
  else
  some (0, r2.2)
theorem t_x_E_enterStatement_177 {X : gx_X} (hX : gx_Ok X mi_x_E_enterStatement) {R : Int32 × gx_Wd} (hres : gx_res X = some (.inl R.1)) (hwr : gx_wr X = R.2) (b1 : Int32) (s0 : Int32) (w : gx_Wd) (h : x_E_enterStatement_177 b1 s0 w = some R) : gx_G X mi_x_E_enterStatement 177 [none, some (.inl b1)] [.inl s0, .inr 8] w := by
  rw [x_E_enterStatement_177] at h
  obtain ⟨w1, e_w1, h⟩ := gx_bd h
  refine gx_putp hX fl_E_100 (pf_R_2 _) sh_x_8 rfl e_w1 (gx_dt dt_mi_x_E_enterStatement 65 rfl) ?_
  refine gx_iload_n hX (gx_dt dt_mi_x_E_enterStatement 66 rfl) rfl ?_
  refine gx_bipush hX (v := 28) (gx_dt dt_mi_x_E_enterStatement 67 rfl) (by decide) ?_
  refine gx_ic_ge hX (tgt := 190) (gx_dt dt_mi_x_E_enterStatement 68 rfl) (by decide) (fun c2 => ?_) (fun c2 => ?_)
  · have h := gx_ifp c2 h
    refine gx_iconst hX (v := 0) (gx_dt dt_mi_x_E_enterStatement 71 rfl) (by decide) ?_
    obtain rfl := Option.some.inj h
    exact gx_zret hX (gx_dt dt_mi_x_E_enterStatement 72 rfl) rfl rfl hres hwr
  · have h := gx_ifn c2 h
    refine gx_iconst hX (v := 1) (gx_dt dt_mi_x_E_enterStatement 69 rfl) (by decide) ?_
    refine gx_goto hX (tgt := 191) (gx_dt dt_mi_x_E_enterStatement 70 rfl) (by decide) ?_
    obtain rfl := Option.some.inj h
    exact gx_zret hX (gx_dt dt_mi_x_E_enterStatement 72 rfl) rfl rfl hres hwr
theorem k_x_E_enterStatement {w : gx_Wd} {R : Int32 × gx_Wd} (h : x_E_enterStatement w = some R) : gx_MT mi_x_E_enterStatement [.inr 0] w (some (.inl R.1)) R.2 := by
  refine gx_met (by decide +kernel) (Nat.le_of_ble_eq_true rfl) (fun X hX hres hwr => ?_)
  show gx_G X mi_x_E_enterStatement 0 [some (.inr 0)] [] w
  rw [x_E_enterStatement] at h
  refine gx_aload_n hX (gx_dt dt_mi_x_E_enterStatement 0 rfl) rfl ?_
  refine gx_getr hX fl_E_38 sh_x_0 rfl (gx_dt dt_mi_x_E_enterStatement 1 rfl) ?_
  refine gx_getr hX fl_E_238 sh_x_29 rfl (gx_dt dt_mi_x_E_enterStatement 2 rfl) ?_
  refine gx_iconst hX (v := 0) (gx_dt dt_mi_x_E_enterStatement 3 rfl) (by decide) ?_
  obtain ⟨r1, e_r1, h⟩ := gx_bd h
  refine gx_callSi hX (gx_dt dt_mi_x_E_enterStatement 4 rfl) ln_E_125_x_E_cell mo_x_E_cell ms_x_E_cell (gx_rmb rfl) rfl (k_x_E_cell e_r1) rfl rfl (Nat.le_of_ble_eq_true rfl) ?_
  refine gx_istore_n hX (ls' := [some (.inr 0), some (.inl (r1.1))]) (gx_dt dt_mi_x_E_enterStatement 5 rfl) (by decide) rfl ?_
  refine gx_aload_n hX (gx_dt dt_mi_x_E_enterStatement 6 rfl) rfl ?_
  refine gx_getr hX fl_E_38 sh_x_0 rfl (gx_dt dt_mi_x_E_enterStatement 7 rfl) ?_
  refine gx_getr hX fl_E_238 sh_x_29 rfl (gx_dt dt_mi_x_E_enterStatement 8 rfl) ?_
  refine gx_iconst hX (v := 1) (gx_dt dt_mi_x_E_enterStatement 9 rfl) (by decide) ?_
  obtain ⟨r2, e_r2, h⟩ := gx_bd h
  refine gx_callSi hX (gx_dt dt_mi_x_E_enterStatement 10 rfl) ln_E_125_x_E_cell mo_x_E_cell ms_x_E_cell (gx_rmb rfl) rfl (k_x_E_cell e_r2) rfl rfl (Nat.le_of_ble_eq_true rfl) ?_
  refine gx_istore_n hX (ls' := [some (.inr 0), some (.inl (r1.1)), some (.inl (r2.1))]) (gx_dt dt_mi_x_E_enterStatement 11 rfl) (by decide) rfl ?_
  refine gx_aload_n hX (gx_dt dt_mi_x_E_enterStatement 12 rfl) rfl ?_
  refine gx_getr hX fl_E_38 sh_x_0 rfl (gx_dt dt_mi_x_E_enterStatement 13 rfl) ?_
  refine gx_geti hX fl_E_241 sh_x_29 rfl (gx_dt dt_mi_x_E_enterStatement 14 rfl) ?_
  by_cases c3 : r2.2 29 3 = 98
  · have h := gx_ifp c3 h
    refine gx_lookup hX (off := 49) (tgt := 80) (gx_dt dt_mi_x_E_enterStatement 15 rfl) (by decide) (by rw [c3]; rfl) (by decide) ?_
    refine gx_aload_n hX (gx_dt dt_mi_x_E_enterStatement 16 rfl) rfl ?_
    refine gx_getr hX fl_E_16 sh_x_0 rfl (gx_dt dt_mi_x_E_enterStatement 17 rfl) ?_
    refine gx_iload_n hX (gx_dt dt_mi_x_E_enterStatement 18 rfl) rfl ?_
    refine gx_iload_n hX (gx_dt dt_mi_x_E_enterStatement 19 rfl) rfl ?_
    refine gx_aload_n hX (gx_dt dt_mi_x_E_enterStatement 20 rfl) rfl ?_
    refine gx_getr hX fl_E_38 sh_x_0 rfl (gx_dt dt_mi_x_E_enterStatement 21 rfl) ?_
    refine gx_getr hX fl_E_238 sh_x_29 rfl (gx_dt dt_mi_x_E_enterStatement 22 rfl) ?_
    refine gx_iconst hX (v := 2) (gx_dt dt_mi_x_E_enterStatement 23 rfl) (by decide) ?_
    obtain ⟨r4, e_r4, h⟩ := gx_bd h
    refine gx_callSi hX (gx_dt dt_mi_x_E_enterStatement 24 rfl) ln_E_125_x_E_cell mo_x_E_cell ms_x_E_cell (gx_rmb rfl) rfl (k_x_E_cell e_r4) rfl rfl (Nat.le_of_ble_eq_true rfl) ?_
    obtain ⟨r5, e_r5, h⟩ := gx_bd h
    refine gx_callVi hX (gx_dt dt_mi_x_E_enterStatement 25 rfl) ln_E_244_x_R_addBearer_8 mo_x_R_addBearer_8 mv_x_R_addBearer_8 (gx_rmb rfl) sh_x_8 ⟨_, _, rfl⟩ rfl (k_x_R_addBearer_8 e_r5) rfl rfl (Nat.le_of_ble_eq_true rfl) ?_
    obtain ⟨c, h⟩ := gx_01 h
    obtain rfl := Option.some.inj h
    exact gx_zret hX (gx_dt dt_mi_x_E_enterStatement 26 rfl) rfl (gx_nar c) hres hwr
  have h := gx_ifn c3 h
  by_cases c6 : r2.2 29 3 = 103
  · have h := gx_ifp c6 h
    refine gx_lookup hX (off := 98) (tgt := 129) (gx_dt dt_mi_x_E_enterStatement 15 rfl) (by decide) (by rw [c6]; rfl) (by decide) ?_
    refine gx_iload_n hX (gx_dt dt_mi_x_E_enterStatement 41 rfl) rfl ?_
    refine gx_bipush hX (v := 16) (gx_dt dt_mi_x_E_enterStatement 42 rfl) (by decide) ?_
    refine gx_ic_ge hX (tgt := 154) (gx_dt dt_mi_x_E_enterStatement 43 rfl) (by decide) (fun c7 => ?_) (fun c7 => ?_)
    · have h := gx_ifp c7 h
      refine gx_iconst hX (v := 0) (gx_dt dt_mi_x_E_enterStatement 53 rfl) (by decide) ?_
      obtain rfl := Option.some.inj h
      exact gx_zret hX (gx_dt dt_mi_x_E_enterStatement 54 rfl) rfl rfl hres hwr
    · have h := gx_ifn c7 h
      refine gx_aload_n hX (gx_dt dt_mi_x_E_enterStatement 44 rfl) rfl ?_
      refine gx_getr hX fl_E_16 sh_x_0 rfl (gx_dt dt_mi_x_E_enterStatement 45 rfl) ?_
      refine gx_getr hX fl_E_97 sh_x_8 rfl (gx_dt dt_mi_x_E_enterStatement 46 rfl) ?_
      refine gx_iload_n hX (gx_dt dt_mi_x_E_enterStatement 47 rfl) rfl ?_
      refine gx_iload_n hX (gx_dt dt_mi_x_E_enterStatement 48 rfl) rfl ?_
      obtain ⟨r8, e_r8, h⟩ := gx_bd h
      refine gx_callSi hX (gx_dt dt_mi_x_E_enterStatement 49 rfl) ln_E_174_x_E_setCell mo_x_E_setCell ms_x_E_setCell (gx_rmb rfl) rfl (k_x_E_setCell e_r8) rfl rfl (Nat.le_of_ble_eq_true rfl) ?_
      refine gx_if_eq hX (tgt := 154) (gx_dt dt_mi_x_E_enterStatement 50 rfl) (by decide) (fun c9 => ?_) (fun c9 => ?_)
      · have h := gx_ifp c9 h
        refine gx_iconst hX (v := 0) (gx_dt dt_mi_x_E_enterStatement 53 rfl) (by decide) ?_
        obtain rfl := Option.some.inj h
        exact gx_zret hX (gx_dt dt_mi_x_E_enterStatement 54 rfl) rfl rfl hres hwr
      · have h := gx_ifn c9 h
        refine gx_iconst hX (v := 1) (gx_dt dt_mi_x_E_enterStatement 51 rfl) (by decide) ?_
        refine gx_goto hX (tgt := 155) (gx_dt dt_mi_x_E_enterStatement 52 rfl) (by decide) ?_
        obtain rfl := Option.some.inj h
        exact gx_zret hX (gx_dt dt_mi_x_E_enterStatement 54 rfl) rfl rfl hres hwr
  have h := gx_ifn c6 h
  by_cases c10 : r2.2 29 3 = 107
  · have h := gx_ifp c10 h
    refine gx_lookup hX (off := 161) (tgt := 192) (gx_dt dt_mi_x_E_enterStatement 15 rfl) (by decide) (by rw [c10]; rfl) (by decide) ?_
    refine gx_aload_n hX (gx_dt dt_mi_x_E_enterStatement 73 rfl) rfl ?_
    refine gx_getr hX fl_E_16 sh_x_0 rfl (gx_dt dt_mi_x_E_enterStatement 74 rfl) ?_
    refine gx_iload_n hX (gx_dt dt_mi_x_E_enterStatement 75 rfl) rfl ?_
    obtain ⟨r11, e_r11, h⟩ := gx_bd h
    refine gx_callVi hX (gx_dt dt_mi_x_E_enterStatement 76 rfl) ln_E_103_x_R_hasBearer_8 mo_x_R_hasBearer_8 mv_x_R_hasBearer_8 (gx_rmb rfl) sh_x_8 ⟨_, _, rfl⟩ rfl (k_x_R_hasBearer_8 e_r11) rfl rfl (Nat.le_of_ble_eq_true rfl) ?_
    refine gx_if_eq hX (tgt := 222) (gx_dt dt_mi_x_E_enterStatement 77 rfl) (by decide) (fun c12 => ?_) (fun c12 => ?_)
    · have h := gx_ifp c12 h
      refine gx_iconst hX (v := 0) (gx_dt dt_mi_x_E_enterStatement 87 rfl) (by decide) ?_
      obtain rfl := Option.some.inj h
      exact gx_zret hX (gx_dt dt_mi_x_E_enterStatement 88 rfl) rfl rfl hres hwr
    · have h := gx_ifn c12 h
      refine gx_aload_n hX (gx_dt dt_mi_x_E_enterStatement 78 rfl) rfl ?_
      refine gx_getr hX fl_E_16 sh_x_0 rfl (gx_dt dt_mi_x_E_enterStatement 79 rfl) ?_
      refine gx_getr hX fl_E_106 sh_x_8 rfl (gx_dt dt_mi_x_E_enterStatement 80 rfl) ?_
      refine gx_iload_n hX (gx_dt dt_mi_x_E_enterStatement 81 rfl) rfl ?_
      refine gx_iload_n hX (gx_dt dt_mi_x_E_enterStatement 82 rfl) rfl ?_
      obtain ⟨r13, e_r13, h⟩ := gx_bd h
      refine gx_callSi hX (gx_dt dt_mi_x_E_enterStatement 83 rfl) ln_E_174_x_E_setCell mo_x_E_setCell ms_x_E_setCell (gx_rmb rfl) rfl (k_x_E_setCell e_r13) rfl rfl (Nat.le_of_ble_eq_true rfl) ?_
      refine gx_if_eq hX (tgt := 222) (gx_dt dt_mi_x_E_enterStatement 84 rfl) (by decide) (fun c14 => ?_) (fun c14 => ?_)
      · have h := gx_ifp c14 h
        refine gx_iconst hX (v := 0) (gx_dt dt_mi_x_E_enterStatement 87 rfl) (by decide) ?_
        obtain rfl := Option.some.inj h
        exact gx_zret hX (gx_dt dt_mi_x_E_enterStatement 88 rfl) rfl rfl hres hwr
      · have h := gx_ifn c14 h
        refine gx_iconst hX (v := 1) (gx_dt dt_mi_x_E_enterStatement 85 rfl) (by decide) ?_
        refine gx_goto hX (tgt := 223) (gx_dt dt_mi_x_E_enterStatement 86 rfl) (by decide) ?_
        obtain rfl := Option.some.inj h
        exact gx_zret hX (gx_dt dt_mi_x_E_enterStatement 88 rfl) rfl rfl hres hwr
  have h := gx_ifn c10 h
  by_cases c15 : r2.2 29 3 = 108
  · have h := gx_ifp c15 h
    refine gx_lookup hX (off := 125) (tgt := 156) (gx_dt dt_mi_x_E_enterStatement 15 rfl) (by decide) (by rw [c15]; rfl) (by decide) ?_
    refine gx_aload_n hX (gx_dt dt_mi_x_E_enterStatement 55 rfl) rfl ?_
    refine gx_getr hX fl_E_16 sh_x_0 rfl (gx_dt dt_mi_x_E_enterStatement 56 rfl) ?_
    refine gx_iload_n hX (gx_dt dt_mi_x_E_enterStatement 57 rfl) rfl ?_
    refine gx_bipush hX (v := 28) (gx_dt dt_mi_x_E_enterStatement 58 rfl) (by decide) ?_
    refine gx_ic_ge hX (tgt := 170) (gx_dt dt_mi_x_E_enterStatement 59 rfl) (by decide) (fun c16 => ?_) (fun c16 => ?_)
    · have h := gx_ifp c16 h
      refine gx_aload_n hX (gx_dt dt_mi_x_E_enterStatement 62 rfl) rfl ?_
      refine gx_getr hX fl_E_16 sh_x_0 rfl (gx_dt dt_mi_x_E_enterStatement 63 rfl) ?_
      refine gx_geti hX fl_E_100 sh_x_8 rfl (gx_dt dt_mi_x_E_enterStatement 64 rfl) ?_
      exact gx_weak (gx_leN (gx_leS gx_le0)) (t_x_E_enterStatement_177 hX hres hwr _ _ _ h)
    · have h := gx_ifn c16 h
      refine gx_iload_n hX (gx_dt dt_mi_x_E_enterStatement 60 rfl) rfl ?_
      refine gx_goto hX (tgt := 177) (gx_dt dt_mi_x_E_enterStatement 61 rfl) (by decide) ?_
      exact gx_weak (gx_leN (gx_leS gx_le0)) (t_x_E_enterStatement_177 hX hres hwr _ _ _ h)
  have h := gx_ifn c15 h
  by_cases c17 : r2.2 29 3 = 115
  · have h := gx_ifp c17 h
    refine gx_lookup hX (off := 70) (tgt := 101) (gx_dt dt_mi_x_E_enterStatement 15 rfl) (by decide) (by rw [c17]; rfl) (by decide) ?_
    refine gx_iload_n hX (gx_dt dt_mi_x_E_enterStatement 27 rfl) rfl ?_
    obtain ⟨r18, e_r18, h⟩ := gx_bd h
    refine gx_callSi hX (gx_dt dt_mi_x_E_enterStatement 28 rfl) ln_E_86_x_E_isSpan mo_x_E_isSpan ms_x_E_isSpan (gx_rmb rfl) rfl (k_x_E_isSpan e_r18) rfl rfl (Nat.le_of_ble_eq_true rfl) ?_
    refine gx_if_eq hX (tgt := 127) (gx_dt dt_mi_x_E_enterStatement 29 rfl) (by decide) (fun c19 => ?_) (fun c19 => ?_)
    · have h := gx_ifp c19 h
      refine gx_iconst hX (v := 0) (gx_dt dt_mi_x_E_enterStatement 39 rfl) (by decide) ?_
      obtain rfl := Option.some.inj h
      exact gx_zret hX (gx_dt dt_mi_x_E_enterStatement 40 rfl) rfl rfl hres hwr
    · have h := gx_ifn c19 h
      refine gx_aload_n hX (gx_dt dt_mi_x_E_enterStatement 30 rfl) rfl ?_
      refine gx_getr hX fl_E_16 sh_x_0 rfl (gx_dt dt_mi_x_E_enterStatement 31 rfl) ?_
      refine gx_getr hX fl_E_90 sh_x_8 rfl (gx_dt dt_mi_x_E_enterStatement 32 rfl) ?_
      refine gx_iload_n hX (gx_dt dt_mi_x_E_enterStatement 33 rfl) rfl ?_
      refine gx_iload_n hX (gx_dt dt_mi_x_E_enterStatement 34 rfl) rfl ?_
      obtain ⟨r20, e_r20, h⟩ := gx_bd h
      refine gx_callSi hX (gx_dt dt_mi_x_E_enterStatement 35 rfl) ln_E_174_x_E_setCell mo_x_E_setCell ms_x_E_setCell (gx_rmb rfl) rfl (k_x_E_setCell e_r20) rfl rfl (Nat.le_of_ble_eq_true rfl) ?_
      refine gx_if_eq hX (tgt := 127) (gx_dt dt_mi_x_E_enterStatement 36 rfl) (by decide) (fun c21 => ?_) (fun c21 => ?_)
      · have h := gx_ifp c21 h
        refine gx_iconst hX (v := 0) (gx_dt dt_mi_x_E_enterStatement 39 rfl) (by decide) ?_
        obtain rfl := Option.some.inj h
        exact gx_zret hX (gx_dt dt_mi_x_E_enterStatement 40 rfl) rfl rfl hres hwr
      · have h := gx_ifn c21 h
        refine gx_iconst hX (v := 1) (gx_dt dt_mi_x_E_enterStatement 37 rfl) (by decide) ?_
        refine gx_goto hX (tgt := 128) (gx_dt dt_mi_x_E_enterStatement 38 rfl) (by decide) ?_
        obtain rfl := Option.some.inj h
        exact gx_zret hX (gx_dt dt_mi_x_E_enterStatement 40 rfl) rfl rfl hres hwr
  have h := gx_ifn c17 h
  refine gx_lookup hX (off := 193) (tgt := 224) (gx_dt dt_mi_x_E_enterStatement 15 rfl) (by decide) (by show Op.lookupswitch.offset [(98, 49), (103, 98), (107, 161), (108, 125), (115, 70)] _ _ = _; rw [lv_osw (a := 98) c3 rfl, lv_osw (a := 103) c6 rfl, lv_osw (a := 107) c10 rfl, lv_osw (a := 108) c15 rfl, lv_osw (a := 115) c17 rfl]; rfl) (by decide) ?_
  refine gx_iconst hX (v := 0) (gx_dt dt_mi_x_E_enterStatement 89 rfl) (by decide) ?_
  obtain rfl := Option.some.inj h
  exact gx_zret hX (gx_dt dt_mi_x_E_enterStatement 90 rfl) rfl rfl hres hwr
-- EachBearsPillar.enterStatements()I
def x_E_enterStatements_85 (b1 : Int32) (w : gx_Wd) : Option (Int32 × gx_Wd) :=
  (x_R_become_1_8 w).bind fun r1 =>
  some (b1, r1)
def x_E_enterStatements_22 : Nat → Int32 → Int32 → gx_Wd → Option (Int32 × gx_Wd)
  | 0, _, _, _ => none
  | n + 1, b1, b2, w =>
  if 96 ≤ b2 then
    x_E_enterStatements_85 b1 w
  else
  if w 29 1 ≤ w 29 2 then
    x_E_enterStatements_85 b1 w
  else
  (x_T_readStatement w).bind fun r3 =>
  if r3.1 = 0 then
    some ((-2000) - (w 29 2), r3.2)
  else
  (x_E_enterStatement r3.2).bind fun r5 =>
  if r5.1 = 0 then
    some ((-2000) - (w 29 2), r5.2)
  else
    (some (b1 + 1)).bind fun v7 =>
    (some (b2 + 1)).bind fun v8 =>
    (x_E_enterStatements_22 n) v7 v8 r5.2
def x_E_enterStatements (w : gx_Wd) : Option (Int32 × gx_Wd) :=
  (x_R_become_8_1 w).bind fun r1 =>
  (x_T_rewind r1).bind fun r2 =>
  x_E_enterStatements_22 6000 0 0 r2
theorem t_x_E_enterStatements_85 {X : gx_X} (hX : gx_Ok X mi_x_E_enterStatements) {R : Int32 × gx_Wd} (hres : gx_res X = some (.inl R.1)) (hwr : gx_wr X = R.2) (b1 : Int32) (w : gx_Wd) (h : x_E_enterStatements_85 b1 w = some R) : gx_G X mi_x_E_enterStatements 85 [some (.inr 0), some (.inl b1)] [] w := by
  rw [x_E_enterStatements_85] at h
  refine gx_aload_n hX (gx_dt dt_mi_x_E_enterStatements 40 rfl) rfl ?_
  refine gx_getr hX fl_E_10 sh_x_0 rfl (gx_dt dt_mi_x_E_enterStatements 41 rfl) ?_
  refine gx_aload_n hX (gx_dt dt_mi_x_E_enterStatements 42 rfl) rfl ?_
  refine gx_getr hX fl_E_16 sh_x_0 rfl (gx_dt dt_mi_x_E_enterStatements 43 rfl) ?_
  obtain ⟨r1, e_r1, h⟩ := gx_bd h
  refine gx_callVv hX (gx_dt dt_mi_x_E_enterStatements 44 rfl) ln_E_223_x_R_become_1_8 mo_x_R_become_1_8 mv_x_R_become_1_8 (gx_rmb rfl) sh_x_1 ⟨_, _, rfl⟩ rfl (k_x_R_become_1_8 e_r1) rfl rfl (Nat.le_of_ble_eq_true rfl) ?_
  refine gx_iload_n hX (gx_dt dt_mi_x_E_enterStatements 45 rfl) rfl ?_
  obtain rfl := Option.some.inj h
  exact gx_iret hX (gx_dt dt_mi_x_E_enterStatements 46 rfl) rfl hres hwr
theorem t_x_E_enterStatements_22 {X : gx_X} (hX : gx_Ok X mi_x_E_enterStatements) {R : Int32 × gx_Wd} (hres : gx_res X = some (.inl R.1)) (hwr : gx_wr X = R.2) : ∀ (n : Nat) (b1 : Int32) (b2 : Int32) (w : gx_Wd), x_E_enterStatements_22 n b1 b2 w = some R → gx_G X mi_x_E_enterStatements 22 [some (.inr 0), some (.inl b1), some (.inl b2)] [] w := by
  intro n
  induction n with
  | zero => intro b1 b2 w h; rw [x_E_enterStatements_22] at h; cases h
  | succ n ih =>
    intro b1 b2 w h
    rw [x_E_enterStatements_22] at h
    refine gx_iload_n hX (gx_dt dt_mi_x_E_enterStatements 12 rfl) rfl ?_
    refine gx_bipush hX (v := 96) (gx_dt dt_mi_x_E_enterStatements 13 rfl) (by decide) ?_
    refine gx_ic_ge hX (tgt := 85) (gx_dt dt_mi_x_E_enterStatements 14 rfl) (by decide) (fun c1 => ?_) (fun c1 => ?_)
    · have h := gx_ifp c1 h
      exact gx_weak (gx_leS (gx_leS gx_le0)) (t_x_E_enterStatements_85 hX hres hwr _ _ h)
    · have h := gx_ifn c1 h
      refine gx_aload_n hX (gx_dt dt_mi_x_E_enterStatements 15 rfl) rfl ?_
      refine gx_getr hX fl_E_38 sh_x_0 rfl (gx_dt dt_mi_x_E_enterStatements 16 rfl) ?_
      refine gx_geti hX fl_E_229 sh_x_29 rfl (gx_dt dt_mi_x_E_enterStatements 17 rfl) ?_
      refine gx_aload_n hX (gx_dt dt_mi_x_E_enterStatements 18 rfl) rfl ?_
      refine gx_getr hX fl_E_38 sh_x_0 rfl (gx_dt dt_mi_x_E_enterStatements 19 rfl) ?_
      refine gx_geti hX fl_E_73 sh_x_29 rfl (gx_dt dt_mi_x_E_enterStatements 20 rfl) ?_
      refine gx_ic_ge hX (tgt := 85) (gx_dt dt_mi_x_E_enterStatements 21 rfl) (by decide) (fun c2 => ?_) (fun c2 => ?_)
      · have h := gx_ifp c2 h
        exact gx_weak (gx_leS (gx_leS gx_le0)) (t_x_E_enterStatements_85 hX hres hwr _ _ h)
      · have h := gx_ifn c2 h
        refine gx_aload_n hX (gx_dt dt_mi_x_E_enterStatements 22 rfl) rfl ?_
        refine gx_getr hX fl_E_38 sh_x_0 rfl (gx_dt dt_mi_x_E_enterStatements 23 rfl) ?_
        refine gx_geti hX fl_E_229 sh_x_29 rfl (gx_dt dt_mi_x_E_enterStatements 24 rfl) ?_
        refine gx_istore_n hX (ls' := [some (.inr 0), some (.inl b1), some (.inl b2), some (.inl (w 29 2))]) (gx_dt dt_mi_x_E_enterStatements 25 rfl) (by decide) rfl ?_
        refine gx_aload_n hX (gx_dt dt_mi_x_E_enterStatements 26 rfl) rfl ?_
        refine gx_getr hX fl_E_38 sh_x_0 rfl (gx_dt dt_mi_x_E_enterStatements 27 rfl) ?_
        obtain ⟨r3, e_r3, h⟩ := gx_bd h
        refine gx_callVi hX (gx_dt dt_mi_x_E_enterStatements 28 rfl) ln_E_232_x_T_readStatement mo_x_T_readStatement mv_x_T_readStatement (gx_rmb rfl) sh_x_29 ⟨_, _, rfl⟩ rfl (k_x_T_readStatement e_r3) rfl rfl (Nat.le_of_ble_eq_true rfl) ?_
        refine gx_if_eq hX (tgt := 70) (gx_dt dt_mi_x_E_enterStatements 29 rfl) (by decide) (fun c4 => ?_) (fun c4 => ?_)
        · have h := gx_ifp c4 h
          refine gx_sipush hX (v := (-2000)) (gx_dt dt_mi_x_E_enterStatements 33 rfl) (by decide) ?_
          refine gx_iload_n hX (gx_dt dt_mi_x_E_enterStatements 34 rfl) rfl ?_
          refine gx_isub hX (gx_dt dt_mi_x_E_enterStatements 35 rfl) ?_
          obtain rfl := Option.some.inj h
          exact gx_iret hX (gx_dt dt_mi_x_E_enterStatements 36 rfl) rfl hres hwr
        · have h := gx_ifn c4 h
          refine gx_aload_n hX (gx_dt dt_mi_x_E_enterStatements 30 rfl) rfl ?_
          obtain ⟨r5, e_r5, h⟩ := gx_bd h
          refine gx_callVi hX (gx_dt dt_mi_x_E_enterStatements 31 rfl) ln_E_235_x_E_enterStatement mo_x_E_enterStatement mv_x_E_enterStatement (gx_rmb rfl) sh_x_0 ⟨_, _, rfl⟩ rfl (k_x_E_enterStatement e_r5) rfl rfl (Nat.le_of_ble_eq_true rfl) ?_
          refine gx_if_ne hX (tgt := 76) (gx_dt dt_mi_x_E_enterStatements 32 rfl) (by decide) (fun c6 => ?_) (fun c6 => ?_)
          · have h := gx_ifn c6 h
            obtain ⟨v7, e_v7, h⟩ := gx_bd h
            refine gx_iinc hX (v := v7) (ls' := [some (.inr 0), some (.inl v7), some (.inl b2), some (.inl (w 29 2))]) (gx_dt dt_mi_x_E_enterStatements 37 rfl) rfl (gx_ii e_v7 (by decide)) (by decide) rfl ?_
            obtain ⟨v8, e_v8, h⟩ := gx_bd h
            refine gx_iinc hX (v := v8) (ls' := [some (.inr 0), some (.inl v7), some (.inl v8), some (.inl (w 29 2))]) (gx_dt dt_mi_x_E_enterStatements 38 rfl) rfl (gx_ii e_v8 (by decide)) (by decide) rfl ?_
            refine gx_goto hX (tgt := 22) (gx_dt dt_mi_x_E_enterStatements 39 rfl) (by decide) ?_
            exact gx_weak (gx_leS (gx_leS (gx_leS gx_le0))) (ih _ _ _ h)
          · have h := gx_ifp c6 h
            refine gx_sipush hX (v := (-2000)) (gx_dt dt_mi_x_E_enterStatements 33 rfl) (by decide) ?_
            refine gx_iload_n hX (gx_dt dt_mi_x_E_enterStatements 34 rfl) rfl ?_
            refine gx_isub hX (gx_dt dt_mi_x_E_enterStatements 35 rfl) ?_
            obtain rfl := Option.some.inj h
            exact gx_iret hX (gx_dt dt_mi_x_E_enterStatements 36 rfl) rfl hres hwr
theorem k_x_E_enterStatements {w : gx_Wd} {R : Int32 × gx_Wd} (h : x_E_enterStatements w = some R) : gx_MT mi_x_E_enterStatements [.inr 0] w (some (.inl R.1)) R.2 := by
  refine gx_met (by decide +kernel) (Nat.le_of_ble_eq_true rfl) (fun X hX hres hwr => ?_)
  show gx_G X mi_x_E_enterStatements 0 [some (.inr 0)] [] w
  rw [x_E_enterStatements] at h
  refine gx_aload_n hX (gx_dt dt_mi_x_E_enterStatements 0 rfl) rfl ?_
  refine gx_getr hX fl_E_16 sh_x_0 rfl (gx_dt dt_mi_x_E_enterStatements 1 rfl) ?_
  refine gx_aload_n hX (gx_dt dt_mi_x_E_enterStatements 2 rfl) rfl ?_
  refine gx_getr hX fl_E_10 sh_x_0 rfl (gx_dt dt_mi_x_E_enterStatements 3 rfl) ?_
  obtain ⟨r1, e_r1, h⟩ := gx_bd h
  refine gx_callVv hX (gx_dt dt_mi_x_E_enterStatements 4 rfl) ln_E_223_x_R_become_8_1 mo_x_R_become_8_1 mv_x_R_become_8_1 (gx_rmb rfl) sh_x_8 ⟨_, _, rfl⟩ rfl (k_x_R_become_8_1 e_r1) rfl rfl (Nat.le_of_ble_eq_true rfl) ?_
  refine gx_aload_n hX (gx_dt dt_mi_x_E_enterStatements 5 rfl) rfl ?_
  refine gx_getr hX fl_E_38 sh_x_0 rfl (gx_dt dt_mi_x_E_enterStatements 6 rfl) ?_
  obtain ⟨r2, e_r2, h⟩ := gx_bd h
  refine gx_callVv hX (gx_dt dt_mi_x_E_enterStatements 7 rfl) ln_E_226_x_T_rewind mo_x_T_rewind mv_x_T_rewind (gx_rmb rfl) sh_x_29 ⟨_, _, rfl⟩ rfl (k_x_T_rewind e_r2) rfl rfl (Nat.le_of_ble_eq_true rfl) ?_
  refine gx_iconst hX (v := 0) (gx_dt dt_mi_x_E_enterStatements 8 rfl) (by decide) ?_
  refine gx_istore_n hX (ls' := [some (.inr 0), some (.inl (0))]) (gx_dt dt_mi_x_E_enterStatements 9 rfl) (by decide) rfl ?_
  refine gx_iconst hX (v := 0) (gx_dt dt_mi_x_E_enterStatements 10 rfl) (by decide) ?_
  refine gx_istore_n hX (ls' := [some (.inr 0), some (.inl (0)), some (.inl (0))]) (gx_dt dt_mi_x_E_enterStatements 11 rfl) (by decide) rfl ?_
  exact gx_weak (gx_leS (gx_leS (gx_leS gx_le0))) (t_x_E_enterStatements_22 hX hres hwr _ _ _ _ h)
-- EachBearsPillar.roof()I
def x_E_roof_17 (b1 : Int32) (w : gx_Wd) : Option (Int32 × gx_Wd) :=
  (gx_put w 29 1 0).bind fun w1 =>
  some (b1, w1)
def x_E_roof (w : gx_Wd) : Option (Int32 × gx_Wd) :=
  (x_T_faultOfForm w).bind fun r1 =>
  if r1.1 = 0 then
    (x_E_enterStatements r1.2).bind fun r3 =>
    x_E_roof_17 r3.1 r3.2
  else
    x_E_roof_17 r1.1 r1.2
theorem t_x_E_roof_17 {X : gx_X} (hX : gx_Ok X mi_x_E_roof) {R : Int32 × gx_Wd} (hres : gx_res X = some (.inl R.1)) (hwr : gx_wr X = R.2) (b1 : Int32) (w : gx_Wd) (h : x_E_roof_17 b1 w = some R) : gx_G X mi_x_E_roof 17 [some (.inr 0), some (.inl b1)] [] w := by
  rw [x_E_roof_17] at h
  refine gx_aload_n hX (gx_dt dt_mi_x_E_roof 9 rfl) rfl ?_
  refine gx_getr hX fl_E_38 sh_x_0 rfl (gx_dt dt_mi_x_E_roof 10 rfl) ?_
  refine gx_iconst hX (v := 0) (gx_dt dt_mi_x_E_roof 11 rfl) (by decide) ?_
  obtain ⟨w1, e_w1, h⟩ := gx_bd h
  refine gx_putp hX fl_E_73 (pf_T_1 _) sh_x_29 rfl e_w1 (gx_dt dt_mi_x_E_roof 12 rfl) ?_
  refine gx_iload_n hX (gx_dt dt_mi_x_E_roof 13 rfl) rfl ?_
  obtain rfl := Option.some.inj h
  exact gx_iret hX (gx_dt dt_mi_x_E_roof 14 rfl) rfl hres hwr
theorem k_x_E_roof {w : gx_Wd} {R : Int32 × gx_Wd} (h : x_E_roof w = some R) : gx_MT mi_x_E_roof [.inr 0] w (some (.inl R.1)) R.2 := by
  refine gx_met (by decide +kernel) (Nat.le_of_ble_eq_true rfl) (fun X hX hres hwr => ?_)
  show gx_G X mi_x_E_roof 0 [some (.inr 0)] [] w
  rw [x_E_roof] at h
  refine gx_aload_n hX (gx_dt dt_mi_x_E_roof 0 rfl) rfl ?_
  refine gx_getr hX fl_E_38 sh_x_0 rfl (gx_dt dt_mi_x_E_roof 1 rfl) ?_
  obtain ⟨r1, e_r1, h⟩ := gx_bd h
  refine gx_callVi hX (gx_dt dt_mi_x_E_roof 2 rfl) ln_E_79_x_T_faultOfForm mo_x_T_faultOfForm mv_x_T_faultOfForm (gx_rmb rfl) sh_x_29 ⟨_, _, rfl⟩ rfl (k_x_T_faultOfForm e_r1) rfl rfl (Nat.le_of_ble_eq_true rfl) ?_
  refine gx_istore_n hX (ls' := [some (.inr 0), some (.inl (r1.1))]) (gx_dt dt_mi_x_E_roof 3 rfl) (by decide) rfl ?_
  refine gx_iload_n hX (gx_dt dt_mi_x_E_roof 4 rfl) rfl ?_
  refine gx_if_ne hX (tgt := 17) (gx_dt dt_mi_x_E_roof 5 rfl) (by decide) (fun c2 => ?_) (fun c2 => ?_)
  · have h := gx_ifn c2 h
    exact gx_weak (gx_leS (gx_leS gx_le0)) (t_x_E_roof_17 hX hres hwr _ _ h)
  · have h := gx_ifp c2 h
    refine gx_aload_n hX (gx_dt dt_mi_x_E_roof 6 rfl) rfl ?_
    obtain ⟨r3, e_r3, h⟩ := gx_bd h
    refine gx_callVi hX (gx_dt dt_mi_x_E_roof 7 rfl) ln_E_83_x_E_enterStatements mo_x_E_enterStatements mv_x_E_enterStatements (gx_rmb rfl) sh_x_0 ⟨_, _, rfl⟩ rfl (k_x_E_enterStatements e_r3) rfl rfl (Nat.le_of_ble_eq_true rfl) ?_
    refine gx_istore_n hX (ls' := [some (.inr 0), some (.inl (r3.1))]) (gx_dt dt_mi_x_E_roof 8 rfl) (by decide) rfl ?_
    exact gx_weak (gx_leS (gx_leS gx_le0)) (t_x_E_roof_17 hX hres hwr _ _ h)
-- EachBearsPillar.exchange([III)I
def x_E_exchange (o0 : Nat) (a1 : Int32) (a2 : Int32) (w : gx_Wd) : Option (Int32 × gx_Wd) :=
  (x_E_cell o0 a1 w).bind fun r1 =>
  (x_E_setCell o0 a1 a2 r1.2).bind fun r2 =>
  some (r1.1, r2.2)
theorem k_x_E_exchange {o0 : Nat} {a1 : Int32} {a2 : Int32} {w : gx_Wd} {R : Int32 × gx_Wd} (h : x_E_exchange o0 a1 a2 w = some R) : gx_MT mi_x_E_exchange [.inr o0, .inl a1, .inl a2] w (some (.inl R.1)) R.2 := by
  refine gx_met (by decide +kernel) (Nat.le_of_ble_eq_true rfl) (fun X hX hres hwr => ?_)
  show gx_G X mi_x_E_exchange 0 [some (.inr o0), some (.inl a1), some (.inl a2)] [] w
  rw [x_E_exchange] at h
  refine gx_aload_n hX (gx_dt dt_mi_x_E_exchange 0 rfl) rfl ?_
  refine gx_iload_n hX (gx_dt dt_mi_x_E_exchange 1 rfl) rfl ?_
  obtain ⟨r1, e_r1, h⟩ := gx_bd h
  refine gx_callSi hX (gx_dt dt_mi_x_E_exchange 2 rfl) ln_E_125_x_E_cell mo_x_E_cell ms_x_E_cell (gx_rmb rfl) rfl (k_x_E_cell e_r1) rfl rfl (Nat.le_of_ble_eq_true rfl) ?_
  refine gx_istore_n hX (ls' := [some (.inr o0), some (.inl a1), some (.inl a2), some (.inl (r1.1))]) (gx_dt dt_mi_x_E_exchange 3 rfl) (by decide) rfl ?_
  refine gx_aload_n hX (gx_dt dt_mi_x_E_exchange 4 rfl) rfl ?_
  refine gx_iload_n hX (gx_dt dt_mi_x_E_exchange 5 rfl) rfl ?_
  refine gx_iload_n hX (gx_dt dt_mi_x_E_exchange 6 rfl) rfl ?_
  obtain ⟨r2, e_r2, h⟩ := gx_bd h
  refine gx_callSi hX (gx_dt dt_mi_x_E_exchange 7 rfl) ln_E_174_x_E_setCell mo_x_E_setCell ms_x_E_setCell (gx_rmb rfl) rfl (k_x_E_setCell e_r2) rfl rfl (Nat.le_of_ble_eq_true rfl) ?_
  refine gx_pop hX (gx_dt dt_mi_x_E_exchange 8 rfl) ?_
  refine gx_iload_n hX (gx_dt dt_mi_x_E_exchange 9 rfl) rfl ?_
  obtain rfl := Option.some.inj h
  exact gx_iret hX (gx_dt dt_mi_x_E_exchange 10 rfl) rfl hres hwr
-- EachBearsPillar.span(II)I
def x_E_span (a1 : Int32) (a2 : Int32) (w : gx_Wd) : Option (Int32 × gx_Wd) :=
  (x_E_isSpan a1 w).bind fun r1 =>
  if r1.1 = 0 then
    (x_E_refuse (-1) r1.2).bind fun r8 =>
    some (r8.1, r8.2)
  else
    if 0 ≤ a2 then
      if a2 ≤ 99 then
        (x_E_exchange 6 a1 a2 r1.2).bind fun r5 =>
        some (r5.1, r5.2)
      else
      (x_E_refuse (-6) r1.2).bind fun r6 =>
      some (r6.1, r6.2)
    else
    (x_E_refuse (-4) r1.2).bind fun r7 =>
    some (r7.1, r7.2)
theorem k_x_E_span {a1 : Int32} {a2 : Int32} {w : gx_Wd} {R : Int32 × gx_Wd} (h : x_E_span a1 a2 w = some R) : gx_MT mi_x_E_span [.inr 0, .inl a1, .inl a2] w (some (.inl R.1)) R.2 := by
  refine gx_met (by decide +kernel) (Nat.le_of_ble_eq_true rfl) (fun X hX hres hwr => ?_)
  show gx_G X mi_x_E_span 0 [some (.inr 0), some (.inl a1), some (.inl a2)] [] w
  rw [x_E_span] at h
  refine gx_iload_n hX (gx_dt dt_mi_x_E_span 0 rfl) rfl ?_
  obtain ⟨r1, e_r1, h⟩ := gx_bd h
  refine gx_callSi hX (gx_dt dt_mi_x_E_span 1 rfl) ln_E_86_x_E_isSpan mo_x_E_isSpan ms_x_E_isSpan (gx_rmb rfl) rfl (k_x_E_isSpan e_r1) rfl rfl (Nat.le_of_ble_eq_true rfl) ?_
  refine gx_if_ne hX (tgt := 13) (gx_dt dt_mi_x_E_span 2 rfl) (by decide) (fun c2 => ?_) (fun c2 => ?_)
  · have h := gx_ifn c2 h
    refine gx_iload_n hX (gx_dt dt_mi_x_E_span 7 rfl) rfl ?_
    refine gx_if_ge hX (tgt := 24) (gx_dt dt_mi_x_E_span 8 rfl) (by decide) (fun c3 => ?_) (fun c3 => ?_)
    · have h := gx_ifp c3 h
      refine gx_iload_n hX (gx_dt dt_mi_x_E_span 13 rfl) rfl ?_
      refine gx_bipush hX (v := 99) (gx_dt dt_mi_x_E_span 14 rfl) (by decide) ?_
      refine gx_ic_le hX (tgt := 37) (gx_dt dt_mi_x_E_span 15 rfl) (by decide) (fun c4 => ?_) (fun c4 => ?_)
      · have h := gx_ifp c4 h
        refine gx_aload_n hX (gx_dt dt_mi_x_E_span 20 rfl) rfl ?_
        refine gx_getr hX fl_E_10 sh_x_0 rfl (gx_dt dt_mi_x_E_span 21 rfl) ?_
        refine gx_getr hX fl_E_90 sh_x_1 rfl (gx_dt dt_mi_x_E_span 22 rfl) ?_
        refine gx_iload_n hX (gx_dt dt_mi_x_E_span 23 rfl) rfl ?_
        refine gx_iload_n hX (gx_dt dt_mi_x_E_span 24 rfl) rfl ?_
        obtain ⟨r5, e_r5, h⟩ := gx_bd h
        refine gx_callSi hX (gx_dt dt_mi_x_E_span 25 rfl) ln_E_93_x_E_exchange mo_x_E_exchange ms_x_E_exchange (gx_rmb rfl) rfl (k_x_E_exchange e_r5) rfl rfl (Nat.le_of_ble_eq_true rfl) ?_
        obtain rfl := Option.some.inj h
        exact gx_iret hX (gx_dt dt_mi_x_E_span 26 rfl) rfl hres hwr
      · have h := gx_ifn c4 h
        refine gx_aload_n hX (gx_dt dt_mi_x_E_span 16 rfl) rfl ?_
        refine gx_bipush hX (v := (-6)) (gx_dt dt_mi_x_E_span 17 rfl) (by decide) ?_
        obtain ⟨r6, e_r6, h⟩ := gx_bd h
        refine gx_callVi hX (gx_dt dt_mi_x_E_span 18 rfl) ln_E_69_x_E_refuse mo_x_E_refuse mv_x_E_refuse (gx_rmb rfl) sh_x_0 ⟨_, _, rfl⟩ rfl (k_x_E_refuse e_r6) rfl rfl (Nat.le_of_ble_eq_true rfl) ?_
        obtain rfl := Option.some.inj h
        exact gx_iret hX (gx_dt dt_mi_x_E_span 19 rfl) rfl hres hwr
    · have h := gx_ifn c3 h
      refine gx_aload_n hX (gx_dt dt_mi_x_E_span 9 rfl) rfl ?_
      refine gx_bipush hX (v := (-4)) (gx_dt dt_mi_x_E_span 10 rfl) (by decide) ?_
      obtain ⟨r7, e_r7, h⟩ := gx_bd h
      refine gx_callVi hX (gx_dt dt_mi_x_E_span 11 rfl) ln_E_69_x_E_refuse mo_x_E_refuse mv_x_E_refuse (gx_rmb rfl) sh_x_0 ⟨_, _, rfl⟩ rfl (k_x_E_refuse e_r7) rfl rfl (Nat.le_of_ble_eq_true rfl) ?_
      obtain rfl := Option.some.inj h
      exact gx_iret hX (gx_dt dt_mi_x_E_span 12 rfl) rfl hres hwr
  · have h := gx_ifp c2 h
    refine gx_aload_n hX (gx_dt dt_mi_x_E_span 3 rfl) rfl ?_
    refine gx_iconst hX (v := (-1)) (gx_dt dt_mi_x_E_span 4 rfl) (by decide) ?_
    obtain ⟨r8, e_r8, h⟩ := gx_bd h
    refine gx_callVi hX (gx_dt dt_mi_x_E_span 5 rfl) ln_E_69_x_E_refuse mo_x_E_refuse mv_x_E_refuse (gx_rmb rfl) sh_x_0 ⟨_, _, rfl⟩ rfl (k_x_E_refuse e_r8) rfl rfl (Nat.le_of_ble_eq_true rfl) ?_
    obtain rfl := Option.some.inj h
    exact gx_iret hX (gx_dt dt_mi_x_E_span 6 rfl) rfl hres hwr
-- EachBearsPillar.ground(II)I
def x_E_ground (a1 : Int32) (a2 : Int32) (w : gx_Wd) : Option (Int32 × gx_Wd) :=
  if a1 < 0 then
    (x_E_refuse (-1) w).bind fun r2 =>
    some (r2.1, r2.2)
  else
  if a1 < 16 then
    if 0 ≤ a2 then
      if a2 ≤ 9 then
        (x_E_exchange 7 a1 a2 w).bind fun r6 =>
        some (r6.1, r6.2)
      else
      (x_E_refuse (-6) w).bind fun r7 =>
      some (r7.1, r7.2)
    else
    (x_E_refuse (-4) w).bind fun r8 =>
    some (r8.1, r8.2)
  else
  (x_E_refuse (-1) w).bind fun r9 =>
  some (r9.1, r9.2)
theorem k_x_E_ground {a1 : Int32} {a2 : Int32} {w : gx_Wd} {R : Int32 × gx_Wd} (h : x_E_ground a1 a2 w = some R) : gx_MT mi_x_E_ground [.inr 0, .inl a1, .inl a2] w (some (.inl R.1)) R.2 := by
  refine gx_met (by decide +kernel) (Nat.le_of_ble_eq_true rfl) (fun X hX hres hwr => ?_)
  show gx_G X mi_x_E_ground 0 [some (.inr 0), some (.inl a1), some (.inl a2)] [] w
  rw [x_E_ground] at h
  refine gx_iload_n hX (gx_dt dt_mi_x_E_ground 0 rfl) rfl ?_
  refine gx_if_lt hX (tgt := 10) (gx_dt dt_mi_x_E_ground 1 rfl) (by decide) (fun c1 => ?_) (fun c1 => ?_)
  · have h := gx_ifp c1 h
    refine gx_aload_n hX (gx_dt dt_mi_x_E_ground 5 rfl) rfl ?_
    refine gx_iconst hX (v := (-1)) (gx_dt dt_mi_x_E_ground 6 rfl) (by decide) ?_
    obtain ⟨r2, e_r2, h⟩ := gx_bd h
    refine gx_callVi hX (gx_dt dt_mi_x_E_ground 7 rfl) ln_E_69_x_E_refuse mo_x_E_refuse mv_x_E_refuse (gx_rmb rfl) sh_x_0 ⟨_, _, rfl⟩ rfl (k_x_E_refuse e_r2) rfl rfl (Nat.le_of_ble_eq_true rfl) ?_
    obtain rfl := Option.some.inj h
    exact gx_iret hX (gx_dt dt_mi_x_E_ground 8 rfl) rfl hres hwr
  · have h := gx_ifn c1 h
    refine gx_iload_n hX (gx_dt dt_mi_x_E_ground 2 rfl) rfl ?_
    refine gx_bipush hX (v := 16) (gx_dt dt_mi_x_E_ground 3 rfl) (by decide) ?_
    refine gx_ic_lt hX (tgt := 16) (gx_dt dt_mi_x_E_ground 4 rfl) (by decide) (fun c3 => ?_) (fun c3 => ?_)
    · have h := gx_ifp c3 h
      refine gx_iload_n hX (gx_dt dt_mi_x_E_ground 9 rfl) rfl ?_
      refine gx_if_ge hX (tgt := 27) (gx_dt dt_mi_x_E_ground 10 rfl) (by decide) (fun c4 => ?_) (fun c4 => ?_)
      · have h := gx_ifp c4 h
        refine gx_iload_n hX (gx_dt dt_mi_x_E_ground 15 rfl) rfl ?_
        refine gx_bipush hX (v := 9) (gx_dt dt_mi_x_E_ground 16 rfl) (by decide) ?_
        refine gx_ic_le hX (tgt := 40) (gx_dt dt_mi_x_E_ground 17 rfl) (by decide) (fun c5 => ?_) (fun c5 => ?_)
        · have h := gx_ifp c5 h
          refine gx_aload_n hX (gx_dt dt_mi_x_E_ground 22 rfl) rfl ?_
          refine gx_getr hX fl_E_10 sh_x_0 rfl (gx_dt dt_mi_x_E_ground 23 rfl) ?_
          refine gx_getr hX fl_E_97 sh_x_1 rfl (gx_dt dt_mi_x_E_ground 24 rfl) ?_
          refine gx_iload_n hX (gx_dt dt_mi_x_E_ground 25 rfl) rfl ?_
          refine gx_iload_n hX (gx_dt dt_mi_x_E_ground 26 rfl) rfl ?_
          obtain ⟨r6, e_r6, h⟩ := gx_bd h
          refine gx_callSi hX (gx_dt dt_mi_x_E_ground 27 rfl) ln_E_93_x_E_exchange mo_x_E_exchange ms_x_E_exchange (gx_rmb rfl) rfl (k_x_E_exchange e_r6) rfl rfl (Nat.le_of_ble_eq_true rfl) ?_
          obtain rfl := Option.some.inj h
          exact gx_iret hX (gx_dt dt_mi_x_E_ground 28 rfl) rfl hres hwr
        · have h := gx_ifn c5 h
          refine gx_aload_n hX (gx_dt dt_mi_x_E_ground 18 rfl) rfl ?_
          refine gx_bipush hX (v := (-6)) (gx_dt dt_mi_x_E_ground 19 rfl) (by decide) ?_
          obtain ⟨r7, e_r7, h⟩ := gx_bd h
          refine gx_callVi hX (gx_dt dt_mi_x_E_ground 20 rfl) ln_E_69_x_E_refuse mo_x_E_refuse mv_x_E_refuse (gx_rmb rfl) sh_x_0 ⟨_, _, rfl⟩ rfl (k_x_E_refuse e_r7) rfl rfl (Nat.le_of_ble_eq_true rfl) ?_
          obtain rfl := Option.some.inj h
          exact gx_iret hX (gx_dt dt_mi_x_E_ground 21 rfl) rfl hres hwr
      · have h := gx_ifn c4 h
        refine gx_aload_n hX (gx_dt dt_mi_x_E_ground 11 rfl) rfl ?_
        refine gx_bipush hX (v := (-4)) (gx_dt dt_mi_x_E_ground 12 rfl) (by decide) ?_
        obtain ⟨r8, e_r8, h⟩ := gx_bd h
        refine gx_callVi hX (gx_dt dt_mi_x_E_ground 13 rfl) ln_E_69_x_E_refuse mo_x_E_refuse mv_x_E_refuse (gx_rmb rfl) sh_x_0 ⟨_, _, rfl⟩ rfl (k_x_E_refuse e_r8) rfl rfl (Nat.le_of_ble_eq_true rfl) ?_
        obtain rfl := Option.some.inj h
        exact gx_iret hX (gx_dt dt_mi_x_E_ground 14 rfl) rfl hres hwr
    · have h := gx_ifn c3 h
      refine gx_aload_n hX (gx_dt dt_mi_x_E_ground 5 rfl) rfl ?_
      refine gx_iconst hX (v := (-1)) (gx_dt dt_mi_x_E_ground 6 rfl) (by decide) ?_
      obtain ⟨r9, e_r9, h⟩ := gx_bd h
      refine gx_callVi hX (gx_dt dt_mi_x_E_ground 7 rfl) ln_E_69_x_E_refuse mo_x_E_refuse mv_x_E_refuse (gx_rmb rfl) sh_x_0 ⟨_, _, rfl⟩ rfl (k_x_E_refuse e_r9) rfl rfl (Nat.le_of_ble_eq_true rfl) ?_
      obtain rfl := Option.some.inj h
      exact gx_iret hX (gx_dt dt_mi_x_E_ground 8 rfl) rfl hres hwr
-- EachBearsPillar.level(I)I
def x_E_level (a1 : Int32) (w : gx_Wd) : Option (Int32 × gx_Wd) :=
  if 0 ≤ a1 then
    if a1 < 28 then
      (gx_put w 1 2 a1).bind fun w3 =>
      some (w 1 2, w3)
    else
    (x_E_refuse (-6) w).bind fun r4 =>
    some (r4.1, r4.2)
  else
  (x_E_refuse (-4) w).bind fun r5 =>
  some (r5.1, r5.2)
theorem k_x_E_level {a1 : Int32} {w : gx_Wd} {R : Int32 × gx_Wd} (h : x_E_level a1 w = some R) : gx_MT mi_x_E_level [.inr 0, .inl a1] w (some (.inl R.1)) R.2 := by
  refine gx_met (by decide +kernel) (Nat.le_of_ble_eq_true rfl) (fun X hX hres hwr => ?_)
  show gx_G X mi_x_E_level 0 [some (.inr 0), some (.inl a1)] [] w
  rw [x_E_level] at h
  refine gx_iload_n hX (gx_dt dt_mi_x_E_level 0 rfl) rfl ?_
  refine gx_if_ge hX (tgt := 11) (gx_dt dt_mi_x_E_level 1 rfl) (by decide) (fun c1 => ?_) (fun c1 => ?_)
  · have h := gx_ifp c1 h
    refine gx_iload_n hX (gx_dt dt_mi_x_E_level 6 rfl) rfl ?_
    refine gx_bipush hX (v := 28) (gx_dt dt_mi_x_E_level 7 rfl) (by decide) ?_
    refine gx_ic_lt hX (tgt := 24) (gx_dt dt_mi_x_E_level 8 rfl) (by decide) (fun c2 => ?_) (fun c2 => ?_)
    · have h := gx_ifp c2 h
      refine gx_aload_n hX (gx_dt dt_mi_x_E_level 13 rfl) rfl ?_
      refine gx_getr hX fl_E_10 sh_x_0 rfl (gx_dt dt_mi_x_E_level 14 rfl) ?_
      refine gx_geti hX fl_E_100 sh_x_1 rfl (gx_dt dt_mi_x_E_level 15 rfl) ?_
      refine gx_istore_n hX (ls' := [some (.inr 0), some (.inl a1), some (.inl (w 1 2))]) (gx_dt dt_mi_x_E_level 16 rfl) (by decide) rfl ?_
      refine gx_aload_n hX (gx_dt dt_mi_x_E_level 17 rfl) rfl ?_
      refine gx_getr hX fl_E_10 sh_x_0 rfl (gx_dt dt_mi_x_E_level 18 rfl) ?_
      refine gx_iload_n hX (gx_dt dt_mi_x_E_level 19 rfl) rfl ?_
      obtain ⟨w3, e_w3, h⟩ := gx_bd h
      refine gx_putp hX fl_E_100 (pf_R_2 _) sh_x_1 rfl e_w3 (gx_dt dt_mi_x_E_level 20 rfl) ?_
      refine gx_iload_n hX (gx_dt dt_mi_x_E_level 21 rfl) rfl ?_
      obtain rfl := Option.some.inj h
      exact gx_iret hX (gx_dt dt_mi_x_E_level 22 rfl) rfl hres hwr
    · have h := gx_ifn c2 h
      refine gx_aload_n hX (gx_dt dt_mi_x_E_level 9 rfl) rfl ?_
      refine gx_bipush hX (v := (-6)) (gx_dt dt_mi_x_E_level 10 rfl) (by decide) ?_
      obtain ⟨r4, e_r4, h⟩ := gx_bd h
      refine gx_callVi hX (gx_dt dt_mi_x_E_level 11 rfl) ln_E_69_x_E_refuse mo_x_E_refuse mv_x_E_refuse (gx_rmb rfl) sh_x_0 ⟨_, _, rfl⟩ rfl (k_x_E_refuse e_r4) rfl rfl (Nat.le_of_ble_eq_true rfl) ?_
      obtain rfl := Option.some.inj h
      exact gx_iret hX (gx_dt dt_mi_x_E_level 12 rfl) rfl hres hwr
  · have h := gx_ifn c1 h
    refine gx_aload_n hX (gx_dt dt_mi_x_E_level 2 rfl) rfl ?_
    refine gx_bipush hX (v := (-4)) (gx_dt dt_mi_x_E_level 3 rfl) (by decide) ?_
    obtain ⟨r5, e_r5, h⟩ := gx_bd h
    refine gx_callVi hX (gx_dt dt_mi_x_E_level 4 rfl) ln_E_69_x_E_refuse mo_x_E_refuse mv_x_E_refuse (gx_rmb rfl) sh_x_0 ⟨_, _, rfl⟩ rfl (k_x_E_refuse e_r5) rfl rfl (Nat.le_of_ble_eq_true rfl) ?_
    obtain rfl := Option.some.inj h
    exact gx_iret hX (gx_dt dt_mi_x_E_level 5 rfl) rfl hres hwr
-- EachBearsPillar$Roof.hasBearer(I)Z
def x_R_hasBearer_1 (a1 : Int32) (w : gx_Wd) : Option (Int32 × gx_Wd) :=
  if a1 < 0 then
    some (0, w)
  else
  if w 1 0 ≤ a1 then
    some (0, w)
  else
  some (1, w)
theorem k_x_R_hasBearer_1 {a1 : Int32} {w : gx_Wd} {R : Int32 × gx_Wd} (h : x_R_hasBearer_1 a1 w = some R) : gx_MT mi_x_R_hasBearer_1 [.inr 1, .inl a1] w (some (.inl R.1)) R.2 := by
  refine gx_met (by decide +kernel) (Nat.le_of_ble_eq_true rfl) (fun X hX hres hwr => ?_)
  show gx_G X mi_x_R_hasBearer_1 0 [some (.inr 1), some (.inl a1)] [] w
  rw [x_R_hasBearer_1] at h
  refine gx_iload_n hX (gx_dt dt_mi_x_R_hasBearer_1 0 rfl) rfl ?_
  refine gx_if_lt hX (tgt := 16) (gx_dt dt_mi_x_R_hasBearer_1 1 rfl) (by decide) (fun c1 => ?_) (fun c1 => ?_)
  · have h := gx_ifp c1 h
    refine gx_iconst hX (v := 0) (gx_dt dt_mi_x_R_hasBearer_1 8 rfl) (by decide) ?_
    obtain rfl := Option.some.inj h
    exact gx_zret hX (gx_dt dt_mi_x_R_hasBearer_1 9 rfl) rfl rfl hres hwr
  · have h := gx_ifn c1 h
    refine gx_iload_n hX (gx_dt dt_mi_x_R_hasBearer_1 2 rfl) rfl ?_
    refine gx_aload_n hX (gx_dt dt_mi_x_R_hasBearer_1 3 rfl) rfl ?_
    refine gx_geti hX fl_R_9 sh_x_1 rfl (gx_dt dt_mi_x_R_hasBearer_1 4 rfl) ?_
    refine gx_ic_ge hX (tgt := 16) (gx_dt dt_mi_x_R_hasBearer_1 5 rfl) (by decide) (fun c2 => ?_) (fun c2 => ?_)
    · have h := gx_ifp c2 h
      refine gx_iconst hX (v := 0) (gx_dt dt_mi_x_R_hasBearer_1 8 rfl) (by decide) ?_
      obtain rfl := Option.some.inj h
      exact gx_zret hX (gx_dt dt_mi_x_R_hasBearer_1 9 rfl) rfl rfl hres hwr
    · have h := gx_ifn c2 h
      refine gx_iconst hX (v := 1) (gx_dt dt_mi_x_R_hasBearer_1 6 rfl) (by decide) ?_
      refine gx_goto hX (tgt := 17) (gx_dt dt_mi_x_R_hasBearer_1 7 rfl) (by decide) ?_
      obtain rfl := Option.some.inj h
      exact gx_zret hX (gx_dt dt_mi_x_R_hasBearer_1 9 rfl) rfl rfl hres hwr
-- EachBearsPillar.block(II)I
def x_E_block (a1 : Int32) (a2 : Int32) (w : gx_Wd) : Option (Int32 × gx_Wd) :=
  (x_R_hasBearer_1 a1 w).bind fun r1 =>
  if r1.1 = 0 then
    (x_E_refuse (-1) r1.2).bind fun r8 =>
    some (r8.1, r8.2)
  else
    if 0 ≤ a2 then
      if a2 ≤ 9 then
        (x_E_exchange 5 a1 a2 r1.2).bind fun r5 =>
        some (r5.1, r5.2)
      else
      (x_E_refuse (-6) r1.2).bind fun r6 =>
      some (r6.1, r6.2)
    else
    (x_E_refuse (-4) r1.2).bind fun r7 =>
    some (r7.1, r7.2)
theorem k_x_E_block {a1 : Int32} {a2 : Int32} {w : gx_Wd} {R : Int32 × gx_Wd} (h : x_E_block a1 a2 w = some R) : gx_MT mi_x_E_block [.inr 0, .inl a1, .inl a2] w (some (.inl R.1)) R.2 := by
  refine gx_met (by decide +kernel) (Nat.le_of_ble_eq_true rfl) (fun X hX hres hwr => ?_)
  show gx_G X mi_x_E_block 0 [some (.inr 0), some (.inl a1), some (.inl a2)] [] w
  rw [x_E_block] at h
  refine gx_aload_n hX (gx_dt dt_mi_x_E_block 0 rfl) rfl ?_
  refine gx_getr hX fl_E_10 sh_x_0 rfl (gx_dt dt_mi_x_E_block 1 rfl) ?_
  refine gx_iload_n hX (gx_dt dt_mi_x_E_block 2 rfl) rfl ?_
  obtain ⟨r1, e_r1, h⟩ := gx_bd h
  refine gx_callVi hX (gx_dt dt_mi_x_E_block 3 rfl) ln_E_103_x_R_hasBearer_1 mo_x_R_hasBearer_1 mv_x_R_hasBearer_1 (gx_rmb rfl) sh_x_1 ⟨_, _, rfl⟩ rfl (k_x_R_hasBearer_1 e_r1) rfl rfl (Nat.le_of_ble_eq_true rfl) ?_
  refine gx_if_ne hX (tgt := 17) (gx_dt dt_mi_x_E_block 4 rfl) (by decide) (fun c2 => ?_) (fun c2 => ?_)
  · have h := gx_ifn c2 h
    refine gx_iload_n hX (gx_dt dt_mi_x_E_block 9 rfl) rfl ?_
    refine gx_if_ge hX (tgt := 28) (gx_dt dt_mi_x_E_block 10 rfl) (by decide) (fun c3 => ?_) (fun c3 => ?_)
    · have h := gx_ifp c3 h
      refine gx_iload_n hX (gx_dt dt_mi_x_E_block 15 rfl) rfl ?_
      refine gx_bipush hX (v := 9) (gx_dt dt_mi_x_E_block 16 rfl) (by decide) ?_
      refine gx_ic_le hX (tgt := 41) (gx_dt dt_mi_x_E_block 17 rfl) (by decide) (fun c4 => ?_) (fun c4 => ?_)
      · have h := gx_ifp c4 h
        refine gx_aload_n hX (gx_dt dt_mi_x_E_block 22 rfl) rfl ?_
        refine gx_getr hX fl_E_10 sh_x_0 rfl (gx_dt dt_mi_x_E_block 23 rfl) ?_
        refine gx_getr hX fl_E_106 sh_x_1 rfl (gx_dt dt_mi_x_E_block 24 rfl) ?_
        refine gx_iload_n hX (gx_dt dt_mi_x_E_block 25 rfl) rfl ?_
        refine gx_iload_n hX (gx_dt dt_mi_x_E_block 26 rfl) rfl ?_
        obtain ⟨r5, e_r5, h⟩ := gx_bd h
        refine gx_callSi hX (gx_dt dt_mi_x_E_block 27 rfl) ln_E_93_x_E_exchange mo_x_E_exchange ms_x_E_exchange (gx_rmb rfl) rfl (k_x_E_exchange e_r5) rfl rfl (Nat.le_of_ble_eq_true rfl) ?_
        obtain rfl := Option.some.inj h
        exact gx_iret hX (gx_dt dt_mi_x_E_block 28 rfl) rfl hres hwr
      · have h := gx_ifn c4 h
        refine gx_aload_n hX (gx_dt dt_mi_x_E_block 18 rfl) rfl ?_
        refine gx_bipush hX (v := (-6)) (gx_dt dt_mi_x_E_block 19 rfl) (by decide) ?_
        obtain ⟨r6, e_r6, h⟩ := gx_bd h
        refine gx_callVi hX (gx_dt dt_mi_x_E_block 20 rfl) ln_E_69_x_E_refuse mo_x_E_refuse mv_x_E_refuse (gx_rmb rfl) sh_x_0 ⟨_, _, rfl⟩ rfl (k_x_E_refuse e_r6) rfl rfl (Nat.le_of_ble_eq_true rfl) ?_
        obtain rfl := Option.some.inj h
        exact gx_iret hX (gx_dt dt_mi_x_E_block 21 rfl) rfl hres hwr
    · have h := gx_ifn c3 h
      refine gx_aload_n hX (gx_dt dt_mi_x_E_block 11 rfl) rfl ?_
      refine gx_bipush hX (v := (-4)) (gx_dt dt_mi_x_E_block 12 rfl) (by decide) ?_
      obtain ⟨r7, e_r7, h⟩ := gx_bd h
      refine gx_callVi hX (gx_dt dt_mi_x_E_block 13 rfl) ln_E_69_x_E_refuse mo_x_E_refuse mv_x_E_refuse (gx_rmb rfl) sh_x_0 ⟨_, _, rfl⟩ rfl (k_x_E_refuse e_r7) rfl rfl (Nat.le_of_ble_eq_true rfl) ?_
      obtain rfl := Option.some.inj h
      exact gx_iret hX (gx_dt dt_mi_x_E_block 14 rfl) rfl hres hwr
  · have h := gx_ifp c2 h
    refine gx_aload_n hX (gx_dt dt_mi_x_E_block 5 rfl) rfl ?_
    refine gx_iconst hX (v := (-1)) (gx_dt dt_mi_x_E_block 6 rfl) (by decide) ?_
    obtain ⟨r8, e_r8, h⟩ := gx_bd h
    refine gx_callVi hX (gx_dt dt_mi_x_E_block 7 rfl) ln_E_69_x_E_refuse mo_x_E_refuse mv_x_E_refuse (gx_rmb rfl) sh_x_0 ⟨_, _, rfl⟩ rfl (k_x_E_refuse e_r8) rfl rfl (Nat.le_of_ble_eq_true rfl) ?_
    obtain rfl := Option.some.inj h
    exact gx_iret hX (gx_dt dt_mi_x_E_block 8 rfl) rfl hres hwr
-- EachBearsPillar$Roof.lastAt()I
def x_R_lastAt_1 (w : gx_Wd) : Option (Int32 × gx_Wd) :=
  if w 1 0 ≤ 1 then
    some (15, w)
  else
  some (16 - (w 1 0), w)
theorem k_x_R_lastAt_1 {w : gx_Wd} {R : Int32 × gx_Wd} (h : x_R_lastAt_1 w = some R) : gx_MT mi_x_R_lastAt_1 [.inr 1] w (some (.inl R.1)) R.2 := by
  refine gx_met (by decide +kernel) (Nat.le_of_ble_eq_true rfl) (fun X hX hres hwr => ?_)
  show gx_G X mi_x_R_lastAt_1 0 [some (.inr 1)] [] w
  rw [x_R_lastAt_1] at h
  refine gx_aload_n hX (gx_dt dt_mi_x_R_lastAt_1 0 rfl) rfl ?_
  refine gx_geti hX fl_R_9 sh_x_1 rfl (gx_dt dt_mi_x_R_lastAt_1 1 rfl) ?_
  refine gx_iconst hX (v := 1) (gx_dt dt_mi_x_R_lastAt_1 2 rfl) (by decide) ?_
  refine gx_ic_le hX (tgt := 18) (gx_dt dt_mi_x_R_lastAt_1 3 rfl) (by decide) (fun c1 => ?_) (fun c1 => ?_)
  · have h := gx_ifp c1 h
    refine gx_bipush hX (v := 15) (gx_dt dt_mi_x_R_lastAt_1 9 rfl) (by decide) ?_
    obtain rfl := Option.some.inj h
    exact gx_iret hX (gx_dt dt_mi_x_R_lastAt_1 10 rfl) rfl hres hwr
  · have h := gx_ifn c1 h
    refine gx_bipush hX (v := 16) (gx_dt dt_mi_x_R_lastAt_1 4 rfl) (by decide) ?_
    refine gx_aload_n hX (gx_dt dt_mi_x_R_lastAt_1 5 rfl) rfl ?_
    refine gx_geti hX fl_R_9 sh_x_1 rfl (gx_dt dt_mi_x_R_lastAt_1 6 rfl) ?_
    refine gx_isub hX (gx_dt dt_mi_x_R_lastAt_1 7 rfl) ?_
    refine gx_goto hX (tgt := 20) (gx_dt dt_mi_x_R_lastAt_1 8 rfl) (by decide) ?_
    obtain rfl := Option.some.inj h
    exact gx_iret hX (gx_dt dt_mi_x_R_lastAt_1 10 rfl) rfl hres hwr
-- EachBearsPillar.at(I)I
def x_E_at (a1 : Int32) (w : gx_Wd) : Option (Int32 × gx_Wd) :=
  if 0 ≤ a1 then
    (x_R_lastAt_1 w).bind fun r2 =>
    if a1 ≤ r2.1 then
      (gx_put r2.2 1 1 a1).bind fun w4 =>
      some (r2.2 1 1, w4)
    else
    (x_E_refuse (-6) r2.2).bind fun r5 =>
    some (r5.1, r5.2)
  else
  (x_E_refuse (-4) w).bind fun r6 =>
  some (r6.1, r6.2)
theorem k_x_E_at {a1 : Int32} {w : gx_Wd} {R : Int32 × gx_Wd} (h : x_E_at a1 w = some R) : gx_MT mi_x_E_at [.inr 0, .inl a1] w (some (.inl R.1)) R.2 := by
  refine gx_met (by decide +kernel) (Nat.le_of_ble_eq_true rfl) (fun X hX hres hwr => ?_)
  show gx_G X mi_x_E_at 0 [some (.inr 0), some (.inl a1)] [] w
  rw [x_E_at] at h
  refine gx_iload_n hX (gx_dt dt_mi_x_E_at 0 rfl) rfl ?_
  refine gx_if_ge hX (tgt := 11) (gx_dt dt_mi_x_E_at 1 rfl) (by decide) (fun c1 => ?_) (fun c1 => ?_)
  · have h := gx_ifp c1 h
    refine gx_iload_n hX (gx_dt dt_mi_x_E_at 6 rfl) rfl ?_
    refine gx_aload_n hX (gx_dt dt_mi_x_E_at 7 rfl) rfl ?_
    refine gx_getr hX fl_E_10 sh_x_0 rfl (gx_dt dt_mi_x_E_at 8 rfl) ?_
    obtain ⟨r2, e_r2, h⟩ := gx_bd h
    refine gx_callVi hX (gx_dt dt_mi_x_E_at 9 rfl) ln_E_109_x_R_lastAt_1 mo_x_R_lastAt_1 mv_x_R_lastAt_1 (gx_rmb rfl) sh_x_1 ⟨_, _, rfl⟩ rfl (k_x_R_lastAt_1 e_r2) rfl rfl (Nat.le_of_ble_eq_true rfl) ?_
    refine gx_ic_le hX (tgt := 29) (gx_dt dt_mi_x_E_at 10 rfl) (by decide) (fun c3 => ?_) (fun c3 => ?_)
    · have h := gx_ifp c3 h
      refine gx_aload_n hX (gx_dt dt_mi_x_E_at 15 rfl) rfl ?_
      refine gx_getr hX fl_E_10 sh_x_0 rfl (gx_dt dt_mi_x_E_at 16 rfl) ?_
      refine gx_geti hX fl_E_112 sh_x_1 rfl (gx_dt dt_mi_x_E_at 17 rfl) ?_
      refine gx_istore_n hX (ls' := [some (.inr 0), some (.inl a1), some (.inl (r2.2 1 1))]) (gx_dt dt_mi_x_E_at 18 rfl) (by decide) rfl ?_
      refine gx_aload_n hX (gx_dt dt_mi_x_E_at 19 rfl) rfl ?_
      refine gx_getr hX fl_E_10 sh_x_0 rfl (gx_dt dt_mi_x_E_at 20 rfl) ?_
      refine gx_iload_n hX (gx_dt dt_mi_x_E_at 21 rfl) rfl ?_
      obtain ⟨w4, e_w4, h⟩ := gx_bd h
      refine gx_putp hX fl_E_112 (pf_R_1 _) sh_x_1 rfl e_w4 (gx_dt dt_mi_x_E_at 22 rfl) ?_
      refine gx_iload_n hX (gx_dt dt_mi_x_E_at 23 rfl) rfl ?_
      obtain rfl := Option.some.inj h
      exact gx_iret hX (gx_dt dt_mi_x_E_at 24 rfl) rfl hres hwr
    · have h := gx_ifn c3 h
      refine gx_aload_n hX (gx_dt dt_mi_x_E_at 11 rfl) rfl ?_
      refine gx_bipush hX (v := (-6)) (gx_dt dt_mi_x_E_at 12 rfl) (by decide) ?_
      obtain ⟨r5, e_r5, h⟩ := gx_bd h
      refine gx_callVi hX (gx_dt dt_mi_x_E_at 13 rfl) ln_E_69_x_E_refuse mo_x_E_refuse mv_x_E_refuse (gx_rmb rfl) sh_x_0 ⟨_, _, rfl⟩ rfl (k_x_E_refuse e_r5) rfl rfl (Nat.le_of_ble_eq_true rfl) ?_
      obtain rfl := Option.some.inj h
      exact gx_iret hX (gx_dt dt_mi_x_E_at 14 rfl) rfl hres hwr
  · have h := gx_ifn c1 h
    refine gx_aload_n hX (gx_dt dt_mi_x_E_at 2 rfl) rfl ?_
    refine gx_bipush hX (v := (-4)) (gx_dt dt_mi_x_E_at 3 rfl) (by decide) ?_
    obtain ⟨r6, e_r6, h⟩ := gx_bd h
    refine gx_callVi hX (gx_dt dt_mi_x_E_at 4 rfl) ln_E_69_x_E_refuse mo_x_E_refuse mv_x_E_refuse (gx_rmb rfl) sh_x_0 ⟨_, _, rfl⟩ rfl (k_x_E_refuse e_r6) rfl rfl (Nat.le_of_ble_eq_true rfl) ?_
    obtain rfl := Option.some.inj h
    exact gx_iret hX (gx_dt dt_mi_x_E_at 5 rfl) rfl hres hwr
-- EachBearsPillar$Mind.asTold()V
def x_M_asTold_61 (w : gx_Wd) : Option (gx_Wd) :=
  (x_E_copyCells 6 25 w).bind fun r1 =>
  some r1
def x_M_asTold_29 : Nat → Int32 → gx_Wd → Option (gx_Wd)
  | 0, _, _ => none
  | n + 1, b1, w =>
  if 7 ≤ b1 then
    x_M_asTold_61 w
  else
  (x_E_setCell 23 b1 b1 w).bind fun r2 =>
  (x_E_setCell 24 b1 0 r2.2).bind fun r3 =>
  (some (b1 + 1)).bind fun v4 =>
  (x_M_asTold_29 n) v4 r3.2
def x_M_asTold (w : gx_Wd) : Option (gx_Wd) :=
  (gx_put w 22 1 (w 1 1)).bind fun w1 =>
  (gx_put w1 22 2 (w1 1 2)).bind fun w2 =>
  (gx_put w2 22 3 0).bind fun w3 =>
  x_M_asTold_29 6000 0 w3
theorem t_x_M_asTold_61 {X : gx_X} (hX : gx_Ok X mi_x_M_asTold) {R : gx_Wd} (hres : gx_res X = none) (hwr : gx_wr X = R) (w : gx_Wd) (h : x_M_asTold_61 w = some R) : gx_G X mi_x_M_asTold 61 [some (.inr 22)] [] w := by
  rw [x_M_asTold_61] at h
  refine gx_aload_n hX (gx_dt dt_mi_x_M_asTold 32 rfl) rfl ?_
  refine gx_getr hX fl_M_9 sh_x_22 rfl (gx_dt dt_mi_x_M_asTold 33 rfl) ?_
  refine gx_getr hX fl_M_52 sh_x_1 rfl (gx_dt dt_mi_x_M_asTold 34 rfl) ?_
  refine gx_aload_n hX (gx_dt dt_mi_x_M_asTold 35 rfl) rfl ?_
  refine gx_getr hX fl_M_32 sh_x_22 rfl (gx_dt dt_mi_x_M_asTold 36 rfl) ?_
  obtain ⟨r1, e_r1, h⟩ := gx_bd h
  refine gx_callSv hX (gx_dt dt_mi_x_M_asTold 37 rfl) ln_M_53_x_E_copyCells mo_x_E_copyCells ms_x_E_copyCells (gx_rmb rfl) rfl (k_x_E_copyCells e_r1) rfl rfl (Nat.le_of_ble_eq_true rfl) ?_
  obtain rfl := Option.some.inj h
  exact gx_vret hX (gx_dt dt_mi_x_M_asTold 38 rfl) rfl hres hwr
theorem t_x_M_asTold_29 {X : gx_X} (hX : gx_Ok X mi_x_M_asTold) {R : gx_Wd} (hres : gx_res X = none) (hwr : gx_wr X = R) : ∀ (n : Nat) (b1 : Int32) (w : gx_Wd), x_M_asTold_29 n b1 w = some R → gx_G X mi_x_M_asTold 29 [some (.inr 22), some (.inl b1)] [] w := by
  intro n
  induction n with
  | zero => intro b1 w h; rw [x_M_asTold_29] at h; cases h
  | succ n ih =>
    intro b1 w h
    rw [x_M_asTold_29] at h
    refine gx_iload_n hX (gx_dt dt_mi_x_M_asTold 15 rfl) rfl ?_
    refine gx_bipush hX (v := 7) (gx_dt dt_mi_x_M_asTold 16 rfl) (by decide) ?_
    refine gx_ic_ge hX (tgt := 61) (gx_dt dt_mi_x_M_asTold 17 rfl) (by decide) (fun c1 => ?_) (fun c1 => ?_)
    · have h := gx_ifp c1 h
      exact gx_weak (gx_leS gx_le0) (t_x_M_asTold_61 hX hres hwr _ h)
    · have h := gx_ifn c1 h
      refine gx_aload_n hX (gx_dt dt_mi_x_M_asTold 18 rfl) rfl ?_
      refine gx_getr hX fl_M_25 sh_x_22 rfl (gx_dt dt_mi_x_M_asTold 19 rfl) ?_
      refine gx_iload_n hX (gx_dt dt_mi_x_M_asTold 20 rfl) rfl ?_
      refine gx_iload_n hX (gx_dt dt_mi_x_M_asTold 21 rfl) rfl ?_
      obtain ⟨r2, e_r2, h⟩ := gx_bd h
      refine gx_callSi hX (gx_dt dt_mi_x_M_asTold 22 rfl) ln_M_48_x_E_setCell mo_x_E_setCell ms_x_E_setCell (gx_rmb rfl) rfl (k_x_E_setCell e_r2) rfl rfl (Nat.le_of_ble_eq_true rfl) ?_
      refine gx_pop hX (gx_dt dt_mi_x_M_asTold 23 rfl) ?_
      refine gx_aload_n hX (gx_dt dt_mi_x_M_asTold 24 rfl) rfl ?_
      refine gx_getr hX fl_M_29 sh_x_22 rfl (gx_dt dt_mi_x_M_asTold 25 rfl) ?_
      refine gx_iload_n hX (gx_dt dt_mi_x_M_asTold 26 rfl) rfl ?_
      refine gx_iconst hX (v := 0) (gx_dt dt_mi_x_M_asTold 27 rfl) (by decide) ?_
      obtain ⟨r3, e_r3, h⟩ := gx_bd h
      refine gx_callSi hX (gx_dt dt_mi_x_M_asTold 28 rfl) ln_M_48_x_E_setCell mo_x_E_setCell ms_x_E_setCell (gx_rmb rfl) rfl (k_x_E_setCell e_r3) rfl rfl (Nat.le_of_ble_eq_true rfl) ?_
      refine gx_pop hX (gx_dt dt_mi_x_M_asTold 29 rfl) ?_
      obtain ⟨v4, e_v4, h⟩ := gx_bd h
      refine gx_iinc hX (v := v4) (ls' := [some (.inr 22), some (.inl v4)]) (gx_dt dt_mi_x_M_asTold 30 rfl) rfl (gx_ii e_v4 (by decide)) (by decide) rfl ?_
      refine gx_goto hX (tgt := 29) (gx_dt dt_mi_x_M_asTold 31 rfl) (by decide) ?_
      exact gx_weak (gx_leS (gx_leS gx_le0)) (ih _ _ h)
theorem k_x_M_asTold {w : gx_Wd} {R : gx_Wd} (h : x_M_asTold w = some R) : gx_MT mi_x_M_asTold [.inr 22] w none R := by
  refine gx_met (by decide +kernel) (Nat.le_of_ble_eq_true rfl) (fun X hX hres hwr => ?_)
  show gx_G X mi_x_M_asTold 0 [some (.inr 22)] [] w
  rw [x_M_asTold] at h
  refine gx_aload_n hX (gx_dt dt_mi_x_M_asTold 0 rfl) rfl ?_
  refine gx_aload_n hX (gx_dt dt_mi_x_M_asTold 1 rfl) rfl ?_
  refine gx_getr hX fl_M_9 sh_x_22 rfl (gx_dt dt_mi_x_M_asTold 2 rfl) ?_
  refine gx_geti hX fl_M_44 sh_x_1 rfl (gx_dt dt_mi_x_M_asTold 3 rfl) ?_
  obtain ⟨w1, e_w1, h⟩ := gx_bd h
  refine gx_putp hX fl_M_15 (pf_M_1 _) sh_x_22 rfl e_w1 (gx_dt dt_mi_x_M_asTold 4 rfl) ?_
  refine gx_aload_n hX (gx_dt dt_mi_x_M_asTold 5 rfl) rfl ?_
  refine gx_aload_n hX (gx_dt dt_mi_x_M_asTold 6 rfl) rfl ?_
  refine gx_getr hX fl_M_9 sh_x_22 rfl (gx_dt dt_mi_x_M_asTold 7 rfl) ?_
  refine gx_geti hX fl_M_47 sh_x_1 rfl (gx_dt dt_mi_x_M_asTold 8 rfl) ?_
  obtain ⟨w2, e_w2, h⟩ := gx_bd h
  refine gx_putp hX fl_M_19 (pf_M_2 _) sh_x_22 rfl e_w2 (gx_dt dt_mi_x_M_asTold 9 rfl) ?_
  refine gx_aload_n hX (gx_dt dt_mi_x_M_asTold 10 rfl) rfl ?_
  refine gx_iconst hX (v := 0) (gx_dt dt_mi_x_M_asTold 11 rfl) (by decide) ?_
  obtain ⟨w3, e_w3, h⟩ := gx_bd h
  refine gx_putp hX fl_M_22 (pf_M_3 _) sh_x_22 rfl e_w3 (gx_dt dt_mi_x_M_asTold 12 rfl) ?_
  refine gx_iconst hX (v := 0) (gx_dt dt_mi_x_M_asTold 13 rfl) (by decide) ?_
  refine gx_istore_n hX (ls' := [some (.inr 22), some (.inl (0))]) (gx_dt dt_mi_x_M_asTold 14 rfl) (by decide) rfl ?_
  exact gx_weak (gx_leS (gx_leS gx_le0)) (t_x_M_asTold_29 hX hres hwr _ _ _ h)
-- EachBearsPillar$Mind.topOf(II)I
def x_M_topOf (a1 : Int32) (a2 : Int32) (w : gx_Wd) : Option (Int32 × gx_Wd) :=
  (x_E_cell 7 ((w 22 1) + a2) w).bind fun r1 =>
  (x_E_cell 4 a1 r1.2).bind fun r2 =>
  (x_E_cell 5 a1 r2.2).bind fun r3 =>
  (x_E_cell 24 a1 r3.2).bind fun r4 =>
  some (((r1.1 + r2.1) + r3.1) + r4.1, r4.2)
theorem k_x_M_topOf {a1 : Int32} {a2 : Int32} {w : gx_Wd} {R : Int32 × gx_Wd} (h : x_M_topOf a1 a2 w = some R) : gx_MT mi_x_M_topOf [.inr 22, .inl a1, .inl a2] w (some (.inl R.1)) R.2 := by
  refine gx_met (by decide +kernel) (Nat.le_of_ble_eq_true rfl) (fun X hX hres hwr => ?_)
  show gx_G X mi_x_M_topOf 0 [some (.inr 22), some (.inl a1), some (.inl a2)] [] w
  rw [x_M_topOf] at h
  refine gx_aload_n hX (gx_dt dt_mi_x_M_topOf 0 rfl) rfl ?_
  refine gx_getr hX fl_M_9 sh_x_22 rfl (gx_dt dt_mi_x_M_topOf 1 rfl) ?_
  refine gx_getr hX fl_M_57 sh_x_1 rfl (gx_dt dt_mi_x_M_topOf 2 rfl) ?_
  refine gx_aload_n hX (gx_dt dt_mi_x_M_topOf 3 rfl) rfl ?_
  refine gx_geti hX fl_M_15 sh_x_22 rfl (gx_dt dt_mi_x_M_topOf 4 rfl) ?_
  refine gx_iload_n hX (gx_dt dt_mi_x_M_topOf 5 rfl) rfl ?_
  refine gx_iadd hX (gx_dt dt_mi_x_M_topOf 6 rfl) ?_
  obtain ⟨r1, e_r1, h⟩ := gx_bd h
  refine gx_callSi hX (gx_dt dt_mi_x_M_topOf 7 rfl) ln_M_60_x_E_cell mo_x_E_cell ms_x_E_cell (gx_rmb rfl) rfl (k_x_E_cell e_r1) rfl rfl (Nat.le_of_ble_eq_true rfl) ?_
  refine gx_aload_n hX (gx_dt dt_mi_x_M_topOf 8 rfl) rfl ?_
  refine gx_getr hX fl_M_9 sh_x_22 rfl (gx_dt dt_mi_x_M_topOf 9 rfl) ?_
  refine gx_getr hX fl_M_64 sh_x_1 rfl (gx_dt dt_mi_x_M_topOf 10 rfl) ?_
  refine gx_iload_n hX (gx_dt dt_mi_x_M_topOf 11 rfl) rfl ?_
  obtain ⟨r2, e_r2, h⟩ := gx_bd h
  refine gx_callSi hX (gx_dt dt_mi_x_M_topOf 12 rfl) ln_M_60_x_E_cell mo_x_E_cell ms_x_E_cell (gx_rmb rfl) rfl (k_x_E_cell e_r2) rfl rfl (Nat.le_of_ble_eq_true rfl) ?_
  refine gx_iadd hX (gx_dt dt_mi_x_M_topOf 13 rfl) ?_
  refine gx_aload_n hX (gx_dt dt_mi_x_M_topOf 14 rfl) rfl ?_
  refine gx_getr hX fl_M_9 sh_x_22 rfl (gx_dt dt_mi_x_M_topOf 15 rfl) ?_
  refine gx_getr hX fl_M_67 sh_x_1 rfl (gx_dt dt_mi_x_M_topOf 16 rfl) ?_
  refine gx_iload_n hX (gx_dt dt_mi_x_M_topOf 17 rfl) rfl ?_
  obtain ⟨r3, e_r3, h⟩ := gx_bd h
  refine gx_callSi hX (gx_dt dt_mi_x_M_topOf 18 rfl) ln_M_60_x_E_cell mo_x_E_cell ms_x_E_cell (gx_rmb rfl) rfl (k_x_E_cell e_r3) rfl rfl (Nat.le_of_ble_eq_true rfl) ?_
  refine gx_iadd hX (gx_dt dt_mi_x_M_topOf 19 rfl) ?_
  refine gx_aload_n hX (gx_dt dt_mi_x_M_topOf 20 rfl) rfl ?_
  refine gx_getr hX fl_M_29 sh_x_22 rfl (gx_dt dt_mi_x_M_topOf 21 rfl) ?_
  refine gx_iload_n hX (gx_dt dt_mi_x_M_topOf 22 rfl) rfl ?_
  obtain ⟨r4, e_r4, h⟩ := gx_bd h
  refine gx_callSi hX (gx_dt dt_mi_x_M_topOf 23 rfl) ln_M_60_x_E_cell mo_x_E_cell ms_x_E_cell (gx_rmb rfl) rfl (k_x_E_cell e_r4) rfl rfl (Nat.le_of_ble_eq_true rfl) ?_
  refine gx_iadd hX (gx_dt dt_mi_x_M_topOf 24 rfl) ?_
  obtain rfl := Option.some.inj h
  exact gx_iret hX (gx_dt dt_mi_x_M_topOf 25 rfl) rfl hres hwr
end
section
-- EachBearsPillar$Mind.canBear(II)Z
def x_M_canBear (a1 : Int32) (a2 : Int32) (w : gx_Wd) : Option (Int32 × gx_Wd) :=
  (x_E_cell 2 a1 w).bind fun r1 =>
  if r1.1 = 3 then
    some (0, r1.2)
  else
  if a2 < r1.2 22 2 then
    some (0, r1.2)
  else
  some (1, r1.2)
theorem k_x_M_canBear {a1 : Int32} {a2 : Int32} {w : gx_Wd} {R : Int32 × gx_Wd} (h : x_M_canBear a1 a2 w = some R) : gx_MT mi_x_M_canBear [.inr 22, .inl a1, .inl a2] w (some (.inl R.1)) R.2 := by
  refine gx_met (by decide +kernel) (Nat.le_of_ble_eq_true rfl) (fun X hX hres hwr => ?_)
  show gx_G X mi_x_M_canBear 0 [some (.inr 22), some (.inl a1), some (.inl a2)] [] w
  rw [x_M_canBear] at h
  refine gx_aload_n hX (gx_dt dt_mi_x_M_canBear 0 rfl) rfl ?_
  refine gx_getr hX fl_M_9 sh_x_22 rfl (gx_dt dt_mi_x_M_canBear 1 rfl) ?_
  refine gx_getr hX fl_M_70 sh_x_1 rfl (gx_dt dt_mi_x_M_canBear 2 rfl) ?_
  refine gx_iload_n hX (gx_dt dt_mi_x_M_canBear 3 rfl) rfl ?_
  obtain ⟨r1, e_r1, h⟩ := gx_bd h
  refine gx_callSi hX (gx_dt dt_mi_x_M_canBear 4 rfl) ln_M_60_x_E_cell mo_x_E_cell ms_x_E_cell (gx_rmb rfl) rfl (k_x_E_cell e_r1) rfl rfl (Nat.le_of_ble_eq_true rfl) ?_
  refine gx_iconst hX (v := 3) (gx_dt dt_mi_x_M_canBear 5 rfl) (by decide) ?_
  refine gx_ic_eq hX (tgt := 27) (gx_dt dt_mi_x_M_canBear 6 rfl) (by decide) (fun c2 => ?_) (fun c2 => ?_)
  · have h := gx_ifp c2 h
    refine gx_iconst hX (v := 0) (gx_dt dt_mi_x_M_canBear 13 rfl) (by decide) ?_
    obtain rfl := Option.some.inj h
    exact gx_zret hX (gx_dt dt_mi_x_M_canBear 14 rfl) rfl rfl hres hwr
  · have h := gx_ifn c2 h
    refine gx_iload_n hX (gx_dt dt_mi_x_M_canBear 7 rfl) rfl ?_
    refine gx_aload_n hX (gx_dt dt_mi_x_M_canBear 8 rfl) rfl ?_
    refine gx_geti hX fl_M_19 sh_x_22 rfl (gx_dt dt_mi_x_M_canBear 9 rfl) ?_
    refine gx_ic_lt hX (tgt := 27) (gx_dt dt_mi_x_M_canBear 10 rfl) (by decide) (fun c3 => ?_) (fun c3 => ?_)
    · have h := gx_ifp c3 h
      refine gx_iconst hX (v := 0) (gx_dt dt_mi_x_M_canBear 13 rfl) (by decide) ?_
      obtain rfl := Option.some.inj h
      exact gx_zret hX (gx_dt dt_mi_x_M_canBear 14 rfl) rfl rfl hres hwr
    · have h := gx_ifn c3 h
      refine gx_iconst hX (v := 1) (gx_dt dt_mi_x_M_canBear 11 rfl) (by decide) ?_
      refine gx_goto hX (tgt := 28) (gx_dt dt_mi_x_M_canBear 12 rfl) (by decide) ?_
      obtain rfl := Option.some.inj h
      exact gx_zret hX (gx_dt dt_mi_x_M_canBear 14 rfl) rfl rfl hres hwr
-- EachBearsPillar$Mind.mightOf(II)I
def x_M_mightOf_27 (b1 : Int32) (b3 : Int32) (s0 : Int32) (w : gx_Wd) : Option (Int32 × gx_Wd) :=
  (x_E_cell 2 b1 w).bind fun r1 =>
  if r1.1 = 1 then
    some (s0 / 2, r1.2)
  else
  if r1.1 = 2 then
    some (2 * s0, r1.2)
  else
  if r1.1 = 4 then
    some ((if 0 < s0 - 3 then s0 - 3 else 0), r1.2)
  else
  if r1.1 = 5 then
    some (2 * b3, r1.2)
  else
  some (s0, r1.2)
def x_M_mightOf (a1 : Int32) (a2 : Int32) (w : gx_Wd) : Option (Int32 × gx_Wd) :=
  (x_E_cell 3 a1 w).bind fun r1 =>
  if a2 ≤ r1.2 22 2 then
    x_M_mightOf_27 a1 r1.1 r1.1 r1.2
  else
  x_M_mightOf_27 a1 r1.1 (r1.1 / 2) r1.2
theorem t_x_M_mightOf_27 {X : gx_X} (hX : gx_Ok X mi_x_M_mightOf) {R : Int32 × gx_Wd} (hres : gx_res X = some (.inl R.1)) (hwr : gx_wr X = R.2) (b1 : Int32) (b3 : Int32) (s0 : Int32) (w : gx_Wd) (h : x_M_mightOf_27 b1 b3 s0 w = some R) : gx_G X mi_x_M_mightOf 27 [some (.inr 22), some (.inl b1), none, some (.inl b3)] [.inl s0] w := by
  rw [x_M_mightOf_27] at h
  refine gx_istore hX (ls' := [some (.inr 22), some (.inl b1), none, some (.inl b3), some (.inl s0)]) (gx_dt dt_mi_x_M_mightOf 15 rfl) (by decide) rfl ?_
  refine gx_aload_n hX (gx_dt dt_mi_x_M_mightOf 16 rfl) rfl ?_
  refine gx_getr hX fl_M_9 sh_x_22 rfl (gx_dt dt_mi_x_M_mightOf 17 rfl) ?_
  refine gx_getr hX fl_M_70 sh_x_1 rfl (gx_dt dt_mi_x_M_mightOf 18 rfl) ?_
  refine gx_iload_n hX (gx_dt dt_mi_x_M_mightOf 19 rfl) rfl ?_
  obtain ⟨r1, e_r1, h⟩ := gx_bd h
  refine gx_callSi hX (gx_dt dt_mi_x_M_mightOf 20 rfl) ln_M_60_x_E_cell mo_x_E_cell ms_x_E_cell (gx_rmb rfl) rfl (k_x_E_cell e_r1) rfl rfl (Nat.le_of_ble_eq_true rfl) ?_
  by_cases c2 : r1.1 = 1
  · have h := gx_ifp c2 h
    refine gx_tabIn hX (off := 36) (tgt := 76) (gx_dt dt_mi_x_M_mightOf 21 rfl) (by rw [c2]; decide) (by rw [c2]; decide) (by rw [c2]; rfl) (by decide) ?_
    refine gx_iload hX (gx_dt dt_mi_x_M_mightOf 22 rfl) rfl ?_
    refine gx_iconst hX (v := 2) (gx_dt dt_mi_x_M_mightOf 23 rfl) (by decide) ?_
    refine gx_idiv hX (gx_dt dt_mi_x_M_mightOf 24 rfl) (by decide) ?_
    obtain rfl := Option.some.inj h
    exact gx_iret hX (gx_dt dt_mi_x_M_mightOf 25 rfl) rfl hres hwr
  have h := gx_ifn c2 h
  by_cases c3 : r1.1 = 2
  · have h := gx_ifp c3 h
    refine gx_tabIn hX (off := 41) (tgt := 81) (gx_dt dt_mi_x_M_mightOf 21 rfl) (by rw [c3]; decide) (by rw [c3]; decide) (by rw [c3]; rfl) (by decide) ?_
    refine gx_iconst hX (v := 2) (gx_dt dt_mi_x_M_mightOf 26 rfl) (by decide) ?_
    refine gx_iload hX (gx_dt dt_mi_x_M_mightOf 27 rfl) rfl ?_
    refine gx_imul hX (gx_dt dt_mi_x_M_mightOf 28 rfl) ?_
    obtain rfl := Option.some.inj h
    exact gx_iret hX (gx_dt dt_mi_x_M_mightOf 29 rfl) rfl hres hwr
  have h := gx_ifn c3 h
  by_cases c4 : r1.1 = 4
  · have h := gx_ifp c4 h
    refine gx_tabIn hX (off := 46) (tgt := 86) (gx_dt dt_mi_x_M_mightOf 21 rfl) (by rw [c4]; decide) (by rw [c4]; decide) (by rw [c4]; rfl) (by decide) ?_
    refine gx_iconst hX (v := 0) (gx_dt dt_mi_x_M_mightOf 30 rfl) (by decide) ?_
    refine gx_iload hX (gx_dt dt_mi_x_M_mightOf 31 rfl) rfl ?_
    refine gx_iconst hX (v := 3) (gx_dt dt_mi_x_M_mightOf 32 rfl) (by decide) ?_
    refine gx_isub hX (gx_dt dt_mi_x_M_mightOf 33 rfl) ?_
    refine gx_max hX (gx_dt dt_mi_x_M_mightOf 34 rfl) wr_methodLink_M_76 w_max_static w_math_init w_max_code (Nat.le_of_ble_eq_true rfl) (Nat.le_of_ble_eq_true rfl) ?_
    obtain rfl := Option.some.inj h
    exact gx_iret hX (gx_dt dt_mi_x_M_mightOf 35 rfl) rfl hres hwr
  have h := gx_ifn c4 h
  by_cases c5 : r1.1 = 5
  · have h := gx_ifp c5 h
    refine gx_tabIn hX (off := 55) (tgt := 95) (gx_dt dt_mi_x_M_mightOf 21 rfl) (by rw [c5]; decide) (by rw [c5]; decide) (by rw [c5]; rfl) (by decide) ?_
    refine gx_iconst hX (v := 2) (gx_dt dt_mi_x_M_mightOf 36 rfl) (by decide) ?_
    refine gx_iload_n hX (gx_dt dt_mi_x_M_mightOf 37 rfl) rfl ?_
    refine gx_imul hX (gx_dt dt_mi_x_M_mightOf 38 rfl) ?_
    obtain rfl := Option.some.inj h
    exact gx_iret hX (gx_dt dt_mi_x_M_mightOf 39 rfl) rfl hres hwr
  have h := gx_ifn c5 h
  refine gx_tabD hX (tgt := 99) (gx_dt dt_mi_x_M_mightOf 21 rfl) (gx_tdC (Or.inr (lv_neT c2 rfl)) (gx_tdC (Or.inr (lv_neT c3 rfl)) (gx_tdC (Or.inl rfl) (gx_tdC (Or.inr (lv_neT c4 rfl)) (gx_tdC (Or.inr (lv_neT c5 rfl)) gx_td0))))) (by decide) (by decide) ?_
  refine gx_iload hX (gx_dt dt_mi_x_M_mightOf 40 rfl) rfl ?_
  obtain rfl := Option.some.inj h
  exact gx_iret hX (gx_dt dt_mi_x_M_mightOf 41 rfl) rfl hres hwr
theorem k_x_M_mightOf {a1 : Int32} {a2 : Int32} {w : gx_Wd} {R : Int32 × gx_Wd} (h : x_M_mightOf a1 a2 w = some R) : gx_MT mi_x_M_mightOf [.inr 22, .inl a1, .inl a2] w (some (.inl R.1)) R.2 := by
  refine gx_met (by decide +kernel) (Nat.le_of_ble_eq_true rfl) (fun X hX hres hwr => ?_)
  show gx_G X mi_x_M_mightOf 0 [some (.inr 22), some (.inl a1), some (.inl a2)] [] w
  rw [x_M_mightOf] at h
  refine gx_aload_n hX (gx_dt dt_mi_x_M_mightOf 0 rfl) rfl ?_
  refine gx_getr hX fl_M_9 sh_x_22 rfl (gx_dt dt_mi_x_M_mightOf 1 rfl) ?_
  refine gx_getr hX fl_M_73 sh_x_1 rfl (gx_dt dt_mi_x_M_mightOf 2 rfl) ?_
  refine gx_iload_n hX (gx_dt dt_mi_x_M_mightOf 3 rfl) rfl ?_
  obtain ⟨r1, e_r1, h⟩ := gx_bd h
  refine gx_callSi hX (gx_dt dt_mi_x_M_mightOf 4 rfl) ln_M_60_x_E_cell mo_x_E_cell ms_x_E_cell (gx_rmb rfl) rfl (k_x_E_cell e_r1) rfl rfl (Nat.le_of_ble_eq_true rfl) ?_
  refine gx_istore_n hX (ls' := [some (.inr 22), some (.inl a1), some (.inl a2), some (.inl (r1.1))]) (gx_dt dt_mi_x_M_mightOf 5 rfl) (by decide) rfl ?_
  refine gx_iload_n hX (gx_dt dt_mi_x_M_mightOf 6 rfl) rfl ?_
  refine gx_aload_n hX (gx_dt dt_mi_x_M_mightOf 7 rfl) rfl ?_
  refine gx_geti hX fl_M_19 sh_x_22 rfl (gx_dt dt_mi_x_M_mightOf 8 rfl) ?_
  refine gx_ic_le hX (tgt := 26) (gx_dt dt_mi_x_M_mightOf 9 rfl) (by decide) (fun c2 => ?_) (fun c2 => ?_)
  · have h := gx_ifp c2 h
    refine gx_iload_n hX (gx_dt dt_mi_x_M_mightOf 14 rfl) rfl ?_
    exact gx_weak (gx_leS (gx_leS (gx_leN (gx_leS gx_le0)))) (t_x_M_mightOf_27 hX hres hwr _ _ _ _ h)
  · have h := gx_ifn c2 h
    refine gx_iload_n hX (gx_dt dt_mi_x_M_mightOf 10 rfl) rfl ?_
    refine gx_iconst hX (v := 2) (gx_dt dt_mi_x_M_mightOf 11 rfl) (by decide) ?_
    refine gx_idiv hX (gx_dt dt_mi_x_M_mightOf 12 rfl) (by decide) ?_
    refine gx_goto hX (tgt := 27) (gx_dt dt_mi_x_M_mightOf 13 rfl) (by decide) ?_
    exact gx_weak (gx_leS (gx_leS (gx_leN (gx_leS gx_le0)))) (t_x_M_mightOf_27 hX hres hwr _ _ _ _ h)
-- EachBearsPillar.bearer(II)I
def x_E_bearer (a1 : Int32) (a2 : Int32) (w : gx_Wd) : Option (Int32 × gx_Wd) :=
  (x_R_hasBearer_1 a1 w).bind fun r1 =>
  if r1.1 = 0 then
    (x_E_refuse (-1) r1.2).bind fun r24 =>
    some (r24.1, r24.2)
  else
    (x_M_asTold r1.2).bind fun r3 =>
    (x_M_topOf a1 a1 r3).bind fun r4 =>
    if a2 = 0 then
      (x_E_cell 2 a1 r4.2).bind fun r6 =>
      some (r6.1, r6.2)
    else
    if a2 = 1 then
      (x_E_cell 3 a1 r4.2).bind fun r8 =>
      some (r8.1, r8.2)
    else
    if a2 = 2 then
      (x_E_cell 4 a1 r4.2).bind fun r10 =>
      some (r10.1, r10.2)
    else
    if a2 = 3 then
      (x_E_cell 5 a1 r4.2).bind fun r12 =>
      some (r12.1, r12.2)
    else
    if a2 = 4 then
      some (r4.1, r4.2)
    else
    if a2 = 5 then
      (x_M_canBear a1 r4.1 r4.2).bind fun r15 =>
      if r15.1 = 0 then
        some (0, r15.2)
      else
      some (1, r15.2)
    else
    if a2 = 6 then
      (x_M_canBear a1 r4.1 r4.2).bind fun r18 =>
      if r18.1 = 0 then
        some (0, r18.2)
      else
      if r4.1 ≤ r18.2 1 2 then
        some (0, r18.2)
      else
      some (1, r18.2)
    else
    if a2 = 7 then
      (x_M_mightOf a1 r4.1 r4.2).bind fun r22 =>
      some (r22.1, r22.2)
    else
    (x_E_refuse (-2) r4.2).bind fun r23 =>
    some (r23.1, r23.2)
theorem k_x_E_bearer {a1 : Int32} {a2 : Int32} {w : gx_Wd} {R : Int32 × gx_Wd} (h : x_E_bearer a1 a2 w = some R) : gx_MT mi_x_E_bearer [.inr 0, .inl a1, .inl a2] w (some (.inl R.1)) R.2 := by
  refine gx_met (by decide +kernel) (Nat.le_of_ble_eq_true rfl) (fun X hX hres hwr => ?_)
  show gx_G X mi_x_E_bearer 0 [some (.inr 0), some (.inl a1), some (.inl a2)] [] w
  rw [x_E_bearer] at h
  refine gx_aload_n hX (gx_dt dt_mi_x_E_bearer 0 rfl) rfl ?_
  refine gx_getr hX fl_E_10 sh_x_0 rfl (gx_dt dt_mi_x_E_bearer 1 rfl) ?_
  refine gx_iload_n hX (gx_dt dt_mi_x_E_bearer 2 rfl) rfl ?_
  obtain ⟨r1, e_r1, h⟩ := gx_bd h
  refine gx_callVi hX (gx_dt dt_mi_x_E_bearer 3 rfl) ln_E_103_x_R_hasBearer_1 mo_x_R_hasBearer_1 mv_x_R_hasBearer_1 (gx_rmb rfl) sh_x_1 ⟨_, _, rfl⟩ rfl (k_x_R_hasBearer_1 e_r1) rfl rfl (Nat.le_of_ble_eq_true rfl) ?_
  refine gx_if_ne hX (tgt := 17) (gx_dt dt_mi_x_E_bearer 4 rfl) (by decide) (fun c2 => ?_) (fun c2 => ?_)
  · have h := gx_ifn c2 h
    refine gx_aload_n hX (gx_dt dt_mi_x_E_bearer 9 rfl) rfl ?_
    refine gx_getr hX fl_E_31 sh_x_0 rfl (gx_dt dt_mi_x_E_bearer 10 rfl) ?_
    obtain ⟨r3, e_r3, h⟩ := gx_bd h
    refine gx_callVv hX (gx_dt dt_mi_x_E_bearer 11 rfl) ln_E_115_x_M_asTold mo_x_M_asTold mv_x_M_asTold (gx_rmb rfl) sh_x_22 ⟨_, _, rfl⟩ rfl (k_x_M_asTold e_r3) rfl rfl (Nat.le_of_ble_eq_true rfl) ?_
    refine gx_aload_n hX (gx_dt dt_mi_x_E_bearer 12 rfl) rfl ?_
    refine gx_getr hX fl_E_31 sh_x_0 rfl (gx_dt dt_mi_x_E_bearer 13 rfl) ?_
    refine gx_iload_n hX (gx_dt dt_mi_x_E_bearer 14 rfl) rfl ?_
    refine gx_iload_n hX (gx_dt dt_mi_x_E_bearer 15 rfl) rfl ?_
    obtain ⟨r4, e_r4, h⟩ := gx_bd h
    refine gx_callVi hX (gx_dt dt_mi_x_E_bearer 16 rfl) ln_E_118_x_M_topOf mo_x_M_topOf mv_x_M_topOf (gx_rmb rfl) sh_x_22 ⟨_, _, rfl⟩ rfl (k_x_M_topOf e_r4) rfl rfl (Nat.le_of_ble_eq_true rfl) ?_
    refine gx_istore_n hX (ls' := [some (.inr 0), some (.inl a1), some (.inl a2), some (.inl (r4.1))]) (gx_dt dt_mi_x_E_bearer 17 rfl) (by decide) rfl ?_
    refine gx_iload_n hX (gx_dt dt_mi_x_E_bearer 18 rfl) rfl ?_
    by_cases c5 : a2 = 0
    · have h := gx_ifp c5 h
      refine gx_tabIn hX (off := 45) (tgt := 80) (gx_dt dt_mi_x_E_bearer 19 rfl) (by rw [c5]; decide) (by rw [c5]; decide) (by rw [c5]; rfl) (by decide) ?_
      refine gx_aload_n hX (gx_dt dt_mi_x_E_bearer 20 rfl) rfl ?_
      refine gx_getr hX fl_E_10 sh_x_0 rfl (gx_dt dt_mi_x_E_bearer 21 rfl) ?_
      refine gx_getr hX fl_E_122 sh_x_1 rfl (gx_dt dt_mi_x_E_bearer 22 rfl) ?_
      refine gx_iload_n hX (gx_dt dt_mi_x_E_bearer 23 rfl) rfl ?_
      obtain ⟨r6, e_r6, h⟩ := gx_bd h
      refine gx_callSi hX (gx_dt dt_mi_x_E_bearer 24 rfl) ln_E_125_x_E_cell mo_x_E_cell ms_x_E_cell (gx_rmb rfl) rfl (k_x_E_cell e_r6) rfl rfl (Nat.le_of_ble_eq_true rfl) ?_
      obtain rfl := Option.some.inj h
      exact gx_iret hX (gx_dt dt_mi_x_E_bearer 25 rfl) rfl hres hwr
    have h := gx_ifn c5 h
    by_cases c7 : a2 = 1
    · have h := gx_ifp c7 h
      refine gx_tabIn hX (off := 57) (tgt := 92) (gx_dt dt_mi_x_E_bearer 19 rfl) (by rw [c7]; decide) (by rw [c7]; decide) (by rw [c7]; rfl) (by decide) ?_
      refine gx_aload_n hX (gx_dt dt_mi_x_E_bearer 26 rfl) rfl ?_
      refine gx_getr hX fl_E_10 sh_x_0 rfl (gx_dt dt_mi_x_E_bearer 27 rfl) ?_
      refine gx_getr hX fl_E_129 sh_x_1 rfl (gx_dt dt_mi_x_E_bearer 28 rfl) ?_
      refine gx_iload_n hX (gx_dt dt_mi_x_E_bearer 29 rfl) rfl ?_
      obtain ⟨r8, e_r8, h⟩ := gx_bd h
      refine gx_callSi hX (gx_dt dt_mi_x_E_bearer 30 rfl) ln_E_125_x_E_cell mo_x_E_cell ms_x_E_cell (gx_rmb rfl) rfl (k_x_E_cell e_r8) rfl rfl (Nat.le_of_ble_eq_true rfl) ?_
      obtain rfl := Option.some.inj h
      exact gx_iret hX (gx_dt dt_mi_x_E_bearer 31 rfl) rfl hres hwr
    have h := gx_ifn c7 h
    by_cases c9 : a2 = 2
    · have h := gx_ifp c9 h
      refine gx_tabIn hX (off := 69) (tgt := 104) (gx_dt dt_mi_x_E_bearer 19 rfl) (by rw [c9]; decide) (by rw [c9]; decide) (by rw [c9]; rfl) (by decide) ?_
      refine gx_aload_n hX (gx_dt dt_mi_x_E_bearer 32 rfl) rfl ?_
      refine gx_getr hX fl_E_10 sh_x_0 rfl (gx_dt dt_mi_x_E_bearer 33 rfl) ?_
      refine gx_getr hX fl_E_132 sh_x_1 rfl (gx_dt dt_mi_x_E_bearer 34 rfl) ?_
      refine gx_iload_n hX (gx_dt dt_mi_x_E_bearer 35 rfl) rfl ?_
      obtain ⟨r10, e_r10, h⟩ := gx_bd h
      refine gx_callSi hX (gx_dt dt_mi_x_E_bearer 36 rfl) ln_E_125_x_E_cell mo_x_E_cell ms_x_E_cell (gx_rmb rfl) rfl (k_x_E_cell e_r10) rfl rfl (Nat.le_of_ble_eq_true rfl) ?_
      obtain rfl := Option.some.inj h
      exact gx_iret hX (gx_dt dt_mi_x_E_bearer 37 rfl) rfl hres hwr
    have h := gx_ifn c9 h
    by_cases c11 : a2 = 3
    · have h := gx_ifp c11 h
      refine gx_tabIn hX (off := 81) (tgt := 116) (gx_dt dt_mi_x_E_bearer 19 rfl) (by rw [c11]; decide) (by rw [c11]; decide) (by rw [c11]; rfl) (by decide) ?_
      refine gx_aload_n hX (gx_dt dt_mi_x_E_bearer 38 rfl) rfl ?_
      refine gx_getr hX fl_E_10 sh_x_0 rfl (gx_dt dt_mi_x_E_bearer 39 rfl) ?_
      refine gx_getr hX fl_E_106 sh_x_1 rfl (gx_dt dt_mi_x_E_bearer 40 rfl) ?_
      refine gx_iload_n hX (gx_dt dt_mi_x_E_bearer 41 rfl) rfl ?_
      obtain ⟨r12, e_r12, h⟩ := gx_bd h
      refine gx_callSi hX (gx_dt dt_mi_x_E_bearer 42 rfl) ln_E_125_x_E_cell mo_x_E_cell ms_x_E_cell (gx_rmb rfl) rfl (k_x_E_cell e_r12) rfl rfl (Nat.le_of_ble_eq_true rfl) ?_
      obtain rfl := Option.some.inj h
      exact gx_iret hX (gx_dt dt_mi_x_E_bearer 43 rfl) rfl hres hwr
    have h := gx_ifn c11 h
    by_cases c13 : a2 = 4
    · have h := gx_ifp c13 h
      refine gx_tabIn hX (off := 93) (tgt := 128) (gx_dt dt_mi_x_E_bearer 19 rfl) (by rw [c13]; decide) (by rw [c13]; decide) (by rw [c13]; rfl) (by decide) ?_
      refine gx_iload_n hX (gx_dt dt_mi_x_E_bearer 44 rfl) rfl ?_
      obtain rfl := Option.some.inj h
      exact gx_iret hX (gx_dt dt_mi_x_E_bearer 45 rfl) rfl hres hwr
    have h := gx_ifn c13 h
    by_cases c14 : a2 = 5
    · have h := gx_ifp c14 h
      refine gx_tabIn hX (off := 95) (tgt := 130) (gx_dt dt_mi_x_E_bearer 19 rfl) (by rw [c14]; decide) (by rw [c14]; decide) (by rw [c14]; rfl) (by decide) ?_
      refine gx_aload_n hX (gx_dt dt_mi_x_E_bearer 46 rfl) rfl ?_
      refine gx_getr hX fl_E_31 sh_x_0 rfl (gx_dt dt_mi_x_E_bearer 47 rfl) ?_
      refine gx_iload_n hX (gx_dt dt_mi_x_E_bearer 48 rfl) rfl ?_
      refine gx_iload_n hX (gx_dt dt_mi_x_E_bearer 49 rfl) rfl ?_
      obtain ⟨r15, e_r15, h⟩ := gx_bd h
      refine gx_callVi hX (gx_dt dt_mi_x_E_bearer 50 rfl) ln_E_135_x_M_canBear mo_x_M_canBear mv_x_M_canBear (gx_rmb rfl) sh_x_22 ⟨_, _, rfl⟩ rfl (k_x_M_canBear e_r15) rfl rfl (Nat.le_of_ble_eq_true rfl) ?_
      refine gx_if_eq hX (tgt := 146) (gx_dt dt_mi_x_E_bearer 51 rfl) (by decide) (fun c16 => ?_) (fun c16 => ?_)
      · have h := gx_ifp c16 h
        refine gx_iconst hX (v := 0) (gx_dt dt_mi_x_E_bearer 54 rfl) (by decide) ?_
        obtain rfl := Option.some.inj h
        exact gx_iret hX (gx_dt dt_mi_x_E_bearer 55 rfl) rfl hres hwr
      · have h := gx_ifn c16 h
        refine gx_iconst hX (v := 1) (gx_dt dt_mi_x_E_bearer 52 rfl) (by decide) ?_
        refine gx_goto hX (tgt := 147) (gx_dt dt_mi_x_E_bearer 53 rfl) (by decide) ?_
        obtain rfl := Option.some.inj h
        exact gx_iret hX (gx_dt dt_mi_x_E_bearer 55 rfl) rfl hres hwr
    have h := gx_ifn c14 h
    by_cases c17 : a2 = 6
    · have h := gx_ifp c17 h
      refine gx_tabIn hX (off := 113) (tgt := 148) (gx_dt dt_mi_x_E_bearer 19 rfl) (by rw [c17]; decide) (by rw [c17]; decide) (by rw [c17]; rfl) (by decide) ?_
      refine gx_aload_n hX (gx_dt dt_mi_x_E_bearer 56 rfl) rfl ?_
      refine gx_getr hX fl_E_31 sh_x_0 rfl (gx_dt dt_mi_x_E_bearer 57 rfl) ?_
      refine gx_iload_n hX (gx_dt dt_mi_x_E_bearer 58 rfl) rfl ?_
      refine gx_iload_n hX (gx_dt dt_mi_x_E_bearer 59 rfl) rfl ?_
      obtain ⟨r18, e_r18, h⟩ := gx_bd h
      refine gx_callVi hX (gx_dt dt_mi_x_E_bearer 60 rfl) ln_E_135_x_M_canBear mo_x_M_canBear mv_x_M_canBear (gx_rmb rfl) sh_x_22 ⟨_, _, rfl⟩ rfl (k_x_M_canBear e_r18) rfl rfl (Nat.le_of_ble_eq_true rfl) ?_
      refine gx_if_eq hX (tgt := 175) (gx_dt dt_mi_x_E_bearer 61 rfl) (by decide) (fun c19 => ?_) (fun c19 => ?_)
      · have h := gx_ifp c19 h
        refine gx_iconst hX (v := 0) (gx_dt dt_mi_x_E_bearer 69 rfl) (by decide) ?_
        obtain rfl := Option.some.inj h
        exact gx_iret hX (gx_dt dt_mi_x_E_bearer 70 rfl) rfl hres hwr
      · have h := gx_ifn c19 h
        refine gx_iload_n hX (gx_dt dt_mi_x_E_bearer 62 rfl) rfl ?_
        refine gx_aload_n hX (gx_dt dt_mi_x_E_bearer 63 rfl) rfl ?_
        refine gx_getr hX fl_E_10 sh_x_0 rfl (gx_dt dt_mi_x_E_bearer 64 rfl) ?_
        refine gx_geti hX fl_E_100 sh_x_1 rfl (gx_dt dt_mi_x_E_bearer 65 rfl) ?_
        refine gx_ic_le hX (tgt := 175) (gx_dt dt_mi_x_E_bearer 66 rfl) (by decide) (fun c20 => ?_) (fun c20 => ?_)
        · have h := gx_ifp c20 h
          refine gx_iconst hX (v := 0) (gx_dt dt_mi_x_E_bearer 69 rfl) (by decide) ?_
          obtain rfl := Option.some.inj h
          exact gx_iret hX (gx_dt dt_mi_x_E_bearer 70 rfl) rfl hres hwr
        · have h := gx_ifn c20 h
          refine gx_iconst hX (v := 1) (gx_dt dt_mi_x_E_bearer 67 rfl) (by decide) ?_
          refine gx_goto hX (tgt := 176) (gx_dt dt_mi_x_E_bearer 68 rfl) (by decide) ?_
          obtain rfl := Option.some.inj h
          exact gx_iret hX (gx_dt dt_mi_x_E_bearer 70 rfl) rfl hres hwr
    have h := gx_ifn c17 h
    by_cases c21 : a2 = 7
    · have h := gx_ifp c21 h
      refine gx_tabIn hX (off := 142) (tgt := 177) (gx_dt dt_mi_x_E_bearer 19 rfl) (by rw [c21]; decide) (by rw [c21]; decide) (by rw [c21]; rfl) (by decide) ?_
      refine gx_aload_n hX (gx_dt dt_mi_x_E_bearer 71 rfl) rfl ?_
      refine gx_getr hX fl_E_31 sh_x_0 rfl (gx_dt dt_mi_x_E_bearer 72 rfl) ?_
      refine gx_iload_n hX (gx_dt dt_mi_x_E_bearer 73 rfl) rfl ?_
      refine gx_iload_n hX (gx_dt dt_mi_x_E_bearer 74 rfl) rfl ?_
      obtain ⟨r22, e_r22, h⟩ := gx_bd h
      refine gx_callVi hX (gx_dt dt_mi_x_E_bearer 75 rfl) ln_E_139_x_M_mightOf mo_x_M_mightOf mv_x_M_mightOf (gx_rmb rfl) sh_x_22 ⟨_, _, rfl⟩ rfl (k_x_M_mightOf e_r22) rfl rfl (Nat.le_of_ble_eq_true rfl) ?_
      obtain rfl := Option.some.inj h
      exact gx_iret hX (gx_dt dt_mi_x_E_bearer 76 rfl) rfl hres hwr
    have h := gx_ifn c21 h
    refine gx_tabD hX (tgt := 187) (gx_dt dt_mi_x_E_bearer 19 rfl) (gx_tdC (Or.inr (lv_neT c5 rfl)) (gx_tdC (Or.inr (lv_neT c7 rfl)) (gx_tdC (Or.inr (lv_neT c9 rfl)) (gx_tdC (Or.inr (lv_neT c11 rfl)) (gx_tdC (Or.inr (lv_neT c13 rfl)) (gx_tdC (Or.inr (lv_neT c14 rfl)) (gx_tdC (Or.inr (lv_neT c17 rfl)) (gx_tdC (Or.inr (lv_neT c21 rfl)) gx_td0)))))))) (by decide) (by decide) ?_
    refine gx_aload_n hX (gx_dt dt_mi_x_E_bearer 77 rfl) rfl ?_
    refine gx_bipush hX (v := (-2)) (gx_dt dt_mi_x_E_bearer 78 rfl) (by decide) ?_
    obtain ⟨r23, e_r23, h⟩ := gx_bd h
    refine gx_callVi hX (gx_dt dt_mi_x_E_bearer 79 rfl) ln_E_69_x_E_refuse mo_x_E_refuse mv_x_E_refuse (gx_rmb rfl) sh_x_0 ⟨_, _, rfl⟩ rfl (k_x_E_refuse e_r23) rfl rfl (Nat.le_of_ble_eq_true rfl) ?_
    obtain rfl := Option.some.inj h
    exact gx_iret hX (gx_dt dt_mi_x_E_bearer 80 rfl) rfl hres hwr
  · have h := gx_ifp c2 h
    refine gx_aload_n hX (gx_dt dt_mi_x_E_bearer 5 rfl) rfl ?_
    refine gx_iconst hX (v := (-1)) (gx_dt dt_mi_x_E_bearer 6 rfl) (by decide) ?_
    obtain ⟨r24, e_r24, h⟩ := gx_bd h
    refine gx_callVi hX (gx_dt dt_mi_x_E_bearer 7 rfl) ln_E_69_x_E_refuse mo_x_E_refuse mv_x_E_refuse (gx_rmb rfl) sh_x_0 ⟨_, _, rfl⟩ rfl (k_x_E_refuse e_r24) rfl rfl (Nat.le_of_ble_eq_true rfl) ?_
    obtain rfl := Option.some.inj h
    exact gx_iret hX (gx_dt dt_mi_x_E_bearer 8 rfl) rfl hres hwr
-- EachBearsPillar$Mind.stand()V
def x_M_stand_71 (K2 : Int32 → gx_Wd → Option (gx_Wd)) (b1 : Int32) (b2 : Int32) (b3 : Int32) (s0 : Int32) (s1 : Int32) (w : gx_Wd) : Option (gx_Wd) :=
  (x_E_setCell 26 s1 s0 w).bind fun r1 =>
  (x_M_mightOf b2 b3 r1.2).bind fun r2 =>
  (x_E_setCell 27 b1 r2.1 r2.2).bind fun r3 =>
  (some (b1 + 1)).bind fun v4 =>
  K2 v4 r3.2
def x_M_stand_54 (K2 : Int32 → gx_Wd → Option (gx_Wd)) (b1 : Int32) (b2 : Int32) (b3 : Int32) (s0 : Int32) (w : gx_Wd) : Option (gx_Wd) :=
  if s0 = 0 then
    x_M_stand_71 K2 b1 b2 b3 0 b1 w
  else
  x_M_stand_71 K2 b1 b2 b3 1 b1 w
def x_M_stand_2 : Nat → Int32 → gx_Wd → Option (gx_Wd)
  | 0, _, _ => none
  | n + 1, b1, w =>
  if w 1 0 ≤ b1 then
    some w
  else
  (x_E_cell 23 b1 w).bind fun r2 =>
  (x_M_topOf r2.1 b1 r2.2).bind fun r3 =>
  (x_M_canBear r2.1 r3.1 r3.2).bind fun r4 =>
  if r4.1 = 0 then
    x_M_stand_54 (x_M_stand_2 n) b1 r2.1 r3.1 0 r4.2
  else
  if ((r4.2 22 3) >>> (b1 &&& 31)) &&& 1 = 0 then
    x_M_stand_54 (x_M_stand_2 n) b1 r2.1 r3.1 1 r4.2
  else
    x_M_stand_54 (x_M_stand_2 n) b1 r2.1 r3.1 0 r4.2
def x_M_stand (w : gx_Wd) : Option (gx_Wd) :=
  x_M_stand_2 6000 0 w
theorem t_x_M_stand_71 {X : gx_X} (hX : gx_Ok X mi_x_M_stand) {R : gx_Wd} (hres : gx_res X = none) (hwr : gx_wr X = R) {K2 : Int32 → gx_Wd → Option (gx_Wd)} (hK2 : ∀ (b1 : Int32) (w : gx_Wd), K2 b1 w = some R → gx_G X mi_x_M_stand 2 [some (.inr 22), some (.inl b1)] [] w) (b1 : Int32) (b2 : Int32) (b3 : Int32) (s0 : Int32) (s1 : Int32) (w : gx_Wd) (h : x_M_stand_71 K2 b1 b2 b3 s0 s1 w = some R) : gx_G X mi_x_M_stand 71 [some (.inr 22), some (.inl b1), some (.inl b2), some (.inl b3)] [.inl s0, .inl s1, .inr 26] w := by
  rw [x_M_stand_71] at h
  obtain ⟨r1, e_r1, h⟩ := gx_bd h
  refine gx_callSi hX (gx_dt dt_mi_x_M_stand 41 rfl) ln_M_48_x_E_setCell mo_x_E_setCell ms_x_E_setCell (gx_rmb rfl) rfl (k_x_E_setCell e_r1) rfl rfl (Nat.le_of_ble_eq_true rfl) ?_
  refine gx_pop hX (gx_dt dt_mi_x_M_stand 42 rfl) ?_
  refine gx_aload_n hX (gx_dt dt_mi_x_M_stand 43 rfl) rfl ?_
  refine gx_getr hX fl_M_38 sh_x_22 rfl (gx_dt dt_mi_x_M_stand 44 rfl) ?_
  refine gx_iload_n hX (gx_dt dt_mi_x_M_stand 45 rfl) rfl ?_
  refine gx_aload_n hX (gx_dt dt_mi_x_M_stand 46 rfl) rfl ?_
  refine gx_iload_n hX (gx_dt dt_mi_x_M_stand 47 rfl) rfl ?_
  refine gx_iload_n hX (gx_dt dt_mi_x_M_stand 48 rfl) rfl ?_
  obtain ⟨r2, e_r2, h⟩ := gx_bd h
  refine gx_callVi hX (gx_dt dt_mi_x_M_stand 49 rfl) ln_M_92_x_M_mightOf mo_x_M_mightOf mv_x_M_mightOf (gx_rmb rfl) sh_x_22 ⟨_, _, rfl⟩ rfl (k_x_M_mightOf e_r2) rfl rfl (Nat.le_of_ble_eq_true rfl) ?_
  obtain ⟨r3, e_r3, h⟩ := gx_bd h
  refine gx_callSi hX (gx_dt dt_mi_x_M_stand 50 rfl) ln_M_48_x_E_setCell mo_x_E_setCell ms_x_E_setCell (gx_rmb rfl) rfl (k_x_E_setCell e_r3) rfl rfl (Nat.le_of_ble_eq_true rfl) ?_
  refine gx_pop hX (gx_dt dt_mi_x_M_stand 51 rfl) ?_
  obtain ⟨v4, e_v4, h⟩ := gx_bd h
  refine gx_iinc hX (v := v4) (ls' := [some (.inr 22), some (.inl v4), some (.inl b2), some (.inl b3)]) (gx_dt dt_mi_x_M_stand 52 rfl) rfl (gx_ii e_v4 (by decide)) (by decide) rfl ?_
  refine gx_goto hX (tgt := 2) (gx_dt dt_mi_x_M_stand 53 rfl) (by decide) ?_
  exact gx_weak (gx_leS (gx_leS gx_le0)) (hK2 _ _ h)
theorem t_x_M_stand_54 {X : gx_X} (hX : gx_Ok X mi_x_M_stand) {R : gx_Wd} (hres : gx_res X = none) (hwr : gx_wr X = R) {K2 : Int32 → gx_Wd → Option (gx_Wd)} (hK2 : ∀ (b1 : Int32) (w : gx_Wd), K2 b1 w = some R → gx_G X mi_x_M_stand 2 [some (.inr 22), some (.inl b1)] [] w) (b1 : Int32) (b2 : Int32) (b3 : Int32) (s0 : Int32) (w : gx_Wd) (h : x_M_stand_54 K2 b1 b2 b3 s0 w = some R) : gx_G X mi_x_M_stand 54 [some (.inr 22), some (.inl b1), some (.inl b2), some (.inl b3)] [.inl s0] w := by
  rw [x_M_stand_54] at h
  refine gx_istore hX (ls' := [some (.inr 22), some (.inl b1), some (.inl b2), some (.inl b3), some (.inl s0)]) (gx_dt dt_mi_x_M_stand 32 rfl) (by decide) rfl ?_
  refine gx_aload_n hX (gx_dt dt_mi_x_M_stand 33 rfl) rfl ?_
  refine gx_getr hX fl_M_35 sh_x_22 rfl (gx_dt dt_mi_x_M_stand 34 rfl) ?_
  refine gx_iload_n hX (gx_dt dt_mi_x_M_stand 35 rfl) rfl ?_
  refine gx_iload hX (gx_dt dt_mi_x_M_stand 36 rfl) rfl ?_
  refine gx_if_eq hX (tgt := 70) (gx_dt dt_mi_x_M_stand 37 rfl) (by decide) (fun c1 => ?_) (fun c1 => ?_)
  · have h := gx_ifp c1 h
    refine gx_iconst hX (v := 0) (gx_dt dt_mi_x_M_stand 40 rfl) (by decide) ?_
    exact gx_weak (gx_leS (gx_leS (gx_leS (gx_leS gx_le0)))) (t_x_M_stand_71 hX hres hwr hK2 _ _ _ _ _ _ h)
  · have h := gx_ifn c1 h
    refine gx_iconst hX (v := 1) (gx_dt dt_mi_x_M_stand 38 rfl) (by decide) ?_
    refine gx_goto hX (tgt := 71) (gx_dt dt_mi_x_M_stand 39 rfl) (by decide) ?_
    exact gx_weak (gx_leS (gx_leS (gx_leS (gx_leS gx_le0)))) (t_x_M_stand_71 hX hres hwr hK2 _ _ _ _ _ _ h)
theorem t_x_M_stand_2 {X : gx_X} (hX : gx_Ok X mi_x_M_stand) {R : gx_Wd} (hres : gx_res X = none) (hwr : gx_wr X = R) : ∀ (n : Nat) (b1 : Int32) (w : gx_Wd), x_M_stand_2 n b1 w = some R → gx_G X mi_x_M_stand 2 [some (.inr 22), some (.inl b1)] [] w := by
  intro n
  induction n with
  | zero => intro b1 w h; rw [x_M_stand_2] at h; cases h
  | succ n ih =>
    intro b1 w h
    rw [x_M_stand_2] at h
    refine gx_iload_n hX (gx_dt dt_mi_x_M_stand 2 rfl) rfl ?_
    refine gx_aload_n hX (gx_dt dt_mi_x_M_stand 3 rfl) rfl ?_
    refine gx_getr hX fl_M_9 sh_x_22 rfl (gx_dt dt_mi_x_M_stand 4 rfl) ?_
    refine gx_geti hX fl_M_82 sh_x_1 rfl (gx_dt dt_mi_x_M_stand 5 rfl) ?_
    refine gx_ic_ge hX (tgt := 96) (gx_dt dt_mi_x_M_stand 6 rfl) (by decide) (fun c1 => ?_) (fun c1 => ?_)
    · have h := gx_ifp c1 h
      obtain rfl := Option.some.inj h
      exact gx_vret hX (gx_dt dt_mi_x_M_stand 54 rfl) rfl hres hwr
    · have h := gx_ifn c1 h
      refine gx_aload_n hX (gx_dt dt_mi_x_M_stand 7 rfl) rfl ?_
      refine gx_getr hX fl_M_25 sh_x_22 rfl (gx_dt dt_mi_x_M_stand 8 rfl) ?_
      refine gx_iload_n hX (gx_dt dt_mi_x_M_stand 9 rfl) rfl ?_
      obtain ⟨r2, e_r2, h⟩ := gx_bd h
      refine gx_callSi hX (gx_dt dt_mi_x_M_stand 10 rfl) ln_M_60_x_E_cell mo_x_E_cell ms_x_E_cell (gx_rmb rfl) rfl (k_x_E_cell e_r2) rfl rfl (Nat.le_of_ble_eq_true rfl) ?_
      refine gx_istore_n hX (ls' := [some (.inr 22), some (.inl b1), some (.inl (r2.1))]) (gx_dt dt_mi_x_M_stand 11 rfl) (by decide) rfl ?_
      refine gx_aload_n hX (gx_dt dt_mi_x_M_stand 12 rfl) rfl ?_
      refine gx_iload_n hX (gx_dt dt_mi_x_M_stand 13 rfl) rfl ?_
      refine gx_iload_n hX (gx_dt dt_mi_x_M_stand 14 rfl) rfl ?_
      obtain ⟨r3, e_r3, h⟩ := gx_bd h
      refine gx_callVi hX (gx_dt dt_mi_x_M_stand 15 rfl) ln_M_85_x_M_topOf mo_x_M_topOf mv_x_M_topOf (gx_rmb rfl) sh_x_22 ⟨_, _, rfl⟩ rfl (k_x_M_topOf e_r3) rfl rfl (Nat.le_of_ble_eq_true rfl) ?_
      refine gx_istore_n hX (ls' := [some (.inr 22), some (.inl b1), some (.inl (r2.1)), some (.inl (r3.1))]) (gx_dt dt_mi_x_M_stand 16 rfl) (by decide) rfl ?_
      refine gx_aload_n hX (gx_dt dt_mi_x_M_stand 17 rfl) rfl ?_
      refine gx_iload_n hX (gx_dt dt_mi_x_M_stand 18 rfl) rfl ?_
      refine gx_iload_n hX (gx_dt dt_mi_x_M_stand 19 rfl) rfl ?_
      obtain ⟨r4, e_r4, h⟩ := gx_bd h
      refine gx_callVi hX (gx_dt dt_mi_x_M_stand 20 rfl) ln_M_88_x_M_canBear mo_x_M_canBear mv_x_M_canBear (gx_rmb rfl) sh_x_22 ⟨_, _, rfl⟩ rfl (k_x_M_canBear e_r4) rfl rfl (Nat.le_of_ble_eq_true rfl) ?_
      refine gx_if_eq hX (tgt := 53) (gx_dt dt_mi_x_M_stand 21 rfl) (by decide) (fun c5 => ?_) (fun c5 => ?_)
      · have h := gx_ifp c5 h
        refine gx_iconst hX (v := 0) (gx_dt dt_mi_x_M_stand 31 rfl) (by decide) ?_
        exact gx_weak (gx_leS (gx_leS (gx_leS (gx_leS gx_le0)))) (t_x_M_stand_54 hX hres hwr ih _ _ _ _ _ h)
      · have h := gx_ifn c5 h
        refine gx_aload_n hX (gx_dt dt_mi_x_M_stand 22 rfl) rfl ?_
        refine gx_geti hX fl_M_22 sh_x_22 rfl (gx_dt dt_mi_x_M_stand 23 rfl) ?_
        refine gx_iload_n hX (gx_dt dt_mi_x_M_stand 24 rfl) rfl ?_
        refine gx_ishr hX (gx_dt dt_mi_x_M_stand 25 rfl) ?_
        refine gx_iconst hX (v := 1) (gx_dt dt_mi_x_M_stand 26 rfl) (by decide) ?_
        refine gx_iand hX (gx_dt dt_mi_x_M_stand 27 rfl) ?_
        refine gx_if_ne hX (tgt := 53) (gx_dt dt_mi_x_M_stand 28 rfl) (by decide) (fun c6 => ?_) (fun c6 => ?_)
        · have h := gx_ifn c6 h
          refine gx_iconst hX (v := 0) (gx_dt dt_mi_x_M_stand 31 rfl) (by decide) ?_
          exact gx_weak (gx_leS (gx_leS (gx_leS (gx_leS gx_le0)))) (t_x_M_stand_54 hX hres hwr ih _ _ _ _ _ h)
        · have h := gx_ifp c6 h
          refine gx_iconst hX (v := 1) (gx_dt dt_mi_x_M_stand 29 rfl) (by decide) ?_
          refine gx_goto hX (tgt := 54) (gx_dt dt_mi_x_M_stand 30 rfl) (by decide) ?_
          exact gx_weak (gx_leS (gx_leS (gx_leS (gx_leS gx_le0)))) (t_x_M_stand_54 hX hres hwr ih _ _ _ _ _ h)
theorem k_x_M_stand {w : gx_Wd} {R : gx_Wd} (h : x_M_stand w = some R) : gx_MT mi_x_M_stand [.inr 22] w none R := by
  refine gx_met (by decide +kernel) (Nat.le_of_ble_eq_true rfl) (fun X hX hres hwr => ?_)
  show gx_G X mi_x_M_stand 0 [some (.inr 22)] [] w
  rw [x_M_stand] at h
  refine gx_iconst hX (v := 0) (gx_dt dt_mi_x_M_stand 0 rfl) (by decide) ?_
  refine gx_istore_n hX (ls' := [some (.inr 22), some (.inl (0))]) (gx_dt dt_mi_x_M_stand 1 rfl) (by decide) rfl ?_
  exact gx_weak (gx_leS (gx_leS gx_le0)) (t_x_M_stand_2 hX hres hwr _ _ _ h)
-- EachBearsPillar$Mind.shareOf(II)I
def x_M_shareOf (a1 : Int32) (a2 : Int32) (w : gx_Wd) : Option (Int32 × gx_Wd) :=
  (x_R_hasBearer_1 a2 w).bind fun r1 =>
  if r1.1 = 0 then
    some (0, r1.2)
  else
  (x_E_cell 26 a1 r1.2).bind fun r3 =>
  if r3.1 = 0 then
    some (0, r3.2)
  else
    (x_E_cell 25 (if a2 < a1 then a2 else a1) r3.2).bind fun r5 =>
    (x_E_cell 26 a2 r5.2).bind fun r6 =>
    if r6.1 = 1 then
      some (r5.1, r6.2)
    else
      some (2 * r5.1, r6.2)
theorem k_x_M_shareOf {a1 : Int32} {a2 : Int32} {w : gx_Wd} {R : Int32 × gx_Wd} (h : x_M_shareOf a1 a2 w = some R) : gx_MT mi_x_M_shareOf [.inr 22, .inl a1, .inl a2] w (some (.inl R.1)) R.2 := by
  refine gx_met (by decide +kernel) (Nat.le_of_ble_eq_true rfl) (fun X hX hres hwr => ?_)
  show gx_G X mi_x_M_shareOf 0 [some (.inr 22), some (.inl a1), some (.inl a2)] [] w
  rw [x_M_shareOf] at h
  refine gx_aload_n hX (gx_dt dt_mi_x_M_shareOf 0 rfl) rfl ?_
  refine gx_getr hX fl_M_9 sh_x_22 rfl (gx_dt dt_mi_x_M_shareOf 1 rfl) ?_
  refine gx_iload_n hX (gx_dt dt_mi_x_M_shareOf 2 rfl) rfl ?_
  obtain ⟨r1, e_r1, h⟩ := gx_bd h
  refine gx_callVi hX (gx_dt dt_mi_x_M_shareOf 3 rfl) ln_M_104_x_R_hasBearer_1 mo_x_R_hasBearer_1 mv_x_R_hasBearer_1 (gx_rmb rfl) sh_x_1 ⟨_, _, rfl⟩ rfl (k_x_R_hasBearer_1 e_r1) rfl rfl (Nat.le_of_ble_eq_true rfl) ?_
  refine gx_if_eq hX (tgt := 22) (gx_dt dt_mi_x_M_shareOf 4 rfl) (by decide) (fun c2 => ?_) (fun c2 => ?_)
  · have h := gx_ifp c2 h
    refine gx_iconst hX (v := 0) (gx_dt dt_mi_x_M_shareOf 10 rfl) (by decide) ?_
    obtain rfl := Option.some.inj h
    exact gx_iret hX (gx_dt dt_mi_x_M_shareOf 11 rfl) rfl hres hwr
  · have h := gx_ifn c2 h
    refine gx_aload_n hX (gx_dt dt_mi_x_M_shareOf 5 rfl) rfl ?_
    refine gx_getr hX fl_M_35 sh_x_22 rfl (gx_dt dt_mi_x_M_shareOf 6 rfl) ?_
    refine gx_iload_n hX (gx_dt dt_mi_x_M_shareOf 7 rfl) rfl ?_
    obtain ⟨r3, e_r3, h⟩ := gx_bd h
    refine gx_callSi hX (gx_dt dt_mi_x_M_shareOf 8 rfl) ln_M_60_x_E_cell mo_x_E_cell ms_x_E_cell (gx_rmb rfl) rfl (k_x_E_cell e_r3) rfl rfl (Nat.le_of_ble_eq_true rfl) ?_
    refine gx_if_ne hX (tgt := 24) (gx_dt dt_mi_x_M_shareOf 9 rfl) (by decide) (fun c4 => ?_) (fun c4 => ?_)
    · have h := gx_ifn c4 h
      refine gx_aload_n hX (gx_dt dt_mi_x_M_shareOf 12 rfl) rfl ?_
      refine gx_getr hX fl_M_32 sh_x_22 rfl (gx_dt dt_mi_x_M_shareOf 13 rfl) ?_
      refine gx_iload_n hX (gx_dt dt_mi_x_M_shareOf 14 rfl) rfl ?_
      refine gx_iload_n hX (gx_dt dt_mi_x_M_shareOf 15 rfl) rfl ?_
      refine gx_min hX (gx_dt dt_mi_x_M_shareOf 16 rfl) wr_methodLink_M_108 w_min_static w_math_init w_min_code (Nat.le_of_ble_eq_true rfl) (Nat.le_of_ble_eq_true rfl) ?_
      obtain ⟨r5, e_r5, h⟩ := gx_bd h
      refine gx_callSi hX (gx_dt dt_mi_x_M_shareOf 17 rfl) ln_M_60_x_E_cell mo_x_E_cell ms_x_E_cell (gx_rmb rfl) rfl (k_x_E_cell e_r5) rfl rfl (Nat.le_of_ble_eq_true rfl) ?_
      refine gx_istore_n hX (ls' := [some (.inr 22), some (.inl a1), some (.inl a2), some (.inl (r5.1))]) (gx_dt dt_mi_x_M_shareOf 18 rfl) (by decide) rfl ?_
      refine gx_aload_n hX (gx_dt dt_mi_x_M_shareOf 19 rfl) rfl ?_
      refine gx_getr hX fl_M_35 sh_x_22 rfl (gx_dt dt_mi_x_M_shareOf 20 rfl) ?_
      refine gx_iload_n hX (gx_dt dt_mi_x_M_shareOf 21 rfl) rfl ?_
      obtain ⟨r6, e_r6, h⟩ := gx_bd h
      refine gx_callSi hX (gx_dt dt_mi_x_M_shareOf 22 rfl) ln_M_60_x_E_cell mo_x_E_cell ms_x_E_cell (gx_rmb rfl) rfl (k_x_E_cell e_r6) rfl rfl (Nat.le_of_ble_eq_true rfl) ?_
      refine gx_iconst hX (v := 1) (gx_dt dt_mi_x_M_shareOf 23 rfl) (by decide) ?_
      refine gx_ic_ne hX (tgt := 53) (gx_dt dt_mi_x_M_shareOf 24 rfl) (by decide) (fun c7 => ?_) (fun c7 => ?_)
      · have h := gx_ifn c7 h
        refine gx_iconst hX (v := 2) (gx_dt dt_mi_x_M_shareOf 27 rfl) (by decide) ?_
        refine gx_iload_n hX (gx_dt dt_mi_x_M_shareOf 28 rfl) rfl ?_
        refine gx_imul hX (gx_dt dt_mi_x_M_shareOf 29 rfl) ?_
        obtain rfl := Option.some.inj h
        exact gx_iret hX (gx_dt dt_mi_x_M_shareOf 30 rfl) rfl hres hwr
      · have h := gx_ifp c7 h
        refine gx_iload_n hX (gx_dt dt_mi_x_M_shareOf 25 rfl) rfl ?_
        refine gx_goto hX (tgt := 56) (gx_dt dt_mi_x_M_shareOf 26 rfl) (by decide) ?_
        obtain rfl := Option.some.inj h
        exact gx_iret hX (gx_dt dt_mi_x_M_shareOf 30 rfl) rfl hres hwr
    · have h := gx_ifp c4 h
      refine gx_iconst hX (v := 0) (gx_dt dt_mi_x_M_shareOf 10 rfl) (by decide) ?_
      obtain rfl := Option.some.inj h
      exact gx_iret hX (gx_dt dt_mi_x_M_shareOf 11 rfl) rfl hres hwr
-- EachBearsPillar$Mind.weigh()V
def x_M_weigh_2 : Nat → Int32 → gx_Wd → Option (gx_Wd)
  | 0, _, _ => none
  | n + 1, b1, w =>
  if w 1 0 ≤ b1 then
    some w
  else
  (x_M_shareOf b1 (b1 - 1) w).bind fun r2 =>
  (x_M_shareOf b1 (b1 + 1) r2.2).bind fun r3 =>
  (x_E_setCell 28 b1 (r2.1 + r3.1) r3.2).bind fun r4 =>
  (some (b1 + 1)).bind fun v5 =>
  (x_M_weigh_2 n) v5 r4.2
def x_M_weigh (w : gx_Wd) : Option (gx_Wd) :=
  x_M_weigh_2 6000 0 w
theorem t_x_M_weigh_2 {X : gx_X} (hX : gx_Ok X mi_x_M_weigh) {R : gx_Wd} (hres : gx_res X = none) (hwr : gx_wr X = R) : ∀ (n : Nat) (b1 : Int32) (w : gx_Wd), x_M_weigh_2 n b1 w = some R → gx_G X mi_x_M_weigh 2 [some (.inr 22), some (.inl b1)] [] w := by
  intro n
  induction n with
  | zero => intro b1 w h; rw [x_M_weigh_2] at h; cases h
  | succ n ih =>
    intro b1 w h
    rw [x_M_weigh_2] at h
    refine gx_iload_n hX (gx_dt dt_mi_x_M_weigh 2 rfl) rfl ?_
    refine gx_aload_n hX (gx_dt dt_mi_x_M_weigh 3 rfl) rfl ?_
    refine gx_getr hX fl_M_9 sh_x_22 rfl (gx_dt dt_mi_x_M_weigh 4 rfl) ?_
    refine gx_geti hX fl_M_82 sh_x_1 rfl (gx_dt dt_mi_x_M_weigh 5 rfl) ?_
    refine gx_ic_ge hX (tgt := 45) (gx_dt dt_mi_x_M_weigh 6 rfl) (by decide) (fun c1 => ?_) (fun c1 => ?_)
    · have h := gx_ifp c1 h
      obtain rfl := Option.some.inj h
      exact gx_vret hX (gx_dt dt_mi_x_M_weigh 27 rfl) rfl hres hwr
    · have h := gx_ifn c1 h
      refine gx_aload_n hX (gx_dt dt_mi_x_M_weigh 7 rfl) rfl ?_
      refine gx_getr hX fl_M_41 sh_x_22 rfl (gx_dt dt_mi_x_M_weigh 8 rfl) ?_
      refine gx_iload_n hX (gx_dt dt_mi_x_M_weigh 9 rfl) rfl ?_
      refine gx_aload_n hX (gx_dt dt_mi_x_M_weigh 10 rfl) rfl ?_
      refine gx_iload_n hX (gx_dt dt_mi_x_M_weigh 11 rfl) rfl ?_
      refine gx_iload_n hX (gx_dt dt_mi_x_M_weigh 12 rfl) rfl ?_
      refine gx_iconst hX (v := 1) (gx_dt dt_mi_x_M_weigh 13 rfl) (by decide) ?_
      refine gx_isub hX (gx_dt dt_mi_x_M_weigh 14 rfl) ?_
      obtain ⟨r2, e_r2, h⟩ := gx_bd h
      refine gx_callVi hX (gx_dt dt_mi_x_M_weigh 15 rfl) ln_M_95_x_M_shareOf mo_x_M_shareOf mv_x_M_shareOf (gx_rmb rfl) sh_x_22 ⟨_, _, rfl⟩ rfl (k_x_M_shareOf e_r2) rfl rfl (Nat.le_of_ble_eq_true rfl) ?_
      refine gx_aload_n hX (gx_dt dt_mi_x_M_weigh 16 rfl) rfl ?_
      refine gx_iload_n hX (gx_dt dt_mi_x_M_weigh 17 rfl) rfl ?_
      refine gx_iload_n hX (gx_dt dt_mi_x_M_weigh 18 rfl) rfl ?_
      refine gx_iconst hX (v := 1) (gx_dt dt_mi_x_M_weigh 19 rfl) (by decide) ?_
      refine gx_iadd hX (gx_dt dt_mi_x_M_weigh 20 rfl) ?_
      obtain ⟨r3, e_r3, h⟩ := gx_bd h
      refine gx_callVi hX (gx_dt dt_mi_x_M_weigh 21 rfl) ln_M_95_x_M_shareOf mo_x_M_shareOf mv_x_M_shareOf (gx_rmb rfl) sh_x_22 ⟨_, _, rfl⟩ rfl (k_x_M_shareOf e_r3) rfl rfl (Nat.le_of_ble_eq_true rfl) ?_
      refine gx_iadd hX (gx_dt dt_mi_x_M_weigh 22 rfl) ?_
      obtain ⟨r4, e_r4, h⟩ := gx_bd h
      refine gx_callSi hX (gx_dt dt_mi_x_M_weigh 23 rfl) ln_M_48_x_E_setCell mo_x_E_setCell ms_x_E_setCell (gx_rmb rfl) rfl (k_x_E_setCell e_r4) rfl rfl (Nat.le_of_ble_eq_true rfl) ?_
      refine gx_pop hX (gx_dt dt_mi_x_M_weigh 24 rfl) ?_
      obtain ⟨v5, e_v5, h⟩ := gx_bd h
      refine gx_iinc hX (v := v5) (ls' := [some (.inr 22), some (.inl v5)]) (gx_dt dt_mi_x_M_weigh 25 rfl) rfl (gx_ii e_v5 (by decide)) (by decide) rfl ?_
      refine gx_goto hX (tgt := 2) (gx_dt dt_mi_x_M_weigh 26 rfl) (by decide) ?_
      exact gx_weak (gx_leS (gx_leS gx_le0)) (ih _ _ h)
theorem k_x_M_weigh {w : gx_Wd} {R : gx_Wd} (h : x_M_weigh w = some R) : gx_MT mi_x_M_weigh [.inr 22] w none R := by
  refine gx_met (by decide +kernel) (Nat.le_of_ble_eq_true rfl) (fun X hX hres hwr => ?_)
  show gx_G X mi_x_M_weigh 0 [some (.inr 22)] [] w
  rw [x_M_weigh] at h
  refine gx_iconst hX (v := 0) (gx_dt dt_mi_x_M_weigh 0 rfl) (by decide) ?_
  refine gx_istore_n hX (ls' := [some (.inr 22), some (.inl (0))]) (gx_dt dt_mi_x_M_weigh 1 rfl) (by decide) rfl ?_
  exact gx_weak (gx_leS (gx_leS gx_le0)) (t_x_M_weigh_2 hX hres hwr _ _ _ h)
-- EachBearsPillar$Mind.standAndWeigh()V
def x_M_standAndWeigh (w : gx_Wd) : Option (gx_Wd) :=
  (x_M_stand w).bind fun r1 =>
  (x_M_weigh r1).bind fun r2 =>
  some r2
theorem k_x_M_standAndWeigh {w : gx_Wd} {R : gx_Wd} (h : x_M_standAndWeigh w = some R) : gx_MT mi_x_M_standAndWeigh [.inr 22] w none R := by
  refine gx_met (by decide +kernel) (Nat.le_of_ble_eq_true rfl) (fun X hX hres hwr => ?_)
  show gx_G X mi_x_M_standAndWeigh 0 [some (.inr 22)] [] w
  rw [x_M_standAndWeigh] at h
  refine gx_aload_n hX (gx_dt dt_mi_x_M_standAndWeigh 0 rfl) rfl ?_
  obtain ⟨r1, e_r1, h⟩ := gx_bd h
  refine gx_callVv hX (gx_dt dt_mi_x_M_standAndWeigh 1 rfl) ln_M_98_x_M_stand mo_x_M_stand mv_x_M_stand (gx_rmb rfl) sh_x_22 ⟨_, _, rfl⟩ rfl (k_x_M_stand e_r1) rfl rfl (Nat.le_of_ble_eq_true rfl) ?_
  refine gx_aload_n hX (gx_dt dt_mi_x_M_standAndWeigh 2 rfl) rfl ?_
  obtain ⟨r2, e_r2, h⟩ := gx_bd h
  refine gx_callVv hX (gx_dt dt_mi_x_M_standAndWeigh 3 rfl) ln_M_101_x_M_weigh mo_x_M_weigh mv_x_M_weigh (gx_rmb rfl) sh_x_22 ⟨_, _, rfl⟩ rfl (k_x_M_weigh e_r2) rfl rfl (Nat.le_of_ble_eq_true rfl) ?_
  obtain rfl := Option.some.inj h
  exact gx_vret hX (gx_dt dt_mi_x_M_standAndWeigh 4 rfl) rfl hres hwr
-- EachBearsPillar.load(I)I
def x_E_load (a1 : Int32) (w : gx_Wd) : Option (Int32 × gx_Wd) :=
  (x_R_hasBearer_1 a1 w).bind fun r1 =>
  if r1.1 = 0 then
    (x_E_refuse (-1) r1.2).bind fun r6 =>
    some (r6.1, r6.2)
  else
    (x_M_asTold r1.2).bind fun r3 =>
    (x_M_standAndWeigh r3).bind fun r4 =>
    (x_E_cell 28 a1 r4).bind fun r5 =>
    some (r5.1, r5.2)
theorem k_x_E_load {a1 : Int32} {w : gx_Wd} {R : Int32 × gx_Wd} (h : x_E_load a1 w = some R) : gx_MT mi_x_E_load [.inr 0, .inl a1] w (some (.inl R.1)) R.2 := by
  refine gx_met (by decide +kernel) (Nat.le_of_ble_eq_true rfl) (fun X hX hres hwr => ?_)
  show gx_G X mi_x_E_load 0 [some (.inr 0), some (.inl a1)] [] w
  rw [x_E_load] at h
  refine gx_aload_n hX (gx_dt dt_mi_x_E_load 0 rfl) rfl ?_
  refine gx_getr hX fl_E_10 sh_x_0 rfl (gx_dt dt_mi_x_E_load 1 rfl) ?_
  refine gx_iload_n hX (gx_dt dt_mi_x_E_load 2 rfl) rfl ?_
  obtain ⟨r1, e_r1, h⟩ := gx_bd h
  refine gx_callVi hX (gx_dt dt_mi_x_E_load 3 rfl) ln_E_103_x_R_hasBearer_1 mo_x_R_hasBearer_1 mv_x_R_hasBearer_1 (gx_rmb rfl) sh_x_1 ⟨_, _, rfl⟩ rfl (k_x_R_hasBearer_1 e_r1) rfl rfl (Nat.le_of_ble_eq_true rfl) ?_
  refine gx_if_ne hX (tgt := 17) (gx_dt dt_mi_x_E_load 4 rfl) (by decide) (fun c2 => ?_) (fun c2 => ?_)
  · have h := gx_ifn c2 h
    refine gx_aload_n hX (gx_dt dt_mi_x_E_load 9 rfl) rfl ?_
    refine gx_getr hX fl_E_31 sh_x_0 rfl (gx_dt dt_mi_x_E_load 10 rfl) ?_
    obtain ⟨r3, e_r3, h⟩ := gx_bd h
    refine gx_callVv hX (gx_dt dt_mi_x_E_load 11 rfl) ln_E_115_x_M_asTold mo_x_M_asTold mv_x_M_asTold (gx_rmb rfl) sh_x_22 ⟨_, _, rfl⟩ rfl (k_x_M_asTold e_r3) rfl rfl (Nat.le_of_ble_eq_true rfl) ?_
    refine gx_aload_n hX (gx_dt dt_mi_x_E_load 12 rfl) rfl ?_
    refine gx_getr hX fl_E_31 sh_x_0 rfl (gx_dt dt_mi_x_E_load 13 rfl) ?_
    obtain ⟨r4, e_r4, h⟩ := gx_bd h
    refine gx_callVv hX (gx_dt dt_mi_x_E_load 14 rfl) ln_E_142_x_M_standAndWeigh mo_x_M_standAndWeigh mv_x_M_standAndWeigh (gx_rmb rfl) sh_x_22 ⟨_, _, rfl⟩ rfl (k_x_M_standAndWeigh e_r4) rfl rfl (Nat.le_of_ble_eq_true rfl) ?_
    refine gx_aload_n hX (gx_dt dt_mi_x_E_load 15 rfl) rfl ?_
    refine gx_getr hX fl_E_31 sh_x_0 rfl (gx_dt dt_mi_x_E_load 16 rfl) ?_
    refine gx_getr hX fl_E_145 sh_x_22 rfl (gx_dt dt_mi_x_E_load 17 rfl) ?_
    refine gx_iload_n hX (gx_dt dt_mi_x_E_load 18 rfl) rfl ?_
    obtain ⟨r5, e_r5, h⟩ := gx_bd h
    refine gx_callSi hX (gx_dt dt_mi_x_E_load 19 rfl) ln_E_125_x_E_cell mo_x_E_cell ms_x_E_cell (gx_rmb rfl) rfl (k_x_E_cell e_r5) rfl rfl (Nat.le_of_ble_eq_true rfl) ?_
    obtain rfl := Option.some.inj h
    exact gx_iret hX (gx_dt dt_mi_x_E_load 20 rfl) rfl hres hwr
  · have h := gx_ifp c2 h
    refine gx_aload_n hX (gx_dt dt_mi_x_E_load 5 rfl) rfl ?_
    refine gx_iconst hX (v := (-1)) (gx_dt dt_mi_x_E_load 6 rfl) (by decide) ?_
    obtain ⟨r6, e_r6, h⟩ := gx_bd h
    refine gx_callVi hX (gx_dt dt_mi_x_E_load 7 rfl) ln_E_69_x_E_refuse mo_x_E_refuse mv_x_E_refuse (gx_rmb rfl) sh_x_0 ⟨_, _, rfl⟩ rfl (k_x_E_refuse e_r6) rfl rfl (Nat.le_of_ble_eq_true rfl) ?_
    obtain rfl := Option.some.inj h
    exact gx_iret hX (gx_dt dt_mi_x_E_load 8 rfl) rfl hres hwr
-- EachBearsPillar$Mind.firstOverloaded()I
def x_M_firstOverloaded_2 : Nat → Int32 → gx_Wd → Option (Int32 × gx_Wd)
  | 0, _, _ => none
  | n + 1, b1, w =>
  if w 1 0 ≤ b1 then
    some ((-1), w)
  else
  (x_E_cell 28 b1 w).bind fun r2 =>
  (x_E_cell 27 b1 r2.2).bind fun r3 =>
  if r2.1 ≤ 2 * r3.1 then
    (some (b1 + 1)).bind fun v5 =>
    (x_M_firstOverloaded_2 n) v5 r3.2
  else
  some (b1, r3.2)
def x_M_firstOverloaded (w : gx_Wd) : Option (Int32 × gx_Wd) :=
  x_M_firstOverloaded_2 6000 0 w
theorem t_x_M_firstOverloaded_2 {X : gx_X} (hX : gx_Ok X mi_x_M_firstOverloaded) {R : Int32 × gx_Wd} (hres : gx_res X = some (.inl R.1)) (hwr : gx_wr X = R.2) : ∀ (n : Nat) (b1 : Int32) (w : gx_Wd), x_M_firstOverloaded_2 n b1 w = some R → gx_G X mi_x_M_firstOverloaded 2 [some (.inr 22), some (.inl b1)] [] w := by
  intro n
  induction n with
  | zero => intro b1 w h; rw [x_M_firstOverloaded_2] at h; cases h
  | succ n ih =>
    intro b1 w h
    rw [x_M_firstOverloaded_2] at h
    refine gx_iload_n hX (gx_dt dt_mi_x_M_firstOverloaded 2 rfl) rfl ?_
    refine gx_aload_n hX (gx_dt dt_mi_x_M_firstOverloaded 3 rfl) rfl ?_
    refine gx_getr hX fl_M_9 sh_x_22 rfl (gx_dt dt_mi_x_M_firstOverloaded 4 rfl) ?_
    refine gx_geti hX fl_M_82 sh_x_1 rfl (gx_dt dt_mi_x_M_firstOverloaded 5 rfl) ?_
    refine gx_ic_ge hX (tgt := 42) (gx_dt dt_mi_x_M_firstOverloaded 6 rfl) (by decide) (fun c1 => ?_) (fun c1 => ?_)
    · have h := gx_ifp c1 h
      refine gx_iconst hX (v := (-1)) (gx_dt dt_mi_x_M_firstOverloaded 22 rfl) (by decide) ?_
      obtain rfl := Option.some.inj h
      exact gx_iret hX (gx_dt dt_mi_x_M_firstOverloaded 23 rfl) rfl hres hwr
    · have h := gx_ifn c1 h
      refine gx_aload_n hX (gx_dt dt_mi_x_M_firstOverloaded 7 rfl) rfl ?_
      refine gx_getr hX fl_M_41 sh_x_22 rfl (gx_dt dt_mi_x_M_firstOverloaded 8 rfl) ?_
      refine gx_iload_n hX (gx_dt dt_mi_x_M_firstOverloaded 9 rfl) rfl ?_
      obtain ⟨r2, e_r2, h⟩ := gx_bd h
      refine gx_callSi hX (gx_dt dt_mi_x_M_firstOverloaded 10 rfl) ln_M_60_x_E_cell mo_x_E_cell ms_x_E_cell (gx_rmb rfl) rfl (k_x_E_cell e_r2) rfl rfl (Nat.le_of_ble_eq_true rfl) ?_
      refine gx_iconst hX (v := 2) (gx_dt dt_mi_x_M_firstOverloaded 11 rfl) (by decide) ?_
      refine gx_aload_n hX (gx_dt dt_mi_x_M_firstOverloaded 12 rfl) rfl ?_
      refine gx_getr hX fl_M_38 sh_x_22 rfl (gx_dt dt_mi_x_M_firstOverloaded 13 rfl) ?_
      refine gx_iload_n hX (gx_dt dt_mi_x_M_firstOverloaded 14 rfl) rfl ?_
      obtain ⟨r3, e_r3, h⟩ := gx_bd h
      refine gx_callSi hX (gx_dt dt_mi_x_M_firstOverloaded 15 rfl) ln_M_60_x_E_cell mo_x_E_cell ms_x_E_cell (gx_rmb rfl) rfl (k_x_E_cell e_r3) rfl rfl (Nat.le_of_ble_eq_true rfl) ?_
      refine gx_imul hX (gx_dt dt_mi_x_M_firstOverloaded 16 rfl) ?_
      refine gx_ic_le hX (tgt := 36) (gx_dt dt_mi_x_M_firstOverloaded 17 rfl) (by decide) (fun c4 => ?_) (fun c4 => ?_)
      · have h := gx_ifp c4 h
        obtain ⟨v5, e_v5, h⟩ := gx_bd h
        refine gx_iinc hX (v := v5) (ls' := [some (.inr 22), some (.inl v5)]) (gx_dt dt_mi_x_M_firstOverloaded 20 rfl) rfl (gx_ii e_v5 (by decide)) (by decide) rfl ?_
        refine gx_goto hX (tgt := 2) (gx_dt dt_mi_x_M_firstOverloaded 21 rfl) (by decide) ?_
        exact gx_weak (gx_leS (gx_leS gx_le0)) (ih _ _ h)
      · have h := gx_ifn c4 h
        refine gx_iload_n hX (gx_dt dt_mi_x_M_firstOverloaded 18 rfl) rfl ?_
        obtain rfl := Option.some.inj h
        exact gx_iret hX (gx_dt dt_mi_x_M_firstOverloaded 19 rfl) rfl hres hwr
theorem k_x_M_firstOverloaded {w : gx_Wd} {R : Int32 × gx_Wd} (h : x_M_firstOverloaded w = some R) : gx_MT mi_x_M_firstOverloaded [.inr 22] w (some (.inl R.1)) R.2 := by
  refine gx_met (by decide +kernel) (Nat.le_of_ble_eq_true rfl) (fun X hX hres hwr => ?_)
  show gx_G X mi_x_M_firstOverloaded 0 [some (.inr 22)] [] w
  rw [x_M_firstOverloaded] at h
  refine gx_iconst hX (v := 0) (gx_dt dt_mi_x_M_firstOverloaded 0 rfl) (by decide) ?_
  refine gx_istore_n hX (ls' := [some (.inr 22), some (.inl (0))]) (gx_dt dt_mi_x_M_firstOverloaded 1 rfl) (by decide) rfl ?_
  exact gx_weak (gx_leS (gx_leS gx_le0)) (t_x_M_firstOverloaded_2 hX hres hwr _ _ _ h)
-- EachBearsPillar$Mind.firstFalling()I
def x_M_firstFalling_52 (K2 : Int32 → gx_Wd → Option (Int32 × gx_Wd)) (b1 : Int32) (w : gx_Wd) : Option (Int32 × gx_Wd) :=
  (some (b1 + 1)).bind fun v1 =>
  K2 v1 w
def x_M_firstFalling_2 : Nat → Int32 → gx_Wd → Option (Int32 × gx_Wd)
  | 0, _, _ => none
  | n + 1, b1, w =>
  if w 1 0 ≤ b1 + 1 then
    some ((-1), w)
  else
  (x_E_cell 25 b1 w).bind fun r2 =>
  if r2.1 ≤ 0 then
    x_M_firstFalling_52 (x_M_firstFalling_2 n) b1 r2.2
  else
  (x_E_cell 26 b1 r2.2).bind fun r4 =>
  if r4.1 = 0 then
    (x_E_cell 26 (b1 + 1) r4.2).bind fun r6 =>
    if r6.1 = 0 then
      some (b1, r6.2)
    else
      x_M_firstFalling_52 (x_M_firstFalling_2 n) b1 r6.2
  else
    x_M_firstFalling_52 (x_M_firstFalling_2 n) b1 r4.2
def x_M_firstFalling (w : gx_Wd) : Option (Int32 × gx_Wd) :=
  x_M_firstFalling_2 6000 0 w
theorem t_x_M_firstFalling_52 {X : gx_X} (hX : gx_Ok X mi_x_M_firstFalling) {R : Int32 × gx_Wd} (hres : gx_res X = some (.inl R.1)) (hwr : gx_wr X = R.2) {K2 : Int32 → gx_Wd → Option (Int32 × gx_Wd)} (hK2 : ∀ (b1 : Int32) (w : gx_Wd), K2 b1 w = some R → gx_G X mi_x_M_firstFalling 2 [some (.inr 22), some (.inl b1)] [] w) (b1 : Int32) (w : gx_Wd) (h : x_M_firstFalling_52 K2 b1 w = some R) : gx_G X mi_x_M_firstFalling 52 [some (.inr 22), some (.inl b1)] [] w := by
  rw [x_M_firstFalling_52] at h
  obtain ⟨v1, e_v1, h⟩ := gx_bd h
  refine gx_iinc hX (v := v1) (ls' := [some (.inr 22), some (.inl v1)]) (gx_dt dt_mi_x_M_firstFalling 28 rfl) rfl (gx_ii e_v1 (by decide)) (by decide) rfl ?_
  refine gx_goto hX (tgt := 2) (gx_dt dt_mi_x_M_firstFalling 29 rfl) (by decide) ?_
  exact gx_weak (gx_leS (gx_leS gx_le0)) (hK2 _ _ h)
theorem t_x_M_firstFalling_2 {X : gx_X} (hX : gx_Ok X mi_x_M_firstFalling) {R : Int32 × gx_Wd} (hres : gx_res X = some (.inl R.1)) (hwr : gx_wr X = R.2) : ∀ (n : Nat) (b1 : Int32) (w : gx_Wd), x_M_firstFalling_2 n b1 w = some R → gx_G X mi_x_M_firstFalling 2 [some (.inr 22), some (.inl b1)] [] w := by
  intro n
  induction n with
  | zero => intro b1 w h; rw [x_M_firstFalling_2] at h; cases h
  | succ n ih =>
    intro b1 w h
    rw [x_M_firstFalling_2] at h
    refine gx_iload_n hX (gx_dt dt_mi_x_M_firstFalling 2 rfl) rfl ?_
    refine gx_iconst hX (v := 1) (gx_dt dt_mi_x_M_firstFalling 3 rfl) (by decide) ?_
    refine gx_iadd hX (gx_dt dt_mi_x_M_firstFalling 4 rfl) ?_
    refine gx_aload_n hX (gx_dt dt_mi_x_M_firstFalling 5 rfl) rfl ?_
    refine gx_getr hX fl_M_9 sh_x_22 rfl (gx_dt dt_mi_x_M_firstFalling 6 rfl) ?_
    refine gx_geti hX fl_M_82 sh_x_1 rfl (gx_dt dt_mi_x_M_firstFalling 7 rfl) ?_
    refine gx_ic_ge hX (tgt := 58) (gx_dt dt_mi_x_M_firstFalling 8 rfl) (by decide) (fun c1 => ?_) (fun c1 => ?_)
    · have h := gx_ifp c1 h
      refine gx_iconst hX (v := (-1)) (gx_dt dt_mi_x_M_firstFalling 30 rfl) (by decide) ?_
      obtain rfl := Option.some.inj h
      exact gx_iret hX (gx_dt dt_mi_x_M_firstFalling 31 rfl) rfl hres hwr
    · have h := gx_ifn c1 h
      refine gx_aload_n hX (gx_dt dt_mi_x_M_firstFalling 9 rfl) rfl ?_
      refine gx_getr hX fl_M_32 sh_x_22 rfl (gx_dt dt_mi_x_M_firstFalling 10 rfl) ?_
      refine gx_iload_n hX (gx_dt dt_mi_x_M_firstFalling 11 rfl) rfl ?_
      obtain ⟨r2, e_r2, h⟩ := gx_bd h
      refine gx_callSi hX (gx_dt dt_mi_x_M_firstFalling 12 rfl) ln_M_60_x_E_cell mo_x_E_cell ms_x_E_cell (gx_rmb rfl) rfl (k_x_E_cell e_r2) rfl rfl (Nat.le_of_ble_eq_true rfl) ?_
      refine gx_if_le hX (tgt := 52) (gx_dt dt_mi_x_M_firstFalling 13 rfl) (by decide) (fun c3 => ?_) (fun c3 => ?_)
      · have h := gx_ifp c3 h
        exact gx_weak (gx_leS (gx_leS gx_le0)) (t_x_M_firstFalling_52 hX hres hwr ih _ _ h)
      · have h := gx_ifn c3 h
        refine gx_aload_n hX (gx_dt dt_mi_x_M_firstFalling 14 rfl) rfl ?_
        refine gx_getr hX fl_M_35 sh_x_22 rfl (gx_dt dt_mi_x_M_firstFalling 15 rfl) ?_
        refine gx_iload_n hX (gx_dt dt_mi_x_M_firstFalling 16 rfl) rfl ?_
        obtain ⟨r4, e_r4, h⟩ := gx_bd h
        refine gx_callSi hX (gx_dt dt_mi_x_M_firstFalling 17 rfl) ln_M_60_x_E_cell mo_x_E_cell ms_x_E_cell (gx_rmb rfl) rfl (k_x_E_cell e_r4) rfl rfl (Nat.le_of_ble_eq_true rfl) ?_
        refine gx_if_ne hX (tgt := 52) (gx_dt dt_mi_x_M_firstFalling 18 rfl) (by decide) (fun c5 => ?_) (fun c5 => ?_)
        · have h := gx_ifn c5 h
          exact gx_weak (gx_leS (gx_leS gx_le0)) (t_x_M_firstFalling_52 hX hres hwr ih _ _ h)
        · have h := gx_ifp c5 h
          refine gx_aload_n hX (gx_dt dt_mi_x_M_firstFalling 19 rfl) rfl ?_
          refine gx_getr hX fl_M_35 sh_x_22 rfl (gx_dt dt_mi_x_M_firstFalling 20 rfl) ?_
          refine gx_iload_n hX (gx_dt dt_mi_x_M_firstFalling 21 rfl) rfl ?_
          refine gx_iconst hX (v := 1) (gx_dt dt_mi_x_M_firstFalling 22 rfl) (by decide) ?_
          refine gx_iadd hX (gx_dt dt_mi_x_M_firstFalling 23 rfl) ?_
          obtain ⟨r6, e_r6, h⟩ := gx_bd h
          refine gx_callSi hX (gx_dt dt_mi_x_M_firstFalling 24 rfl) ln_M_60_x_E_cell mo_x_E_cell ms_x_E_cell (gx_rmb rfl) rfl (k_x_E_cell e_r6) rfl rfl (Nat.le_of_ble_eq_true rfl) ?_
          refine gx_if_ne hX (tgt := 52) (gx_dt dt_mi_x_M_firstFalling 25 rfl) (by decide) (fun c7 => ?_) (fun c7 => ?_)
          · have h := gx_ifn c7 h
            exact gx_weak (gx_leS (gx_leS gx_le0)) (t_x_M_firstFalling_52 hX hres hwr ih _ _ h)
          · have h := gx_ifp c7 h
            refine gx_iload_n hX (gx_dt dt_mi_x_M_firstFalling 26 rfl) rfl ?_
            obtain rfl := Option.some.inj h
            exact gx_iret hX (gx_dt dt_mi_x_M_firstFalling 27 rfl) rfl hres hwr
theorem k_x_M_firstFalling {w : gx_Wd} {R : Int32 × gx_Wd} (h : x_M_firstFalling w = some R) : gx_MT mi_x_M_firstFalling [.inr 22] w (some (.inl R.1)) R.2 := by
  refine gx_met (by decide +kernel) (Nat.le_of_ble_eq_true rfl) (fun X hX hres hwr => ?_)
  show gx_G X mi_x_M_firstFalling 0 [some (.inr 22)] [] w
  rw [x_M_firstFalling] at h
  refine gx_iconst hX (v := 0) (gx_dt dt_mi_x_M_firstFalling 0 rfl) (by decide) ?_
  refine gx_istore_n hX (ls' := [some (.inr 22), some (.inl (0))]) (gx_dt dt_mi_x_M_firstFalling 1 rfl) (by decide) rfl ?_
  exact gx_weak (gx_leS (gx_leS gx_le0)) (t_x_M_firstFalling_2 hX hres hwr _ _ _ h)
-- EachBearsPillar$Mind.isBorne()Z
def x_M_isBorne (w : gx_Wd) : Option (Int32 × gx_Wd) :=
  (x_M_firstOverloaded w).bind fun r1 =>
  if 0 ≤ r1.1 then
    some (0, r1.2)
  else
  (x_M_firstFalling r1.2).bind fun r3 =>
  if 0 ≤ r3.1 then
    some (0, r3.2)
  else
  some (1, r3.2)
theorem k_x_M_isBorne {w : gx_Wd} {R : Int32 × gx_Wd} (h : x_M_isBorne w = some R) : gx_MT mi_x_M_isBorne [.inr 22] w (some (.inl R.1)) R.2 := by
  refine gx_met (by decide +kernel) (Nat.le_of_ble_eq_true rfl) (fun X hX hres hwr => ?_)
  show gx_G X mi_x_M_isBorne 0 [some (.inr 22)] [] w
  rw [x_M_isBorne] at h
  refine gx_aload_n hX (gx_dt dt_mi_x_M_isBorne 0 rfl) rfl ?_
  obtain ⟨r1, e_r1, h⟩ := gx_bd h
  refine gx_callVi hX (gx_dt dt_mi_x_M_isBorne 1 rfl) ln_M_111_x_M_firstOverloaded mo_x_M_firstOverloaded mv_x_M_firstOverloaded (gx_rmb rfl) sh_x_22 ⟨_, _, rfl⟩ rfl (k_x_M_firstOverloaded e_r1) rfl rfl (Nat.le_of_ble_eq_true rfl) ?_
  refine gx_if_ge hX (tgt := 18) (gx_dt dt_mi_x_M_isBorne 2 rfl) (by decide) (fun c2 => ?_) (fun c2 => ?_)
  · have h := gx_ifp c2 h
    refine gx_iconst hX (v := 0) (gx_dt dt_mi_x_M_isBorne 8 rfl) (by decide) ?_
    obtain rfl := Option.some.inj h
    exact gx_zret hX (gx_dt dt_mi_x_M_isBorne 9 rfl) rfl rfl hres hwr
  · have h := gx_ifn c2 h
    refine gx_aload_n hX (gx_dt dt_mi_x_M_isBorne 3 rfl) rfl ?_
    obtain ⟨r3, e_r3, h⟩ := gx_bd h
    refine gx_callVi hX (gx_dt dt_mi_x_M_isBorne 4 rfl) ln_M_115_x_M_firstFalling mo_x_M_firstFalling mv_x_M_firstFalling (gx_rmb rfl) sh_x_22 ⟨_, _, rfl⟩ rfl (k_x_M_firstFalling e_r3) rfl rfl (Nat.le_of_ble_eq_true rfl) ?_
    refine gx_if_ge hX (tgt := 18) (gx_dt dt_mi_x_M_isBorne 5 rfl) (by decide) (fun c4 => ?_) (fun c4 => ?_)
    · have h := gx_ifp c4 h
      refine gx_iconst hX (v := 0) (gx_dt dt_mi_x_M_isBorne 8 rfl) (by decide) ?_
      obtain rfl := Option.some.inj h
      exact gx_zret hX (gx_dt dt_mi_x_M_isBorne 9 rfl) rfl rfl hres hwr
    · have h := gx_ifn c4 h
      refine gx_iconst hX (v := 1) (gx_dt dt_mi_x_M_isBorne 6 rfl) (by decide) ?_
      refine gx_goto hX (tgt := 19) (gx_dt dt_mi_x_M_isBorne 7 rfl) (by decide) ?_
      obtain rfl := Option.some.inj h
      exact gx_zret hX (gx_dt dt_mi_x_M_isBorne 9 rfl) rfl rfl hres hwr
-- EachBearsPillar$Mind.isFirm()Z
def x_M_isFirm (w : gx_Wd) : Option (Int32 × gx_Wd) :=
  (x_M_stand w).bind fun r1 =>
  (x_M_weigh r1).bind fun r2 =>
  (x_M_isBorne r2).bind fun r3 =>
  if r3.1 = 0 ∨ r3.1 = 1 then some (r3.1, r3.2) else none
theorem k_x_M_isFirm {w : gx_Wd} {R : Int32 × gx_Wd} (h : x_M_isFirm w = some R) : gx_MT mi_x_M_isFirm [.inr 22] w (some (.inl R.1)) R.2 := by
  refine gx_met (by decide +kernel) (Nat.le_of_ble_eq_true rfl) (fun X hX hres hwr => ?_)
  show gx_G X mi_x_M_isFirm 0 [some (.inr 22)] [] w
  rw [x_M_isFirm] at h
  refine gx_aload_n hX (gx_dt dt_mi_x_M_isFirm 0 rfl) rfl ?_
  obtain ⟨r1, e_r1, h⟩ := gx_bd h
  refine gx_callVv hX (gx_dt dt_mi_x_M_isFirm 1 rfl) ln_M_98_x_M_stand mo_x_M_stand mv_x_M_stand (gx_rmb rfl) sh_x_22 ⟨_, _, rfl⟩ rfl (k_x_M_stand e_r1) rfl rfl (Nat.le_of_ble_eq_true rfl) ?_
  refine gx_aload_n hX (gx_dt dt_mi_x_M_isFirm 2 rfl) rfl ?_
  obtain ⟨r2, e_r2, h⟩ := gx_bd h
  refine gx_callVv hX (gx_dt dt_mi_x_M_isFirm 3 rfl) ln_M_101_x_M_weigh mo_x_M_weigh mv_x_M_weigh (gx_rmb rfl) sh_x_22 ⟨_, _, rfl⟩ rfl (k_x_M_weigh e_r2) rfl rfl (Nat.le_of_ble_eq_true rfl) ?_
  refine gx_aload_n hX (gx_dt dt_mi_x_M_isFirm 4 rfl) rfl ?_
  obtain ⟨r3, e_r3, h⟩ := gx_bd h
  refine gx_callVi hX (gx_dt dt_mi_x_M_isFirm 5 rfl) ln_M_118_x_M_isBorne mo_x_M_isBorne mv_x_M_isBorne (gx_rmb rfl) sh_x_22 ⟨_, _, rfl⟩ rfl (k_x_M_isBorne e_r3) rfl rfl (Nat.le_of_ble_eq_true rfl) ?_
  obtain ⟨c, h⟩ := gx_01 h
  obtain rfl := Option.some.inj h
  exact gx_zret hX (gx_dt dt_mi_x_M_isFirm 6 rfl) rfl (gx_nar c) hres hwr
-- EachBearsPillar.holds()I
def x_E_holds (w : gx_Wd) : Option (Int32 × gx_Wd) :=
  (x_M_asTold w).bind fun r1 =>
  (x_M_isFirm r1).bind fun r2 =>
  if r2.1 = 0 then
    some (0, r2.2)
  else
  some (1, r2.2)
theorem k_x_E_holds {w : gx_Wd} {R : Int32 × gx_Wd} (h : x_E_holds w = some R) : gx_MT mi_x_E_holds [.inr 0] w (some (.inl R.1)) R.2 := by
  refine gx_met (by decide +kernel) (Nat.le_of_ble_eq_true rfl) (fun X hX hres hwr => ?_)
  show gx_G X mi_x_E_holds 0 [some (.inr 0)] [] w
  rw [x_E_holds] at h
  refine gx_aload_n hX (gx_dt dt_mi_x_E_holds 0 rfl) rfl ?_
  refine gx_getr hX fl_E_31 sh_x_0 rfl (gx_dt dt_mi_x_E_holds 1 rfl) ?_
  obtain ⟨r1, e_r1, h⟩ := gx_bd h
  refine gx_callVv hX (gx_dt dt_mi_x_E_holds 2 rfl) ln_E_115_x_M_asTold mo_x_M_asTold mv_x_M_asTold (gx_rmb rfl) sh_x_22 ⟨_, _, rfl⟩ rfl (k_x_M_asTold e_r1) rfl rfl (Nat.le_of_ble_eq_true rfl) ?_
  refine gx_aload_n hX (gx_dt dt_mi_x_E_holds 3 rfl) rfl ?_
  refine gx_getr hX fl_E_31 sh_x_0 rfl (gx_dt dt_mi_x_E_holds 4 rfl) ?_
  obtain ⟨r2, e_r2, h⟩ := gx_bd h
  refine gx_callVi hX (gx_dt dt_mi_x_E_holds 5 rfl) ln_E_148_x_M_isFirm mo_x_M_isFirm mv_x_M_isFirm (gx_rmb rfl) sh_x_22 ⟨_, _, rfl⟩ rfl (k_x_M_isFirm e_r2) rfl rfl (Nat.le_of_ble_eq_true rfl) ?_
  refine gx_if_eq hX (tgt := 21) (gx_dt dt_mi_x_E_holds 6 rfl) (by decide) (fun c3 => ?_) (fun c3 => ?_)
  · have h := gx_ifp c3 h
    refine gx_iconst hX (v := 0) (gx_dt dt_mi_x_E_holds 9 rfl) (by decide) ?_
    obtain rfl := Option.some.inj h
    exact gx_iret hX (gx_dt dt_mi_x_E_holds 10 rfl) rfl hres hwr
  · have h := gx_ifn c3 h
    refine gx_iconst hX (v := 1) (gx_dt dt_mi_x_E_holds 7 rfl) (by decide) ?_
    refine gx_goto hX (tgt := 22) (gx_dt dt_mi_x_E_holds 8 rfl) (by decide) ?_
    obtain rfl := Option.some.inj h
    exact gx_iret hX (gx_dt dt_mi_x_E_holds 10 rfl) rfl hres hwr
-- EachBearsPillar.sag()I
def x_E_sag (w : gx_Wd) : Option (Int32 × gx_Wd) :=
  (x_M_asTold w).bind fun r1 =>
  (x_M_standAndWeigh r1).bind fun r2 =>
  (x_M_firstOverloaded r2).bind fun r3 =>
  if r3.1 < 0 then
    (x_M_firstFalling r3.2).bind fun r5 =>
    if r5.1 < 0 then
      some ((-9), r5.2)
    else
    some (10 + r5.1, r5.2)
  else
  some (r3.1, r3.2)
theorem k_x_E_sag {w : gx_Wd} {R : Int32 × gx_Wd} (h : x_E_sag w = some R) : gx_MT mi_x_E_sag [.inr 0] w (some (.inl R.1)) R.2 := by
  refine gx_met (by decide +kernel) (Nat.le_of_ble_eq_true rfl) (fun X hX hres hwr => ?_)
  show gx_G X mi_x_E_sag 0 [some (.inr 0)] [] w
  rw [x_E_sag] at h
  refine gx_aload_n hX (gx_dt dt_mi_x_E_sag 0 rfl) rfl ?_
  refine gx_getr hX fl_E_31 sh_x_0 rfl (gx_dt dt_mi_x_E_sag 1 rfl) ?_
  obtain ⟨r1, e_r1, h⟩ := gx_bd h
  refine gx_callVv hX (gx_dt dt_mi_x_E_sag 2 rfl) ln_E_115_x_M_asTold mo_x_M_asTold mv_x_M_asTold (gx_rmb rfl) sh_x_22 ⟨_, _, rfl⟩ rfl (k_x_M_asTold e_r1) rfl rfl (Nat.le_of_ble_eq_true rfl) ?_
  refine gx_aload_n hX (gx_dt dt_mi_x_E_sag 3 rfl) rfl ?_
  refine gx_getr hX fl_E_31 sh_x_0 rfl (gx_dt dt_mi_x_E_sag 4 rfl) ?_
  obtain ⟨r2, e_r2, h⟩ := gx_bd h
  refine gx_callVv hX (gx_dt dt_mi_x_E_sag 5 rfl) ln_E_142_x_M_standAndWeigh mo_x_M_standAndWeigh mv_x_M_standAndWeigh (gx_rmb rfl) sh_x_22 ⟨_, _, rfl⟩ rfl (k_x_M_standAndWeigh e_r2) rfl rfl (Nat.le_of_ble_eq_true rfl) ?_
  refine gx_aload_n hX (gx_dt dt_mi_x_E_sag 6 rfl) rfl ?_
  refine gx_getr hX fl_E_31 sh_x_0 rfl (gx_dt dt_mi_x_E_sag 7 rfl) ?_
  obtain ⟨r3, e_r3, h⟩ := gx_bd h
  refine gx_callVi hX (gx_dt dt_mi_x_E_sag 8 rfl) ln_E_152_x_M_firstOverloaded mo_x_M_firstOverloaded mv_x_M_firstOverloaded (gx_rmb rfl) sh_x_22 ⟨_, _, rfl⟩ rfl (k_x_M_firstOverloaded e_r3) rfl rfl (Nat.le_of_ble_eq_true rfl) ?_
  refine gx_istore_n hX (ls' := [some (.inr 0), some (.inl (r3.1))]) (gx_dt dt_mi_x_E_sag 9 rfl) (by decide) rfl ?_
  refine gx_iload_n hX (gx_dt dt_mi_x_E_sag 10 rfl) rfl ?_
  refine gx_if_lt hX (tgt := 28) (gx_dt dt_mi_x_E_sag 11 rfl) (by decide) (fun c4 => ?_) (fun c4 => ?_)
  · have h := gx_ifp c4 h
    refine gx_aload_n hX (gx_dt dt_mi_x_E_sag 14 rfl) rfl ?_
    refine gx_getr hX fl_E_31 sh_x_0 rfl (gx_dt dt_mi_x_E_sag 15 rfl) ?_
    obtain ⟨r5, e_r5, h⟩ := gx_bd h
    refine gx_callVi hX (gx_dt dt_mi_x_E_sag 16 rfl) ln_E_155_x_M_firstFalling mo_x_M_firstFalling mv_x_M_firstFalling (gx_rmb rfl) sh_x_22 ⟨_, _, rfl⟩ rfl (k_x_M_firstFalling e_r5) rfl rfl (Nat.le_of_ble_eq_true rfl) ?_
    refine gx_istore_n hX (ls' := [some (.inr 0), some (.inl (r3.1)), some (.inl (r5.1))]) (gx_dt dt_mi_x_E_sag 17 rfl) (by decide) rfl ?_
    refine gx_iload_n hX (gx_dt dt_mi_x_E_sag 18 rfl) rfl ?_
    refine gx_if_lt hX (tgt := 47) (gx_dt dt_mi_x_E_sag 19 rfl) (by decide) (fun c6 => ?_) (fun c6 => ?_)
    · have h := gx_ifp c6 h
      refine gx_bipush hX (v := (-9)) (gx_dt dt_mi_x_E_sag 24 rfl) (by decide) ?_
      obtain rfl := Option.some.inj h
      exact gx_iret hX (gx_dt dt_mi_x_E_sag 25 rfl) rfl hres hwr
    · have h := gx_ifn c6 h
      refine gx_bipush hX (v := 10) (gx_dt dt_mi_x_E_sag 20 rfl) (by decide) ?_
      refine gx_iload_n hX (gx_dt dt_mi_x_E_sag 21 rfl) rfl ?_
      refine gx_iadd hX (gx_dt dt_mi_x_E_sag 22 rfl) ?_
      refine gx_goto hX (tgt := 49) (gx_dt dt_mi_x_E_sag 23 rfl) (by decide) ?_
      obtain rfl := Option.some.inj h
      exact gx_iret hX (gx_dt dt_mi_x_E_sag 25 rfl) rfl hres hwr
  · have h := gx_ifn c4 h
    refine gx_iload_n hX (gx_dt dt_mi_x_E_sag 12 rfl) rfl ?_
    obtain rfl := Option.some.inj h
    exact gx_iret hX (gx_dt dt_mi_x_E_sag 13 rfl) rfl hres hwr
-- EachBearsPillar.sumOf([II)I
def x_E_sumOf_4 : Nat → Nat → Int32 → Int32 → Int32 → gx_Wd → Option (Int32 × gx_Wd)
  | 0, _, _, _, _, _ => none
  | n + 1, q0, b1, b2, b3, w =>
  if b1 ≤ b3 then
    some (b2, w)
  else
  (x_E_cell q0 b3 w).bind fun r2 =>
  (some (b2 + r2.1)).bind fun v3 =>
  (some (b3 + 1)).bind fun v4 =>
  (x_E_sumOf_4 n) q0 b1 v3 v4 r2.2
def x_E_sumOf (o0 : Nat) (a1 : Int32) (w : gx_Wd) : Option (Int32 × gx_Wd) :=
  x_E_sumOf_4 6000 o0 a1 0 0 w
theorem t_x_E_sumOf_4 {X : gx_X} (hX : gx_Ok X mi_x_E_sumOf) {R : Int32 × gx_Wd} (hres : gx_res X = some (.inl R.1)) (hwr : gx_wr X = R.2) : ∀ (n : Nat) (q0 : Nat) (b1 : Int32) (b2 : Int32) (b3 : Int32) (w : gx_Wd), x_E_sumOf_4 n q0 b1 b2 b3 w = some R → gx_G X mi_x_E_sumOf 4 [some (.inr q0), some (.inl b1), some (.inl b2), some (.inl b3)] [] w := by
  intro n
  induction n with
  | zero => intro q0 b1 b2 b3 w h; rw [x_E_sumOf_4] at h; cases h
  | succ n ih =>
    intro q0 b1 b2 b3 w h
    rw [x_E_sumOf_4] at h
    refine gx_iload_n hX (gx_dt dt_mi_x_E_sumOf 4 rfl) rfl ?_
    refine gx_iload_n hX (gx_dt dt_mi_x_E_sumOf 5 rfl) rfl ?_
    refine gx_ic_ge hX (tgt := 23) (gx_dt dt_mi_x_E_sumOf 6 rfl) (by decide) (fun c1 => ?_) (fun c1 => ?_)
    · have h := gx_ifp c1 h
      refine gx_iload_n hX (gx_dt dt_mi_x_E_sumOf 15 rfl) rfl ?_
      obtain rfl := Option.some.inj h
      exact gx_iret hX (gx_dt dt_mi_x_E_sumOf 16 rfl) rfl hres hwr
    · have h := gx_ifn c1 h
      refine gx_iload_n hX (gx_dt dt_mi_x_E_sumOf 7 rfl) rfl ?_
      refine gx_aload_n hX (gx_dt dt_mi_x_E_sumOf 8 rfl) rfl ?_
      refine gx_iload_n hX (gx_dt dt_mi_x_E_sumOf 9 rfl) rfl ?_
      obtain ⟨r2, e_r2, h⟩ := gx_bd h
      refine gx_callSi hX (gx_dt dt_mi_x_E_sumOf 10 rfl) ln_E_125_x_E_cell mo_x_E_cell ms_x_E_cell (gx_rmb rfl) rfl (k_x_E_cell e_r2) rfl rfl (Nat.le_of_ble_eq_true rfl) ?_
      refine gx_iadd hX (gx_dt dt_mi_x_E_sumOf 11 rfl) ?_
      obtain ⟨v3, e_v3, h⟩ := gx_bd h
      refine gx_top e_v3 ?_
      refine gx_istore_n hX (ls' := [some (.inr q0), some (.inl b1), some (.inl v3), some (.inl b3)]) (gx_dt dt_mi_x_E_sumOf 12 rfl) (by decide) rfl ?_
      obtain ⟨v4, e_v4, h⟩ := gx_bd h
      refine gx_iinc hX (v := v4) (ls' := [some (.inr q0), some (.inl b1), some (.inl v3), some (.inl v4)]) (gx_dt dt_mi_x_E_sumOf 13 rfl) rfl (gx_ii e_v4 (by decide)) (by decide) rfl ?_
      refine gx_goto hX (tgt := 4) (gx_dt dt_mi_x_E_sumOf 14 rfl) (by decide) ?_
      exact gx_weak (gx_leS (gx_leS (gx_leS (gx_leS gx_le0)))) (ih _ _ _ _ _ h)
theorem k_x_E_sumOf {o0 : Nat} {a1 : Int32} {w : gx_Wd} {R : Int32 × gx_Wd} (h : x_E_sumOf o0 a1 w = some R) : gx_MT mi_x_E_sumOf [.inr o0, .inl a1] w (some (.inl R.1)) R.2 := by
  refine gx_met (by decide +kernel) (Nat.le_of_ble_eq_true rfl) (fun X hX hres hwr => ?_)
  show gx_G X mi_x_E_sumOf 0 [some (.inr o0), some (.inl a1)] [] w
  rw [x_E_sumOf] at h
  refine gx_iconst hX (v := 0) (gx_dt dt_mi_x_E_sumOf 0 rfl) (by decide) ?_
  refine gx_istore_n hX (ls' := [some (.inr o0), some (.inl a1), some (.inl (0))]) (gx_dt dt_mi_x_E_sumOf 1 rfl) (by decide) rfl ?_
  refine gx_iconst hX (v := 0) (gx_dt dt_mi_x_E_sumOf 2 rfl) (by decide) ?_
  refine gx_istore_n hX (ls' := [some (.inr o0), some (.inl a1), some (.inl (0)), some (.inl (0))]) (gx_dt dt_mi_x_E_sumOf 3 rfl) (by decide) rfl ?_
  exact gx_weak (gx_leS (gx_leS (gx_leS (gx_leS gx_le0)))) (t_x_E_sumOf_4 hX hres hwr _ _ _ _ _ _ h)
end
section
-- EachBearsPillar.count(I)I
def x_E_count (a1 : Int32) (w : gx_Wd) : Option (Int32 × gx_Wd) :=
  if a1 = 0 then
    some (w 1 0, w)
  else
  if a1 = 1 then
    some (w 1 1, w)
  else
  if a1 = 2 then
    some (w 1 2, w)
  else
  if a1 = 3 then
    (x_E_sumOf 6 6 w).bind fun r5 =>
    some (r5.1, r5.2)
  else
  if a1 = 4 then
    (x_M_asTold w).bind fun r7 =>
    (x_M_standAndWeigh r7).bind fun r8 =>
    (x_E_sumOf 28 (r8 1 0) r8).bind fun r9 =>
    some (r9.1, r9.2)
  else
  if a1 = 5 then
    (x_M_asTold w).bind fun r11 =>
    (x_M_standAndWeigh r11).bind fun r12 =>
    (x_E_sumOf 26 (r12 1 0) r12).bind fun r13 =>
    some (r13.1, r13.2)
  else
  if a1 = 6 then
    some (w 0 9, w)
  else
  if a1 = 7 then
    some (w 29 1, w)
  else
  if a1 < 11 then
    some ((-9), w)
  else
  if 16 < a1 then
    some ((-9), w)
  else
  (x_E_cell 39 (a1 - 10) w).bind fun r18 =>
  some (r18.1, r18.2)
theorem k_x_E_count {a1 : Int32} {w : gx_Wd} {R : Int32 × gx_Wd} (h : x_E_count a1 w = some R) : gx_MT mi_x_E_count [.inr 0, .inl a1] w (some (.inl R.1)) R.2 := by
  refine gx_met (by decide +kernel) (Nat.le_of_ble_eq_true rfl) (fun X hX hres hwr => ?_)
  show gx_G X mi_x_E_count 0 [some (.inr 0), some (.inl a1)] [] w
  rw [x_E_count] at h
  refine gx_iload_n hX (gx_dt dt_mi_x_E_count 0 rfl) rfl ?_
  by_cases c1 : a1 = 0
  · have h := gx_ifp c1 h
    refine gx_tabIn hX (off := 47) (tgt := 48) (gx_dt dt_mi_x_E_count 1 rfl) (by rw [c1]; decide) (by rw [c1]; decide) (by rw [c1]; rfl) (by decide) ?_
    refine gx_aload_n hX (gx_dt dt_mi_x_E_count 2 rfl) rfl ?_
    refine gx_getr hX fl_E_10 sh_x_0 rfl (gx_dt dt_mi_x_E_count 3 rfl) ?_
    refine gx_geti hX fl_E_158 sh_x_1 rfl (gx_dt dt_mi_x_E_count 4 rfl) ?_
    obtain rfl := Option.some.inj h
    exact gx_iret hX (gx_dt dt_mi_x_E_count 5 rfl) rfl hres hwr
  have h := gx_ifn c1 h
  by_cases c2 : a1 = 1
  · have h := gx_ifp c2 h
    refine gx_tabIn hX (off := 55) (tgt := 56) (gx_dt dt_mi_x_E_count 1 rfl) (by rw [c2]; decide) (by rw [c2]; decide) (by rw [c2]; rfl) (by decide) ?_
    refine gx_aload_n hX (gx_dt dt_mi_x_E_count 6 rfl) rfl ?_
    refine gx_getr hX fl_E_10 sh_x_0 rfl (gx_dt dt_mi_x_E_count 7 rfl) ?_
    refine gx_geti hX fl_E_112 sh_x_1 rfl (gx_dt dt_mi_x_E_count 8 rfl) ?_
    obtain rfl := Option.some.inj h
    exact gx_iret hX (gx_dt dt_mi_x_E_count 9 rfl) rfl hres hwr
  have h := gx_ifn c2 h
  by_cases c3 : a1 = 2
  · have h := gx_ifp c3 h
    refine gx_tabIn hX (off := 63) (tgt := 64) (gx_dt dt_mi_x_E_count 1 rfl) (by rw [c3]; decide) (by rw [c3]; decide) (by rw [c3]; rfl) (by decide) ?_
    refine gx_aload_n hX (gx_dt dt_mi_x_E_count 10 rfl) rfl ?_
    refine gx_getr hX fl_E_10 sh_x_0 rfl (gx_dt dt_mi_x_E_count 11 rfl) ?_
    refine gx_geti hX fl_E_100 sh_x_1 rfl (gx_dt dt_mi_x_E_count 12 rfl) ?_
    obtain rfl := Option.some.inj h
    exact gx_iret hX (gx_dt dt_mi_x_E_count 13 rfl) rfl hres hwr
  have h := gx_ifn c3 h
  by_cases c4 : a1 = 3
  · have h := gx_ifp c4 h
    refine gx_tabIn hX (off := 71) (tgt := 72) (gx_dt dt_mi_x_E_count 1 rfl) (by rw [c4]; decide) (by rw [c4]; decide) (by rw [c4]; rfl) (by decide) ?_
    refine gx_aload_n hX (gx_dt dt_mi_x_E_count 14 rfl) rfl ?_
    refine gx_getr hX fl_E_10 sh_x_0 rfl (gx_dt dt_mi_x_E_count 15 rfl) ?_
    refine gx_getr hX fl_E_90 sh_x_1 rfl (gx_dt dt_mi_x_E_count 16 rfl) ?_
    refine gx_bipush hX (v := 6) (gx_dt dt_mi_x_E_count 17 rfl) (by decide) ?_
    obtain ⟨r5, e_r5, h⟩ := gx_bd h
    refine gx_callSi hX (gx_dt dt_mi_x_E_count 18 rfl) ln_E_161_x_E_sumOf mo_x_E_sumOf ms_x_E_sumOf (gx_rmb rfl) rfl (k_x_E_sumOf e_r5) rfl rfl (Nat.le_of_ble_eq_true rfl) ?_
    obtain rfl := Option.some.inj h
    exact gx_iret hX (gx_dt dt_mi_x_E_count 19 rfl) rfl hres hwr
  have h := gx_ifn c4 h
  by_cases c6 : a1 = 4
  · have h := gx_ifp c6 h
    refine gx_tabIn hX (off := 84) (tgt := 85) (gx_dt dt_mi_x_E_count 1 rfl) (by rw [c6]; decide) (by rw [c6]; decide) (by rw [c6]; rfl) (by decide) ?_
    refine gx_aload_n hX (gx_dt dt_mi_x_E_count 20 rfl) rfl ?_
    refine gx_getr hX fl_E_31 sh_x_0 rfl (gx_dt dt_mi_x_E_count 21 rfl) ?_
    obtain ⟨r7, e_r7, h⟩ := gx_bd h
    refine gx_callVv hX (gx_dt dt_mi_x_E_count 22 rfl) ln_E_115_x_M_asTold mo_x_M_asTold mv_x_M_asTold (gx_rmb rfl) sh_x_22 ⟨_, _, rfl⟩ rfl (k_x_M_asTold e_r7) rfl rfl (Nat.le_of_ble_eq_true rfl) ?_
    refine gx_aload_n hX (gx_dt dt_mi_x_E_count 23 rfl) rfl ?_
    refine gx_getr hX fl_E_31 sh_x_0 rfl (gx_dt dt_mi_x_E_count 24 rfl) ?_
    obtain ⟨r8, e_r8, h⟩ := gx_bd h
    refine gx_callVv hX (gx_dt dt_mi_x_E_count 25 rfl) ln_E_142_x_M_standAndWeigh mo_x_M_standAndWeigh mv_x_M_standAndWeigh (gx_rmb rfl) sh_x_22 ⟨_, _, rfl⟩ rfl (k_x_M_standAndWeigh e_r8) rfl rfl (Nat.le_of_ble_eq_true rfl) ?_
    refine gx_aload_n hX (gx_dt dt_mi_x_E_count 26 rfl) rfl ?_
    refine gx_getr hX fl_E_31 sh_x_0 rfl (gx_dt dt_mi_x_E_count 27 rfl) ?_
    refine gx_getr hX fl_E_145 sh_x_22 rfl (gx_dt dt_mi_x_E_count 28 rfl) ?_
    refine gx_aload_n hX (gx_dt dt_mi_x_E_count 29 rfl) rfl ?_
    refine gx_getr hX fl_E_10 sh_x_0 rfl (gx_dt dt_mi_x_E_count 30 rfl) ?_
    refine gx_geti hX fl_E_158 sh_x_1 rfl (gx_dt dt_mi_x_E_count 31 rfl) ?_
    obtain ⟨r9, e_r9, h⟩ := gx_bd h
    refine gx_callSi hX (gx_dt dt_mi_x_E_count 32 rfl) ln_E_161_x_E_sumOf mo_x_E_sumOf ms_x_E_sumOf (gx_rmb rfl) rfl (k_x_E_sumOf e_r9) rfl rfl (Nat.le_of_ble_eq_true rfl) ?_
    obtain rfl := Option.some.inj h
    exact gx_iret hX (gx_dt dt_mi_x_E_count 33 rfl) rfl hres hwr
  have h := gx_ifn c6 h
  by_cases c10 : a1 = 5
  · have h := gx_ifp c10 h
    refine gx_tabIn hX (off := 116) (tgt := 117) (gx_dt dt_mi_x_E_count 1 rfl) (by rw [c10]; decide) (by rw [c10]; decide) (by rw [c10]; rfl) (by decide) ?_
    refine gx_aload_n hX (gx_dt dt_mi_x_E_count 34 rfl) rfl ?_
    refine gx_getr hX fl_E_31 sh_x_0 rfl (gx_dt dt_mi_x_E_count 35 rfl) ?_
    obtain ⟨r11, e_r11, h⟩ := gx_bd h
    refine gx_callVv hX (gx_dt dt_mi_x_E_count 36 rfl) ln_E_115_x_M_asTold mo_x_M_asTold mv_x_M_asTold (gx_rmb rfl) sh_x_22 ⟨_, _, rfl⟩ rfl (k_x_M_asTold e_r11) rfl rfl (Nat.le_of_ble_eq_true rfl) ?_
    refine gx_aload_n hX (gx_dt dt_mi_x_E_count 37 rfl) rfl ?_
    refine gx_getr hX fl_E_31 sh_x_0 rfl (gx_dt dt_mi_x_E_count 38 rfl) ?_
    obtain ⟨r12, e_r12, h⟩ := gx_bd h
    refine gx_callVv hX (gx_dt dt_mi_x_E_count 39 rfl) ln_E_142_x_M_standAndWeigh mo_x_M_standAndWeigh mv_x_M_standAndWeigh (gx_rmb rfl) sh_x_22 ⟨_, _, rfl⟩ rfl (k_x_M_standAndWeigh e_r12) rfl rfl (Nat.le_of_ble_eq_true rfl) ?_
    refine gx_aload_n hX (gx_dt dt_mi_x_E_count 40 rfl) rfl ?_
    refine gx_getr hX fl_E_31 sh_x_0 rfl (gx_dt dt_mi_x_E_count 41 rfl) ?_
    refine gx_getr hX fl_E_164 sh_x_22 rfl (gx_dt dt_mi_x_E_count 42 rfl) ?_
    refine gx_aload_n hX (gx_dt dt_mi_x_E_count 43 rfl) rfl ?_
    refine gx_getr hX fl_E_10 sh_x_0 rfl (gx_dt dt_mi_x_E_count 44 rfl) ?_
    refine gx_geti hX fl_E_158 sh_x_1 rfl (gx_dt dt_mi_x_E_count 45 rfl) ?_
    obtain ⟨r13, e_r13, h⟩ := gx_bd h
    refine gx_callSi hX (gx_dt dt_mi_x_E_count 46 rfl) ln_E_161_x_E_sumOf mo_x_E_sumOf ms_x_E_sumOf (gx_rmb rfl) rfl (k_x_E_sumOf e_r13) rfl rfl (Nat.le_of_ble_eq_true rfl) ?_
    obtain rfl := Option.some.inj h
    exact gx_iret hX (gx_dt dt_mi_x_E_count 47 rfl) rfl hres hwr
  have h := gx_ifn c10 h
  by_cases c14 : a1 = 6
  · have h := gx_ifp c14 h
    refine gx_tabIn hX (off := 148) (tgt := 149) (gx_dt dt_mi_x_E_count 1 rfl) (by rw [c14]; decide) (by rw [c14]; decide) (by rw [c14]; rfl) (by decide) ?_
    refine gx_aload_n hX (gx_dt dt_mi_x_E_count 48 rfl) rfl ?_
    refine gx_geti hX fl_E_62 sh_x_0 rfl (gx_dt dt_mi_x_E_count 49 rfl) ?_
    obtain rfl := Option.some.inj h
    exact gx_iret hX (gx_dt dt_mi_x_E_count 50 rfl) rfl hres hwr
  have h := gx_ifn c14 h
  by_cases c15 : a1 = 7
  · have h := gx_ifp c15 h
    refine gx_tabIn hX (off := 153) (tgt := 154) (gx_dt dt_mi_x_E_count 1 rfl) (by rw [c15]; decide) (by rw [c15]; decide) (by rw [c15]; rfl) (by decide) ?_
    refine gx_aload_n hX (gx_dt dt_mi_x_E_count 51 rfl) rfl ?_
    refine gx_getr hX fl_E_38 sh_x_0 rfl (gx_dt dt_mi_x_E_count 52 rfl) ?_
    refine gx_geti hX fl_E_73 sh_x_29 rfl (gx_dt dt_mi_x_E_count 53 rfl) ?_
    obtain rfl := Option.some.inj h
    exact gx_iret hX (gx_dt dt_mi_x_E_count 54 rfl) rfl hres hwr
  have h := gx_ifn c15 h
  refine gx_tabD hX (tgt := 162) (gx_dt dt_mi_x_E_count 1 rfl) (gx_tdC (Or.inr (lv_neT c1 rfl)) (gx_tdC (Or.inr (lv_neT c2 rfl)) (gx_tdC (Or.inr (lv_neT c3 rfl)) (gx_tdC (Or.inr (lv_neT c4 rfl)) (gx_tdC (Or.inr (lv_neT c6 rfl)) (gx_tdC (Or.inr (lv_neT c10 rfl)) (gx_tdC (Or.inr (lv_neT c14 rfl)) (gx_tdC (Or.inr (lv_neT c15 rfl)) gx_td0)))))))) (by decide) (by decide) ?_
  refine gx_iload_n hX (gx_dt dt_mi_x_E_count 55 rfl) rfl ?_
  refine gx_bipush hX (v := 11) (gx_dt dt_mi_x_E_count 56 rfl) (by decide) ?_
  refine gx_ic_lt hX (tgt := 188) (gx_dt dt_mi_x_E_count 57 rfl) (by decide) (fun c16 => ?_) (fun c16 => ?_)
  · have h := gx_ifp c16 h
    refine gx_bipush hX (v := (-9)) (gx_dt dt_mi_x_E_count 68 rfl) (by decide) ?_
    obtain rfl := Option.some.inj h
    exact gx_iret hX (gx_dt dt_mi_x_E_count 69 rfl) rfl hres hwr
  · have h := gx_ifn c16 h
    refine gx_iload_n hX (gx_dt dt_mi_x_E_count 58 rfl) rfl ?_
    refine gx_bipush hX (v := 16) (gx_dt dt_mi_x_E_count 59 rfl) (by decide) ?_
    refine gx_ic_gt hX (tgt := 188) (gx_dt dt_mi_x_E_count 60 rfl) (by decide) (fun c17 => ?_) (fun c17 => ?_)
    · have h := gx_ifp c17 h
      refine gx_bipush hX (v := (-9)) (gx_dt dt_mi_x_E_count 68 rfl) (by decide) ?_
      obtain rfl := Option.some.inj h
      exact gx_iret hX (gx_dt dt_mi_x_E_count 69 rfl) rfl hres hwr
    · have h := gx_ifn c17 h
      refine gx_aload_n hX (gx_dt dt_mi_x_E_count 61 rfl) rfl ?_
      refine gx_getr hX fl_E_66 sh_x_0 rfl (gx_dt dt_mi_x_E_count 62 rfl) ?_
      refine gx_iload_n hX (gx_dt dt_mi_x_E_count 63 rfl) rfl ?_
      refine gx_bipush hX (v := 10) (gx_dt dt_mi_x_E_count 64 rfl) (by decide) ?_
      refine gx_isub hX (gx_dt dt_mi_x_E_count 65 rfl) ?_
      obtain ⟨r18, e_r18, h⟩ := gx_bd h
      refine gx_callSi hX (gx_dt dt_mi_x_E_count 66 rfl) ln_E_125_x_E_cell mo_x_E_cell ms_x_E_cell (gx_rmb rfl) rfl (k_x_E_cell e_r18) rfl rfl (Nat.le_of_ble_eq_true rfl) ?_
      refine gx_goto hX (tgt := 190) (gx_dt dt_mi_x_E_count 67 rfl) (by decide) ?_
      obtain rfl := Option.some.inj h
      exact gx_iret hX (gx_dt dt_mi_x_E_count 69 rfl) rfl hres hwr
-- EachBearsPillar.levels()I
def x_E_levels_41 (K11 : Int32 → Int32 → gx_Wd → Option (Int32 × gx_Wd)) (b1 : Int32) (b2 : Int32) (w : gx_Wd) : Option (Int32 × gx_Wd) :=
  (some (b2 + 1)).bind fun v1 =>
  K11 b1 v1 w
def x_E_levels_11 : Nat → Int32 → Int32 → gx_Wd → Option (Int32 × gx_Wd)
  | 0, _, _, _ => none
  | n + 1, b1, b2, w =>
  if 28 ≤ b2 then
    some (b1, w)
  else
  (gx_put w 22 2 b2).bind fun w2 =>
  (x_M_isFirm w2).bind fun r3 =>
  if r3.1 = 0 then
    x_E_levels_41 (x_E_levels_11 n) b1 b2 r3.2
  else
  (some (b1 ||| (1 <<< (b2 &&& 31)))).bind fun v5 =>
  x_E_levels_41 (x_E_levels_11 n) v5 b2 r3.2
def x_E_levels (w : gx_Wd) : Option (Int32 × gx_Wd) :=
  (x_M_asTold w).bind fun r1 =>
  x_E_levels_11 6000 0 0 r1
theorem t_x_E_levels_41 {X : gx_X} (hX : gx_Ok X mi_x_E_levels) {R : Int32 × gx_Wd} (hres : gx_res X = some (.inl R.1)) (hwr : gx_wr X = R.2) {K11 : Int32 → Int32 → gx_Wd → Option (Int32 × gx_Wd)} (hK11 : ∀ (b1 : Int32) (b2 : Int32) (w : gx_Wd), K11 b1 b2 w = some R → gx_G X mi_x_E_levels 11 [some (.inr 0), some (.inl b1), some (.inl b2)] [] w) (b1 : Int32) (b2 : Int32) (w : gx_Wd) (h : x_E_levels_41 K11 b1 b2 w = some R) : gx_G X mi_x_E_levels 41 [some (.inr 0), some (.inl b1), some (.inl b2)] [] w := by
  rw [x_E_levels_41] at h
  obtain ⟨v1, e_v1, h⟩ := gx_bd h
  refine gx_iinc hX (v := v1) (ls' := [some (.inr 0), some (.inl b1), some (.inl v1)]) (gx_dt dt_mi_x_E_levels 24 rfl) rfl (gx_ii e_v1 (by decide)) (by decide) rfl ?_
  refine gx_goto hX (tgt := 11) (gx_dt dt_mi_x_E_levels 25 rfl) (by decide) ?_
  exact gx_weak (gx_leS (gx_leS (gx_leS gx_le0))) (hK11 _ _ _ h)
theorem t_x_E_levels_11 {X : gx_X} (hX : gx_Ok X mi_x_E_levels) {R : Int32 × gx_Wd} (hres : gx_res X = some (.inl R.1)) (hwr : gx_wr X = R.2) : ∀ (n : Nat) (b1 : Int32) (b2 : Int32) (w : gx_Wd), x_E_levels_11 n b1 b2 w = some R → gx_G X mi_x_E_levels 11 [some (.inr 0), some (.inl b1), some (.inl b2)] [] w := by
  intro n
  induction n with
  | zero => intro b1 b2 w h; rw [x_E_levels_11] at h; cases h
  | succ n ih =>
    intro b1 b2 w h
    rw [x_E_levels_11] at h
    refine gx_iload_n hX (gx_dt dt_mi_x_E_levels 7 rfl) rfl ?_
    refine gx_bipush hX (v := 28) (gx_dt dt_mi_x_E_levels 8 rfl) (by decide) ?_
    refine gx_ic_ge hX (tgt := 47) (gx_dt dt_mi_x_E_levels 9 rfl) (by decide) (fun c1 => ?_) (fun c1 => ?_)
    · have h := gx_ifp c1 h
      refine gx_iload_n hX (gx_dt dt_mi_x_E_levels 26 rfl) rfl ?_
      obtain rfl := Option.some.inj h
      exact gx_iret hX (gx_dt dt_mi_x_E_levels 27 rfl) rfl hres hwr
    · have h := gx_ifn c1 h
      refine gx_aload_n hX (gx_dt dt_mi_x_E_levels 10 rfl) rfl ?_
      refine gx_getr hX fl_E_31 sh_x_0 rfl (gx_dt dt_mi_x_E_levels 11 rfl) ?_
      refine gx_iload_n hX (gx_dt dt_mi_x_E_levels 12 rfl) rfl ?_
      obtain ⟨w2, e_w2, h⟩ := gx_bd h
      refine gx_putp hX fl_E_167 (pf_M_2 _) sh_x_22 rfl e_w2 (gx_dt dt_mi_x_E_levels 13 rfl) ?_
      refine gx_aload_n hX (gx_dt dt_mi_x_E_levels 14 rfl) rfl ?_
      refine gx_getr hX fl_E_31 sh_x_0 rfl (gx_dt dt_mi_x_E_levels 15 rfl) ?_
      obtain ⟨r3, e_r3, h⟩ := gx_bd h
      refine gx_callVi hX (gx_dt dt_mi_x_E_levels 16 rfl) ln_E_148_x_M_isFirm mo_x_M_isFirm mv_x_M_isFirm (gx_rmb rfl) sh_x_22 ⟨_, _, rfl⟩ rfl (k_x_M_isFirm e_r3) rfl rfl (Nat.le_of_ble_eq_true rfl) ?_
      refine gx_if_eq hX (tgt := 41) (gx_dt dt_mi_x_E_levels 17 rfl) (by decide) (fun c4 => ?_) (fun c4 => ?_)
      · have h := gx_ifp c4 h
        exact gx_weak (gx_leS (gx_leS (gx_leS gx_le0))) (t_x_E_levels_41 hX hres hwr ih _ _ _ h)
      · have h := gx_ifn c4 h
        refine gx_iload_n hX (gx_dt dt_mi_x_E_levels 18 rfl) rfl ?_
        refine gx_iconst hX (v := 1) (gx_dt dt_mi_x_E_levels 19 rfl) (by decide) ?_
        refine gx_iload_n hX (gx_dt dt_mi_x_E_levels 20 rfl) rfl ?_
        refine gx_ishl hX (gx_dt dt_mi_x_E_levels 21 rfl) ?_
        refine gx_ior hX (gx_dt dt_mi_x_E_levels 22 rfl) ?_
        obtain ⟨v5, e_v5, h⟩ := gx_bd h
        refine gx_top e_v5 ?_
        refine gx_istore_n hX (ls' := [some (.inr 0), some (.inl v5), some (.inl b2)]) (gx_dt dt_mi_x_E_levels 23 rfl) (by decide) rfl ?_
        exact gx_weak (gx_leS (gx_leS (gx_leS gx_le0))) (t_x_E_levels_41 hX hres hwr ih _ _ _ h)
theorem k_x_E_levels {w : gx_Wd} {R : Int32 × gx_Wd} (h : x_E_levels w = some R) : gx_MT mi_x_E_levels [.inr 0] w (some (.inl R.1)) R.2 := by
  refine gx_met (by decide +kernel) (Nat.le_of_ble_eq_true rfl) (fun X hX hres hwr => ?_)
  show gx_G X mi_x_E_levels 0 [some (.inr 0)] [] w
  rw [x_E_levels] at h
  refine gx_aload_n hX (gx_dt dt_mi_x_E_levels 0 rfl) rfl ?_
  refine gx_getr hX fl_E_31 sh_x_0 rfl (gx_dt dt_mi_x_E_levels 1 rfl) ?_
  obtain ⟨r1, e_r1, h⟩ := gx_bd h
  refine gx_callVv hX (gx_dt dt_mi_x_E_levels 2 rfl) ln_E_115_x_M_asTold mo_x_M_asTold mv_x_M_asTold (gx_rmb rfl) sh_x_22 ⟨_, _, rfl⟩ rfl (k_x_M_asTold e_r1) rfl rfl (Nat.le_of_ble_eq_true rfl) ?_
  refine gx_iconst hX (v := 0) (gx_dt dt_mi_x_E_levels 3 rfl) (by decide) ?_
  refine gx_istore_n hX (ls' := [some (.inr 0), some (.inl (0))]) (gx_dt dt_mi_x_E_levels 4 rfl) (by decide) rfl ?_
  refine gx_iconst hX (v := 0) (gx_dt dt_mi_x_E_levels 5 rfl) (by decide) ?_
  refine gx_istore_n hX (ls' := [some (.inr 0), some (.inl (0)), some (.inl (0))]) (gx_dt dt_mi_x_E_levels 6 rfl) (by decide) rfl ?_
  exact gx_weak (gx_leS (gx_leS (gx_leS gx_le0))) (t_x_E_levels_11 hX hres hwr _ _ _ _ h)
-- EachBearsPillar.raise(I)I
def x_E_raise (a1 : Int32) (w : gx_Wd) : Option (Int32 × gx_Wd) :=
  (x_M_topOf a1 a1 w).bind fun r1 =>
  (some ((w 22 2) - r1.1)).bind fun v2 =>
  if v2 ≤ 0 then
    some (0, r1.2)
  else
  (x_E_cell 5 a1 r1.2).bind fun r4 =>
  if r4.1 + v2 ≤ 9 then
    (x_E_setCell 24 a1 v2 r4.2).bind fun r6 =>
    some (v2, r6.2)
  else
  some (0, r4.2)
theorem k_x_E_raise {a1 : Int32} {w : gx_Wd} {R : Int32 × gx_Wd} (h : x_E_raise a1 w = some R) : gx_MT mi_x_E_raise [.inr 0, .inl a1] w (some (.inl R.1)) R.2 := by
  refine gx_met (by decide +kernel) (Nat.le_of_ble_eq_true rfl) (fun X hX hres hwr => ?_)
  show gx_G X mi_x_E_raise 0 [some (.inr 0), some (.inl a1)] [] w
  rw [x_E_raise] at h
  refine gx_aload_n hX (gx_dt dt_mi_x_E_raise 0 rfl) rfl ?_
  refine gx_getr hX fl_E_31 sh_x_0 rfl (gx_dt dt_mi_x_E_raise 1 rfl) ?_
  refine gx_geti hX fl_E_167 sh_x_22 rfl (gx_dt dt_mi_x_E_raise 2 rfl) ?_
  refine gx_aload_n hX (gx_dt dt_mi_x_E_raise 3 rfl) rfl ?_
  refine gx_getr hX fl_E_31 sh_x_0 rfl (gx_dt dt_mi_x_E_raise 4 rfl) ?_
  refine gx_iload_n hX (gx_dt dt_mi_x_E_raise 5 rfl) rfl ?_
  refine gx_iload_n hX (gx_dt dt_mi_x_E_raise 6 rfl) rfl ?_
  obtain ⟨r1, e_r1, h⟩ := gx_bd h
  refine gx_callVi hX (gx_dt dt_mi_x_E_raise 7 rfl) ln_E_118_x_M_topOf mo_x_M_topOf mv_x_M_topOf (gx_rmb rfl) sh_x_22 ⟨_, _, rfl⟩ rfl (k_x_M_topOf e_r1) rfl rfl (Nat.le_of_ble_eq_true rfl) ?_
  refine gx_isub hX (gx_dt dt_mi_x_E_raise 8 rfl) ?_
  obtain ⟨v2, e_v2, h⟩ := gx_bd h
  refine gx_top e_v2 ?_
  refine gx_istore_n hX (ls' := [some (.inr 0), some (.inl a1), some (.inl v2)]) (gx_dt dt_mi_x_E_raise 9 rfl) (by decide) rfl ?_
  refine gx_iload_n hX (gx_dt dt_mi_x_E_raise 10 rfl) rfl ?_
  refine gx_if_le hX (tgt := 40) (gx_dt dt_mi_x_E_raise 11 rfl) (by decide) (fun c3 => ?_) (fun c3 => ?_)
  · have h := gx_ifp c3 h
    refine gx_iconst hX (v := 0) (gx_dt dt_mi_x_E_raise 21 rfl) (by decide) ?_
    obtain rfl := Option.some.inj h
    exact gx_iret hX (gx_dt dt_mi_x_E_raise 22 rfl) rfl hres hwr
  · have h := gx_ifn c3 h
    refine gx_aload_n hX (gx_dt dt_mi_x_E_raise 12 rfl) rfl ?_
    refine gx_getr hX fl_E_10 sh_x_0 rfl (gx_dt dt_mi_x_E_raise 13 rfl) ?_
    refine gx_getr hX fl_E_106 sh_x_1 rfl (gx_dt dt_mi_x_E_raise 14 rfl) ?_
    refine gx_iload_n hX (gx_dt dt_mi_x_E_raise 15 rfl) rfl ?_
    obtain ⟨r4, e_r4, h⟩ := gx_bd h
    refine gx_callSi hX (gx_dt dt_mi_x_E_raise 16 rfl) ln_E_125_x_E_cell mo_x_E_cell ms_x_E_cell (gx_rmb rfl) rfl (k_x_E_cell e_r4) rfl rfl (Nat.le_of_ble_eq_true rfl) ?_
    refine gx_iload_n hX (gx_dt dt_mi_x_E_raise 17 rfl) rfl ?_
    refine gx_iadd hX (gx_dt dt_mi_x_E_raise 18 rfl) ?_
    refine gx_bipush hX (v := 9) (gx_dt dt_mi_x_E_raise 19 rfl) (by decide) ?_
    refine gx_ic_le hX (tgt := 42) (gx_dt dt_mi_x_E_raise 20 rfl) (by decide) (fun c5 => ?_) (fun c5 => ?_)
    · have h := gx_ifp c5 h
      refine gx_aload_n hX (gx_dt dt_mi_x_E_raise 23 rfl) rfl ?_
      refine gx_getr hX fl_E_31 sh_x_0 rfl (gx_dt dt_mi_x_E_raise 24 rfl) ?_
      refine gx_getr hX fl_E_251 sh_x_22 rfl (gx_dt dt_mi_x_E_raise 25 rfl) ?_
      refine gx_iload_n hX (gx_dt dt_mi_x_E_raise 26 rfl) rfl ?_
      refine gx_iload_n hX (gx_dt dt_mi_x_E_raise 27 rfl) rfl ?_
      obtain ⟨r6, e_r6, h⟩ := gx_bd h
      refine gx_callSi hX (gx_dt dt_mi_x_E_raise 28 rfl) ln_E_174_x_E_setCell mo_x_E_setCell ms_x_E_setCell (gx_rmb rfl) rfl (k_x_E_setCell e_r6) rfl rfl (Nat.le_of_ble_eq_true rfl) ?_
      refine gx_pop hX (gx_dt dt_mi_x_E_raise 29 rfl) ?_
      refine gx_iload_n hX (gx_dt dt_mi_x_E_raise 30 rfl) rfl ?_
      obtain rfl := Option.some.inj h
      exact gx_iret hX (gx_dt dt_mi_x_E_raise 31 rfl) rfl hres hwr
    · have h := gx_ifn c5 h
      refine gx_iconst hX (v := 0) (gx_dt dt_mi_x_E_raise 21 rfl) (by decide) ?_
      obtain rfl := Option.some.inj h
      exact gx_iret hX (gx_dt dt_mi_x_E_raise 22 rfl) rfl hres hwr
-- EachBearsPillar.raiseBoth(II)I
def x_E_raiseBoth_43 (b3 : Int32) (w : gx_Wd) : Option (Int32 × gx_Wd) :=
  if b3 ≤ 0 then
    some (0, w)
  else
  (x_M_isFirm w).bind fun r2 =>
  if r2.1 = 0 then
    some (0, r2.2)
  else
  some (b3, r2.2)
def x_E_raiseBoth_42 (s0 : Int32) (w : gx_Wd) : Option (Int32 × gx_Wd) :=
  x_E_raiseBoth_43 s0 w
def x_E_raiseBoth (a1 : Int32) (a2 : Int32) (w : gx_Wd) : Option (Int32 × gx_Wd) :=
  (x_M_asTold w).bind fun r1 =>
  (x_E_raise a1 r1).bind fun r2 =>
  if a2 = a1 then
    x_E_raiseBoth_43 r2.1 r2.2
  else
  (x_E_raise a2 r2.2).bind fun r4 =>
  if r2.1 ≤ 0 then
    x_E_raiseBoth_42 0 r4.2
  else
  if r4.1 ≤ 0 then
    x_E_raiseBoth_42 0 r4.2
  else
  x_E_raiseBoth_42 (r2.1 + r4.1) r4.2
theorem t_x_E_raiseBoth_43 {X : gx_X} (hX : gx_Ok X mi_x_E_raiseBoth) {R : Int32 × gx_Wd} (hres : gx_res X = some (.inl R.1)) (hwr : gx_wr X = R.2) (b3 : Int32) (w : gx_Wd) (h : x_E_raiseBoth_43 b3 w = some R) : gx_G X mi_x_E_raiseBoth 43 [some (.inr 0), none, none, some (.inl b3)] [] w := by
  rw [x_E_raiseBoth_43] at h
  refine gx_iload_n hX (gx_dt dt_mi_x_E_raiseBoth 24 rfl) rfl ?_
  refine gx_if_le hX (tgt := 61) (gx_dt dt_mi_x_E_raiseBoth 25 rfl) (by decide) (fun c1 => ?_) (fun c1 => ?_)
  · have h := gx_ifp c1 h
    refine gx_iconst hX (v := 0) (gx_dt dt_mi_x_E_raiseBoth 32 rfl) (by decide) ?_
    obtain rfl := Option.some.inj h
    exact gx_iret hX (gx_dt dt_mi_x_E_raiseBoth 33 rfl) rfl hres hwr
  · have h := gx_ifn c1 h
    refine gx_aload_n hX (gx_dt dt_mi_x_E_raiseBoth 26 rfl) rfl ?_
    refine gx_getr hX fl_E_31 sh_x_0 rfl (gx_dt dt_mi_x_E_raiseBoth 27 rfl) ?_
    obtain ⟨r2, e_r2, h⟩ := gx_bd h
    refine gx_callVi hX (gx_dt dt_mi_x_E_raiseBoth 28 rfl) ln_E_148_x_M_isFirm mo_x_M_isFirm mv_x_M_isFirm (gx_rmb rfl) sh_x_22 ⟨_, _, rfl⟩ rfl (k_x_M_isFirm e_r2) rfl rfl (Nat.le_of_ble_eq_true rfl) ?_
    refine gx_if_eq hX (tgt := 61) (gx_dt dt_mi_x_E_raiseBoth 29 rfl) (by decide) (fun c3 => ?_) (fun c3 => ?_)
    · have h := gx_ifp c3 h
      refine gx_iconst hX (v := 0) (gx_dt dt_mi_x_E_raiseBoth 32 rfl) (by decide) ?_
      obtain rfl := Option.some.inj h
      exact gx_iret hX (gx_dt dt_mi_x_E_raiseBoth 33 rfl) rfl hres hwr
    · have h := gx_ifn c3 h
      refine gx_iload_n hX (gx_dt dt_mi_x_E_raiseBoth 30 rfl) rfl ?_
      refine gx_goto hX (tgt := 62) (gx_dt dt_mi_x_E_raiseBoth 31 rfl) (by decide) ?_
      obtain rfl := Option.some.inj h
      exact gx_iret hX (gx_dt dt_mi_x_E_raiseBoth 33 rfl) rfl hres hwr
theorem t_x_E_raiseBoth_42 {X : gx_X} (hX : gx_Ok X mi_x_E_raiseBoth) {R : Int32 × gx_Wd} (hres : gx_res X = some (.inl R.1)) (hwr : gx_wr X = R.2) (s0 : Int32) (w : gx_Wd) (h : x_E_raiseBoth_42 s0 w = some R) : gx_G X mi_x_E_raiseBoth 42 [some (.inr 0)] [.inl s0] w := by
  rw [x_E_raiseBoth_42] at h
  refine gx_istore_n hX (ls' := [some (.inr 0), none, none, some (.inl s0)]) (gx_dt dt_mi_x_E_raiseBoth 23 rfl) (by decide) rfl ?_
  exact gx_weak (gx_leS (gx_leN (gx_leN (gx_leS gx_le0)))) (t_x_E_raiseBoth_43 hX hres hwr _ _ h)
theorem k_x_E_raiseBoth {a1 : Int32} {a2 : Int32} {w : gx_Wd} {R : Int32 × gx_Wd} (h : x_E_raiseBoth a1 a2 w = some R) : gx_MT mi_x_E_raiseBoth [.inr 0, .inl a1, .inl a2] w (some (.inl R.1)) R.2 := by
  refine gx_met (by decide +kernel) (Nat.le_of_ble_eq_true rfl) (fun X hX hres hwr => ?_)
  show gx_G X mi_x_E_raiseBoth 0 [some (.inr 0), some (.inl a1), some (.inl a2)] [] w
  rw [x_E_raiseBoth] at h
  refine gx_aload_n hX (gx_dt dt_mi_x_E_raiseBoth 0 rfl) rfl ?_
  refine gx_getr hX fl_E_31 sh_x_0 rfl (gx_dt dt_mi_x_E_raiseBoth 1 rfl) ?_
  obtain ⟨r1, e_r1, h⟩ := gx_bd h
  refine gx_callVv hX (gx_dt dt_mi_x_E_raiseBoth 2 rfl) ln_E_115_x_M_asTold mo_x_M_asTold mv_x_M_asTold (gx_rmb rfl) sh_x_22 ⟨_, _, rfl⟩ rfl (k_x_M_asTold e_r1) rfl rfl (Nat.le_of_ble_eq_true rfl) ?_
  refine gx_aload_n hX (gx_dt dt_mi_x_E_raiseBoth 3 rfl) rfl ?_
  refine gx_iload_n hX (gx_dt dt_mi_x_E_raiseBoth 4 rfl) rfl ?_
  obtain ⟨r2, e_r2, h⟩ := gx_bd h
  refine gx_callVi hX (gx_dt dt_mi_x_E_raiseBoth 5 rfl) ln_E_248_x_E_raise mo_x_E_raise mv_x_E_raise (gx_rmb rfl) sh_x_0 ⟨_, _, rfl⟩ rfl (k_x_E_raise e_r2) rfl rfl (Nat.le_of_ble_eq_true rfl) ?_
  refine gx_istore_n hX (ls' := [some (.inr 0), some (.inl a1), some (.inl a2), some (.inl (r2.1))]) (gx_dt dt_mi_x_E_raiseBoth 6 rfl) (by decide) rfl ?_
  refine gx_iload_n hX (gx_dt dt_mi_x_E_raiseBoth 7 rfl) rfl ?_
  refine gx_iload_n hX (gx_dt dt_mi_x_E_raiseBoth 8 rfl) rfl ?_
  refine gx_ic_eq hX (tgt := 43) (gx_dt dt_mi_x_E_raiseBoth 9 rfl) (by decide) (fun c3 => ?_) (fun c3 => ?_)
  · have h := gx_ifp c3 h
    exact gx_weak (gx_leS (gx_leN (gx_leN (gx_leS gx_le0)))) (t_x_E_raiseBoth_43 hX hres hwr _ _ h)
  · have h := gx_ifn c3 h
    refine gx_aload_n hX (gx_dt dt_mi_x_E_raiseBoth 10 rfl) rfl ?_
    refine gx_iload_n hX (gx_dt dt_mi_x_E_raiseBoth 11 rfl) rfl ?_
    obtain ⟨r4, e_r4, h⟩ := gx_bd h
    refine gx_callVi hX (gx_dt dt_mi_x_E_raiseBoth 12 rfl) ln_E_248_x_E_raise mo_x_E_raise mv_x_E_raise (gx_rmb rfl) sh_x_0 ⟨_, _, rfl⟩ rfl (k_x_E_raise e_r4) rfl rfl (Nat.le_of_ble_eq_true rfl) ?_
    refine gx_istore hX (ls' := [some (.inr 0), some (.inl a1), some (.inl a2), some (.inl (r2.1)), some (.inl (r4.1))]) (gx_dt dt_mi_x_E_raiseBoth 13 rfl) (by decide) rfl ?_
    refine gx_iload_n hX (gx_dt dt_mi_x_E_raiseBoth 14 rfl) rfl ?_
    refine gx_if_le hX (tgt := 41) (gx_dt dt_mi_x_E_raiseBoth 15 rfl) (by decide) (fun c5 => ?_) (fun c5 => ?_)
    · have h := gx_ifp c5 h
      refine gx_iconst hX (v := 0) (gx_dt dt_mi_x_E_raiseBoth 22 rfl) (by decide) ?_
      exact gx_weak (gx_leS gx_le0) (t_x_E_raiseBoth_42 hX hres hwr _ _ h)
    · have h := gx_ifn c5 h
      refine gx_iload hX (gx_dt dt_mi_x_E_raiseBoth 16 rfl) rfl ?_
      refine gx_if_le hX (tgt := 41) (gx_dt dt_mi_x_E_raiseBoth 17 rfl) (by decide) (fun c6 => ?_) (fun c6 => ?_)
      · have h := gx_ifp c6 h
        refine gx_iconst hX (v := 0) (gx_dt dt_mi_x_E_raiseBoth 22 rfl) (by decide) ?_
        exact gx_weak (gx_leS gx_le0) (t_x_E_raiseBoth_42 hX hres hwr _ _ h)
      · have h := gx_ifn c6 h
        refine gx_iload_n hX (gx_dt dt_mi_x_E_raiseBoth 18 rfl) rfl ?_
        refine gx_iload hX (gx_dt dt_mi_x_E_raiseBoth 19 rfl) rfl ?_
        refine gx_iadd hX (gx_dt dt_mi_x_E_raiseBoth 20 rfl) ?_
        refine gx_goto hX (tgt := 42) (gx_dt dt_mi_x_E_raiseBoth 21 rfl) (by decide) ?_
        exact gx_weak (gx_leS gx_le0) (t_x_E_raiseBoth_42 hX hres hwr _ _ h)
-- EachBearsPillar.blocks()I
def x_E_blocks_80 (K24 : Int32 → Int32 → gx_Wd → Option (Int32 × gx_Wd)) (b1 : Int32) (b2 : Int32) (w : gx_Wd) : Option (Int32 × gx_Wd) :=
  (some (b2 + 1)).bind fun v1 =>
  K24 b1 v1 w
def x_E_blocks_74 (K24 : Int32 → Int32 → gx_Wd → Option (Int32 × gx_Wd)) (K37 : Int32 → Int32 → Int32 → gx_Wd → Option (Int32 × gx_Wd)) (b1 : Int32) (b2 : Int32) (b3 : Int32) (w : gx_Wd) : Option (Int32 × gx_Wd) :=
  (some (b3 + 1)).bind fun v1 =>
  K37 b1 b2 v1 w
def x_E_blocks_71 (K24 : Int32 → Int32 → gx_Wd → Option (Int32 × gx_Wd)) (K37 : Int32 → Int32 → Int32 → gx_Wd → Option (Int32 × gx_Wd)) (b2 : Int32) (b3 : Int32) (b4 : Int32) (w : gx_Wd) : Option (Int32 × gx_Wd) :=
  x_E_blocks_74 K24 K37 b4 b2 b3 w
def x_E_blocks_37 (K24 : Int32 → Int32 → gx_Wd → Option (Int32 × gx_Wd)) : Nat → Int32 → Int32 → Int32 → gx_Wd → Option (Int32 × gx_Wd)
  | 0, _, _, _, _ => none
  | n + 1, b1, b2, b3, w =>
  if w 1 0 ≤ b3 then
    x_E_blocks_80 K24 b1 b2 w
  else
  (x_E_raiseBoth b2 b3 w).bind fun r2 =>
  if r2.1 ≤ 0 then
    x_E_blocks_74 K24 (x_E_blocks_37 K24 n) b1 b2 b3 r2.2
  else
  if b1 < 0 then
    x_E_blocks_71 K24 (x_E_blocks_37 K24 n) b2 b3 r2.1 r2.2
  else
  if b1 ≤ r2.1 then
    x_E_blocks_74 K24 (x_E_blocks_37 K24 n) b1 b2 b3 r2.2
  else
  x_E_blocks_71 K24 (x_E_blocks_37 K24 n) b2 b3 r2.1 r2.2
def x_E_blocks_24 : Nat → Int32 → Int32 → gx_Wd → Option (Int32 × gx_Wd)
  | 0, _, _, _ => none
  | n + 1, b1, b2, w =>
  if w 1 0 ≤ b2 then
    some (b1, w)
  else
  x_E_blocks_37 (x_E_blocks_24 n) 6000 b1 b2 b2 w
def x_E_blocks (w : gx_Wd) : Option (Int32 × gx_Wd) :=
  (x_M_asTold w).bind fun r1 =>
  (x_M_isFirm r1).bind fun r2 =>
  if r2.1 = 0 then
    x_E_blocks_24 6000 (-9) 0 r2.2
  else
  some (0, r2.2)
theorem t_x_E_blocks_80 {X : gx_X} (hX : gx_Ok X mi_x_E_blocks) {R : Int32 × gx_Wd} (hres : gx_res X = some (.inl R.1)) (hwr : gx_wr X = R.2) {K24 : Int32 → Int32 → gx_Wd → Option (Int32 × gx_Wd)} (hK24 : ∀ (b1 : Int32) (b2 : Int32) (w : gx_Wd), K24 b1 b2 w = some R → gx_G X mi_x_E_blocks 24 [some (.inr 0), some (.inl b1), some (.inl b2)] [] w) (b1 : Int32) (b2 : Int32) (w : gx_Wd) (h : x_E_blocks_80 K24 b1 b2 w = some R) : gx_G X mi_x_E_blocks 80 [some (.inr 0), some (.inl b1), some (.inl b2)] [] w := by
  rw [x_E_blocks_80] at h
  obtain ⟨v1, e_v1, h⟩ := gx_bd h
  refine gx_iinc hX (v := v1) (ls' := [some (.inr 0), some (.inl b1), some (.inl v1)]) (gx_dt dt_mi_x_E_blocks 41 rfl) rfl (gx_ii e_v1 (by decide)) (by decide) rfl ?_
  refine gx_goto hX (tgt := 24) (gx_dt dt_mi_x_E_blocks 42 rfl) (by decide) ?_
  exact gx_weak (gx_leS (gx_leS (gx_leS gx_le0))) (hK24 _ _ _ h)
theorem t_x_E_blocks_74 {X : gx_X} (hX : gx_Ok X mi_x_E_blocks) {R : Int32 × gx_Wd} (hres : gx_res X = some (.inl R.1)) (hwr : gx_wr X = R.2) {K24 : Int32 → Int32 → gx_Wd → Option (Int32 × gx_Wd)} (hK24 : ∀ (b1 : Int32) (b2 : Int32) (w : gx_Wd), K24 b1 b2 w = some R → gx_G X mi_x_E_blocks 24 [some (.inr 0), some (.inl b1), some (.inl b2)] [] w) {K37 : Int32 → Int32 → Int32 → gx_Wd → Option (Int32 × gx_Wd)} (hK37 : ∀ (b1 : Int32) (b2 : Int32) (b3 : Int32) (w : gx_Wd), K37 b1 b2 b3 w = some R → gx_G X mi_x_E_blocks 37 [some (.inr 0), some (.inl b1), some (.inl b2), some (.inl b3)] [] w) (b1 : Int32) (b2 : Int32) (b3 : Int32) (w : gx_Wd) (h : x_E_blocks_74 K24 K37 b1 b2 b3 w = some R) : gx_G X mi_x_E_blocks 74 [some (.inr 0), some (.inl b1), some (.inl b2), some (.inl b3)] [] w := by
  rw [x_E_blocks_74] at h
  obtain ⟨v1, e_v1, h⟩ := gx_bd h
  refine gx_iinc hX (v := v1) (ls' := [some (.inr 0), some (.inl b1), some (.inl b2), some (.inl v1)]) (gx_dt dt_mi_x_E_blocks 39 rfl) rfl (gx_ii e_v1 (by decide)) (by decide) rfl ?_
  refine gx_goto hX (tgt := 37) (gx_dt dt_mi_x_E_blocks 40 rfl) (by decide) ?_
  exact gx_weak (gx_leS (gx_leS (gx_leS (gx_leS gx_le0)))) (hK37 _ _ _ _ h)
theorem t_x_E_blocks_71 {X : gx_X} (hX : gx_Ok X mi_x_E_blocks) {R : Int32 × gx_Wd} (hres : gx_res X = some (.inl R.1)) (hwr : gx_wr X = R.2) {K24 : Int32 → Int32 → gx_Wd → Option (Int32 × gx_Wd)} (hK24 : ∀ (b1 : Int32) (b2 : Int32) (w : gx_Wd), K24 b1 b2 w = some R → gx_G X mi_x_E_blocks 24 [some (.inr 0), some (.inl b1), some (.inl b2)] [] w) {K37 : Int32 → Int32 → Int32 → gx_Wd → Option (Int32 × gx_Wd)} (hK37 : ∀ (b1 : Int32) (b2 : Int32) (b3 : Int32) (w : gx_Wd), K37 b1 b2 b3 w = some R → gx_G X mi_x_E_blocks 37 [some (.inr 0), some (.inl b1), some (.inl b2), some (.inl b3)] [] w) (b2 : Int32) (b3 : Int32) (b4 : Int32) (w : gx_Wd) (h : x_E_blocks_71 K24 K37 b2 b3 b4 w = some R) : gx_G X mi_x_E_blocks 71 [some (.inr 0), none, some (.inl b2), some (.inl b3), some (.inl b4)] [] w := by
  rw [x_E_blocks_71] at h
  refine gx_iload hX (gx_dt dt_mi_x_E_blocks 37 rfl) rfl ?_
  refine gx_istore_n hX (ls' := [some (.inr 0), some (.inl b4), some (.inl b2), some (.inl b3), some (.inl b4)]) (gx_dt dt_mi_x_E_blocks 38 rfl) (by decide) rfl ?_
  exact gx_weak (gx_leS (gx_leS (gx_leS (gx_leS gx_le0)))) (t_x_E_blocks_74 hX hres hwr hK24 hK37 _ _ _ _ h)
theorem t_x_E_blocks_37 {X : gx_X} (hX : gx_Ok X mi_x_E_blocks) {R : Int32 × gx_Wd} (hres : gx_res X = some (.inl R.1)) (hwr : gx_wr X = R.2) {K24 : Int32 → Int32 → gx_Wd → Option (Int32 × gx_Wd)} (hK24 : ∀ (b1 : Int32) (b2 : Int32) (w : gx_Wd), K24 b1 b2 w = some R → gx_G X mi_x_E_blocks 24 [some (.inr 0), some (.inl b1), some (.inl b2)] [] w) : ∀ (n : Nat) (b1 : Int32) (b2 : Int32) (b3 : Int32) (w : gx_Wd), x_E_blocks_37 K24 n b1 b2 b3 w = some R → gx_G X mi_x_E_blocks 37 [some (.inr 0), some (.inl b1), some (.inl b2), some (.inl b3)] [] w := by
  intro n
  induction n with
  | zero => intro b1 b2 b3 w h; rw [x_E_blocks_37] at h; cases h
  | succ n ih =>
    intro b1 b2 b3 w h
    rw [x_E_blocks_37] at h
    refine gx_iload_n hX (gx_dt dt_mi_x_E_blocks 20 rfl) rfl ?_
    refine gx_aload_n hX (gx_dt dt_mi_x_E_blocks 21 rfl) rfl ?_
    refine gx_getr hX fl_E_10 sh_x_0 rfl (gx_dt dt_mi_x_E_blocks 22 rfl) ?_
    refine gx_geti hX fl_E_158 sh_x_1 rfl (gx_dt dt_mi_x_E_blocks 23 rfl) ?_
    refine gx_ic_ge hX (tgt := 80) (gx_dt dt_mi_x_E_blocks 24 rfl) (by decide) (fun c1 => ?_) (fun c1 => ?_)
    · have h := gx_ifp c1 h
      exact gx_weak (gx_leS (gx_leS (gx_leS gx_le0))) (t_x_E_blocks_80 hX hres hwr hK24 _ _ _ h)
    · have h := gx_ifn c1 h
      refine gx_aload_n hX (gx_dt dt_mi_x_E_blocks 25 rfl) rfl ?_
      refine gx_iload_n hX (gx_dt dt_mi_x_E_blocks 26 rfl) rfl ?_
      refine gx_iload_n hX (gx_dt dt_mi_x_E_blocks 27 rfl) rfl ?_
      obtain ⟨r2, e_r2, h⟩ := gx_bd h
      refine gx_callVi hX (gx_dt dt_mi_x_E_blocks 28 rfl) ln_E_168_x_E_raiseBoth mo_x_E_raiseBoth mv_x_E_raiseBoth (gx_rmb rfl) sh_x_0 ⟨_, _, rfl⟩ rfl (k_x_E_raiseBoth e_r2) rfl rfl (Nat.le_of_ble_eq_true rfl) ?_
      refine gx_istore hX (ls' := [some (.inr 0), some (.inl b1), some (.inl b2), some (.inl b3), some (.inl (r2.1))]) (gx_dt dt_mi_x_E_blocks 29 rfl) (by decide) rfl ?_
      refine gx_iload hX (gx_dt dt_mi_x_E_blocks 30 rfl) rfl ?_
      refine gx_if_le hX (tgt := 74) (gx_dt dt_mi_x_E_blocks 31 rfl) (by decide) (fun c3 => ?_) (fun c3 => ?_)
      · have h := gx_ifp c3 h
        exact gx_weak (gx_leS (gx_leS (gx_leS (gx_leS gx_le0)))) (t_x_E_blocks_74 hX hres hwr hK24 ih _ _ _ _ h)
      · have h := gx_ifn c3 h
        refine gx_iload_n hX (gx_dt dt_mi_x_E_blocks 32 rfl) rfl ?_
        refine gx_if_lt hX (tgt := 71) (gx_dt dt_mi_x_E_blocks 33 rfl) (by decide) (fun c4 => ?_) (fun c4 => ?_)
        · have h := gx_ifp c4 h
          exact gx_weak (gx_leS (gx_leN (gx_leS (gx_leS (gx_leS gx_le0))))) (t_x_E_blocks_71 hX hres hwr hK24 ih _ _ _ _ h)
        · have h := gx_ifn c4 h
          refine gx_iload hX (gx_dt dt_mi_x_E_blocks 34 rfl) rfl ?_
          refine gx_iload_n hX (gx_dt dt_mi_x_E_blocks 35 rfl) rfl ?_
          refine gx_ic_ge hX (tgt := 74) (gx_dt dt_mi_x_E_blocks 36 rfl) (by decide) (fun c5 => ?_) (fun c5 => ?_)
          · have h := gx_ifp c5 h
            exact gx_weak (gx_leS (gx_leS (gx_leS (gx_leS gx_le0)))) (t_x_E_blocks_74 hX hres hwr hK24 ih _ _ _ _ h)
          · have h := gx_ifn c5 h
            exact gx_weak (gx_leS (gx_leN (gx_leS (gx_leS (gx_leS gx_le0))))) (t_x_E_blocks_71 hX hres hwr hK24 ih _ _ _ _ h)
theorem t_x_E_blocks_24 {X : gx_X} (hX : gx_Ok X mi_x_E_blocks) {R : Int32 × gx_Wd} (hres : gx_res X = some (.inl R.1)) (hwr : gx_wr X = R.2) : ∀ (n : Nat) (b1 : Int32) (b2 : Int32) (w : gx_Wd), x_E_blocks_24 n b1 b2 w = some R → gx_G X mi_x_E_blocks 24 [some (.inr 0), some (.inl b1), some (.inl b2)] [] w := by
  intro n
  induction n with
  | zero => intro b1 b2 w h; rw [x_E_blocks_24] at h; cases h
  | succ n ih =>
    intro b1 b2 w h
    rw [x_E_blocks_24] at h
    refine gx_iload_n hX (gx_dt dt_mi_x_E_blocks 13 rfl) rfl ?_
    refine gx_aload_n hX (gx_dt dt_mi_x_E_blocks 14 rfl) rfl ?_
    refine gx_getr hX fl_E_10 sh_x_0 rfl (gx_dt dt_mi_x_E_blocks 15 rfl) ?_
    refine gx_geti hX fl_E_158 sh_x_1 rfl (gx_dt dt_mi_x_E_blocks 16 rfl) ?_
    refine gx_ic_ge hX (tgt := 86) (gx_dt dt_mi_x_E_blocks 17 rfl) (by decide) (fun c1 => ?_) (fun c1 => ?_)
    · have h := gx_ifp c1 h
      refine gx_iload_n hX (gx_dt dt_mi_x_E_blocks 43 rfl) rfl ?_
      obtain rfl := Option.some.inj h
      exact gx_iret hX (gx_dt dt_mi_x_E_blocks 44 rfl) rfl hres hwr
    · have h := gx_ifn c1 h
      refine gx_iload_n hX (gx_dt dt_mi_x_E_blocks 18 rfl) rfl ?_
      refine gx_istore_n hX (ls' := [some (.inr 0), some (.inl b1), some (.inl b2), some (.inl b2)]) (gx_dt dt_mi_x_E_blocks 19 rfl) (by decide) rfl ?_
      exact gx_weak (gx_leS (gx_leS (gx_leS (gx_leS gx_le0)))) (t_x_E_blocks_37 hX hres hwr ih _ _ _ _ _ h)
theorem k_x_E_blocks {w : gx_Wd} {R : Int32 × gx_Wd} (h : x_E_blocks w = some R) : gx_MT mi_x_E_blocks [.inr 0] w (some (.inl R.1)) R.2 := by
  refine gx_met (by decide +kernel) (Nat.le_of_ble_eq_true rfl) (fun X hX hres hwr => ?_)
  show gx_G X mi_x_E_blocks 0 [some (.inr 0)] [] w
  rw [x_E_blocks] at h
  refine gx_aload_n hX (gx_dt dt_mi_x_E_blocks 0 rfl) rfl ?_
  refine gx_getr hX fl_E_31 sh_x_0 rfl (gx_dt dt_mi_x_E_blocks 1 rfl) ?_
  obtain ⟨r1, e_r1, h⟩ := gx_bd h
  refine gx_callVv hX (gx_dt dt_mi_x_E_blocks 2 rfl) ln_E_115_x_M_asTold mo_x_M_asTold mv_x_M_asTold (gx_rmb rfl) sh_x_22 ⟨_, _, rfl⟩ rfl (k_x_M_asTold e_r1) rfl rfl (Nat.le_of_ble_eq_true rfl) ?_
  refine gx_aload_n hX (gx_dt dt_mi_x_E_blocks 3 rfl) rfl ?_
  refine gx_getr hX fl_E_31 sh_x_0 rfl (gx_dt dt_mi_x_E_blocks 4 rfl) ?_
  obtain ⟨r2, e_r2, h⟩ := gx_bd h
  refine gx_callVi hX (gx_dt dt_mi_x_E_blocks 5 rfl) ln_E_148_x_M_isFirm mo_x_M_isFirm mv_x_M_isFirm (gx_rmb rfl) sh_x_22 ⟨_, _, rfl⟩ rfl (k_x_M_isFirm e_r2) rfl rfl (Nat.le_of_ble_eq_true rfl) ?_
  refine gx_if_eq hX (tgt := 19) (gx_dt dt_mi_x_E_blocks 6 rfl) (by decide) (fun c3 => ?_) (fun c3 => ?_)
  · have h := gx_ifp c3 h
    refine gx_bipush hX (v := (-9)) (gx_dt dt_mi_x_E_blocks 9 rfl) (by decide) ?_
    refine gx_istore_n hX (ls' := [some (.inr 0), some (.inl ((-9)))]) (gx_dt dt_mi_x_E_blocks 10 rfl) (by decide) rfl ?_
    refine gx_iconst hX (v := 0) (gx_dt dt_mi_x_E_blocks 11 rfl) (by decide) ?_
    refine gx_istore_n hX (ls' := [some (.inr 0), some (.inl ((-9))), some (.inl (0))]) (gx_dt dt_mi_x_E_blocks 12 rfl) (by decide) rfl ?_
    exact gx_weak (gx_leS (gx_leS (gx_leS gx_le0))) (t_x_E_blocks_24 hX hres hwr _ _ _ _ h)
  · have h := gx_ifn c3 h
    refine gx_iconst hX (v := 0) (gx_dt dt_mi_x_E_blocks 7 rfl) (by decide) ?_
    obtain rfl := Option.some.inj h
    exact gx_iret hX (gx_dt dt_mi_x_E_blocks 8 rfl) rfl hres hwr
-- EachBearsPillar.swap()I
def x_E_swap_84 (K2 : Int32 → gx_Wd → Option (Int32 × gx_Wd)) (b1 : Int32) (w : gx_Wd) : Option (Int32 × gx_Wd) :=
  (some (b1 + 1)).bind fun v1 =>
  K2 v1 w
def x_E_swap_71 (b1 : Int32) (b2 : Int32) (w : gx_Wd) : Option (Int32 × gx_Wd) :=
  some ((10 * b1) + b2, w)
def x_E_swap_17 (K2 : Int32 → gx_Wd → Option (Int32 × gx_Wd)) : Nat → Int32 → Int32 → gx_Wd → Option (Int32 × gx_Wd)
  | 0, _, _, _ => none
  | n + 1, b1, b2, w =>
  if w 1 0 ≤ b2 then
    x_E_swap_84 K2 b1 w
  else
  (x_M_asTold w).bind fun r2 =>
  (x_E_setCell 23 b1 b2 r2).bind fun r3 =>
  (x_E_setCell 23 b2 b1 r3.2).bind fun r4 =>
  (x_M_isFirm r4.2).bind fun r5 =>
  if r5.1 = 0 then
    (some (b2 + 1)).bind fun v7 =>
    (x_E_swap_17 K2 n) b1 v7 r5.2
  else
  x_E_swap_71 b1 b2 r5.2
def x_E_swap_2 : Nat → Int32 → gx_Wd → Option (Int32 × gx_Wd)
  | 0, _, _ => none
  | n + 1, b1, w =>
  if w 1 0 ≤ b1 then
    some ((-9), w)
  else
  (some (b1 + 1)).bind fun v2 =>
  x_E_swap_17 (x_E_swap_2 n) 6000 b1 v2 w
def x_E_swap (w : gx_Wd) : Option (Int32 × gx_Wd) :=
  x_E_swap_2 6000 0 w
theorem t_x_E_swap_84 {X : gx_X} (hX : gx_Ok X mi_x_E_swap) {R : Int32 × gx_Wd} (hres : gx_res X = some (.inl R.1)) (hwr : gx_wr X = R.2) {K2 : Int32 → gx_Wd → Option (Int32 × gx_Wd)} (hK2 : ∀ (b1 : Int32) (w : gx_Wd), K2 b1 w = some R → gx_G X mi_x_E_swap 2 [some (.inr 0), some (.inl b1)] [] w) (b1 : Int32) (w : gx_Wd) (h : x_E_swap_84 K2 b1 w = some R) : gx_G X mi_x_E_swap 84 [some (.inr 0), some (.inl b1)] [] w := by
  rw [x_E_swap_84] at h
  obtain ⟨v1, e_v1, h⟩ := gx_bd h
  refine gx_iinc hX (v := v1) (ls' := [some (.inr 0), some (.inl v1)]) (gx_dt dt_mi_x_E_swap 45 rfl) rfl (gx_ii e_v1 (by decide)) (by decide) rfl ?_
  refine gx_goto hX (tgt := 2) (gx_dt dt_mi_x_E_swap 46 rfl) (by decide) ?_
  exact gx_weak (gx_leS (gx_leS gx_le0)) (hK2 _ _ h)
theorem t_x_E_swap_71 {X : gx_X} (hX : gx_Ok X mi_x_E_swap) {R : Int32 × gx_Wd} (hres : gx_res X = some (.inl R.1)) (hwr : gx_wr X = R.2) (b1 : Int32) (b2 : Int32) (w : gx_Wd) (h : x_E_swap_71 b1 b2 w = some R) : gx_G X mi_x_E_swap 71 [none, some (.inl b1), some (.inl b2)] [] w := by
  rw [x_E_swap_71] at h
  refine gx_bipush hX (v := 10) (gx_dt dt_mi_x_E_swap 37 rfl) (by decide) ?_
  refine gx_iload_n hX (gx_dt dt_mi_x_E_swap 38 rfl) rfl ?_
  refine gx_imul hX (gx_dt dt_mi_x_E_swap 39 rfl) ?_
  refine gx_iload_n hX (gx_dt dt_mi_x_E_swap 40 rfl) rfl ?_
  refine gx_iadd hX (gx_dt dt_mi_x_E_swap 41 rfl) ?_
  obtain rfl := Option.some.inj h
  exact gx_iret hX (gx_dt dt_mi_x_E_swap 42 rfl) rfl hres hwr
theorem t_x_E_swap_17 {X : gx_X} (hX : gx_Ok X mi_x_E_swap) {R : Int32 × gx_Wd} (hres : gx_res X = some (.inl R.1)) (hwr : gx_wr X = R.2) {K2 : Int32 → gx_Wd → Option (Int32 × gx_Wd)} (hK2 : ∀ (b1 : Int32) (w : gx_Wd), K2 b1 w = some R → gx_G X mi_x_E_swap 2 [some (.inr 0), some (.inl b1)] [] w) : ∀ (n : Nat) (b1 : Int32) (b2 : Int32) (w : gx_Wd), x_E_swap_17 K2 n b1 b2 w = some R → gx_G X mi_x_E_swap 17 [some (.inr 0), some (.inl b1), some (.inl b2)] [] w := by
  intro n
  induction n with
  | zero => intro b1 b2 w h; rw [x_E_swap_17] at h; cases h
  | succ n ih =>
    intro b1 b2 w h
    rw [x_E_swap_17] at h
    refine gx_iload_n hX (gx_dt dt_mi_x_E_swap 11 rfl) rfl ?_
    refine gx_aload_n hX (gx_dt dt_mi_x_E_swap 12 rfl) rfl ?_
    refine gx_getr hX fl_E_10 sh_x_0 rfl (gx_dt dt_mi_x_E_swap 13 rfl) ?_
    refine gx_geti hX fl_E_158 sh_x_1 rfl (gx_dt dt_mi_x_E_swap 14 rfl) ?_
    refine gx_ic_ge hX (tgt := 84) (gx_dt dt_mi_x_E_swap 15 rfl) (by decide) (fun c1 => ?_) (fun c1 => ?_)
    · have h := gx_ifp c1 h
      exact gx_weak (gx_leS (gx_leS gx_le0)) (t_x_E_swap_84 hX hres hwr hK2 _ _ h)
    · have h := gx_ifn c1 h
      refine gx_aload_n hX (gx_dt dt_mi_x_E_swap 16 rfl) rfl ?_
      refine gx_getr hX fl_E_31 sh_x_0 rfl (gx_dt dt_mi_x_E_swap 17 rfl) ?_
      obtain ⟨r2, e_r2, h⟩ := gx_bd h
      refine gx_callVv hX (gx_dt dt_mi_x_E_swap 18 rfl) ln_E_115_x_M_asTold mo_x_M_asTold mv_x_M_asTold (gx_rmb rfl) sh_x_22 ⟨_, _, rfl⟩ rfl (k_x_M_asTold e_r2) rfl rfl (Nat.le_of_ble_eq_true rfl) ?_
      refine gx_aload_n hX (gx_dt dt_mi_x_E_swap 19 rfl) rfl ?_
      refine gx_getr hX fl_E_31 sh_x_0 rfl (gx_dt dt_mi_x_E_swap 20 rfl) ?_
      refine gx_getr hX fl_E_171 sh_x_22 rfl (gx_dt dt_mi_x_E_swap 21 rfl) ?_
      refine gx_iload_n hX (gx_dt dt_mi_x_E_swap 22 rfl) rfl ?_
      refine gx_iload_n hX (gx_dt dt_mi_x_E_swap 23 rfl) rfl ?_
      obtain ⟨r3, e_r3, h⟩ := gx_bd h
      refine gx_callSi hX (gx_dt dt_mi_x_E_swap 24 rfl) ln_E_174_x_E_setCell mo_x_E_setCell ms_x_E_setCell (gx_rmb rfl) rfl (k_x_E_setCell e_r3) rfl rfl (Nat.le_of_ble_eq_true rfl) ?_
      refine gx_pop hX (gx_dt dt_mi_x_E_swap 25 rfl) ?_
      refine gx_aload_n hX (gx_dt dt_mi_x_E_swap 26 rfl) rfl ?_
      refine gx_getr hX fl_E_31 sh_x_0 rfl (gx_dt dt_mi_x_E_swap 27 rfl) ?_
      refine gx_getr hX fl_E_171 sh_x_22 rfl (gx_dt dt_mi_x_E_swap 28 rfl) ?_
      refine gx_iload_n hX (gx_dt dt_mi_x_E_swap 29 rfl) rfl ?_
      refine gx_iload_n hX (gx_dt dt_mi_x_E_swap 30 rfl) rfl ?_
      obtain ⟨r4, e_r4, h⟩ := gx_bd h
      refine gx_callSi hX (gx_dt dt_mi_x_E_swap 31 rfl) ln_E_174_x_E_setCell mo_x_E_setCell ms_x_E_setCell (gx_rmb rfl) rfl (k_x_E_setCell e_r4) rfl rfl (Nat.le_of_ble_eq_true rfl) ?_
      refine gx_pop hX (gx_dt dt_mi_x_E_swap 32 rfl) ?_
      refine gx_aload_n hX (gx_dt dt_mi_x_E_swap 33 rfl) rfl ?_
      refine gx_getr hX fl_E_31 sh_x_0 rfl (gx_dt dt_mi_x_E_swap 34 rfl) ?_
      obtain ⟨r5, e_r5, h⟩ := gx_bd h
      refine gx_callVi hX (gx_dt dt_mi_x_E_swap 35 rfl) ln_E_148_x_M_isFirm mo_x_M_isFirm mv_x_M_isFirm (gx_rmb rfl) sh_x_22 ⟨_, _, rfl⟩ rfl (k_x_M_isFirm e_r5) rfl rfl (Nat.le_of_ble_eq_true rfl) ?_
      refine gx_if_eq hX (tgt := 78) (gx_dt dt_mi_x_E_swap 36 rfl) (by decide) (fun c6 => ?_) (fun c6 => ?_)
      · have h := gx_ifp c6 h
        obtain ⟨v7, e_v7, h⟩ := gx_bd h
        refine gx_iinc hX (v := v7) (ls' := [some (.inr 0), some (.inl b1), some (.inl v7)]) (gx_dt dt_mi_x_E_swap 43 rfl) rfl (gx_ii e_v7 (by decide)) (by decide) rfl ?_
        refine gx_goto hX (tgt := 17) (gx_dt dt_mi_x_E_swap 44 rfl) (by decide) ?_
        exact gx_weak (gx_leS (gx_leS (gx_leS gx_le0))) (ih _ _ _ h)
      · have h := gx_ifn c6 h
        exact gx_weak (gx_leN (gx_leS (gx_leS gx_le0))) (t_x_E_swap_71 hX hres hwr _ _ _ h)
theorem t_x_E_swap_2 {X : gx_X} (hX : gx_Ok X mi_x_E_swap) {R : Int32 × gx_Wd} (hres : gx_res X = some (.inl R.1)) (hwr : gx_wr X = R.2) : ∀ (n : Nat) (b1 : Int32) (w : gx_Wd), x_E_swap_2 n b1 w = some R → gx_G X mi_x_E_swap 2 [some (.inr 0), some (.inl b1)] [] w := by
  intro n
  induction n with
  | zero => intro b1 w h; rw [x_E_swap_2] at h; cases h
  | succ n ih =>
    intro b1 w h
    rw [x_E_swap_2] at h
    refine gx_iload_n hX (gx_dt dt_mi_x_E_swap 2 rfl) rfl ?_
    refine gx_aload_n hX (gx_dt dt_mi_x_E_swap 3 rfl) rfl ?_
    refine gx_getr hX fl_E_10 sh_x_0 rfl (gx_dt dt_mi_x_E_swap 4 rfl) ?_
    refine gx_geti hX fl_E_158 sh_x_1 rfl (gx_dt dt_mi_x_E_swap 5 rfl) ?_
    refine gx_ic_ge hX (tgt := 90) (gx_dt dt_mi_x_E_swap 6 rfl) (by decide) (fun c1 => ?_) (fun c1 => ?_)
    · have h := gx_ifp c1 h
      refine gx_bipush hX (v := (-9)) (gx_dt dt_mi_x_E_swap 47 rfl) (by decide) ?_
      obtain rfl := Option.some.inj h
      exact gx_iret hX (gx_dt dt_mi_x_E_swap 48 rfl) rfl hres hwr
    · have h := gx_ifn c1 h
      refine gx_iload_n hX (gx_dt dt_mi_x_E_swap 7 rfl) rfl ?_
      refine gx_iconst hX (v := 1) (gx_dt dt_mi_x_E_swap 8 rfl) (by decide) ?_
      refine gx_iadd hX (gx_dt dt_mi_x_E_swap 9 rfl) ?_
      obtain ⟨v2, e_v2, h⟩ := gx_bd h
      refine gx_top e_v2 ?_
      refine gx_istore_n hX (ls' := [some (.inr 0), some (.inl b1), some (.inl v2)]) (gx_dt dt_mi_x_E_swap 10 rfl) (by decide) rfl ?_
      exact gx_weak (gx_leS (gx_leS (gx_leS gx_le0))) (t_x_E_swap_17 hX hres hwr ih _ _ _ _ h)
theorem k_x_E_swap {w : gx_Wd} {R : Int32 × gx_Wd} (h : x_E_swap w = some R) : gx_MT mi_x_E_swap [.inr 0] w (some (.inl R.1)) R.2 := by
  refine gx_met (by decide +kernel) (Nat.le_of_ble_eq_true rfl) (fun X hX hres hwr => ?_)
  show gx_G X mi_x_E_swap 0 [some (.inr 0)] [] w
  rw [x_E_swap] at h
  refine gx_iconst hX (v := 0) (gx_dt dt_mi_x_E_swap 0 rfl) (by decide) ?_
  refine gx_istore_n hX (ls' := [some (.inr 0), some (.inl (0))]) (gx_dt dt_mi_x_E_swap 1 rfl) (by decide) rfl ?_
  exact gx_weak (gx_leS (gx_leS gx_le0)) (t_x_E_swap_2 hX hres hwr _ _ _ h)
-- EachBearsPillar$Orders.spotOf(III)I
def x_O_spotOf (a0 : Int32) (a1 : Int32) (a2 : Int32) (w : gx_Wd) : Option (Int32 × gx_Wd) :=
  some ((((a0 * 7) + a1) * 2) + a2, w)
theorem k_x_O_spotOf {a0 : Int32} {a1 : Int32} {a2 : Int32} {w : gx_Wd} {R : Int32 × gx_Wd} (h : x_O_spotOf a0 a1 a2 w = some R) : gx_MT mi_x_O_spotOf [.inl a0, .inl a1, .inl a2] w (some (.inl R.1)) R.2 := by
  refine gx_met (by decide +kernel) (Nat.le_of_ble_eq_true rfl) (fun X hX hres hwr => ?_)
  show gx_G X mi_x_O_spotOf 0 [some (.inl a0), some (.inl a1), some (.inl a2)] [] w
  rw [x_O_spotOf] at h
  refine gx_iload_n hX (gx_dt dt_mi_x_O_spotOf 0 rfl) rfl ?_
  refine gx_bipush hX (v := 7) (gx_dt dt_mi_x_O_spotOf 1 rfl) (by decide) ?_
  refine gx_imul hX (gx_dt dt_mi_x_O_spotOf 2 rfl) ?_
  refine gx_iload_n hX (gx_dt dt_mi_x_O_spotOf 3 rfl) rfl ?_
  refine gx_iadd hX (gx_dt dt_mi_x_O_spotOf 4 rfl) ?_
  refine gx_iconst hX (v := 2) (gx_dt dt_mi_x_O_spotOf 5 rfl) (by decide) ?_
  refine gx_imul hX (gx_dt dt_mi_x_O_spotOf 6 rfl) ?_
  refine gx_iload_n hX (gx_dt dt_mi_x_O_spotOf 7 rfl) rfl ?_
  refine gx_iadd hX (gx_dt dt_mi_x_O_spotOf 8 rfl) ?_
  obtain rfl := Option.some.inj h
  exact gx_iret hX (gx_dt dt_mi_x_O_spotOf 9 rfl) rfl hres hwr
-- java/lang/Integer.bitCount(I)I
def x_I_bitCount (a0 : Int32) (w : gx_Wd) : Option (Int32 × gx_Wd) :=
  (some (a0 - (((a0.toUInt32 >>> (Int32.toUInt32 1 &&& Int32.toUInt32 31)).toInt32) &&& 1431655765))).bind fun v1 =>
  (some ((v1 &&& 858993459) + (((v1.toUInt32 >>> (Int32.toUInt32 2 &&& Int32.toUInt32 31)).toInt32) &&& 858993459))).bind fun v2 =>
  (some ((v2 + ((v2.toUInt32 >>> (Int32.toUInt32 4 &&& Int32.toUInt32 31)).toInt32)) &&& 252645135)).bind fun v3 =>
  (some (v3 + ((v3.toUInt32 >>> (Int32.toUInt32 8 &&& Int32.toUInt32 31)).toInt32))).bind fun v4 =>
  (some (v4 + ((v4.toUInt32 >>> (Int32.toUInt32 16 &&& Int32.toUInt32 31)).toInt32))).bind fun v5 =>
  some (v5 &&& 63, w)
theorem k_x_I_bitCount {a0 : Int32} {w : gx_Wd} {R : Int32 × gx_Wd} (h : x_I_bitCount a0 w = some R) : gx_MT mi_x_I_bitCount [.inl a0] w (some (.inl R.1)) R.2 := by
  refine gx_met (by decide +kernel) (Nat.le_of_ble_eq_true rfl) (fun X hX hres hwr => ?_)
  show gx_G X mi_x_I_bitCount 0 [some (.inl a0)] [] w
  rw [x_I_bitCount] at h
  refine gx_iload_n hX (gx_dt dt_mi_x_I_bitCount 0 rfl) rfl ?_
  refine gx_iload_n hX (gx_dt dt_mi_x_I_bitCount 1 rfl) rfl ?_
  refine gx_iconst hX (v := 1) (gx_dt dt_mi_x_I_bitCount 2 rfl) (by decide) ?_
  refine gx_iushr hX (gx_dt dt_mi_x_I_bitCount 3 rfl) ?_
  refine gx_ldcw hX (v := 1431655765) (gx_dt dt_mi_x_I_bitCount 4 rfl) wr_constant_I_265 ?_
  refine gx_iand hX (gx_dt dt_mi_x_I_bitCount 5 rfl) ?_
  refine gx_isub hX (gx_dt dt_mi_x_I_bitCount 6 rfl) ?_
  obtain ⟨v1, e_v1, h⟩ := gx_bd h
  refine gx_top e_v1 ?_
  refine gx_istore_n hX (ls' := [some (.inl v1)]) (gx_dt dt_mi_x_I_bitCount 7 rfl) (by decide) rfl ?_
  refine gx_iload_n hX (gx_dt dt_mi_x_I_bitCount 8 rfl) rfl ?_
  refine gx_ldcw hX (v := 858993459) (gx_dt dt_mi_x_I_bitCount 9 rfl) wr_constant_I_266 ?_
  refine gx_iand hX (gx_dt dt_mi_x_I_bitCount 10 rfl) ?_
  refine gx_iload_n hX (gx_dt dt_mi_x_I_bitCount 11 rfl) rfl ?_
  refine gx_iconst hX (v := 2) (gx_dt dt_mi_x_I_bitCount 12 rfl) (by decide) ?_
  refine gx_iushr hX (gx_dt dt_mi_x_I_bitCount 13 rfl) ?_
  refine gx_ldcw hX (v := 858993459) (gx_dt dt_mi_x_I_bitCount 14 rfl) wr_constant_I_266 ?_
  refine gx_iand hX (gx_dt dt_mi_x_I_bitCount 15 rfl) ?_
  refine gx_iadd hX (gx_dt dt_mi_x_I_bitCount 16 rfl) ?_
  obtain ⟨v2, e_v2, h⟩ := gx_bd h
  refine gx_top e_v2 ?_
  refine gx_istore_n hX (ls' := [some (.inl v2)]) (gx_dt dt_mi_x_I_bitCount 17 rfl) (by decide) rfl ?_
  refine gx_iload_n hX (gx_dt dt_mi_x_I_bitCount 18 rfl) rfl ?_
  refine gx_iload_n hX (gx_dt dt_mi_x_I_bitCount 19 rfl) rfl ?_
  refine gx_iconst hX (v := 4) (gx_dt dt_mi_x_I_bitCount 20 rfl) (by decide) ?_
  refine gx_iushr hX (gx_dt dt_mi_x_I_bitCount 21 rfl) ?_
  refine gx_iadd hX (gx_dt dt_mi_x_I_bitCount 22 rfl) ?_
  refine gx_ldcw hX (v := 252645135) (gx_dt dt_mi_x_I_bitCount 23 rfl) wr_constant_I_267 ?_
  refine gx_iand hX (gx_dt dt_mi_x_I_bitCount 24 rfl) ?_
  obtain ⟨v3, e_v3, h⟩ := gx_bd h
  refine gx_top e_v3 ?_
  refine gx_istore_n hX (ls' := [some (.inl v3)]) (gx_dt dt_mi_x_I_bitCount 25 rfl) (by decide) rfl ?_
  refine gx_iload_n hX (gx_dt dt_mi_x_I_bitCount 26 rfl) rfl ?_
  refine gx_iload_n hX (gx_dt dt_mi_x_I_bitCount 27 rfl) rfl ?_
  refine gx_bipush hX (v := 8) (gx_dt dt_mi_x_I_bitCount 28 rfl) (by decide) ?_
  refine gx_iushr hX (gx_dt dt_mi_x_I_bitCount 29 rfl) ?_
  refine gx_iadd hX (gx_dt dt_mi_x_I_bitCount 30 rfl) ?_
  obtain ⟨v4, e_v4, h⟩ := gx_bd h
  refine gx_top e_v4 ?_
  refine gx_istore_n hX (ls' := [some (.inl v4)]) (gx_dt dt_mi_x_I_bitCount 31 rfl) (by decide) rfl ?_
  refine gx_iload_n hX (gx_dt dt_mi_x_I_bitCount 32 rfl) rfl ?_
  refine gx_iload_n hX (gx_dt dt_mi_x_I_bitCount 33 rfl) rfl ?_
  refine gx_bipush hX (v := 16) (gx_dt dt_mi_x_I_bitCount 34 rfl) (by decide) ?_
  refine gx_iushr hX (gx_dt dt_mi_x_I_bitCount 35 rfl) ?_
  refine gx_iadd hX (gx_dt dt_mi_x_I_bitCount 36 rfl) ?_
  obtain ⟨v5, e_v5, h⟩ := gx_bd h
  refine gx_top e_v5 ?_
  refine gx_istore_n hX (ls' := [some (.inl v5)]) (gx_dt dt_mi_x_I_bitCount 37 rfl) (by decide) rfl ?_
  refine gx_iload_n hX (gx_dt dt_mi_x_I_bitCount 38 rfl) rfl ?_
  refine gx_bipush hX (v := 63) (gx_dt dt_mi_x_I_bitCount 39 rfl) (by decide) ?_
  refine gx_iand hX (gx_dt dt_mi_x_I_bitCount 40 rfl) ?_
  obtain rfl := Option.some.inj h
  exact gx_iret hX (gx_dt dt_mi_x_I_bitCount 41 rfl) rfl hres hwr
-- EachBearsPillar$Orders.mostOf(II)I
def x_O_mostOf (a1 : Int32) (a2 : Int32) (w : gx_Wd) : Option (Int32 × gx_Wd) :=
  (x_E_cell 36 ((a1 * 7) + a2) w).bind fun r1 =>
  some (r1.1, r1.2)
theorem k_x_O_mostOf {a1 : Int32} {a2 : Int32} {w : gx_Wd} {R : Int32 × gx_Wd} (h : x_O_mostOf a1 a2 w = some R) : gx_MT mi_x_O_mostOf [.inr 35, .inl a1, .inl a2] w (some (.inl R.1)) R.2 := by
  refine gx_met (by decide +kernel) (Nat.le_of_ble_eq_true rfl) (fun X hX hres hwr => ?_)
  show gx_G X mi_x_O_mostOf 0 [some (.inr 35), some (.inl a1), some (.inl a2)] [] w
  rw [x_O_mostOf] at h
  refine gx_aload_n hX (gx_dt dt_mi_x_O_mostOf 0 rfl) rfl ?_
  refine gx_getr hX fl_O_15 sh_x_35 rfl (gx_dt dt_mi_x_O_mostOf 1 rfl) ?_
  refine gx_iload_n hX (gx_dt dt_mi_x_O_mostOf 2 rfl) rfl ?_
  refine gx_bipush hX (v := 7) (gx_dt dt_mi_x_O_mostOf 3 rfl) (by decide) ?_
  refine gx_imul hX (gx_dt dt_mi_x_O_mostOf 4 rfl) ?_
  refine gx_iload_n hX (gx_dt dt_mi_x_O_mostOf 5 rfl) rfl ?_
  refine gx_iadd hX (gx_dt dt_mi_x_O_mostOf 6 rfl) ?_
  obtain ⟨r1, e_r1, h⟩ := gx_bd h
  refine gx_callSi hX (gx_dt dt_mi_x_O_mostOf 7 rfl) ln_O_56_x_E_cell mo_x_E_cell ms_x_E_cell (gx_rmb rfl) rfl (k_x_E_cell e_r1) rfl rfl (Nat.le_of_ble_eq_true rfl) ?_
  obtain rfl := Option.some.inj h
  exact gx_iret hX (gx_dt dt_mi_x_O_mostOf 8 rfl) rfl hres hwr
-- EachBearsPillar$Orders.bearsLeft(IIII)Z
def x_O_bearsLeft_37 (b4 : Int32) (b5 : Int32) (s0 : Int32) (w : gx_Wd) : Option (Int32 × gx_Wd) :=
  if b5 < 0 then
    some (1, w)
  else
  if b5 < s0 + b4 then
    some (0, w)
  else
  some (1, w)
def x_O_bearsLeft (a1 : Int32) (a2 : Int32) (a3 : Int32) (a4 : Int32) (w : gx_Wd) : Option (Int32 × gx_Wd) :=
  (x_O_mostOf a2 a1 w).bind fun r1 =>
  (x_E_cell 25 (a1 - 1) r1.2).bind fun r2 =>
  if a3 = 1 then
    x_O_bearsLeft_37 a4 r1.1 r2.1 r2.2
  else
    x_O_bearsLeft_37 a4 r1.1 (2 * r2.1) r2.2
theorem t_x_O_bearsLeft_37 {X : gx_X} (hX : gx_Ok X mi_x_O_bearsLeft) {R : Int32 × gx_Wd} (hres : gx_res X = some (.inl R.1)) (hwr : gx_wr X = R.2) (b4 : Int32) (b5 : Int32) (s0 : Int32) (w : gx_Wd) (h : x_O_bearsLeft_37 b4 b5 s0 w = some R) : gx_G X mi_x_O_bearsLeft 37 [none, none, none, none, some (.inl b4), some (.inl b5)] [.inl s0] w := by
  rw [x_O_bearsLeft_37] at h
  refine gx_istore hX (ls' := [none, none, none, none, some (.inl b4), some (.inl b5), none, some (.inl s0)]) (gx_dt dt_mi_x_O_bearsLeft 21 rfl) (by decide) rfl ?_
  refine gx_iload hX (gx_dt dt_mi_x_O_bearsLeft 22 rfl) rfl ?_
  refine gx_if_lt hX (tgt := 54) (gx_dt dt_mi_x_O_bearsLeft 23 rfl) (by decide) (fun c1 => ?_) (fun c1 => ?_)
  · have h := gx_ifp c1 h
    refine gx_iconst hX (v := 1) (gx_dt dt_mi_x_O_bearsLeft 29 rfl) (by decide) ?_
    refine gx_goto hX (tgt := 59) (gx_dt dt_mi_x_O_bearsLeft 30 rfl) (by decide) ?_
    obtain rfl := Option.some.inj h
    exact gx_zret hX (gx_dt dt_mi_x_O_bearsLeft 32 rfl) rfl rfl hres hwr
  · have h := gx_ifn c1 h
    refine gx_iload hX (gx_dt dt_mi_x_O_bearsLeft 24 rfl) rfl ?_
    refine gx_iload hX (gx_dt dt_mi_x_O_bearsLeft 25 rfl) rfl ?_
    refine gx_iadd hX (gx_dt dt_mi_x_O_bearsLeft 26 rfl) ?_
    refine gx_iload hX (gx_dt dt_mi_x_O_bearsLeft 27 rfl) rfl ?_
    refine gx_ic_gt hX (tgt := 58) (gx_dt dt_mi_x_O_bearsLeft 28 rfl) (by decide) (fun c2 => ?_) (fun c2 => ?_)
    · have h := gx_ifp c2 h
      refine gx_iconst hX (v := 0) (gx_dt dt_mi_x_O_bearsLeft 31 rfl) (by decide) ?_
      obtain rfl := Option.some.inj h
      exact gx_zret hX (gx_dt dt_mi_x_O_bearsLeft 32 rfl) rfl rfl hres hwr
    · have h := gx_ifn c2 h
      refine gx_iconst hX (v := 1) (gx_dt dt_mi_x_O_bearsLeft 29 rfl) (by decide) ?_
      refine gx_goto hX (tgt := 59) (gx_dt dt_mi_x_O_bearsLeft 30 rfl) (by decide) ?_
      obtain rfl := Option.some.inj h
      exact gx_zret hX (gx_dt dt_mi_x_O_bearsLeft 32 rfl) rfl rfl hres hwr
theorem k_x_O_bearsLeft {a1 : Int32} {a2 : Int32} {a3 : Int32} {a4 : Int32} {w : gx_Wd} {R : Int32 × gx_Wd} (h : x_O_bearsLeft a1 a2 a3 a4 w = some R) : gx_MT mi_x_O_bearsLeft [.inr 35, .inl a1, .inl a2, .inl a3, .inl a4] w (some (.inl R.1)) R.2 := by
  refine gx_met (by decide +kernel) (Nat.le_of_ble_eq_true rfl) (fun X hX hres hwr => ?_)
  show gx_G X mi_x_O_bearsLeft 0 [some (.inr 35), some (.inl a1), some (.inl a2), some (.inl a3), some (.inl a4)] [] w
  rw [x_O_bearsLeft] at h
  refine gx_aload_n hX (gx_dt dt_mi_x_O_bearsLeft 0 rfl) rfl ?_
  refine gx_iload_n hX (gx_dt dt_mi_x_O_bearsLeft 1 rfl) rfl ?_
  refine gx_iload_n hX (gx_dt dt_mi_x_O_bearsLeft 2 rfl) rfl ?_
  obtain ⟨r1, e_r1, h⟩ := gx_bd h
  refine gx_callVi hX (gx_dt dt_mi_x_O_bearsLeft 3 rfl) ln_O_77_x_O_mostOf mo_x_O_mostOf mv_x_O_mostOf (gx_rmb rfl) sh_x_35 ⟨_, _, rfl⟩ rfl (k_x_O_mostOf e_r1) rfl rfl (Nat.le_of_ble_eq_true rfl) ?_
  refine gx_istore hX (ls' := [some (.inr 35), some (.inl a1), some (.inl a2), some (.inl a3), some (.inl a4), some (.inl (r1.1))]) (gx_dt dt_mi_x_O_bearsLeft 4 rfl) (by decide) rfl ?_
  refine gx_aload_n hX (gx_dt dt_mi_x_O_bearsLeft 5 rfl) rfl ?_
  refine gx_getr hX fl_O_9 sh_x_35 rfl (gx_dt dt_mi_x_O_bearsLeft 6 rfl) ?_
  refine gx_getr hX fl_O_74 sh_x_22 rfl (gx_dt dt_mi_x_O_bearsLeft 7 rfl) ?_
  refine gx_iload_n hX (gx_dt dt_mi_x_O_bearsLeft 8 rfl) rfl ?_
  refine gx_iconst hX (v := 1) (gx_dt dt_mi_x_O_bearsLeft 9 rfl) (by decide) ?_
  refine gx_isub hX (gx_dt dt_mi_x_O_bearsLeft 10 rfl) ?_
  obtain ⟨r2, e_r2, h⟩ := gx_bd h
  refine gx_callSi hX (gx_dt dt_mi_x_O_bearsLeft 11 rfl) ln_O_56_x_E_cell mo_x_E_cell ms_x_E_cell (gx_rmb rfl) rfl (k_x_E_cell e_r2) rfl rfl (Nat.le_of_ble_eq_true rfl) ?_
  refine gx_istore hX (ls' := [some (.inr 35), some (.inl a1), some (.inl a2), some (.inl a3), some (.inl a4), some (.inl (r1.1)), some (.inl (r2.1))]) (gx_dt dt_mi_x_O_bearsLeft 12 rfl) (by decide) rfl ?_
  refine gx_iload_n hX (gx_dt dt_mi_x_O_bearsLeft 13 rfl) rfl ?_
  refine gx_iconst hX (v := 1) (gx_dt dt_mi_x_O_bearsLeft 14 rfl) (by decide) ?_
  refine gx_ic_ne hX (tgt := 33) (gx_dt dt_mi_x_O_bearsLeft 15 rfl) (by decide) (fun c3 => ?_) (fun c3 => ?_)
  · have h := gx_ifn c3 h
    refine gx_iconst hX (v := 2) (gx_dt dt_mi_x_O_bearsLeft 18 rfl) (by decide) ?_
    refine gx_iload hX (gx_dt dt_mi_x_O_bearsLeft 19 rfl) rfl ?_
    refine gx_imul hX (gx_dt dt_mi_x_O_bearsLeft 20 rfl) ?_
    exact gx_weak (gx_leN (gx_leN (gx_leN (gx_leN (gx_leS (gx_leS gx_le0)))))) (t_x_O_bearsLeft_37 hX hres hwr _ _ _ _ h)
  · have h := gx_ifp c3 h
    refine gx_iload hX (gx_dt dt_mi_x_O_bearsLeft 16 rfl) rfl ?_
    refine gx_goto hX (tgt := 37) (gx_dt dt_mi_x_O_bearsLeft 17 rfl) (by decide) ?_
    exact gx_weak (gx_leN (gx_leN (gx_leN (gx_leN (gx_leS (gx_leS gx_le0)))))) (t_x_O_bearsLeft_37 hX hres hwr _ _ _ _ h)
end
section
-- EachBearsPillar$Orders.waysWith(IIII)I
def x_O_waysWith_107 (b1 : Int32) (b4 : Int32) (b7 : Int32) (s0 : Int32) (s1 : Int32) (s2 : Int32) (s3 : Int32) (w : gx_Wd) : Option (Int32 × gx_Wd) :=
  (x_O_bearsLeft s3 s2 s1 s0 w).bind fun r1 =>
  if r1.1 = 0 then
    some (0, r1.2)
  else
    if b7 = 0 then
      (x_O_spotOf (b1 ||| (1 <<< (b4 &&& 31))) b4 0 r1.2).bind fun r4 =>
      (x_E_cell 37 r4.1 r4.2).bind fun r5 =>
      some (r5.1, r5.2)
    else
    (x_O_spotOf (b1 ||| (1 <<< (b4 &&& 31))) b4 1 r1.2).bind fun r6 =>
    (x_E_cell 37 r6.1 r6.2).bind fun r7 =>
    some (r7.1, r7.2)
def x_O_waysWith_88 (b1 : Int32) (b2 : Int32) (b3 : Int32) (b4 : Int32) (b5 : Int32) (b6 : Int32) (b7 : Int32) (b8 : Int32) (w : gx_Wd) : Option (Int32 × gx_Wd) :=
  if b8 = 0 then
    x_O_waysWith_107 b1 b4 b7 (2 * b6) b3 b2 b5 w
  else
  x_O_waysWith_107 b1 b4 b7 b6 b3 b2 b5 w
def x_O_waysWith_69 (b1 : Int32) (b2 : Int32) (b3 : Int32) (b4 : Int32) (b5 : Int32) (b6 : Int32) (b7 : Int32) (s0 : Int32) (w : gx_Wd) : Option (Int32 × gx_Wd) :=
  if b7 = 0 then
    if s0 = 0 then
      if b6 ≤ 0 then
        x_O_waysWith_88 b1 b2 b3 b4 b5 b6 b7 s0 w
      else
      some (0, w)
    else
      x_O_waysWith_88 b1 b2 b3 b4 b5 b6 b7 s0 w
  else
    x_O_waysWith_88 b1 b2 b3 b4 b5 b6 b7 s0 w
def x_O_waysWith_49 (b1 : Int32) (b2 : Int32) (b3 : Int32) (b4 : Int32) (b5 : Int32) (b6 : Int32) (s0 : Int32) (w : gx_Wd) : Option (Int32 × gx_Wd) :=
  (x_O_mostOf b4 (b5 + 1) w).bind fun r1 =>
  if r1.1 < 0 then
    x_O_waysWith_69 b1 b2 b3 b4 b5 b6 s0 0 r1.2
  else
  x_O_waysWith_69 b1 b2 b3 b4 b5 b6 s0 1 r1.2
def x_O_waysWith (a1 : Int32) (a2 : Int32) (a3 : Int32) (a4 : Int32) (w : gx_Wd) : Option (Int32 × gx_Wd) :=
  if (a1 >>> (a4 &&& 31)) &&& 1 = 1 then
    some (0, w)
  else
    (x_I_bitCount a1 w).bind fun r2 =>
    (some (r2.1 - 1)).bind fun v3 =>
    (x_E_cell 25 v3 r2.2).bind fun r4 =>
    (x_O_mostOf a2 v3 r4.2).bind fun r5 =>
    if r5.1 < 0 then
      x_O_waysWith_49 a1 a2 a3 a4 v3 r4.1 0 r5.2
    else
    x_O_waysWith_49 a1 a2 a3 a4 v3 r4.1 1 r5.2
theorem t_x_O_waysWith_107 {X : gx_X} (hX : gx_Ok X mi_x_O_waysWith) {R : Int32 × gx_Wd} (hres : gx_res X = some (.inl R.1)) (hwr : gx_wr X = R.2) (b1 : Int32) (b4 : Int32) (b7 : Int32) (s0 : Int32) (s1 : Int32) (s2 : Int32) (s3 : Int32) (w : gx_Wd) (h : x_O_waysWith_107 b1 b4 b7 s0 s1 s2 s3 w = some R) : gx_G X mi_x_O_waysWith 107 [some (.inr 35), some (.inl b1), none, none, some (.inl b4), none, none, some (.inl b7)] [.inl s0, .inl s1, .inl s2, .inl s3, .inr 35] w := by
  rw [x_O_waysWith_107] at h
  obtain ⟨r1, e_r1, h⟩ := gx_bd h
  refine gx_callVi hX (gx_dt dt_mi_x_O_waysWith 59 rfl) ln_O_66_x_O_bearsLeft mo_x_O_bearsLeft mv_x_O_bearsLeft (gx_rmb rfl) sh_x_35 ⟨_, _, rfl⟩ rfl (k_x_O_bearsLeft e_r1) rfl rfl (Nat.le_of_ble_eq_true rfl) ?_
  refine gx_if_ne hX (tgt := 115) (gx_dt dt_mi_x_O_waysWith 60 rfl) (by decide) (fun c2 => ?_) (fun c2 => ?_)
  · have h := gx_ifn c2 h
    refine gx_aload_n hX (gx_dt dt_mi_x_O_waysWith 63 rfl) rfl ?_
    refine gx_getr hX fl_O_19 sh_x_35 rfl (gx_dt dt_mi_x_O_waysWith 64 rfl) ?_
    refine gx_iload_n hX (gx_dt dt_mi_x_O_waysWith 65 rfl) rfl ?_
    refine gx_iconst hX (v := 1) (gx_dt dt_mi_x_O_waysWith 66 rfl) (by decide) ?_
    refine gx_iload hX (gx_dt dt_mi_x_O_waysWith 67 rfl) rfl ?_
    refine gx_ishl hX (gx_dt dt_mi_x_O_waysWith 68 rfl) ?_
    refine gx_ior hX (gx_dt dt_mi_x_O_waysWith 69 rfl) ?_
    refine gx_iload hX (gx_dt dt_mi_x_O_waysWith 70 rfl) rfl ?_
    refine gx_iload hX (gx_dt dt_mi_x_O_waysWith 71 rfl) rfl ?_
    refine gx_if_eq hX (tgt := 136) (gx_dt dt_mi_x_O_waysWith 72 rfl) (by decide) (fun c3 => ?_) (fun c3 => ?_)
    · have h := gx_ifp c3 h
      refine gx_iconst hX (v := 0) (gx_dt dt_mi_x_O_waysWith 75 rfl) (by decide) ?_
      obtain ⟨r4, e_r4, h⟩ := gx_bd h
      refine gx_callSi hX (gx_dt dt_mi_x_O_waysWith 76 rfl) ln_O_49_x_O_spotOf mo_x_O_spotOf ms_x_O_spotOf (gx_rmb rfl) rfl (k_x_O_spotOf e_r4) rfl rfl (Nat.le_of_ble_eq_true rfl) ?_
      obtain ⟨r5, e_r5, h⟩ := gx_bd h
      refine gx_callSi hX (gx_dt dt_mi_x_O_waysWith 77 rfl) ln_O_56_x_E_cell mo_x_E_cell ms_x_E_cell (gx_rmb rfl) rfl (k_x_E_cell e_r5) rfl rfl (Nat.le_of_ble_eq_true rfl) ?_
      obtain rfl := Option.some.inj h
      exact gx_iret hX (gx_dt dt_mi_x_O_waysWith 78 rfl) rfl hres hwr
    · have h := gx_ifn c3 h
      refine gx_iconst hX (v := 1) (gx_dt dt_mi_x_O_waysWith 73 rfl) (by decide) ?_
      refine gx_goto hX (tgt := 137) (gx_dt dt_mi_x_O_waysWith 74 rfl) (by decide) ?_
      obtain ⟨r6, e_r6, h⟩ := gx_bd h
      refine gx_callSi hX (gx_dt dt_mi_x_O_waysWith 76 rfl) ln_O_49_x_O_spotOf mo_x_O_spotOf ms_x_O_spotOf (gx_rmb rfl) rfl (k_x_O_spotOf e_r6) rfl rfl (Nat.le_of_ble_eq_true rfl) ?_
      obtain ⟨r7, e_r7, h⟩ := gx_bd h
      refine gx_callSi hX (gx_dt dt_mi_x_O_waysWith 77 rfl) ln_O_56_x_E_cell mo_x_E_cell ms_x_E_cell (gx_rmb rfl) rfl (k_x_E_cell e_r7) rfl rfl (Nat.le_of_ble_eq_true rfl) ?_
      obtain rfl := Option.some.inj h
      exact gx_iret hX (gx_dt dt_mi_x_O_waysWith 78 rfl) rfl hres hwr
  · have h := gx_ifp c2 h
    refine gx_iconst hX (v := 0) (gx_dt dt_mi_x_O_waysWith 61 rfl) (by decide) ?_
    obtain rfl := Option.some.inj h
    exact gx_iret hX (gx_dt dt_mi_x_O_waysWith 62 rfl) rfl hres hwr
theorem t_x_O_waysWith_88 {X : gx_X} (hX : gx_Ok X mi_x_O_waysWith) {R : Int32 × gx_Wd} (hres : gx_res X = some (.inl R.1)) (hwr : gx_wr X = R.2) (b1 : Int32) (b2 : Int32) (b3 : Int32) (b4 : Int32) (b5 : Int32) (b6 : Int32) (b7 : Int32) (b8 : Int32) (w : gx_Wd) (h : x_O_waysWith_88 b1 b2 b3 b4 b5 b6 b7 b8 w = some R) : gx_G X mi_x_O_waysWith 88 [some (.inr 35), some (.inl b1), some (.inl b2), some (.inl b3), some (.inl b4), some (.inl b5), some (.inl b6), some (.inl b7), some (.inl b8)] [] w := by
  rw [x_O_waysWith_88] at h
  refine gx_aload_n hX (gx_dt dt_mi_x_O_waysWith 48 rfl) rfl ?_
  refine gx_iload hX (gx_dt dt_mi_x_O_waysWith 49 rfl) rfl ?_
  refine gx_iload_n hX (gx_dt dt_mi_x_O_waysWith 50 rfl) rfl ?_
  refine gx_iload_n hX (gx_dt dt_mi_x_O_waysWith 51 rfl) rfl ?_
  refine gx_iload hX (gx_dt dt_mi_x_O_waysWith 52 rfl) rfl ?_
  refine gx_if_eq hX (tgt := 103) (gx_dt dt_mi_x_O_waysWith 53 rfl) (by decide) (fun c1 => ?_) (fun c1 => ?_)
  · have h := gx_ifp c1 h
    refine gx_iconst hX (v := 2) (gx_dt dt_mi_x_O_waysWith 56 rfl) (by decide) ?_
    refine gx_iload hX (gx_dt dt_mi_x_O_waysWith 57 rfl) rfl ?_
    refine gx_imul hX (gx_dt dt_mi_x_O_waysWith 58 rfl) ?_
    exact gx_weak (gx_leS (gx_leS (gx_leN (gx_leN (gx_leS (gx_leN (gx_leN (gx_leS gx_le0)))))))) (t_x_O_waysWith_107 hX hres hwr _ _ _ _ _ _ _ _ h)
  · have h := gx_ifn c1 h
    refine gx_iload hX (gx_dt dt_mi_x_O_waysWith 54 rfl) rfl ?_
    refine gx_goto hX (tgt := 107) (gx_dt dt_mi_x_O_waysWith 55 rfl) (by decide) ?_
    exact gx_weak (gx_leS (gx_leS (gx_leN (gx_leN (gx_leS (gx_leN (gx_leN (gx_leS gx_le0)))))))) (t_x_O_waysWith_107 hX hres hwr _ _ _ _ _ _ _ _ h)
theorem t_x_O_waysWith_69 {X : gx_X} (hX : gx_Ok X mi_x_O_waysWith) {R : Int32 × gx_Wd} (hres : gx_res X = some (.inl R.1)) (hwr : gx_wr X = R.2) (b1 : Int32) (b2 : Int32) (b3 : Int32) (b4 : Int32) (b5 : Int32) (b6 : Int32) (b7 : Int32) (s0 : Int32) (w : gx_Wd) (h : x_O_waysWith_69 b1 b2 b3 b4 b5 b6 b7 s0 w = some R) : gx_G X mi_x_O_waysWith 69 [some (.inr 35), some (.inl b1), some (.inl b2), some (.inl b3), some (.inl b4), some (.inl b5), some (.inl b6), some (.inl b7)] [.inl s0] w := by
  rw [x_O_waysWith_69] at h
  refine gx_istore hX (ls' := [some (.inr 35), some (.inl b1), some (.inl b2), some (.inl b3), some (.inl b4), some (.inl b5), some (.inl b6), some (.inl b7), some (.inl s0)]) (gx_dt dt_mi_x_O_waysWith 39 rfl) (by decide) rfl ?_
  refine gx_iload hX (gx_dt dt_mi_x_O_waysWith 40 rfl) rfl ?_
  refine gx_if_ne hX (tgt := 88) (gx_dt dt_mi_x_O_waysWith 41 rfl) (by decide) (fun c1 => ?_) (fun c1 => ?_)
  · have h := gx_ifn c1 h
    exact gx_weak (gx_leS (gx_leS (gx_leS (gx_leS (gx_leS (gx_leS (gx_leS (gx_leS (gx_leS gx_le0))))))))) (t_x_O_waysWith_88 hX hres hwr _ _ _ _ _ _ _ _ _ h)
  · have h := gx_ifp c1 h
    refine gx_iload hX (gx_dt dt_mi_x_O_waysWith 42 rfl) rfl ?_
    refine gx_if_ne hX (tgt := 88) (gx_dt dt_mi_x_O_waysWith 43 rfl) (by decide) (fun c2 => ?_) (fun c2 => ?_)
    · have h := gx_ifn c2 h
      exact gx_weak (gx_leS (gx_leS (gx_leS (gx_leS (gx_leS (gx_leS (gx_leS (gx_leS (gx_leS gx_le0))))))))) (t_x_O_waysWith_88 hX hres hwr _ _ _ _ _ _ _ _ _ h)
    · have h := gx_ifp c2 h
      refine gx_iload hX (gx_dt dt_mi_x_O_waysWith 44 rfl) rfl ?_
      refine gx_if_le hX (tgt := 88) (gx_dt dt_mi_x_O_waysWith 45 rfl) (by decide) (fun c3 => ?_) (fun c3 => ?_)
      · have h := gx_ifp c3 h
        exact gx_weak (gx_leS (gx_leS (gx_leS (gx_leS (gx_leS (gx_leS (gx_leS (gx_leS (gx_leS gx_le0))))))))) (t_x_O_waysWith_88 hX hres hwr _ _ _ _ _ _ _ _ _ h)
      · have h := gx_ifn c3 h
        refine gx_iconst hX (v := 0) (gx_dt dt_mi_x_O_waysWith 46 rfl) (by decide) ?_
        obtain rfl := Option.some.inj h
        exact gx_iret hX (gx_dt dt_mi_x_O_waysWith 47 rfl) rfl hres hwr
theorem t_x_O_waysWith_49 {X : gx_X} (hX : gx_Ok X mi_x_O_waysWith) {R : Int32 × gx_Wd} (hres : gx_res X = some (.inl R.1)) (hwr : gx_wr X = R.2) (b1 : Int32) (b2 : Int32) (b3 : Int32) (b4 : Int32) (b5 : Int32) (b6 : Int32) (s0 : Int32) (w : gx_Wd) (h : x_O_waysWith_49 b1 b2 b3 b4 b5 b6 s0 w = some R) : gx_G X mi_x_O_waysWith 49 [some (.inr 35), some (.inl b1), some (.inl b2), some (.inl b3), some (.inl b4), some (.inl b5), some (.inl b6)] [.inl s0] w := by
  rw [x_O_waysWith_49] at h
  refine gx_istore hX (ls' := [some (.inr 35), some (.inl b1), some (.inl b2), some (.inl b3), some (.inl b4), some (.inl b5), some (.inl b6), some (.inl s0)]) (gx_dt dt_mi_x_O_waysWith 28 rfl) (by decide) rfl ?_
  refine gx_aload_n hX (gx_dt dt_mi_x_O_waysWith 29 rfl) rfl ?_
  refine gx_iload hX (gx_dt dt_mi_x_O_waysWith 30 rfl) rfl ?_
  refine gx_iload hX (gx_dt dt_mi_x_O_waysWith 31 rfl) rfl ?_
  refine gx_iconst hX (v := 1) (gx_dt dt_mi_x_O_waysWith 32 rfl) (by decide) ?_
  refine gx_iadd hX (gx_dt dt_mi_x_O_waysWith 33 rfl) ?_
  obtain ⟨r1, e_r1, h⟩ := gx_bd h
  refine gx_callVi hX (gx_dt dt_mi_x_O_waysWith 34 rfl) ln_O_77_x_O_mostOf mo_x_O_mostOf mv_x_O_mostOf (gx_rmb rfl) sh_x_35 ⟨_, _, rfl⟩ rfl (k_x_O_mostOf e_r1) rfl rfl (Nat.le_of_ble_eq_true rfl) ?_
  refine gx_if_lt hX (tgt := 68) (gx_dt dt_mi_x_O_waysWith 35 rfl) (by decide) (fun c2 => ?_) (fun c2 => ?_)
  · have h := gx_ifp c2 h
    refine gx_iconst hX (v := 0) (gx_dt dt_mi_x_O_waysWith 38 rfl) (by decide) ?_
    exact gx_weak (gx_leS (gx_leS (gx_leS (gx_leS (gx_leS (gx_leS (gx_leS (gx_leS gx_le0)))))))) (t_x_O_waysWith_69 hX hres hwr _ _ _ _ _ _ _ _ _ h)
  · have h := gx_ifn c2 h
    refine gx_iconst hX (v := 1) (gx_dt dt_mi_x_O_waysWith 36 rfl) (by decide) ?_
    refine gx_goto hX (tgt := 69) (gx_dt dt_mi_x_O_waysWith 37 rfl) (by decide) ?_
    exact gx_weak (gx_leS (gx_leS (gx_leS (gx_leS (gx_leS (gx_leS (gx_leS (gx_leS gx_le0)))))))) (t_x_O_waysWith_69 hX hres hwr _ _ _ _ _ _ _ _ _ h)
theorem k_x_O_waysWith {a1 : Int32} {a2 : Int32} {a3 : Int32} {a4 : Int32} {w : gx_Wd} {R : Int32 × gx_Wd} (h : x_O_waysWith a1 a2 a3 a4 w = some R) : gx_MT mi_x_O_waysWith [.inr 35, .inl a1, .inl a2, .inl a3, .inl a4] w (some (.inl R.1)) R.2 := by
  refine gx_met (by decide +kernel) (Nat.le_of_ble_eq_true rfl) (fun X hX hres hwr => ?_)
  show gx_G X mi_x_O_waysWith 0 [some (.inr 35), some (.inl a1), some (.inl a2), some (.inl a3), some (.inl a4)] [] w
  rw [x_O_waysWith] at h
  refine gx_iload_n hX (gx_dt dt_mi_x_O_waysWith 0 rfl) rfl ?_
  refine gx_iload hX (gx_dt dt_mi_x_O_waysWith 1 rfl) rfl ?_
  refine gx_ishr hX (gx_dt dt_mi_x_O_waysWith 2 rfl) ?_
  refine gx_iconst hX (v := 1) (gx_dt dt_mi_x_O_waysWith 3 rfl) (by decide) ?_
  refine gx_iand hX (gx_dt dt_mi_x_O_waysWith 4 rfl) ?_
  refine gx_iconst hX (v := 1) (gx_dt dt_mi_x_O_waysWith 5 rfl) (by decide) ?_
  refine gx_ic_ne hX (tgt := 12) (gx_dt dt_mi_x_O_waysWith 6 rfl) (by decide) (fun c1 => ?_) (fun c1 => ?_)
  · have h := gx_ifn c1 h
    refine gx_iload_n hX (gx_dt dt_mi_x_O_waysWith 9 rfl) rfl ?_
    obtain ⟨r2, e_r2, h⟩ := gx_bd h
    refine gx_callSi hX (gx_dt dt_mi_x_O_waysWith 10 rfl) ln_O_60_x_I_bitCount mo_x_I_bitCount ms_x_I_bitCount (gx_rmb rfl) rfl (k_x_I_bitCount e_r2) rfl rfl (Nat.le_of_ble_eq_true rfl) ?_
    refine gx_iconst hX (v := 1) (gx_dt dt_mi_x_O_waysWith 11 rfl) (by decide) ?_
    refine gx_isub hX (gx_dt dt_mi_x_O_waysWith 12 rfl) ?_
    obtain ⟨v3, e_v3, h⟩ := gx_bd h
    refine gx_top e_v3 ?_
    refine gx_istore hX (ls' := [some (.inr 35), some (.inl a1), some (.inl a2), some (.inl a3), some (.inl a4), some (.inl v3)]) (gx_dt dt_mi_x_O_waysWith 13 rfl) (by decide) rfl ?_
    refine gx_aload_n hX (gx_dt dt_mi_x_O_waysWith 14 rfl) rfl ?_
    refine gx_getr hX fl_O_9 sh_x_35 rfl (gx_dt dt_mi_x_O_waysWith 15 rfl) ?_
    refine gx_getr hX fl_O_74 sh_x_22 rfl (gx_dt dt_mi_x_O_waysWith 16 rfl) ?_
    refine gx_iload hX (gx_dt dt_mi_x_O_waysWith 17 rfl) rfl ?_
    obtain ⟨r4, e_r4, h⟩ := gx_bd h
    refine gx_callSi hX (gx_dt dt_mi_x_O_waysWith 18 rfl) ln_O_56_x_E_cell mo_x_E_cell ms_x_E_cell (gx_rmb rfl) rfl (k_x_E_cell e_r4) rfl rfl (Nat.le_of_ble_eq_true rfl) ?_
    refine gx_istore hX (ls' := [some (.inr 35), some (.inl a1), some (.inl a2), some (.inl a3), some (.inl a4), some (.inl v3), some (.inl (r4.1))]) (gx_dt dt_mi_x_O_waysWith 19 rfl) (by decide) rfl ?_
    refine gx_aload_n hX (gx_dt dt_mi_x_O_waysWith 20 rfl) rfl ?_
    refine gx_iload_n hX (gx_dt dt_mi_x_O_waysWith 21 rfl) rfl ?_
    refine gx_iload hX (gx_dt dt_mi_x_O_waysWith 22 rfl) rfl ?_
    obtain ⟨r5, e_r5, h⟩ := gx_bd h
    refine gx_callVi hX (gx_dt dt_mi_x_O_waysWith 23 rfl) ln_O_77_x_O_mostOf mo_x_O_mostOf mv_x_O_mostOf (gx_rmb rfl) sh_x_35 ⟨_, _, rfl⟩ rfl (k_x_O_mostOf e_r5) rfl rfl (Nat.le_of_ble_eq_true rfl) ?_
    refine gx_if_lt hX (tgt := 48) (gx_dt dt_mi_x_O_waysWith 24 rfl) (by decide) (fun c6 => ?_) (fun c6 => ?_)
    · have h := gx_ifp c6 h
      refine gx_iconst hX (v := 0) (gx_dt dt_mi_x_O_waysWith 27 rfl) (by decide) ?_
      exact gx_weak (gx_leS (gx_leS (gx_leS (gx_leS (gx_leS (gx_leS (gx_leS gx_le0))))))) (t_x_O_waysWith_49 hX hres hwr _ _ _ _ _ _ _ _ h)
    · have h := gx_ifn c6 h
      refine gx_iconst hX (v := 1) (gx_dt dt_mi_x_O_waysWith 25 rfl) (by decide) ?_
      refine gx_goto hX (tgt := 49) (gx_dt dt_mi_x_O_waysWith 26 rfl) (by decide) ?_
      exact gx_weak (gx_leS (gx_leS (gx_leS (gx_leS (gx_leS (gx_leS (gx_leS gx_le0))))))) (t_x_O_waysWith_49 hX hres hwr _ _ _ _ _ _ _ _ h)
  · have h := gx_ifp c1 h
    refine gx_iconst hX (v := 0) (gx_dt dt_mi_x_O_waysWith 7 rfl) (by decide) ?_
    obtain rfl := Option.some.inj h
    exact gx_iret hX (gx_dt dt_mi_x_O_waysWith 8 rfl) rfl hres hwr
-- EachBearsPillar$Orders.waysOn(III)I
def x_O_waysOn_49 : Nat → Int32 → Int32 → Int32 → Int32 → Int32 → gx_Wd → Option (Int32 × gx_Wd)
  | 0, _, _, _, _, _, _ => none
  | n + 1, b1, b2, b3, b5, b6, w =>
  if w 1 0 ≤ b6 then
    some (b5, w)
  else
  (x_O_waysWith b1 b2 b3 b6 w).bind fun r2 =>
  (some (b5 + r2.1)).bind fun v3 =>
  (some (b6 + 1)).bind fun v4 =>
  (x_O_waysOn_49 n) b1 b2 b3 v3 v4 r2.2
def x_O_waysOn (a1 : Int32) (a2 : Int32) (a3 : Int32) (w : gx_Wd) : Option (Int32 × gx_Wd) :=
  (x_I_bitCount a1 w).bind fun r1 =>
  (some (r1.1 - 1)).bind fun v2 =>
  if v2 + 1 < r1.2 1 0 then
    x_O_waysOn_49 6000 a1 a2 a3 0 0 r1.2
  else
  (x_O_bearsLeft v2 a2 a3 0 r1.2).bind fun r4 =>
  if r4.1 = 0 then
    some (0, r4.2)
  else
  some (1, r4.2)
theorem t_x_O_waysOn_49 {X : gx_X} (hX : gx_Ok X mi_x_O_waysOn) {R : Int32 × gx_Wd} (hres : gx_res X = some (.inl R.1)) (hwr : gx_wr X = R.2) : ∀ (n : Nat) (b1 : Int32) (b2 : Int32) (b3 : Int32) (b5 : Int32) (b6 : Int32) (w : gx_Wd), x_O_waysOn_49 n b1 b2 b3 b5 b6 w = some R → gx_G X mi_x_O_waysOn 49 [some (.inr 35), some (.inl b1), some (.inl b2), some (.inl b3), none, some (.inl b5), some (.inl b6)] [] w := by
  intro n
  induction n with
  | zero => intro b1 b2 b3 b5 b6 w h; rw [x_O_waysOn_49] at h; cases h
  | succ n ih =>
    intro b1 b2 b3 b5 b6 w h
    rw [x_O_waysOn_49] at h
    refine gx_iload hX (gx_dt dt_mi_x_O_waysOn 28 rfl) rfl ?_
    refine gx_aload_n hX (gx_dt dt_mi_x_O_waysOn 29 rfl) rfl ?_
    refine gx_getr hX fl_O_9 sh_x_35 rfl (gx_dt dt_mi_x_O_waysOn 30 rfl) ?_
    refine gx_getr hX fl_O_22 sh_x_22 rfl (gx_dt dt_mi_x_O_waysOn 31 rfl) ?_
    refine gx_geti hX fl_O_28 sh_x_1 rfl (gx_dt dt_mi_x_O_waysOn 32 rfl) ?_
    refine gx_ic_ge hX (tgt := 84) (gx_dt dt_mi_x_O_waysOn 33 rfl) (by decide) (fun c1 => ?_) (fun c1 => ?_)
    · have h := gx_ifp c1 h
      refine gx_iload hX (gx_dt dt_mi_x_O_waysOn 45 rfl) rfl ?_
      obtain rfl := Option.some.inj h
      exact gx_iret hX (gx_dt dt_mi_x_O_waysOn 46 rfl) rfl hres hwr
    · have h := gx_ifn c1 h
      refine gx_iload hX (gx_dt dt_mi_x_O_waysOn 34 rfl) rfl ?_
      refine gx_aload_n hX (gx_dt dt_mi_x_O_waysOn 35 rfl) rfl ?_
      refine gx_iload_n hX (gx_dt dt_mi_x_O_waysOn 36 rfl) rfl ?_
      refine gx_iload_n hX (gx_dt dt_mi_x_O_waysOn 37 rfl) rfl ?_
      refine gx_iload_n hX (gx_dt dt_mi_x_O_waysOn 38 rfl) rfl ?_
      refine gx_iload hX (gx_dt dt_mi_x_O_waysOn 39 rfl) rfl ?_
      obtain ⟨r2, e_r2, h⟩ := gx_bd h
      refine gx_callVi hX (gx_dt dt_mi_x_O_waysOn 40 rfl) ln_O_70_x_O_waysWith mo_x_O_waysWith mv_x_O_waysWith (gx_rmb rfl) sh_x_35 ⟨_, _, rfl⟩ rfl (k_x_O_waysWith e_r2) rfl rfl (Nat.le_of_ble_eq_true rfl) ?_
      refine gx_iadd hX (gx_dt dt_mi_x_O_waysOn 41 rfl) ?_
      obtain ⟨v3, e_v3, h⟩ := gx_bd h
      refine gx_top e_v3 ?_
      refine gx_istore hX (ls' := [some (.inr 35), some (.inl b1), some (.inl b2), some (.inl b3), none, some (.inl v3), some (.inl b6)]) (gx_dt dt_mi_x_O_waysOn 42 rfl) (by decide) rfl ?_
      obtain ⟨v4, e_v4, h⟩ := gx_bd h
      refine gx_iinc hX (v := v4) (ls' := [some (.inr 35), some (.inl b1), some (.inl b2), some (.inl b3), none, some (.inl v3), some (.inl v4)]) (gx_dt dt_mi_x_O_waysOn 43 rfl) rfl (gx_ii e_v4 (by decide)) (by decide) rfl ?_
      refine gx_goto hX (tgt := 49) (gx_dt dt_mi_x_O_waysOn 44 rfl) (by decide) ?_
      exact gx_weak (gx_leS (gx_leS (gx_leS (gx_leS (gx_leN (gx_leS (gx_leS gx_le0))))))) (ih _ _ _ _ _ _ h)
theorem k_x_O_waysOn {a1 : Int32} {a2 : Int32} {a3 : Int32} {w : gx_Wd} {R : Int32 × gx_Wd} (h : x_O_waysOn a1 a2 a3 w = some R) : gx_MT mi_x_O_waysOn [.inr 35, .inl a1, .inl a2, .inl a3] w (some (.inl R.1)) R.2 := by
  refine gx_met (by decide +kernel) (Nat.le_of_ble_eq_true rfl) (fun X hX hres hwr => ?_)
  show gx_G X mi_x_O_waysOn 0 [some (.inr 35), some (.inl a1), some (.inl a2), some (.inl a3)] [] w
  rw [x_O_waysOn] at h
  refine gx_iload_n hX (gx_dt dt_mi_x_O_waysOn 0 rfl) rfl ?_
  obtain ⟨r1, e_r1, h⟩ := gx_bd h
  refine gx_callSi hX (gx_dt dt_mi_x_O_waysOn 1 rfl) ln_O_60_x_I_bitCount mo_x_I_bitCount ms_x_I_bitCount (gx_rmb rfl) rfl (k_x_I_bitCount e_r1) rfl rfl (Nat.le_of_ble_eq_true rfl) ?_
  refine gx_iconst hX (v := 1) (gx_dt dt_mi_x_O_waysOn 2 rfl) (by decide) ?_
  refine gx_isub hX (gx_dt dt_mi_x_O_waysOn 3 rfl) ?_
  obtain ⟨v2, e_v2, h⟩ := gx_bd h
  refine gx_top e_v2 ?_
  refine gx_istore hX (ls' := [some (.inr 35), some (.inl a1), some (.inl a2), some (.inl a3), some (.inl v2)]) (gx_dt dt_mi_x_O_waysOn 4 rfl) (by decide) rfl ?_
  refine gx_iload hX (gx_dt dt_mi_x_O_waysOn 5 rfl) rfl ?_
  refine gx_iconst hX (v := 1) (gx_dt dt_mi_x_O_waysOn 6 rfl) (by decide) ?_
  refine gx_iadd hX (gx_dt dt_mi_x_O_waysOn 7 rfl) ?_
  refine gx_aload_n hX (gx_dt dt_mi_x_O_waysOn 8 rfl) rfl ?_
  refine gx_getr hX fl_O_9 sh_x_35 rfl (gx_dt dt_mi_x_O_waysOn 9 rfl) ?_
  refine gx_getr hX fl_O_22 sh_x_22 rfl (gx_dt dt_mi_x_O_waysOn 10 rfl) ?_
  refine gx_geti hX fl_O_28 sh_x_1 rfl (gx_dt dt_mi_x_O_waysOn 11 rfl) ?_
  refine gx_ic_lt hX (tgt := 43) (gx_dt dt_mi_x_O_waysOn 12 rfl) (by decide) (fun c3 => ?_) (fun c3 => ?_)
  · have h := gx_ifp c3 h
    refine gx_iconst hX (v := 0) (gx_dt dt_mi_x_O_waysOn 24 rfl) (by decide) ?_
    refine gx_istore hX (ls' := [some (.inr 35), some (.inl a1), some (.inl a2), some (.inl a3), some (.inl v2), some (.inl (0))]) (gx_dt dt_mi_x_O_waysOn 25 rfl) (by decide) rfl ?_
    refine gx_iconst hX (v := 0) (gx_dt dt_mi_x_O_waysOn 26 rfl) (by decide) ?_
    refine gx_istore hX (ls' := [some (.inr 35), some (.inl a1), some (.inl a2), some (.inl a3), some (.inl v2), some (.inl (0)), some (.inl (0))]) (gx_dt dt_mi_x_O_waysOn 27 rfl) (by decide) rfl ?_
    exact gx_weak (gx_leS (gx_leS (gx_leS (gx_leS (gx_leN (gx_leS (gx_leS gx_le0))))))) (t_x_O_waysOn_49 hX hres hwr _ _ _ _ _ _ _ h)
  · have h := gx_ifn c3 h
    refine gx_aload_n hX (gx_dt dt_mi_x_O_waysOn 13 rfl) rfl ?_
    refine gx_iload hX (gx_dt dt_mi_x_O_waysOn 14 rfl) rfl ?_
    refine gx_iload_n hX (gx_dt dt_mi_x_O_waysOn 15 rfl) rfl ?_
    refine gx_iload_n hX (gx_dt dt_mi_x_O_waysOn 16 rfl) rfl ?_
    refine gx_iconst hX (v := 0) (gx_dt dt_mi_x_O_waysOn 17 rfl) (by decide) ?_
    obtain ⟨r4, e_r4, h⟩ := gx_bd h
    refine gx_callVi hX (gx_dt dt_mi_x_O_waysOn 18 rfl) ln_O_66_x_O_bearsLeft mo_x_O_bearsLeft mv_x_O_bearsLeft (gx_rmb rfl) sh_x_35 ⟨_, _, rfl⟩ rfl (k_x_O_bearsLeft e_r4) rfl rfl (Nat.le_of_ble_eq_true rfl) ?_
    refine gx_if_eq hX (tgt := 41) (gx_dt dt_mi_x_O_waysOn 19 rfl) (by decide) (fun c5 => ?_) (fun c5 => ?_)
    · have h := gx_ifp c5 h
      refine gx_iconst hX (v := 0) (gx_dt dt_mi_x_O_waysOn 22 rfl) (by decide) ?_
      obtain rfl := Option.some.inj h
      exact gx_iret hX (gx_dt dt_mi_x_O_waysOn 23 rfl) rfl hres hwr
    · have h := gx_ifn c5 h
      refine gx_iconst hX (v := 1) (gx_dt dt_mi_x_O_waysOn 20 rfl) (by decide) ?_
      refine gx_goto hX (tgt := 42) (gx_dt dt_mi_x_O_waysOn 21 rfl) (by decide) ?_
      obtain rfl := Option.some.inj h
      exact gx_iret hX (gx_dt dt_mi_x_O_waysOn 23 rfl) rfl hres hwr
-- EachBearsPillar$Orders.fill()V
def x_O_fill_169 (K101 : Int32 → Int32 → gx_Wd → Option (gx_Wd)) (b1 : Int32) (b2 : Int32) (w : gx_Wd) : Option (gx_Wd) :=
  (some (b2 + (-1))).bind fun v1 =>
  K101 b1 v1 w
def x_O_fill_163 (K101 : Int32 → Int32 → gx_Wd → Option (gx_Wd)) (K107 : Int32 → Int32 → Int32 → gx_Wd → Option (gx_Wd)) (b1 : Int32) (b2 : Int32) (b3 : Int32) (w : gx_Wd) : Option (gx_Wd) :=
  (some (b3 + 1)).bind fun v1 =>
  K107 b1 b2 v1 w
def x_O_fill_107 (K101 : Int32 → Int32 → gx_Wd → Option (gx_Wd)) : Nat → Int32 → Int32 → Int32 → gx_Wd → Option (gx_Wd)
  | 0, _, _, _, _ => none
  | n + 1, b1, b2, b3, w =>
  if b1 ≤ b3 then
    x_O_fill_169 K101 b1 b2 w
  else
  if (b2 >>> (b3 &&& 31)) &&& 1 = 1 then
    (x_O_spotOf b2 b3 0 w).bind fun r3 =>
    (x_O_waysOn b2 b3 0 r3.2).bind fun r4 =>
    (x_E_setCell 37 r3.1 r4.1 r4.2).bind fun r5 =>
    (x_O_spotOf b2 b3 1 r5.2).bind fun r6 =>
    (x_O_waysOn b2 b3 1 r6.2).bind fun r7 =>
    (x_E_setCell 37 r6.1 r7.1 r7.2).bind fun r8 =>
    x_O_fill_163 K101 (x_O_fill_107 K101 n) b1 b2 b3 r8.2
  else
    x_O_fill_163 K101 (x_O_fill_107 K101 n) b1 b2 b3 w
def x_O_fill_101 : Nat → Int32 → Int32 → gx_Wd → Option (gx_Wd)
  | 0, _, _, _ => none
  | n + 1, b1, b2, w =>
  if b2 ≤ 0 then
    some w
  else
  x_O_fill_107 (x_O_fill_101 n) 6000 b1 b2 0 w
def x_O_fill_95 (b1 : Int32) (w : gx_Wd) : Option (gx_Wd) :=
  (some ((1 <<< (b1 &&& 31)) - 1)).bind fun v1 =>
  x_O_fill_101 6000 b1 v1 w
def x_O_fill_89 (K13 : Int32 → Int32 → gx_Wd → Option (gx_Wd)) (b1 : Int32) (b2 : Int32) (w : gx_Wd) : Option (gx_Wd) :=
  (some (b2 + 1)).bind fun v1 =>
  K13 b1 v1 w
def x_O_fill_65 (K13 : Int32 → Int32 → gx_Wd → Option (gx_Wd)) (K20 : Int32 → Int32 → Int32 → gx_Wd → Option (gx_Wd)) (b1 : Int32) (b2 : Int32) (b3 : Int32) (s0 : Int32) (w : gx_Wd) : Option (gx_Wd) :=
  (x_E_setCell 36 ((b2 * 7) + b3) s0 w).bind fun r1 =>
  (some (b3 + 1)).bind fun v2 =>
  K20 b1 b2 v2 r1.2
def x_O_fill_20 (K13 : Int32 → Int32 → gx_Wd → Option (gx_Wd)) : Nat → Int32 → Int32 → Int32 → gx_Wd → Option (gx_Wd)
  | 0, _, _, _, _ => none
  | n + 1, b1, b2, b3, w =>
  if b1 ≤ b3 then
    x_O_fill_89 K13 b1 b2 w
  else
  (x_M_topOf b2 b3 w).bind fun r2 =>
  (x_M_canBear b2 r2.1 r2.2).bind fun r3 =>
  if r3.1 = 0 then
    x_O_fill_65 K13 (x_O_fill_20 K13 n) b1 b2 b3 (-1) r3.2
  else
  (x_M_mightOf b2 r2.1 r3.2).bind fun r5 =>
  x_O_fill_65 K13 (x_O_fill_20 K13 n) b1 b2 b3 (2 * r5.1) r5.2
def x_O_fill_13 : Nat → Int32 → Int32 → gx_Wd → Option (gx_Wd)
  | 0, _, _, _ => none
  | n + 1, b1, b2, w =>
  if b1 ≤ b2 then
    x_O_fill_95 b1 w
  else
  x_O_fill_20 (x_O_fill_13 n) 6000 b1 b2 0 w
def x_O_fill (w : gx_Wd) : Option (gx_Wd) :=
  x_O_fill_13 6000 (w 1 0) 0 w
theorem t_x_O_fill_169 {X : gx_X} (hX : gx_Ok X mi_x_O_fill) {R : gx_Wd} (hres : gx_res X = none) (hwr : gx_wr X = R) {K101 : Int32 → Int32 → gx_Wd → Option (gx_Wd)} (hK101 : ∀ (b1 : Int32) (b2 : Int32) (w : gx_Wd), K101 b1 b2 w = some R → gx_G X mi_x_O_fill 101 [some (.inr 35), some (.inl b1), some (.inl b2)] [] w) (b1 : Int32) (b2 : Int32) (w : gx_Wd) (h : x_O_fill_169 K101 b1 b2 w = some R) : gx_G X mi_x_O_fill 169 [some (.inr 35), some (.inl b1), some (.inl b2)] [] w := by
  rw [x_O_fill_169] at h
  obtain ⟨v1, e_v1, h⟩ := gx_bd h
  refine gx_iinc hX (v := v1) (ls' := [some (.inr 35), some (.inl b1), some (.inl v1)]) (gx_dt dt_mi_x_O_fill 99 rfl) rfl (gx_ii e_v1 (by decide)) (by decide) rfl ?_
  refine gx_goto hX (tgt := 101) (gx_dt dt_mi_x_O_fill 100 rfl) (by decide) ?_
  exact gx_weak (gx_leS (gx_leS (gx_leS gx_le0))) (hK101 _ _ _ h)
theorem t_x_O_fill_163 {X : gx_X} (hX : gx_Ok X mi_x_O_fill) {R : gx_Wd} (hres : gx_res X = none) (hwr : gx_wr X = R) {K101 : Int32 → Int32 → gx_Wd → Option (gx_Wd)} (hK101 : ∀ (b1 : Int32) (b2 : Int32) (w : gx_Wd), K101 b1 b2 w = some R → gx_G X mi_x_O_fill 101 [some (.inr 35), some (.inl b1), some (.inl b2)] [] w) {K107 : Int32 → Int32 → Int32 → gx_Wd → Option (gx_Wd)} (hK107 : ∀ (b1 : Int32) (b2 : Int32) (b3 : Int32) (w : gx_Wd), K107 b1 b2 b3 w = some R → gx_G X mi_x_O_fill 107 [some (.inr 35), some (.inl b1), some (.inl b2), some (.inl b3)] [] w) (b1 : Int32) (b2 : Int32) (b3 : Int32) (w : gx_Wd) (h : x_O_fill_163 K101 K107 b1 b2 b3 w = some R) : gx_G X mi_x_O_fill 163 [some (.inr 35), some (.inl b1), some (.inl b2), some (.inl b3)] [] w := by
  rw [x_O_fill_163] at h
  obtain ⟨v1, e_v1, h⟩ := gx_bd h
  refine gx_iinc hX (v := v1) (ls' := [some (.inr 35), some (.inl b1), some (.inl b2), some (.inl v1)]) (gx_dt dt_mi_x_O_fill 97 rfl) rfl (gx_ii e_v1 (by decide)) (by decide) rfl ?_
  refine gx_goto hX (tgt := 107) (gx_dt dt_mi_x_O_fill 98 rfl) (by decide) ?_
  exact gx_weak (gx_leS (gx_leS (gx_leS (gx_leS gx_le0)))) (hK107 _ _ _ _ h)
theorem t_x_O_fill_107 {X : gx_X} (hX : gx_Ok X mi_x_O_fill) {R : gx_Wd} (hres : gx_res X = none) (hwr : gx_wr X = R) {K101 : Int32 → Int32 → gx_Wd → Option (gx_Wd)} (hK101 : ∀ (b1 : Int32) (b2 : Int32) (w : gx_Wd), K101 b1 b2 w = some R → gx_G X mi_x_O_fill 101 [some (.inr 35), some (.inl b1), some (.inl b2)] [] w) : ∀ (n : Nat) (b1 : Int32) (b2 : Int32) (b3 : Int32) (w : gx_Wd), x_O_fill_107 K101 n b1 b2 b3 w = some R → gx_G X mi_x_O_fill 107 [some (.inr 35), some (.inl b1), some (.inl b2), some (.inl b3)] [] w := by
  intro n
  induction n with
  | zero => intro b1 b2 b3 w h; rw [x_O_fill_107] at h; cases h
  | succ n ih =>
    intro b1 b2 b3 w h
    rw [x_O_fill_107] at h
    refine gx_iload_n hX (gx_dt dt_mi_x_O_fill 61 rfl) rfl ?_
    refine gx_iload_n hX (gx_dt dt_mi_x_O_fill 62 rfl) rfl ?_
    refine gx_ic_ge hX (tgt := 169) (gx_dt dt_mi_x_O_fill 63 rfl) (by decide) (fun c1 => ?_) (fun c1 => ?_)
    · have h := gx_ifp c1 h
      exact gx_weak (gx_leS (gx_leS (gx_leS gx_le0))) (t_x_O_fill_169 hX hres hwr hK101 _ _ _ h)
    · have h := gx_ifn c1 h
      refine gx_iload_n hX (gx_dt dt_mi_x_O_fill 64 rfl) rfl ?_
      refine gx_iload_n hX (gx_dt dt_mi_x_O_fill 65 rfl) rfl ?_
      refine gx_ishr hX (gx_dt dt_mi_x_O_fill 66 rfl) ?_
      refine gx_iconst hX (v := 1) (gx_dt dt_mi_x_O_fill 67 rfl) (by decide) ?_
      refine gx_iand hX (gx_dt dt_mi_x_O_fill 68 rfl) ?_
      refine gx_iconst hX (v := 1) (gx_dt dt_mi_x_O_fill 69 rfl) (by decide) ?_
      refine gx_ic_ne hX (tgt := 163) (gx_dt dt_mi_x_O_fill 70 rfl) (by decide) (fun c2 => ?_) (fun c2 => ?_)
      · have h := gx_ifn c2 h
        exact gx_weak (gx_leS (gx_leS (gx_leS (gx_leS gx_le0)))) (t_x_O_fill_163 hX hres hwr hK101 ih _ _ _ _ h)
      · have h := gx_ifp c2 h
        refine gx_aload_n hX (gx_dt dt_mi_x_O_fill 71 rfl) rfl ?_
        refine gx_getr hX fl_O_19 sh_x_35 rfl (gx_dt dt_mi_x_O_fill 72 rfl) ?_
        refine gx_iload_n hX (gx_dt dt_mi_x_O_fill 73 rfl) rfl ?_
        refine gx_iload_n hX (gx_dt dt_mi_x_O_fill 74 rfl) rfl ?_
        refine gx_iconst hX (v := 0) (gx_dt dt_mi_x_O_fill 75 rfl) (by decide) ?_
        obtain ⟨r3, e_r3, h⟩ := gx_bd h
        refine gx_callSi hX (gx_dt dt_mi_x_O_fill 76 rfl) ln_O_49_x_O_spotOf mo_x_O_spotOf ms_x_O_spotOf (gx_rmb rfl) rfl (k_x_O_spotOf e_r3) rfl rfl (Nat.le_of_ble_eq_true rfl) ?_
        refine gx_aload_n hX (gx_dt dt_mi_x_O_fill 77 rfl) rfl ?_
        refine gx_iload_n hX (gx_dt dt_mi_x_O_fill 78 rfl) rfl ?_
        refine gx_iload_n hX (gx_dt dt_mi_x_O_fill 79 rfl) rfl ?_
        refine gx_iconst hX (v := 0) (gx_dt dt_mi_x_O_fill 80 rfl) (by decide) ?_
        obtain ⟨r4, e_r4, h⟩ := gx_bd h
        refine gx_callVi hX (gx_dt dt_mi_x_O_fill 81 rfl) ln_O_53_x_O_waysOn mo_x_O_waysOn mv_x_O_waysOn (gx_rmb rfl) sh_x_35 ⟨_, _, rfl⟩ rfl (k_x_O_waysOn e_r4) rfl rfl (Nat.le_of_ble_eq_true rfl) ?_
        obtain ⟨r5, e_r5, h⟩ := gx_bd h
        refine gx_callSi hX (gx_dt dt_mi_x_O_fill 82 rfl) ln_O_45_x_E_setCell mo_x_E_setCell ms_x_E_setCell (gx_rmb rfl) rfl (k_x_E_setCell e_r5) rfl rfl (Nat.le_of_ble_eq_true rfl) ?_
        refine gx_pop hX (gx_dt dt_mi_x_O_fill 83 rfl) ?_
        refine gx_aload_n hX (gx_dt dt_mi_x_O_fill 84 rfl) rfl ?_
        refine gx_getr hX fl_O_19 sh_x_35 rfl (gx_dt dt_mi_x_O_fill 85 rfl) ?_
        refine gx_iload_n hX (gx_dt dt_mi_x_O_fill 86 rfl) rfl ?_
        refine gx_iload_n hX (gx_dt dt_mi_x_O_fill 87 rfl) rfl ?_
        refine gx_iconst hX (v := 1) (gx_dt dt_mi_x_O_fill 88 rfl) (by decide) ?_
        obtain ⟨r6, e_r6, h⟩ := gx_bd h
        refine gx_callSi hX (gx_dt dt_mi_x_O_fill 89 rfl) ln_O_49_x_O_spotOf mo_x_O_spotOf ms_x_O_spotOf (gx_rmb rfl) rfl (k_x_O_spotOf e_r6) rfl rfl (Nat.le_of_ble_eq_true rfl) ?_
        refine gx_aload_n hX (gx_dt dt_mi_x_O_fill 90 rfl) rfl ?_
        refine gx_iload_n hX (gx_dt dt_mi_x_O_fill 91 rfl) rfl ?_
        refine gx_iload_n hX (gx_dt dt_mi_x_O_fill 92 rfl) rfl ?_
        refine gx_iconst hX (v := 1) (gx_dt dt_mi_x_O_fill 93 rfl) (by decide) ?_
        obtain ⟨r7, e_r7, h⟩ := gx_bd h
        refine gx_callVi hX (gx_dt dt_mi_x_O_fill 94 rfl) ln_O_53_x_O_waysOn mo_x_O_waysOn mv_x_O_waysOn (gx_rmb rfl) sh_x_35 ⟨_, _, rfl⟩ rfl (k_x_O_waysOn e_r7) rfl rfl (Nat.le_of_ble_eq_true rfl) ?_
        obtain ⟨r8, e_r8, h⟩ := gx_bd h
        refine gx_callSi hX (gx_dt dt_mi_x_O_fill 95 rfl) ln_O_45_x_E_setCell mo_x_E_setCell ms_x_E_setCell (gx_rmb rfl) rfl (k_x_E_setCell e_r8) rfl rfl (Nat.le_of_ble_eq_true rfl) ?_
        refine gx_pop hX (gx_dt dt_mi_x_O_fill 96 rfl) ?_
        exact gx_weak (gx_leS (gx_leS (gx_leS (gx_leS gx_le0)))) (t_x_O_fill_163 hX hres hwr hK101 ih _ _ _ _ h)
theorem t_x_O_fill_101 {X : gx_X} (hX : gx_Ok X mi_x_O_fill) {R : gx_Wd} (hres : gx_res X = none) (hwr : gx_wr X = R) : ∀ (n : Nat) (b1 : Int32) (b2 : Int32) (w : gx_Wd), x_O_fill_101 n b1 b2 w = some R → gx_G X mi_x_O_fill 101 [some (.inr 35), some (.inl b1), some (.inl b2)] [] w := by
  intro n
  induction n with
  | zero => intro b1 b2 w h; rw [x_O_fill_101] at h; cases h
  | succ n ih =>
    intro b1 b2 w h
    rw [x_O_fill_101] at h
    refine gx_iload_n hX (gx_dt dt_mi_x_O_fill 57 rfl) rfl ?_
    refine gx_if_le hX (tgt := 175) (gx_dt dt_mi_x_O_fill 58 rfl) (by decide) (fun c1 => ?_) (fun c1 => ?_)
    · have h := gx_ifp c1 h
      obtain rfl := Option.some.inj h
      exact gx_vret hX (gx_dt dt_mi_x_O_fill 101 rfl) rfl hres hwr
    · have h := gx_ifn c1 h
      refine gx_iconst hX (v := 0) (gx_dt dt_mi_x_O_fill 59 rfl) (by decide) ?_
      refine gx_istore_n hX (ls' := [some (.inr 35), some (.inl b1), some (.inl b2), some (.inl (0))]) (gx_dt dt_mi_x_O_fill 60 rfl) (by decide) rfl ?_
      exact gx_weak (gx_leS (gx_leS (gx_leS (gx_leS gx_le0)))) (t_x_O_fill_107 hX hres hwr ih _ _ _ _ _ h)
theorem t_x_O_fill_95 {X : gx_X} (hX : gx_Ok X mi_x_O_fill) {R : gx_Wd} (hres : gx_res X = none) (hwr : gx_wr X = R) (b1 : Int32) (w : gx_Wd) (h : x_O_fill_95 b1 w = some R) : gx_G X mi_x_O_fill 95 [some (.inr 35), some (.inl b1)] [] w := by
  rw [x_O_fill_95] at h
  refine gx_iconst hX (v := 1) (gx_dt dt_mi_x_O_fill 51 rfl) (by decide) ?_
  refine gx_iload_n hX (gx_dt dt_mi_x_O_fill 52 rfl) rfl ?_
  refine gx_ishl hX (gx_dt dt_mi_x_O_fill 53 rfl) ?_
  refine gx_iconst hX (v := 1) (gx_dt dt_mi_x_O_fill 54 rfl) (by decide) ?_
  refine gx_isub hX (gx_dt dt_mi_x_O_fill 55 rfl) ?_
  obtain ⟨v1, e_v1, h⟩ := gx_bd h
  refine gx_top e_v1 ?_
  refine gx_istore_n hX (ls' := [some (.inr 35), some (.inl b1), some (.inl v1)]) (gx_dt dt_mi_x_O_fill 56 rfl) (by decide) rfl ?_
  exact gx_weak (gx_leS (gx_leS (gx_leS gx_le0))) (t_x_O_fill_101 hX hres hwr _ _ _ _ h)
theorem t_x_O_fill_89 {X : gx_X} (hX : gx_Ok X mi_x_O_fill) {R : gx_Wd} (hres : gx_res X = none) (hwr : gx_wr X = R) {K13 : Int32 → Int32 → gx_Wd → Option (gx_Wd)} (hK13 : ∀ (b1 : Int32) (b2 : Int32) (w : gx_Wd), K13 b1 b2 w = some R → gx_G X mi_x_O_fill 13 [some (.inr 35), some (.inl b1), some (.inl b2)] [] w) (b1 : Int32) (b2 : Int32) (w : gx_Wd) (h : x_O_fill_89 K13 b1 b2 w = some R) : gx_G X mi_x_O_fill 89 [some (.inr 35), some (.inl b1), some (.inl b2)] [] w := by
  rw [x_O_fill_89] at h
  obtain ⟨v1, e_v1, h⟩ := gx_bd h
  refine gx_iinc hX (v := v1) (ls' := [some (.inr 35), some (.inl b1), some (.inl v1)]) (gx_dt dt_mi_x_O_fill 49 rfl) rfl (gx_ii e_v1 (by decide)) (by decide) rfl ?_
  refine gx_goto hX (tgt := 13) (gx_dt dt_mi_x_O_fill 50 rfl) (by decide) ?_
  exact gx_weak (gx_leS (gx_leS (gx_leS gx_le0))) (hK13 _ _ _ h)
theorem t_x_O_fill_65 {X : gx_X} (hX : gx_Ok X mi_x_O_fill) {R : gx_Wd} (hres : gx_res X = none) (hwr : gx_wr X = R) {K13 : Int32 → Int32 → gx_Wd → Option (gx_Wd)} (hK13 : ∀ (b1 : Int32) (b2 : Int32) (w : gx_Wd), K13 b1 b2 w = some R → gx_G X mi_x_O_fill 13 [some (.inr 35), some (.inl b1), some (.inl b2)] [] w) {K20 : Int32 → Int32 → Int32 → gx_Wd → Option (gx_Wd)} (hK20 : ∀ (b1 : Int32) (b2 : Int32) (b3 : Int32) (w : gx_Wd), K20 b1 b2 b3 w = some R → gx_G X mi_x_O_fill 20 [some (.inr 35), some (.inl b1), some (.inl b2), some (.inl b3)] [] w) (b1 : Int32) (b2 : Int32) (b3 : Int32) (s0 : Int32) (w : gx_Wd) (h : x_O_fill_65 K13 K20 b1 b2 b3 s0 w = some R) : gx_G X mi_x_O_fill 65 [some (.inr 35), some (.inl b1), some (.inl b2), some (.inl b3)] [.inl s0] w := by
  rw [x_O_fill_65] at h
  refine gx_istore hX (ls' := [some (.inr 35), some (.inl b1), some (.inl b2), some (.inl b3), none, some (.inl s0)]) (gx_dt dt_mi_x_O_fill 36 rfl) (by decide) rfl ?_
  refine gx_aload_n hX (gx_dt dt_mi_x_O_fill 37 rfl) rfl ?_
  refine gx_getr hX fl_O_15 sh_x_35 rfl (gx_dt dt_mi_x_O_fill 38 rfl) ?_
  refine gx_iload_n hX (gx_dt dt_mi_x_O_fill 39 rfl) rfl ?_
  refine gx_bipush hX (v := 7) (gx_dt dt_mi_x_O_fill 40 rfl) (by decide) ?_
  refine gx_imul hX (gx_dt dt_mi_x_O_fill 41 rfl) ?_
  refine gx_iload_n hX (gx_dt dt_mi_x_O_fill 42 rfl) rfl ?_
  refine gx_iadd hX (gx_dt dt_mi_x_O_fill 43 rfl) ?_
  refine gx_iload hX (gx_dt dt_mi_x_O_fill 44 rfl) rfl ?_
  obtain ⟨r1, e_r1, h⟩ := gx_bd h
  refine gx_callSi hX (gx_dt dt_mi_x_O_fill 45 rfl) ln_O_45_x_E_setCell mo_x_E_setCell ms_x_E_setCell (gx_rmb rfl) rfl (k_x_E_setCell e_r1) rfl rfl (Nat.le_of_ble_eq_true rfl) ?_
  refine gx_pop hX (gx_dt dt_mi_x_O_fill 46 rfl) ?_
  obtain ⟨v2, e_v2, h⟩ := gx_bd h
  refine gx_iinc hX (v := v2) (ls' := [some (.inr 35), some (.inl b1), some (.inl b2), some (.inl v2), none, some (.inl s0)]) (gx_dt dt_mi_x_O_fill 47 rfl) rfl (gx_ii e_v2 (by decide)) (by decide) rfl ?_
  refine gx_goto hX (tgt := 20) (gx_dt dt_mi_x_O_fill 48 rfl) (by decide) ?_
  exact gx_weak (gx_leS (gx_leS (gx_leS (gx_leS gx_le0)))) (hK20 _ _ _ _ h)
theorem t_x_O_fill_20 {X : gx_X} (hX : gx_Ok X mi_x_O_fill) {R : gx_Wd} (hres : gx_res X = none) (hwr : gx_wr X = R) {K13 : Int32 → Int32 → gx_Wd → Option (gx_Wd)} (hK13 : ∀ (b1 : Int32) (b2 : Int32) (w : gx_Wd), K13 b1 b2 w = some R → gx_G X mi_x_O_fill 13 [some (.inr 35), some (.inl b1), some (.inl b2)] [] w) : ∀ (n : Nat) (b1 : Int32) (b2 : Int32) (b3 : Int32) (w : gx_Wd), x_O_fill_20 K13 n b1 b2 b3 w = some R → gx_G X mi_x_O_fill 20 [some (.inr 35), some (.inl b1), some (.inl b2), some (.inl b3)] [] w := by
  intro n
  induction n with
  | zero => intro b1 b2 b3 w h; rw [x_O_fill_20] at h; cases h
  | succ n ih =>
    intro b1 b2 b3 w h
    rw [x_O_fill_20] at h
    refine gx_iload_n hX (gx_dt dt_mi_x_O_fill 12 rfl) rfl ?_
    refine gx_iload_n hX (gx_dt dt_mi_x_O_fill 13 rfl) rfl ?_
    refine gx_ic_ge hX (tgt := 89) (gx_dt dt_mi_x_O_fill 14 rfl) (by decide) (fun c1 => ?_) (fun c1 => ?_)
    · have h := gx_ifp c1 h
      exact gx_weak (gx_leS (gx_leS (gx_leS gx_le0))) (t_x_O_fill_89 hX hres hwr hK13 _ _ _ h)
    · have h := gx_ifn c1 h
      refine gx_aload_n hX (gx_dt dt_mi_x_O_fill 15 rfl) rfl ?_
      refine gx_getr hX fl_O_9 sh_x_35 rfl (gx_dt dt_mi_x_O_fill 16 rfl) ?_
      refine gx_iload_n hX (gx_dt dt_mi_x_O_fill 17 rfl) rfl ?_
      refine gx_iload_n hX (gx_dt dt_mi_x_O_fill 18 rfl) rfl ?_
      obtain ⟨r2, e_r2, h⟩ := gx_bd h
      refine gx_callVi hX (gx_dt dt_mi_x_O_fill 19 rfl) ln_O_34_x_M_topOf mo_x_M_topOf mv_x_M_topOf (gx_rmb rfl) sh_x_22 ⟨_, _, rfl⟩ rfl (k_x_M_topOf e_r2) rfl rfl (Nat.le_of_ble_eq_true rfl) ?_
      refine gx_istore hX (ls' := [some (.inr 35), some (.inl b1), some (.inl b2), some (.inl b3), some (.inl (r2.1))]) (gx_dt dt_mi_x_O_fill 20 rfl) (by decide) rfl ?_
      refine gx_aload_n hX (gx_dt dt_mi_x_O_fill 21 rfl) rfl ?_
      refine gx_getr hX fl_O_9 sh_x_35 rfl (gx_dt dt_mi_x_O_fill 22 rfl) ?_
      refine gx_iload_n hX (gx_dt dt_mi_x_O_fill 23 rfl) rfl ?_
      refine gx_iload hX (gx_dt dt_mi_x_O_fill 24 rfl) rfl ?_
      obtain ⟨r3, e_r3, h⟩ := gx_bd h
      refine gx_callVi hX (gx_dt dt_mi_x_O_fill 25 rfl) ln_O_38_x_M_canBear mo_x_M_canBear mv_x_M_canBear (gx_rmb rfl) sh_x_22 ⟨_, _, rfl⟩ rfl (k_x_M_canBear e_r3) rfl rfl (Nat.le_of_ble_eq_true rfl) ?_
      refine gx_if_eq hX (tgt := 64) (gx_dt dt_mi_x_O_fill 26 rfl) (by decide) (fun c4 => ?_) (fun c4 => ?_)
      · have h := gx_ifp c4 h
        refine gx_iconst hX (v := (-1)) (gx_dt dt_mi_x_O_fill 35 rfl) (by decide) ?_
        exact gx_weak (gx_leS (gx_leS (gx_leS (gx_leS gx_le0)))) (t_x_O_fill_65 hX hres hwr hK13 ih _ _ _ _ _ h)
      · have h := gx_ifn c4 h
        refine gx_iconst hX (v := 2) (gx_dt dt_mi_x_O_fill 27 rfl) (by decide) ?_
        refine gx_aload_n hX (gx_dt dt_mi_x_O_fill 28 rfl) rfl ?_
        refine gx_getr hX fl_O_9 sh_x_35 rfl (gx_dt dt_mi_x_O_fill 29 rfl) ?_
        refine gx_iload_n hX (gx_dt dt_mi_x_O_fill 30 rfl) rfl ?_
        refine gx_iload hX (gx_dt dt_mi_x_O_fill 31 rfl) rfl ?_
        obtain ⟨r5, e_r5, h⟩ := gx_bd h
        refine gx_callVi hX (gx_dt dt_mi_x_O_fill 32 rfl) ln_O_42_x_M_mightOf mo_x_M_mightOf mv_x_M_mightOf (gx_rmb rfl) sh_x_22 ⟨_, _, rfl⟩ rfl (k_x_M_mightOf e_r5) rfl rfl (Nat.le_of_ble_eq_true rfl) ?_
        refine gx_imul hX (gx_dt dt_mi_x_O_fill 33 rfl) ?_
        refine gx_goto hX (tgt := 65) (gx_dt dt_mi_x_O_fill 34 rfl) (by decide) ?_
        exact gx_weak (gx_leS (gx_leS (gx_leS (gx_leS gx_le0)))) (t_x_O_fill_65 hX hres hwr hK13 ih _ _ _ _ _ h)
theorem t_x_O_fill_13 {X : gx_X} (hX : gx_Ok X mi_x_O_fill) {R : gx_Wd} (hres : gx_res X = none) (hwr : gx_wr X = R) : ∀ (n : Nat) (b1 : Int32) (b2 : Int32) (w : gx_Wd), x_O_fill_13 n b1 b2 w = some R → gx_G X mi_x_O_fill 13 [some (.inr 35), some (.inl b1), some (.inl b2)] [] w := by
  intro n
  induction n with
  | zero => intro b1 b2 w h; rw [x_O_fill_13] at h; cases h
  | succ n ih =>
    intro b1 b2 w h
    rw [x_O_fill_13] at h
    refine gx_iload_n hX (gx_dt dt_mi_x_O_fill 7 rfl) rfl ?_
    refine gx_iload_n hX (gx_dt dt_mi_x_O_fill 8 rfl) rfl ?_
    refine gx_ic_ge hX (tgt := 95) (gx_dt dt_mi_x_O_fill 9 rfl) (by decide) (fun c1 => ?_) (fun c1 => ?_)
    · have h := gx_ifp c1 h
      exact gx_weak (gx_leS (gx_leS gx_le0)) (t_x_O_fill_95 hX hres hwr _ _ h)
    · have h := gx_ifn c1 h
      refine gx_iconst hX (v := 0) (gx_dt dt_mi_x_O_fill 10 rfl) (by decide) ?_
      refine gx_istore_n hX (ls' := [some (.inr 35), some (.inl b1), some (.inl b2), some (.inl (0))]) (gx_dt dt_mi_x_O_fill 11 rfl) (by decide) rfl ?_
      exact gx_weak (gx_leS (gx_leS (gx_leS (gx_leS gx_le0)))) (t_x_O_fill_20 hX hres hwr ih _ _ _ _ _ h)
theorem k_x_O_fill {w : gx_Wd} {R : gx_Wd} (h : x_O_fill w = some R) : gx_MT mi_x_O_fill [.inr 35] w none R := by
  refine gx_met (by decide +kernel) (Nat.le_of_ble_eq_true rfl) (fun X hX hres hwr => ?_)
  show gx_G X mi_x_O_fill 0 [some (.inr 35)] [] w
  rw [x_O_fill] at h
  refine gx_aload_n hX (gx_dt dt_mi_x_O_fill 0 rfl) rfl ?_
  refine gx_getr hX fl_O_9 sh_x_35 rfl (gx_dt dt_mi_x_O_fill 1 rfl) ?_
  refine gx_getr hX fl_O_22 sh_x_22 rfl (gx_dt dt_mi_x_O_fill 2 rfl) ?_
  refine gx_geti hX fl_O_28 sh_x_1 rfl (gx_dt dt_mi_x_O_fill 3 rfl) ?_
  refine gx_istore_n hX (ls' := [some (.inr 35), some (.inl (w 1 0))]) (gx_dt dt_mi_x_O_fill 4 rfl) (by decide) rfl ?_
  refine gx_iconst hX (v := 0) (gx_dt dt_mi_x_O_fill 5 rfl) (by decide) ?_
  refine gx_istore_n hX (ls' := [some (.inr 35), some (.inl (w 1 0)), some (.inl (0))]) (gx_dt dt_mi_x_O_fill 6 rfl) (by decide) rfl ?_
  exact gx_weak (gx_leS (gx_leS (gx_leS gx_le0))) (t_x_O_fill_13 hX hres hwr _ _ _ _ h)
-- EachBearsPillar$Orders.leastNext(III)I
def x_O_leastNext_51 (K3 : Int32 → Int32 → Int32 → Int32 → gx_Wd → Option (Int32 × gx_Wd)) (b1 : Int32) (b2 : Int32) (b3 : Int32) (b4 : Int32) (s0 : Int32) (w : gx_Wd) : Option (Int32 × gx_Wd) :=
  if s0 ≤ 0 then
    (some (b4 + 1)).bind fun v2 =>
    K3 b1 b2 b3 v2 w
  else
  some (b4, w)
def x_O_leastNext_3 : Nat → Int32 → Int32 → Int32 → Int32 → gx_Wd → Option (Int32 × gx_Wd)
  | 0, _, _, _, _, _ => none
  | n + 1, b1, b2, b3, b4, w =>
  if w 1 0 ≤ b4 then
    some ((-1), w)
  else
  if b1 = 0 then
    (x_O_spotOf (1 <<< (b4 &&& 31)) b4 0 w).bind fun r4 =>
    (x_E_cell 37 r4.1 r4.2).bind fun r5 =>
    x_O_leastNext_51 (x_O_leastNext_3 n) b1 b2 b3 b4 r5.1 r5.2
  else
    (x_O_waysWith b1 b2 b3 b4 w).bind fun r3 =>
    x_O_leastNext_51 (x_O_leastNext_3 n) b1 b2 b3 b4 r3.1 r3.2
def x_O_leastNext (a1 : Int32) (a2 : Int32) (a3 : Int32) (w : gx_Wd) : Option (Int32 × gx_Wd) :=
  x_O_leastNext_3 6000 a1 a2 a3 0 w
theorem t_x_O_leastNext_51 {X : gx_X} (hX : gx_Ok X mi_x_O_leastNext) {R : Int32 × gx_Wd} (hres : gx_res X = some (.inl R.1)) (hwr : gx_wr X = R.2) {K3 : Int32 → Int32 → Int32 → Int32 → gx_Wd → Option (Int32 × gx_Wd)} (hK3 : ∀ (b1 : Int32) (b2 : Int32) (b3 : Int32) (b4 : Int32) (w : gx_Wd), K3 b1 b2 b3 b4 w = some R → gx_G X mi_x_O_leastNext 3 [some (.inr 35), some (.inl b1), some (.inl b2), some (.inl b3), some (.inl b4)] [] w) (b1 : Int32) (b2 : Int32) (b3 : Int32) (b4 : Int32) (s0 : Int32) (w : gx_Wd) (h : x_O_leastNext_51 K3 b1 b2 b3 b4 s0 w = some R) : gx_G X mi_x_O_leastNext 51 [some (.inr 35), some (.inl b1), some (.inl b2), some (.inl b3), some (.inl b4)] [.inl s0] w := by
  rw [x_O_leastNext_51] at h
  refine gx_istore hX (ls' := [some (.inr 35), some (.inl b1), some (.inl b2), some (.inl b3), some (.inl b4), some (.inl s0)]) (gx_dt dt_mi_x_O_leastNext 26 rfl) (by decide) rfl ?_
  refine gx_iload hX (gx_dt dt_mi_x_O_leastNext 27 rfl) rfl ?_
  refine gx_if_le hX (tgt := 61) (gx_dt dt_mi_x_O_leastNext 28 rfl) (by decide) (fun c1 => ?_) (fun c1 => ?_)
  · have h := gx_ifp c1 h
    obtain ⟨v2, e_v2, h⟩ := gx_bd h
    refine gx_iinc hX (v := v2) (ls' := [some (.inr 35), some (.inl b1), some (.inl b2), some (.inl b3), some (.inl v2), some (.inl s0)]) (gx_dt dt_mi_x_O_leastNext 31 rfl) rfl (gx_ii e_v2 (by decide)) (by decide) rfl ?_
    refine gx_goto hX (tgt := 3) (gx_dt dt_mi_x_O_leastNext 32 rfl) (by decide) ?_
    exact gx_weak (gx_leS (gx_leS (gx_leS (gx_leS (gx_leS gx_le0))))) (hK3 _ _ _ _ _ h)
  · have h := gx_ifn c1 h
    refine gx_iload hX (gx_dt dt_mi_x_O_leastNext 29 rfl) rfl ?_
    obtain rfl := Option.some.inj h
    exact gx_iret hX (gx_dt dt_mi_x_O_leastNext 30 rfl) rfl hres hwr
theorem t_x_O_leastNext_3 {X : gx_X} (hX : gx_Ok X mi_x_O_leastNext) {R : Int32 × gx_Wd} (hres : gx_res X = some (.inl R.1)) (hwr : gx_wr X = R.2) : ∀ (n : Nat) (b1 : Int32) (b2 : Int32) (b3 : Int32) (b4 : Int32) (w : gx_Wd), x_O_leastNext_3 n b1 b2 b3 b4 w = some R → gx_G X mi_x_O_leastNext 3 [some (.inr 35), some (.inl b1), some (.inl b2), some (.inl b3), some (.inl b4)] [] w := by
  intro n
  induction n with
  | zero => intro b1 b2 b3 b4 w h; rw [x_O_leastNext_3] at h; cases h
  | succ n ih =>
    intro b1 b2 b3 b4 w h
    rw [x_O_leastNext_3] at h
    refine gx_iload hX (gx_dt dt_mi_x_O_leastNext 2 rfl) rfl ?_
    refine gx_aload_n hX (gx_dt dt_mi_x_O_leastNext 3 rfl) rfl ?_
    refine gx_getr hX fl_O_9 sh_x_35 rfl (gx_dt dt_mi_x_O_leastNext 4 rfl) ?_
    refine gx_getr hX fl_O_22 sh_x_22 rfl (gx_dt dt_mi_x_O_leastNext 5 rfl) ?_
    refine gx_geti hX fl_O_28 sh_x_1 rfl (gx_dt dt_mi_x_O_leastNext 6 rfl) ?_
    refine gx_ic_ge hX (tgt := 67) (gx_dt dt_mi_x_O_leastNext 7 rfl) (by decide) (fun c1 => ?_) (fun c1 => ?_)
    · have h := gx_ifp c1 h
      refine gx_iconst hX (v := (-1)) (gx_dt dt_mi_x_O_leastNext 33 rfl) (by decide) ?_
      obtain rfl := Option.some.inj h
      exact gx_iret hX (gx_dt dt_mi_x_O_leastNext 34 rfl) rfl hres hwr
    · have h := gx_ifn c1 h
      refine gx_iload_n hX (gx_dt dt_mi_x_O_leastNext 8 rfl) rfl ?_
      refine gx_if_ne hX (tgt := 42) (gx_dt dt_mi_x_O_leastNext 9 rfl) (by decide) (fun c2 => ?_) (fun c2 => ?_)
      · have h := gx_ifn c2 h
        refine gx_aload_n hX (gx_dt dt_mi_x_O_leastNext 20 rfl) rfl ?_
        refine gx_iload_n hX (gx_dt dt_mi_x_O_leastNext 21 rfl) rfl ?_
        refine gx_iload_n hX (gx_dt dt_mi_x_O_leastNext 22 rfl) rfl ?_
        refine gx_iload_n hX (gx_dt dt_mi_x_O_leastNext 23 rfl) rfl ?_
        refine gx_iload hX (gx_dt dt_mi_x_O_leastNext 24 rfl) rfl ?_
        obtain ⟨r3, e_r3, h⟩ := gx_bd h
        refine gx_callVi hX (gx_dt dt_mi_x_O_leastNext 25 rfl) ln_O_70_x_O_waysWith mo_x_O_waysWith mv_x_O_waysWith (gx_rmb rfl) sh_x_35 ⟨_, _, rfl⟩ rfl (k_x_O_waysWith e_r3) rfl rfl (Nat.le_of_ble_eq_true rfl) ?_
        exact gx_weak (gx_leS (gx_leS (gx_leS (gx_leS (gx_leS gx_le0))))) (t_x_O_leastNext_51 hX hres hwr ih _ _ _ _ _ _ h)
      · have h := gx_ifp c2 h
        refine gx_aload_n hX (gx_dt dt_mi_x_O_leastNext 10 rfl) rfl ?_
        refine gx_getr hX fl_O_19 sh_x_35 rfl (gx_dt dt_mi_x_O_leastNext 11 rfl) ?_
        refine gx_iconst hX (v := 1) (gx_dt dt_mi_x_O_leastNext 12 rfl) (by decide) ?_
        refine gx_iload hX (gx_dt dt_mi_x_O_leastNext 13 rfl) rfl ?_
        refine gx_ishl hX (gx_dt dt_mi_x_O_leastNext 14 rfl) ?_
        refine gx_iload hX (gx_dt dt_mi_x_O_leastNext 15 rfl) rfl ?_
        refine gx_iconst hX (v := 0) (gx_dt dt_mi_x_O_leastNext 16 rfl) (by decide) ?_
        obtain ⟨r4, e_r4, h⟩ := gx_bd h
        refine gx_callSi hX (gx_dt dt_mi_x_O_leastNext 17 rfl) ln_O_49_x_O_spotOf mo_x_O_spotOf ms_x_O_spotOf (gx_rmb rfl) rfl (k_x_O_spotOf e_r4) rfl rfl (Nat.le_of_ble_eq_true rfl) ?_
        obtain ⟨r5, e_r5, h⟩ := gx_bd h
        refine gx_callSi hX (gx_dt dt_mi_x_O_leastNext 18 rfl) ln_O_56_x_E_cell mo_x_E_cell ms_x_E_cell (gx_rmb rfl) rfl (k_x_E_cell e_r5) rfl rfl (Nat.le_of_ble_eq_true rfl) ?_
        refine gx_goto hX (tgt := 51) (gx_dt dt_mi_x_O_leastNext 19 rfl) (by decide) ?_
        exact gx_weak (gx_leS (gx_leS (gx_leS (gx_leS (gx_leS gx_le0))))) (t_x_O_leastNext_51 hX hres hwr ih _ _ _ _ _ _ h)
theorem k_x_O_leastNext {a1 : Int32} {a2 : Int32} {a3 : Int32} {w : gx_Wd} {R : Int32 × gx_Wd} (h : x_O_leastNext a1 a2 a3 w = some R) : gx_MT mi_x_O_leastNext [.inr 35, .inl a1, .inl a2, .inl a3] w (some (.inl R.1)) R.2 := by
  refine gx_met (by decide +kernel) (Nat.le_of_ble_eq_true rfl) (fun X hX hres hwr => ?_)
  show gx_G X mi_x_O_leastNext 0 [some (.inr 35), some (.inl a1), some (.inl a2), some (.inl a3)] [] w
  rw [x_O_leastNext] at h
  refine gx_iconst hX (v := 0) (gx_dt dt_mi_x_O_leastNext 0 rfl) (by decide) ?_
  refine gx_istore hX (ls' := [some (.inr 35), some (.inl a1), some (.inl a2), some (.inl a3), some (.inl (0))]) (gx_dt dt_mi_x_O_leastNext 1 rfl) (by decide) rfl ?_
  exact gx_weak (gx_leS (gx_leS (gx_leS (gx_leS (gx_leS gx_le0))))) (t_x_O_leastNext_3 hX hres hwr _ _ _ _ _ _ h)
-- EachBearsPillar$Orders.firstUnder(I)I
def x_O_firstUnder_71 (K10 : Int32 → Int32 → Int32 → Int32 → Int32 → gx_Wd → Option (Int32 × gx_Wd)) (b1 : Int32) (b2 : Int32) (b5 : Int32) (b6 : Int32) (s0 : Int32) (w : gx_Wd) : Option (Int32 × gx_Wd) :=
  (some (b2 ||| (1 <<< (b6 &&& 31)))).bind fun v1 =>
  (some (b5 + 1)).bind fun v2 =>
  K10 b1 v1 b6 s0 v2 w
def x_O_firstUnder_10 : Nat → Int32 → Int32 → Int32 → Int32 → Int32 → gx_Wd → Option (Int32 × gx_Wd)
  | 0, _, _, _, _, _, _ => none
  | n + 1, b1, b2, b3, b4, b5, w =>
  if b1 < b5 then
    some (b3, w)
  else
  if w 1 0 ≤ b5 then
    some (b3, w)
  else
  (x_O_leastNext b2 b3 b4 w).bind fun r3 =>
  if 0 ≤ r3.1 then
    if b5 ≤ 0 then
      x_O_firstUnder_71 (x_O_firstUnder_10 n) b1 b2 b5 r3.1 0 r3.2
    else
    (x_O_mostOf b3 (b5 - 1) r3.2).bind fun r6 =>
    if r6.1 < 0 then
      x_O_firstUnder_71 (x_O_firstUnder_10 n) b1 b2 b5 r3.1 0 r6.2
    else
    x_O_firstUnder_71 (x_O_firstUnder_10 n) b1 b2 b5 r3.1 1 r6.2
  else
  some ((-9), r3.2)
def x_O_firstUnder (a1 : Int32) (w : gx_Wd) : Option (Int32 × gx_Wd) :=
  x_O_firstUnder_10 6000 a1 0 (-1) 0 0 w
theorem t_x_O_firstUnder_71 {X : gx_X} (hX : gx_Ok X mi_x_O_firstUnder) {R : Int32 × gx_Wd} (hres : gx_res X = some (.inl R.1)) (hwr : gx_wr X = R.2) {K10 : Int32 → Int32 → Int32 → Int32 → Int32 → gx_Wd → Option (Int32 × gx_Wd)} (hK10 : ∀ (b1 : Int32) (b2 : Int32) (b3 : Int32) (b4 : Int32) (b5 : Int32) (w : gx_Wd), K10 b1 b2 b3 b4 b5 w = some R → gx_G X mi_x_O_firstUnder 10 [some (.inr 35), some (.inl b1), some (.inl b2), some (.inl b3), some (.inl b4), some (.inl b5)] [] w) (b1 : Int32) (b2 : Int32) (b5 : Int32) (b6 : Int32) (s0 : Int32) (w : gx_Wd) (h : x_O_firstUnder_71 K10 b1 b2 b5 b6 s0 w = some R) : gx_G X mi_x_O_firstUnder 71 [some (.inr 35), some (.inl b1), some (.inl b2), none, none, some (.inl b5), some (.inl b6)] [.inl s0] w := by
  rw [x_O_firstUnder_71] at h
  refine gx_istore hX (ls' := [some (.inr 35), some (.inl b1), some (.inl b2), none, some (.inl s0), some (.inl b5), some (.inl b6)]) (gx_dt dt_mi_x_O_firstUnder 39 rfl) (by decide) rfl ?_
  refine gx_iload_n hX (gx_dt dt_mi_x_O_firstUnder 40 rfl) rfl ?_
  refine gx_iconst hX (v := 1) (gx_dt dt_mi_x_O_firstUnder 41 rfl) (by decide) ?_
  refine gx_iload hX (gx_dt dt_mi_x_O_firstUnder 42 rfl) rfl ?_
  refine gx_ishl hX (gx_dt dt_mi_x_O_firstUnder 43 rfl) ?_
  refine gx_ior hX (gx_dt dt_mi_x_O_firstUnder 44 rfl) ?_
  obtain ⟨v1, e_v1, h⟩ := gx_bd h
  refine gx_top e_v1 ?_
  refine gx_istore_n hX (ls' := [some (.inr 35), some (.inl b1), some (.inl v1), none, some (.inl s0), some (.inl b5), some (.inl b6)]) (gx_dt dt_mi_x_O_firstUnder 45 rfl) (by decide) rfl ?_
  refine gx_iload hX (gx_dt dt_mi_x_O_firstUnder 46 rfl) rfl ?_
  refine gx_istore_n hX (ls' := [some (.inr 35), some (.inl b1), some (.inl v1), some (.inl b6), some (.inl s0), some (.inl b5), some (.inl b6)]) (gx_dt dt_mi_x_O_firstUnder 47 rfl) (by decide) rfl ?_
  obtain ⟨v2, e_v2, h⟩ := gx_bd h
  refine gx_iinc hX (v := v2) (ls' := [some (.inr 35), some (.inl b1), some (.inl v1), some (.inl b6), some (.inl s0), some (.inl v2), some (.inl b6)]) (gx_dt dt_mi_x_O_firstUnder 48 rfl) rfl (gx_ii e_v2 (by decide)) (by decide) rfl ?_
  refine gx_goto hX (tgt := 10) (gx_dt dt_mi_x_O_firstUnder 49 rfl) (by decide) ?_
  exact gx_weak (gx_leS (gx_leS (gx_leS (gx_leS (gx_leS (gx_leS gx_le0)))))) (hK10 _ _ _ _ _ _ h)
theorem t_x_O_firstUnder_10 {X : gx_X} (hX : gx_Ok X mi_x_O_firstUnder) {R : Int32 × gx_Wd} (hres : gx_res X = some (.inl R.1)) (hwr : gx_wr X = R.2) : ∀ (n : Nat) (b1 : Int32) (b2 : Int32) (b3 : Int32) (b4 : Int32) (b5 : Int32) (w : gx_Wd), x_O_firstUnder_10 n b1 b2 b3 b4 b5 w = some R → gx_G X mi_x_O_firstUnder 10 [some (.inr 35), some (.inl b1), some (.inl b2), some (.inl b3), some (.inl b4), some (.inl b5)] [] w := by
  intro n
  induction n with
  | zero => intro b1 b2 b3 b4 b5 w h; rw [x_O_firstUnder_10] at h; cases h
  | succ n ih =>
    intro b1 b2 b3 b4 b5 w h
    rw [x_O_firstUnder_10] at h
    refine gx_iload hX (gx_dt dt_mi_x_O_firstUnder 8 rfl) rfl ?_
    refine gx_iload_n hX (gx_dt dt_mi_x_O_firstUnder 9 rfl) rfl ?_
    refine gx_ic_gt hX (tgt := 89) (gx_dt dt_mi_x_O_firstUnder 10 rfl) (by decide) (fun c1 => ?_) (fun c1 => ?_)
    · have h := gx_ifp c1 h
      refine gx_iload_n hX (gx_dt dt_mi_x_O_firstUnder 50 rfl) rfl ?_
      obtain rfl := Option.some.inj h
      exact gx_iret hX (gx_dt dt_mi_x_O_firstUnder 51 rfl) rfl hres hwr
    · have h := gx_ifn c1 h
      refine gx_iload hX (gx_dt dt_mi_x_O_firstUnder 11 rfl) rfl ?_
      refine gx_aload_n hX (gx_dt dt_mi_x_O_firstUnder 12 rfl) rfl ?_
      refine gx_getr hX fl_O_9 sh_x_35 rfl (gx_dt dt_mi_x_O_firstUnder 13 rfl) ?_
      refine gx_getr hX fl_O_22 sh_x_22 rfl (gx_dt dt_mi_x_O_firstUnder 14 rfl) ?_
      refine gx_geti hX fl_O_28 sh_x_1 rfl (gx_dt dt_mi_x_O_firstUnder 15 rfl) ?_
      refine gx_ic_ge hX (tgt := 89) (gx_dt dt_mi_x_O_firstUnder 16 rfl) (by decide) (fun c2 => ?_) (fun c2 => ?_)
      · have h := gx_ifp c2 h
        refine gx_iload_n hX (gx_dt dt_mi_x_O_firstUnder 50 rfl) rfl ?_
        obtain rfl := Option.some.inj h
        exact gx_iret hX (gx_dt dt_mi_x_O_firstUnder 51 rfl) rfl hres hwr
      · have h := gx_ifn c2 h
        refine gx_aload_n hX (gx_dt dt_mi_x_O_firstUnder 17 rfl) rfl ?_
        refine gx_iload_n hX (gx_dt dt_mi_x_O_firstUnder 18 rfl) rfl ?_
        refine gx_iload_n hX (gx_dt dt_mi_x_O_firstUnder 19 rfl) rfl ?_
        refine gx_iload hX (gx_dt dt_mi_x_O_firstUnder 20 rfl) rfl ?_
        obtain ⟨r3, e_r3, h⟩ := gx_bd h
        refine gx_callVi hX (gx_dt dt_mi_x_O_firstUnder 21 rfl) ln_O_80_x_O_leastNext mo_x_O_leastNext mv_x_O_leastNext (gx_rmb rfl) sh_x_35 ⟨_, _, rfl⟩ rfl (k_x_O_leastNext e_r3) rfl rfl (Nat.le_of_ble_eq_true rfl) ?_
        refine gx_istore hX (ls' := [some (.inr 35), some (.inl b1), some (.inl b2), some (.inl b3), some (.inl b4), some (.inl b5), some (.inl (r3.1))]) (gx_dt dt_mi_x_O_firstUnder 22 rfl) (by decide) rfl ?_
        refine gx_iload hX (gx_dt dt_mi_x_O_firstUnder 23 rfl) rfl ?_
        refine gx_if_ge hX (tgt := 49) (gx_dt dt_mi_x_O_firstUnder 24 rfl) (by decide) (fun c4 => ?_) (fun c4 => ?_)
        · have h := gx_ifp c4 h
          refine gx_iload hX (gx_dt dt_mi_x_O_firstUnder 27 rfl) rfl ?_
          refine gx_if_le hX (tgt := 70) (gx_dt dt_mi_x_O_firstUnder 28 rfl) (by decide) (fun c5 => ?_) (fun c5 => ?_)
          · have h := gx_ifp c5 h
            refine gx_iconst hX (v := 0) (gx_dt dt_mi_x_O_firstUnder 38 rfl) (by decide) ?_
            exact gx_weak (gx_leS (gx_leS (gx_leS (gx_leN (gx_leN (gx_leS (gx_leS gx_le0))))))) (t_x_O_firstUnder_71 hX hres hwr ih _ _ _ _ _ _ h)
          · have h := gx_ifn c5 h
            refine gx_aload_n hX (gx_dt dt_mi_x_O_firstUnder 29 rfl) rfl ?_
            refine gx_iload_n hX (gx_dt dt_mi_x_O_firstUnder 30 rfl) rfl ?_
            refine gx_iload hX (gx_dt dt_mi_x_O_firstUnder 31 rfl) rfl ?_
            refine gx_iconst hX (v := 1) (gx_dt dt_mi_x_O_firstUnder 32 rfl) (by decide) ?_
            refine gx_isub hX (gx_dt dt_mi_x_O_firstUnder 33 rfl) ?_
            obtain ⟨r6, e_r6, h⟩ := gx_bd h
            refine gx_callVi hX (gx_dt dt_mi_x_O_firstUnder 34 rfl) ln_O_77_x_O_mostOf mo_x_O_mostOf mv_x_O_mostOf (gx_rmb rfl) sh_x_35 ⟨_, _, rfl⟩ rfl (k_x_O_mostOf e_r6) rfl rfl (Nat.le_of_ble_eq_true rfl) ?_
            refine gx_if_lt hX (tgt := 70) (gx_dt dt_mi_x_O_firstUnder 35 rfl) (by decide) (fun c7 => ?_) (fun c7 => ?_)
            · have h := gx_ifp c7 h
              refine gx_iconst hX (v := 0) (gx_dt dt_mi_x_O_firstUnder 38 rfl) (by decide) ?_
              exact gx_weak (gx_leS (gx_leS (gx_leS (gx_leN (gx_leN (gx_leS (gx_leS gx_le0))))))) (t_x_O_firstUnder_71 hX hres hwr ih _ _ _ _ _ _ h)
            · have h := gx_ifn c7 h
              refine gx_iconst hX (v := 1) (gx_dt dt_mi_x_O_firstUnder 36 rfl) (by decide) ?_
              refine gx_goto hX (tgt := 71) (gx_dt dt_mi_x_O_firstUnder 37 rfl) (by decide) ?_
              exact gx_weak (gx_leS (gx_leS (gx_leS (gx_leN (gx_leN (gx_leS (gx_leS gx_le0))))))) (t_x_O_firstUnder_71 hX hres hwr ih _ _ _ _ _ _ h)
        · have h := gx_ifn c4 h
          refine gx_bipush hX (v := (-9)) (gx_dt dt_mi_x_O_firstUnder 25 rfl) (by decide) ?_
          obtain rfl := Option.some.inj h
          exact gx_iret hX (gx_dt dt_mi_x_O_firstUnder 26 rfl) rfl hres hwr
theorem k_x_O_firstUnder {a1 : Int32} {w : gx_Wd} {R : Int32 × gx_Wd} (h : x_O_firstUnder a1 w = some R) : gx_MT mi_x_O_firstUnder [.inr 35, .inl a1] w (some (.inl R.1)) R.2 := by
  refine gx_met (by decide +kernel) (Nat.le_of_ble_eq_true rfl) (fun X hX hres hwr => ?_)
  show gx_G X mi_x_O_firstUnder 0 [some (.inr 35), some (.inl a1)] [] w
  rw [x_O_firstUnder] at h
  refine gx_iconst hX (v := 0) (gx_dt dt_mi_x_O_firstUnder 0 rfl) (by decide) ?_
  refine gx_istore_n hX (ls' := [some (.inr 35), some (.inl a1), some (.inl (0))]) (gx_dt dt_mi_x_O_firstUnder 1 rfl) (by decide) rfl ?_
  refine gx_iconst hX (v := (-1)) (gx_dt dt_mi_x_O_firstUnder 2 rfl) (by decide) ?_
  refine gx_istore_n hX (ls' := [some (.inr 35), some (.inl a1), some (.inl (0)), some (.inl ((-1)))]) (gx_dt dt_mi_x_O_firstUnder 3 rfl) (by decide) rfl ?_
  refine gx_iconst hX (v := 0) (gx_dt dt_mi_x_O_firstUnder 4 rfl) (by decide) ?_
  refine gx_istore hX (ls' := [some (.inr 35), some (.inl a1), some (.inl (0)), some (.inl ((-1))), some (.inl (0))]) (gx_dt dt_mi_x_O_firstUnder 5 rfl) (by decide) rfl ?_
  refine gx_iconst hX (v := 0) (gx_dt dt_mi_x_O_firstUnder 6 rfl) (by decide) ?_
  refine gx_istore hX (ls' := [some (.inr 35), some (.inl a1), some (.inl (0)), some (.inl ((-1))), some (.inl (0)), some (.inl (0))]) (gx_dt dt_mi_x_O_firstUnder 7 rfl) (by decide) rfl ?_
  exact gx_weak (gx_leS (gx_leS (gx_leS (gx_leS (gx_leS (gx_leS gx_le0)))))) (t_x_O_firstUnder_10 hX hres hwr _ _ _ _ _ _ _ h)
-- EachBearsPillar$Orders.total()I
def x_O_total_19 : Nat → Int32 → Int32 → gx_Wd → Option (Int32 × gx_Wd)
  | 0, _, _, _ => none
  | n + 1, b1, b2, w =>
  if w 1 0 ≤ b2 then
    some (b1, w)
  else
  (x_O_spotOf (1 <<< (b2 &&& 31)) b2 0 w).bind fun r2 =>
  (x_E_cell 37 r2.1 r2.2).bind fun r3 =>
  (some (b1 + r3.1)).bind fun v4 =>
  (some (b2 + 1)).bind fun v5 =>
  (x_O_total_19 n) v4 v5 r3.2
def x_O_total (w : gx_Wd) : Option (Int32 × gx_Wd) :=
  if w 1 0 = 0 then
    some (1, w)
  else
    x_O_total_19 6000 0 0 w
theorem t_x_O_total_19 {X : gx_X} (hX : gx_Ok X mi_x_O_total) {R : Int32 × gx_Wd} (hres : gx_res X = some (.inl R.1)) (hwr : gx_wr X = R.2) : ∀ (n : Nat) (b1 : Int32) (b2 : Int32) (w : gx_Wd), x_O_total_19 n b1 b2 w = some R → gx_G X mi_x_O_total 19 [some (.inr 35), some (.inl b1), some (.inl b2)] [] w := by
  intro n
  induction n with
  | zero => intro b1 b2 w h; rw [x_O_total_19] at h; cases h
  | succ n ih =>
    intro b1 b2 w h
    rw [x_O_total_19] at h
    refine gx_iload_n hX (gx_dt dt_mi_x_O_total 11 rfl) rfl ?_
    refine gx_aload_n hX (gx_dt dt_mi_x_O_total 12 rfl) rfl ?_
    refine gx_getr hX fl_O_9 sh_x_35 rfl (gx_dt dt_mi_x_O_total 13 rfl) ?_
    refine gx_getr hX fl_O_22 sh_x_22 rfl (gx_dt dt_mi_x_O_total 14 rfl) ?_
    refine gx_geti hX fl_O_28 sh_x_1 rfl (gx_dt dt_mi_x_O_total 15 rfl) ?_
    refine gx_ic_ge hX (tgt := 57) (gx_dt dt_mi_x_O_total 16 rfl) (by decide) (fun c1 => ?_) (fun c1 => ?_)
    · have h := gx_ifp c1 h
      refine gx_iload_n hX (gx_dt dt_mi_x_O_total 31 rfl) rfl ?_
      obtain rfl := Option.some.inj h
      exact gx_iret hX (gx_dt dt_mi_x_O_total 32 rfl) rfl hres hwr
    · have h := gx_ifn c1 h
      refine gx_iload_n hX (gx_dt dt_mi_x_O_total 17 rfl) rfl ?_
      refine gx_aload_n hX (gx_dt dt_mi_x_O_total 18 rfl) rfl ?_
      refine gx_getr hX fl_O_19 sh_x_35 rfl (gx_dt dt_mi_x_O_total 19 rfl) ?_
      refine gx_iconst hX (v := 1) (gx_dt dt_mi_x_O_total 20 rfl) (by decide) ?_
      refine gx_iload_n hX (gx_dt dt_mi_x_O_total 21 rfl) rfl ?_
      refine gx_ishl hX (gx_dt dt_mi_x_O_total 22 rfl) ?_
      refine gx_iload_n hX (gx_dt dt_mi_x_O_total 23 rfl) rfl ?_
      refine gx_iconst hX (v := 0) (gx_dt dt_mi_x_O_total 24 rfl) (by decide) ?_
      obtain ⟨r2, e_r2, h⟩ := gx_bd h
      refine gx_callSi hX (gx_dt dt_mi_x_O_total 25 rfl) ln_O_49_x_O_spotOf mo_x_O_spotOf ms_x_O_spotOf (gx_rmb rfl) rfl (k_x_O_spotOf e_r2) rfl rfl (Nat.le_of_ble_eq_true rfl) ?_
      obtain ⟨r3, e_r3, h⟩ := gx_bd h
      refine gx_callSi hX (gx_dt dt_mi_x_O_total 26 rfl) ln_O_56_x_E_cell mo_x_E_cell ms_x_E_cell (gx_rmb rfl) rfl (k_x_E_cell e_r3) rfl rfl (Nat.le_of_ble_eq_true rfl) ?_
      refine gx_iadd hX (gx_dt dt_mi_x_O_total 27 rfl) ?_
      obtain ⟨v4, e_v4, h⟩ := gx_bd h
      refine gx_top e_v4 ?_
      refine gx_istore_n hX (ls' := [some (.inr 35), some (.inl v4), some (.inl b2)]) (gx_dt dt_mi_x_O_total 28 rfl) (by decide) rfl ?_
      obtain ⟨v5, e_v5, h⟩ := gx_bd h
      refine gx_iinc hX (v := v5) (ls' := [some (.inr 35), some (.inl v4), some (.inl v5)]) (gx_dt dt_mi_x_O_total 29 rfl) rfl (gx_ii e_v5 (by decide)) (by decide) rfl ?_
      refine gx_goto hX (tgt := 19) (gx_dt dt_mi_x_O_total 30 rfl) (by decide) ?_
      exact gx_weak (gx_leS (gx_leS (gx_leS gx_le0))) (ih _ _ _ h)
theorem k_x_O_total {w : gx_Wd} {R : Int32 × gx_Wd} (h : x_O_total w = some R) : gx_MT mi_x_O_total [.inr 35] w (some (.inl R.1)) R.2 := by
  refine gx_met (by decide +kernel) (Nat.le_of_ble_eq_true rfl) (fun X hX hres hwr => ?_)
  show gx_G X mi_x_O_total 0 [some (.inr 35)] [] w
  rw [x_O_total] at h
  refine gx_aload_n hX (gx_dt dt_mi_x_O_total 0 rfl) rfl ?_
  refine gx_getr hX fl_O_9 sh_x_35 rfl (gx_dt dt_mi_x_O_total 1 rfl) ?_
  refine gx_getr hX fl_O_22 sh_x_22 rfl (gx_dt dt_mi_x_O_total 2 rfl) ?_
  refine gx_geti hX fl_O_28 sh_x_1 rfl (gx_dt dt_mi_x_O_total 3 rfl) ?_
  refine gx_if_ne hX (tgt := 15) (gx_dt dt_mi_x_O_total 4 rfl) (by decide) (fun c1 => ?_) (fun c1 => ?_)
  · have h := gx_ifn c1 h
    refine gx_iconst hX (v := 0) (gx_dt dt_mi_x_O_total 7 rfl) (by decide) ?_
    refine gx_istore_n hX (ls' := [some (.inr 35), some (.inl (0))]) (gx_dt dt_mi_x_O_total 8 rfl) (by decide) rfl ?_
    refine gx_iconst hX (v := 0) (gx_dt dt_mi_x_O_total 9 rfl) (by decide) ?_
    refine gx_istore_n hX (ls' := [some (.inr 35), some (.inl (0)), some (.inl (0))]) (gx_dt dt_mi_x_O_total 10 rfl) (by decide) rfl ?_
    exact gx_weak (gx_leS (gx_leS (gx_leS gx_le0))) (t_x_O_total_19 hX hres hwr _ _ _ _ h)
  · have h := gx_ifp c1 h
    refine gx_iconst hX (v := 1) (gx_dt dt_mi_x_O_total 5 rfl) (by decide) ?_
    obtain rfl := Option.some.inj h
    exact gx_iret hX (gx_dt dt_mi_x_O_total 6 rfl) rfl hres hwr
-- EachBearsPillar.orders(I)I
def x_E_orders (a1 : Int32) (w : gx_Wd) : Option (Int32 × gx_Wd) :=
  if a1 < (-1) then
    (x_E_refuse (-1) w).bind fun r2 =>
    some (r2.1, r2.2)
  else
  if a1 < w 1 0 then
    (x_M_asTold w).bind fun r4 =>
    (x_O_fill r4).bind fun r5 =>
    if a1 = (-1) then
      (x_O_total r5).bind fun r8 =>
      some (r8.1, r8.2)
    else
      (x_O_firstUnder a1 r5).bind fun r7 =>
      some (r7.1, r7.2)
  else
  (x_E_refuse (-1) w).bind fun r9 =>
  some (r9.1, r9.2)
theorem k_x_E_orders {a1 : Int32} {w : gx_Wd} {R : Int32 × gx_Wd} (h : x_E_orders a1 w = some R) : gx_MT mi_x_E_orders [.inr 0, .inl a1] w (some (.inl R.1)) R.2 := by
  refine gx_met (by decide +kernel) (Nat.le_of_ble_eq_true rfl) (fun X hX hres hwr => ?_)
  show gx_G X mi_x_E_orders 0 [some (.inr 0), some (.inl a1)] [] w
  rw [x_E_orders] at h
  refine gx_iload_n hX (gx_dt dt_mi_x_E_orders 0 rfl) rfl ?_
  refine gx_iconst hX (v := (-1)) (gx_dt dt_mi_x_E_orders 1 rfl) (by decide) ?_
  refine gx_ic_lt hX (tgt := 16) (gx_dt dt_mi_x_E_orders 2 rfl) (by decide) (fun c1 => ?_) (fun c1 => ?_)
  · have h := gx_ifp c1 h
    refine gx_aload_n hX (gx_dt dt_mi_x_E_orders 8 rfl) rfl ?_
    refine gx_iconst hX (v := (-1)) (gx_dt dt_mi_x_E_orders 9 rfl) (by decide) ?_
    obtain ⟨r2, e_r2, h⟩ := gx_bd h
    refine gx_callVi hX (gx_dt dt_mi_x_E_orders 10 rfl) ln_E_69_x_E_refuse mo_x_E_refuse mv_x_E_refuse (gx_rmb rfl) sh_x_0 ⟨_, _, rfl⟩ rfl (k_x_E_refuse e_r2) rfl rfl (Nat.le_of_ble_eq_true rfl) ?_
    obtain rfl := Option.some.inj h
    exact gx_iret hX (gx_dt dt_mi_x_E_orders 11 rfl) rfl hres hwr
  · have h := gx_ifn c1 h
    refine gx_iload_n hX (gx_dt dt_mi_x_E_orders 3 rfl) rfl ?_
    refine gx_aload_n hX (gx_dt dt_mi_x_E_orders 4 rfl) rfl ?_
    refine gx_getr hX fl_E_10 sh_x_0 rfl (gx_dt dt_mi_x_E_orders 5 rfl) ?_
    refine gx_geti hX fl_E_158 sh_x_1 rfl (gx_dt dt_mi_x_E_orders 6 rfl) ?_
    refine gx_ic_lt hX (tgt := 22) (gx_dt dt_mi_x_E_orders 7 rfl) (by decide) (fun c3 => ?_) (fun c3 => ?_)
    · have h := gx_ifp c3 h
      refine gx_aload_n hX (gx_dt dt_mi_x_E_orders 12 rfl) rfl ?_
      refine gx_getr hX fl_E_31 sh_x_0 rfl (gx_dt dt_mi_x_E_orders 13 rfl) ?_
      obtain ⟨r4, e_r4, h⟩ := gx_bd h
      refine gx_callVv hX (gx_dt dt_mi_x_E_orders 14 rfl) ln_E_115_x_M_asTold mo_x_M_asTold mv_x_M_asTold (gx_rmb rfl) sh_x_22 ⟨_, _, rfl⟩ rfl (k_x_M_asTold e_r4) rfl rfl (Nat.le_of_ble_eq_true rfl) ?_
      refine gx_aload_n hX (gx_dt dt_mi_x_E_orders 15 rfl) rfl ?_
      refine gx_getr hX fl_E_54 sh_x_0 rfl (gx_dt dt_mi_x_E_orders 16 rfl) ?_
      obtain ⟨r5, e_r5, h⟩ := gx_bd h
      refine gx_callVv hX (gx_dt dt_mi_x_E_orders 17 rfl) ln_E_178_x_O_fill mo_x_O_fill mv_x_O_fill (gx_rmb rfl) sh_x_35 ⟨_, _, rfl⟩ rfl (k_x_O_fill e_r5) rfl rfl (Nat.le_of_ble_eq_true rfl) ?_
      refine gx_iload_n hX (gx_dt dt_mi_x_E_orders 18 rfl) rfl ?_
      refine gx_iconst hX (v := (-1)) (gx_dt dt_mi_x_E_orders 19 rfl) (by decide) ?_
      refine gx_ic_ne hX (tgt := 51) (gx_dt dt_mi_x_E_orders 20 rfl) (by decide) (fun c6 => ?_) (fun c6 => ?_)
      · have h := gx_ifn c6 h
        refine gx_aload_n hX (gx_dt dt_mi_x_E_orders 25 rfl) rfl ?_
        refine gx_getr hX fl_E_54 sh_x_0 rfl (gx_dt dt_mi_x_E_orders 26 rfl) ?_
        refine gx_iload_n hX (gx_dt dt_mi_x_E_orders 27 rfl) rfl ?_
        obtain ⟨r7, e_r7, h⟩ := gx_bd h
        refine gx_callVi hX (gx_dt dt_mi_x_E_orders 28 rfl) ln_E_184_x_O_firstUnder mo_x_O_firstUnder mv_x_O_firstUnder (gx_rmb rfl) sh_x_35 ⟨_, _, rfl⟩ rfl (k_x_O_firstUnder e_r7) rfl rfl (Nat.le_of_ble_eq_true rfl) ?_
        obtain rfl := Option.some.inj h
        exact gx_iret hX (gx_dt dt_mi_x_E_orders 29 rfl) rfl hres hwr
      · have h := gx_ifp c6 h
        refine gx_aload_n hX (gx_dt dt_mi_x_E_orders 21 rfl) rfl ?_
        refine gx_getr hX fl_E_54 sh_x_0 rfl (gx_dt dt_mi_x_E_orders 22 rfl) ?_
        obtain ⟨r8, e_r8, h⟩ := gx_bd h
        refine gx_callVi hX (gx_dt dt_mi_x_E_orders 23 rfl) ln_E_181_x_O_total mo_x_O_total mv_x_O_total (gx_rmb rfl) sh_x_35 ⟨_, _, rfl⟩ rfl (k_x_O_total e_r8) rfl rfl (Nat.le_of_ble_eq_true rfl) ?_
        refine gx_goto hX (tgt := 59) (gx_dt dt_mi_x_E_orders 24 rfl) (by decide) ?_
        obtain rfl := Option.some.inj h
        exact gx_iret hX (gx_dt dt_mi_x_E_orders 29 rfl) rfl hres hwr
    · have h := gx_ifn c3 h
      refine gx_aload_n hX (gx_dt dt_mi_x_E_orders 8 rfl) rfl ?_
      refine gx_iconst hX (v := (-1)) (gx_dt dt_mi_x_E_orders 9 rfl) (by decide) ?_
      obtain ⟨r9, e_r9, h⟩ := gx_bd h
      refine gx_callVi hX (gx_dt dt_mi_x_E_orders 10 rfl) ln_E_69_x_E_refuse mo_x_E_refuse mv_x_E_refuse (gx_rmb rfl) sh_x_0 ⟨_, _, rfl⟩ rfl (k_x_E_refuse e_r9) rfl rfl (Nat.le_of_ble_eq_true rfl) ?_
      obtain rfl := Option.some.inj h
      exact gx_iret hX (gx_dt dt_mi_x_E_orders 11 rfl) rfl hres hwr
end
section
-- EachBearsPillar.needed()I
def x_E_needed_60 (K23 : Int32 → Int32 → gx_Wd → Option (Int32 × gx_Wd)) (b1 : Int32) (b2 : Int32) (w : gx_Wd) : Option (Int32 × gx_Wd) :=
  (some (b2 + 1)).bind fun v1 =>
  K23 b1 v1 w
def x_E_needed_23 : Nat → Int32 → Int32 → gx_Wd → Option (Int32 × gx_Wd)
  | 0, _, _, _ => none
  | n + 1, b1, b2, w =>
  if w 1 0 ≤ b2 then
    some (b1, w)
  else
  (gx_put w 22 3 (1 <<< (b2 &&& 31))).bind fun w2 =>
  (x_M_isFirm w2).bind fun r3 =>
  if r3.1 = 0 then
    (some (b1 ||| (1 <<< (b2 &&& 31)))).bind fun v5 =>
    x_E_needed_60 (x_E_needed_23 n) v5 b2 r3.2
  else
    x_E_needed_60 (x_E_needed_23 n) b1 b2 r3.2
def x_E_needed (w : gx_Wd) : Option (Int32 × gx_Wd) :=
  (x_M_asTold w).bind fun r1 =>
  (x_M_isFirm r1).bind fun r2 =>
  if r2.1 = 0 then
    some (0, r2.2)
  else
    x_E_needed_23 6000 0 0 r2.2
theorem t_x_E_needed_60 {X : gx_X} (hX : gx_Ok X mi_x_E_needed) {R : Int32 × gx_Wd} (hres : gx_res X = some (.inl R.1)) (hwr : gx_wr X = R.2) {K23 : Int32 → Int32 → gx_Wd → Option (Int32 × gx_Wd)} (hK23 : ∀ (b1 : Int32) (b2 : Int32) (w : gx_Wd), K23 b1 b2 w = some R → gx_G X mi_x_E_needed 23 [some (.inr 0), some (.inl b1), some (.inl b2)] [] w) (b1 : Int32) (b2 : Int32) (w : gx_Wd) (h : x_E_needed_60 K23 b1 b2 w = some R) : gx_G X mi_x_E_needed 60 [some (.inr 0), some (.inl b1), some (.inl b2)] [] w := by
  rw [x_E_needed_60] at h
  obtain ⟨v1, e_v1, h⟩ := gx_bd h
  refine gx_iinc hX (v := v1) (ls' := [some (.inr 0), some (.inl b1), some (.inl v1)]) (gx_dt dt_mi_x_E_needed 34 rfl) rfl (gx_ii e_v1 (by decide)) (by decide) rfl ?_
  refine gx_goto hX (tgt := 23) (gx_dt dt_mi_x_E_needed 35 rfl) (by decide) ?_
  exact gx_weak (gx_leS (gx_leS (gx_leS gx_le0))) (hK23 _ _ _ h)
theorem t_x_E_needed_23 {X : gx_X} (hX : gx_Ok X mi_x_E_needed) {R : Int32 × gx_Wd} (hres : gx_res X = some (.inl R.1)) (hwr : gx_wr X = R.2) : ∀ (n : Nat) (b1 : Int32) (b2 : Int32) (w : gx_Wd), x_E_needed_23 n b1 b2 w = some R → gx_G X mi_x_E_needed 23 [some (.inr 0), some (.inl b1), some (.inl b2)] [] w := by
  intro n
  induction n with
  | zero => intro b1 b2 w h; rw [x_E_needed_23] at h; cases h
  | succ n ih =>
    intro b1 b2 w h
    rw [x_E_needed_23] at h
    refine gx_iload_n hX (gx_dt dt_mi_x_E_needed 13 rfl) rfl ?_
    refine gx_aload_n hX (gx_dt dt_mi_x_E_needed 14 rfl) rfl ?_
    refine gx_getr hX fl_E_10 sh_x_0 rfl (gx_dt dt_mi_x_E_needed 15 rfl) ?_
    refine gx_geti hX fl_E_158 sh_x_1 rfl (gx_dt dt_mi_x_E_needed 16 rfl) ?_
    refine gx_ic_ge hX (tgt := 66) (gx_dt dt_mi_x_E_needed 17 rfl) (by decide) (fun c1 => ?_) (fun c1 => ?_)
    · have h := gx_ifp c1 h
      refine gx_iload_n hX (gx_dt dt_mi_x_E_needed 36 rfl) rfl ?_
      obtain rfl := Option.some.inj h
      exact gx_iret hX (gx_dt dt_mi_x_E_needed 37 rfl) rfl hres hwr
    · have h := gx_ifn c1 h
      refine gx_aload_n hX (gx_dt dt_mi_x_E_needed 18 rfl) rfl ?_
      refine gx_getr hX fl_E_31 sh_x_0 rfl (gx_dt dt_mi_x_E_needed 19 rfl) ?_
      refine gx_iconst hX (v := 1) (gx_dt dt_mi_x_E_needed 20 rfl) (by decide) ?_
      refine gx_iload_n hX (gx_dt dt_mi_x_E_needed 21 rfl) rfl ?_
      refine gx_ishl hX (gx_dt dt_mi_x_E_needed 22 rfl) ?_
      obtain ⟨w2, e_w2, h⟩ := gx_bd h
      refine gx_putp hX fl_E_187 (pf_M_3 _) sh_x_22 rfl e_w2 (gx_dt dt_mi_x_E_needed 23 rfl) ?_
      refine gx_aload_n hX (gx_dt dt_mi_x_E_needed 24 rfl) rfl ?_
      refine gx_getr hX fl_E_31 sh_x_0 rfl (gx_dt dt_mi_x_E_needed 25 rfl) ?_
      obtain ⟨r3, e_r3, h⟩ := gx_bd h
      refine gx_callVi hX (gx_dt dt_mi_x_E_needed 26 rfl) ln_E_148_x_M_isFirm mo_x_M_isFirm mv_x_M_isFirm (gx_rmb rfl) sh_x_22 ⟨_, _, rfl⟩ rfl (k_x_M_isFirm e_r3) rfl rfl (Nat.le_of_ble_eq_true rfl) ?_
      refine gx_if_ne hX (tgt := 60) (gx_dt dt_mi_x_E_needed 27 rfl) (by decide) (fun c4 => ?_) (fun c4 => ?_)
      · have h := gx_ifn c4 h
        exact gx_weak (gx_leS (gx_leS (gx_leS gx_le0))) (t_x_E_needed_60 hX hres hwr ih _ _ _ h)
      · have h := gx_ifp c4 h
        refine gx_iload_n hX (gx_dt dt_mi_x_E_needed 28 rfl) rfl ?_
        refine gx_iconst hX (v := 1) (gx_dt dt_mi_x_E_needed 29 rfl) (by decide) ?_
        refine gx_iload_n hX (gx_dt dt_mi_x_E_needed 30 rfl) rfl ?_
        refine gx_ishl hX (gx_dt dt_mi_x_E_needed 31 rfl) ?_
        refine gx_ior hX (gx_dt dt_mi_x_E_needed 32 rfl) ?_
        obtain ⟨v5, e_v5, h⟩ := gx_bd h
        refine gx_top e_v5 ?_
        refine gx_istore_n hX (ls' := [some (.inr 0), some (.inl v5), some (.inl b2)]) (gx_dt dt_mi_x_E_needed 33 rfl) (by decide) rfl ?_
        exact gx_weak (gx_leS (gx_leS (gx_leS gx_le0))) (t_x_E_needed_60 hX hres hwr ih _ _ _ h)
theorem k_x_E_needed {w : gx_Wd} {R : Int32 × gx_Wd} (h : x_E_needed w = some R) : gx_MT mi_x_E_needed [.inr 0] w (some (.inl R.1)) R.2 := by
  refine gx_met (by decide +kernel) (Nat.le_of_ble_eq_true rfl) (fun X hX hres hwr => ?_)
  show gx_G X mi_x_E_needed 0 [some (.inr 0)] [] w
  rw [x_E_needed] at h
  refine gx_aload_n hX (gx_dt dt_mi_x_E_needed 0 rfl) rfl ?_
  refine gx_getr hX fl_E_31 sh_x_0 rfl (gx_dt dt_mi_x_E_needed 1 rfl) ?_
  obtain ⟨r1, e_r1, h⟩ := gx_bd h
  refine gx_callVv hX (gx_dt dt_mi_x_E_needed 2 rfl) ln_E_115_x_M_asTold mo_x_M_asTold mv_x_M_asTold (gx_rmb rfl) sh_x_22 ⟨_, _, rfl⟩ rfl (k_x_M_asTold e_r1) rfl rfl (Nat.le_of_ble_eq_true rfl) ?_
  refine gx_aload_n hX (gx_dt dt_mi_x_E_needed 3 rfl) rfl ?_
  refine gx_getr hX fl_E_31 sh_x_0 rfl (gx_dt dt_mi_x_E_needed 4 rfl) ?_
  obtain ⟨r2, e_r2, h⟩ := gx_bd h
  refine gx_callVi hX (gx_dt dt_mi_x_E_needed 5 rfl) ln_E_148_x_M_isFirm mo_x_M_isFirm mv_x_M_isFirm (gx_rmb rfl) sh_x_22 ⟨_, _, rfl⟩ rfl (k_x_M_isFirm e_r2) rfl rfl (Nat.le_of_ble_eq_true rfl) ?_
  refine gx_if_ne hX (tgt := 19) (gx_dt dt_mi_x_E_needed 6 rfl) (by decide) (fun c3 => ?_) (fun c3 => ?_)
  · have h := gx_ifn c3 h
    refine gx_iconst hX (v := 0) (gx_dt dt_mi_x_E_needed 9 rfl) (by decide) ?_
    refine gx_istore_n hX (ls' := [some (.inr 0), some (.inl (0))]) (gx_dt dt_mi_x_E_needed 10 rfl) (by decide) rfl ?_
    refine gx_iconst hX (v := 0) (gx_dt dt_mi_x_E_needed 11 rfl) (by decide) ?_
    refine gx_istore_n hX (ls' := [some (.inr 0), some (.inl (0)), some (.inl (0))]) (gx_dt dt_mi_x_E_needed 12 rfl) (by decide) rfl ?_
    exact gx_weak (gx_leS (gx_leS (gx_leS gx_le0))) (t_x_E_needed_23 hX hres hwr _ _ _ _ h)
  · have h := gx_ifp c3 h
    refine gx_iconst hX (v := 0) (gx_dt dt_mi_x_E_needed 7 rfl) (by decide) ?_
    obtain rfl := Option.some.inj h
    exact gx_iret hX (gx_dt dt_mi_x_E_needed 8 rfl) rfl hres hwr
-- EachBearsPillar.more(I)I
def x_E_more_37 : Nat → Int32 → Int32 → Int32 → gx_Wd → Option (Int32 × gx_Wd)
  | 0, _, _, _, _ => none
  | n + 1, b1, b2, b3, w =>
  if 99 < b3 then
    some (b2, w)
  else
  (x_E_cell 6 b1 w).bind fun r2 =>
  (x_E_setCell 25 b1 (r2.1 + b3) r2.2).bind fun r3 =>
  (x_M_weigh r3.2).bind fun r4 =>
  (x_M_isBorne r4).bind fun r5 =>
  if r5.1 = 0 then
    some (b2, r5.2)
  else
    (some (b3 + 1)).bind fun v7 =>
    (x_E_more_37 n) b1 b3 v7 r5.2
def x_E_more (a1 : Int32) (w : gx_Wd) : Option (Int32 × gx_Wd) :=
  (x_E_isSpan a1 w).bind fun r1 =>
  if r1.1 = 0 then
    (x_E_refuse (-1) r1.2).bind fun r6 =>
    some (r6.1, r6.2)
  else
    (x_M_asTold r1.2).bind fun r3 =>
    (x_M_isFirm r3).bind fun r4 =>
    if r4.1 = 0 then
      some ((-9), r4.2)
    else
      x_E_more_37 6000 a1 0 1 r4.2
theorem t_x_E_more_37 {X : gx_X} (hX : gx_Ok X mi_x_E_more) {R : Int32 × gx_Wd} (hres : gx_res X = some (.inl R.1)) (hwr : gx_wr X = R.2) : ∀ (n : Nat) (b1 : Int32) (b2 : Int32) (b3 : Int32) (w : gx_Wd), x_E_more_37 n b1 b2 b3 w = some R → gx_G X mi_x_E_more 37 [some (.inr 0), some (.inl b1), some (.inl b2), some (.inl b3)] [] w := by
  intro n
  induction n with
  | zero => intro b1 b2 b3 w h; rw [x_E_more_37] at h; cases h
  | succ n ih =>
    intro b1 b2 b3 w h
    rw [x_E_more_37] at h
    refine gx_iload_n hX (gx_dt dt_mi_x_E_more 20 rfl) rfl ?_
    refine gx_bipush hX (v := 99) (gx_dt dt_mi_x_E_more 21 rfl) (by decide) ?_
    refine gx_ic_gt hX (tgt := 95) (gx_dt dt_mi_x_E_more 22 rfl) (by decide) (fun c1 => ?_) (fun c1 => ?_)
    · have h := gx_ifp c1 h
      refine gx_iload_n hX (gx_dt dt_mi_x_E_more 49 rfl) rfl ?_
      obtain rfl := Option.some.inj h
      exact gx_iret hX (gx_dt dt_mi_x_E_more 50 rfl) rfl hres hwr
    · have h := gx_ifn c1 h
      refine gx_aload_n hX (gx_dt dt_mi_x_E_more 23 rfl) rfl ?_
      refine gx_getr hX fl_E_31 sh_x_0 rfl (gx_dt dt_mi_x_E_more 24 rfl) ?_
      refine gx_getr hX fl_E_190 sh_x_22 rfl (gx_dt dt_mi_x_E_more 25 rfl) ?_
      refine gx_iload_n hX (gx_dt dt_mi_x_E_more 26 rfl) rfl ?_
      refine gx_aload_n hX (gx_dt dt_mi_x_E_more 27 rfl) rfl ?_
      refine gx_getr hX fl_E_10 sh_x_0 rfl (gx_dt dt_mi_x_E_more 28 rfl) ?_
      refine gx_getr hX fl_E_90 sh_x_1 rfl (gx_dt dt_mi_x_E_more 29 rfl) ?_
      refine gx_iload_n hX (gx_dt dt_mi_x_E_more 30 rfl) rfl ?_
      obtain ⟨r2, e_r2, h⟩ := gx_bd h
      refine gx_callSi hX (gx_dt dt_mi_x_E_more 31 rfl) ln_E_125_x_E_cell mo_x_E_cell ms_x_E_cell (gx_rmb rfl) rfl (k_x_E_cell e_r2) rfl rfl (Nat.le_of_ble_eq_true rfl) ?_
      refine gx_iload_n hX (gx_dt dt_mi_x_E_more 32 rfl) rfl ?_
      refine gx_iadd hX (gx_dt dt_mi_x_E_more 33 rfl) ?_
      obtain ⟨r3, e_r3, h⟩ := gx_bd h
      refine gx_callSi hX (gx_dt dt_mi_x_E_more 34 rfl) ln_E_174_x_E_setCell mo_x_E_setCell ms_x_E_setCell (gx_rmb rfl) rfl (k_x_E_setCell e_r3) rfl rfl (Nat.le_of_ble_eq_true rfl) ?_
      refine gx_pop hX (gx_dt dt_mi_x_E_more 35 rfl) ?_
      refine gx_aload_n hX (gx_dt dt_mi_x_E_more 36 rfl) rfl ?_
      refine gx_getr hX fl_E_31 sh_x_0 rfl (gx_dt dt_mi_x_E_more 37 rfl) ?_
      obtain ⟨r4, e_r4, h⟩ := gx_bd h
      refine gx_callVv hX (gx_dt dt_mi_x_E_more 38 rfl) ln_E_191_x_M_weigh mo_x_M_weigh mv_x_M_weigh (gx_rmb rfl) sh_x_22 ⟨_, _, rfl⟩ rfl (k_x_M_weigh e_r4) rfl rfl (Nat.le_of_ble_eq_true rfl) ?_
      refine gx_aload_n hX (gx_dt dt_mi_x_E_more 39 rfl) rfl ?_
      refine gx_getr hX fl_E_31 sh_x_0 rfl (gx_dt dt_mi_x_E_more 40 rfl) ?_
      obtain ⟨r5, e_r5, h⟩ := gx_bd h
      refine gx_callVi hX (gx_dt dt_mi_x_E_more 41 rfl) ln_E_194_x_M_isBorne mo_x_M_isBorne mv_x_M_isBorne (gx_rmb rfl) sh_x_22 ⟨_, _, rfl⟩ rfl (k_x_M_isBorne e_r5) rfl rfl (Nat.le_of_ble_eq_true rfl) ?_
      refine gx_if_ne hX (tgt := 87) (gx_dt dt_mi_x_E_more 42 rfl) (by decide) (fun c6 => ?_) (fun c6 => ?_)
      · have h := gx_ifn c6 h
        refine gx_iload_n hX (gx_dt dt_mi_x_E_more 45 rfl) rfl ?_
        refine gx_istore_n hX (ls' := [some (.inr 0), some (.inl b1), some (.inl b3), some (.inl b3)]) (gx_dt dt_mi_x_E_more 46 rfl) (by decide) rfl ?_
        obtain ⟨v7, e_v7, h⟩ := gx_bd h
        refine gx_iinc hX (v := v7) (ls' := [some (.inr 0), some (.inl b1), some (.inl b3), some (.inl v7)]) (gx_dt dt_mi_x_E_more 47 rfl) rfl (gx_ii e_v7 (by decide)) (by decide) rfl ?_
        refine gx_goto hX (tgt := 37) (gx_dt dt_mi_x_E_more 48 rfl) (by decide) ?_
        exact gx_weak (gx_leS (gx_leS (gx_leS (gx_leS gx_le0)))) (ih _ _ _ _ h)
      · have h := gx_ifp c6 h
        refine gx_iload_n hX (gx_dt dt_mi_x_E_more 43 rfl) rfl ?_
        obtain rfl := Option.some.inj h
        exact gx_iret hX (gx_dt dt_mi_x_E_more 44 rfl) rfl hres hwr
theorem k_x_E_more {a1 : Int32} {w : gx_Wd} {R : Int32 × gx_Wd} (h : x_E_more a1 w = some R) : gx_MT mi_x_E_more [.inr 0, .inl a1] w (some (.inl R.1)) R.2 := by
  refine gx_met (by decide +kernel) (Nat.le_of_ble_eq_true rfl) (fun X hX hres hwr => ?_)
  show gx_G X mi_x_E_more 0 [some (.inr 0), some (.inl a1)] [] w
  rw [x_E_more] at h
  refine gx_iload_n hX (gx_dt dt_mi_x_E_more 0 rfl) rfl ?_
  obtain ⟨r1, e_r1, h⟩ := gx_bd h
  refine gx_callSi hX (gx_dt dt_mi_x_E_more 1 rfl) ln_E_86_x_E_isSpan mo_x_E_isSpan ms_x_E_isSpan (gx_rmb rfl) rfl (k_x_E_isSpan e_r1) rfl rfl (Nat.le_of_ble_eq_true rfl) ?_
  refine gx_if_ne hX (tgt := 13) (gx_dt dt_mi_x_E_more 2 rfl) (by decide) (fun c2 => ?_) (fun c2 => ?_)
  · have h := gx_ifn c2 h
    refine gx_aload_n hX (gx_dt dt_mi_x_E_more 7 rfl) rfl ?_
    refine gx_getr hX fl_E_31 sh_x_0 rfl (gx_dt dt_mi_x_E_more 8 rfl) ?_
    obtain ⟨r3, e_r3, h⟩ := gx_bd h
    refine gx_callVv hX (gx_dt dt_mi_x_E_more 9 rfl) ln_E_115_x_M_asTold mo_x_M_asTold mv_x_M_asTold (gx_rmb rfl) sh_x_22 ⟨_, _, rfl⟩ rfl (k_x_M_asTold e_r3) rfl rfl (Nat.le_of_ble_eq_true rfl) ?_
    refine gx_aload_n hX (gx_dt dt_mi_x_E_more 10 rfl) rfl ?_
    refine gx_getr hX fl_E_31 sh_x_0 rfl (gx_dt dt_mi_x_E_more 11 rfl) ?_
    obtain ⟨r4, e_r4, h⟩ := gx_bd h
    refine gx_callVi hX (gx_dt dt_mi_x_E_more 12 rfl) ln_E_148_x_M_isFirm mo_x_M_isFirm mv_x_M_isFirm (gx_rmb rfl) sh_x_22 ⟨_, _, rfl⟩ rfl (k_x_M_isFirm e_r4) rfl rfl (Nat.le_of_ble_eq_true rfl) ?_
    refine gx_if_ne hX (tgt := 33) (gx_dt dt_mi_x_E_more 13 rfl) (by decide) (fun c5 => ?_) (fun c5 => ?_)
    · have h := gx_ifn c5 h
      refine gx_iconst hX (v := 0) (gx_dt dt_mi_x_E_more 16 rfl) (by decide) ?_
      refine gx_istore_n hX (ls' := [some (.inr 0), some (.inl a1), some (.inl (0))]) (gx_dt dt_mi_x_E_more 17 rfl) (by decide) rfl ?_
      refine gx_iconst hX (v := 1) (gx_dt dt_mi_x_E_more 18 rfl) (by decide) ?_
      refine gx_istore_n hX (ls' := [some (.inr 0), some (.inl a1), some (.inl (0)), some (.inl (1))]) (gx_dt dt_mi_x_E_more 19 rfl) (by decide) rfl ?_
      exact gx_weak (gx_leS (gx_leS (gx_leS (gx_leS gx_le0)))) (t_x_E_more_37 hX hres hwr _ _ _ _ _ h)
    · have h := gx_ifp c5 h
      refine gx_bipush hX (v := (-9)) (gx_dt dt_mi_x_E_more 14 rfl) (by decide) ?_
      obtain rfl := Option.some.inj h
      exact gx_iret hX (gx_dt dt_mi_x_E_more 15 rfl) rfl hres hwr
  · have h := gx_ifp c2 h
    refine gx_aload_n hX (gx_dt dt_mi_x_E_more 3 rfl) rfl ?_
    refine gx_iconst hX (v := (-1)) (gx_dt dt_mi_x_E_more 4 rfl) (by decide) ?_
    obtain ⟨r6, e_r6, h⟩ := gx_bd h
    refine gx_callVi hX (gx_dt dt_mi_x_E_more 5 rfl) ln_E_69_x_E_refuse mo_x_E_refuse mv_x_E_refuse (gx_rmb rfl) sh_x_0 ⟨_, _, rfl⟩ rfl (k_x_E_refuse e_r6) rfl rfl (Nat.le_of_ble_eq_true rfl) ?_
    obtain rfl := Option.some.inj h
    exact gx_iret hX (gx_dt dt_mi_x_E_more 6 rfl) rfl hres hwr
-- EachBearsPillar.seeds(II)I
def x_E_seeds_124 (K47 : Int32 → Int32 → Int32 → Int32 → gx_Wd → Option (Int32 × gx_Wd)) (b1 : Int32) (b3 : Int32) (b4 : Int32) (b5 : Int32) (w : gx_Wd) : Option (Int32 × gx_Wd) :=
  (some (b5 + 1)).bind fun v1 =>
  K47 b1 b3 b4 v1 w
def x_E_seeds_104 (K47 : Int32 → Int32 → Int32 → Int32 → gx_Wd → Option (Int32 × gx_Wd)) (b1 : Int32) (b3 : Int32) (b4 : Int32) (b5 : Int32) (w : gx_Wd) : Option (Int32 × gx_Wd) :=
  (x_M_weigh w).bind fun r1 =>
  (x_M_isBorne r1).bind fun r2 =>
  if r2.1 = 0 then
    x_E_seeds_124 K47 b1 b3 b4 b5 r2.2
  else
  (some (b3 + 1)).bind fun v4 =>
  x_E_seeds_124 K47 b1 v4 b4 b5 r2.2
def x_E_seeds_56 (K47 : Int32 → Int32 → Int32 → Int32 → gx_Wd → Option (Int32 × gx_Wd)) : Nat → Int32 → Int32 → Int32 → Int32 → Int32 → gx_Wd → Option (Int32 × gx_Wd)
  | 0, _, _, _, _, _, _ => none
  | n + 1, b1, b3, b4, b5, b6, w =>
  if 6 ≤ b6 then
    x_E_seeds_104 K47 b1 b3 b4 b5 w
  else
  (some ((b4 * 1664525) + 1013904223)).bind fun v2 =>
  (x_E_setCell 25 b6 (((v2 &&& 2147483647) / 256) - ((v2 &&& 2147483647) / 256) / 100 * 100) w).bind fun r3 =>
  (some (b6 + 1)).bind fun v4 =>
  (x_E_seeds_56 K47 n) b1 b3 v2 b5 v4 r3.2
def x_E_seeds_47 : Nat → Int32 → Int32 → Int32 → Int32 → gx_Wd → Option (Int32 × gx_Wd)
  | 0, _, _, _, _, _ => none
  | n + 1, b1, b3, b4, b5, w =>
  if b1 ≤ b5 then
    some (b3, w)
  else
  x_E_seeds_56 (x_E_seeds_47 n) 6000 b1 b3 b4 b5 0 w
def x_E_seeds (a1 : Int32) (a2 : Int32) (w : gx_Wd) : Option (Int32 × gx_Wd) :=
  if 1 ≤ a1 then
    if a1 ≤ 30 then
      (x_M_asTold w).bind fun r3 =>
      (x_M_stand r3).bind fun r4 =>
      x_E_seeds_47 6000 a1 0 a2 0 r4
    else
    (x_E_refuse (-6) w).bind fun r5 =>
    some (r5.1, r5.2)
  else
  (x_E_refuse (-4) w).bind fun r6 =>
  some (r6.1, r6.2)
theorem t_x_E_seeds_124 {X : gx_X} (hX : gx_Ok X mi_x_E_seeds) {R : Int32 × gx_Wd} (hres : gx_res X = some (.inl R.1)) (hwr : gx_wr X = R.2) {K47 : Int32 → Int32 → Int32 → Int32 → gx_Wd → Option (Int32 × gx_Wd)} (hK47 : ∀ (b1 : Int32) (b3 : Int32) (b4 : Int32) (b5 : Int32) (w : gx_Wd), K47 b1 b3 b4 b5 w = some R → gx_G X mi_x_E_seeds 47 [some (.inr 0), some (.inl b1), none, some (.inl b3), some (.inl b4), some (.inl b5)] [] w) (b1 : Int32) (b3 : Int32) (b4 : Int32) (b5 : Int32) (w : gx_Wd) (h : x_E_seeds_124 K47 b1 b3 b4 b5 w = some R) : gx_G X mi_x_E_seeds 124 [some (.inr 0), some (.inl b1), none, some (.inl b3), some (.inl b4), some (.inl b5)] [] w := by
  rw [x_E_seeds_124] at h
  obtain ⟨v1, e_v1, h⟩ := gx_bd h
  refine gx_iinc hX (v := v1) (ls' := [some (.inr 0), some (.inl b1), none, some (.inl b3), some (.inl b4), some (.inl v1)]) (gx_dt dt_mi_x_E_seeds 63 rfl) rfl (gx_ii e_v1 (by decide)) (by decide) rfl ?_
  refine gx_goto hX (tgt := 47) (gx_dt dt_mi_x_E_seeds 64 rfl) (by decide) ?_
  exact gx_weak (gx_leS (gx_leS (gx_leN (gx_leS (gx_leS (gx_leS gx_le0)))))) (hK47 _ _ _ _ _ h)
theorem t_x_E_seeds_104 {X : gx_X} (hX : gx_Ok X mi_x_E_seeds) {R : Int32 × gx_Wd} (hres : gx_res X = some (.inl R.1)) (hwr : gx_wr X = R.2) {K47 : Int32 → Int32 → Int32 → Int32 → gx_Wd → Option (Int32 × gx_Wd)} (hK47 : ∀ (b1 : Int32) (b3 : Int32) (b4 : Int32) (b5 : Int32) (w : gx_Wd), K47 b1 b3 b4 b5 w = some R → gx_G X mi_x_E_seeds 47 [some (.inr 0), some (.inl b1), none, some (.inl b3), some (.inl b4), some (.inl b5)] [] w) (b1 : Int32) (b3 : Int32) (b4 : Int32) (b5 : Int32) (w : gx_Wd) (h : x_E_seeds_104 K47 b1 b3 b4 b5 w = some R) : gx_G X mi_x_E_seeds 104 [some (.inr 0), some (.inl b1), none, some (.inl b3), some (.inl b4), some (.inl b5)] [] w := by
  rw [x_E_seeds_104] at h
  refine gx_aload_n hX (gx_dt dt_mi_x_E_seeds 55 rfl) rfl ?_
  refine gx_getr hX fl_E_31 sh_x_0 rfl (gx_dt dt_mi_x_E_seeds 56 rfl) ?_
  obtain ⟨r1, e_r1, h⟩ := gx_bd h
  refine gx_callVv hX (gx_dt dt_mi_x_E_seeds 57 rfl) ln_E_191_x_M_weigh mo_x_M_weigh mv_x_M_weigh (gx_rmb rfl) sh_x_22 ⟨_, _, rfl⟩ rfl (k_x_M_weigh e_r1) rfl rfl (Nat.le_of_ble_eq_true rfl) ?_
  refine gx_aload_n hX (gx_dt dt_mi_x_E_seeds 58 rfl) rfl ?_
  refine gx_getr hX fl_E_31 sh_x_0 rfl (gx_dt dt_mi_x_E_seeds 59 rfl) ?_
  obtain ⟨r2, e_r2, h⟩ := gx_bd h
  refine gx_callVi hX (gx_dt dt_mi_x_E_seeds 60 rfl) ln_E_194_x_M_isBorne mo_x_M_isBorne mv_x_M_isBorne (gx_rmb rfl) sh_x_22 ⟨_, _, rfl⟩ rfl (k_x_M_isBorne e_r2) rfl rfl (Nat.le_of_ble_eq_true rfl) ?_
  refine gx_if_eq hX (tgt := 124) (gx_dt dt_mi_x_E_seeds 61 rfl) (by decide) (fun c3 => ?_) (fun c3 => ?_)
  · have h := gx_ifp c3 h
    exact gx_weak (gx_leS (gx_leS (gx_leN (gx_leS (gx_leS (gx_leS gx_le0)))))) (t_x_E_seeds_124 hX hres hwr hK47 _ _ _ _ _ h)
  · have h := gx_ifn c3 h
    obtain ⟨v4, e_v4, h⟩ := gx_bd h
    refine gx_iinc hX (v := v4) (ls' := [some (.inr 0), some (.inl b1), none, some (.inl v4), some (.inl b4), some (.inl b5)]) (gx_dt dt_mi_x_E_seeds 62 rfl) rfl (gx_ii e_v4 (by decide)) (by decide) rfl ?_
    exact gx_weak (gx_leS (gx_leS (gx_leN (gx_leS (gx_leS (gx_leS gx_le0)))))) (t_x_E_seeds_124 hX hres hwr hK47 _ _ _ _ _ h)
theorem t_x_E_seeds_56 {X : gx_X} (hX : gx_Ok X mi_x_E_seeds) {R : Int32 × gx_Wd} (hres : gx_res X = some (.inl R.1)) (hwr : gx_wr X = R.2) {K47 : Int32 → Int32 → Int32 → Int32 → gx_Wd → Option (Int32 × gx_Wd)} (hK47 : ∀ (b1 : Int32) (b3 : Int32) (b4 : Int32) (b5 : Int32) (w : gx_Wd), K47 b1 b3 b4 b5 w = some R → gx_G X mi_x_E_seeds 47 [some (.inr 0), some (.inl b1), none, some (.inl b3), some (.inl b4), some (.inl b5)] [] w) : ∀ (n : Nat) (b1 : Int32) (b3 : Int32) (b4 : Int32) (b5 : Int32) (b6 : Int32) (w : gx_Wd), x_E_seeds_56 K47 n b1 b3 b4 b5 b6 w = some R → gx_G X mi_x_E_seeds 56 [some (.inr 0), some (.inl b1), none, some (.inl b3), some (.inl b4), some (.inl b5), some (.inl b6)] [] w := by
  intro n
  induction n with
  | zero => intro b1 b3 b4 b5 b6 w h; rw [x_E_seeds_56] at h; cases h
  | succ n ih =>
    intro b1 b3 b4 b5 b6 w h
    rw [x_E_seeds_56] at h
    refine gx_iload hX (gx_dt dt_mi_x_E_seeds 31 rfl) rfl ?_
    refine gx_bipush hX (v := 6) (gx_dt dt_mi_x_E_seeds 32 rfl) (by decide) ?_
    refine gx_ic_ge hX (tgt := 104) (gx_dt dt_mi_x_E_seeds 33 rfl) (by decide) (fun c1 => ?_) (fun c1 => ?_)
    · have h := gx_ifp c1 h
      exact gx_weak (gx_leS (gx_leS (gx_leN (gx_leS (gx_leS (gx_leS gx_le0)))))) (t_x_E_seeds_104 hX hres hwr hK47 _ _ _ _ _ h)
    · have h := gx_ifn c1 h
      refine gx_iload hX (gx_dt dt_mi_x_E_seeds 34 rfl) rfl ?_
      refine gx_ldci hX (v := 1664525) (gx_dt dt_mi_x_E_seeds 35 rfl) wr_constant_E_200 ?_
      refine gx_imul hX (gx_dt dt_mi_x_E_seeds 36 rfl) ?_
      refine gx_ldci hX (v := 1013904223) (gx_dt dt_mi_x_E_seeds 37 rfl) wr_constant_E_201 ?_
      refine gx_iadd hX (gx_dt dt_mi_x_E_seeds 38 rfl) ?_
      obtain ⟨v2, e_v2, h⟩ := gx_bd h
      refine gx_top e_v2 ?_
      refine gx_istore hX (ls' := [some (.inr 0), some (.inl b1), none, some (.inl b3), some (.inl v2), some (.inl b5), some (.inl b6)]) (gx_dt dt_mi_x_E_seeds 39 rfl) (by decide) rfl ?_
      refine gx_aload_n hX (gx_dt dt_mi_x_E_seeds 40 rfl) rfl ?_
      refine gx_getr hX fl_E_31 sh_x_0 rfl (gx_dt dt_mi_x_E_seeds 41 rfl) ?_
      refine gx_getr hX fl_E_190 sh_x_22 rfl (gx_dt dt_mi_x_E_seeds 42 rfl) ?_
      refine gx_iload hX (gx_dt dt_mi_x_E_seeds 43 rfl) rfl ?_
      refine gx_iload hX (gx_dt dt_mi_x_E_seeds 44 rfl) rfl ?_
      refine gx_ldci hX (v := 2147483647) (gx_dt dt_mi_x_E_seeds 45 rfl) wr_constant_E_202 ?_
      refine gx_iand hX (gx_dt dt_mi_x_E_seeds 46 rfl) ?_
      refine gx_sipush hX (v := 256) (gx_dt dt_mi_x_E_seeds 47 rfl) (by decide) ?_
      refine gx_idiv hX (gx_dt dt_mi_x_E_seeds 48 rfl) (by decide) ?_
      refine gx_bipush hX (v := 100) (gx_dt dt_mi_x_E_seeds 49 rfl) (by decide) ?_
      refine gx_irem hX (gx_dt dt_mi_x_E_seeds 50 rfl) (by decide) ?_
      obtain ⟨r3, e_r3, h⟩ := gx_bd h
      refine gx_callSi hX (gx_dt dt_mi_x_E_seeds 51 rfl) ln_E_174_x_E_setCell mo_x_E_setCell ms_x_E_setCell (gx_rmb rfl) rfl (k_x_E_setCell e_r3) rfl rfl (Nat.le_of_ble_eq_true rfl) ?_
      refine gx_pop hX (gx_dt dt_mi_x_E_seeds 52 rfl) ?_
      obtain ⟨v4, e_v4, h⟩ := gx_bd h
      refine gx_iinc hX (v := v4) (ls' := [some (.inr 0), some (.inl b1), none, some (.inl b3), some (.inl v2), some (.inl b5), some (.inl v4)]) (gx_dt dt_mi_x_E_seeds 53 rfl) rfl (gx_ii e_v4 (by decide)) (by decide) rfl ?_
      refine gx_goto hX (tgt := 56) (gx_dt dt_mi_x_E_seeds 54 rfl) (by decide) ?_
      exact gx_weak (gx_leS (gx_leS (gx_leN (gx_leS (gx_leS (gx_leS (gx_leS gx_le0))))))) (ih _ _ _ _ _ _ h)
theorem t_x_E_seeds_47 {X : gx_X} (hX : gx_Ok X mi_x_E_seeds) {R : Int32 × gx_Wd} (hres : gx_res X = some (.inl R.1)) (hwr : gx_wr X = R.2) : ∀ (n : Nat) (b1 : Int32) (b3 : Int32) (b4 : Int32) (b5 : Int32) (w : gx_Wd), x_E_seeds_47 n b1 b3 b4 b5 w = some R → gx_G X mi_x_E_seeds 47 [some (.inr 0), some (.inl b1), none, some (.inl b3), some (.inl b4), some (.inl b5)] [] w := by
  intro n
  induction n with
  | zero => intro b1 b3 b4 b5 w h; rw [x_E_seeds_47] at h; cases h
  | succ n ih =>
    intro b1 b3 b4 b5 w h
    rw [x_E_seeds_47] at h
    refine gx_iload hX (gx_dt dt_mi_x_E_seeds 26 rfl) rfl ?_
    refine gx_iload_n hX (gx_dt dt_mi_x_E_seeds 27 rfl) rfl ?_
    refine gx_ic_ge hX (tgt := 130) (gx_dt dt_mi_x_E_seeds 28 rfl) (by decide) (fun c1 => ?_) (fun c1 => ?_)
    · have h := gx_ifp c1 h
      refine gx_iload_n hX (gx_dt dt_mi_x_E_seeds 65 rfl) rfl ?_
      obtain rfl := Option.some.inj h
      exact gx_iret hX (gx_dt dt_mi_x_E_seeds 66 rfl) rfl hres hwr
    · have h := gx_ifn c1 h
      refine gx_iconst hX (v := 0) (gx_dt dt_mi_x_E_seeds 29 rfl) (by decide) ?_
      refine gx_istore hX (ls' := [some (.inr 0), some (.inl b1), none, some (.inl b3), some (.inl b4), some (.inl b5), some (.inl (0))]) (gx_dt dt_mi_x_E_seeds 30 rfl) (by decide) rfl ?_
      exact gx_weak (gx_leS (gx_leS (gx_leN (gx_leS (gx_leS (gx_leS (gx_leS gx_le0))))))) (t_x_E_seeds_56 hX hres hwr ih _ _ _ _ _ _ _ h)
theorem k_x_E_seeds {a1 : Int32} {a2 : Int32} {w : gx_Wd} {R : Int32 × gx_Wd} (h : x_E_seeds a1 a2 w = some R) : gx_MT mi_x_E_seeds [.inr 0, .inl a1, .inl a2] w (some (.inl R.1)) R.2 := by
  refine gx_met (by decide +kernel) (Nat.le_of_ble_eq_true rfl) (fun X hX hres hwr => ?_)
  show gx_G X mi_x_E_seeds 0 [some (.inr 0), some (.inl a1), some (.inl a2)] [] w
  rw [x_E_seeds] at h
  refine gx_iload_n hX (gx_dt dt_mi_x_E_seeds 0 rfl) rfl ?_
  refine gx_iconst hX (v := 1) (gx_dt dt_mi_x_E_seeds 1 rfl) (by decide) ?_
  refine gx_ic_ge hX (tgt := 12) (gx_dt dt_mi_x_E_seeds 2 rfl) (by decide) (fun c1 => ?_) (fun c1 => ?_)
  · have h := gx_ifp c1 h
    refine gx_iload_n hX (gx_dt dt_mi_x_E_seeds 7 rfl) rfl ?_
    refine gx_bipush hX (v := 30) (gx_dt dt_mi_x_E_seeds 8 rfl) (by decide) ?_
    refine gx_ic_le hX (tgt := 25) (gx_dt dt_mi_x_E_seeds 9 rfl) (by decide) (fun c2 => ?_) (fun c2 => ?_)
    · have h := gx_ifp c2 h
      refine gx_aload_n hX (gx_dt dt_mi_x_E_seeds 14 rfl) rfl ?_
      refine gx_getr hX fl_E_31 sh_x_0 rfl (gx_dt dt_mi_x_E_seeds 15 rfl) ?_
      obtain ⟨r3, e_r3, h⟩ := gx_bd h
      refine gx_callVv hX (gx_dt dt_mi_x_E_seeds 16 rfl) ln_E_115_x_M_asTold mo_x_M_asTold mv_x_M_asTold (gx_rmb rfl) sh_x_22 ⟨_, _, rfl⟩ rfl (k_x_M_asTold e_r3) rfl rfl (Nat.le_of_ble_eq_true rfl) ?_
      refine gx_aload_n hX (gx_dt dt_mi_x_E_seeds 17 rfl) rfl ?_
      refine gx_getr hX fl_E_31 sh_x_0 rfl (gx_dt dt_mi_x_E_seeds 18 rfl) ?_
      obtain ⟨r4, e_r4, h⟩ := gx_bd h
      refine gx_callVv hX (gx_dt dt_mi_x_E_seeds 19 rfl) ln_E_197_x_M_stand mo_x_M_stand mv_x_M_stand (gx_rmb rfl) sh_x_22 ⟨_, _, rfl⟩ rfl (k_x_M_stand e_r4) rfl rfl (Nat.le_of_ble_eq_true rfl) ?_
      refine gx_iconst hX (v := 0) (gx_dt dt_mi_x_E_seeds 20 rfl) (by decide) ?_
      refine gx_istore_n hX (ls' := [some (.inr 0), some (.inl a1), some (.inl a2), some (.inl (0))]) (gx_dt dt_mi_x_E_seeds 21 rfl) (by decide) rfl ?_
      refine gx_iload_n hX (gx_dt dt_mi_x_E_seeds 22 rfl) rfl ?_
      refine gx_istore hX (ls' := [some (.inr 0), some (.inl a1), some (.inl a2), some (.inl (0)), some (.inl a2)]) (gx_dt dt_mi_x_E_seeds 23 rfl) (by decide) rfl ?_
      refine gx_iconst hX (v := 0) (gx_dt dt_mi_x_E_seeds 24 rfl) (by decide) ?_
      refine gx_istore hX (ls' := [some (.inr 0), some (.inl a1), some (.inl a2), some (.inl (0)), some (.inl a2), some (.inl (0))]) (gx_dt dt_mi_x_E_seeds 25 rfl) (by decide) rfl ?_
      exact gx_weak (gx_leS (gx_leS (gx_leN (gx_leS (gx_leS (gx_leS gx_le0)))))) (t_x_E_seeds_47 hX hres hwr _ _ _ _ _ _ h)
    · have h := gx_ifn c2 h
      refine gx_aload_n hX (gx_dt dt_mi_x_E_seeds 10 rfl) rfl ?_
      refine gx_bipush hX (v := (-6)) (gx_dt dt_mi_x_E_seeds 11 rfl) (by decide) ?_
      obtain ⟨r5, e_r5, h⟩ := gx_bd h
      refine gx_callVi hX (gx_dt dt_mi_x_E_seeds 12 rfl) ln_E_69_x_E_refuse mo_x_E_refuse mv_x_E_refuse (gx_rmb rfl) sh_x_0 ⟨_, _, rfl⟩ rfl (k_x_E_refuse e_r5) rfl rfl (Nat.le_of_ble_eq_true rfl) ?_
      obtain rfl := Option.some.inj h
      exact gx_iret hX (gx_dt dt_mi_x_E_seeds 13 rfl) rfl hres hwr
  · have h := gx_ifn c1 h
    refine gx_aload_n hX (gx_dt dt_mi_x_E_seeds 3 rfl) rfl ?_
    refine gx_bipush hX (v := (-4)) (gx_dt dt_mi_x_E_seeds 4 rfl) (by decide) ?_
    obtain ⟨r6, e_r6, h⟩ := gx_bd h
    refine gx_callVi hX (gx_dt dt_mi_x_E_seeds 5 rfl) ln_E_69_x_E_refuse mo_x_E_refuse mv_x_E_refuse (gx_rmb rfl) sh_x_0 ⟨_, _, rfl⟩ rfl (k_x_E_refuse e_r6) rfl rfl (Nat.le_of_ble_eq_true rfl) ?_
    obtain rfl := Option.some.inj h
    exact gx_iret hX (gx_dt dt_mi_x_E_seeds 6 rfl) rfl hres hwr
-- EachBearsPillar.row(I)I
def x_E_row (a1 : Int32) (w : gx_Wd) : Option (Int32 × gx_Wd) :=
  if 0 ≤ a1 then
    if 400 < a1 then
      (x_E_refuse (-6) w).bind fun r3 =>
      some (r3.1, r3.2)
    else
    if w 0 9 < 7 then
      (x_E_setCell 38 (w 0 9) a1 w).bind fun r5 =>
      (gx_put r5.2 0 9 ((r5.2 0 9) + 1)).bind fun w6 =>
      some (w6 0 9, w6)
    else
    (x_E_refuse (-6) w).bind fun r7 =>
    some (r7.1, r7.2)
  else
  (x_E_refuse (-4) w).bind fun r8 =>
  some (r8.1, r8.2)
theorem k_x_E_row {a1 : Int32} {w : gx_Wd} {R : Int32 × gx_Wd} (h : x_E_row a1 w = some R) : gx_MT mi_x_E_row [.inr 0, .inl a1] w (some (.inl R.1)) R.2 := by
  refine gx_met (by decide +kernel) (Nat.le_of_ble_eq_true rfl) (fun X hX hres hwr => ?_)
  show gx_G X mi_x_E_row 0 [some (.inr 0), some (.inl a1)] [] w
  rw [x_E_row] at h
  refine gx_iload_n hX (gx_dt dt_mi_x_E_row 0 rfl) rfl ?_
  refine gx_if_ge hX (tgt := 11) (gx_dt dt_mi_x_E_row 1 rfl) (by decide) (fun c1 => ?_) (fun c1 => ?_)
  · have h := gx_ifp c1 h
    refine gx_iload_n hX (gx_dt dt_mi_x_E_row 6 rfl) rfl ?_
    refine gx_sipush hX (v := 400) (gx_dt dt_mi_x_E_row 7 rfl) (by decide) ?_
    refine gx_ic_gt hX (tgt := 27) (gx_dt dt_mi_x_E_row 8 rfl) (by decide) (fun c2 => ?_) (fun c2 => ?_)
    · have h := gx_ifp c2 h
      refine gx_aload_n hX (gx_dt dt_mi_x_E_row 13 rfl) rfl ?_
      refine gx_bipush hX (v := (-6)) (gx_dt dt_mi_x_E_row 14 rfl) (by decide) ?_
      obtain ⟨r3, e_r3, h⟩ := gx_bd h
      refine gx_callVi hX (gx_dt dt_mi_x_E_row 15 rfl) ln_E_69_x_E_refuse mo_x_E_refuse mv_x_E_refuse (gx_rmb rfl) sh_x_0 ⟨_, _, rfl⟩ rfl (k_x_E_refuse e_r3) rfl rfl (Nat.le_of_ble_eq_true rfl) ?_
      obtain rfl := Option.some.inj h
      exact gx_iret hX (gx_dt dt_mi_x_E_row 16 rfl) rfl hres hwr
    · have h := gx_ifn c2 h
      refine gx_aload_n hX (gx_dt dt_mi_x_E_row 9 rfl) rfl ?_
      refine gx_geti hX fl_E_62 sh_x_0 rfl (gx_dt dt_mi_x_E_row 10 rfl) ?_
      refine gx_bipush hX (v := 7) (gx_dt dt_mi_x_E_row 11 rfl) (by decide) ?_
      refine gx_ic_lt hX (tgt := 34) (gx_dt dt_mi_x_E_row 12 rfl) (by decide) (fun c4 => ?_) (fun c4 => ?_)
      · have h := gx_ifp c4 h
        refine gx_aload_n hX (gx_dt dt_mi_x_E_row 17 rfl) rfl ?_
        refine gx_getr hX fl_E_58 sh_x_0 rfl (gx_dt dt_mi_x_E_row 18 rfl) ?_
        refine gx_aload_n hX (gx_dt dt_mi_x_E_row 19 rfl) rfl ?_
        refine gx_geti hX fl_E_62 sh_x_0 rfl (gx_dt dt_mi_x_E_row 20 rfl) ?_
        refine gx_iload_n hX (gx_dt dt_mi_x_E_row 21 rfl) rfl ?_
        obtain ⟨r5, e_r5, h⟩ := gx_bd h
        refine gx_callSi hX (gx_dt dt_mi_x_E_row 22 rfl) ln_E_174_x_E_setCell mo_x_E_setCell ms_x_E_setCell (gx_rmb rfl) rfl (k_x_E_setCell e_r5) rfl rfl (Nat.le_of_ble_eq_true rfl) ?_
        refine gx_pop hX (gx_dt dt_mi_x_E_row 23 rfl) ?_
        refine gx_aload_n hX (gx_dt dt_mi_x_E_row 24 rfl) rfl ?_
        refine gx_dup hX (gx_dt dt_mi_x_E_row 25 rfl) ?_
        refine gx_geti hX fl_E_62 sh_x_0 rfl (gx_dt dt_mi_x_E_row 26 rfl) ?_
        refine gx_iconst hX (v := 1) (gx_dt dt_mi_x_E_row 27 rfl) (by decide) ?_
        refine gx_iadd hX (gx_dt dt_mi_x_E_row 28 rfl) ?_
        obtain ⟨w6, e_w6, h⟩ := gx_bd h
        refine gx_putp hX fl_E_62 (pf_E_9 _) sh_x_0 rfl e_w6 (gx_dt dt_mi_x_E_row 29 rfl) ?_
        refine gx_aload_n hX (gx_dt dt_mi_x_E_row 30 rfl) rfl ?_
        refine gx_geti hX fl_E_62 sh_x_0 rfl (gx_dt dt_mi_x_E_row 31 rfl) ?_
        obtain rfl := Option.some.inj h
        exact gx_iret hX (gx_dt dt_mi_x_E_row 32 rfl) rfl hres hwr
      · have h := gx_ifn c4 h
        refine gx_aload_n hX (gx_dt dt_mi_x_E_row 13 rfl) rfl ?_
        refine gx_bipush hX (v := (-6)) (gx_dt dt_mi_x_E_row 14 rfl) (by decide) ?_
        obtain ⟨r7, e_r7, h⟩ := gx_bd h
        refine gx_callVi hX (gx_dt dt_mi_x_E_row 15 rfl) ln_E_69_x_E_refuse mo_x_E_refuse mv_x_E_refuse (gx_rmb rfl) sh_x_0 ⟨_, _, rfl⟩ rfl (k_x_E_refuse e_r7) rfl rfl (Nat.le_of_ble_eq_true rfl) ?_
        obtain rfl := Option.some.inj h
        exact gx_iret hX (gx_dt dt_mi_x_E_row 16 rfl) rfl hres hwr
  · have h := gx_ifn c1 h
    refine gx_aload_n hX (gx_dt dt_mi_x_E_row 2 rfl) rfl ?_
    refine gx_bipush hX (v := (-4)) (gx_dt dt_mi_x_E_row 3 rfl) (by decide) ?_
    obtain ⟨r8, e_r8, h⟩ := gx_bd h
    refine gx_callVi hX (gx_dt dt_mi_x_E_row 4 rfl) ln_E_69_x_E_refuse mo_x_E_refuse mv_x_E_refuse (gx_rmb rfl) sh_x_0 ⟨_, _, rfl⟩ rfl (k_x_E_refuse e_r8) rfl rfl (Nat.le_of_ble_eq_true rfl) ?_
    obtain rfl := Option.some.inj h
    exact gx_iret hX (gx_dt dt_mi_x_E_row 5 rfl) rfl hres hwr
-- EachBearsPillar.firstUntrue()I
def x_E_firstUntrue_9 : Nat → Int32 → gx_Wd → Option (Int32 × gx_Wd)
  | 0, _, _ => none
  | n + 1, b1, w =>
  if w 0 9 ≤ b1 then
    some ((-1), w)
  else
  if w 1 0 ≤ b1 then
    some ((-1), w)
  else
  (x_E_cell 38 b1 w).bind fun r3 =>
  (x_E_cell 28 b1 r3.2).bind fun r4 =>
  if r3.1 = r4.1 then
    (some (b1 + 1)).bind fun v6 =>
    (x_E_firstUntrue_9 n) v6 r4.2
  else
  some (b1, r4.2)
def x_E_firstUntrue (w : gx_Wd) : Option (Int32 × gx_Wd) :=
  (x_M_standAndWeigh w).bind fun r1 =>
  x_E_firstUntrue_9 6000 0 r1
theorem t_x_E_firstUntrue_9 {X : gx_X} (hX : gx_Ok X mi_x_E_firstUntrue) {R : Int32 × gx_Wd} (hres : gx_res X = some (.inl R.1)) (hwr : gx_wr X = R.2) : ∀ (n : Nat) (b1 : Int32) (w : gx_Wd), x_E_firstUntrue_9 n b1 w = some R → gx_G X mi_x_E_firstUntrue 9 [some (.inr 0), some (.inl b1)] [] w := by
  intro n
  induction n with
  | zero => intro b1 w h; rw [x_E_firstUntrue_9] at h; cases h
  | succ n ih =>
    intro b1 w h
    rw [x_E_firstUntrue_9] at h
    refine gx_iload_n hX (gx_dt dt_mi_x_E_firstUntrue 5 rfl) rfl ?_
    refine gx_aload_n hX (gx_dt dt_mi_x_E_firstUntrue 6 rfl) rfl ?_
    refine gx_geti hX fl_E_62 sh_x_0 rfl (gx_dt dt_mi_x_E_firstUntrue 7 rfl) ?_
    refine gx_ic_ge hX (tgt := 58) (gx_dt dt_mi_x_E_firstUntrue 8 rfl) (by decide) (fun c1 => ?_) (fun c1 => ?_)
    · have h := gx_ifp c1 h
      refine gx_iconst hX (v := (-1)) (gx_dt dt_mi_x_E_firstUntrue 28 rfl) (by decide) ?_
      obtain rfl := Option.some.inj h
      exact gx_iret hX (gx_dt dt_mi_x_E_firstUntrue 29 rfl) rfl hres hwr
    · have h := gx_ifn c1 h
      refine gx_iload_n hX (gx_dt dt_mi_x_E_firstUntrue 9 rfl) rfl ?_
      refine gx_aload_n hX (gx_dt dt_mi_x_E_firstUntrue 10 rfl) rfl ?_
      refine gx_getr hX fl_E_10 sh_x_0 rfl (gx_dt dt_mi_x_E_firstUntrue 11 rfl) ?_
      refine gx_geti hX fl_E_158 sh_x_1 rfl (gx_dt dt_mi_x_E_firstUntrue 12 rfl) ?_
      refine gx_ic_ge hX (tgt := 58) (gx_dt dt_mi_x_E_firstUntrue 13 rfl) (by decide) (fun c2 => ?_) (fun c2 => ?_)
      · have h := gx_ifp c2 h
        refine gx_iconst hX (v := (-1)) (gx_dt dt_mi_x_E_firstUntrue 28 rfl) (by decide) ?_
        obtain rfl := Option.some.inj h
        exact gx_iret hX (gx_dt dt_mi_x_E_firstUntrue 29 rfl) rfl hres hwr
      · have h := gx_ifn c2 h
        refine gx_aload_n hX (gx_dt dt_mi_x_E_firstUntrue 14 rfl) rfl ?_
        refine gx_getr hX fl_E_58 sh_x_0 rfl (gx_dt dt_mi_x_E_firstUntrue 15 rfl) ?_
        refine gx_iload_n hX (gx_dt dt_mi_x_E_firstUntrue 16 rfl) rfl ?_
        obtain ⟨r3, e_r3, h⟩ := gx_bd h
        refine gx_callSi hX (gx_dt dt_mi_x_E_firstUntrue 17 rfl) ln_E_125_x_E_cell mo_x_E_cell ms_x_E_cell (gx_rmb rfl) rfl (k_x_E_cell e_r3) rfl rfl (Nat.le_of_ble_eq_true rfl) ?_
        refine gx_aload_n hX (gx_dt dt_mi_x_E_firstUntrue 18 rfl) rfl ?_
        refine gx_getr hX fl_E_31 sh_x_0 rfl (gx_dt dt_mi_x_E_firstUntrue 19 rfl) ?_
        refine gx_getr hX fl_E_145 sh_x_22 rfl (gx_dt dt_mi_x_E_firstUntrue 20 rfl) ?_
        refine gx_iload_n hX (gx_dt dt_mi_x_E_firstUntrue 21 rfl) rfl ?_
        obtain ⟨r4, e_r4, h⟩ := gx_bd h
        refine gx_callSi hX (gx_dt dt_mi_x_E_firstUntrue 22 rfl) ln_E_125_x_E_cell mo_x_E_cell ms_x_E_cell (gx_rmb rfl) rfl (k_x_E_cell e_r4) rfl rfl (Nat.le_of_ble_eq_true rfl) ?_
        refine gx_ic_eq hX (tgt := 52) (gx_dt dt_mi_x_E_firstUntrue 23 rfl) (by decide) (fun c5 => ?_) (fun c5 => ?_)
        · have h := gx_ifp c5 h
          obtain ⟨v6, e_v6, h⟩ := gx_bd h
          refine gx_iinc hX (v := v6) (ls' := [some (.inr 0), some (.inl v6)]) (gx_dt dt_mi_x_E_firstUntrue 26 rfl) rfl (gx_ii e_v6 (by decide)) (by decide) rfl ?_
          refine gx_goto hX (tgt := 9) (gx_dt dt_mi_x_E_firstUntrue 27 rfl) (by decide) ?_
          exact gx_weak (gx_leS (gx_leS gx_le0)) (ih _ _ h)
        · have h := gx_ifn c5 h
          refine gx_iload_n hX (gx_dt dt_mi_x_E_firstUntrue 24 rfl) rfl ?_
          obtain rfl := Option.some.inj h
          exact gx_iret hX (gx_dt dt_mi_x_E_firstUntrue 25 rfl) rfl hres hwr
theorem k_x_E_firstUntrue {w : gx_Wd} {R : Int32 × gx_Wd} (h : x_E_firstUntrue w = some R) : gx_MT mi_x_E_firstUntrue [.inr 0] w (some (.inl R.1)) R.2 := by
  refine gx_met (by decide +kernel) (Nat.le_of_ble_eq_true rfl) (fun X hX hres hwr => ?_)
  show gx_G X mi_x_E_firstUntrue 0 [some (.inr 0)] [] w
  rw [x_E_firstUntrue] at h
  refine gx_aload_n hX (gx_dt dt_mi_x_E_firstUntrue 0 rfl) rfl ?_
  refine gx_getr hX fl_E_31 sh_x_0 rfl (gx_dt dt_mi_x_E_firstUntrue 1 rfl) ?_
  obtain ⟨r1, e_r1, h⟩ := gx_bd h
  refine gx_callVv hX (gx_dt dt_mi_x_E_firstUntrue 2 rfl) ln_E_142_x_M_standAndWeigh mo_x_M_standAndWeigh mv_x_M_standAndWeigh (gx_rmb rfl) sh_x_22 ⟨_, _, rfl⟩ rfl (k_x_M_standAndWeigh e_r1) rfl rfl (Nat.le_of_ble_eq_true rfl) ?_
  refine gx_iconst hX (v := 0) (gx_dt dt_mi_x_E_firstUntrue 3 rfl) (by decide) ?_
  refine gx_istore_n hX (ls' := [some (.inr 0), some (.inl (0))]) (gx_dt dt_mi_x_E_firstUntrue 4 rfl) (by decide) rfl ?_
  exact gx_weak (gx_leS (gx_leS gx_le0)) (t_x_E_firstUntrue_9 hX hres hwr _ _ _ h)
-- EachBearsPillar.slacked()I
def x_E_slacked_79 (K45 : Int32 → Int32 → gx_Wd → Option (Int32 × gx_Wd)) (b1 : Int32) (b2 : Int32) (w : gx_Wd) : Option (Int32 × gx_Wd) :=
  (some (b2 + 1)).bind fun v1 =>
  K45 b1 v1 w
def x_E_slacked_45 : Nat → Int32 → Int32 → gx_Wd → Option (Int32 × gx_Wd)
  | 0, _, _, _ => none
  | n + 1, b1, b2, w =>
  if w 1 0 ≤ b2 then
    some (b1, w)
  else
  (gx_put w 22 3 (1 <<< (b2 &&& 31))).bind fun w2 =>
  (x_E_firstUntrue w2).bind fun r3 =>
  if 0 ≤ r3.1 then
    x_E_slacked_79 (x_E_slacked_45 n) b1 b2 r3.2
  else
  (some (b1 ||| (1 <<< (b2 &&& 31)))).bind fun v5 =>
  x_E_slacked_79 (x_E_slacked_45 n) v5 b2 r3.2
def x_E_slacked_42 (s0 : Int32) (w : gx_Wd) : Option (Int32 × gx_Wd) :=
  x_E_slacked_45 6000 s0 0 w
def x_E_slacked (w : gx_Wd) : Option (Int32 × gx_Wd) :=
  if w 0 9 = w 1 0 then
    (x_M_asTold w).bind fun r2 =>
    (x_E_firstUntrue r2).bind fun r3 =>
    if 0 ≤ r3.1 then
      x_E_slacked_42 0 r3.2
    else
    x_E_slacked_42 128 r3.2
  else
  (x_E_refuse (-3) w).bind fun r5 =>
  some (r5.1, r5.2)
theorem t_x_E_slacked_79 {X : gx_X} (hX : gx_Ok X mi_x_E_slacked) {R : Int32 × gx_Wd} (hres : gx_res X = some (.inl R.1)) (hwr : gx_wr X = R.2) {K45 : Int32 → Int32 → gx_Wd → Option (Int32 × gx_Wd)} (hK45 : ∀ (b1 : Int32) (b2 : Int32) (w : gx_Wd), K45 b1 b2 w = some R → gx_G X mi_x_E_slacked 45 [some (.inr 0), some (.inl b1), some (.inl b2)] [] w) (b1 : Int32) (b2 : Int32) (w : gx_Wd) (h : x_E_slacked_79 K45 b1 b2 w = some R) : gx_G X mi_x_E_slacked 79 [some (.inr 0), some (.inl b1), some (.inl b2)] [] w := by
  rw [x_E_slacked_79] at h
  obtain ⟨v1, e_v1, h⟩ := gx_bd h
  refine gx_iinc hX (v := v1) (ls' := [some (.inr 0), some (.inl b1), some (.inl v1)]) (gx_dt dt_mi_x_E_slacked 42 rfl) rfl (gx_ii e_v1 (by decide)) (by decide) rfl ?_
  refine gx_goto hX (tgt := 45) (gx_dt dt_mi_x_E_slacked 43 rfl) (by decide) ?_
  exact gx_weak (gx_leS (gx_leS (gx_leS gx_le0))) (hK45 _ _ _ h)
theorem t_x_E_slacked_45 {X : gx_X} (hX : gx_Ok X mi_x_E_slacked) {R : Int32 × gx_Wd} (hres : gx_res X = some (.inl R.1)) (hwr : gx_wr X = R.2) : ∀ (n : Nat) (b1 : Int32) (b2 : Int32) (w : gx_Wd), x_E_slacked_45 n b1 b2 w = some R → gx_G X mi_x_E_slacked 45 [some (.inr 0), some (.inl b1), some (.inl b2)] [] w := by
  intro n
  induction n with
  | zero => intro b1 b2 w h; rw [x_E_slacked_45] at h; cases h
  | succ n ih =>
    intro b1 b2 w h
    rw [x_E_slacked_45] at h
    refine gx_iload_n hX (gx_dt dt_mi_x_E_slacked 22 rfl) rfl ?_
    refine gx_aload_n hX (gx_dt dt_mi_x_E_slacked 23 rfl) rfl ?_
    refine gx_getr hX fl_E_10 sh_x_0 rfl (gx_dt dt_mi_x_E_slacked 24 rfl) ?_
    refine gx_geti hX fl_E_158 sh_x_1 rfl (gx_dt dt_mi_x_E_slacked 25 rfl) ?_
    refine gx_ic_ge hX (tgt := 85) (gx_dt dt_mi_x_E_slacked 26 rfl) (by decide) (fun c1 => ?_) (fun c1 => ?_)
    · have h := gx_ifp c1 h
      refine gx_iload_n hX (gx_dt dt_mi_x_E_slacked 44 rfl) rfl ?_
      obtain rfl := Option.some.inj h
      exact gx_iret hX (gx_dt dt_mi_x_E_slacked 45 rfl) rfl hres hwr
    · have h := gx_ifn c1 h
      refine gx_aload_n hX (gx_dt dt_mi_x_E_slacked 27 rfl) rfl ?_
      refine gx_getr hX fl_E_31 sh_x_0 rfl (gx_dt dt_mi_x_E_slacked 28 rfl) ?_
      refine gx_iconst hX (v := 1) (gx_dt dt_mi_x_E_slacked 29 rfl) (by decide) ?_
      refine gx_iload_n hX (gx_dt dt_mi_x_E_slacked 30 rfl) rfl ?_
      refine gx_ishl hX (gx_dt dt_mi_x_E_slacked 31 rfl) ?_
      obtain ⟨w2, e_w2, h⟩ := gx_bd h
      refine gx_putp hX fl_E_187 (pf_M_3 _) sh_x_22 rfl e_w2 (gx_dt dt_mi_x_E_slacked 32 rfl) ?_
      refine gx_aload_n hX (gx_dt dt_mi_x_E_slacked 33 rfl) rfl ?_
      obtain ⟨r3, e_r3, h⟩ := gx_bd h
      refine gx_callVi hX (gx_dt dt_mi_x_E_slacked 34 rfl) ln_E_203_x_E_firstUntrue mo_x_E_firstUntrue mv_x_E_firstUntrue (gx_rmb rfl) sh_x_0 ⟨_, _, rfl⟩ rfl (k_x_E_firstUntrue e_r3) rfl rfl (Nat.le_of_ble_eq_true rfl) ?_
      refine gx_if_ge hX (tgt := 79) (gx_dt dt_mi_x_E_slacked 35 rfl) (by decide) (fun c4 => ?_) (fun c4 => ?_)
      · have h := gx_ifp c4 h
        exact gx_weak (gx_leS (gx_leS (gx_leS gx_le0))) (t_x_E_slacked_79 hX hres hwr ih _ _ _ h)
      · have h := gx_ifn c4 h
        refine gx_iload_n hX (gx_dt dt_mi_x_E_slacked 36 rfl) rfl ?_
        refine gx_iconst hX (v := 1) (gx_dt dt_mi_x_E_slacked 37 rfl) (by decide) ?_
        refine gx_iload_n hX (gx_dt dt_mi_x_E_slacked 38 rfl) rfl ?_
        refine gx_ishl hX (gx_dt dt_mi_x_E_slacked 39 rfl) ?_
        refine gx_ior hX (gx_dt dt_mi_x_E_slacked 40 rfl) ?_
        obtain ⟨v5, e_v5, h⟩ := gx_bd h
        refine gx_top e_v5 ?_
        refine gx_istore_n hX (ls' := [some (.inr 0), some (.inl v5), some (.inl b2)]) (gx_dt dt_mi_x_E_slacked 41 rfl) (by decide) rfl ?_
        exact gx_weak (gx_leS (gx_leS (gx_leS gx_le0))) (t_x_E_slacked_79 hX hres hwr ih _ _ _ h)
theorem t_x_E_slacked_42 {X : gx_X} (hX : gx_Ok X mi_x_E_slacked) {R : Int32 × gx_Wd} (hres : gx_res X = some (.inl R.1)) (hwr : gx_wr X = R.2) (s0 : Int32) (w : gx_Wd) (h : x_E_slacked_42 s0 w = some R) : gx_G X mi_x_E_slacked 42 [some (.inr 0)] [.inl s0] w := by
  rw [x_E_slacked_42] at h
  refine gx_istore_n hX (ls' := [some (.inr 0), some (.inl s0)]) (gx_dt dt_mi_x_E_slacked 19 rfl) (by decide) rfl ?_
  refine gx_iconst hX (v := 0) (gx_dt dt_mi_x_E_slacked 20 rfl) (by decide) ?_
  refine gx_istore_n hX (ls' := [some (.inr 0), some (.inl s0), some (.inl (0))]) (gx_dt dt_mi_x_E_slacked 21 rfl) (by decide) rfl ?_
  exact gx_weak (gx_leS (gx_leS (gx_leS gx_le0))) (t_x_E_slacked_45 hX hres hwr _ _ _ _ h)
theorem k_x_E_slacked {w : gx_Wd} {R : Int32 × gx_Wd} (h : x_E_slacked w = some R) : gx_MT mi_x_E_slacked [.inr 0] w (some (.inl R.1)) R.2 := by
  refine gx_met (by decide +kernel) (Nat.le_of_ble_eq_true rfl) (fun X hX hres hwr => ?_)
  show gx_G X mi_x_E_slacked 0 [some (.inr 0)] [] w
  rw [x_E_slacked] at h
  refine gx_aload_n hX (gx_dt dt_mi_x_E_slacked 0 rfl) rfl ?_
  refine gx_geti hX fl_E_62 sh_x_0 rfl (gx_dt dt_mi_x_E_slacked 1 rfl) ?_
  refine gx_aload_n hX (gx_dt dt_mi_x_E_slacked 2 rfl) rfl ?_
  refine gx_getr hX fl_E_10 sh_x_0 rfl (gx_dt dt_mi_x_E_slacked 3 rfl) ?_
  refine gx_geti hX fl_E_158 sh_x_1 rfl (gx_dt dt_mi_x_E_slacked 4 rfl) ?_
  refine gx_ic_eq hX (tgt := 21) (gx_dt dt_mi_x_E_slacked 5 rfl) (by decide) (fun c1 => ?_) (fun c1 => ?_)
  · have h := gx_ifp c1 h
    refine gx_aload_n hX (gx_dt dt_mi_x_E_slacked 10 rfl) rfl ?_
    refine gx_getr hX fl_E_31 sh_x_0 rfl (gx_dt dt_mi_x_E_slacked 11 rfl) ?_
    obtain ⟨r2, e_r2, h⟩ := gx_bd h
    refine gx_callVv hX (gx_dt dt_mi_x_E_slacked 12 rfl) ln_E_115_x_M_asTold mo_x_M_asTold mv_x_M_asTold (gx_rmb rfl) sh_x_22 ⟨_, _, rfl⟩ rfl (k_x_M_asTold e_r2) rfl rfl (Nat.le_of_ble_eq_true rfl) ?_
    refine gx_aload_n hX (gx_dt dt_mi_x_E_slacked 13 rfl) rfl ?_
    obtain ⟨r3, e_r3, h⟩ := gx_bd h
    refine gx_callVi hX (gx_dt dt_mi_x_E_slacked 14 rfl) ln_E_203_x_E_firstUntrue mo_x_E_firstUntrue mv_x_E_firstUntrue (gx_rmb rfl) sh_x_0 ⟨_, _, rfl⟩ rfl (k_x_E_firstUntrue e_r3) rfl rfl (Nat.le_of_ble_eq_true rfl) ?_
    refine gx_if_ge hX (tgt := 41) (gx_dt dt_mi_x_E_slacked 15 rfl) (by decide) (fun c4 => ?_) (fun c4 => ?_)
    · have h := gx_ifp c4 h
      refine gx_iconst hX (v := 0) (gx_dt dt_mi_x_E_slacked 18 rfl) (by decide) ?_
      exact gx_weak (gx_leS gx_le0) (t_x_E_slacked_42 hX hres hwr _ _ h)
    · have h := gx_ifn c4 h
      refine gx_sipush hX (v := 128) (gx_dt dt_mi_x_E_slacked 16 rfl) (by decide) ?_
      refine gx_goto hX (tgt := 42) (gx_dt dt_mi_x_E_slacked 17 rfl) (by decide) ?_
      exact gx_weak (gx_leS gx_le0) (t_x_E_slacked_42 hX hres hwr _ _ h)
  · have h := gx_ifn c1 h
    refine gx_aload_n hX (gx_dt dt_mi_x_E_slacked 6 rfl) rfl ?_
    refine gx_bipush hX (v := (-3)) (gx_dt dt_mi_x_E_slacked 7 rfl) (by decide) ?_
    obtain ⟨r5, e_r5, h⟩ := gx_bd h
    refine gx_callVi hX (gx_dt dt_mi_x_E_slacked 8 rfl) ln_E_69_x_E_refuse mo_x_E_refuse mv_x_E_refuse (gx_rmb rfl) sh_x_0 ⟨_, _, rfl⟩ rfl (k_x_E_refuse e_r5) rfl rfl (Nat.le_of_ble_eq_true rfl) ?_
    obtain rfl := Option.some.inj h
    exact gx_iret hX (gx_dt dt_mi_x_E_slacked 9 rfl) rfl hres hwr
-- EachBearsPillar.judge()I
def x_E_judge_53 (b2 : Int32) (w : gx_Wd) : Option (Int32 × gx_Wd) :=
  (gx_put w 0 9 0).bind fun w1 =>
  some (b2, w1)
def x_E_judge (w : gx_Wd) : Option (Int32 × gx_Wd) :=
  (x_M_asTold w).bind fun r1 =>
  (x_E_firstUntrue r1).bind fun r2 =>
  if r2.1 < 0 then
    if r2.2 0 9 = r2.2 1 0 then
      x_E_judge_53 (-9) r2.2
    else
    (some (if r2.2 1 0 < r2.2 0 9 then r2.2 1 0 else r2.2 0 9)).bind fun v5 =>
    x_E_judge_53 v5 r2.2
  else
  x_E_judge_53 r2.1 r2.2
theorem t_x_E_judge_53 {X : gx_X} (hX : gx_Ok X mi_x_E_judge) {R : Int32 × gx_Wd} (hres : gx_res X = some (.inl R.1)) (hwr : gx_wr X = R.2) (b2 : Int32) (w : gx_Wd) (h : x_E_judge_53 b2 w = some R) : gx_G X mi_x_E_judge 53 [some (.inr 0), none, some (.inl b2)] [] w := by
  rw [x_E_judge_53] at h
  refine gx_aload_n hX (gx_dt dt_mi_x_E_judge 26 rfl) rfl ?_
  refine gx_iconst hX (v := 0) (gx_dt dt_mi_x_E_judge 27 rfl) (by decide) ?_
  obtain ⟨w1, e_w1, h⟩ := gx_bd h
  refine gx_putp hX fl_E_62 (pf_E_9 _) sh_x_0 rfl e_w1 (gx_dt dt_mi_x_E_judge 28 rfl) ?_
  refine gx_iload_n hX (gx_dt dt_mi_x_E_judge 29 rfl) rfl ?_
  obtain rfl := Option.some.inj h
  exact gx_iret hX (gx_dt dt_mi_x_E_judge 30 rfl) rfl hres hwr
theorem k_x_E_judge {w : gx_Wd} {R : Int32 × gx_Wd} (h : x_E_judge w = some R) : gx_MT mi_x_E_judge [.inr 0] w (some (.inl R.1)) R.2 := by
  refine gx_met (by decide +kernel) (Nat.le_of_ble_eq_true rfl) (fun X hX hres hwr => ?_)
  show gx_G X mi_x_E_judge 0 [some (.inr 0)] [] w
  rw [x_E_judge] at h
  refine gx_aload_n hX (gx_dt dt_mi_x_E_judge 0 rfl) rfl ?_
  refine gx_getr hX fl_E_31 sh_x_0 rfl (gx_dt dt_mi_x_E_judge 1 rfl) ?_
  obtain ⟨r1, e_r1, h⟩ := gx_bd h
  refine gx_callVv hX (gx_dt dt_mi_x_E_judge 2 rfl) ln_E_115_x_M_asTold mo_x_M_asTold mv_x_M_asTold (gx_rmb rfl) sh_x_22 ⟨_, _, rfl⟩ rfl (k_x_M_asTold e_r1) rfl rfl (Nat.le_of_ble_eq_true rfl) ?_
  refine gx_aload_n hX (gx_dt dt_mi_x_E_judge 3 rfl) rfl ?_
  obtain ⟨r2, e_r2, h⟩ := gx_bd h
  refine gx_callVi hX (gx_dt dt_mi_x_E_judge 4 rfl) ln_E_203_x_E_firstUntrue mo_x_E_firstUntrue mv_x_E_firstUntrue (gx_rmb rfl) sh_x_0 ⟨_, _, rfl⟩ rfl (k_x_E_firstUntrue e_r2) rfl rfl (Nat.le_of_ble_eq_true rfl) ?_
  refine gx_istore_n hX (ls' := [some (.inr 0), some (.inl (r2.1))]) (gx_dt dt_mi_x_E_judge 5 rfl) (by decide) rfl ?_
  refine gx_bipush hX (v := (-9)) (gx_dt dt_mi_x_E_judge 6 rfl) (by decide) ?_
  refine gx_istore_n hX (ls' := [some (.inr 0), some (.inl (r2.1)), some (.inl ((-9)))]) (gx_dt dt_mi_x_E_judge 7 rfl) (by decide) rfl ?_
  refine gx_iload_n hX (gx_dt dt_mi_x_E_judge 8 rfl) rfl ?_
  refine gx_if_lt hX (tgt := 24) (gx_dt dt_mi_x_E_judge 9 rfl) (by decide) (fun c3 => ?_) (fun c3 => ?_)
  · have h := gx_ifp c3 h
    refine gx_aload_n hX (gx_dt dt_mi_x_E_judge 13 rfl) rfl ?_
    refine gx_geti hX fl_E_62 sh_x_0 rfl (gx_dt dt_mi_x_E_judge 14 rfl) ?_
    refine gx_aload_n hX (gx_dt dt_mi_x_E_judge 15 rfl) rfl ?_
    refine gx_getr hX fl_E_10 sh_x_0 rfl (gx_dt dt_mi_x_E_judge 16 rfl) ?_
    refine gx_geti hX fl_E_158 sh_x_1 rfl (gx_dt dt_mi_x_E_judge 17 rfl) ?_
    refine gx_ic_eq hX (tgt := 53) (gx_dt dt_mi_x_E_judge 18 rfl) (by decide) (fun c4 => ?_) (fun c4 => ?_)
    · have h := gx_ifp c4 h
      exact gx_weak (gx_leS (gx_leN (gx_leS gx_le0))) (t_x_E_judge_53 hX hres hwr _ _ h)
    · have h := gx_ifn c4 h
      refine gx_aload_n hX (gx_dt dt_mi_x_E_judge 19 rfl) rfl ?_
      refine gx_geti hX fl_E_62 sh_x_0 rfl (gx_dt dt_mi_x_E_judge 20 rfl) ?_
      refine gx_aload_n hX (gx_dt dt_mi_x_E_judge 21 rfl) rfl ?_
      refine gx_getr hX fl_E_10 sh_x_0 rfl (gx_dt dt_mi_x_E_judge 22 rfl) ?_
      refine gx_geti hX fl_E_158 sh_x_1 rfl (gx_dt dt_mi_x_E_judge 23 rfl) ?_
      refine gx_min hX (gx_dt dt_mi_x_E_judge 24 rfl) wr_methodLink_E_206 w_min_static w_math_init w_min_code (Nat.le_of_ble_eq_true rfl) (Nat.le_of_ble_eq_true rfl) ?_
      obtain ⟨v5, e_v5, h⟩ := gx_bd h
      refine gx_top e_v5 ?_
      refine gx_istore_n hX (ls' := [some (.inr 0), some (.inl (r2.1)), some (.inl v5)]) (gx_dt dt_mi_x_E_judge 25 rfl) (by decide) rfl ?_
      exact gx_weak (gx_leS (gx_leN (gx_leS gx_le0))) (t_x_E_judge_53 hX hres hwr _ _ h)
  · have h := gx_ifn c3 h
    refine gx_iload_n hX (gx_dt dt_mi_x_E_judge 10 rfl) rfl ?_
    refine gx_istore_n hX (ls' := [some (.inr 0), some (.inl (r2.1)), some (.inl (r2.1))]) (gx_dt dt_mi_x_E_judge 11 rfl) (by decide) rfl ?_
    refine gx_goto hX (tgt := 53) (gx_dt dt_mi_x_E_judge 12 rfl) (by decide) ?_
    exact gx_weak (gx_leS (gx_leN (gx_leS gx_le0))) (t_x_E_judge_53 hX hres hwr _ _ h)
-- EachBearsPillar$Walk.visit(III)V
def x_W_visit (a1 : Int32) (a2 : Int32) (a3 : Int32) (w : gx_Wd) : Option (gx_Wd) :=
  if a1 < 0 then
    some w
  else
  (x_R_lastAt_1 w).bind fun r2 =>
  if r2.1 < a1 then
    some r2.2
  else
  if a2 < 0 then
    some r2.2
  else
  if a2 < 28 then
    (some ((a1 * 28) + a2)).bind fun v6 =>
    (x_E_cell 33 v6 r2.2).bind fun r7 =>
    if r7.1 < 0 then
      (gx_put r7.2 22 1 a1).bind fun w9 =>
      (gx_put w9 22 2 a2).bind fun w10 =>
      (x_M_isFirm w10).bind fun r11 =>
      if r11.1 = 0 then
        some r11.2
      else
      (x_E_setCell 34 (r11.2 32 3) v6 r11.2).bind fun r13 =>
      if r13.1 = 0 then
        some r13.2
      else
      (x_E_setCell 33 v6 a3 r13.2).bind fun r15 =>
      (gx_put r15.2 32 3 ((r15.2 32 3) + 1)).bind fun w16 =>
      some w16
    else
    some r7.2
  else
  some r2.2
theorem k_x_W_visit {a1 : Int32} {a2 : Int32} {a3 : Int32} {w : gx_Wd} {R : gx_Wd} (h : x_W_visit a1 a2 a3 w = some R) : gx_MT mi_x_W_visit [.inr 32, .inl a1, .inl a2, .inl a3] w none R := by
  refine gx_met (by decide +kernel) (Nat.le_of_ble_eq_true rfl) (fun X hX hres hwr => ?_)
  show gx_G X mi_x_W_visit 0 [some (.inr 32), some (.inl a1), some (.inl a2), some (.inl a3)] [] w
  rw [x_W_visit] at h
  refine gx_iload_n hX (gx_dt dt_mi_x_W_visit 0 rfl) rfl ?_
  refine gx_if_lt hX (tgt := 28) (gx_dt dt_mi_x_W_visit 1 rfl) (by decide) (fun c1 => ?_) (fun c1 => ?_)
  · have h := gx_ifp c1 h
    obtain rfl := Option.some.inj h
    exact gx_vret hX (gx_dt dt_mi_x_W_visit 13 rfl) rfl hres hwr
  · have h := gx_ifn c1 h
    refine gx_iload_n hX (gx_dt dt_mi_x_W_visit 2 rfl) rfl ?_
    refine gx_aload_n hX (gx_dt dt_mi_x_W_visit 3 rfl) rfl ?_
    refine gx_getr hX fl_W_9 sh_x_32 rfl (gx_dt dt_mi_x_W_visit 4 rfl) ?_
    refine gx_getr hX fl_W_30 sh_x_22 rfl (gx_dt dt_mi_x_W_visit 5 rfl) ?_
    obtain ⟨r2, e_r2, h⟩ := gx_bd h
    refine gx_callVi hX (gx_dt dt_mi_x_W_visit 6 rfl) ln_W_52_x_R_lastAt_1 mo_x_R_lastAt_1 mv_x_R_lastAt_1 (gx_rmb rfl) sh_x_1 ⟨_, _, rfl⟩ rfl (k_x_R_lastAt_1 e_r2) rfl rfl (Nat.le_of_ble_eq_true rfl) ?_
    refine gx_ic_gt hX (tgt := 28) (gx_dt dt_mi_x_W_visit 7 rfl) (by decide) (fun c3 => ?_) (fun c3 => ?_)
    · have h := gx_ifp c3 h
      obtain rfl := Option.some.inj h
      exact gx_vret hX (gx_dt dt_mi_x_W_visit 13 rfl) rfl hres hwr
    · have h := gx_ifn c3 h
      refine gx_iload_n hX (gx_dt dt_mi_x_W_visit 8 rfl) rfl ?_
      refine gx_if_lt hX (tgt := 28) (gx_dt dt_mi_x_W_visit 9 rfl) (by decide) (fun c4 => ?_) (fun c4 => ?_)
      · have h := gx_ifp c4 h
        obtain rfl := Option.some.inj h
        exact gx_vret hX (gx_dt dt_mi_x_W_visit 13 rfl) rfl hres hwr
      · have h := gx_ifn c4 h
        refine gx_iload_n hX (gx_dt dt_mi_x_W_visit 10 rfl) rfl ?_
        refine gx_bipush hX (v := 28) (gx_dt dt_mi_x_W_visit 11 rfl) (by decide) ?_
        refine gx_ic_lt hX (tgt := 29) (gx_dt dt_mi_x_W_visit 12 rfl) (by decide) (fun c5 => ?_) (fun c5 => ?_)
        · have h := gx_ifp c5 h
          refine gx_iload_n hX (gx_dt dt_mi_x_W_visit 14 rfl) rfl ?_
          refine gx_bipush hX (v := 28) (gx_dt dt_mi_x_W_visit 15 rfl) (by decide) ?_
          refine gx_imul hX (gx_dt dt_mi_x_W_visit 16 rfl) ?_
          refine gx_iload_n hX (gx_dt dt_mi_x_W_visit 17 rfl) rfl ?_
          refine gx_iadd hX (gx_dt dt_mi_x_W_visit 18 rfl) ?_
          obtain ⟨v6, e_v6, h⟩ := gx_bd h
          refine gx_top e_v6 ?_
          refine gx_istore hX (ls' := [some (.inr 32), some (.inl a1), some (.inl a2), some (.inl a3), some (.inl v6)]) (gx_dt dt_mi_x_W_visit 19 rfl) (by decide) rfl ?_
          refine gx_aload_n hX (gx_dt dt_mi_x_W_visit 20 rfl) rfl ?_
          refine gx_getr hX fl_W_15 sh_x_32 rfl (gx_dt dt_mi_x_W_visit 21 rfl) ?_
          refine gx_iload hX (gx_dt dt_mi_x_W_visit 22 rfl) rfl ?_
          obtain ⟨r7, e_r7, h⟩ := gx_bd h
          refine gx_callSi hX (gx_dt dt_mi_x_W_visit 23 rfl) ln_W_48_x_E_cell mo_x_E_cell ms_x_E_cell (gx_rmb rfl) rfl (k_x_E_cell e_r7) rfl rfl (Nat.le_of_ble_eq_true rfl) ?_
          refine gx_if_lt hX (tgt := 50) (gx_dt dt_mi_x_W_visit 24 rfl) (by decide) (fun c8 => ?_) (fun c8 => ?_)
          · have h := gx_ifp c8 h
            refine gx_aload_n hX (gx_dt dt_mi_x_W_visit 26 rfl) rfl ?_
            refine gx_getr hX fl_W_9 sh_x_32 rfl (gx_dt dt_mi_x_W_visit 27 rfl) ?_
            refine gx_iload_n hX (gx_dt dt_mi_x_W_visit 28 rfl) rfl ?_
            obtain ⟨w9, e_w9, h⟩ := gx_bd h
            refine gx_putp hX fl_W_56 (pf_M_1 _) sh_x_22 rfl e_w9 (gx_dt dt_mi_x_W_visit 29 rfl) ?_
            refine gx_aload_n hX (gx_dt dt_mi_x_W_visit 30 rfl) rfl ?_
            refine gx_getr hX fl_W_9 sh_x_32 rfl (gx_dt dt_mi_x_W_visit 31 rfl) ?_
            refine gx_iload_n hX (gx_dt dt_mi_x_W_visit 32 rfl) rfl ?_
            obtain ⟨w10, e_w10, h⟩ := gx_bd h
            refine gx_putp hX fl_W_57 (pf_M_2 _) sh_x_22 rfl e_w10 (gx_dt dt_mi_x_W_visit 33 rfl) ?_
            refine gx_aload_n hX (gx_dt dt_mi_x_W_visit 34 rfl) rfl ?_
            refine gx_getr hX fl_W_9 sh_x_32 rfl (gx_dt dt_mi_x_W_visit 35 rfl) ?_
            obtain ⟨r11, e_r11, h⟩ := gx_bd h
            refine gx_callVi hX (gx_dt dt_mi_x_W_visit 36 rfl) ln_W_58_x_M_isFirm mo_x_M_isFirm mv_x_M_isFirm (gx_rmb rfl) sh_x_22 ⟨_, _, rfl⟩ rfl (k_x_M_isFirm e_r11) rfl rfl (Nat.le_of_ble_eq_true rfl) ?_
            refine gx_if_eq hX (tgt := 113) (gx_dt dt_mi_x_W_visit 37 rfl) (by decide) (fun c12 => ?_) (fun c12 => ?_)
            · have h := gx_ifp c12 h
              obtain rfl := Option.some.inj h
              exact gx_vret hX (gx_dt dt_mi_x_W_visit 57 rfl) rfl hres hwr
            · have h := gx_ifn c12 h
              refine gx_aload_n hX (gx_dt dt_mi_x_W_visit 38 rfl) rfl ?_
              refine gx_getr hX fl_W_19 sh_x_32 rfl (gx_dt dt_mi_x_W_visit 39 rfl) ?_
              refine gx_aload_n hX (gx_dt dt_mi_x_W_visit 40 rfl) rfl ?_
              refine gx_geti hX fl_W_22 sh_x_32 rfl (gx_dt dt_mi_x_W_visit 41 rfl) ?_
              refine gx_iload hX (gx_dt dt_mi_x_W_visit 42 rfl) rfl ?_
              obtain ⟨r13, e_r13, h⟩ := gx_bd h
              refine gx_callSi hX (gx_dt dt_mi_x_W_visit 43 rfl) ln_W_26_x_E_setCell mo_x_E_setCell ms_x_E_setCell (gx_rmb rfl) rfl (k_x_E_setCell e_r13) rfl rfl (Nat.le_of_ble_eq_true rfl) ?_
              refine gx_if_eq hX (tgt := 113) (gx_dt dt_mi_x_W_visit 44 rfl) (by decide) (fun c14 => ?_) (fun c14 => ?_)
              · have h := gx_ifp c14 h
                obtain rfl := Option.some.inj h
                exact gx_vret hX (gx_dt dt_mi_x_W_visit 57 rfl) rfl hres hwr
              · have h := gx_ifn c14 h
                refine gx_aload_n hX (gx_dt dt_mi_x_W_visit 45 rfl) rfl ?_
                refine gx_getr hX fl_W_15 sh_x_32 rfl (gx_dt dt_mi_x_W_visit 46 rfl) ?_
                refine gx_iload hX (gx_dt dt_mi_x_W_visit 47 rfl) rfl ?_
                refine gx_iload_n hX (gx_dt dt_mi_x_W_visit 48 rfl) rfl ?_
                obtain ⟨r15, e_r15, h⟩ := gx_bd h
                refine gx_callSi hX (gx_dt dt_mi_x_W_visit 49 rfl) ln_W_26_x_E_setCell mo_x_E_setCell ms_x_E_setCell (gx_rmb rfl) rfl (k_x_E_setCell e_r15) rfl rfl (Nat.le_of_ble_eq_true rfl) ?_
                refine gx_pop hX (gx_dt dt_mi_x_W_visit 50 rfl) ?_
                refine gx_aload_n hX (gx_dt dt_mi_x_W_visit 51 rfl) rfl ?_
                refine gx_dup hX (gx_dt dt_mi_x_W_visit 52 rfl) ?_
                refine gx_geti hX fl_W_22 sh_x_32 rfl (gx_dt dt_mi_x_W_visit 53 rfl) ?_
                refine gx_iconst hX (v := 1) (gx_dt dt_mi_x_W_visit 54 rfl) (by decide) ?_
                refine gx_iadd hX (gx_dt dt_mi_x_W_visit 55 rfl) ?_
                obtain ⟨w16, e_w16, h⟩ := gx_bd h
                refine gx_putp hX fl_W_22 (pf_W_3 _) sh_x_32 rfl e_w16 (gx_dt dt_mi_x_W_visit 56 rfl) ?_
                obtain rfl := Option.some.inj h
                exact gx_vret hX (gx_dt dt_mi_x_W_visit 57 rfl) rfl hres hwr
          · have h := gx_ifn c8 h
            obtain rfl := Option.some.inj h
            exact gx_vret hX (gx_dt dt_mi_x_W_visit 25 rfl) rfl hres hwr
        · have h := gx_ifn c5 h
          obtain rfl := Option.some.inj h
          exact gx_vret hX (gx_dt dt_mi_x_W_visit 13 rfl) rfl hres hwr
-- EachBearsPillar$Walk.explore()V
def x_W_explore_60 : Nat → Int32 → gx_Wd → Option (gx_Wd)
  | 0, _, _ => none
  | n + 1, b1, w =>
  if w 32 3 ≤ b1 then
    some w
  else
  if 448 ≤ b1 then
    some w
  else
  (x_E_cell 34 b1 w).bind fun r3 =>
  (some (r3.1 / 28)).bind fun v4 =>
  (some (r3.1 - r3.1 / 28 * 28)).bind fun v5 =>
  (x_E_cell 33 r3.1 r3.2).bind fun r6 =>
  (some (r6.1 + 1)).bind fun v7 =>
  (x_W_visit (v4 - 1) v5 v7 r6.2).bind fun r8 =>
  (x_W_visit (v4 + 1) v5 v7 r8).bind fun r9 =>
  (x_W_visit v4 (v5 - 1) v7 r9).bind fun r10 =>
  (x_W_visit v4 (v5 + 1) v7 r10).bind fun r11 =>
  (some (b1 + 1)).bind fun v12 =>
  (x_W_explore_60 n) v12 r11
def x_W_explore_28 (w : gx_Wd) : Option (gx_Wd) :=
  (gx_put w 32 3 0).bind fun w1 =>
  (x_W_visit (w1 1 1) (w1 1 2) 0 w1).bind fun r2 =>
  x_W_explore_60 6000 0 r2
def x_W_explore_2 : Nat → Int32 → gx_Wd → Option (gx_Wd)
  | 0, _, _ => none
  | n + 1, b1, w =>
  if 448 ≤ b1 then
    x_W_explore_28 w
  else
  (x_E_setCell 33 b1 (-9) w).bind fun r2 =>
  (some (b1 + 1)).bind fun v3 =>
  (x_W_explore_2 n) v3 r2.2
def x_W_explore (w : gx_Wd) : Option (gx_Wd) :=
  x_W_explore_2 6000 0 w
theorem t_x_W_explore_60 {X : gx_X} (hX : gx_Ok X mi_x_W_explore) {R : gx_Wd} (hres : gx_res X = none) (hwr : gx_wr X = R) : ∀ (n : Nat) (b1 : Int32) (w : gx_Wd), x_W_explore_60 n b1 w = some R → gx_G X mi_x_W_explore 60 [some (.inr 32), some (.inl b1)] [] w := by
  intro n
  induction n with
  | zero => intro b1 w h; rw [x_W_explore_60] at h; cases h
  | succ n ih =>
    intro b1 w h
    rw [x_W_explore_60] at h
    refine gx_iload_n hX (gx_dt dt_mi_x_W_explore 31 rfl) rfl ?_
    refine gx_aload_n hX (gx_dt dt_mi_x_W_explore 32 rfl) rfl ?_
    refine gx_geti hX fl_W_22 sh_x_32 rfl (gx_dt dt_mi_x_W_explore 33 rfl) ?_
    refine gx_ic_ge hX (tgt := 159) (gx_dt dt_mi_x_W_explore 34 rfl) (by decide) (fun c1 => ?_) (fun c1 => ?_)
    · have h := gx_ifp c1 h
      obtain rfl := Option.some.inj h
      exact gx_vret hX (gx_dt dt_mi_x_W_explore 90 rfl) rfl hres hwr
    · have h := gx_ifn c1 h
      refine gx_iload_n hX (gx_dt dt_mi_x_W_explore 35 rfl) rfl ?_
      refine gx_aload_n hX (gx_dt dt_mi_x_W_explore 36 rfl) rfl ?_
      refine gx_getr hX fl_W_19 sh_x_32 rfl (gx_dt dt_mi_x_W_explore 37 rfl) ?_
      refine gx_alen hX (v := 448) rfl (gx_dt dt_mi_x_W_explore 38 rfl) ?_
      refine gx_ic_ge hX (tgt := 159) (gx_dt dt_mi_x_W_explore 39 rfl) (by decide) (fun c2 => ?_) (fun c2 => ?_)
      · have h := gx_ifp c2 h
        obtain rfl := Option.some.inj h
        exact gx_vret hX (gx_dt dt_mi_x_W_explore 90 rfl) rfl hres hwr
      · have h := gx_ifn c2 h
        refine gx_aload_n hX (gx_dt dt_mi_x_W_explore 40 rfl) rfl ?_
        refine gx_getr hX fl_W_19 sh_x_32 rfl (gx_dt dt_mi_x_W_explore 41 rfl) ?_
        refine gx_iload_n hX (gx_dt dt_mi_x_W_explore 42 rfl) rfl ?_
        obtain ⟨r3, e_r3, h⟩ := gx_bd h
        refine gx_callSi hX (gx_dt dt_mi_x_W_explore 43 rfl) ln_W_48_x_E_cell mo_x_E_cell ms_x_E_cell (gx_rmb rfl) rfl (k_x_E_cell e_r3) rfl rfl (Nat.le_of_ble_eq_true rfl) ?_
        refine gx_istore_n hX (ls' := [some (.inr 32), some (.inl b1), some (.inl (r3.1))]) (gx_dt dt_mi_x_W_explore 44 rfl) (by decide) rfl ?_
        refine gx_iload_n hX (gx_dt dt_mi_x_W_explore 45 rfl) rfl ?_
        refine gx_bipush hX (v := 28) (gx_dt dt_mi_x_W_explore 46 rfl) (by decide) ?_
        refine gx_idiv hX (gx_dt dt_mi_x_W_explore 47 rfl) (by decide) ?_
        obtain ⟨v4, e_v4, h⟩ := gx_bd h
        refine gx_top e_v4 ?_
        refine gx_istore_n hX (ls' := [some (.inr 32), some (.inl b1), some (.inl (r3.1)), some (.inl v4)]) (gx_dt dt_mi_x_W_explore 48 rfl) (by decide) rfl ?_
        refine gx_iload_n hX (gx_dt dt_mi_x_W_explore 49 rfl) rfl ?_
        refine gx_bipush hX (v := 28) (gx_dt dt_mi_x_W_explore 50 rfl) (by decide) ?_
        refine gx_irem hX (gx_dt dt_mi_x_W_explore 51 rfl) (by decide) ?_
        obtain ⟨v5, e_v5, h⟩ := gx_bd h
        refine gx_top e_v5 ?_
        refine gx_istore hX (ls' := [some (.inr 32), some (.inl b1), some (.inl (r3.1)), some (.inl v4), some (.inl v5)]) (gx_dt dt_mi_x_W_explore 52 rfl) (by decide) rfl ?_
        refine gx_aload_n hX (gx_dt dt_mi_x_W_explore 53 rfl) rfl ?_
        refine gx_getr hX fl_W_15 sh_x_32 rfl (gx_dt dt_mi_x_W_explore 54 rfl) ?_
        refine gx_iload_n hX (gx_dt dt_mi_x_W_explore 55 rfl) rfl ?_
        obtain ⟨r6, e_r6, h⟩ := gx_bd h
        refine gx_callSi hX (gx_dt dt_mi_x_W_explore 56 rfl) ln_W_48_x_E_cell mo_x_E_cell ms_x_E_cell (gx_rmb rfl) rfl (k_x_E_cell e_r6) rfl rfl (Nat.le_of_ble_eq_true rfl) ?_
        refine gx_iconst hX (v := 1) (gx_dt dt_mi_x_W_explore 57 rfl) (by decide) ?_
        refine gx_iadd hX (gx_dt dt_mi_x_W_explore 58 rfl) ?_
        obtain ⟨v7, e_v7, h⟩ := gx_bd h
        refine gx_top e_v7 ?_
        refine gx_istore hX (ls' := [some (.inr 32), some (.inl b1), some (.inl (r3.1)), some (.inl v4), some (.inl v5), some (.inl v7)]) (gx_dt dt_mi_x_W_explore 59 rfl) (by decide) rfl ?_
        refine gx_aload_n hX (gx_dt dt_mi_x_W_explore 60 rfl) rfl ?_
        refine gx_iload_n hX (gx_dt dt_mi_x_W_explore 61 rfl) rfl ?_
        refine gx_iconst hX (v := 1) (gx_dt dt_mi_x_W_explore 62 rfl) (by decide) ?_
        refine gx_isub hX (gx_dt dt_mi_x_W_explore 63 rfl) ?_
        refine gx_iload hX (gx_dt dt_mi_x_W_explore 64 rfl) rfl ?_
        refine gx_iload hX (gx_dt dt_mi_x_W_explore 65 rfl) rfl ?_
        obtain ⟨r8, e_r8, h⟩ := gx_bd h
        refine gx_callVv hX (gx_dt dt_mi_x_W_explore 66 rfl) ln_W_44_x_W_visit mo_x_W_visit mv_x_W_visit (gx_rmb rfl) sh_x_32 ⟨_, _, rfl⟩ rfl (k_x_W_visit e_r8) rfl rfl (Nat.le_of_ble_eq_true rfl) ?_
        refine gx_aload_n hX (gx_dt dt_mi_x_W_explore 67 rfl) rfl ?_
        refine gx_iload_n hX (gx_dt dt_mi_x_W_explore 68 rfl) rfl ?_
        refine gx_iconst hX (v := 1) (gx_dt dt_mi_x_W_explore 69 rfl) (by decide) ?_
        refine gx_iadd hX (gx_dt dt_mi_x_W_explore 70 rfl) ?_
        refine gx_iload hX (gx_dt dt_mi_x_W_explore 71 rfl) rfl ?_
        refine gx_iload hX (gx_dt dt_mi_x_W_explore 72 rfl) rfl ?_
        obtain ⟨r9, e_r9, h⟩ := gx_bd h
        refine gx_callVv hX (gx_dt dt_mi_x_W_explore 73 rfl) ln_W_44_x_W_visit mo_x_W_visit mv_x_W_visit (gx_rmb rfl) sh_x_32 ⟨_, _, rfl⟩ rfl (k_x_W_visit e_r9) rfl rfl (Nat.le_of_ble_eq_true rfl) ?_
        refine gx_aload_n hX (gx_dt dt_mi_x_W_explore 74 rfl) rfl ?_
        refine gx_iload_n hX (gx_dt dt_mi_x_W_explore 75 rfl) rfl ?_
        refine gx_iload hX (gx_dt dt_mi_x_W_explore 76 rfl) rfl ?_
        refine gx_iconst hX (v := 1) (gx_dt dt_mi_x_W_explore 77 rfl) (by decide) ?_
        refine gx_isub hX (gx_dt dt_mi_x_W_explore 78 rfl) ?_
        refine gx_iload hX (gx_dt dt_mi_x_W_explore 79 rfl) rfl ?_
        obtain ⟨r10, e_r10, h⟩ := gx_bd h
        refine gx_callVv hX (gx_dt dt_mi_x_W_explore 80 rfl) ln_W_44_x_W_visit mo_x_W_visit mv_x_W_visit (gx_rmb rfl) sh_x_32 ⟨_, _, rfl⟩ rfl (k_x_W_visit e_r10) rfl rfl (Nat.le_of_ble_eq_true rfl) ?_
        refine gx_aload_n hX (gx_dt dt_mi_x_W_explore 81 rfl) rfl ?_
        refine gx_iload_n hX (gx_dt dt_mi_x_W_explore 82 rfl) rfl ?_
        refine gx_iload hX (gx_dt dt_mi_x_W_explore 83 rfl) rfl ?_
        refine gx_iconst hX (v := 1) (gx_dt dt_mi_x_W_explore 84 rfl) (by decide) ?_
        refine gx_iadd hX (gx_dt dt_mi_x_W_explore 85 rfl) ?_
        refine gx_iload hX (gx_dt dt_mi_x_W_explore 86 rfl) rfl ?_
        obtain ⟨r11, e_r11, h⟩ := gx_bd h
        refine gx_callVv hX (gx_dt dt_mi_x_W_explore 87 rfl) ln_W_44_x_W_visit mo_x_W_visit mv_x_W_visit (gx_rmb rfl) sh_x_32 ⟨_, _, rfl⟩ rfl (k_x_W_visit e_r11) rfl rfl (Nat.le_of_ble_eq_true rfl) ?_
        obtain ⟨v12, e_v12, h⟩ := gx_bd h
        refine gx_iinc hX (v := v12) (ls' := [some (.inr 32), some (.inl v12), some (.inl (r3.1)), some (.inl v4), some (.inl v5), some (.inl v7)]) (gx_dt dt_mi_x_W_explore 88 rfl) rfl (gx_ii e_v12 (by decide)) (by decide) rfl ?_
        refine gx_goto hX (tgt := 60) (gx_dt dt_mi_x_W_explore 89 rfl) (by decide) ?_
        exact gx_weak (gx_leS (gx_leS gx_le0)) (ih _ _ h)
theorem t_x_W_explore_28 {X : gx_X} (hX : gx_Ok X mi_x_W_explore) {R : gx_Wd} (hres : gx_res X = none) (hwr : gx_wr X = R) (w : gx_Wd) (h : x_W_explore_28 w = some R) : gx_G X mi_x_W_explore 28 [some (.inr 32)] [] w := by
  rw [x_W_explore_28] at h
  refine gx_aload_n hX (gx_dt dt_mi_x_W_explore 15 rfl) rfl ?_
  refine gx_iconst hX (v := 0) (gx_dt dt_mi_x_W_explore 16 rfl) (by decide) ?_
  obtain ⟨w1, e_w1, h⟩ := gx_bd h
  refine gx_putp hX fl_W_22 (pf_W_3 _) sh_x_32 rfl e_w1 (gx_dt dt_mi_x_W_explore 17 rfl) ?_
  refine gx_aload_n hX (gx_dt dt_mi_x_W_explore 18 rfl) rfl ?_
  refine gx_aload_n hX (gx_dt dt_mi_x_W_explore 19 rfl) rfl ?_
  refine gx_getr hX fl_W_9 sh_x_32 rfl (gx_dt dt_mi_x_W_explore 20 rfl) ?_
  refine gx_getr hX fl_W_30 sh_x_22 rfl (gx_dt dt_mi_x_W_explore 21 rfl) ?_
  refine gx_geti hX fl_W_36 sh_x_1 rfl (gx_dt dt_mi_x_W_explore 22 rfl) ?_
  refine gx_aload_n hX (gx_dt dt_mi_x_W_explore 23 rfl) rfl ?_
  refine gx_getr hX fl_W_9 sh_x_32 rfl (gx_dt dt_mi_x_W_explore 24 rfl) ?_
  refine gx_getr hX fl_W_30 sh_x_22 rfl (gx_dt dt_mi_x_W_explore 25 rfl) ?_
  refine gx_geti hX fl_W_41 sh_x_1 rfl (gx_dt dt_mi_x_W_explore 26 rfl) ?_
  refine gx_iconst hX (v := 0) (gx_dt dt_mi_x_W_explore 27 rfl) (by decide) ?_
  obtain ⟨r2, e_r2, h⟩ := gx_bd h
  refine gx_callVv hX (gx_dt dt_mi_x_W_explore 28 rfl) ln_W_44_x_W_visit mo_x_W_visit mv_x_W_visit (gx_rmb rfl) sh_x_32 ⟨_, _, rfl⟩ rfl (k_x_W_visit e_r2) rfl rfl (Nat.le_of_ble_eq_true rfl) ?_
  refine gx_iconst hX (v := 0) (gx_dt dt_mi_x_W_explore 29 rfl) (by decide) ?_
  refine gx_istore_n hX (ls' := [some (.inr 32), some (.inl (0))]) (gx_dt dt_mi_x_W_explore 30 rfl) (by decide) rfl ?_
  exact gx_weak (gx_leS (gx_leS gx_le0)) (t_x_W_explore_60 hX hres hwr _ _ _ h)
theorem t_x_W_explore_2 {X : gx_X} (hX : gx_Ok X mi_x_W_explore) {R : gx_Wd} (hres : gx_res X = none) (hwr : gx_wr X = R) : ∀ (n : Nat) (b1 : Int32) (w : gx_Wd), x_W_explore_2 n b1 w = some R → gx_G X mi_x_W_explore 2 [some (.inr 32), some (.inl b1)] [] w := by
  intro n
  induction n with
  | zero => intro b1 w h; rw [x_W_explore_2] at h; cases h
  | succ n ih =>
    intro b1 w h
    rw [x_W_explore_2] at h
    refine gx_iload_n hX (gx_dt dt_mi_x_W_explore 2 rfl) rfl ?_
    refine gx_aload_n hX (gx_dt dt_mi_x_W_explore 3 rfl) rfl ?_
    refine gx_getr hX fl_W_15 sh_x_32 rfl (gx_dt dt_mi_x_W_explore 4 rfl) ?_
    refine gx_alen hX (v := 448) rfl (gx_dt dt_mi_x_W_explore 5 rfl) ?_
    refine gx_ic_ge hX (tgt := 28) (gx_dt dt_mi_x_W_explore 6 rfl) (by decide) (fun c1 => ?_) (fun c1 => ?_)
    · have h := gx_ifp c1 h
      exact gx_weak (gx_leS gx_le0) (t_x_W_explore_28 hX hres hwr _ h)
    · have h := gx_ifn c1 h
      refine gx_aload_n hX (gx_dt dt_mi_x_W_explore 7 rfl) rfl ?_
      refine gx_getr hX fl_W_15 sh_x_32 rfl (gx_dt dt_mi_x_W_explore 8 rfl) ?_
      refine gx_iload_n hX (gx_dt dt_mi_x_W_explore 9 rfl) rfl ?_
      refine gx_bipush hX (v := (-9)) (gx_dt dt_mi_x_W_explore 10 rfl) (by decide) ?_
      obtain ⟨r2, e_r2, h⟩ := gx_bd h
      refine gx_callSi hX (gx_dt dt_mi_x_W_explore 11 rfl) ln_W_26_x_E_setCell mo_x_E_setCell ms_x_E_setCell (gx_rmb rfl) rfl (k_x_E_setCell e_r2) rfl rfl (Nat.le_of_ble_eq_true rfl) ?_
      refine gx_pop hX (gx_dt dt_mi_x_W_explore 12 rfl) ?_
      obtain ⟨v3, e_v3, h⟩ := gx_bd h
      refine gx_iinc hX (v := v3) (ls' := [some (.inr 32), some (.inl v3)]) (gx_dt dt_mi_x_W_explore 13 rfl) rfl (gx_ii e_v3 (by decide)) (by decide) rfl ?_
      refine gx_goto hX (tgt := 2) (gx_dt dt_mi_x_W_explore 14 rfl) (by decide) ?_
      exact gx_weak (gx_leS (gx_leS gx_le0)) (ih _ _ h)
theorem k_x_W_explore {w : gx_Wd} {R : gx_Wd} (h : x_W_explore w = some R) : gx_MT mi_x_W_explore [.inr 32] w none R := by
  refine gx_met (by decide +kernel) (Nat.le_of_ble_eq_true rfl) (fun X hX hres hwr => ?_)
  show gx_G X mi_x_W_explore 0 [some (.inr 32)] [] w
  rw [x_W_explore] at h
  refine gx_iconst hX (v := 0) (gx_dt dt_mi_x_W_explore 0 rfl) (by decide) ?_
  refine gx_istore_n hX (ls' := [some (.inr 32), some (.inl (0))]) (gx_dt dt_mi_x_W_explore 1 rfl) (by decide) rfl ?_
  exact gx_weak (gx_leS (gx_leS gx_le0)) (t_x_W_explore_2 hX hres hwr _ _ _ h)
end
section
-- EachBearsPillar$Walk.minutesTo(II)I
def x_W_minutesTo (a1 : Int32) (a2 : Int32) (w : gx_Wd) : Option (Int32 × gx_Wd) :=
  (x_E_cell 33 ((a1 * 28) + a2) w).bind fun r1 =>
  some (r1.1, r1.2)
theorem k_x_W_minutesTo {a1 : Int32} {a2 : Int32} {w : gx_Wd} {R : Int32 × gx_Wd} (h : x_W_minutesTo a1 a2 w = some R) : gx_MT mi_x_W_minutesTo [.inr 32, .inl a1, .inl a2] w (some (.inl R.1)) R.2 := by
  refine gx_met (by decide +kernel) (Nat.le_of_ble_eq_true rfl) (fun X hX hres hwr => ?_)
  show gx_G X mi_x_W_minutesTo 0 [some (.inr 32), some (.inl a1), some (.inl a2)] [] w
  rw [x_W_minutesTo] at h
  refine gx_aload_n hX (gx_dt dt_mi_x_W_minutesTo 0 rfl) rfl ?_
  refine gx_getr hX fl_W_15 sh_x_32 rfl (gx_dt dt_mi_x_W_minutesTo 1 rfl) ?_
  refine gx_iload_n hX (gx_dt dt_mi_x_W_minutesTo 2 rfl) rfl ?_
  refine gx_bipush hX (v := 28) (gx_dt dt_mi_x_W_minutesTo 3 rfl) (by decide) ?_
  refine gx_imul hX (gx_dt dt_mi_x_W_minutesTo 4 rfl) ?_
  refine gx_iload_n hX (gx_dt dt_mi_x_W_minutesTo 5 rfl) rfl ?_
  refine gx_iadd hX (gx_dt dt_mi_x_W_minutesTo 6 rfl) ?_
  obtain ⟨r1, e_r1, h⟩ := gx_bd h
  refine gx_callSi hX (gx_dt dt_mi_x_W_minutesTo 7 rfl) ln_W_48_x_E_cell mo_x_E_cell ms_x_E_cell (gx_rmb rfl) rfl (k_x_E_cell e_r1) rfl rfl (Nat.le_of_ble_eq_true rfl) ?_
  obtain rfl := Option.some.inj h
  exact gx_iret hX (gx_dt dt_mi_x_W_minutesTo 8 rfl) rfl hres hwr
-- EachBearsPillar$Walk.fewestTo(I)I
def x_W_fewestTo_37 (K5 : Int32 → Int32 → Int32 → gx_Wd → Option (Int32 × gx_Wd)) (b1 : Int32) (b2 : Int32) (b3 : Int32) (w : gx_Wd) : Option (Int32 × gx_Wd) :=
  (some (b3 + 1)).bind fun v1 =>
  K5 b1 b2 v1 w
def x_W_fewestTo_34 (K5 : Int32 → Int32 → Int32 → gx_Wd → Option (Int32 × gx_Wd)) (b1 : Int32) (b3 : Int32) (b4 : Int32) (w : gx_Wd) : Option (Int32 × gx_Wd) :=
  x_W_fewestTo_37 K5 b1 b4 b3 w
def x_W_fewestTo_5 : Nat → Int32 → Int32 → Int32 → gx_Wd → Option (Int32 × gx_Wd)
  | 0, _, _, _, _ => none
  | n + 1, b1, b2, b3, w =>
  if 28 ≤ b3 then
    some (b2, w)
  else
  (x_W_minutesTo b1 b3 w).bind fun r2 =>
  if r2.1 < 0 then
    x_W_fewestTo_37 (x_W_fewestTo_5 n) b1 b2 b3 r2.2
  else
  if b2 < 0 then
    x_W_fewestTo_34 (x_W_fewestTo_5 n) b1 b3 r2.1 r2.2
  else
  if b2 ≤ r2.1 then
    x_W_fewestTo_37 (x_W_fewestTo_5 n) b1 b2 b3 r2.2
  else
  x_W_fewestTo_34 (x_W_fewestTo_5 n) b1 b3 r2.1 r2.2
def x_W_fewestTo (a1 : Int32) (w : gx_Wd) : Option (Int32 × gx_Wd) :=
  x_W_fewestTo_5 6000 a1 (-9) 0 w
theorem t_x_W_fewestTo_37 {X : gx_X} (hX : gx_Ok X mi_x_W_fewestTo) {R : Int32 × gx_Wd} (hres : gx_res X = some (.inl R.1)) (hwr : gx_wr X = R.2) {K5 : Int32 → Int32 → Int32 → gx_Wd → Option (Int32 × gx_Wd)} (hK5 : ∀ (b1 : Int32) (b2 : Int32) (b3 : Int32) (w : gx_Wd), K5 b1 b2 b3 w = some R → gx_G X mi_x_W_fewestTo 5 [some (.inr 32), some (.inl b1), some (.inl b2), some (.inl b3)] [] w) (b1 : Int32) (b2 : Int32) (b3 : Int32) (w : gx_Wd) (h : x_W_fewestTo_37 K5 b1 b2 b3 w = some R) : gx_G X mi_x_W_fewestTo 37 [some (.inr 32), some (.inl b1), some (.inl b2), some (.inl b3)] [] w := by
  rw [x_W_fewestTo_37] at h
  obtain ⟨v1, e_v1, h⟩ := gx_bd h
  refine gx_iinc hX (v := v1) (ls' := [some (.inr 32), some (.inl b1), some (.inl b2), some (.inl v1)]) (gx_dt dt_mi_x_W_fewestTo 21 rfl) rfl (gx_ii e_v1 (by decide)) (by decide) rfl ?_
  refine gx_goto hX (tgt := 5) (gx_dt dt_mi_x_W_fewestTo 22 rfl) (by decide) ?_
  exact gx_weak (gx_leS (gx_leS (gx_leS (gx_leS gx_le0)))) (hK5 _ _ _ _ h)
theorem t_x_W_fewestTo_34 {X : gx_X} (hX : gx_Ok X mi_x_W_fewestTo) {R : Int32 × gx_Wd} (hres : gx_res X = some (.inl R.1)) (hwr : gx_wr X = R.2) {K5 : Int32 → Int32 → Int32 → gx_Wd → Option (Int32 × gx_Wd)} (hK5 : ∀ (b1 : Int32) (b2 : Int32) (b3 : Int32) (w : gx_Wd), K5 b1 b2 b3 w = some R → gx_G X mi_x_W_fewestTo 5 [some (.inr 32), some (.inl b1), some (.inl b2), some (.inl b3)] [] w) (b1 : Int32) (b3 : Int32) (b4 : Int32) (w : gx_Wd) (h : x_W_fewestTo_34 K5 b1 b3 b4 w = some R) : gx_G X mi_x_W_fewestTo 34 [some (.inr 32), some (.inl b1), none, some (.inl b3), some (.inl b4)] [] w := by
  rw [x_W_fewestTo_34] at h
  refine gx_iload hX (gx_dt dt_mi_x_W_fewestTo 19 rfl) rfl ?_
  refine gx_istore_n hX (ls' := [some (.inr 32), some (.inl b1), some (.inl b4), some (.inl b3), some (.inl b4)]) (gx_dt dt_mi_x_W_fewestTo 20 rfl) (by decide) rfl ?_
  exact gx_weak (gx_leS (gx_leS (gx_leS (gx_leS gx_le0)))) (t_x_W_fewestTo_37 hX hres hwr hK5 _ _ _ _ h)
theorem t_x_W_fewestTo_5 {X : gx_X} (hX : gx_Ok X mi_x_W_fewestTo) {R : Int32 × gx_Wd} (hres : gx_res X = some (.inl R.1)) (hwr : gx_wr X = R.2) : ∀ (n : Nat) (b1 : Int32) (b2 : Int32) (b3 : Int32) (w : gx_Wd), x_W_fewestTo_5 n b1 b2 b3 w = some R → gx_G X mi_x_W_fewestTo 5 [some (.inr 32), some (.inl b1), some (.inl b2), some (.inl b3)] [] w := by
  intro n
  induction n with
  | zero => intro b1 b2 b3 w h; rw [x_W_fewestTo_5] at h; cases h
  | succ n ih =>
    intro b1 b2 b3 w h
    rw [x_W_fewestTo_5] at h
    refine gx_iload_n hX (gx_dt dt_mi_x_W_fewestTo 4 rfl) rfl ?_
    refine gx_bipush hX (v := 28) (gx_dt dt_mi_x_W_fewestTo 5 rfl) (by decide) ?_
    refine gx_ic_ge hX (tgt := 43) (gx_dt dt_mi_x_W_fewestTo 6 rfl) (by decide) (fun c1 => ?_) (fun c1 => ?_)
    · have h := gx_ifp c1 h
      refine gx_iload_n hX (gx_dt dt_mi_x_W_fewestTo 23 rfl) rfl ?_
      obtain rfl := Option.some.inj h
      exact gx_iret hX (gx_dt dt_mi_x_W_fewestTo 24 rfl) rfl hres hwr
    · have h := gx_ifn c1 h
      refine gx_aload_n hX (gx_dt dt_mi_x_W_fewestTo 7 rfl) rfl ?_
      refine gx_iload_n hX (gx_dt dt_mi_x_W_fewestTo 8 rfl) rfl ?_
      refine gx_iload_n hX (gx_dt dt_mi_x_W_fewestTo 9 rfl) rfl ?_
      obtain ⟨r2, e_r2, h⟩ := gx_bd h
      refine gx_callVi hX (gx_dt dt_mi_x_W_fewestTo 10 rfl) ln_W_62_x_W_minutesTo mo_x_W_minutesTo mv_x_W_minutesTo (gx_rmb rfl) sh_x_32 ⟨_, _, rfl⟩ rfl (k_x_W_minutesTo e_r2) rfl rfl (Nat.le_of_ble_eq_true rfl) ?_
      refine gx_istore hX (ls' := [some (.inr 32), some (.inl b1), some (.inl b2), some (.inl b3), some (.inl (r2.1))]) (gx_dt dt_mi_x_W_fewestTo 11 rfl) (by decide) rfl ?_
      refine gx_iload hX (gx_dt dt_mi_x_W_fewestTo 12 rfl) rfl ?_
      refine gx_if_lt hX (tgt := 37) (gx_dt dt_mi_x_W_fewestTo 13 rfl) (by decide) (fun c3 => ?_) (fun c3 => ?_)
      · have h := gx_ifp c3 h
        exact gx_weak (gx_leS (gx_leS (gx_leS (gx_leS gx_le0)))) (t_x_W_fewestTo_37 hX hres hwr ih _ _ _ _ h)
      · have h := gx_ifn c3 h
        refine gx_iload_n hX (gx_dt dt_mi_x_W_fewestTo 14 rfl) rfl ?_
        refine gx_if_lt hX (tgt := 34) (gx_dt dt_mi_x_W_fewestTo 15 rfl) (by decide) (fun c4 => ?_) (fun c4 => ?_)
        · have h := gx_ifp c4 h
          exact gx_weak (gx_leS (gx_leS (gx_leN (gx_leS (gx_leS gx_le0))))) (t_x_W_fewestTo_34 hX hres hwr ih _ _ _ _ h)
        · have h := gx_ifn c4 h
          refine gx_iload hX (gx_dt dt_mi_x_W_fewestTo 16 rfl) rfl ?_
          refine gx_iload_n hX (gx_dt dt_mi_x_W_fewestTo 17 rfl) rfl ?_
          refine gx_ic_ge hX (tgt := 37) (gx_dt dt_mi_x_W_fewestTo 18 rfl) (by decide) (fun c5 => ?_) (fun c5 => ?_)
          · have h := gx_ifp c5 h
            exact gx_weak (gx_leS (gx_leS (gx_leS (gx_leS gx_le0)))) (t_x_W_fewestTo_37 hX hres hwr ih _ _ _ _ h)
          · have h := gx_ifn c5 h
            exact gx_weak (gx_leS (gx_leS (gx_leN (gx_leS (gx_leS gx_le0))))) (t_x_W_fewestTo_34 hX hres hwr ih _ _ _ _ h)
theorem k_x_W_fewestTo {a1 : Int32} {w : gx_Wd} {R : Int32 × gx_Wd} (h : x_W_fewestTo a1 w = some R) : gx_MT mi_x_W_fewestTo [.inr 32, .inl a1] w (some (.inl R.1)) R.2 := by
  refine gx_met (by decide +kernel) (Nat.le_of_ble_eq_true rfl) (fun X hX hres hwr => ?_)
  show gx_G X mi_x_W_fewestTo 0 [some (.inr 32), some (.inl a1)] [] w
  rw [x_W_fewestTo] at h
  refine gx_bipush hX (v := (-9)) (gx_dt dt_mi_x_W_fewestTo 0 rfl) (by decide) ?_
  refine gx_istore_n hX (ls' := [some (.inr 32), some (.inl a1), some (.inl ((-9)))]) (gx_dt dt_mi_x_W_fewestTo 1 rfl) (by decide) rfl ?_
  refine gx_iconst hX (v := 0) (gx_dt dt_mi_x_W_fewestTo 2 rfl) (by decide) ?_
  refine gx_istore_n hX (ls' := [some (.inr 32), some (.inl a1), some (.inl ((-9))), some (.inl (0))]) (gx_dt dt_mi_x_W_fewestTo 3 rfl) (by decide) rfl ?_
  exact gx_weak (gx_leS (gx_leS (gx_leS (gx_leS gx_le0)))) (t_x_W_fewestTo_5 hX hres hwr _ _ _ _ _ h)
-- EachBearsPillar.way(I)I
def x_E_way (a1 : Int32) (w : gx_Wd) : Option (Int32 × gx_Wd) :=
  if 0 ≤ a1 then
    (x_R_lastAt_1 w).bind fun r2 =>
    if a1 ≤ r2.1 then
      (x_M_asTold r2.2).bind fun r4 =>
      (x_W_explore r4).bind fun r5 =>
      (x_W_fewestTo a1 r5).bind fun r6 =>
      some (r6.1, r6.2)
    else
    (x_E_refuse (-6) r2.2).bind fun r7 =>
    some (r7.1, r7.2)
  else
  (x_E_refuse (-4) w).bind fun r8 =>
  some (r8.1, r8.2)
theorem k_x_E_way {a1 : Int32} {w : gx_Wd} {R : Int32 × gx_Wd} (h : x_E_way a1 w = some R) : gx_MT mi_x_E_way [.inr 0, .inl a1] w (some (.inl R.1)) R.2 := by
  refine gx_met (by decide +kernel) (Nat.le_of_ble_eq_true rfl) (fun X hX hres hwr => ?_)
  show gx_G X mi_x_E_way 0 [some (.inr 0), some (.inl a1)] [] w
  rw [x_E_way] at h
  refine gx_iload_n hX (gx_dt dt_mi_x_E_way 0 rfl) rfl ?_
  refine gx_if_ge hX (tgt := 11) (gx_dt dt_mi_x_E_way 1 rfl) (by decide) (fun c1 => ?_) (fun c1 => ?_)
  · have h := gx_ifp c1 h
    refine gx_iload_n hX (gx_dt dt_mi_x_E_way 6 rfl) rfl ?_
    refine gx_aload_n hX (gx_dt dt_mi_x_E_way 7 rfl) rfl ?_
    refine gx_getr hX fl_E_10 sh_x_0 rfl (gx_dt dt_mi_x_E_way 8 rfl) ?_
    obtain ⟨r2, e_r2, h⟩ := gx_bd h
    refine gx_callVi hX (gx_dt dt_mi_x_E_way 9 rfl) ln_E_109_x_R_lastAt_1 mo_x_R_lastAt_1 mv_x_R_lastAt_1 (gx_rmb rfl) sh_x_1 ⟨_, _, rfl⟩ rfl (k_x_R_lastAt_1 e_r2) rfl rfl (Nat.le_of_ble_eq_true rfl) ?_
    refine gx_ic_le hX (tgt := 29) (gx_dt dt_mi_x_E_way 10 rfl) (by decide) (fun c3 => ?_) (fun c3 => ?_)
    · have h := gx_ifp c3 h
      refine gx_aload_n hX (gx_dt dt_mi_x_E_way 15 rfl) rfl ?_
      refine gx_getr hX fl_E_31 sh_x_0 rfl (gx_dt dt_mi_x_E_way 16 rfl) ?_
      obtain ⟨r4, e_r4, h⟩ := gx_bd h
      refine gx_callVv hX (gx_dt dt_mi_x_E_way 17 rfl) ln_E_115_x_M_asTold mo_x_M_asTold mv_x_M_asTold (gx_rmb rfl) sh_x_22 ⟨_, _, rfl⟩ rfl (k_x_M_asTold e_r4) rfl rfl (Nat.le_of_ble_eq_true rfl) ?_
      refine gx_aload_n hX (gx_dt dt_mi_x_E_way 18 rfl) rfl ?_
      refine gx_getr hX fl_E_47 sh_x_0 rfl (gx_dt dt_mi_x_E_way 19 rfl) ?_
      obtain ⟨r5, e_r5, h⟩ := gx_bd h
      refine gx_callVv hX (gx_dt dt_mi_x_E_way 20 rfl) ln_E_211_x_W_explore mo_x_W_explore mv_x_W_explore (gx_rmb rfl) sh_x_32 ⟨_, _, rfl⟩ rfl (k_x_W_explore e_r5) rfl rfl (Nat.le_of_ble_eq_true rfl) ?_
      refine gx_aload_n hX (gx_dt dt_mi_x_E_way 21 rfl) rfl ?_
      refine gx_getr hX fl_E_47 sh_x_0 rfl (gx_dt dt_mi_x_E_way 22 rfl) ?_
      refine gx_iload_n hX (gx_dt dt_mi_x_E_way 23 rfl) rfl ?_
      obtain ⟨r6, e_r6, h⟩ := gx_bd h
      refine gx_callVi hX (gx_dt dt_mi_x_E_way 24 rfl) ln_E_214_x_W_fewestTo mo_x_W_fewestTo mv_x_W_fewestTo (gx_rmb rfl) sh_x_32 ⟨_, _, rfl⟩ rfl (k_x_W_fewestTo e_r6) rfl rfl (Nat.le_of_ble_eq_true rfl) ?_
      obtain rfl := Option.some.inj h
      exact gx_iret hX (gx_dt dt_mi_x_E_way 25 rfl) rfl hres hwr
    · have h := gx_ifn c3 h
      refine gx_aload_n hX (gx_dt dt_mi_x_E_way 11 rfl) rfl ?_
      refine gx_bipush hX (v := (-6)) (gx_dt dt_mi_x_E_way 12 rfl) (by decide) ?_
      obtain ⟨r7, e_r7, h⟩ := gx_bd h
      refine gx_callVi hX (gx_dt dt_mi_x_E_way 13 rfl) ln_E_69_x_E_refuse mo_x_E_refuse mv_x_E_refuse (gx_rmb rfl) sh_x_0 ⟨_, _, rfl⟩ rfl (k_x_E_refuse e_r7) rfl rfl (Nat.le_of_ble_eq_true rfl) ?_
      obtain rfl := Option.some.inj h
      exact gx_iret hX (gx_dt dt_mi_x_E_way 14 rfl) rfl hres hwr
  · have h := gx_ifn c1 h
    refine gx_aload_n hX (gx_dt dt_mi_x_E_way 2 rfl) rfl ?_
    refine gx_bipush hX (v := (-4)) (gx_dt dt_mi_x_E_way 3 rfl) (by decide) ?_
    obtain ⟨r8, e_r8, h⟩ := gx_bd h
    refine gx_callVi hX (gx_dt dt_mi_x_E_way 4 rfl) ln_E_69_x_E_refuse mo_x_E_refuse mv_x_E_refuse (gx_rmb rfl) sh_x_0 ⟨_, _, rfl⟩ rfl (k_x_E_refuse e_r8) rfl rfl (Nat.le_of_ble_eq_true rfl) ?_
    obtain rfl := Option.some.inj h
    exact gx_iret hX (gx_dt dt_mi_x_E_way 5 rfl) rfl hres hwr
-- EachBearsPillar$Walk.reachedWithin(I)I
def x_W_reachedWithin_34 (K4 : Int32 → Int32 → Int32 → gx_Wd → Option (Int32 × gx_Wd)) (b1 : Int32) (b2 : Int32) (b3 : Int32) (w : gx_Wd) : Option (Int32 × gx_Wd) :=
  (some (b3 + 1)).bind fun v1 =>
  K4 b1 b2 v1 w
def x_W_reachedWithin_4 : Nat → Int32 → Int32 → Int32 → gx_Wd → Option (Int32 × gx_Wd)
  | 0, _, _, _, _ => none
  | n + 1, b1, b2, b3, w =>
  if 16 ≤ b3 then
    some (b2, w)
  else
  (x_W_fewestTo b3 w).bind fun r2 =>
  if r2.1 < 0 then
    x_W_reachedWithin_34 (x_W_reachedWithin_4 n) b1 b2 b3 r2.2
  else
  if b1 < r2.1 then
    x_W_reachedWithin_34 (x_W_reachedWithin_4 n) b1 b2 b3 r2.2
  else
  (some (b2 ||| (1 <<< (b3 &&& 31)))).bind fun v5 =>
  x_W_reachedWithin_34 (x_W_reachedWithin_4 n) b1 v5 b3 r2.2
def x_W_reachedWithin (a1 : Int32) (w : gx_Wd) : Option (Int32 × gx_Wd) :=
  x_W_reachedWithin_4 6000 a1 0 0 w
theorem t_x_W_reachedWithin_34 {X : gx_X} (hX : gx_Ok X mi_x_W_reachedWithin) {R : Int32 × gx_Wd} (hres : gx_res X = some (.inl R.1)) (hwr : gx_wr X = R.2) {K4 : Int32 → Int32 → Int32 → gx_Wd → Option (Int32 × gx_Wd)} (hK4 : ∀ (b1 : Int32) (b2 : Int32) (b3 : Int32) (w : gx_Wd), K4 b1 b2 b3 w = some R → gx_G X mi_x_W_reachedWithin 4 [some (.inr 32), some (.inl b1), some (.inl b2), some (.inl b3)] [] w) (b1 : Int32) (b2 : Int32) (b3 : Int32) (w : gx_Wd) (h : x_W_reachedWithin_34 K4 b1 b2 b3 w = some R) : gx_G X mi_x_W_reachedWithin 34 [some (.inr 32), some (.inl b1), some (.inl b2), some (.inl b3)] [] w := by
  rw [x_W_reachedWithin_34] at h
  obtain ⟨v1, e_v1, h⟩ := gx_bd h
  refine gx_iinc hX (v := v1) (ls' := [some (.inr 32), some (.inl b1), some (.inl b2), some (.inl v1)]) (gx_dt dt_mi_x_W_reachedWithin 22 rfl) rfl (gx_ii e_v1 (by decide)) (by decide) rfl ?_
  refine gx_goto hX (tgt := 4) (gx_dt dt_mi_x_W_reachedWithin 23 rfl) (by decide) ?_
  exact gx_weak (gx_leS (gx_leS (gx_leS (gx_leS gx_le0)))) (hK4 _ _ _ _ h)
theorem t_x_W_reachedWithin_4 {X : gx_X} (hX : gx_Ok X mi_x_W_reachedWithin) {R : Int32 × gx_Wd} (hres : gx_res X = some (.inl R.1)) (hwr : gx_wr X = R.2) : ∀ (n : Nat) (b1 : Int32) (b2 : Int32) (b3 : Int32) (w : gx_Wd), x_W_reachedWithin_4 n b1 b2 b3 w = some R → gx_G X mi_x_W_reachedWithin 4 [some (.inr 32), some (.inl b1), some (.inl b2), some (.inl b3)] [] w := by
  intro n
  induction n with
  | zero => intro b1 b2 b3 w h; rw [x_W_reachedWithin_4] at h; cases h
  | succ n ih =>
    intro b1 b2 b3 w h
    rw [x_W_reachedWithin_4] at h
    refine gx_iload_n hX (gx_dt dt_mi_x_W_reachedWithin 4 rfl) rfl ?_
    refine gx_bipush hX (v := 16) (gx_dt dt_mi_x_W_reachedWithin 5 rfl) (by decide) ?_
    refine gx_ic_ge hX (tgt := 40) (gx_dt dt_mi_x_W_reachedWithin 6 rfl) (by decide) (fun c1 => ?_) (fun c1 => ?_)
    · have h := gx_ifp c1 h
      refine gx_iload_n hX (gx_dt dt_mi_x_W_reachedWithin 24 rfl) rfl ?_
      obtain rfl := Option.some.inj h
      exact gx_iret hX (gx_dt dt_mi_x_W_reachedWithin 25 rfl) rfl hres hwr
    · have h := gx_ifn c1 h
      refine gx_aload_n hX (gx_dt dt_mi_x_W_reachedWithin 7 rfl) rfl ?_
      refine gx_iload_n hX (gx_dt dt_mi_x_W_reachedWithin 8 rfl) rfl ?_
      obtain ⟨r2, e_r2, h⟩ := gx_bd h
      refine gx_callVi hX (gx_dt dt_mi_x_W_reachedWithin 9 rfl) ln_W_66_x_W_fewestTo mo_x_W_fewestTo mv_x_W_fewestTo (gx_rmb rfl) sh_x_32 ⟨_, _, rfl⟩ rfl (k_x_W_fewestTo e_r2) rfl rfl (Nat.le_of_ble_eq_true rfl) ?_
      refine gx_istore hX (ls' := [some (.inr 32), some (.inl b1), some (.inl b2), some (.inl b3), some (.inl (r2.1))]) (gx_dt dt_mi_x_W_reachedWithin 10 rfl) (by decide) rfl ?_
      refine gx_iload hX (gx_dt dt_mi_x_W_reachedWithin 11 rfl) rfl ?_
      refine gx_if_lt hX (tgt := 34) (gx_dt dt_mi_x_W_reachedWithin 12 rfl) (by decide) (fun c3 => ?_) (fun c3 => ?_)
      · have h := gx_ifp c3 h
        exact gx_weak (gx_leS (gx_leS (gx_leS (gx_leS gx_le0)))) (t_x_W_reachedWithin_34 hX hres hwr ih _ _ _ _ h)
      · have h := gx_ifn c3 h
        refine gx_iload hX (gx_dt dt_mi_x_W_reachedWithin 13 rfl) rfl ?_
        refine gx_iload_n hX (gx_dt dt_mi_x_W_reachedWithin 14 rfl) rfl ?_
        refine gx_ic_gt hX (tgt := 34) (gx_dt dt_mi_x_W_reachedWithin 15 rfl) (by decide) (fun c4 => ?_) (fun c4 => ?_)
        · have h := gx_ifp c4 h
          exact gx_weak (gx_leS (gx_leS (gx_leS (gx_leS gx_le0)))) (t_x_W_reachedWithin_34 hX hres hwr ih _ _ _ _ h)
        · have h := gx_ifn c4 h
          refine gx_iload_n hX (gx_dt dt_mi_x_W_reachedWithin 16 rfl) rfl ?_
          refine gx_iconst hX (v := 1) (gx_dt dt_mi_x_W_reachedWithin 17 rfl) (by decide) ?_
          refine gx_iload_n hX (gx_dt dt_mi_x_W_reachedWithin 18 rfl) rfl ?_
          refine gx_ishl hX (gx_dt dt_mi_x_W_reachedWithin 19 rfl) ?_
          refine gx_ior hX (gx_dt dt_mi_x_W_reachedWithin 20 rfl) ?_
          obtain ⟨v5, e_v5, h⟩ := gx_bd h
          refine gx_top e_v5 ?_
          refine gx_istore_n hX (ls' := [some (.inr 32), some (.inl b1), some (.inl v5), some (.inl b3), some (.inl (r2.1))]) (gx_dt dt_mi_x_W_reachedWithin 21 rfl) (by decide) rfl ?_
          exact gx_weak (gx_leS (gx_leS (gx_leS (gx_leS gx_le0)))) (t_x_W_reachedWithin_34 hX hres hwr ih _ _ _ _ h)
theorem k_x_W_reachedWithin {a1 : Int32} {w : gx_Wd} {R : Int32 × gx_Wd} (h : x_W_reachedWithin a1 w = some R) : gx_MT mi_x_W_reachedWithin [.inr 32, .inl a1] w (some (.inl R.1)) R.2 := by
  refine gx_met (by decide +kernel) (Nat.le_of_ble_eq_true rfl) (fun X hX hres hwr => ?_)
  show gx_G X mi_x_W_reachedWithin 0 [some (.inr 32), some (.inl a1)] [] w
  rw [x_W_reachedWithin] at h
  refine gx_iconst hX (v := 0) (gx_dt dt_mi_x_W_reachedWithin 0 rfl) (by decide) ?_
  refine gx_istore_n hX (ls' := [some (.inr 32), some (.inl a1), some (.inl (0))]) (gx_dt dt_mi_x_W_reachedWithin 1 rfl) (by decide) rfl ?_
  refine gx_iconst hX (v := 0) (gx_dt dt_mi_x_W_reachedWithin 2 rfl) (by decide) ?_
  refine gx_istore_n hX (ls' := [some (.inr 32), some (.inl a1), some (.inl (0)), some (.inl (0))]) (gx_dt dt_mi_x_W_reachedWithin 3 rfl) (by decide) rfl ?_
  exact gx_weak (gx_leS (gx_leS (gx_leS (gx_leS gx_le0)))) (t_x_W_reachedWithin_4 hX hres hwr _ _ _ _ _ h)
-- EachBearsPillar.reach(I)I
def x_E_reach (a1 : Int32) (w : gx_Wd) : Option (Int32 × gx_Wd) :=
  if 0 ≤ a1 then
    if a1 ≤ 40 then
      (x_M_asTold w).bind fun r3 =>
      (x_W_explore r3).bind fun r4 =>
      (x_W_reachedWithin a1 r4).bind fun r5 =>
      some (r5.1, r5.2)
    else
    (x_E_refuse (-6) w).bind fun r6 =>
    some (r6.1, r6.2)
  else
  (x_E_refuse (-4) w).bind fun r7 =>
  some (r7.1, r7.2)
theorem k_x_E_reach {a1 : Int32} {w : gx_Wd} {R : Int32 × gx_Wd} (h : x_E_reach a1 w = some R) : gx_MT mi_x_E_reach [.inr 0, .inl a1] w (some (.inl R.1)) R.2 := by
  refine gx_met (by decide +kernel) (Nat.le_of_ble_eq_true rfl) (fun X hX hres hwr => ?_)
  show gx_G X mi_x_E_reach 0 [some (.inr 0), some (.inl a1)] [] w
  rw [x_E_reach] at h
  refine gx_iload_n hX (gx_dt dt_mi_x_E_reach 0 rfl) rfl ?_
  refine gx_if_ge hX (tgt := 11) (gx_dt dt_mi_x_E_reach 1 rfl) (by decide) (fun c1 => ?_) (fun c1 => ?_)
  · have h := gx_ifp c1 h
    refine gx_iload_n hX (gx_dt dt_mi_x_E_reach 6 rfl) rfl ?_
    refine gx_bipush hX (v := 40) (gx_dt dt_mi_x_E_reach 7 rfl) (by decide) ?_
    refine gx_ic_le hX (tgt := 24) (gx_dt dt_mi_x_E_reach 8 rfl) (by decide) (fun c2 => ?_) (fun c2 => ?_)
    · have h := gx_ifp c2 h
      refine gx_aload_n hX (gx_dt dt_mi_x_E_reach 13 rfl) rfl ?_
      refine gx_getr hX fl_E_31 sh_x_0 rfl (gx_dt dt_mi_x_E_reach 14 rfl) ?_
      obtain ⟨r3, e_r3, h⟩ := gx_bd h
      refine gx_callVv hX (gx_dt dt_mi_x_E_reach 15 rfl) ln_E_115_x_M_asTold mo_x_M_asTold mv_x_M_asTold (gx_rmb rfl) sh_x_22 ⟨_, _, rfl⟩ rfl (k_x_M_asTold e_r3) rfl rfl (Nat.le_of_ble_eq_true rfl) ?_
      refine gx_aload_n hX (gx_dt dt_mi_x_E_reach 16 rfl) rfl ?_
      refine gx_getr hX fl_E_47 sh_x_0 rfl (gx_dt dt_mi_x_E_reach 17 rfl) ?_
      obtain ⟨r4, e_r4, h⟩ := gx_bd h
      refine gx_callVv hX (gx_dt dt_mi_x_E_reach 18 rfl) ln_E_211_x_W_explore mo_x_W_explore mv_x_W_explore (gx_rmb rfl) sh_x_32 ⟨_, _, rfl⟩ rfl (k_x_W_explore e_r4) rfl rfl (Nat.le_of_ble_eq_true rfl) ?_
      refine gx_aload_n hX (gx_dt dt_mi_x_E_reach 19 rfl) rfl ?_
      refine gx_getr hX fl_E_47 sh_x_0 rfl (gx_dt dt_mi_x_E_reach 20 rfl) ?_
      refine gx_iload_n hX (gx_dt dt_mi_x_E_reach 21 rfl) rfl ?_
      obtain ⟨r5, e_r5, h⟩ := gx_bd h
      refine gx_callVi hX (gx_dt dt_mi_x_E_reach 22 rfl) ln_E_217_x_W_reachedWithin mo_x_W_reachedWithin mv_x_W_reachedWithin (gx_rmb rfl) sh_x_32 ⟨_, _, rfl⟩ rfl (k_x_W_reachedWithin e_r5) rfl rfl (Nat.le_of_ble_eq_true rfl) ?_
      obtain rfl := Option.some.inj h
      exact gx_iret hX (gx_dt dt_mi_x_E_reach 23 rfl) rfl hres hwr
    · have h := gx_ifn c2 h
      refine gx_aload_n hX (gx_dt dt_mi_x_E_reach 9 rfl) rfl ?_
      refine gx_bipush hX (v := (-6)) (gx_dt dt_mi_x_E_reach 10 rfl) (by decide) ?_
      obtain ⟨r6, e_r6, h⟩ := gx_bd h
      refine gx_callVi hX (gx_dt dt_mi_x_E_reach 11 rfl) ln_E_69_x_E_refuse mo_x_E_refuse mv_x_E_refuse (gx_rmb rfl) sh_x_0 ⟨_, _, rfl⟩ rfl (k_x_E_refuse e_r6) rfl rfl (Nat.le_of_ble_eq_true rfl) ?_
      obtain rfl := Option.some.inj h
      exact gx_iret hX (gx_dt dt_mi_x_E_reach 12 rfl) rfl hres hwr
  · have h := gx_ifn c1 h
    refine gx_aload_n hX (gx_dt dt_mi_x_E_reach 2 rfl) rfl ?_
    refine gx_bipush hX (v := (-4)) (gx_dt dt_mi_x_E_reach 3 rfl) (by decide) ?_
    obtain ⟨r7, e_r7, h⟩ := gx_bd h
    refine gx_callVi hX (gx_dt dt_mi_x_E_reach 4 rfl) ln_E_69_x_E_refuse mo_x_E_refuse mv_x_E_refuse (gx_rmb rfl) sh_x_0 ⟨_, _, rfl⟩ rfl (k_x_E_refuse e_r7) rfl rfl (Nat.le_of_ble_eq_true rfl) ?_
    obtain rfl := Option.some.inj h
    exact gx_iret hX (gx_dt dt_mi_x_E_reach 5 rfl) rfl hres hwr
-- EachBearsPillar$Walk.lowestAt(II)I
def x_W_lowestAt_29 (K2 : Int32 → Int32 → Int32 → gx_Wd → Option (Int32 × gx_Wd)) (b1 : Int32) (b2 : Int32) (b3 : Int32) (w : gx_Wd) : Option (Int32 × gx_Wd) :=
  (some (b3 + 1)).bind fun v1 =>
  K2 b1 b2 v1 w
def x_W_lowestAt_2 : Nat → Int32 → Int32 → Int32 → gx_Wd → Option (Int32 × gx_Wd)
  | 0, _, _, _, _ => none
  | n + 1, b1, b2, b3, w =>
  if 28 ≤ b3 then
    some ((-9), w)
  else
  (x_W_minutesTo b1 b3 w).bind fun r2 =>
  if r2.1 < 0 then
    x_W_lowestAt_29 (x_W_lowestAt_2 n) b1 b2 b3 r2.2
  else
  if b2 < r2.1 then
    x_W_lowestAt_29 (x_W_lowestAt_2 n) b1 b2 b3 r2.2
  else
  some (b3, r2.2)
def x_W_lowestAt (a1 : Int32) (a2 : Int32) (w : gx_Wd) : Option (Int32 × gx_Wd) :=
  x_W_lowestAt_2 6000 a1 a2 0 w
theorem t_x_W_lowestAt_29 {X : gx_X} (hX : gx_Ok X mi_x_W_lowestAt) {R : Int32 × gx_Wd} (hres : gx_res X = some (.inl R.1)) (hwr : gx_wr X = R.2) {K2 : Int32 → Int32 → Int32 → gx_Wd → Option (Int32 × gx_Wd)} (hK2 : ∀ (b1 : Int32) (b2 : Int32) (b3 : Int32) (w : gx_Wd), K2 b1 b2 b3 w = some R → gx_G X mi_x_W_lowestAt 2 [some (.inr 32), some (.inl b1), some (.inl b2), some (.inl b3)] [] w) (b1 : Int32) (b2 : Int32) (b3 : Int32) (w : gx_Wd) (h : x_W_lowestAt_29 K2 b1 b2 b3 w = some R) : gx_G X mi_x_W_lowestAt 29 [some (.inr 32), some (.inl b1), some (.inl b2), some (.inl b3)] [] w := by
  rw [x_W_lowestAt_29] at h
  obtain ⟨v1, e_v1, h⟩ := gx_bd h
  refine gx_iinc hX (v := v1) (ls' := [some (.inr 32), some (.inl b1), some (.inl b2), some (.inl v1)]) (gx_dt dt_mi_x_W_lowestAt 17 rfl) rfl (gx_ii e_v1 (by decide)) (by decide) rfl ?_
  refine gx_goto hX (tgt := 2) (gx_dt dt_mi_x_W_lowestAt 18 rfl) (by decide) ?_
  exact gx_weak (gx_leS (gx_leS (gx_leS (gx_leS gx_le0)))) (hK2 _ _ _ _ h)
theorem t_x_W_lowestAt_2 {X : gx_X} (hX : gx_Ok X mi_x_W_lowestAt) {R : Int32 × gx_Wd} (hres : gx_res X = some (.inl R.1)) (hwr : gx_wr X = R.2) : ∀ (n : Nat) (b1 : Int32) (b2 : Int32) (b3 : Int32) (w : gx_Wd), x_W_lowestAt_2 n b1 b2 b3 w = some R → gx_G X mi_x_W_lowestAt 2 [some (.inr 32), some (.inl b1), some (.inl b2), some (.inl b3)] [] w := by
  intro n
  induction n with
  | zero => intro b1 b2 b3 w h; rw [x_W_lowestAt_2] at h; cases h
  | succ n ih =>
    intro b1 b2 b3 w h
    rw [x_W_lowestAt_2] at h
    refine gx_iload_n hX (gx_dt dt_mi_x_W_lowestAt 2 rfl) rfl ?_
    refine gx_bipush hX (v := 28) (gx_dt dt_mi_x_W_lowestAt 3 rfl) (by decide) ?_
    refine gx_ic_ge hX (tgt := 35) (gx_dt dt_mi_x_W_lowestAt 4 rfl) (by decide) (fun c1 => ?_) (fun c1 => ?_)
    · have h := gx_ifp c1 h
      refine gx_bipush hX (v := (-9)) (gx_dt dt_mi_x_W_lowestAt 19 rfl) (by decide) ?_
      obtain rfl := Option.some.inj h
      exact gx_iret hX (gx_dt dt_mi_x_W_lowestAt 20 rfl) rfl hres hwr
    · have h := gx_ifn c1 h
      refine gx_aload_n hX (gx_dt dt_mi_x_W_lowestAt 5 rfl) rfl ?_
      refine gx_iload_n hX (gx_dt dt_mi_x_W_lowestAt 6 rfl) rfl ?_
      refine gx_iload_n hX (gx_dt dt_mi_x_W_lowestAt 7 rfl) rfl ?_
      obtain ⟨r2, e_r2, h⟩ := gx_bd h
      refine gx_callVi hX (gx_dt dt_mi_x_W_lowestAt 8 rfl) ln_W_62_x_W_minutesTo mo_x_W_minutesTo mv_x_W_minutesTo (gx_rmb rfl) sh_x_32 ⟨_, _, rfl⟩ rfl (k_x_W_minutesTo e_r2) rfl rfl (Nat.le_of_ble_eq_true rfl) ?_
      refine gx_istore hX (ls' := [some (.inr 32), some (.inl b1), some (.inl b2), some (.inl b3), some (.inl (r2.1))]) (gx_dt dt_mi_x_W_lowestAt 9 rfl) (by decide) rfl ?_
      refine gx_iload hX (gx_dt dt_mi_x_W_lowestAt 10 rfl) rfl ?_
      refine gx_if_lt hX (tgt := 29) (gx_dt dt_mi_x_W_lowestAt 11 rfl) (by decide) (fun c3 => ?_) (fun c3 => ?_)
      · have h := gx_ifp c3 h
        exact gx_weak (gx_leS (gx_leS (gx_leS (gx_leS gx_le0)))) (t_x_W_lowestAt_29 hX hres hwr ih _ _ _ _ h)
      · have h := gx_ifn c3 h
        refine gx_iload hX (gx_dt dt_mi_x_W_lowestAt 12 rfl) rfl ?_
        refine gx_iload_n hX (gx_dt dt_mi_x_W_lowestAt 13 rfl) rfl ?_
        refine gx_ic_gt hX (tgt := 29) (gx_dt dt_mi_x_W_lowestAt 14 rfl) (by decide) (fun c4 => ?_) (fun c4 => ?_)
        · have h := gx_ifp c4 h
          exact gx_weak (gx_leS (gx_leS (gx_leS (gx_leS gx_le0)))) (t_x_W_lowestAt_29 hX hres hwr ih _ _ _ _ h)
        · have h := gx_ifn c4 h
          refine gx_iload_n hX (gx_dt dt_mi_x_W_lowestAt 15 rfl) rfl ?_
          obtain rfl := Option.some.inj h
          exact gx_iret hX (gx_dt dt_mi_x_W_lowestAt 16 rfl) rfl hres hwr
theorem k_x_W_lowestAt {a1 : Int32} {a2 : Int32} {w : gx_Wd} {R : Int32 × gx_Wd} (h : x_W_lowestAt a1 a2 w = some R) : gx_MT mi_x_W_lowestAt [.inr 32, .inl a1, .inl a2] w (some (.inl R.1)) R.2 := by
  refine gx_met (by decide +kernel) (Nat.le_of_ble_eq_true rfl) (fun X hX hres hwr => ?_)
  show gx_G X mi_x_W_lowestAt 0 [some (.inr 32), some (.inl a1), some (.inl a2)] [] w
  rw [x_W_lowestAt] at h
  refine gx_iconst hX (v := 0) (gx_dt dt_mi_x_W_lowestAt 0 rfl) (by decide) ?_
  refine gx_istore_n hX (ls' := [some (.inr 32), some (.inl a1), some (.inl a2), some (.inl (0))]) (gx_dt dt_mi_x_W_lowestAt 1 rfl) (by decide) rfl ?_
  exact gx_weak (gx_leS (gx_leS (gx_leS (gx_leS gx_le0)))) (t_x_W_lowestAt_2 hX hres hwr _ _ _ _ _ h)
-- EachBearsPillar.lowest(II)I
def x_E_lowest (a1 : Int32) (a2 : Int32) (w : gx_Wd) : Option (Int32 × gx_Wd) :=
  if a1 < 0 then
    (x_E_refuse (-4) w).bind fun r2 =>
    some (r2.1, r2.2)
  else
  if 0 ≤ a2 then
    (x_R_lastAt_1 w).bind fun r4 =>
    if r4.1 < a1 then
      (x_E_refuse (-6) r4.2).bind fun r6 =>
      some (r6.1, r6.2)
    else
    if a2 ≤ 40 then
      (x_M_asTold r4.2).bind fun r8 =>
      (x_W_explore r8).bind fun r9 =>
      (x_W_lowestAt a1 a2 r9).bind fun r10 =>
      some (r10.1, r10.2)
    else
    (x_E_refuse (-6) r4.2).bind fun r11 =>
    some (r11.1, r11.2)
  else
  (x_E_refuse (-4) w).bind fun r12 =>
  some (r12.1, r12.2)
theorem k_x_E_lowest {a1 : Int32} {a2 : Int32} {w : gx_Wd} {R : Int32 × gx_Wd} (h : x_E_lowest a1 a2 w = some R) : gx_MT mi_x_E_lowest [.inr 0, .inl a1, .inl a2] w (some (.inl R.1)) R.2 := by
  refine gx_met (by decide +kernel) (Nat.le_of_ble_eq_true rfl) (fun X hX hres hwr => ?_)
  show gx_G X mi_x_E_lowest 0 [some (.inr 0), some (.inl a1), some (.inl a2)] [] w
  rw [x_E_lowest] at h
  refine gx_iload_n hX (gx_dt dt_mi_x_E_lowest 0 rfl) rfl ?_
  refine gx_if_lt hX (tgt := 8) (gx_dt dt_mi_x_E_lowest 1 rfl) (by decide) (fun c1 => ?_) (fun c1 => ?_)
  · have h := gx_ifp c1 h
    refine gx_aload_n hX (gx_dt dt_mi_x_E_lowest 4 rfl) rfl ?_
    refine gx_bipush hX (v := (-4)) (gx_dt dt_mi_x_E_lowest 5 rfl) (by decide) ?_
    obtain ⟨r2, e_r2, h⟩ := gx_bd h
    refine gx_callVi hX (gx_dt dt_mi_x_E_lowest 6 rfl) ln_E_69_x_E_refuse mo_x_E_refuse mv_x_E_refuse (gx_rmb rfl) sh_x_0 ⟨_, _, rfl⟩ rfl (k_x_E_refuse e_r2) rfl rfl (Nat.le_of_ble_eq_true rfl) ?_
    obtain rfl := Option.some.inj h
    exact gx_iret hX (gx_dt dt_mi_x_E_lowest 7 rfl) rfl hres hwr
  · have h := gx_ifn c1 h
    refine gx_iload_n hX (gx_dt dt_mi_x_E_lowest 2 rfl) rfl ?_
    refine gx_if_ge hX (tgt := 15) (gx_dt dt_mi_x_E_lowest 3 rfl) (by decide) (fun c3 => ?_) (fun c3 => ?_)
    · have h := gx_ifp c3 h
      refine gx_iload_n hX (gx_dt dt_mi_x_E_lowest 8 rfl) rfl ?_
      refine gx_aload_n hX (gx_dt dt_mi_x_E_lowest 9 rfl) rfl ?_
      refine gx_getr hX fl_E_10 sh_x_0 rfl (gx_dt dt_mi_x_E_lowest 10 rfl) ?_
      obtain ⟨r4, e_r4, h⟩ := gx_bd h
      refine gx_callVi hX (gx_dt dt_mi_x_E_lowest 11 rfl) ln_E_109_x_R_lastAt_1 mo_x_R_lastAt_1 mv_x_R_lastAt_1 (gx_rmb rfl) sh_x_1 ⟨_, _, rfl⟩ rfl (k_x_R_lastAt_1 e_r4) rfl rfl (Nat.le_of_ble_eq_true rfl) ?_
      refine gx_ic_gt hX (tgt := 32) (gx_dt dt_mi_x_E_lowest 12 rfl) (by decide) (fun c5 => ?_) (fun c5 => ?_)
      · have h := gx_ifp c5 h
        refine gx_aload_n hX (gx_dt dt_mi_x_E_lowest 16 rfl) rfl ?_
        refine gx_bipush hX (v := (-6)) (gx_dt dt_mi_x_E_lowest 17 rfl) (by decide) ?_
        obtain ⟨r6, e_r6, h⟩ := gx_bd h
        refine gx_callVi hX (gx_dt dt_mi_x_E_lowest 18 rfl) ln_E_69_x_E_refuse mo_x_E_refuse mv_x_E_refuse (gx_rmb rfl) sh_x_0 ⟨_, _, rfl⟩ rfl (k_x_E_refuse e_r6) rfl rfl (Nat.le_of_ble_eq_true rfl) ?_
        obtain rfl := Option.some.inj h
        exact gx_iret hX (gx_dt dt_mi_x_E_lowest 19 rfl) rfl hres hwr
      · have h := gx_ifn c5 h
        refine gx_iload_n hX (gx_dt dt_mi_x_E_lowest 13 rfl) rfl ?_
        refine gx_bipush hX (v := 40) (gx_dt dt_mi_x_E_lowest 14 rfl) (by decide) ?_
        refine gx_ic_le hX (tgt := 39) (gx_dt dt_mi_x_E_lowest 15 rfl) (by decide) (fun c7 => ?_) (fun c7 => ?_)
        · have h := gx_ifp c7 h
          refine gx_aload_n hX (gx_dt dt_mi_x_E_lowest 20 rfl) rfl ?_
          refine gx_getr hX fl_E_31 sh_x_0 rfl (gx_dt dt_mi_x_E_lowest 21 rfl) ?_
          obtain ⟨r8, e_r8, h⟩ := gx_bd h
          refine gx_callVv hX (gx_dt dt_mi_x_E_lowest 22 rfl) ln_E_115_x_M_asTold mo_x_M_asTold mv_x_M_asTold (gx_rmb rfl) sh_x_22 ⟨_, _, rfl⟩ rfl (k_x_M_asTold e_r8) rfl rfl (Nat.le_of_ble_eq_true rfl) ?_
          refine gx_aload_n hX (gx_dt dt_mi_x_E_lowest 23 rfl) rfl ?_
          refine gx_getr hX fl_E_47 sh_x_0 rfl (gx_dt dt_mi_x_E_lowest 24 rfl) ?_
          obtain ⟨r9, e_r9, h⟩ := gx_bd h
          refine gx_callVv hX (gx_dt dt_mi_x_E_lowest 25 rfl) ln_E_211_x_W_explore mo_x_W_explore mv_x_W_explore (gx_rmb rfl) sh_x_32 ⟨_, _, rfl⟩ rfl (k_x_W_explore e_r9) rfl rfl (Nat.le_of_ble_eq_true rfl) ?_
          refine gx_aload_n hX (gx_dt dt_mi_x_E_lowest 26 rfl) rfl ?_
          refine gx_getr hX fl_E_47 sh_x_0 rfl (gx_dt dt_mi_x_E_lowest 27 rfl) ?_
          refine gx_iload_n hX (gx_dt dt_mi_x_E_lowest 28 rfl) rfl ?_
          refine gx_iload_n hX (gx_dt dt_mi_x_E_lowest 29 rfl) rfl ?_
          obtain ⟨r10, e_r10, h⟩ := gx_bd h
          refine gx_callVi hX (gx_dt dt_mi_x_E_lowest 30 rfl) ln_E_220_x_W_lowestAt mo_x_W_lowestAt mv_x_W_lowestAt (gx_rmb rfl) sh_x_32 ⟨_, _, rfl⟩ rfl (k_x_W_lowestAt e_r10) rfl rfl (Nat.le_of_ble_eq_true rfl) ?_
          obtain rfl := Option.some.inj h
          exact gx_iret hX (gx_dt dt_mi_x_E_lowest 31 rfl) rfl hres hwr
        · have h := gx_ifn c7 h
          refine gx_aload_n hX (gx_dt dt_mi_x_E_lowest 16 rfl) rfl ?_
          refine gx_bipush hX (v := (-6)) (gx_dt dt_mi_x_E_lowest 17 rfl) (by decide) ?_
          obtain ⟨r11, e_r11, h⟩ := gx_bd h
          refine gx_callVi hX (gx_dt dt_mi_x_E_lowest 18 rfl) ln_E_69_x_E_refuse mo_x_E_refuse mv_x_E_refuse (gx_rmb rfl) sh_x_0 ⟨_, _, rfl⟩ rfl (k_x_E_refuse e_r11) rfl rfl (Nat.le_of_ble_eq_true rfl) ?_
          obtain rfl := Option.some.inj h
          exact gx_iret hX (gx_dt dt_mi_x_E_lowest 19 rfl) rfl hres hwr
    · have h := gx_ifn c3 h
      refine gx_aload_n hX (gx_dt dt_mi_x_E_lowest 4 rfl) rfl ?_
      refine gx_bipush hX (v := (-4)) (gx_dt dt_mi_x_E_lowest 5 rfl) (by decide) ?_
      obtain ⟨r12, e_r12, h⟩ := gx_bd h
      refine gx_callVi hX (gx_dt dt_mi_x_E_lowest 6 rfl) ln_E_69_x_E_refuse mo_x_E_refuse mv_x_E_refuse (gx_rmb rfl) sh_x_0 ⟨_, _, rfl⟩ rfl (k_x_E_refuse e_r12) rfl rfl (Nat.le_of_ble_eq_true rfl) ?_
      obtain rfl := Option.some.inj h
      exact gx_iret hX (gx_dt dt_mi_x_E_lowest 7 rfl) rfl hres hwr
-- EachBearsPillar$Roof.become(LEachBearsPillar$Roof;)V
def x_R_become_15_1 (w : gx_Wd) : Option (gx_Wd) :=
  (gx_put w 15 0 (w 1 0)).bind fun w1 =>
  (gx_put w1 15 1 (w1 1 1)).bind fun w2 =>
  (gx_put w2 15 2 (w2 1 2)).bind fun w3 =>
  (x_E_copyCells 2 16 w3).bind fun r4 =>
  (x_E_copyCells 3 17 r4).bind fun r5 =>
  (x_E_copyCells 4 18 r5).bind fun r6 =>
  (x_E_copyCells 5 19 r6).bind fun r7 =>
  (x_E_copyCells 6 20 r7).bind fun r8 =>
  (x_E_copyCells 7 21 r8).bind fun r9 =>
  some r9
theorem k_x_R_become_15_1 {w : gx_Wd} {R : gx_Wd} (h : x_R_become_15_1 w = some R) : gx_MT mi_x_R_become_15_1 [.inr 15, .inr 1] w none R := by
  refine gx_met (by decide +kernel) (Nat.le_of_ble_eq_true rfl) (fun X hX hres hwr => ?_)
  show gx_G X mi_x_R_become_15_1 0 [some (.inr 15), some (.inr 1)] [] w
  rw [x_R_become_15_1] at h
  refine gx_aload_n hX (gx_dt dt_mi_x_R_become_15_1 0 rfl) rfl ?_
  refine gx_ifnonnull hX (tgt := 5) (gx_dt dt_mi_x_R_become_15_1 1 rfl) (by decide) ?_
  refine gx_aload_n hX (gx_dt dt_mi_x_R_become_15_1 3 rfl) rfl ?_
  refine gx_aload_n hX (gx_dt dt_mi_x_R_become_15_1 4 rfl) rfl ?_
  refine gx_geti hX fl_R_9 sh_x_1 rfl (gx_dt dt_mi_x_R_become_15_1 5 rfl) ?_
  obtain ⟨w1, e_w1, h⟩ := gx_bd h
  refine gx_putp hX fl_R_9 (pf_R_0 _) sh_x_15 rfl e_w1 (gx_dt dt_mi_x_R_become_15_1 6 rfl) ?_
  refine gx_aload_n hX (gx_dt dt_mi_x_R_become_15_1 7 rfl) rfl ?_
  refine gx_aload_n hX (gx_dt dt_mi_x_R_become_15_1 8 rfl) rfl ?_
  refine gx_geti hX fl_R_15 sh_x_1 rfl (gx_dt dt_mi_x_R_become_15_1 9 rfl) ?_
  obtain ⟨w2, e_w2, h⟩ := gx_bd h
  refine gx_putp hX fl_R_15 (pf_R_1 _) sh_x_15 rfl e_w2 (gx_dt dt_mi_x_R_become_15_1 10 rfl) ?_
  refine gx_aload_n hX (gx_dt dt_mi_x_R_become_15_1 11 rfl) rfl ?_
  refine gx_aload_n hX (gx_dt dt_mi_x_R_become_15_1 12 rfl) rfl ?_
  refine gx_geti hX fl_R_18 sh_x_1 rfl (gx_dt dt_mi_x_R_become_15_1 13 rfl) ?_
  obtain ⟨w3, e_w3, h⟩ := gx_bd h
  refine gx_putp hX fl_R_18 (pf_R_2 _) sh_x_15 rfl e_w3 (gx_dt dt_mi_x_R_become_15_1 14 rfl) ?_
  refine gx_aload_n hX (gx_dt dt_mi_x_R_become_15_1 15 rfl) rfl ?_
  refine gx_getr hX fl_R_21 sh_x_1 rfl (gx_dt dt_mi_x_R_become_15_1 16 rfl) ?_
  refine gx_aload_n hX (gx_dt dt_mi_x_R_become_15_1 17 rfl) rfl ?_
  refine gx_getr hX fl_R_21 sh_x_15 rfl (gx_dt dt_mi_x_R_become_15_1 18 rfl) ?_
  obtain ⟨r4, e_r4, h⟩ := gx_bd h
  refine gx_callSv hX (gx_dt dt_mi_x_R_become_15_1 19 rfl) ln_R_40_x_E_copyCells mo_x_E_copyCells ms_x_E_copyCells (gx_rmb rfl) rfl (k_x_E_copyCells e_r4) rfl rfl (Nat.le_of_ble_eq_true rfl) ?_
  refine gx_aload_n hX (gx_dt dt_mi_x_R_become_15_1 20 rfl) rfl ?_
  refine gx_getr hX fl_R_25 sh_x_1 rfl (gx_dt dt_mi_x_R_become_15_1 21 rfl) ?_
  refine gx_aload_n hX (gx_dt dt_mi_x_R_become_15_1 22 rfl) rfl ?_
  refine gx_getr hX fl_R_25 sh_x_15 rfl (gx_dt dt_mi_x_R_become_15_1 23 rfl) ?_
  obtain ⟨r5, e_r5, h⟩ := gx_bd h
  refine gx_callSv hX (gx_dt dt_mi_x_R_become_15_1 24 rfl) ln_R_40_x_E_copyCells mo_x_E_copyCells ms_x_E_copyCells (gx_rmb rfl) rfl (k_x_E_copyCells e_r5) rfl rfl (Nat.le_of_ble_eq_true rfl) ?_
  refine gx_aload_n hX (gx_dt dt_mi_x_R_become_15_1 25 rfl) rfl ?_
  refine gx_getr hX fl_R_28 sh_x_1 rfl (gx_dt dt_mi_x_R_become_15_1 26 rfl) ?_
  refine gx_aload_n hX (gx_dt dt_mi_x_R_become_15_1 27 rfl) rfl ?_
  refine gx_getr hX fl_R_28 sh_x_15 rfl (gx_dt dt_mi_x_R_become_15_1 28 rfl) ?_
  obtain ⟨r6, e_r6, h⟩ := gx_bd h
  refine gx_callSv hX (gx_dt dt_mi_x_R_become_15_1 29 rfl) ln_R_40_x_E_copyCells mo_x_E_copyCells ms_x_E_copyCells (gx_rmb rfl) rfl (k_x_E_copyCells e_r6) rfl rfl (Nat.le_of_ble_eq_true rfl) ?_
  refine gx_aload_n hX (gx_dt dt_mi_x_R_become_15_1 30 rfl) rfl ?_
  refine gx_getr hX fl_R_31 sh_x_1 rfl (gx_dt dt_mi_x_R_become_15_1 31 rfl) ?_
  refine gx_aload_n hX (gx_dt dt_mi_x_R_become_15_1 32 rfl) rfl ?_
  refine gx_getr hX fl_R_31 sh_x_15 rfl (gx_dt dt_mi_x_R_become_15_1 33 rfl) ?_
  obtain ⟨r7, e_r7, h⟩ := gx_bd h
  refine gx_callSv hX (gx_dt dt_mi_x_R_become_15_1 34 rfl) ln_R_40_x_E_copyCells mo_x_E_copyCells ms_x_E_copyCells (gx_rmb rfl) rfl (k_x_E_copyCells e_r7) rfl rfl (Nat.le_of_ble_eq_true rfl) ?_
  refine gx_aload_n hX (gx_dt dt_mi_x_R_become_15_1 35 rfl) rfl ?_
  refine gx_getr hX fl_R_34 sh_x_1 rfl (gx_dt dt_mi_x_R_become_15_1 36 rfl) ?_
  refine gx_aload_n hX (gx_dt dt_mi_x_R_become_15_1 37 rfl) rfl ?_
  refine gx_getr hX fl_R_34 sh_x_15 rfl (gx_dt dt_mi_x_R_become_15_1 38 rfl) ?_
  obtain ⟨r8, e_r8, h⟩ := gx_bd h
  refine gx_callSv hX (gx_dt dt_mi_x_R_become_15_1 39 rfl) ln_R_40_x_E_copyCells mo_x_E_copyCells ms_x_E_copyCells (gx_rmb rfl) rfl (k_x_E_copyCells e_r8) rfl rfl (Nat.le_of_ble_eq_true rfl) ?_
  refine gx_aload_n hX (gx_dt dt_mi_x_R_become_15_1 40 rfl) rfl ?_
  refine gx_getr hX fl_R_37 sh_x_1 rfl (gx_dt dt_mi_x_R_become_15_1 41 rfl) ?_
  refine gx_aload_n hX (gx_dt dt_mi_x_R_become_15_1 42 rfl) rfl ?_
  refine gx_getr hX fl_R_37 sh_x_15 rfl (gx_dt dt_mi_x_R_become_15_1 43 rfl) ?_
  obtain ⟨r9, e_r9, h⟩ := gx_bd h
  refine gx_callSv hX (gx_dt dt_mi_x_R_become_15_1 44 rfl) ln_R_40_x_E_copyCells mo_x_E_copyCells ms_x_E_copyCells (gx_rmb rfl) rfl (k_x_E_copyCells e_r9) rfl rfl (Nat.le_of_ble_eq_true rfl) ?_
  obtain rfl := Option.some.inj h
  exact gx_vret hX (gx_dt dt_mi_x_R_become_15_1 45 rfl) rfl hres hwr
-- EachBearsPillar.image()I
def x_E_image (w : gx_Wd) : Option (Int32 × gx_Wd) :=
  (x_R_become_15_1 w).bind fun r1 =>
  (gx_put r1 0 3 1).bind fun w2 =>
  some (w2 1 0, w2)
theorem k_x_E_image {w : gx_Wd} {R : Int32 × gx_Wd} (h : x_E_image w = some R) : gx_MT mi_x_E_image [.inr 0] w (some (.inl R.1)) R.2 := by
  refine gx_met (by decide +kernel) (Nat.le_of_ble_eq_true rfl) (fun X hX hres hwr => ?_)
  show gx_G X mi_x_E_image 0 [some (.inr 0)] [] w
  rw [x_E_image] at h
  refine gx_aload_n hX (gx_dt dt_mi_x_E_image 0 rfl) rfl ?_
  refine gx_getr hX fl_E_19 sh_x_0 rfl (gx_dt dt_mi_x_E_image 1 rfl) ?_
  refine gx_aload_n hX (gx_dt dt_mi_x_E_image 2 rfl) rfl ?_
  refine gx_getr hX fl_E_10 sh_x_0 rfl (gx_dt dt_mi_x_E_image 3 rfl) ?_
  obtain ⟨r1, e_r1, h⟩ := gx_bd h
  refine gx_callVv hX (gx_dt dt_mi_x_E_image 4 rfl) ln_E_223_x_R_become_15_1 mo_x_R_become_15_1 mv_x_R_become_15_1 (gx_rmb rfl) sh_x_15 ⟨_, _, rfl⟩ rfl (k_x_R_become_15_1 e_r1) rfl rfl (Nat.le_of_ble_eq_true rfl) ?_
  refine gx_aload_n hX (gx_dt dt_mi_x_E_image 5 rfl) rfl ?_
  refine gx_iconst hX (v := 1) (gx_dt dt_mi_x_E_image 6 rfl) (by decide) ?_
  obtain ⟨w2, e_w2, h⟩ := gx_bd h
  refine gx_putp hX fl_E_22 pf_E_3_1 sh_x_0 rfl e_w2 (gx_dt dt_mi_x_E_image 7 rfl) ?_
  refine gx_aload_n hX (gx_dt dt_mi_x_E_image 8 rfl) rfl ?_
  refine gx_getr hX fl_E_10 sh_x_0 rfl (gx_dt dt_mi_x_E_image 9 rfl) ?_
  refine gx_geti hX fl_E_158 sh_x_1 rfl (gx_dt dt_mi_x_E_image 10 rfl) ?_
  obtain rfl := Option.some.inj h
  exact gx_iret hX (gx_dt dt_mi_x_E_image 11 rfl) rfl hres hwr
-- EachBearsPillar$Roof.become(LEachBearsPillar$Roof;)V
def x_R_become_1_15 (w : gx_Wd) : Option (gx_Wd) :=
  (gx_put w 1 0 (w 15 0)).bind fun w1 =>
  (gx_put w1 1 1 (w1 15 1)).bind fun w2 =>
  (gx_put w2 1 2 (w2 15 2)).bind fun w3 =>
  (x_E_copyCells 16 2 w3).bind fun r4 =>
  (x_E_copyCells 17 3 r4).bind fun r5 =>
  (x_E_copyCells 18 4 r5).bind fun r6 =>
  (x_E_copyCells 19 5 r6).bind fun r7 =>
  (x_E_copyCells 20 6 r7).bind fun r8 =>
  (x_E_copyCells 21 7 r8).bind fun r9 =>
  some r9
theorem k_x_R_become_1_15 {w : gx_Wd} {R : gx_Wd} (h : x_R_become_1_15 w = some R) : gx_MT mi_x_R_become_1_15 [.inr 1, .inr 15] w none R := by
  refine gx_met (by decide +kernel) (Nat.le_of_ble_eq_true rfl) (fun X hX hres hwr => ?_)
  show gx_G X mi_x_R_become_1_15 0 [some (.inr 1), some (.inr 15)] [] w
  rw [x_R_become_1_15] at h
  refine gx_aload_n hX (gx_dt dt_mi_x_R_become_1_15 0 rfl) rfl ?_
  refine gx_ifnonnull hX (tgt := 5) (gx_dt dt_mi_x_R_become_1_15 1 rfl) (by decide) ?_
  refine gx_aload_n hX (gx_dt dt_mi_x_R_become_1_15 3 rfl) rfl ?_
  refine gx_aload_n hX (gx_dt dt_mi_x_R_become_1_15 4 rfl) rfl ?_
  refine gx_geti hX fl_R_9 sh_x_15 rfl (gx_dt dt_mi_x_R_become_1_15 5 rfl) ?_
  obtain ⟨w1, e_w1, h⟩ := gx_bd h
  refine gx_putp hX fl_R_9 (pf_R_0 _) sh_x_1 rfl e_w1 (gx_dt dt_mi_x_R_become_1_15 6 rfl) ?_
  refine gx_aload_n hX (gx_dt dt_mi_x_R_become_1_15 7 rfl) rfl ?_
  refine gx_aload_n hX (gx_dt dt_mi_x_R_become_1_15 8 rfl) rfl ?_
  refine gx_geti hX fl_R_15 sh_x_15 rfl (gx_dt dt_mi_x_R_become_1_15 9 rfl) ?_
  obtain ⟨w2, e_w2, h⟩ := gx_bd h
  refine gx_putp hX fl_R_15 (pf_R_1 _) sh_x_1 rfl e_w2 (gx_dt dt_mi_x_R_become_1_15 10 rfl) ?_
  refine gx_aload_n hX (gx_dt dt_mi_x_R_become_1_15 11 rfl) rfl ?_
  refine gx_aload_n hX (gx_dt dt_mi_x_R_become_1_15 12 rfl) rfl ?_
  refine gx_geti hX fl_R_18 sh_x_15 rfl (gx_dt dt_mi_x_R_become_1_15 13 rfl) ?_
  obtain ⟨w3, e_w3, h⟩ := gx_bd h
  refine gx_putp hX fl_R_18 (pf_R_2 _) sh_x_1 rfl e_w3 (gx_dt dt_mi_x_R_become_1_15 14 rfl) ?_
  refine gx_aload_n hX (gx_dt dt_mi_x_R_become_1_15 15 rfl) rfl ?_
  refine gx_getr hX fl_R_21 sh_x_15 rfl (gx_dt dt_mi_x_R_become_1_15 16 rfl) ?_
  refine gx_aload_n hX (gx_dt dt_mi_x_R_become_1_15 17 rfl) rfl ?_
  refine gx_getr hX fl_R_21 sh_x_1 rfl (gx_dt dt_mi_x_R_become_1_15 18 rfl) ?_
  obtain ⟨r4, e_r4, h⟩ := gx_bd h
  refine gx_callSv hX (gx_dt dt_mi_x_R_become_1_15 19 rfl) ln_R_40_x_E_copyCells mo_x_E_copyCells ms_x_E_copyCells (gx_rmb rfl) rfl (k_x_E_copyCells e_r4) rfl rfl (Nat.le_of_ble_eq_true rfl) ?_
  refine gx_aload_n hX (gx_dt dt_mi_x_R_become_1_15 20 rfl) rfl ?_
  refine gx_getr hX fl_R_25 sh_x_15 rfl (gx_dt dt_mi_x_R_become_1_15 21 rfl) ?_
  refine gx_aload_n hX (gx_dt dt_mi_x_R_become_1_15 22 rfl) rfl ?_
  refine gx_getr hX fl_R_25 sh_x_1 rfl (gx_dt dt_mi_x_R_become_1_15 23 rfl) ?_
  obtain ⟨r5, e_r5, h⟩ := gx_bd h
  refine gx_callSv hX (gx_dt dt_mi_x_R_become_1_15 24 rfl) ln_R_40_x_E_copyCells mo_x_E_copyCells ms_x_E_copyCells (gx_rmb rfl) rfl (k_x_E_copyCells e_r5) rfl rfl (Nat.le_of_ble_eq_true rfl) ?_
  refine gx_aload_n hX (gx_dt dt_mi_x_R_become_1_15 25 rfl) rfl ?_
  refine gx_getr hX fl_R_28 sh_x_15 rfl (gx_dt dt_mi_x_R_become_1_15 26 rfl) ?_
  refine gx_aload_n hX (gx_dt dt_mi_x_R_become_1_15 27 rfl) rfl ?_
  refine gx_getr hX fl_R_28 sh_x_1 rfl (gx_dt dt_mi_x_R_become_1_15 28 rfl) ?_
  obtain ⟨r6, e_r6, h⟩ := gx_bd h
  refine gx_callSv hX (gx_dt dt_mi_x_R_become_1_15 29 rfl) ln_R_40_x_E_copyCells mo_x_E_copyCells ms_x_E_copyCells (gx_rmb rfl) rfl (k_x_E_copyCells e_r6) rfl rfl (Nat.le_of_ble_eq_true rfl) ?_
  refine gx_aload_n hX (gx_dt dt_mi_x_R_become_1_15 30 rfl) rfl ?_
  refine gx_getr hX fl_R_31 sh_x_15 rfl (gx_dt dt_mi_x_R_become_1_15 31 rfl) ?_
  refine gx_aload_n hX (gx_dt dt_mi_x_R_become_1_15 32 rfl) rfl ?_
  refine gx_getr hX fl_R_31 sh_x_1 rfl (gx_dt dt_mi_x_R_become_1_15 33 rfl) ?_
  obtain ⟨r7, e_r7, h⟩ := gx_bd h
  refine gx_callSv hX (gx_dt dt_mi_x_R_become_1_15 34 rfl) ln_R_40_x_E_copyCells mo_x_E_copyCells ms_x_E_copyCells (gx_rmb rfl) rfl (k_x_E_copyCells e_r7) rfl rfl (Nat.le_of_ble_eq_true rfl) ?_
  refine gx_aload_n hX (gx_dt dt_mi_x_R_become_1_15 35 rfl) rfl ?_
  refine gx_getr hX fl_R_34 sh_x_15 rfl (gx_dt dt_mi_x_R_become_1_15 36 rfl) ?_
  refine gx_aload_n hX (gx_dt dt_mi_x_R_become_1_15 37 rfl) rfl ?_
  refine gx_getr hX fl_R_34 sh_x_1 rfl (gx_dt dt_mi_x_R_become_1_15 38 rfl) ?_
  obtain ⟨r8, e_r8, h⟩ := gx_bd h
  refine gx_callSv hX (gx_dt dt_mi_x_R_become_1_15 39 rfl) ln_R_40_x_E_copyCells mo_x_E_copyCells ms_x_E_copyCells (gx_rmb rfl) rfl (k_x_E_copyCells e_r8) rfl rfl (Nat.le_of_ble_eq_true rfl) ?_
  refine gx_aload_n hX (gx_dt dt_mi_x_R_become_1_15 40 rfl) rfl ?_
  refine gx_getr hX fl_R_37 sh_x_15 rfl (gx_dt dt_mi_x_R_become_1_15 41 rfl) ?_
  refine gx_aload_n hX (gx_dt dt_mi_x_R_become_1_15 42 rfl) rfl ?_
  refine gx_getr hX fl_R_37 sh_x_1 rfl (gx_dt dt_mi_x_R_become_1_15 43 rfl) ?_
  obtain ⟨r9, e_r9, h⟩ := gx_bd h
  refine gx_callSv hX (gx_dt dt_mi_x_R_become_1_15 44 rfl) ln_R_40_x_E_copyCells mo_x_E_copyCells ms_x_E_copyCells (gx_rmb rfl) rfl (k_x_E_copyCells e_r9) rfl rfl (Nat.le_of_ble_eq_true rfl) ?_
  obtain rfl := Option.some.inj h
  exact gx_vret hX (gx_dt dt_mi_x_R_become_1_15 45 rfl) rfl hres hwr
-- EachBearsPillar.on()I
def x_E_on (w : gx_Wd) : Option (Int32 × gx_Wd) :=
  if w 0 3 = 0 then
    (x_E_refuse (-3) w).bind fun r3 =>
    some (r3.1, r3.2)
  else
    (x_R_become_1_15 w).bind fun r2 =>
    some (r2 1 0, r2)
theorem k_x_E_on {w : gx_Wd} {R : Int32 × gx_Wd} (h : x_E_on w = some R) : gx_MT mi_x_E_on [.inr 0] w (some (.inl R.1)) R.2 := by
  refine gx_met (by decide +kernel) (Nat.le_of_ble_eq_true rfl) (fun X hX hres hwr => ?_)
  show gx_G X mi_x_E_on 0 [some (.inr 0)] [] w
  rw [x_E_on] at h
  refine gx_aload_n hX (gx_dt dt_mi_x_E_on 0 rfl) rfl ?_
  refine gx_geti hX fl_E_22 sh_x_0 rfl (gx_dt dt_mi_x_E_on 1 rfl) ?_
  refine gx_if_ne hX (tgt := 14) (gx_dt dt_mi_x_E_on 2 rfl) (by decide) (fun c1 => ?_) (fun c1 => ?_)
  · have h := gx_ifn c1 h
    refine gx_aload_n hX (gx_dt dt_mi_x_E_on 7 rfl) rfl ?_
    refine gx_getr hX fl_E_10 sh_x_0 rfl (gx_dt dt_mi_x_E_on 8 rfl) ?_
    refine gx_aload_n hX (gx_dt dt_mi_x_E_on 9 rfl) rfl ?_
    refine gx_getr hX fl_E_19 sh_x_0 rfl (gx_dt dt_mi_x_E_on 10 rfl) ?_
    obtain ⟨r2, e_r2, h⟩ := gx_bd h
    refine gx_callVv hX (gx_dt dt_mi_x_E_on 11 rfl) ln_E_223_x_R_become_1_15 mo_x_R_become_1_15 mv_x_R_become_1_15 (gx_rmb rfl) sh_x_1 ⟨_, _, rfl⟩ rfl (k_x_R_become_1_15 e_r2) rfl rfl (Nat.le_of_ble_eq_true rfl) ?_
    refine gx_aload_n hX (gx_dt dt_mi_x_E_on 12 rfl) rfl ?_
    refine gx_getr hX fl_E_10 sh_x_0 rfl (gx_dt dt_mi_x_E_on 13 rfl) ?_
    refine gx_geti hX fl_E_158 sh_x_1 rfl (gx_dt dt_mi_x_E_on 14 rfl) ?_
    obtain rfl := Option.some.inj h
    exact gx_iret hX (gx_dt dt_mi_x_E_on 15 rfl) rfl hres hwr
  · have h := gx_ifp c1 h
    refine gx_aload_n hX (gx_dt dt_mi_x_E_on 3 rfl) rfl ?_
    refine gx_bipush hX (v := (-3)) (gx_dt dt_mi_x_E_on 4 rfl) (by decide) ?_
    obtain ⟨r3, e_r3, h⟩ := gx_bd h
    refine gx_callVi hX (gx_dt dt_mi_x_E_on 5 rfl) ln_E_69_x_E_refuse mo_x_E_refuse mv_x_E_refuse (gx_rmb rfl) sh_x_0 ⟨_, _, rfl⟩ rfl (k_x_E_refuse e_r3) rfl rfl (Nat.le_of_ble_eq_true rfl) ?_
    obtain rfl := Option.some.inj h
    exact gx_iret hX (gx_dt dt_mi_x_E_on 6 rfl) rfl hres hwr
end
