-- ===== PART A: goes FIRST, ahead of the names: the tables' words, and 'selects' of the private methods out of them =====
/-- a private method of a class that the tables say can be made, by its rows of tables_1 -/
def lw_okq (q : MethodName × Nat) : Prop := (q.1.cls ≠ "java/lang/invoke/MethodHandle" ∧ q.1.cls ≠ "java/lang/invoke/VarHandle") ∧ Cond.instantiable q.1.cls q.2 ∈ tables_1 ∧ Cond.privateMethod q.1 ∈ tables_1 ∧ Cond.instanceMethod q.1 ∈ tables_1
theorem lw_p0 : lw_okq (⟨"StreetTube", "refused", "(I)I"⟩, 7) := ⟨⟨by decide +kernel, by decide +kernel⟩, List.mem_of_getElem? (i := 26) (by decide +kernel), List.mem_of_getElem? (i := 372) (by decide +kernel), List.mem_of_getElem? (i := 373) (by decide +kernel)⟩
theorem lw_p1 : lw_okq (⟨"StreetTube$Reader", "step", "()V"⟩, 14) := ⟨⟨by decide +kernel, by decide +kernel⟩, List.mem_of_getElem? (i := 139) (by decide +kernel), List.mem_of_getElem? (i := 387) (by decide +kernel), List.mem_of_getElem? (i := 388) (by decide +kernel)⟩
theorem lw_p2 : lw_okq (⟨"StreetTube$Reader", "takeWord", "()V"⟩, 14) := ⟨⟨by decide +kernel, by decide +kernel⟩, List.mem_of_getElem? (i := 139) (by decide +kernel), List.mem_of_getElem? (i := 391) (by decide +kernel), List.mem_of_getElem? (i := 392) (by decide +kernel)⟩
theorem lw_p3 : lw_okq (⟨"StreetTube$Reader", "takeWhole", "()V"⟩, 14) := ⟨⟨by decide +kernel, by decide +kernel⟩, List.mem_of_getElem? (i := 139) (by decide +kernel), List.mem_of_getElem? (i := 395) (by decide +kernel), List.mem_of_getElem? (i := 396) (by decide +kernel)⟩
theorem lw_p4 : lw_okq (⟨"StreetTube$Reader", "takeLine", "()Z"⟩, 14) := ⟨⟨by decide +kernel, by decide +kernel⟩, List.mem_of_getElem? (i := 139) (by decide +kernel), List.mem_of_getElem? (i := 401) (by decide +kernel), List.mem_of_getElem? (i := 402) (by decide +kernel)⟩
theorem lw_p5 : lw_okq (⟨"StreetTube$Reader", "lineSort", "()I"⟩, 14) := ⟨⟨by decide +kernel, by decide +kernel⟩, List.mem_of_getElem? (i := 139) (by decide +kernel), List.mem_of_getElem? (i := 405) (by decide +kernel), List.mem_of_getElem? (i := 406) (by decide +kernel)⟩
theorem lw_p6 : lw_okq (⟨"StreetTube$Reader", "failHere", "(I)Z"⟩, 14) := ⟨⟨by decide +kernel, by decide +kernel⟩, List.mem_of_getElem? (i := 139) (by decide +kernel), List.mem_of_getElem? (i := 409) (by decide +kernel), List.mem_of_getElem? (i := 410) (by decide +kernel)⟩
theorem lw_p7 : lw_okq (⟨"StreetTube$Reader", "isFull", "(I)Z"⟩, 14) := ⟨⟨by decide +kernel, by decide +kernel⟩, List.mem_of_getElem? (i := 139) (by decide +kernel), List.mem_of_getElem? (i := 413) (by decide +kernel), List.mem_of_getElem? (i := 414) (by decide +kernel)⟩
theorem lw_p8 : lw_okq (⟨"StreetTube$Reader", "takeTube", "()Z"⟩, 14) := ⟨⟨by decide +kernel, by decide +kernel⟩, List.mem_of_getElem? (i := 139) (by decide +kernel), List.mem_of_getElem? (i := 421) (by decide +kernel), List.mem_of_getElem? (i := 422) (by decide +kernel)⟩
theorem lw_p9 : lw_okq (⟨"StreetTube$Reader", "takeThis", "(Ljava/lang/String;)Z"⟩, 14) := ⟨⟨by decide +kernel, by decide +kernel⟩, List.mem_of_getElem? (i := 139) (by decide +kernel), List.mem_of_getElem? (i := 426) (by decide +kernel), List.mem_of_getElem? (i := 427) (by decide +kernel)⟩
theorem lw_p10 : lw_okq (⟨"StreetTube$Reader", "isWord", "(Ljava/lang/String;)Z"⟩, 14) := ⟨⟨by decide +kernel, by decide +kernel⟩, List.mem_of_getElem? (i := 139) (by decide +kernel), List.mem_of_getElem? (i := 430) (by decide +kernel), List.mem_of_getElem? (i := 431) (by decide +kernel)⟩
theorem lw_p11 : lw_okq (⟨"StreetTube$Reader", "takeBetween", "(II)I"⟩, 14) := ⟨⟨by decide +kernel, by decide +kernel⟩, List.mem_of_getElem? (i := 139) (by decide +kernel), List.mem_of_getElem? (i := 434) (by decide +kernel), List.mem_of_getElem? (i := 435) (by decide +kernel)⟩
theorem lw_p12 : lw_okq (⟨"StreetTube$Reader", "isBetween", "(II)Z"⟩, 14) := ⟨⟨by decide +kernel, by decide +kernel⟩, List.mem_of_getElem? (i := 139) (by decide +kernel), List.mem_of_getElem? (i := 438) (by decide +kernel), List.mem_of_getElem? (i := 439) (by decide +kernel)⟩
theorem lw_p13 : lw_okq (⟨"StreetTube$Reader", "takePerson", "()Z"⟩, 14) := ⟨⟨by decide +kernel, by decide +kernel⟩, List.mem_of_getElem? (i := 139) (by decide +kernel), List.mem_of_getElem? (i := 444) (by decide +kernel), List.mem_of_getElem? (i := 445) (by decide +kernel)⟩
theorem lw_p14 : lw_okq (⟨"StreetTube$Reader", "takeNewName", "(I)Z"⟩, 14) := ⟨⟨by decide +kernel, by decide +kernel⟩, List.mem_of_getElem? (i := 139) (by decide +kernel), List.mem_of_getElem? (i := 448) (by decide +kernel), List.mem_of_getElem? (i := 449) (by decide +kernel)⟩
theorem lw_p15 : lw_okq (⟨"StreetTube$Reader", "nameHere", "()I"⟩, 14) := ⟨⟨by decide +kernel, by decide +kernel⟩, List.mem_of_getElem? (i := 139) (by decide +kernel), List.mem_of_getElem? (i := 452) (by decide +kernel), List.mem_of_getElem? (i := 453) (by decide +kernel)⟩
def lw_privs_1 : List (MethodName × Nat) := [(⟨"StreetTube", "refused", "(I)I"⟩, 7), (⟨"StreetTube$Reader", "step", "()V"⟩, 14), (⟨"StreetTube$Reader", "takeWord", "()V"⟩, 14), (⟨"StreetTube$Reader", "takeWhole", "()V"⟩, 14), (⟨"StreetTube$Reader", "takeLine", "()Z"⟩, 14), (⟨"StreetTube$Reader", "lineSort", "()I"⟩, 14), (⟨"StreetTube$Reader", "failHere", "(I)Z"⟩, 14), (⟨"StreetTube$Reader", "isFull", "(I)Z"⟩, 14), (⟨"StreetTube$Reader", "takeTube", "()Z"⟩, 14), (⟨"StreetTube$Reader", "takeThis", "(Ljava/lang/String;)Z"⟩, 14), (⟨"StreetTube$Reader", "isWord", "(Ljava/lang/String;)Z"⟩, 14), (⟨"StreetTube$Reader", "takeBetween", "(II)I"⟩, 14), (⟨"StreetTube$Reader", "isBetween", "(II)Z"⟩, 14), (⟨"StreetTube$Reader", "takePerson", "()Z"⟩, 14), (⟨"StreetTube$Reader", "takeNewName", "(I)Z"⟩, 14), (⟨"StreetTube$Reader", "nameHere", "()I"⟩, 14)]
theorem lw_r1 : ∀ q ∈ lw_privs_1, lw_okq q := List.forall_mem_cons.mpr ⟨lw_p0, List.forall_mem_cons.mpr ⟨lw_p1, List.forall_mem_cons.mpr ⟨lw_p2, List.forall_mem_cons.mpr ⟨lw_p3, List.forall_mem_cons.mpr ⟨lw_p4, List.forall_mem_cons.mpr ⟨lw_p5, List.forall_mem_cons.mpr ⟨lw_p6, List.forall_mem_cons.mpr ⟨lw_p7, List.forall_mem_cons.mpr ⟨lw_p8, List.forall_mem_cons.mpr ⟨lw_p9, List.forall_mem_cons.mpr ⟨lw_p10, List.forall_mem_cons.mpr ⟨lw_p11, List.forall_mem_cons.mpr ⟨lw_p12, List.forall_mem_cons.mpr ⟨lw_p13, List.forall_mem_cons.mpr ⟨lw_p14, List.forall_mem_cons.mpr ⟨lw_p15, fun _ h => absurd h List.not_mem_nil⟩⟩⟩⟩⟩⟩⟩⟩⟩⟩⟩⟩⟩⟩⟩⟩
theorem lw_p16 : lw_okq (⟨"StreetTube$Reader", "takeTurn", "()Z"⟩, 14) := ⟨⟨by decide +kernel, by decide +kernel⟩, List.mem_of_getElem? (i := 139) (by decide +kernel), List.mem_of_getElem? (i := 468) (by decide +kernel), List.mem_of_getElem? (i := 469) (by decide +kernel)⟩
theorem lw_p17 : lw_okq (⟨"StreetTube$Reader", "takeQuarrel", "()Z"⟩, 14) := ⟨⟨by decide +kernel, by decide +kernel⟩, List.mem_of_getElem? (i := 139) (by decide +kernel), List.mem_of_getElem? (i := 479) (by decide +kernel), List.mem_of_getElem? (i := 480) (by decide +kernel)⟩
theorem lw_p18 : lw_okq (⟨"StreetTube$Reader", "takePersonsName", "()I"⟩, 14) := ⟨⟨by decide +kernel, by decide +kernel⟩, List.mem_of_getElem? (i := 139) (by decide +kernel), List.mem_of_getElem? (i := 483) (by decide +kernel), List.mem_of_getElem? (i := 484) (by decide +kernel)⟩
theorem lw_p19 : lw_okq (⟨"StreetTube$Reader", "personHere", "()I"⟩, 14) := ⟨⟨by decide +kernel, by decide +kernel⟩, List.mem_of_getElem? (i := 139) (by decide +kernel), List.mem_of_getElem? (i := 487) (by decide +kernel), List.mem_of_getElem? (i := 488) (by decide +kernel)⟩
theorem lw_p20 : lw_okq (⟨"StreetTube$Reader", "takeUnsure", "()Z"⟩, 14) := ⟨⟨by decide +kernel, by decide +kernel⟩, List.mem_of_getElem? (i := 139) (by decide +kernel), List.mem_of_getElem? (i := 500) (by decide +kernel), List.mem_of_getElem? (i := 501) (by decide +kernel)⟩
theorem lw_p21 : lw_okq (⟨"StreetTube$Reader", "takeSeen", "()Z"⟩, 14) := ⟨⟨by decide +kernel, by decide +kernel⟩, List.mem_of_getElem? (i := 139) (by decide +kernel), List.mem_of_getElem? (i := 512) (by decide +kernel), List.mem_of_getElem? (i := 513) (by decide +kernel)⟩
theorem lw_p22 : lw_okq (⟨"StreetTube$Reader", "takeAnother", "(I)I"⟩, 14) := ⟨⟨by decide +kernel, by decide +kernel⟩, List.mem_of_getElem? (i := 139) (by decide +kernel), List.mem_of_getElem? (i := 516) (by decide +kernel), List.mem_of_getElem? (i := 517) (by decide +kernel)⟩
theorem lw_p23 : lw_okq (⟨"StreetTube$Reader", "takeWish", "(Z)Z"⟩, 14) := ⟨⟨by decide +kernel, by decide +kernel⟩, List.mem_of_getElem? (i := 139) (by decide +kernel), List.mem_of_getElem? (i := 522) (by decide +kernel), List.mem_of_getElem? (i := 523) (by decide +kernel)⟩
theorem lw_p24 : lw_okq (⟨"StreetTube$Reader", "goesOn", "()Z"⟩, 14) := ⟨⟨by decide +kernel, by decide +kernel⟩, List.mem_of_getElem? (i := 139) (by decide +kernel), List.mem_of_getElem? (i := 526) (by decide +kernel), List.mem_of_getElem? (i := 527) (by decide +kernel)⟩
theorem lw_p25 : lw_okq (⟨"StreetTube", "fine", "(I)I"⟩, 7) := ⟨⟨by decide +kernel, by decide +kernel⟩, List.mem_of_getElem? (i := 26) (by decide +kernel), List.mem_of_getElem? (i := 542) (by decide +kernel), List.mem_of_getElem? (i := 543) (by decide +kernel)⟩
theorem lw_p26 : lw_okq (⟨"StreetTube", "isPerson", "(I)Z"⟩, 7) := ⟨⟨by decide +kernel, by decide +kernel⟩, List.mem_of_getElem? (i := 26) (by decide +kernel), List.mem_of_getElem? (i := 558) (by decide +kernel), List.mem_of_getElem? (i := 559) (by decide +kernel)⟩
theorem lw_p27 : lw_okq (⟨"StreetTube", "slotOf", "(I)I"⟩, 7) := ⟨⟨by decide +kernel, by decide +kernel⟩, List.mem_of_getElem? (i := 26) (by decide +kernel), List.mem_of_getElem? (i := 562) (by decide +kernel), List.mem_of_getElem? (i := 563) (by decide +kernel)⟩
theorem lw_p28 : lw_okq (⟨"StreetTube", "besideBits", "(I)I"⟩, 7) := ⟨⟨by decide +kernel, by decide +kernel⟩, List.mem_of_getElem? (i := 26) (by decide +kernel), List.mem_of_getElem? (i := 569) (by decide +kernel), List.mem_of_getElem? (i := 570) (by decide +kernel)⟩
theorem lw_p29 : lw_okq (⟨"StreetTube", "isSlot", "(I)Z"⟩, 7) := ⟨⟨by decide +kernel, by decide +kernel⟩, List.mem_of_getElem? (i := 26) (by decide +kernel), List.mem_of_getElem? (i := 581) (by decide +kernel), List.mem_of_getElem? (i := 582) (by decide +kernel)⟩
theorem lw_p30 : lw_okq (⟨"StreetTube", "whoIsIn", "(I)I"⟩, 7) := ⟨⟨by decide +kernel, by decide +kernel⟩, List.mem_of_getElem? (i := 26) (by decide +kernel), List.mem_of_getElem? (i := 585) (by decide +kernel), List.mem_of_getElem? (i := 586) (by decide +kernel)⟩
theorem lw_p31 : lw_okq (⟨"StreetTube", "isTurn", "(I)Z"⟩, 7) := ⟨⟨by decide +kernel, by decide +kernel⟩, List.mem_of_getElem? (i := 26) (by decide +kernel), List.mem_of_getElem? (i := 593) (by decide +kernel), List.mem_of_getElem? (i := 594) (by decide +kernel)⟩
def lw_privs_2 : List (MethodName × Nat) := [(⟨"StreetTube$Reader", "takeTurn", "()Z"⟩, 14), (⟨"StreetTube$Reader", "takeQuarrel", "()Z"⟩, 14), (⟨"StreetTube$Reader", "takePersonsName", "()I"⟩, 14), (⟨"StreetTube$Reader", "personHere", "()I"⟩, 14), (⟨"StreetTube$Reader", "takeUnsure", "()Z"⟩, 14), (⟨"StreetTube$Reader", "takeSeen", "()Z"⟩, 14), (⟨"StreetTube$Reader", "takeAnother", "(I)I"⟩, 14), (⟨"StreetTube$Reader", "takeWish", "(Z)Z"⟩, 14), (⟨"StreetTube$Reader", "goesOn", "()Z"⟩, 14), (⟨"StreetTube", "fine", "(I)I"⟩, 7), (⟨"StreetTube", "isPerson", "(I)Z"⟩, 7), (⟨"StreetTube", "slotOf", "(I)I"⟩, 7), (⟨"StreetTube", "besideBits", "(I)I"⟩, 7), (⟨"StreetTube", "isSlot", "(I)Z"⟩, 7), (⟨"StreetTube", "whoIsIn", "(I)I"⟩, 7), (⟨"StreetTube", "isTurn", "(I)Z"⟩, 7)]
theorem lw_r2 : ∀ q ∈ lw_privs_2, lw_okq q := List.forall_mem_cons.mpr ⟨lw_p16, List.forall_mem_cons.mpr ⟨lw_p17, List.forall_mem_cons.mpr ⟨lw_p18, List.forall_mem_cons.mpr ⟨lw_p19, List.forall_mem_cons.mpr ⟨lw_p20, List.forall_mem_cons.mpr ⟨lw_p21, List.forall_mem_cons.mpr ⟨lw_p22, List.forall_mem_cons.mpr ⟨lw_p23, List.forall_mem_cons.mpr ⟨lw_p24, List.forall_mem_cons.mpr ⟨lw_p25, List.forall_mem_cons.mpr ⟨lw_p26, List.forall_mem_cons.mpr ⟨lw_p27, List.forall_mem_cons.mpr ⟨lw_p28, List.forall_mem_cons.mpr ⟨lw_p29, List.forall_mem_cons.mpr ⟨lw_p30, List.forall_mem_cons.mpr ⟨lw_p31, fun _ h => absurd h List.not_mem_nil⟩⟩⟩⟩⟩⟩⟩⟩⟩⟩⟩⟩⟩⟩⟩⟩
theorem lw_p32 : lw_okq (⟨"StreetTube", "isTube", "()Z"⟩, 7) := ⟨⟨by decide +kernel, by decide +kernel⟩, List.mem_of_getElem? (i := 26) (by decide +kernel), List.mem_of_getElem? (i := 601) (by decide +kernel), List.mem_of_getElem? (i := 602) (by decide +kernel)⟩
theorem lw_p33 : lw_okq (⟨"StreetTube", "quarrelsBy", "(I)I"⟩, 7) := ⟨⟨by decide +kernel, by decide +kernel⟩, List.mem_of_getElem? (i := 26) (by decide +kernel), List.mem_of_getElem? (i := 605) (by decide +kernel), List.mem_of_getElem? (i := 606) (by decide +kernel)⟩
theorem lw_p34 : lw_okq (⟨"StreetTube", "isPlace", "(I)Z"⟩, 7) := ⟨⟨by decide +kernel, by decide +kernel⟩, List.mem_of_getElem? (i := 26) (by decide +kernel), List.mem_of_getElem? (i := 629) (by decide +kernel), List.mem_of_getElem? (i := 630) (by decide +kernel)⟩
theorem lw_p35 : lw_okq (⟨"StreetTube", "places", "()I"⟩, 7) := ⟨⟨by decide +kernel, by decide +kernel⟩, List.mem_of_getElem? (i := 26) (by decide +kernel), List.mem_of_getElem? (i := 633) (by decide +kernel), List.mem_of_getElem? (i := 634) (by decide +kernel)⟩
theorem lw_p36 : lw_okq (⟨"StreetTube", "sectors", "()I"⟩, 7) := ⟨⟨by decide +kernel, by decide +kernel⟩, List.mem_of_getElem? (i := 26) (by decide +kernel), List.mem_of_getElem? (i := 637) (by decide +kernel), List.mem_of_getElem? (i := 638) (by decide +kernel)⟩
theorem lw_p37 : lw_okq (⟨"StreetTube", "slotAt", "(I)I"⟩, 7) := ⟨⟨by decide +kernel, by decide +kernel⟩, List.mem_of_getElem? (i := 26) (by decide +kernel), List.mem_of_getElem? (i := 641) (by decide +kernel), List.mem_of_getElem? (i := 642) (by decide +kernel)⟩
theorem lw_p38 : lw_okq (⟨"StreetTube", "placeIn", "(II)I"⟩, 7) := ⟨⟨by decide +kernel, by decide +kernel⟩, List.mem_of_getElem? (i := 26) (by decide +kernel), List.mem_of_getElem? (i := 653) (by decide +kernel), List.mem_of_getElem? (i := 654) (by decide +kernel)⟩
theorem lw_p39 : lw_okq (⟨"StreetTube", "areTwo", "(II)Z"⟩, 7) := ⟨⟨by decide +kernel, by decide +kernel⟩, List.mem_of_getElem? (i := 26) (by decide +kernel), List.mem_of_getElem? (i := 665) (by decide +kernel), List.mem_of_getElem? (i := 666) (by decide +kernel)⟩
theorem lw_p40 : lw_okq (⟨"StreetTube", "reached", "()LStreetTube$Reach;"⟩, 7) := ⟨⟨by decide +kernel, by decide +kernel⟩, List.mem_of_getElem? (i := 26) (by decide +kernel), List.mem_of_getElem? (i := 730) (by decide +kernel), List.mem_of_getElem? (i := 731) (by decide +kernel)⟩
theorem lw_p41 : lw_okq (⟨"StreetTube$Reach", "find", "(III)V"⟩, 9) := ⟨⟨by decide +kernel, by decide +kernel⟩, List.mem_of_getElem? (i := 281) (by decide +kernel), List.mem_of_getElem? (i := 739) (by decide +kernel), List.mem_of_getElem? (i := 740) (by decide +kernel)⟩
theorem lw_p42 : lw_okq (⟨"StreetTube$Reach", "pairsFrom", "(II)J"⟩, 9) := ⟨⟨by decide +kernel, by decide +kernel⟩, List.mem_of_getElem? (i := 281) (by decide +kernel), List.mem_of_getElem? (i := 805) (by decide +kernel), List.mem_of_getElem? (i := 806) (by decide +kernel)⟩
theorem lw_p43 : lw_okq (⟨"StreetTube", "errandChange", "()I"⟩, 7) := ⟨⟨by decide +kernel, by decide +kernel⟩, List.mem_of_getElem? (i := 26) (by decide +kernel), List.mem_of_getElem? (i := 826) (by decide +kernel), List.mem_of_getElem? (i := 827) (by decide +kernel)⟩
theorem lw_p44 : lw_okq (⟨"StreetTube", "depthOrNot", "(I)I"⟩, 7) := ⟨⟨by decide +kernel, by decide +kernel⟩, List.mem_of_getElem? (i := 26) (by decide +kernel), List.mem_of_getElem? (i := 843) (by decide +kernel), List.mem_of_getElem? (i := 844) (by decide +kernel)⟩
theorem lw_p45 : lw_okq (⟨"StreetTube", "turnOnTheWay", "(II)I"⟩, 7) := ⟨⟨by decide +kernel, by decide +kernel⟩, List.mem_of_getElem? (i := 26) (by decide +kernel), List.mem_of_getElem? (i := 851) (by decide +kernel), List.mem_of_getElem? (i := 852) (by decide +kernel)⟩
theorem lw_p46 : lw_okq (⟨"StreetTube", "peaceChange", "()I"⟩, 7) := ⟨⟨by decide +kernel, by decide +kernel⟩, List.mem_of_getElem? (i := 26) (by decide +kernel), List.mem_of_getElem? (i := 863) (by decide +kernel), List.mem_of_getElem? (i := 864) (by decide +kernel)⟩
theorem lw_p47 : lw_okq (⟨"StreetTube", "fineLong", "(J)J"⟩, 7) := ⟨⟨by decide +kernel, by decide +kernel⟩, List.mem_of_getElem? (i := 26) (by decide +kernel), List.mem_of_getElem? (i := 895) (by decide +kernel), List.mem_of_getElem? (i := 896) (by decide +kernel)⟩
def lw_privs_3 : List (MethodName × Nat) := [(⟨"StreetTube", "isTube", "()Z"⟩, 7), (⟨"StreetTube", "quarrelsBy", "(I)I"⟩, 7), (⟨"StreetTube", "isPlace", "(I)Z"⟩, 7), (⟨"StreetTube", "places", "()I"⟩, 7), (⟨"StreetTube", "sectors", "()I"⟩, 7), (⟨"StreetTube", "slotAt", "(I)I"⟩, 7), (⟨"StreetTube", "placeIn", "(II)I"⟩, 7), (⟨"StreetTube", "areTwo", "(II)Z"⟩, 7), (⟨"StreetTube", "reached", "()LStreetTube$Reach;"⟩, 7), (⟨"StreetTube$Reach", "find", "(III)V"⟩, 9), (⟨"StreetTube$Reach", "pairsFrom", "(II)J"⟩, 9), (⟨"StreetTube", "errandChange", "()I"⟩, 7), (⟨"StreetTube", "depthOrNot", "(I)I"⟩, 7), (⟨"StreetTube", "turnOnTheWay", "(II)I"⟩, 7), (⟨"StreetTube", "peaceChange", "()I"⟩, 7), (⟨"StreetTube", "fineLong", "(J)J"⟩, 7)]
theorem lw_r3 : ∀ q ∈ lw_privs_3, lw_okq q := List.forall_mem_cons.mpr ⟨lw_p32, List.forall_mem_cons.mpr ⟨lw_p33, List.forall_mem_cons.mpr ⟨lw_p34, List.forall_mem_cons.mpr ⟨lw_p35, List.forall_mem_cons.mpr ⟨lw_p36, List.forall_mem_cons.mpr ⟨lw_p37, List.forall_mem_cons.mpr ⟨lw_p38, List.forall_mem_cons.mpr ⟨lw_p39, List.forall_mem_cons.mpr ⟨lw_p40, List.forall_mem_cons.mpr ⟨lw_p41, List.forall_mem_cons.mpr ⟨lw_p42, List.forall_mem_cons.mpr ⟨lw_p43, List.forall_mem_cons.mpr ⟨lw_p44, List.forall_mem_cons.mpr ⟨lw_p45, List.forall_mem_cons.mpr ⟨lw_p46, List.forall_mem_cons.mpr ⟨lw_p47, fun _ h => absurd h List.not_mem_nil⟩⟩⟩⟩⟩⟩⟩⟩⟩⟩⟩⟩⟩⟩⟩⟩
theorem lw_p48 : lw_okq (⟨"StreetTube$Told", "standBy", "(I)I"⟩, 14) := ⟨⟨by decide +kernel, by decide +kernel⟩, List.mem_of_getElem? (i := 34) (by decide +kernel), List.mem_of_getElem? (i := 938) (by decide +kernel), List.mem_of_getElem? (i := 939) (by decide +kernel)⟩
theorem lw_p49 : lw_okq (⟨"StreetTube$Told", "areUnlike", "(I)Z"⟩, 14) := ⟨⟨by decide +kernel, by decide +kernel⟩, List.mem_of_getElem? (i := 34) (by decide +kernel), List.mem_of_getElem? (i := 944) (by decide +kernel), List.mem_of_getElem? (i := 945) (by decide +kernel)⟩
theorem lw_p50 : lw_okq (⟨"StreetTube", "whomToAsk", "(I)I"⟩, 7) := ⟨⟨by decide +kernel, by decide +kernel⟩, List.mem_of_getElem? (i := 26) (by decide +kernel), List.mem_of_getElem? (i := 969) (by decide +kernel), List.mem_of_getElem? (i := 970) (by decide +kernel)⟩
theorem lw_p51 : lw_okq (⟨"StreetTube$Shaker", "shakeOnce", "(LStreetTube$Told;)V"⟩, 4) := ⟨⟨by decide +kernel, by decide +kernel⟩, List.mem_of_getElem? (i := 318) (by decide +kernel), List.mem_of_getElem? (i := 1053) (by decide +kernel), List.mem_of_getElem? (i := 1054) (by decide +kernel)⟩
theorem lw_p52 : lw_okq (⟨"StreetTube$Shaker", "draw", "()I"⟩, 4) := ⟨⟨by decide +kernel, by decide +kernel⟩, List.mem_of_getElem? (i := 318) (by decide +kernel), List.mem_of_getElem? (i := 1096) (by decide +kernel), List.mem_of_getElem? (i := 1097) (by decide +kernel)⟩
theorem lw_p53 : lw_okq (⟨"StreetTube", "slideAll", "(I)I"⟩, 7) := ⟨⟨by decide +kernel, by decide +kernel⟩, List.mem_of_getElem? (i := 26) (by decide +kernel), List.mem_of_getElem? (i := 1110) (by decide +kernel), List.mem_of_getElem? (i := 1111) (by decide +kernel)⟩
theorem lw_p54 : lw_okq (⟨"java/lang/Throwable", "fillInStackTrace", "(I)Ljava/lang/Throwable;"⟩, 6) := ⟨⟨by decide +kernel, by decide +kernel⟩, List.mem_of_getElem? (i := 1205) (by decide +kernel), List.mem_of_getElem? (i := 1203) (by decide +kernel), List.mem_of_getElem? (i := 1204) (by decide +kernel)⟩
theorem lw_p55 : lw_okq (⟨"StreetTubeModel", "refused", "(I)I"⟩, 40) := ⟨⟨by decide +kernel, by decide +kernel⟩, List.mem_of_getElem? (i := 1230) (by decide +kernel), List.mem_of_getElem? (i := 1369) (by decide +kernel), List.mem_of_getElem? (i := 1370) (by decide +kernel)⟩
theorem lw_p56 : lw_okq (⟨"StreetTubeModel", "goesOn", "()V"⟩, 40) := ⟨⟨by decide +kernel, by decide +kernel⟩, List.mem_of_getElem? (i := 1230) (by decide +kernel), List.mem_of_getElem? (i := 1471) (by decide +kernel), List.mem_of_getElem? (i := 1472) (by decide +kernel)⟩
theorem lw_p57 : lw_okq (⟨"StreetTubeModel", "byteAt", "(I)I"⟩, 40) := ⟨⟨by decide +kernel, by decide +kernel⟩, List.mem_of_getElem? (i := 1230) (by decide +kernel), List.mem_of_getElem? (i := 1475) (by decide +kernel), List.mem_of_getElem? (i := 1476) (by decide +kernel)⟩
theorem lw_p58 : lw_okq (⟨"StreetTubeModel", "readAll", "()V"⟩, 40) := ⟨⟨by decide +kernel, by decide +kernel⟩, List.mem_of_getElem? (i := 1230) (by decide +kernel), List.mem_of_getElem? (i := 1486) (by decide +kernel), List.mem_of_getElem? (i := 1487) (by decide +kernel)⟩
theorem lw_p59 : lw_okq (⟨"StreetTubeModel", "readLine", "()V"⟩, 40) := ⟨⟨by decide +kernel, by decide +kernel⟩, List.mem_of_getElem? (i := 1230) (by decide +kernel), List.mem_of_getElem? (i := 1490) (by decide +kernel), List.mem_of_getElem? (i := 1491) (by decide +kernel)⟩
theorem lw_p60 : lw_okq (⟨"StreetTubeModel", "isWord", "(Ljava/lang/String;)Z"⟩, 40) := ⟨⟨by decide +kernel, by decide +kernel⟩, List.mem_of_getElem? (i := 1230) (by decide +kernel), List.mem_of_getElem? (i := 1495) (by decide +kernel), List.mem_of_getElem? (i := 1496) (by decide +kernel)⟩
theorem lw_p61 : lw_okq (⟨"StreetTubeModel", "readTube", "()V"⟩, 40) := ⟨⟨by decide +kernel, by decide +kernel⟩, List.mem_of_getElem? (i := 1230) (by decide +kernel), List.mem_of_getElem? (i := 1504) (by decide +kernel), List.mem_of_getElem? (i := 1505) (by decide +kernel)⟩
theorem lw_p62 : lw_okq (⟨"StreetTubeModel", "flaw", "(I)V"⟩, 40) := ⟨⟨by decide +kernel, by decide +kernel⟩, List.mem_of_getElem? (i := 1230) (by decide +kernel), List.mem_of_getElem? (i := 1508) (by decide +kernel), List.mem_of_getElem? (i := 1509) (by decide +kernel)⟩
theorem lw_p63 : lw_okq (⟨"StreetTubeModel", "readPart", "(Ljava/lang/String;II)I"⟩, 40) := ⟨⟨by decide +kernel, by decide +kernel⟩, List.mem_of_getElem? (i := 1230) (by decide +kernel), List.mem_of_getElem? (i := 1513) (by decide +kernel), List.mem_of_getElem? (i := 1514) (by decide +kernel)⟩
def lw_privs_4 : List (MethodName × Nat) := [(⟨"StreetTube$Told", "standBy", "(I)I"⟩, 14), (⟨"StreetTube$Told", "areUnlike", "(I)Z"⟩, 14), (⟨"StreetTube", "whomToAsk", "(I)I"⟩, 7), (⟨"StreetTube$Shaker", "shakeOnce", "(LStreetTube$Told;)V"⟩, 4), (⟨"StreetTube$Shaker", "draw", "()I"⟩, 4), (⟨"StreetTube", "slideAll", "(I)I"⟩, 7), (⟨"java/lang/Throwable", "fillInStackTrace", "(I)Ljava/lang/Throwable;"⟩, 6), (⟨"StreetTubeModel", "refused", "(I)I"⟩, 40), (⟨"StreetTubeModel", "goesOn", "()V"⟩, 40), (⟨"StreetTubeModel", "byteAt", "(I)I"⟩, 40), (⟨"StreetTubeModel", "readAll", "()V"⟩, 40), (⟨"StreetTubeModel", "readLine", "()V"⟩, 40), (⟨"StreetTubeModel", "isWord", "(Ljava/lang/String;)Z"⟩, 40), (⟨"StreetTubeModel", "readTube", "()V"⟩, 40), (⟨"StreetTubeModel", "flaw", "(I)V"⟩, 40), (⟨"StreetTubeModel", "readPart", "(Ljava/lang/String;II)I"⟩, 40)]
theorem lw_r4 : ∀ q ∈ lw_privs_4, lw_okq q := List.forall_mem_cons.mpr ⟨lw_p48, List.forall_mem_cons.mpr ⟨lw_p49, List.forall_mem_cons.mpr ⟨lw_p50, List.forall_mem_cons.mpr ⟨lw_p51, List.forall_mem_cons.mpr ⟨lw_p52, List.forall_mem_cons.mpr ⟨lw_p53, List.forall_mem_cons.mpr ⟨lw_p54, List.forall_mem_cons.mpr ⟨lw_p55, List.forall_mem_cons.mpr ⟨lw_p56, List.forall_mem_cons.mpr ⟨lw_p57, List.forall_mem_cons.mpr ⟨lw_p58, List.forall_mem_cons.mpr ⟨lw_p59, List.forall_mem_cons.mpr ⟨lw_p60, List.forall_mem_cons.mpr ⟨lw_p61, List.forall_mem_cons.mpr ⟨lw_p62, List.forall_mem_cons.mpr ⟨lw_p63, fun _ h => absurd h List.not_mem_nil⟩⟩⟩⟩⟩⟩⟩⟩⟩⟩⟩⟩⟩⟩⟩⟩
theorem lw_p64 : lw_okq (⟨"StreetTubeModel", "needs", "(Ljava/lang/String;)V"⟩, 40) := ⟨⟨by decide +kernel, by decide +kernel⟩, List.mem_of_getElem? (i := 1230) (by decide +kernel), List.mem_of_getElem? (i := 1517) (by decide +kernel), List.mem_of_getElem? (i := 1518) (by decide +kernel)⟩
theorem lw_p65 : lw_okq (⟨"StreetTubeModel", "wholeAt", "(II)I"⟩, 40) := ⟨⟨by decide +kernel, by decide +kernel⟩, List.mem_of_getElem? (i := 1230) (by decide +kernel), List.mem_of_getElem? (i := 1521) (by decide +kernel), List.mem_of_getElem? (i := 1522) (by decide +kernel)⟩
theorem lw_p66 : lw_okq (⟨"StreetTubeModel", "readPerson", "()V"⟩, 40) := ⟨⟨by decide +kernel, by decide +kernel⟩, List.mem_of_getElem? (i := 1230) (by decide +kernel), List.mem_of_getElem? (i := 1531) (by decide +kernel), List.mem_of_getElem? (i := 1532) (by decide +kernel)⟩
theorem lw_p67 : lw_okq (⟨"StreetTubeModel", "lineBegins", "(II)V"⟩, 40) := ⟨⟨by decide +kernel, by decide +kernel⟩, List.mem_of_getElem? (i := 1230) (by decide +kernel), List.mem_of_getElem? (i := 1535) (by decide +kernel), List.mem_of_getElem? (i := 1536) (by decide +kernel)⟩
theorem lw_p68 : lw_okq (⟨"StreetTubeModel", "readFresh", "()J"⟩, 40) := ⟨⟨by decide +kernel, by decide +kernel⟩, List.mem_of_getElem? (i := 1230) (by decide +kernel), List.mem_of_getElem? (i := 1539) (by decide +kernel), List.mem_of_getElem? (i := 1540) (by decide +kernel)⟩
theorem lw_p69 : lw_okq (⟨"StreetTubeModel", "isName", "()Z"⟩, 40) := ⟨⟨by decide +kernel, by decide +kernel⟩, List.mem_of_getElem? (i := 1230) (by decide +kernel), List.mem_of_getElem? (i := 1543) (by decide +kernel), List.mem_of_getElem? (i := 1544) (by decide +kernel)⟩
theorem lw_p70 : lw_okq (⟨"StreetTubeModel", "names", "(JII)V"⟩, 40) := ⟨⟨by decide +kernel, by decide +kernel⟩, List.mem_of_getElem? (i := 1230) (by decide +kernel), List.mem_of_getElem? (i := 1565) (by decide +kernel), List.mem_of_getElem? (i := 1566) (by decide +kernel)⟩
theorem lw_p71 : lw_okq (⟨"StreetTubeModel", "readTurn", "()V"⟩, 40) := ⟨⟨by decide +kernel, by decide +kernel⟩, List.mem_of_getElem? (i := 1230) (by decide +kernel), List.mem_of_getElem? (i := 1569) (by decide +kernel), List.mem_of_getElem? (i := 1570) (by decide +kernel)⟩
theorem lw_p72 : lw_okq (⟨"StreetTubeModel", "readQuarrel", "()V"⟩, 40) := ⟨⟨by decide +kernel, by decide +kernel⟩, List.mem_of_getElem? (i := 1230) (by decide +kernel), List.mem_of_getElem? (i := 1576) (by decide +kernel), List.mem_of_getElem? (i := 1577) (by decide +kernel)⟩
theorem lw_p73 : lw_okq (⟨"StreetTubeModel", "readTwo", "()I"⟩, 40) := ⟨⟨by decide +kernel, by decide +kernel⟩, List.mem_of_getElem? (i := 1230) (by decide +kernel), List.mem_of_getElem? (i := 1580) (by decide +kernel), List.mem_of_getElem? (i := 1581) (by decide +kernel)⟩
theorem lw_p74 : lw_okq (⟨"StreetTubeModel", "personAtHand", "()I"⟩, 40) := ⟨⟨by decide +kernel, by decide +kernel⟩, List.mem_of_getElem? (i := 1230) (by decide +kernel), List.mem_of_getElem? (i := 1584) (by decide +kernel), List.mem_of_getElem? (i := 1585) (by decide +kernel)⟩
theorem lw_p75 : lw_okq (⟨"StreetTubeModel", "readWish", "(Z)V"⟩, 40) := ⟨⟨by decide +kernel, by decide +kernel⟩, List.mem_of_getElem? (i := 1230) (by decide +kernel), List.mem_of_getElem? (i := 1588) (by decide +kernel), List.mem_of_getElem? (i := 1589) (by decide +kernel)⟩
theorem lw_p76 : lw_okq (⟨"StreetTubeModel", "readUnsure", "()V"⟩, 40) := ⟨⟨by decide +kernel, by decide +kernel⟩, List.mem_of_getElem? (i := 1230) (by decide +kernel), List.mem_of_getElem? (i := 1592) (by decide +kernel), List.mem_of_getElem? (i := 1593) (by decide +kernel)⟩
theorem lw_p77 : lw_okq (⟨"StreetTubeModel", "readSeen", "()V"⟩, 40) := ⟨⟨by decide +kernel, by decide +kernel⟩, List.mem_of_getElem? (i := 1230) (by decide +kernel), List.mem_of_getElem? (i := 1600) (by decide +kernel), List.mem_of_getElem? (i := 1601) (by decide +kernel)⟩
theorem lw_p78 : lw_okq (⟨"StreetTubeModel", "eatsSemicolon", "()Z"⟩, 40) := ⟨⟨by decide +kernel, by decide +kernel⟩, List.mem_of_getElem? (i := 1230) (by decide +kernel), List.mem_of_getElem? (i := 1606) (by decide +kernel), List.mem_of_getElem? (i := 1607) (by decide +kernel)⟩
theorem lw_p79 : lw_okq (⟨"StreetTubeModel", "reaches", "(Z)V"⟩, 40) := ⟨⟨by decide +kernel, by decide +kernel⟩, List.mem_of_getElem? (i := 1230) (by decide +kernel), List.mem_of_getElem? (i := 1610) (by decide +kernel), List.mem_of_getElem? (i := 1611) (by decide +kernel)⟩
def lw_privs_5 : List (MethodName × Nat) := [(⟨"StreetTubeModel", "needs", "(Ljava/lang/String;)V"⟩, 40), (⟨"StreetTubeModel", "wholeAt", "(II)I"⟩, 40), (⟨"StreetTubeModel", "readPerson", "()V"⟩, 40), (⟨"StreetTubeModel", "lineBegins", "(II)V"⟩, 40), (⟨"StreetTubeModel", "readFresh", "()J"⟩, 40), (⟨"StreetTubeModel", "isName", "()Z"⟩, 40), (⟨"StreetTubeModel", "names", "(JII)V"⟩, 40), (⟨"StreetTubeModel", "readTurn", "()V"⟩, 40), (⟨"StreetTubeModel", "readQuarrel", "()V"⟩, 40), (⟨"StreetTubeModel", "readTwo", "()I"⟩, 40), (⟨"StreetTubeModel", "personAtHand", "()I"⟩, 40), (⟨"StreetTubeModel", "readWish", "(Z)V"⟩, 40), (⟨"StreetTubeModel", "readUnsure", "()V"⟩, 40), (⟨"StreetTubeModel", "readSeen", "()V"⟩, 40), (⟨"StreetTubeModel", "eatsSemicolon", "()Z"⟩, 40), (⟨"StreetTubeModel", "reaches", "(Z)V"⟩, 40)]
theorem lw_r5 : ∀ q ∈ lw_privs_5, lw_okq q := List.forall_mem_cons.mpr ⟨lw_p64, List.forall_mem_cons.mpr ⟨lw_p65, List.forall_mem_cons.mpr ⟨lw_p66, List.forall_mem_cons.mpr ⟨lw_p67, List.forall_mem_cons.mpr ⟨lw_p68, List.forall_mem_cons.mpr ⟨lw_p69, List.forall_mem_cons.mpr ⟨lw_p70, List.forall_mem_cons.mpr ⟨lw_p71, List.forall_mem_cons.mpr ⟨lw_p72, List.forall_mem_cons.mpr ⟨lw_p73, List.forall_mem_cons.mpr ⟨lw_p74, List.forall_mem_cons.mpr ⟨lw_p75, List.forall_mem_cons.mpr ⟨lw_p76, List.forall_mem_cons.mpr ⟨lw_p77, List.forall_mem_cons.mpr ⟨lw_p78, List.forall_mem_cons.mpr ⟨lw_p79, fun _ h => absurd h List.not_mem_nil⟩⟩⟩⟩⟩⟩⟩⟩⟩⟩⟩⟩⟩⟩⟩⟩
theorem lw_p80 : lw_okq (⟨"StreetTubeModel", "ranked", "()I"⟩, 40) := ⟨⟨by decide +kernel, by decide +kernel⟩, List.mem_of_getElem? (i := 1230) (by decide +kernel), List.mem_of_getElem? (i := 1614) (by decide +kernel), List.mem_of_getElem? (i := 1615) (by decide +kernel)⟩
theorem lw_p81 : lw_okq (⟨"StreetTubeModel", "adds", "(III)V"⟩, 40) := ⟨⟨by decide +kernel, by decide +kernel⟩, List.mem_of_getElem? (i := 1230) (by decide +kernel), List.mem_of_getElem? (i := 1618) (by decide +kernel), List.mem_of_getElem? (i := 1619) (by decide +kernel)⟩
theorem lw_p82 : lw_okq (⟨"StreetTubeModel", "slid", "(II)I"⟩, 40) := ⟨⟨by decide +kernel, by decide +kernel⟩, List.mem_of_getElem? (i := 1230) (by decide +kernel), List.mem_of_getElem? (i := 1622) (by decide +kernel), List.mem_of_getElem? (i := 1623) (by decide +kernel)⟩
theorem lw_p83 : lw_okq (⟨"StreetTubeModel", "good", "(I)I"⟩, 40) := ⟨⟨by decide +kernel, by decide +kernel⟩, List.mem_of_getElem? (i := 1230) (by decide +kernel), List.mem_of_getElem? (i := 1626) (by decide +kernel), List.mem_of_getElem? (i := 1627) (by decide +kernel)⟩
theorem lw_p84 : lw_okq (⟨"StreetTubeModel", "isPerson", "(I)Z"⟩, 40) := ⟨⟨by decide +kernel, by decide +kernel⟩, List.mem_of_getElem? (i := 1230) (by decide +kernel), List.mem_of_getElem? (i := 1642) (by decide +kernel), List.mem_of_getElem? (i := 1643) (by decide +kernel)⟩
theorem lw_p85 : lw_okq (⟨"StreetTubeModel", "works", "()V"⟩, 40) := ⟨⟨by decide +kernel, by decide +kernel⟩, List.mem_of_getElem? (i := 1230) (by decide +kernel), List.mem_of_getElem? (i := 1646) (by decide +kernel), List.mem_of_getElem? (i := 1647) (by decide +kernel)⟩
theorem lw_p86 : lw_okq (⟨"StreetTubeModel", "besideOf", "(I)I"⟩, 40) := ⟨⟨by decide +kernel, by decide +kernel⟩, List.mem_of_getElem? (i := 1230) (by decide +kernel), List.mem_of_getElem? (i := 1650) (by decide +kernel), List.mem_of_getElem? (i := 1651) (by decide +kernel)⟩
theorem lw_p87 : lw_okq (⟨"StreetTubeModel", "isSlot", "(I)Z"⟩, 40) := ⟨⟨by decide +kernel, by decide +kernel⟩, List.mem_of_getElem? (i := 1230) (by decide +kernel), List.mem_of_getElem? (i := 1661) (by decide +kernel), List.mem_of_getElem? (i := 1662) (by decide +kernel)⟩
theorem lw_p88 : lw_okq (⟨"StreetTubeModel", "whoIn", "(I)I"⟩, 40) := ⟨⟨by decide +kernel, by decide +kernel⟩, List.mem_of_getElem? (i := 1230) (by decide +kernel), List.mem_of_getElem? (i := 1665) (by decide +kernel), List.mem_of_getElem? (i := 1666) (by decide +kernel)⟩
theorem lw_p89 : lw_okq (⟨"StreetTubeModel", "isTurn", "(I)Z"⟩, 40) := ⟨⟨by decide +kernel, by decide +kernel⟩, List.mem_of_getElem? (i := 1230) (by decide +kernel), List.mem_of_getElem? (i := 1673) (by decide +kernel), List.mem_of_getElem? (i := 1674) (by decide +kernel)⟩
theorem lw_p90 : lw_okq (⟨"StreetTubeModel", "quarrelsNow", "()I"⟩, 40) := ⟨⟨by decide +kernel, by decide +kernel⟩, List.mem_of_getElem? (i := 1230) (by decide +kernel), List.mem_of_getElem? (i := 1681) (by decide +kernel), List.mem_of_getElem? (i := 1682) (by decide +kernel)⟩
theorem lw_p91 : lw_okq (⟨"StreetTubeModel", "metNow", "()I"⟩, 40) := ⟨⟨by decide +kernel, by decide +kernel⟩, List.mem_of_getElem? (i := 1230) (by decide +kernel), List.mem_of_getElem? (i := 1692) (by decide +kernel), List.mem_of_getElem? (i := 1693) (by decide +kernel)⟩
theorem lw_p92 : lw_okq (⟨"StreetTubeModel", "isPlace", "(I)Z"⟩, 40) := ⟨⟨by decide +kernel, by decide +kernel⟩, List.mem_of_getElem? (i := 1230) (by decide +kernel), List.mem_of_getElem? (i := 1700) (by decide +kernel), List.mem_of_getElem? (i := 1701) (by decide +kernel)⟩
theorem lw_p93 : lw_okq (⟨"StreetTubeModel", "places", "()I"⟩, 40) := ⟨⟨by decide +kernel, by decide +kernel⟩, List.mem_of_getElem? (i := 1230) (by decide +kernel), List.mem_of_getElem? (i := 1704) (by decide +kernel), List.mem_of_getElem? (i := 1705) (by decide +kernel)⟩
theorem lw_p94 : lw_okq (⟨"StreetTubeModel", "seenSlot", "(I)I"⟩, 40) := ⟨⟨by decide +kernel, by decide +kernel⟩, List.mem_of_getElem? (i := 1230) (by decide +kernel), List.mem_of_getElem? (i := 1708) (by decide +kernel), List.mem_of_getElem? (i := 1709) (by decide +kernel)⟩
theorem lw_p95 : lw_okq (⟨"StreetTubeModel", "areTwo", "(II)Z"⟩, 40) := ⟨⟨by decide +kernel, by decide +kernel⟩, List.mem_of_getElem? (i := 1230) (by decide +kernel), List.mem_of_getElem? (i := 1728) (by decide +kernel), List.mem_of_getElem? (i := 1729) (by decide +kernel)⟩
def lw_privs_6 : List (MethodName × Nat) := [(⟨"StreetTubeModel", "ranked", "()I"⟩, 40), (⟨"StreetTubeModel", "adds", "(III)V"⟩, 40), (⟨"StreetTubeModel", "slid", "(II)I"⟩, 40), (⟨"StreetTubeModel", "good", "(I)I"⟩, 40), (⟨"StreetTubeModel", "isPerson", "(I)Z"⟩, 40), (⟨"StreetTubeModel", "works", "()V"⟩, 40), (⟨"StreetTubeModel", "besideOf", "(I)I"⟩, 40), (⟨"StreetTubeModel", "isSlot", "(I)Z"⟩, 40), (⟨"StreetTubeModel", "whoIn", "(I)I"⟩, 40), (⟨"StreetTubeModel", "isTurn", "(I)Z"⟩, 40), (⟨"StreetTubeModel", "quarrelsNow", "()I"⟩, 40), (⟨"StreetTubeModel", "metNow", "()I"⟩, 40), (⟨"StreetTubeModel", "isPlace", "(I)Z"⟩, 40), (⟨"StreetTubeModel", "places", "()I"⟩, 40), (⟨"StreetTubeModel", "seenSlot", "(I)I"⟩, 40), (⟨"StreetTubeModel", "areTwo", "(II)Z"⟩, 40)]
theorem lw_r6 : ∀ q ∈ lw_privs_6, lw_okq q := List.forall_mem_cons.mpr ⟨lw_p80, List.forall_mem_cons.mpr ⟨lw_p81, List.forall_mem_cons.mpr ⟨lw_p82, List.forall_mem_cons.mpr ⟨lw_p83, List.forall_mem_cons.mpr ⟨lw_p84, List.forall_mem_cons.mpr ⟨lw_p85, List.forall_mem_cons.mpr ⟨lw_p86, List.forall_mem_cons.mpr ⟨lw_p87, List.forall_mem_cons.mpr ⟨lw_p88, List.forall_mem_cons.mpr ⟨lw_p89, List.forall_mem_cons.mpr ⟨lw_p90, List.forall_mem_cons.mpr ⟨lw_p91, List.forall_mem_cons.mpr ⟨lw_p92, List.forall_mem_cons.mpr ⟨lw_p93, List.forall_mem_cons.mpr ⟨lw_p94, List.forall_mem_cons.mpr ⟨lw_p95, fun _ h => absurd h List.not_mem_nil⟩⟩⟩⟩⟩⟩⟩⟩⟩⟩⟩⟩⟩⟩⟩⟩
theorem lw_p96 : lw_okq (⟨"StreetTubeModel", "layRow", "(II)I"⟩, 40) := ⟨⟨by decide +kernel, by decide +kernel⟩, List.mem_of_getElem? (i := 1230) (by decide +kernel), List.mem_of_getElem? (i := 1740) (by decide +kernel), List.mem_of_getElem? (i := 1741) (by decide +kernel)⟩
theorem lw_p97 : lw_okq (⟨"StreetTubeModel", "isEven", "()Z"⟩, 40) := ⟨⟨by decide +kernel, by decide +kernel⟩, List.mem_of_getElem? (i := 1230) (by decide +kernel), List.mem_of_getElem? (i := 1755) (by decide +kernel), List.mem_of_getElem? (i := 1756) (by decide +kernel)⟩
theorem lw_p98 : lw_okq (⟨"StreetTubeModel", "ringsOf", "()I"⟩, 40) := ⟨⟨by decide +kernel, by decide +kernel⟩, List.mem_of_getElem? (i := 1230) (by decide +kernel), List.mem_of_getElem? (i := 1759) (by decide +kernel), List.mem_of_getElem? (i := 1760) (by decide +kernel)⟩
theorem lw_p99 : lw_okq (⟨"StreetTubeModel", "fixed", "()I"⟩, 40) := ⟨⟨by decide +kernel, by decide +kernel⟩, List.mem_of_getElem? (i := 1230) (by decide +kernel), List.mem_of_getElem? (i := 1767) (by decide +kernel), List.mem_of_getElem? (i := 1768) (by decide +kernel)⟩
theorem lw_p100 : lw_okq (⟨"StreetTubeModel", "doCommute", "(II)Z"⟩, 40) := ⟨⟨by decide +kernel, by decide +kernel⟩, List.mem_of_getElem? (i := 1230) (by decide +kernel), List.mem_of_getElem? (i := 1775) (by decide +kernel), List.mem_of_getElem? (i := 1776) (by decide +kernel)⟩
theorem lw_p101 : lw_okq (⟨"StreetTubeModel", "inverts", "()V"⟩, 40) := ⟨⟨by decide +kernel, by decide +kernel⟩, List.mem_of_getElem? (i := 1230) (by decide +kernel), List.mem_of_getElem? (i := 1783) (by decide +kernel), List.mem_of_getElem? (i := 1784) (by decide +kernel)⟩
theorem lw_p102 : lw_okq (⟨"StreetTubeModel", "layWay", "(I)V"⟩, 40) := ⟨⟨by decide +kernel, by decide +kernel⟩, List.mem_of_getElem? (i := 1230) (by decide +kernel), List.mem_of_getElem? (i := 1799) (by decide +kernel), List.mem_of_getElem? (i := 1800) (by decide +kernel)⟩
theorem lw_p103 : lw_okq (⟨"StreetTubeModel", "comes", "(II)I"⟩, 40) := ⟨⟨by decide +kernel, by decide +kernel⟩, List.mem_of_getElem? (i := 1230) (by decide +kernel), List.mem_of_getElem? (i := 1807) (by decide +kernel), List.mem_of_getElem? (i := 1808) (by decide +kernel)⟩
theorem lw_p104 : lw_okq (⟨"StreetTubeModel", "fewest", "(Z)I"⟩, 40) := ⟨⟨by decide +kernel, by decide +kernel⟩, List.mem_of_getElem? (i := 1230) (by decide +kernel), List.mem_of_getElem? (i := 1827) (by decide +kernel), List.mem_of_getElem? (i := 1828) (by decide +kernel)⟩
theorem lw_p105 : lw_okq (⟨"StreetTubeModel", "doneBy", "(Z)I"⟩, 40) := ⟨⟨by decide +kernel, by decide +kernel⟩, List.mem_of_getElem? (i := 1230) (by decide +kernel), List.mem_of_getElem? (i := 1831) (by decide +kernel), List.mem_of_getElem? (i := 1832) (by decide +kernel)⟩
theorem lw_p106 : lw_okq (⟨"StreetTubeModel", "goesBy", "(I)V"⟩, 40) := ⟨⟨by decide +kernel, by decide +kernel⟩, List.mem_of_getElem? (i := 1230) (by decide +kernel), List.mem_of_getElem? (i := 1835) (by decide +kernel), List.mem_of_getElem? (i := 1836) (by decide +kernel)⟩
theorem lw_p107 : lw_okq (⟨"StreetTubeModel", "isDone", "(Z)Z"⟩, 40) := ⟨⟨by decide +kernel, by decide +kernel⟩, List.mem_of_getElem? (i := 1230) (by decide +kernel), List.mem_of_getElem? (i := 1839) (by decide +kernel), List.mem_of_getElem? (i := 1840) (by decide +kernel)⟩
theorem lw_p108 : lw_okq (⟨"StreetTubeModel", "stepOf", "(ZI)I"⟩, 40) := ⟨⟨by decide +kernel, by decide +kernel⟩, List.mem_of_getElem? (i := 1230) (by decide +kernel), List.mem_of_getElem? (i := 1847) (by decide +kernel), List.mem_of_getElem? (i := 1848) (by decide +kernel)⟩
theorem lw_p109 : lw_okq (⟨"StreetTubeModel", "refusesColours", "(I)I"⟩, 40) := ⟨⟨by decide +kernel, by decide +kernel⟩, List.mem_of_getElem? (i := 1230) (by decide +kernel), List.mem_of_getElem? (i := 1871) (by decide +kernel), List.mem_of_getElem? (i := 1872) (by decide +kernel)⟩
theorem lw_p110 : lw_okq (⟨"StreetTubeModel", "counted", "(I)J"⟩, 40) := ⟨⟨by decide +kernel, by decide +kernel⟩, List.mem_of_getElem? (i := 1230) (by decide +kernel), List.mem_of_getElem? (i := 1875) (by decide +kernel), List.mem_of_getElem? (i := 1876) (by decide +kernel)⟩
theorem lw_p111 : lw_okq (⟨"StreetTubeModel", "goodLong", "(J)J"⟩, 40) := ⟨⟨by decide +kernel, by decide +kernel⟩, List.mem_of_getElem? (i := 1230) (by decide +kernel), List.mem_of_getElem? (i := 1882) (by decide +kernel), List.mem_of_getElem? (i := 1883) (by decide +kernel)⟩
def lw_privs_7 : List (MethodName × Nat) := [(⟨"StreetTubeModel", "layRow", "(II)I"⟩, 40), (⟨"StreetTubeModel", "isEven", "()Z"⟩, 40), (⟨"StreetTubeModel", "ringsOf", "()I"⟩, 40), (⟨"StreetTubeModel", "fixed", "()I"⟩, 40), (⟨"StreetTubeModel", "doCommute", "(II)Z"⟩, 40), (⟨"StreetTubeModel", "inverts", "()V"⟩, 40), (⟨"StreetTubeModel", "layWay", "(I)V"⟩, 40), (⟨"StreetTubeModel", "comes", "(II)I"⟩, 40), (⟨"StreetTubeModel", "fewest", "(Z)I"⟩, 40), (⟨"StreetTubeModel", "doneBy", "(Z)I"⟩, 40), (⟨"StreetTubeModel", "goesBy", "(I)V"⟩, 40), (⟨"StreetTubeModel", "isDone", "(Z)Z"⟩, 40), (⟨"StreetTubeModel", "stepOf", "(ZI)I"⟩, 40), (⟨"StreetTubeModel", "refusesColours", "(I)I"⟩, 40), (⟨"StreetTubeModel", "counted", "(I)J"⟩, 40), (⟨"StreetTubeModel", "goodLong", "(J)J"⟩, 40)]
theorem lw_r7 : ∀ q ∈ lw_privs_7, lw_okq q := List.forall_mem_cons.mpr ⟨lw_p96, List.forall_mem_cons.mpr ⟨lw_p97, List.forall_mem_cons.mpr ⟨lw_p98, List.forall_mem_cons.mpr ⟨lw_p99, List.forall_mem_cons.mpr ⟨lw_p100, List.forall_mem_cons.mpr ⟨lw_p101, List.forall_mem_cons.mpr ⟨lw_p102, List.forall_mem_cons.mpr ⟨lw_p103, List.forall_mem_cons.mpr ⟨lw_p104, List.forall_mem_cons.mpr ⟨lw_p105, List.forall_mem_cons.mpr ⟨lw_p106, List.forall_mem_cons.mpr ⟨lw_p107, List.forall_mem_cons.mpr ⟨lw_p108, List.forall_mem_cons.mpr ⟨lw_p109, List.forall_mem_cons.mpr ⟨lw_p110, List.forall_mem_cons.mpr ⟨lw_p111, fun _ h => absurd h List.not_mem_nil⟩⟩⟩⟩⟩⟩⟩⟩⟩⟩⟩⟩⟩⟩⟩⟩
theorem lw_p112 : lw_okq (⟨"StreetTubeModel", "refusesNecklace", "(II)I"⟩, 40) := ⟨⟨by decide +kernel, by decide +kernel⟩, List.mem_of_getElem? (i := 1230) (by decide +kernel), List.mem_of_getElem? (i := 1894) (by decide +kernel), List.mem_of_getElem? (i := 1895) (by decide +kernel)⟩
theorem lw_p113 : lw_okq (⟨"StreetTubeModel", "fitting", "(I)I"⟩, 40) := ⟨⟨by decide +kernel, by decide +kernel⟩, List.mem_of_getElem? (i := 1230) (by decide +kernel), List.mem_of_getElem? (i := 1909) (by decide +kernel), List.mem_of_getElem? (i := 1910) (by decide +kernel)⟩
theorem lw_p114 : lw_okq (⟨"StreetTubeModel", "laysFirst", "(I)V"⟩, 40) := ⟨⟨by decide +kernel, by decide +kernel⟩, List.mem_of_getElem? (i := 1230) (by decide +kernel), List.mem_of_getElem? (i := 1913) (by decide +kernel), List.mem_of_getElem? (i := 1914) (by decide +kernel)⟩
theorem lw_p115 : lw_okq (⟨"StreetTubeModel", "areUnlike", "()Z"⟩, 40) := ⟨⟨by decide +kernel, by decide +kernel⟩, List.mem_of_getElem? (i := 1230) (by decide +kernel), List.mem_of_getElem? (i := 1917) (by decide +kernel), List.mem_of_getElem? (i := 1918) (by decide +kernel)⟩
theorem lw_p116 : lw_okq (⟨"StreetTubeModel", "wrongSeen", "()I"⟩, 40) := ⟨⟨by decide +kernel, by decide +kernel⟩, List.mem_of_getElem? (i := 1230) (by decide +kernel), List.mem_of_getElem? (i := 1921) (by decide +kernel), List.mem_of_getElem? (i := 1922) (by decide +kernel)⟩
theorem lw_p117 : lw_okq (⟨"StreetTubeModel", "asks", "()I"⟩, 40) := ⟨⟨by decide +kernel, by decide +kernel⟩, List.mem_of_getElem? (i := 1230) (by decide +kernel), List.mem_of_getElem? (i := 1941) (by decide +kernel), List.mem_of_getElem? (i := 1942) (by decide +kernel)⟩
theorem lw_p118 : lw_okq (⟨"StreetTubeModel", "refusesGame", "(IIII)I"⟩, 40) := ⟨⟨by decide +kernel, by decide +kernel⟩, List.mem_of_getElem? (i := 1230) (by decide +kernel), List.mem_of_getElem? (i := 1957) (by decide +kernel), List.mem_of_getElem? (i := 1958) (by decide +kernel)⟩
theorem lw_p119 : lw_okq (⟨"StreetTubeModel", "argues", "(III)V"⟩, 40) := ⟨⟨by decide +kernel, by decide +kernel⟩, List.mem_of_getElem? (i := 1230) (by decide +kernel), List.mem_of_getElem? (i := 1961) (by decide +kernel), List.mem_of_getElem? (i := 1962) (by decide +kernel)⟩
theorem lw_p120 : lw_okq (⟨"StreetTubeModel", "choices", "()I"⟩, 40) := ⟨⟨by decide +kernel, by decide +kernel⟩, List.mem_of_getElem? (i := 1230) (by decide +kernel), List.mem_of_getElem? (i := 1965) (by decide +kernel), List.mem_of_getElem? (i := 1966) (by decide +kernel)⟩
theorem lw_p121 : lw_okq (⟨"StreetTubeModel", "bestFrom", "(IZ)I"⟩, 40) := ⟨⟨by decide +kernel, by decide +kernel⟩, List.mem_of_getElem? (i := 1230) (by decide +kernel), List.mem_of_getElem? (i := 1969) (by decide +kernel), List.mem_of_getElem? (i := 1970) (by decide +kernel)⟩
theorem lw_p122 : lw_okq (⟨"StreetTubeModel", "refusesBlue", "(I)I"⟩, 40) := ⟨⟨by decide +kernel, by decide +kernel⟩, List.mem_of_getElem? (i := 1230) (by decide +kernel), List.mem_of_getElem? (i := 1981) (by decide +kernel), List.mem_of_getElem? (i := 1982) (by decide +kernel)⟩
theorem lw_p123 : lw_okq (⟨"StreetTubeModel", "lost", "(I)I"⟩, 40) := ⟨⟨by decide +kernel, by decide +kernel⟩, List.mem_of_getElem? (i := 1230) (by decide +kernel), List.mem_of_getElem? (i := 1985) (by decide +kernel), List.mem_of_getElem? (i := 1986) (by decide +kernel)⟩
theorem lw_p124 : lw_okq (⟨"StreetTubeModel", "refusesShakes", "(ZI)I"⟩, 40) := ⟨⟨by decide +kernel, by decide +kernel⟩, List.mem_of_getElem? (i := 1230) (by decide +kernel), List.mem_of_getElem? (i := 2010) (by decide +kernel), List.mem_of_getElem? (i := 2011) (by decide +kernel)⟩
theorem lw_p125 : lw_okq (⟨"StreetTubeModel", "spreadsOut", "(I)V"⟩, 40) := ⟨⟨by decide +kernel, by decide +kernel⟩, List.mem_of_getElem? (i := 1230) (by decide +kernel), List.mem_of_getElem? (i := 2014) (by decide +kernel), List.mem_of_getElem? (i := 2015) (by decide +kernel)⟩
theorem lw_p126 : lw_okq (⟨"StreetTubeModel", "spreads", "(I)V"⟩, 40) := ⟨⟨by decide +kernel, by decide +kernel⟩, List.mem_of_getElem? (i := 1230) (by decide +kernel), List.mem_of_getElem? (i := 2019) (by decide +kernel), List.mem_of_getElem? (i := 2020) (by decide +kernel)⟩
theorem lw_p127 : lw_okq (⟨"StreetTubeModel", "fraction", "(JJZ)J"⟩, 40) := ⟨⟨by decide +kernel, by decide +kernel⟩, List.mem_of_getElem? (i := 1230) (by decide +kernel), List.mem_of_getElem? (i := 2023) (by decide +kernel), List.mem_of_getElem? (i := 2024) (by decide +kernel)⟩
def lw_privs_8 : List (MethodName × Nat) := [(⟨"StreetTubeModel", "refusesNecklace", "(II)I"⟩, 40), (⟨"StreetTubeModel", "fitting", "(I)I"⟩, 40), (⟨"StreetTubeModel", "laysFirst", "(I)V"⟩, 40), (⟨"StreetTubeModel", "areUnlike", "()Z"⟩, 40), (⟨"StreetTubeModel", "wrongSeen", "()I"⟩, 40), (⟨"StreetTubeModel", "asks", "()I"⟩, 40), (⟨"StreetTubeModel", "refusesGame", "(IIII)I"⟩, 40), (⟨"StreetTubeModel", "argues", "(III)V"⟩, 40), (⟨"StreetTubeModel", "choices", "()I"⟩, 40), (⟨"StreetTubeModel", "bestFrom", "(IZ)I"⟩, 40), (⟨"StreetTubeModel", "refusesBlue", "(I)I"⟩, 40), (⟨"StreetTubeModel", "lost", "(I)I"⟩, 40), (⟨"StreetTubeModel", "refusesShakes", "(ZI)I"⟩, 40), (⟨"StreetTubeModel", "spreadsOut", "(I)V"⟩, 40), (⟨"StreetTubeModel", "spreads", "(I)V"⟩, 40), (⟨"StreetTubeModel", "fraction", "(JJZ)J"⟩, 40)]
theorem lw_r8 : ∀ q ∈ lw_privs_8, lw_okq q := List.forall_mem_cons.mpr ⟨lw_p112, List.forall_mem_cons.mpr ⟨lw_p113, List.forall_mem_cons.mpr ⟨lw_p114, List.forall_mem_cons.mpr ⟨lw_p115, List.forall_mem_cons.mpr ⟨lw_p116, List.forall_mem_cons.mpr ⟨lw_p117, List.forall_mem_cons.mpr ⟨lw_p118, List.forall_mem_cons.mpr ⟨lw_p119, List.forall_mem_cons.mpr ⟨lw_p120, List.forall_mem_cons.mpr ⟨lw_p121, List.forall_mem_cons.mpr ⟨lw_p122, List.forall_mem_cons.mpr ⟨lw_p123, List.forall_mem_cons.mpr ⟨lw_p124, List.forall_mem_cons.mpr ⟨lw_p125, List.forall_mem_cons.mpr ⟨lw_p126, List.forall_mem_cons.mpr ⟨lw_p127, fun _ h => absurd h List.not_mem_nil⟩⟩⟩⟩⟩⟩⟩⟩⟩⟩⟩⟩⟩⟩⟩⟩
theorem lw_p128 : lw_okq (⟨"StreetTubeModel", "refusesSeed", "(ZII)I"⟩, 40) := ⟨⟨by decide +kernel, by decide +kernel⟩, List.mem_of_getElem? (i := 1230) (by decide +kernel), List.mem_of_getElem? (i := 2039) (by decide +kernel), List.mem_of_getElem? (i := 2040) (by decide +kernel)⟩
theorem lw_p129 : lw_okq (⟨"StreetTubeModel", "aShake", "()V"⟩, 40) := ⟨⟨by decide +kernel, by decide +kernel⟩, List.mem_of_getElem? (i := 1230) (by decide +kernel), List.mem_of_getElem? (i := 2044) (by decide +kernel), List.mem_of_getElem? (i := 2045) (by decide +kernel)⟩
theorem lw_p130 : lw_okq (⟨"StreetTubeModel", "layTurn", "(I)V"⟩, 40) := ⟨⟨by decide +kernel, by decide +kernel⟩, List.mem_of_getElem? (i := 1230) (by decide +kernel), List.mem_of_getElem? (i := 2059) (by decide +kernel), List.mem_of_getElem? (i := 2060) (by decide +kernel)⟩
theorem lw_p131 : lw_okq (⟨"StreetTubeModel", "slidesAll", "()I"⟩, 40) := ⟨⟨by decide +kernel, by decide +kernel⟩, List.mem_of_getElem? (i := 1230) (by decide +kernel), List.mem_of_getElem? (i := 2063) (by decide +kernel), List.mem_of_getElem? (i := 2064) (by decide +kernel)⟩
theorem lw_p132 : lw_okq (⟨"StreetTubeModel", "remembers", "()V"⟩, 40) := ⟨⟨by decide +kernel, by decide +kernel⟩, List.mem_of_getElem? (i := 1230) (by decide +kernel), List.mem_of_getElem? (i := 2067) (by decide +kernel), List.mem_of_getElem? (i := 2068) (by decide +kernel)⟩
theorem lw_p133 : lw_okq (⟨"StreetTubeModel", "denied", "(I)Z"⟩, 40) := ⟨⟨by decide +kernel, by decide +kernel⟩, List.mem_of_getElem? (i := 1230) (by decide +kernel), List.mem_of_getElem? (i := 2083) (by decide +kernel), List.mem_of_getElem? (i := 2084) (by decide +kernel)⟩
theorem lw_p134 : lw_okq (⟨"StreetTubeModel", "granted", "()Z"⟩, 40) := ⟨⟨by decide +kernel, by decide +kernel⟩, List.mem_of_getElem? (i := 1230) (by decide +kernel), List.mem_of_getElem? (i := 2087) (by decide +kernel), List.mem_of_getElem? (i := 2088) (by decide +kernel)⟩
def lw_privs_9 : List (MethodName × Nat) := [(⟨"StreetTubeModel", "refusesSeed", "(ZII)I"⟩, 40), (⟨"StreetTubeModel", "aShake", "()V"⟩, 40), (⟨"StreetTubeModel", "layTurn", "(I)V"⟩, 40), (⟨"StreetTubeModel", "slidesAll", "()I"⟩, 40), (⟨"StreetTubeModel", "remembers", "()V"⟩, 40), (⟨"StreetTubeModel", "denied", "(I)Z"⟩, 40), (⟨"StreetTubeModel", "granted", "()Z"⟩, 40)]
theorem lw_r9 : ∀ q ∈ lw_privs_9, lw_okq q := List.forall_mem_cons.mpr ⟨lw_p128, List.forall_mem_cons.mpr ⟨lw_p129, List.forall_mem_cons.mpr ⟨lw_p130, List.forall_mem_cons.mpr ⟨lw_p131, List.forall_mem_cons.mpr ⟨lw_p132, List.forall_mem_cons.mpr ⟨lw_p133, List.forall_mem_cons.mpr ⟨lw_p134, fun _ h => absurd h List.not_mem_nil⟩⟩⟩⟩⟩⟩⟩
def lw_privs : List (MethodName × Nat) := lw_privs_1 ++ (lw_privs_2 ++ (lw_privs_3 ++ (lw_privs_4 ++ (lw_privs_5 ++ (lw_privs_6 ++ (lw_privs_7 ++ (lw_privs_8 ++ (lw_privs_9))))))))
def lw_tbl : List Cond := k2_sels lw_privs ++ tables_1
theorem lw_privs_ok : ∀ q ∈ lw_privs, lw_okq q := by
  show ∀ q ∈ lw_privs_1 ++ (lw_privs_2 ++ (lw_privs_3 ++ (lw_privs_4 ++ (lw_privs_5 ++ (lw_privs_6 ++ (lw_privs_7 ++ (lw_privs_8 ++ (lw_privs_9)))))))), lw_okq q
  exact List.forall_mem_append.mpr ⟨lw_r1, List.forall_mem_append.mpr ⟨lw_r2, List.forall_mem_append.mpr ⟨lw_r3, List.forall_mem_append.mpr ⟨lw_r4, List.forall_mem_append.mpr ⟨lw_r5, List.forall_mem_append.mpr ⟨lw_r6, List.forall_mem_append.mpr ⟨lw_r7, List.forall_mem_append.mpr ⟨lw_r8, lw_r9⟩⟩⟩⟩⟩⟩⟩⟩

def RL : String := "StreetTubeLaw"
def RJ6 : String := "java/lang/Integer"
def RJ9 : String := "java/lang/Math"
def RX0 : String := "StreetTube$Beads"
def RX1 : String := "StreetTube$Blink"
def RX10 : String := "StreetTube"
def RX11 : String := "StreetTubeModel$Tube"
def RX12 : String := "StreetTubeModel"
def RX2 : String := "StreetTube$Duel"
def RX3 : String := "StreetTube$PairList"
def RX4 : String := "StreetTube$Reach"
def RX5 : String := "StreetTube$Reader"
def RX6 : String := "StreetTube$Shaker"
def RX7 : String := "StreetTube$Six"
def RX8 : String := "StreetTube$Street"
def RX9 : String := "StreetTube$Told"
abbrev cX0_power : ByteArray := prog_2_method_2_code
def yX0_power : MethodName := ⟨RX0, "power", "(II)J"⟩
abbrev cX0_fixedByGoingRound : ByteArray := prog_2_method_3_code
def yX0_fixedByGoingRound : MethodName := ⟨RX0, "fixedByGoingRound", "(II)J"⟩
abbrev cX0_commonPart : ByteArray := prog_2_method_4_code
def yX0_commonPart : MethodName := ⟨RX0, "commonPart", "(II)I"⟩
abbrev cX0_fixedByGoingOver : ByteArray := prog_2_method_5_code
def yX0_fixedByGoingOver : MethodName := ⟨RX0, "fixedByGoingOver", "(II)J"⟩
abbrev cX1_isLook : ByteArray := prog_3_method_2_code
def yX1_isLook : MethodName := ⟨RX1, "isLook", "(I)Z"⟩
abbrev cX1_isHope : ByteArray := prog_3_method_3_code
def yX1_isHope : MethodName := ⟨RX1, "isHope", "(I)Z"⟩
abbrev cX1_ofEye : ByteArray := prog_3_method_4_code
def yX1_ofEye : MethodName := ⟨RX1, "ofEye", "(IZZ)I"⟩
abbrev cX1_ofStreet : ByteArray := prog_3_method_5_code
def yX1_ofStreet : MethodName := ⟨RX1, "ofStreet", "(IZZ)I"⟩
abbrev cX1_isRest : ByteArray := prog_3_method_6_code
def yX1_isRest : MethodName := ⟨RX1, "isRest", "(II)Z"⟩
abbrev cX2_endsBeside : ByteArray := prog_4_method_2_code
def yX2_endsBeside : MethodName := ⟨RX2, "endsBeside", "(LStreetTube$Told;IIIZ)Z"⟩
abbrev cX2_firstTurn : ByteArray := prog_4_method_3_code
def yX2_firstTurn : MethodName := ⟨RX2, "firstTurn", "(LStreetTube$Told;III)I"⟩
abbrev cX3_init : ByteArray := prog_5_method_1_code
def yX3_init : MethodName := ⟨RX3, "<init>", "(I)V"⟩
abbrev cX3_isFull : ByteArray := prog_5_method_2_code
def yX3_isFull : MethodName := ⟨RX3, "isFull", "()Z"⟩
abbrev cX3_add : ByteArray := prog_5_method_3_code
def yX3_add : MethodName := ⟨RX3, "add", "(IIZ)V"⟩
abbrev cX3_partners : ByteArray := prog_5_method_4_code
def yX3_partners : MethodName := ⟨RX3, "partners", "(I)I"⟩
abbrev cX3_all : ByteArray := prog_5_method_5_code
def yX3_all : MethodName := ⟨RX3, "all", "()I"⟩
abbrev cX3_holding : ByteArray := prog_5_method_6_code
def yX3_holding : MethodName := ⟨RX3, "holding", "(I)I"⟩
abbrev cX3_firstBroken : ByteArray := prog_5_method_7_code
def yX3_firstBroken : MethodName := ⟨RX3, "firstBroken", "(I)I"⟩
abbrev cX4_init : ByteArray := prog_6_method_1_code
def yX4_init : MethodName := ⟨RX4, "<init>", "()V"⟩
abbrev cX4_explore : ByteArray := prog_6_method_2_code
def yX4_explore : MethodName := ⟨RX4, "explore", "(LStreetTube$Told;Z)V"⟩
abbrev cX4_find : ByteArray := prog_6_method_3_code
def yX4_find : MethodName := ⟨RX4, "find", "(III)V"⟩
abbrev cX4_depthOf : ByteArray := prog_6_method_4_code
def yX4_depthOf : MethodName := ⟨RX4, "depthOf", "(I)I"⟩
abbrev cX4_most : ByteArray := prog_6_method_5_code
def yX4_most : MethodName := ⟨RX4, "most", "()I"⟩
abbrev cX4_evenCount : ByteArray := prog_6_method_6_code
def yX4_evenCount : MethodName := ⟨RX4, "evenCount", "()I"⟩
abbrev cX4_comesInto : ByteArray := prog_6_method_7_code
def yX4_comesInto : MethodName := ⟨RX4, "comesInto", "(I)I"⟩
abbrev cX4_leaving : ByteArray := prog_6_method_8_code
def yX4_leaving : MethodName := ⟨RX4, "leaving", "(I)I"⟩
abbrev cX4_pairSets : ByteArray := prog_6_method_9_code
def yX4_pairSets : MethodName := ⟨RX4, "pairSets", "()I"⟩
abbrev cX4_pairsFrom : ByteArray := prog_6_method_10_code
def yX4_pairsFrom : MethodName := ⟨RX4, "pairsFrom", "(II)J"⟩
abbrev cX4_central : ByteArray := prog_6_method_11_code
def yX4_central : MethodName := ⟨RX4, "central", "(LStreetTube$Told;)I"⟩
abbrev cX4_standBehind : ByteArray := prog_6_method_12_code
def yX4_standBehind : MethodName := ⟨RX4, "standBehind", "(III)I"⟩
abbrev cX4_firstHolding : ByteArray := prog_6_method_13_code
def yX4_firstHolding : MethodName := ⟨RX4, "firstHolding", "(LStreetTube$PairList;III)I"⟩
abbrev cX4_firstBringing : ByteArray := prog_6_method_14_code
def yX4_firstBringing : MethodName := ⟨RX4, "firstBringing", "(II)I"⟩
abbrev cX4_turnAt : ByteArray := prog_6_method_15_code
def yX4_turnAt : MethodName := ⟨RX4, "turnAt", "(II)I"⟩
abbrev cX4_colourCount : ByteArray := prog_6_method_16_code
def yX4_colourCount : MethodName := ⟨RX4, "colourCount", "(I)J"⟩
abbrev cX5_init : ByteArray := prog_7_method_1_code
def yX5_init : MethodName := ⟨RX5, "<init>", "()V"⟩
abbrev cX5_put : ByteArray := prog_7_method_2_code
def yX5_put : MethodName := ⟨RX5, "put", "(I)V"⟩
abbrev cX5_read : ByteArray := prog_7_method_3_code
def yX5_read : MethodName := ⟨RX5, "read", "(I)Z"⟩
abbrev cX5_failHere : ByteArray := prog_7_method_5_code
def yX5_failHere : MethodName := ⟨RX5, "failHere", "(I)Z"⟩
abbrev cX5_step : ByteArray := prog_7_method_6_code
def yX5_step : MethodName := ⟨RX5, "step", "()V"⟩
abbrev cX5_takeWord : ByteArray := prog_7_method_7_code
def yX5_takeWord : MethodName := ⟨RX5, "takeWord", "()V"⟩
abbrev cX5_takeWhole : ByteArray := prog_7_method_8_code
def yX5_takeWhole : MethodName := ⟨RX5, "takeWhole", "()V"⟩
abbrev cX5_coded : ByteArray := prog_7_method_9_code
def yX5_coded : MethodName := ⟨RX5, "coded", "(Ljava/lang/String;)J"⟩
abbrev cX5_isWord : ByteArray := prog_7_method_10_code
def yX5_isWord : MethodName := ⟨RX5, "isWord", "(Ljava/lang/String;)Z"⟩
abbrev cX5_lineSort : ByteArray := prog_7_method_11_code
def yX5_lineSort : MethodName := ⟨RX5, "lineSort", "()I"⟩
abbrev cX5_takeLine : ByteArray := prog_7_method_12_code
def yX5_takeLine : MethodName := ⟨RX5, "takeLine", "()Z"⟩
abbrev cX5_isFull : ByteArray := prog_7_method_13_code
def yX5_isFull : MethodName := ⟨RX5, "isFull", "(I)Z"⟩
abbrev cX5_goesOn : ByteArray := prog_7_method_14_code
def yX5_goesOn : MethodName := ⟨RX5, "goesOn", "()Z"⟩
abbrev cX5_takeTube : ByteArray := prog_7_method_15_code
def yX5_takeTube : MethodName := ⟨RX5, "takeTube", "()Z"⟩
abbrev cX5_takePerson : ByteArray := prog_7_method_16_code
def yX5_takePerson : MethodName := ⟨RX5, "takePerson", "()Z"⟩
abbrev cX5_takeTurn : ByteArray := prog_7_method_17_code
def yX5_takeTurn : MethodName := ⟨RX5, "takeTurn", "()Z"⟩
abbrev cX5_takeQuarrel : ByteArray := prog_7_method_18_code
def yX5_takeQuarrel : MethodName := ⟨RX5, "takeQuarrel", "()Z"⟩
abbrev cX5_takeWish : ByteArray := prog_7_method_19_code
def yX5_takeWish : MethodName := ⟨RX5, "takeWish", "(Z)Z"⟩
abbrev cX5_takeUnsure : ByteArray := prog_7_method_20_code
def yX5_takeUnsure : MethodName := ⟨RX5, "takeUnsure", "()Z"⟩
abbrev cX5_takeSeen : ByteArray := prog_7_method_21_code
def yX5_takeSeen : MethodName := ⟨RX5, "takeSeen", "()Z"⟩
abbrev cX5_takeThis : ByteArray := prog_7_method_22_code
def yX5_takeThis : MethodName := ⟨RX5, "takeThis", "(Ljava/lang/String;)Z"⟩
abbrev cX5_isBetween : ByteArray := prog_7_method_23_code
def yX5_isBetween : MethodName := ⟨RX5, "isBetween", "(II)Z"⟩
abbrev cX5_takeBetween : ByteArray := prog_7_method_24_code
def yX5_takeBetween : MethodName := ⟨RX5, "takeBetween", "(II)I"⟩
abbrev cX5_nameHere : ByteArray := prog_7_method_25_code
def yX5_nameHere : MethodName := ⟨RX5, "nameHere", "()I"⟩
abbrev cX5_takeNewName : ByteArray := prog_7_method_26_code
def yX5_takeNewName : MethodName := ⟨RX5, "takeNewName", "(I)Z"⟩
abbrev cX5_personHere : ByteArray := prog_7_method_27_code
def yX5_personHere : MethodName := ⟨RX5, "personHere", "()I"⟩
abbrev cX5_takePersonsName : ByteArray := prog_7_method_28_code
def yX5_takePersonsName : MethodName := ⟨RX5, "takePersonsName", "()I"⟩
abbrev cX5_takeAnother : ByteArray := prog_7_method_29_code
def yX5_takeAnother : MethodName := ⟨RX5, "takeAnother", "(I)I"⟩
abbrev cX6_init : ByteArray := prog_8_method_1_code
def yX6_init : MethodName := ⟨RX6, "<init>", "()V"⟩
abbrev cX6_spread : ByteArray := prog_8_method_2_code
def yX6_spread : MethodName := ⟨RX6, "spread", "(LStreetTube$Told;III)V"⟩
abbrev cX6_state : ByteArray := prog_8_method_3_code
def yX6_state : MethodName := ⟨RX6, "state", "(II)I"⟩
abbrev cX6_shakeOnce : ByteArray := prog_8_method_4_code
def yX6_shakeOnce : MethodName := ⟨RX6, "shakeOnce", "(LStreetTube$Told;)V"⟩
abbrev cX6_besideWeight : ByteArray := prog_8_method_5_code
def yX6_besideWeight : MethodName := ⟨RX6, "besideWeight", "()J"⟩
abbrev cX6_weightIn : ByteArray := prog_8_method_6_code
def yX6_weightIn : MethodName := ⟨RX6, "weightIn", "(I)J"⟩
abbrev cX6_draw : ByteArray := prog_8_method_7_code
def yX6_draw : MethodName := ⟨RX6, "draw", "()I"⟩
abbrev cX6_drawnShake : ByteArray := prog_8_method_8_code
def yX6_drawnShake : MethodName := ⟨RX6, "drawnShake", "(LStreetTube$Told;I)I"⟩
abbrev cX7_at : ByteArray := prog_9_method_2_code
def yX7_at : MethodName := ⟨RX7, "at", "(II)I"⟩
abbrev cX7_with : ByteArray := prog_9_method_3_code
def yX7_with : MethodName := ⟨RX7, "with", "(III)I"⟩
abbrev cX7_areBeside : ByteArray := prog_9_method_4_code
def yX7_areBeside : MethodName := ⟨RX7, "areBeside", "(II)Z"⟩
abbrev cX7_same : ByteArray := prog_9_method_5_code
def yX7_same : MethodName := ⟨RX7, "same", "(I)I"⟩
abbrev cX7_otherWayRound : ByteArray := prog_9_method_6_code
def yX7_otherWayRound : MethodName := ⟨RX7, "otherWayRound", "(I)I"⟩
abbrev cX7_through : ByteArray := prog_9_method_7_code
def yX7_through : MethodName := ⟨RX7, "through", "(III)I"⟩
abbrev cX7_inverse : ByteArray := prog_9_method_8_code
def yX7_inverse : MethodName := ⟨RX7, "inverse", "(II)I"⟩
abbrev cX7_commuting : ByteArray := prog_9_method_9_code
def yX7_commuting : MethodName := ⟨RX7, "commuting", "(III)Z"⟩
abbrev cX7_fixed : ByteArray := prog_9_method_10_code
def yX7_fixed : MethodName := ⟨RX7, "fixed", "(II)I"⟩
abbrev cX7_cycles : ByteArray := prog_9_method_11_code
def yX7_cycles : MethodName := ⟨RX7, "cycles", "(II)I"⟩
abbrev cX7_isEven : ByteArray := prog_9_method_12_code
def yX7_isEven : MethodName := ⟨RX7, "isEven", "(II)Z"⟩
abbrev cX7_order : ByteArray := prog_9_method_13_code
def yX7_order : MethodName := ⟨RX7, "order", "(II)I"⟩
abbrev cX7_rank : ByteArray := prog_9_method_14_code
def yX7_rank : MethodName := ⟨RX7, "rank", "(II)I"⟩
abbrev cX8_init : ByteArray := prog_10_method_1_code
def yX8_init : MethodName := ⟨RX8, "<init>", "()V"⟩
abbrev cX8_begin : ByteArray := prog_10_method_2_code
def yX8_begin : MethodName := ⟨RX8, "begin", "(I)V"⟩
abbrev cX8_act : ByteArray := prog_10_method_3_code
def yX8_act : MethodName := ⟨RX8, "act", "(I)V"⟩
abbrev cX8_takeBack : ByteArray := prog_10_method_4_code
def yX8_takeBack : MethodName := ⟨RX8, "takeBack", "()V"⟩
abbrev cX8_keepImage : ByteArray := prog_10_method_5_code
def yX8_keepImage : MethodName := ⟨RX8, "keepImage", "()I"⟩
abbrev cX8_goBack : ByteArray := prog_10_method_6_code
def yX8_goBack : MethodName := ⟨RX8, "goBack", "(I)V"⟩
abbrev cX9_init : ByteArray := prog_11_method_1_code
def yX9_init : MethodName := ⟨RX9, "<init>", "()V"⟩
abbrev cX9_clear : ByteArray := prog_11_method_2_code
def yX9_clear : MethodName := ⟨RX9, "clear", "()V"⟩
abbrev cX9_isHome : ByteArray := prog_11_method_6_code
def yX9_isHome : MethodName := ⟨RX9, "isHome", "(I)Z"⟩
abbrev cX9_isUnsure : ByteArray := prog_11_method_7_code
def yX9_isUnsure : MethodName := ⟨RX9, "isUnsure", "(I)Z"⟩
abbrev cX9_homeStand : ByteArray := prog_11_method_8_code
def yX9_homeStand : MethodName := ⟨RX9, "homeStand", "()I"⟩
abbrev cX9_changeBy : ByteArray := prog_11_method_9_code
def yX9_changeBy : MethodName := ⟨RX9, "changeBy", "(II)I"⟩
abbrev cX9_unsureSets : ByteArray := prog_11_method_10_code
def yX9_unsureSets : MethodName := ⟨RX9, "unsureSets", "()I"⟩
abbrev cX9_fitting : ByteArray := prog_11_method_11_code
def yX9_fitting : MethodName := ⟨RX9, "fitting", "()I"⟩
abbrev cX9_standBy : ByteArray := prog_11_method_12_code
def yX9_standBy : MethodName := ⟨RX9, "standBy", "(I)I"⟩
abbrev cX9_areUnlike : ByteArray := prog_11_method_13_code
def yX9_areUnlike : MethodName := ⟨RX9, "areUnlike", "(I)Z"⟩
abbrev cX9_leftAtMost : ByteArray := prog_11_method_14_code
def yX9_leftAtMost : MethodName := ⟨RX9, "leftAtMost", "(II)I"⟩
abbrev cX9_shakeWeight : ByteArray := prog_11_method_15_code
def yX9_shakeWeight : MethodName := ⟨RX9, "shakeWeight", "(I)J"⟩
abbrev cX10_init : ByteArray := prog_1_method_1_code
def yX10_init : MethodName := ⟨RX10, "<init>", "()V"⟩
abbrev cX10_feed : ByteArray := prog_1_method_2_code
def yX10_feed : MethodName := ⟨RX10, "feed", "(IIIII)I"⟩
abbrev cX10_tube : ByteArray := prog_1_method_3_code
def yX10_tube : MethodName := ⟨RX10, "tube", "(I)I"⟩
abbrev cX10_fault : ByteArray := prog_1_method_4_code
def yX10_fault : MethodName := ⟨RX10, "fault", "()I"⟩
abbrev cX10_where : ByteArray := prog_1_method_5_code
def yX10_where : MethodName := ⟨RX10, "where", "()I"⟩
abbrev cX10_person : ByteArray := prog_1_method_6_code
def yX10_person : MethodName := ⟨RX10, "person", "(II)I"⟩
abbrev cX10_slot : ByteArray := prog_1_method_7_code
def yX10_slot : MethodName := ⟨RX10, "slot", "(I)I"⟩
abbrev cX10_turned : ByteArray := prog_1_method_8_code
def yX10_turned : MethodName := ⟨RX10, "turned", "(II)I"⟩
abbrev cX10_quarrels : ByteArray := prog_1_method_9_code
def yX10_quarrels : MethodName := ⟨RX10, "quarrels", "()I"⟩
abbrev cX10_met : ByteArray := prog_1_method_10_code
def yX10_met : MethodName := ⟨RX10, "met", "()I"⟩
abbrev cX10_ring : ByteArray := prog_1_method_11_code
def yX10_ring : MethodName := ⟨RX10, "ring", "(I)I"⟩
abbrev cX10_truth : ByteArray := prog_1_method_12_code
def yX10_truth : MethodName := ⟨RX10, "truth", "(I)I"⟩
abbrev cX10_image : ByteArray := prog_1_method_13_code
def yX10_image : MethodName := ⟨RX10, "image", "(II)I"⟩
abbrev cX10_selves : ByteArray := prog_1_method_14_code
def yX10_selves : MethodName := ⟨RX10, "selves", "()I"⟩
abbrev cX10_near : ByteArray := prog_1_method_15_code
def yX10_near : MethodName := ⟨RX10, "near", "(II)I"⟩
abbrev cX10_seenIn : ByteArray := prog_1_method_16_code
def yX10_seenIn : MethodName := ⟨RX10, "seenIn", "(I)I"⟩
abbrev cX10_slides : ByteArray := prog_1_method_17_code
def yX10_slides : MethodName := ⟨RX10, "slides", "(III)I"⟩
abbrev cX10_round : ByteArray := prog_1_method_18_code
def yX10_round : MethodName := ⟨RX10, "round", "(II)I"⟩
abbrev cX10_even : ByteArray := prog_1_method_19_code
def yX10_even : MethodName := ⟨RX10, "even", "(II)I"⟩
abbrev cX10_fixes : ByteArray := prog_1_method_20_code
def yX10_fixes : MethodName := ⟨RX10, "fixes", "(II)I"⟩
abbrev cX10_commute : ByteArray := prog_1_method_21_code
def yX10_commute : MethodName := ⟨RX10, "commute", "(II)I"⟩
abbrev cX10_undoing : ByteArray := prog_1_method_22_code
def yX10_undoing : MethodName := ⟨RX10, "undoing", "(II)I"⟩
abbrev cX10_reach : ByteArray := prog_1_method_23_code
def yX10_reach : MethodName := ⟨RX10, "reach", "()I"⟩
abbrev cX10_deepest : ByteArray := prog_1_method_24_code
def yX10_deepest : MethodName := ⟨RX10, "deepest", "()I"⟩
abbrev cX10_evens : ByteArray := prog_1_method_25_code
def yX10_evens : MethodName := ⟨RX10, "evens", "()I"⟩
abbrev cX10_orbit : ByteArray := prog_1_method_26_code
def yX10_orbit : MethodName := ⟨RX10, "orbit", "(I)I"⟩
abbrev cX10_keeps : ByteArray := prog_1_method_27_code
def yX10_keeps : MethodName := ⟨RX10, "keeps", "(I)I"⟩
abbrev cX10_pairs : ByteArray := prog_1_method_28_code
def yX10_pairs : MethodName := ⟨RX10, "pairs", "()I"⟩
abbrev cX10_centre : ByteArray := prog_1_method_29_code
def yX10_centre : MethodName := ⟨RX10, "centre", "()I"⟩
abbrev cX10_errand : ByteArray := prog_1_method_30_code
def yX10_errand : MethodName := ⟨RX10, "errand", "()I"⟩
abbrev cX10_errandAt : ByteArray := prog_1_method_31_code
def yX10_errandAt : MethodName := ⟨RX10, "errandAt", "(I)I"⟩
abbrev cX10_peace : ByteArray := prog_1_method_32_code
def yX10_peace : MethodName := ⟨RX10, "peace", "()I"⟩
abbrev cX10_peaceAt : ByteArray := prog_1_method_33_code
def yX10_peaceAt : MethodName := ⟨RX10, "peaceAt", "(I)I"⟩
abbrev cX10_bring : ByteArray := prog_1_method_34_code
def yX10_bring : MethodName := ⟨RX10, "bring", "(II)I"⟩
abbrev cX10_calmest : ByteArray := prog_1_method_35_code
def yX10_calmest : MethodName := ⟨RX10, "calmest", "()I"⟩
abbrev cX10_colourings : ByteArray := prog_1_method_36_code
def yX10_colourings : MethodName := ⟨RX10, "colourings", "(I)J"⟩
abbrev cX10_mirrored : ByteArray := prog_1_method_37_code
def yX10_mirrored : MethodName := ⟨RX10, "mirrored", "(I)J"⟩
abbrev cX10_necklaces : ByteArray := prog_1_method_38_code
def yX10_necklaces : MethodName := ⟨RX10, "necklaces", "(II)J"⟩
abbrev cX10_bracelets : ByteArray := prog_1_method_39_code
def yX10_bracelets : MethodName := ⟨RX10, "bracelets", "(II)J"⟩
abbrev cX10_fits : ByteArray := prog_1_method_40_code
def yX10_fits : MethodName := ⟨RX10, "fits", "()I"⟩
abbrev cX10_fitAt : ByteArray := prog_1_method_41_code
def yX10_fitAt : MethodName := ⟨RX10, "fitAt", "(I)I"⟩
abbrev cX10_could : ByteArray := prog_1_method_42_code
def yX10_could : MethodName := ⟨RX10, "could", "()I"⟩
abbrev cX10_surely : ByteArray := prog_1_method_43_code
def yX10_surely : MethodName := ⟨RX10, "surely", "()I"⟩
abbrev cX10_ask : ByteArray := prog_1_method_44_code
def yX10_ask : MethodName := ⟨RX10, "ask", "()I"⟩
abbrev cX10_askLeaves : ByteArray := prog_1_method_45_code
def yX10_askLeaves : MethodName := ⟨RX10, "askLeaves", "()I"⟩
abbrev cX10_judge : ByteArray := prog_1_method_46_code
def yX10_judge : MethodName := ⟨RX10, "judge", "()I"⟩
abbrev cX10_gets : ByteArray := prog_1_method_47_code
def yX10_gets : MethodName := ⟨RX10, "gets", "(III)I"⟩
abbrev cX10_getsBy : ByteArray := prog_1_method_48_code
def yX10_getsBy : MethodName := ⟨RX10, "getsBy", "(III)I"⟩
abbrev cX10_looks : ByteArray := prog_1_method_49_code
def yX10_looks : MethodName := ⟨RX10, "looks", "(IZZZ)I"⟩
abbrev cX10_rests : ByteArray := prog_1_method_50_code
def yX10_rests : MethodName := ⟨RX10, "rests", "(I)I"⟩
abbrev cX10_rest : ByteArray := prog_1_method_51_code
def yX10_rest : MethodName := ⟨RX10, "rest", "(I)I"⟩
abbrev cX10_odds : ByteArray := prog_1_method_52_code
def yX10_odds : MethodName := ⟨RX10, "odds", "(IIIZ)J"⟩
abbrev cX10_slotOdds : ByteArray := prog_1_method_53_code
def yX10_slotOdds : MethodName := ⟨RX10, "slotOdds", "(IIIZ)J"⟩
abbrev cX10_mean : ByteArray := prog_1_method_54_code
def yX10_mean : MethodName := ⟨RX10, "mean", "(IZ)J"⟩
abbrev cX10_shaken : ByteArray := prog_1_method_55_code
def yX10_shaken : MethodName := ⟨RX10, "shaken", "(III)I"⟩
abbrev cX10_peaceIn : ByteArray := prog_1_method_56_code
def yX10_peaceIn : MethodName := ⟨RX10, "peaceIn", "(II)I"⟩
abbrev cX10_turn : ByteArray := prog_1_method_57_code
def yX10_turn : MethodName := ⟨RX10, "turn", "(I)I"⟩
abbrev cX10_turnBack : ByteArray := prog_1_method_58_code
def yX10_turnBack : MethodName := ⟨RX10, "turnBack", "(I)I"⟩
abbrev cX10_move : ByteArray := prog_1_method_59_code
def yX10_move : MethodName := ⟨RX10, "move", "(II)I"⟩
abbrev cX10_undo : ByteArray := prog_1_method_60_code
def yX10_undo : MethodName := ⟨RX10, "undo", "()Z"⟩
abbrev cX10_keep : ByteArray := prog_1_method_61_code
def yX10_keep : MethodName := ⟨RX10, "keep", "()I"⟩
abbrev cX10_back : ByteArray := prog_1_method_62_code
def yX10_back : MethodName := ⟨RX10, "back", "(I)Z"⟩
abbrev cX10_led : ByteArray := prog_1_method_63_code
def yX10_led : MethodName := ⟨RX10, "led", "(I)I"⟩
abbrev cX10_size : ByteArray := prog_1_method_64_code
def yX10_size : MethodName := ⟨RX10, "size", "(I)I"⟩
abbrev cX10_trouble : ByteArray := prog_1_method_65_code
def yX10_trouble : MethodName := ⟨RX10, "trouble", "()I"⟩
abbrev cX10_refused : ByteArray := prog_1_method_66_code
def yX10_refused : MethodName := ⟨RX10, "refused", "(I)I"⟩
abbrev cX10_fine : ByteArray := prog_1_method_67_code
def yX10_fine : MethodName := ⟨RX10, "fine", "(I)I"⟩
abbrev cX10_fineLong : ByteArray := prog_1_method_68_code
def yX10_fineLong : MethodName := ⟨RX10, "fineLong", "(J)J"⟩
abbrev cX10_isTube : ByteArray := prog_1_method_69_code
def yX10_isTube : MethodName := ⟨RX10, "isTube", "()Z"⟩
abbrev cX10_isPerson : ByteArray := prog_1_method_70_code
def yX10_isPerson : MethodName := ⟨RX10, "isPerson", "(I)Z"⟩
abbrev cX10_areTwo : ByteArray := prog_1_method_71_code
def yX10_areTwo : MethodName := ⟨RX10, "areTwo", "(II)Z"⟩
abbrev cX10_isSlot : ByteArray := prog_1_method_72_code
def yX10_isSlot : MethodName := ⟨RX10, "isSlot", "(I)Z"⟩
abbrev cX10_isTurn : ByteArray := prog_1_method_73_code
def yX10_isTurn : MethodName := ⟨RX10, "isTurn", "(I)Z"⟩
abbrev cX10_isPlace : ByteArray := prog_1_method_74_code
def yX10_isPlace : MethodName := ⟨RX10, "isPlace", "(I)Z"⟩
abbrev cX10_areColours : ByteArray := prog_1_method_75_code
def yX10_areColours : MethodName := ⟨RX10, "areColours", "(I)Z"⟩
abbrev cX10_areBeads : ByteArray := prog_1_method_76_code
def yX10_areBeads : MethodName := ⟨RX10, "areBeads", "(I)Z"⟩
abbrev cX10_isBlue : ByteArray := prog_1_method_77_code
def yX10_isBlue : MethodName := ⟨RX10, "isBlue", "(I)Z"⟩
abbrev cX10_isSeed : ByteArray := prog_1_method_78_code
def yX10_isSeed : MethodName := ⟨RX10, "isSeed", "(I)Z"⟩
abbrev cX10_slotOf : ByteArray := prog_1_method_79_code
def yX10_slotOf : MethodName := ⟨RX10, "slotOf", "(I)I"⟩
abbrev cX10_whoIsIn : ByteArray := prog_1_method_80_code
def yX10_whoIsIn : MethodName := ⟨RX10, "whoIsIn", "(I)I"⟩
abbrev cX10_besideBits : ByteArray := prog_1_method_81_code
def yX10_besideBits : MethodName := ⟨RX10, "besideBits", "(I)I"⟩
abbrev cX10_quarrelsBy : ByteArray := prog_1_method_82_code
def yX10_quarrelsBy : MethodName := ⟨RX10, "quarrelsBy", "(I)I"⟩
abbrev cX10_sectors : ByteArray := prog_1_method_83_code
def yX10_sectors : MethodName := ⟨RX10, "sectors", "()I"⟩
abbrev cX10_places : ByteArray := prog_1_method_84_code
def yX10_places : MethodName := ⟨RX10, "places", "()I"⟩
abbrev cX10_slotAt : ByteArray := prog_1_method_85_code
def yX10_slotAt : MethodName := ⟨RX10, "slotAt", "(I)I"⟩
abbrev cX10_placeIn : ByteArray := prog_1_method_86_code
def yX10_placeIn : MethodName := ⟨RX10, "placeIn", "(II)I"⟩
abbrev cX10_reached : ByteArray := prog_1_method_87_code
def yX10_reached : MethodName := ⟨RX10, "reached", "()LStreetTube$Reach;"⟩
abbrev cX10_errandChange : ByteArray := prog_1_method_88_code
def yX10_errandChange : MethodName := ⟨RX10, "errandChange", "()I"⟩
abbrev cX10_peaceChange : ByteArray := prog_1_method_89_code
def yX10_peaceChange : MethodName := ⟨RX10, "peaceChange", "()I"⟩
abbrev cX10_depthOrNot : ByteArray := prog_1_method_90_code
def yX10_depthOrNot : MethodName := ⟨RX10, "depthOrNot", "(I)I"⟩
abbrev cX10_turnOnTheWay : ByteArray := prog_1_method_91_code
def yX10_turnOnTheWay : MethodName := ⟨RX10, "turnOnTheWay", "(II)I"⟩
abbrev cX10_whomToAsk : ByteArray := prog_1_method_92_code
def yX10_whomToAsk : MethodName := ⟨RX10, "whomToAsk", "(I)I"⟩
abbrev cX10_slideAll : ByteArray := prog_1_method_93_code
def yX10_slideAll : MethodName := ⟨RX10, "slideAll", "(I)I"⟩
abbrev cX10_inLowestTerms : ByteArray := prog_1_method_94_code
def yX10_inLowestTerms : MethodName := ⟨RX10, "inLowestTerms", "(JJZ)J"⟩
abbrev cX11_init : ByteArray := prog_14_method_1_code
def yX11_init : MethodName := ⟨RX11, "<init>", "()V"⟩
abbrev cX11_find : ByteArray := prog_14_method_2_code
def yX11_find : MethodName := ⟨RX11, "find", "(J)I"⟩
abbrev cX11_isTaken : ByteArray := prog_14_method_3_code
def yX11_isTaken : MethodName := ⟨RX11, "isTaken", "(I)Z"⟩
abbrev cX11_isUnsure : ByteArray := prog_14_method_4_code
def yX11_isUnsure : MethodName := ⟨RX11, "isUnsure", "(I)Z"⟩
abbrev cX12_init : ByteArray := prog_13_method_1_code
def yX12_init : MethodName := ⟨RX12, "<init>", "()V"⟩
abbrev cX12_thrown : ByteArray := prog_13_method_2_code
def yX12_thrown : MethodName := ⟨RX12, "thrown", "()I"⟩
abbrev cX12_refused : ByteArray := prog_13_method_3_code
def yX12_refused : MethodName := ⟨RX12, "refused", "(I)I"⟩
abbrev cX12_lost : ByteArray := prog_13_method_4_code
def yX12_lost : MethodName := ⟨RX12, "lost", "(I)I"⟩
abbrev cX12_denied : ByteArray := prog_13_method_5_code
def yX12_denied : MethodName := ⟨RX12, "denied", "(I)Z"⟩
abbrev cX12_good : ByteArray := prog_13_method_6_code
def yX12_good : MethodName := ⟨RX12, "good", "(I)I"⟩
abbrev cX12_goodLong : ByteArray := prog_13_method_7_code
def yX12_goodLong : MethodName := ⟨RX12, "goodLong", "(J)J"⟩
abbrev cX12_granted : ByteArray := prog_13_method_8_code
def yX12_granted : MethodName := ⟨RX12, "granted", "()Z"⟩
abbrev cX12_in : ByteArray := prog_13_method_9_code
def yX12_in : MethodName := ⟨RX12, "in", "(III)Z"⟩
abbrev cX12_bit : ByteArray := prog_13_method_10_code
def yX12_bit : MethodName := ⟨RX12, "bit", "(II)Z"⟩
abbrev cX12_bits : ByteArray := prog_13_method_11_code
def yX12_bits : MethodName := ⟨RX12, "bits", "(I)I"⟩
abbrev cX12_common : ByteArray := prog_13_method_12_code
def yX12_common : MethodName := ⟨RX12, "common", "(JJ)J"⟩
abbrev cX12_fraction : ByteArray := prog_13_method_13_code
def yX12_fraction : MethodName := ⟨RX12, "fraction", "(JJZ)J"⟩
abbrev cX12_power : ByteArray := prog_13_method_14_code
def yX12_power : MethodName := ⟨RX12, "power", "(JI)J"⟩
abbrev cX12_byteAt : ByteArray := prog_13_method_15_code
def yX12_byteAt : MethodName := ⟨RX12, "byteAt", "(I)I"⟩
abbrev cX12_isLetter : ByteArray := prog_13_method_16_code
def yX12_isLetter : MethodName := ⟨RX12, "isLetter", "(I)Z"⟩
abbrev cX12_isDigit : ByteArray := prog_13_method_17_code
def yX12_isDigit : MethodName := ⟨RX12, "isDigit", "(I)Z"⟩
abbrev cX12_packed : ByteArray := prog_13_method_18_code
def yX12_packed : MethodName := ⟨RX12, "packed", "(Ljava/lang/String;)J"⟩
abbrev cX12_goesOn : ByteArray := prog_13_method_19_code
def yX12_goesOn : MethodName := ⟨RX12, "goesOn", "()V"⟩
abbrev cX12_flaw : ByteArray := prog_13_method_20_code
def yX12_flaw : MethodName := ⟨RX12, "flaw", "(I)V"⟩
abbrev cX12_isWord : ByteArray := prog_13_method_21_code
def yX12_isWord : MethodName := ⟨RX12, "isWord", "(Ljava/lang/String;)Z"⟩
abbrev cX12_eatsSemicolon : ByteArray := prog_13_method_22_code
def yX12_eatsSemicolon : MethodName := ⟨RX12, "eatsSemicolon", "()Z"⟩
abbrev cX12_needs : ByteArray := prog_13_method_23_code
def yX12_needs : MethodName := ⟨RX12, "needs", "(Ljava/lang/String;)V"⟩
abbrev cX12_wholeAt : ByteArray := prog_13_method_24_code
def yX12_wholeAt : MethodName := ⟨RX12, "wholeAt", "(II)I"⟩
abbrev cX12_readPart : ByteArray := prog_13_method_25_code
def yX12_readPart : MethodName := ⟨RX12, "readPart", "(Ljava/lang/String;II)I"⟩
abbrev cX12_isName : ByteArray := prog_13_method_26_code
def yX12_isName : MethodName := ⟨RX12, "isName", "()Z"⟩
abbrev cX12_lineBegins : ByteArray := prog_13_method_27_code
def yX12_lineBegins : MethodName := ⟨RX12, "lineBegins", "(II)V"⟩
abbrev cX12_readFresh : ByteArray := prog_13_method_28_code
def yX12_readFresh : MethodName := ⟨RX12, "readFresh", "()J"⟩
abbrev cX12_names : ByteArray := prog_13_method_29_code
def yX12_names : MethodName := ⟨RX12, "names", "(JII)V"⟩
abbrev cX12_personAtHand : ByteArray := prog_13_method_30_code
def yX12_personAtHand : MethodName := ⟨RX12, "personAtHand", "()I"⟩
abbrev cX12_readTwo : ByteArray := prog_13_method_31_code
def yX12_readTwo : MethodName := ⟨RX12, "readTwo", "()I"⟩
abbrev cX12_readAll : ByteArray := prog_13_method_32_code
def yX12_readAll : MethodName := ⟨RX12, "readAll", "()V"⟩
abbrev cX12_readLine : ByteArray := prog_13_method_33_code
def yX12_readLine : MethodName := ⟨RX12, "readLine", "()V"⟩
abbrev cX12_readTube : ByteArray := prog_13_method_34_code
def yX12_readTube : MethodName := ⟨RX12, "readTube", "()V"⟩
abbrev cX12_readPerson : ByteArray := prog_13_method_35_code
def yX12_readPerson : MethodName := ⟨RX12, "readPerson", "()V"⟩
abbrev cX12_readTurn : ByteArray := prog_13_method_36_code
def yX12_readTurn : MethodName := ⟨RX12, "readTurn", "()V"⟩
abbrev cX12_readQuarrel : ByteArray := prog_13_method_37_code
def yX12_readQuarrel : MethodName := ⟨RX12, "readQuarrel", "()V"⟩
abbrev cX12_readWish : ByteArray := prog_13_method_38_code
def yX12_readWish : MethodName := ⟨RX12, "readWish", "(Z)V"⟩
abbrev cX12_readUnsure : ByteArray := prog_13_method_39_code
def yX12_readUnsure : MethodName := ⟨RX12, "readUnsure", "()V"⟩
abbrev cX12_readSeen : ByteArray := prog_13_method_40_code
def yX12_readSeen : MethodName := ⟨RX12, "readSeen", "()V"⟩
abbrev cX12_feed : ByteArray := prog_13_method_41_code
def yX12_feed : MethodName := ⟨RX12, "feed", "(IIIII)I"⟩
abbrev cX12_tube : ByteArray := prog_13_method_42_code
def yX12_tube : MethodName := ⟨RX12, "tube", "(I)I"⟩
abbrev cX12_fault : ByteArray := prog_13_method_43_code
def yX12_fault : MethodName := ⟨RX12, "fault", "()I"⟩
abbrev cX12_where : ByteArray := prog_13_method_44_code
def yX12_where : MethodName := ⟨RX12, "where", "()I"⟩
abbrev cX12_isPerson : ByteArray := prog_13_method_45_code
def yX12_isPerson : MethodName := ⟨RX12, "isPerson", "(I)Z"⟩
abbrev cX12_isSlot : ByteArray := prog_13_method_46_code
def yX12_isSlot : MethodName := ⟨RX12, "isSlot", "(I)Z"⟩
abbrev cX12_isTurn : ByteArray := prog_13_method_47_code
def yX12_isTurn : MethodName := ⟨RX12, "isTurn", "(I)Z"⟩
abbrev cX12_areTwo : ByteArray := prog_13_method_48_code
def yX12_areTwo : MethodName := ⟨RX12, "areTwo", "(II)Z"⟩
abbrev cX12_works : ByteArray := prog_13_method_49_code
def yX12_works : MethodName := ⟨RX12, "works", "()V"⟩
abbrev cX12_slid : ByteArray := prog_13_method_50_code
def yX12_slid : MethodName := ⟨RX12, "slid", "(II)I"⟩
abbrev cX12_ranked : ByteArray := prog_13_method_51_code
def yX12_ranked : MethodName := ⟨RX12, "ranked", "()I"⟩
abbrev cX12_layWay : ByteArray := prog_13_method_52_code
def yX12_layWay : MethodName := ⟨RX12, "layWay", "(I)V"⟩
abbrev cX12_adds : ByteArray := prog_13_method_53_code
def yX12_adds : MethodName := ⟨RX12, "adds", "(III)V"⟩
abbrev cX12_reaches : ByteArray := prog_13_method_54_code
def yX12_reaches : MethodName := ⟨RX12, "reaches", "(Z)V"⟩
abbrev cX12_comes : ByteArray := prog_13_method_55_code
def yX12_comes : MethodName := ⟨RX12, "comes", "(II)I"⟩
abbrev cX12_goesBy : ByteArray := prog_13_method_56_code
def yX12_goesBy : MethodName := ⟨RX12, "goesBy", "(I)V"⟩
abbrev cX12_ringsOf : ByteArray := prog_13_method_57_code
def yX12_ringsOf : MethodName := ⟨RX12, "ringsOf", "()I"⟩
abbrev cX12_isEven : ByteArray := prog_13_method_58_code
def yX12_isEven : MethodName := ⟨RX12, "isEven", "()Z"⟩
abbrev cX12_fixed : ByteArray := prog_13_method_59_code
def yX12_fixed : MethodName := ⟨RX12, "fixed", "()I"⟩
abbrev cX12_areBeside : ByteArray := prog_13_method_60_code
def yX12_areBeside : MethodName := ⟨RX12, "areBeside", "(II)Z"⟩
abbrev cX12_besideOf : ByteArray := prog_13_method_61_code
def yX12_besideOf : MethodName := ⟨RX12, "besideOf", "(I)I"⟩
abbrev cX12_person : ByteArray := prog_13_method_62_code
def yX12_person : MethodName := ⟨RX12, "person", "(II)I"⟩
abbrev cX12_whoIn : ByteArray := prog_13_method_63_code
def yX12_whoIn : MethodName := ⟨RX12, "whoIn", "(I)I"⟩
abbrev cX12_slot : ByteArray := prog_13_method_64_code
def yX12_slot : MethodName := ⟨RX12, "slot", "(I)I"⟩
abbrev cX12_turned : ByteArray := prog_13_method_65_code
def yX12_turned : MethodName := ⟨RX12, "turned", "(II)I"⟩
abbrev cX12_quarrelsNow : ByteArray := prog_13_method_66_code
def yX12_quarrelsNow : MethodName := ⟨RX12, "quarrelsNow", "()I"⟩
abbrev cX12_quarrels : ByteArray := prog_13_method_67_code
def yX12_quarrels : MethodName := ⟨RX12, "quarrels", "()I"⟩
abbrev cX12_metNow : ByteArray := prog_13_method_68_code
def yX12_metNow : MethodName := ⟨RX12, "metNow", "()I"⟩
abbrev cX12_met : ByteArray := prog_13_method_69_code
def yX12_met : MethodName := ⟨RX12, "met", "()I"⟩
abbrev cX12_places : ByteArray := prog_13_method_70_code
def yX12_places : MethodName := ⟨RX12, "places", "()I"⟩
abbrev cX12_isPlace : ByteArray := prog_13_method_71_code
def yX12_isPlace : MethodName := ⟨RX12, "isPlace", "(I)Z"⟩
abbrev cX12_seenSlot : ByteArray := prog_13_method_72_code
def yX12_seenSlot : MethodName := ⟨RX12, "seenSlot", "(I)I"⟩
abbrev cX12_ring : ByteArray := prog_13_method_73_code
def yX12_ring : MethodName := ⟨RX12, "ring", "(I)I"⟩
abbrev cX12_truth : ByteArray := prog_13_method_74_code
def yX12_truth : MethodName := ⟨RX12, "truth", "(I)I"⟩
abbrev cX12_image : ByteArray := prog_13_method_75_code
def yX12_image : MethodName := ⟨RX12, "image", "(II)I"⟩
abbrev cX12_selves : ByteArray := prog_13_method_76_code
def yX12_selves : MethodName := ⟨RX12, "selves", "()I"⟩
abbrev cX12_near : ByteArray := prog_13_method_77_code
def yX12_near : MethodName := ⟨RX12, "near", "(II)I"⟩
abbrev cX12_seenIn : ByteArray := prog_13_method_78_code
def yX12_seenIn : MethodName := ⟨RX12, "seenIn", "(I)I"⟩
abbrev cX12_layRow : ByteArray := prog_13_method_79_code
def yX12_layRow : MethodName := ⟨RX12, "layRow", "(II)I"⟩
abbrev cX12_slides : ByteArray := prog_13_method_80_code
def yX12_slides : MethodName := ⟨RX12, "slides", "(III)I"⟩
abbrev cX12_round : ByteArray := prog_13_method_81_code
def yX12_round : MethodName := ⟨RX12, "round", "(II)I"⟩
abbrev cX12_even : ByteArray := prog_13_method_82_code
def yX12_even : MethodName := ⟨RX12, "even", "(II)I"⟩
abbrev cX12_fixes : ByteArray := prog_13_method_83_code
def yX12_fixes : MethodName := ⟨RX12, "fixes", "(II)I"⟩
abbrev cX12_doCommute : ByteArray := prog_13_method_84_code
def yX12_doCommute : MethodName := ⟨RX12, "doCommute", "(II)Z"⟩
abbrev cX12_commute : ByteArray := prog_13_method_85_code
def yX12_commute : MethodName := ⟨RX12, "commute", "(II)I"⟩
abbrev cX12_inverts : ByteArray := prog_13_method_86_code
def yX12_inverts : MethodName := ⟨RX12, "inverts", "()V"⟩
abbrev cX12_undoing : ByteArray := prog_13_method_87_code
def yX12_undoing : MethodName := ⟨RX12, "undoing", "(II)I"⟩
abbrev cX12_reach : ByteArray := prog_13_method_88_code
def yX12_reach : MethodName := ⟨RX12, "reach", "()I"⟩
abbrev cX12_deepest : ByteArray := prog_13_method_89_code
def yX12_deepest : MethodName := ⟨RX12, "deepest", "()I"⟩
abbrev cX12_evens : ByteArray := prog_13_method_90_code
def yX12_evens : MethodName := ⟨RX12, "evens", "()I"⟩
abbrev cX12_orbit : ByteArray := prog_13_method_91_code
def yX12_orbit : MethodName := ⟨RX12, "orbit", "(I)I"⟩
abbrev cX12_keeps : ByteArray := prog_13_method_92_code
def yX12_keeps : MethodName := ⟨RX12, "keeps", "(I)I"⟩
abbrev cX12_pairs : ByteArray := prog_13_method_93_code
def yX12_pairs : MethodName := ⟨RX12, "pairs", "()I"⟩
abbrev cX12_centre : ByteArray := prog_13_method_94_code
def yX12_centre : MethodName := ⟨RX12, "centre", "()I"⟩
abbrev cX12_isDone : ByteArray := prog_13_method_95_code
def yX12_isDone : MethodName := ⟨RX12, "isDone", "(Z)Z"⟩
abbrev cX12_doneBy : ByteArray := prog_13_method_96_code
def yX12_doneBy : MethodName := ⟨RX12, "doneBy", "(Z)I"⟩
abbrev cX12_fewest : ByteArray := prog_13_method_97_code
def yX12_fewest : MethodName := ⟨RX12, "fewest", "(Z)I"⟩
abbrev cX12_stepOf : ByteArray := prog_13_method_98_code
def yX12_stepOf : MethodName := ⟨RX12, "stepOf", "(ZI)I"⟩
abbrev cX12_errand : ByteArray := prog_13_method_99_code
def yX12_errand : MethodName := ⟨RX12, "errand", "()I"⟩
abbrev cX12_errandAt : ByteArray := prog_13_method_100_code
def yX12_errandAt : MethodName := ⟨RX12, "errandAt", "(I)I"⟩
abbrev cX12_peace : ByteArray := prog_13_method_101_code
def yX12_peace : MethodName := ⟨RX12, "peace", "()I"⟩
abbrev cX12_peaceAt : ByteArray := prog_13_method_102_code
def yX12_peaceAt : MethodName := ⟨RX12, "peaceAt", "(I)I"⟩
abbrev cX12_bring : ByteArray := prog_13_method_103_code
def yX12_bring : MethodName := ⟨RX12, "bring", "(II)I"⟩
abbrev cX12_calmest : ByteArray := prog_13_method_104_code
def yX12_calmest : MethodName := ⟨RX12, "calmest", "()I"⟩
abbrev cX12_counted : ByteArray := prog_13_method_105_code
def yX12_counted : MethodName := ⟨RX12, "counted", "(I)J"⟩
abbrev cX12_refusesColours : ByteArray := prog_13_method_106_code
def yX12_refusesColours : MethodName := ⟨RX12, "refusesColours", "(I)I"⟩
abbrev cX12_colourings : ByteArray := prog_13_method_107_code
def yX12_colourings : MethodName := ⟨RX12, "colourings", "(I)J"⟩
abbrev cX12_mirrored : ByteArray := prog_13_method_108_code
def yX12_mirrored : MethodName := ⟨RX12, "mirrored", "(I)J"⟩
abbrev cX12_aroundSum : ByteArray := prog_13_method_109_code
def yX12_aroundSum : MethodName := ⟨RX12, "aroundSum", "(II)J"⟩
abbrev cX12_refusesNecklace : ByteArray := prog_13_method_110_code
def yX12_refusesNecklace : MethodName := ⟨RX12, "refusesNecklace", "(II)I"⟩
abbrev cX12_necklaces : ByteArray := prog_13_method_111_code
def yX12_necklaces : MethodName := ⟨RX12, "necklaces", "(II)J"⟩
abbrev cX12_bracelets : ByteArray := prog_13_method_112_code
def yX12_bracelets : MethodName := ⟨RX12, "bracelets", "(II)J"⟩
abbrev cX12_laysFirst : ByteArray := prog_13_method_113_code
def yX12_laysFirst : MethodName := ⟨RX12, "laysFirst", "(I)V"⟩
abbrev cX12_areUnlike : ByteArray := prog_13_method_114_code
def yX12_areUnlike : MethodName := ⟨RX12, "areUnlike", "()Z"⟩
abbrev cX12_wrongSeen : ByteArray := prog_13_method_115_code
def yX12_wrongSeen : MethodName := ⟨RX12, "wrongSeen", "()I"⟩
abbrev cX12_fitting : ByteArray := prog_13_method_116_code
def yX12_fitting : MethodName := ⟨RX12, "fitting", "(I)I"⟩
abbrev cX12_fits : ByteArray := prog_13_method_117_code
def yX12_fits : MethodName := ⟨RX12, "fits", "()I"⟩
abbrev cX12_fitAt : ByteArray := prog_13_method_118_code
def yX12_fitAt : MethodName := ⟨RX12, "fitAt", "(I)I"⟩
abbrev cX12_could : ByteArray := prog_13_method_119_code
def yX12_could : MethodName := ⟨RX12, "could", "()I"⟩
abbrev cX12_surely : ByteArray := prog_13_method_120_code
def yX12_surely : MethodName := ⟨RX12, "surely", "()I"⟩
abbrev cX12_asks : ByteArray := prog_13_method_121_code
def yX12_asks : MethodName := ⟨RX12, "asks", "()I"⟩
abbrev cX12_ask : ByteArray := prog_13_method_122_code
def yX12_ask : MethodName := ⟨RX12, "ask", "()I"⟩
abbrev cX12_askLeaves : ByteArray := prog_13_method_123_code
def yX12_askLeaves : MethodName := ⟨RX12, "askLeaves", "()I"⟩
abbrev cX12_judge : ByteArray := prog_13_method_124_code
def yX12_judge : MethodName := ⟨RX12, "judge", "()I"⟩
abbrev cX12_choices : ByteArray := prog_13_method_125_code
def yX12_choices : MethodName := ⟨RX12, "choices", "()I"⟩
abbrev cX12_argues : ByteArray := prog_13_method_126_code
def yX12_argues : MethodName := ⟨RX12, "argues", "(III)V"⟩
abbrev cX12_bestFrom : ByteArray := prog_13_method_127_code
def yX12_bestFrom : MethodName := ⟨RX12, "bestFrom", "(IZ)I"⟩
abbrev cX12_refusesGame : ByteArray := prog_13_method_128_code
def yX12_refusesGame : MethodName := ⟨RX12, "refusesGame", "(IIII)I"⟩
abbrev cX12_gets : ByteArray := prog_13_method_129_code
def yX12_gets : MethodName := ⟨RX12, "gets", "(III)I"⟩
abbrev cX12_getsBy : ByteArray := prog_13_method_130_code
def yX12_getsBy : MethodName := ⟨RX12, "getsBy", "(III)I"⟩
abbrev cX12_eye : ByteArray := prog_13_method_131_code
def yX12_eye : MethodName := ⟨RX12, "eye", "(IZZ)I"⟩
abbrev cX12_street : ByteArray := prog_13_method_132_code
def yX12_street : MethodName := ⟨RX12, "street", "(IZZ)I"⟩
abbrev cX12_refusesBlue : ByteArray := prog_13_method_133_code
def yX12_refusesBlue : MethodName := ⟨RX12, "refusesBlue", "(I)I"⟩
abbrev cX12_looks : ByteArray := prog_13_method_134_code
def yX12_looks : MethodName := ⟨RX12, "looks", "(IZZZ)I"⟩
abbrev cX12_isRest : ByteArray := prog_13_method_135_code
def yX12_isRest : MethodName := ⟨RX12, "isRest", "(II)Z"⟩
abbrev cX12_rests : ByteArray := prog_13_method_136_code
def yX12_rests : MethodName := ⟨RX12, "rests", "(I)I"⟩
abbrev cX12_rest : ByteArray := prog_13_method_137_code
def yX12_rest : MethodName := ⟨RX12, "rest", "(I)I"⟩
abbrev cX12_spreadsOut : ByteArray := prog_13_method_138_code
def yX12_spreadsOut : MethodName := ⟨RX12, "spreadsOut", "(I)V"⟩
abbrev cX12_spreads : ByteArray := prog_13_method_139_code
def yX12_spreads : MethodName := ⟨RX12, "spreads", "(I)V"⟩
abbrev cX12_refusesShakes : ByteArray := prog_13_method_140_code
def yX12_refusesShakes : MethodName := ⟨RX12, "refusesShakes", "(ZI)I"⟩
abbrev cX12_odds : ByteArray := prog_13_method_141_code
def yX12_odds : MethodName := ⟨RX12, "odds", "(IIIZ)J"⟩
abbrev cX12_slotOdds : ByteArray := prog_13_method_142_code
def yX12_slotOdds : MethodName := ⟨RX12, "slotOdds", "(IIIZ)J"⟩
abbrev cX12_mean : ByteArray := prog_13_method_143_code
def yX12_mean : MethodName := ⟨RX12, "mean", "(IZ)J"⟩
abbrev cX12_aShake : ByteArray := prog_13_method_144_code
def yX12_aShake : MethodName := ⟨RX12, "aShake", "()V"⟩
abbrev cX12_refusesSeed : ByteArray := prog_13_method_145_code
def yX12_refusesSeed : MethodName := ⟨RX12, "refusesSeed", "(ZII)I"⟩
abbrev cX12_shaken : ByteArray := prog_13_method_146_code
def yX12_shaken : MethodName := ⟨RX12, "shaken", "(III)I"⟩
abbrev cX12_peaceIn : ByteArray := prog_13_method_147_code
def yX12_peaceIn : MethodName := ⟨RX12, "peaceIn", "(II)I"⟩
abbrev cX12_remembers : ByteArray := prog_13_method_148_code
def yX12_remembers : MethodName := ⟨RX12, "remembers", "()V"⟩
abbrev cX12_slidesAll : ByteArray := prog_13_method_149_code
def yX12_slidesAll : MethodName := ⟨RX12, "slidesAll", "()I"⟩
abbrev cX12_layTurn : ByteArray := prog_13_method_150_code
def yX12_layTurn : MethodName := ⟨RX12, "layTurn", "(I)V"⟩
abbrev cX12_turn : ByteArray := prog_13_method_151_code
def yX12_turn : MethodName := ⟨RX12, "turn", "(I)I"⟩
abbrev cX12_turnBack : ByteArray := prog_13_method_152_code
def yX12_turnBack : MethodName := ⟨RX12, "turnBack", "(I)I"⟩
abbrev cX12_move : ByteArray := prog_13_method_153_code
def yX12_move : MethodName := ⟨RX12, "move", "(II)I"⟩
abbrev cX12_undo : ByteArray := prog_13_method_154_code
def yX12_undo : MethodName := ⟨RX12, "undo", "()Z"⟩
abbrev cX12_keep : ByteArray := prog_13_method_155_code
def yX12_keep : MethodName := ⟨RX12, "keep", "()I"⟩
abbrev cX12_back : ByteArray := prog_13_method_156_code
def yX12_back : MethodName := ⟨RX12, "back", "(I)Z"⟩
abbrev cX12_led : ByteArray := prog_13_method_157_code
def yX12_led : MethodName := ⟨RX12, "led", "(I)I"⟩
abbrev cX12_size : ByteArray := prog_13_method_158_code
def yX12_size : MethodName := ⟨RX12, "size", "(I)I"⟩
abbrev cX12_trouble : ByteArray := prog_13_method_159_code
def yX12_trouble : MethodName := ⟨RX12, "trouble", "()I"⟩
abbrev cJ6_bitCount_0f7a4 : ByteArray := prog_19_method_49_code
def yJ6_bitCount_0f7a4 : MethodName := ⟨RJ6, "bitCount", "(I)I"⟩
abbrev cX5_changeFor : ByteArray := prog_7_method_4_code
def yX5_changeFor : MethodName := ⟨RX5, "changeFor", "(LStreetTube$Told;)LStreetTube$Told;"⟩
abbrev cX9_addPerson : ByteArray := prog_11_method_3_code
def yX9_addPerson : MethodName := ⟨RX9, "addPerson", "(II)V"⟩
abbrev cX9_addTurn : ByteArray := prog_11_method_4_code
def yX9_addTurn : MethodName := ⟨RX9, "addTurn", "(I)V"⟩
abbrev cX9_addUnsure : ByteArray := prog_11_method_5_code
def yX9_addUnsure : MethodName := ⟨RX9, "addUnsure", "(II)V"⟩
abbrev cJ9_abs_0f7a4 : ByteArray := prog_20_method_59_code
def yJ9_abs_0f7a4 : MethodName := ⟨RJ9, "abs", "(I)I"⟩
abbrev cJ9_max_7cf53 : ByteArray := prog_20_method_65_code
def yJ9_max_7cf53 : MethodName := ⟨RJ9, "max", "(II)I"⟩
abbrev cJ9_min_7cf53 : ByteArray := prog_20_method_69_code
def yJ9_min_7cf53 : MethodName := ⟨RJ9, "min", "(II)I"⟩
abbrev cL_law : ByteArray := code
def yL_law : MethodName := ⟨RL, "law", "([I)Z"⟩
def TX3 : u_T := fun k => match k with
  | 0 => ("StreetTube$PairList", "one", "[I", true)
  | 1 => ("StreetTube$PairList", "other", "[I", true)
  | 2 => ("StreetTube$PairList", "beside", "[Z", true)
  | _ => ("StreetTube$PairList", "count", "I", false)
def tyX3 : Nat → FieldType := fun k => match k with
  | 0 => .array .int
  | 1 => .array .int
  | 2 => .array .boolean
  | _ => .int
theorem nmX3 : ∀ a, a < 4 → ∀ b, b < 4 → a ≠ b → (TX3 a).2.1 ≠ (TX3 b).2.1 := by decide +kernel
theorem tyX3_ok : ∀ k, k < 4 → parseFieldDescriptor (TX3 k).2.2.1 = some (tyX3 k) := by decide +kernel
def TX4 : u_T := fun k => match k with
  | 0 => ("StreetTube$Reach", "known", "Z", false)
  | 1 => ("StreetTube$Reach", "slots", "I", false)
  | 2 => ("StreetTube$Reach", "count", "I", false)
  | 3 => ("StreetTube$Reach", "change", "[I", true)
  | 4 => ("StreetTube$Reach", "depth", "[I", true)
  | 5 => ("StreetTube$Reach", "from", "[I", true)
  | 6 => ("StreetTube$Reach", "by", "[I", true)
  | 7 => ("StreetTube$Reach", "indexOfRank", "[I", true)
  | _ => ("StreetTube$Reach", "withCycles", "[I", true)
def tyX4 : Nat → FieldType := fun k => match k with
  | 0 => .boolean
  | 1 => .int
  | 2 => .int
  | 3 => .array .int
  | 4 => .array .int
  | 5 => .array .int
  | 6 => .array .int
  | 7 => .array .int
  | _ => .array .int
theorem nmX4 : ∀ a, a < 9 → ∀ b, b < 9 → a ≠ b → (TX4 a).2.1 ≠ (TX4 b).2.1 := by decide +kernel
theorem tyX4_ok : ∀ k, k < 9 → parseFieldDescriptor (TX4 k).2.2.1 = some (tyX4 k) := by decide +kernel
def TX5 : u_T := fun k => match k with
  | 0 => ("StreetTube$Reader", "lineWords", "[J", true)
  | 1 => ("StreetTube$Reader", "text", "[B", true)
  | 2 => ("StreetTube$Reader", "taped", "I", false)
  | 3 => ("StreetTube$Reader", "end", "I", false)
  | 4 => ("StreetTube$Reader", "at", "I", false)
  | 5 => ("StreetTube$Reader", "kind", "I", false)
  | 6 => ("StreetTube$Reader", "start", "I", false)
  | 7 => ("StreetTube$Reader", "value", "J", false)
  | 8 => ("StreetTube$Reader", "names", "[J", true)
  | 9 => ("StreetTube$Reader", "named", "[I", true)
  | 10 => ("StreetTube$Reader", "nameCount", "I", false)
  | 11 => ("StreetTube$Reader", "told", "LStreetTube$Told;", false)
  | 12 => ("StreetTube$Reader", "fault", "I", false)
  | _ => ("StreetTube$Reader", "place", "I", false)
def tyX5 : Nat → FieldType := fun k => match k with
  | 0 => .array .long
  | 1 => .array .byte
  | 2 => .int
  | 3 => .int
  | 4 => .int
  | 5 => .int
  | 6 => .int
  | 7 => .long
  | 8 => .array .long
  | 9 => .array .int
  | 10 => .int
  | 11 => .object "StreetTube$Told"
  | 12 => .int
  | _ => .int
theorem nmX5 : ∀ a, a < 14 → ∀ b, b < 14 → a ≠ b → (TX5 a).2.1 ≠ (TX5 b).2.1 := by decide +kernel
theorem tyX5_ok : ∀ k, k < 14 → parseFieldDescriptor (TX5 k).2.2.1 = some (tyX5 k) := by decide +kernel
def TX6 : u_T := fun k => match k with
  | 0 => ("StreetTube$Shaker", "weight", "[J", true)
  | 1 => ("StreetTube$Shaker", "next", "[J", true)
  | 2 => ("StreetTube$Shaker", "slots", "I", false)
  | _ => ("StreetTube$Shaker", "seed", "I", false)
def tyX6 : Nat → FieldType := fun k => match k with
  | 0 => .array .long
  | 1 => .array .long
  | 2 => .int
  | _ => .int
theorem nmX6 : ∀ a, a < 4 → ∀ b, b < 4 → a ≠ b → (TX6 a).2.1 ≠ (TX6 b).2.1 := by decide +kernel
theorem tyX6_ok : ∀ k, k < 4 → parseFieldDescriptor (TX6 k).2.2.1 = some (tyX6 k) := by decide +kernel
def TX8 : u_T := fun k => match k with
  | 0 => ("StreetTube$Street", "stand", "I", false)
  | 1 => ("StreetTube$Street", "before", "[I", true)
  | 2 => ("StreetTube$Street", "acts", "I", false)
  | 3 => ("StreetTube$Street", "kept", "[I", true)
  | _ => ("StreetTube$Street", "images", "I", false)
def tyX8 : Nat → FieldType := fun k => match k with
  | 0 => .int
  | 1 => .array .int
  | 2 => .int
  | 3 => .array .int
  | _ => .int
theorem nmX8 : ∀ a, a < 5 → ∀ b, b < 5 → a ≠ b → (TX8 a).2.1 ≠ (TX8 b).2.1 := by decide +kernel
theorem tyX8_ok : ∀ k, k < 5 → parseFieldDescriptor (TX8 k).2.2.1 = some (tyX8 k) := by decide +kernel
def TX9 : u_T := fun k => match k with
  | 0 => ("StreetTube$Told", "mirrors", "I", false)
  | 1 => ("StreetTube$Told", "slots", "I", false)
  | 2 => ("StreetTube$Told", "shakes", "I", false)
  | 3 => ("StreetTube$Told", "people", "I", false)
  | 4 => ("StreetTube$Told", "turns", "I", false)
  | 5 => ("StreetTube$Told", "unsure", "I", false)
  | 6 => ("StreetTube$Told", "colour", "[I", true)
  | 7 => ("StreetTube$Told", "home", "[I", true)
  | 8 => ("StreetTube$Told", "turn", "[I", true)
  | 9 => ("StreetTube$Told", "unsureWho", "[I", true)
  | 10 => ("StreetTube$Told", "unsureSlot", "[I", true)
  | 11 => ("StreetTube$Told", "quarrels", "LStreetTube$PairList;", true)
  | 12 => ("StreetTube$Told", "wishes", "LStreetTube$PairList;", true)
  | _ => ("StreetTube$Told", "seen", "LStreetTube$PairList;", true)
def tyX9 : Nat → FieldType := fun k => match k with
  | 0 => .int
  | 1 => .int
  | 2 => .int
  | 3 => .int
  | 4 => .int
  | 5 => .int
  | 6 => .array .int
  | 7 => .array .int
  | 8 => .array .int
  | 9 => .array .int
  | 10 => .array .int
  | 11 => .object "StreetTube$PairList"
  | 12 => .object "StreetTube$PairList"
  | _ => .object "StreetTube$PairList"
theorem nmX9 : ∀ a, a < 14 → ∀ b, b < 14 → a ≠ b → (TX9 a).2.1 ≠ (TX9 b).2.1 := by decide +kernel
theorem tyX9_ok : ∀ k, k < 14 → parseFieldDescriptor (TX9 k).2.2.1 = some (tyX9 k) := by decide +kernel
def TX10 : u_T := fun k => match k with
  | 0 => ("StreetTube", "told", "LStreetTube$Told;", false)
  | 1 => ("StreetTube", "reader", "LStreetTube$Reader;", true)
  | 2 => ("StreetTube", "street", "LStreetTube$Street;", true)
  | 3 => ("StreetTube", "turnReach", "LStreetTube$Reach;", true)
  | 4 => ("StreetTube", "mirrorReach", "LStreetTube$Reach;", true)
  | 5 => ("StreetTube", "shaker", "LStreetTube$Shaker;", true)
  | _ => ("StreetTube", "latestTrouble", "I", false)
def tyX10 : Nat → FieldType := fun k => match k with
  | 0 => .object "StreetTube$Told"
  | 1 => .object "StreetTube$Reader"
  | 2 => .object "StreetTube$Street"
  | 3 => .object "StreetTube$Reach"
  | 4 => .object "StreetTube$Reach"
  | 5 => .object "StreetTube$Shaker"
  | _ => .int
theorem nmX10 : ∀ a, a < 7 → ∀ b, b < 7 → a ≠ b → (TX10 a).2.1 ≠ (TX10 b).2.1 := by decide +kernel
theorem tyX10_ok : ∀ k, k < 7 → parseFieldDescriptor (TX10 k).2.2.1 = some (tyX10 k) := by decide +kernel
def TX11 : u_T := fun k => match k with
  | 0 => ("StreetTubeModel$Tube", "mirrors", "I", false)
  | 1 => ("StreetTubeModel$Tube", "slots", "I", false)
  | 2 => ("StreetTubeModel$Tube", "shakes", "I", false)
  | 3 => ("StreetTubeModel$Tube", "people", "I", false)
  | 4 => ("StreetTubeModel$Tube", "turns", "I", false)
  | 5 => ("StreetTubeModel$Tube", "quarrels", "I", false)
  | 6 => ("StreetTubeModel$Tube", "wishes", "I", false)
  | 7 => ("StreetTubeModel$Tube", "unsures", "I", false)
  | 8 => ("StreetTubeModel$Tube", "seens", "I", false)
  | 9 => ("StreetTubeModel$Tube", "names", "I", false)
  | 10 => ("StreetTubeModel$Tube", "colour", "[I", true)
  | 11 => ("StreetTubeModel$Tube", "at", "[I", true)
  | 12 => ("StreetTubeModel$Tube", "foes", "[I", true)
  | 13 => ("StreetTubeModel$Tube", "into", "[I", true)
  | 14 => ("StreetTubeModel$Tube", "wishOne", "[I", true)
  | 15 => ("StreetTubeModel$Tube", "wishTwo", "[I", true)
  | 16 => ("StreetTubeModel$Tube", "shuns", "I", false)
  | 17 => ("StreetTubeModel$Tube", "beside", "I", false)
  | 18 => ("StreetTubeModel$Tube", "unsure", "[I", true)
  | 19 => ("StreetTubeModel$Tube", "other", "[I", true)
  | 20 => ("StreetTubeModel$Tube", "seenOne", "[I", true)
  | 21 => ("StreetTubeModel$Tube", "seenTwo", "[I", true)
  | 22 => ("StreetTubeModel$Tube", "name", "[J", true)
  | 23 => ("StreetTubeModel$Tube", "nameSort", "[I", true)
  | _ => ("StreetTubeModel$Tube", "numberOf", "[I", true)
def tyX11 : Nat → FieldType := fun k => match k with
  | 0 => .int
  | 1 => .int
  | 2 => .int
  | 3 => .int
  | 4 => .int
  | 5 => .int
  | 6 => .int
  | 7 => .int
  | 8 => .int
  | 9 => .int
  | 10 => .array .int
  | 11 => .array .int
  | 12 => .array .int
  | 13 => .array .int
  | 14 => .array .int
  | 15 => .array .int
  | 16 => .int
  | 17 => .int
  | 18 => .array .int
  | 19 => .array .int
  | 20 => .array .int
  | 21 => .array .int
  | 22 => .array .long
  | 23 => .array .int
  | _ => .array .int
theorem nmX11 : ∀ a, a < 25 → ∀ b, b < 25 → a ≠ b → (TX11 a).2.1 ≠ (TX11 b).2.1 := by decide +kernel
theorem tyX11_ok : ∀ k, k < 25 → parseFieldDescriptor (TX11 k).2.2.1 = some (tyX11 k) := by decide +kernel
def TX12 : u_T := fun k => match k with
  | 0 => ("StreetTubeModel", "thrown", "I", false)
  | 1 => ("StreetTubeModel", "trouble", "I", false)
  | 2 => ("StreetTubeModel", "where", "I", false)
  | 3 => ("StreetTubeModel", "tube", "LStreetTubeModel$Tube;", false)
  | 4 => ("StreetTubeModel", "read", "LStreetTubeModel$Tube;", false)
  | 5 => ("StreetTubeModel", "tape", "[B", true)
  | 6 => ("StreetTubeModel", "taped", "I", false)
  | 7 => ("StreetTubeModel", "size", "I", false)
  | 8 => ("StreetTubeModel", "spot", "I", false)
  | 9 => ("StreetTubeModel", "sort", "I", false)
  | 10 => ("StreetTubeModel", "place", "I", false)
  | 11 => ("StreetTubeModel", "number", "I", false)
  | 12 => ("StreetTubeModel", "fault", "I", false)
  | 13 => ("StreetTubeModel", "wrongAt", "I", false)
  | 14 => ("StreetTubeModel", "word", "J", false)
  | 15 => ("StreetTubeModel", "secondOne", "I", false)
  | 16 => ("StreetTubeModel", "v", "[I", true)
  | 17 => ("StreetTubeModel", "x", "[I", true)
  | 18 => ("StreetTubeModel", "past", "[I", true)
  | 19 => ("StreetTubeModel", "kept", "[I", true)
  | 20 => ("StreetTubeModel", "acts", "I", false)
  | 21 => ("StreetTubeModel", "images", "I", false)
  | 22 => ("StreetTubeModel", "way", "[I", true)
  | 23 => ("StreetTubeModel", "at", "[I", true)
  | 24 => ("StreetTubeModel", "far", "[I", true)
  | 25 => ("StreetTubeModel", "from", "[I", true)
  | 26 => ("StreetTubeModel", "by", "[I", true)
  | 27 => ("StreetTubeModel", "one", "[I", true)
  | 28 => ("StreetTubeModel", "ways", "I", false)
  | 29 => ("StreetTubeModel", "two", "[I", true)
  | 30 => ("StreetTubeModel", "fitsNow", "I", false)
  | 31 => ("StreetTubeModel", "someNow", "I", false)
  | 32 => ("StreetTubeModel", "everyNow", "I", false)
  | 33 => ("StreetTubeModel", "otherIn", "[I", true)
  | 34 => ("StreetTubeModel", "askLeft", "I", false)
  | 35 => ("StreetTubeModel", "ended", "[I", true)
  | 36 => ("StreetTubeModel", "parts", "[J", true)
  | 37 => ("StreetTubeModel", "partsThen", "[J", true)
  | 38 => ("StreetTubeModel", "whole", "J", false)
  | _ => ("StreetTubeModel", "seedThen", "I", false)
def tyX12 : Nat → FieldType := fun k => match k with
  | 0 => .int
  | 1 => .int
  | 2 => .int
  | 3 => .object "StreetTubeModel$Tube"
  | 4 => .object "StreetTubeModel$Tube"
  | 5 => .array .byte
  | 6 => .int
  | 7 => .int
  | 8 => .int
  | 9 => .int
  | 10 => .int
  | 11 => .int
  | 12 => .int
  | 13 => .int
  | 14 => .long
  | 15 => .int
  | 16 => .array .int
  | 17 => .array .int
  | 18 => .array .int
  | 19 => .array .int
  | 20 => .int
  | 21 => .int
  | 22 => .array .int
  | 23 => .array .int
  | 24 => .array .int
  | 25 => .array .int
  | 26 => .array .int
  | 27 => .array .int
  | 28 => .int
  | 29 => .array .int
  | 30 => .int
  | 31 => .int
  | 32 => .int
  | 33 => .array .int
  | 34 => .int
  | 35 => .array .int
  | 36 => .array .long
  | 37 => .array .long
  | 38 => .long
  | _ => .int
theorem nmX12 : ∀ a, a < 40 → ∀ b, b < 40 → a ≠ b → (TX12 a).2.1 ≠ (TX12 b).2.1 := by decide +kernel
theorem tyX12_ok : ∀ k, k < 40 → parseFieldDescriptor (TX12 k).2.2.1 = some (tyX12 k) := by decide +kernel
abbrev vwCl : List vw_C := [(RX3, TX3, 4), (RX4, TX4, 9), (RX5, TX5, 14), (RX6, TX6, 4), (RX8, TX8, 5), (RX9, TX9, 14), (RX10, TX10, 7), (RX11, TX11, 25), (RX12, TX12, 40)]
