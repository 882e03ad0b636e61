section
-- ===== PART A: goes FIRST, ahead of the names: the tables' words, and 'selects' of the private methods out of them =====
/-- a private method of a class that the tables say can be made, by its rows of tables_1 -/
def lw_okq (q : MethodName × Nat) : Prop := (q.1.cls ≠ "java/lang/invoke/MethodHandle" ∧ q.1.cls ≠ "java/lang/invoke/VarHandle") ∧ Cond.instantiable q.1.cls q.2 ∈ tables_1 ∧ Cond.privateMethod q.1 ∈ tables_1 ∧ Cond.instanceMethod q.1 ∈ tables_1
theorem lw_p0 : lw_okq (⟨"LastThree$Plan", "noteThing", "(I)Z"⟩, 15) := ⟨⟨by decide +kernel, by decide +kernel⟩, List.mem_of_getElem? (i := 38) (by decide +kernel), List.mem_of_getElem? (i := 278) (by decide +kernel), List.mem_of_getElem? (i := 279) (by decide +kernel)⟩
theorem lw_p1 : lw_okq (⟨"LastThree$Reader", "readNumbers", "([BII)I"⟩, 2) := ⟨⟨by decide +kernel, by decide +kernel⟩, List.mem_of_getElem? (i := 23) (by decide +kernel), List.mem_of_getElem? (i := 356) (by decide +kernel), List.mem_of_getElem? (i := 357) (by decide +kernel)⟩
theorem lw_p2 : lw_okq (⟨"LastThree$Reader", "tell", "(LLastThree$Plan;I)Z"⟩, 2) := ⟨⟨by decide +kernel, by decide +kernel⟩, List.mem_of_getElem? (i := 23) (by decide +kernel), List.mem_of_getElem? (i := 360) (by decide +kernel), List.mem_of_getElem? (i := 361) (by decide +kernel)⟩
theorem lw_p3 : lw_okq (⟨"LastThree$Plan", "noteSign", "(I)Z"⟩, 15) := ⟨⟨by decide +kernel, by decide +kernel⟩, List.mem_of_getElem? (i := 38) (by decide +kernel), List.mem_of_getElem? (i := 381) (by decide +kernel), List.mem_of_getElem? (i := 382) (by decide +kernel)⟩
theorem lw_p4 : lw_okq (⟨"LastThree", "isThing", "(I)Z"⟩, 13) := ⟨⟨by decide +kernel, by decide +kernel⟩, List.mem_of_getElem? (i := 15) (by decide +kernel), List.mem_of_getElem? (i := 413) (by decide +kernel), List.mem_of_getElem? (i := 414) (by decide +kernel)⟩
theorem lw_p5 : lw_okq (⟨"LastThree", "isSign", "(I)Z"⟩, 13) := ⟨⟨by decide +kernel, by decide +kernel⟩, List.mem_of_getElem? (i := 15) (by decide +kernel), List.mem_of_getElem? (i := 417) (by decide +kernel), List.mem_of_getElem? (i := 418) (by decide +kernel)⟩
theorem lw_p6 : lw_okq (⟨"LastThree", "isQueued", "(I)Z"⟩, 13) := ⟨⟨by decide +kernel, by decide +kernel⟩, List.mem_of_getElem? (i := 15) (by decide +kernel), List.mem_of_getElem? (i := 429) (by decide +kernel), List.mem_of_getElem? (i := 430) (by decide +kernel)⟩
theorem lw_p7 : lw_okq (⟨"LastThree$Rail", "startRow", "(LLastThree$Plan;)V"⟩, 3) := ⟨⟨by decide +kernel, by decide +kernel⟩, List.mem_of_getElem? (i := 150) (by decide +kernel), List.mem_of_getElem? (i := 437) (by decide +kernel), List.mem_of_getElem? (i := 438) (by decide +kernel)⟩
theorem lw_p8 : lw_okq (⟨"LastThree", "isSet", "(I)Z"⟩, 13) := ⟨⟨by decide +kernel, by decide +kernel⟩, List.mem_of_getElem? (i := 15) (by decide +kernel), List.mem_of_getElem? (i := 463) (by decide +kernel), List.mem_of_getElem? (i := 464) (by decide +kernel)⟩
theorem lw_p9 : lw_okq (⟨"LastThree$OrderFinder", "findAlike", "(LLastThree$Plan;)V"⟩, 5) := ⟨⟨by decide +kernel, by decide +kernel⟩, List.mem_of_getElem? (i := 168) (by decide +kernel), List.mem_of_getElem? (i := 476) (by decide +kernel), List.mem_of_getElem? (i := 477) (by decide +kernel)⟩
theorem lw_p10 : lw_okq (⟨"LastThree$OrderFinder", "mostLeft", "(LLastThree$Plan;III)I"⟩, 5) := ⟨⟨by decide +kernel, by decide +kernel⟩, List.mem_of_getElem? (i := 168) (by decide +kernel), List.mem_of_getElem? (i := 492) (by decide +kernel), List.mem_of_getElem? (i := 493) (by decide +kernel)⟩
theorem lw_p11 : lw_okq (⟨"LastThree$OrderFinder", "mayCome", "(LLastThree$Plan;II)Z"⟩, 5) := ⟨⟨by decide +kernel, by decide +kernel⟩, List.mem_of_getElem? (i := 168) (by decide +kernel), List.mem_of_getElem? (i := 496) (by decide +kernel), List.mem_of_getElem? (i := 497) (by decide +kernel)⟩
theorem lw_p12 : lw_okq (⟨"LastThree$OrderFinder", "mostIfComes", "(LLastThree$Plan;IIII)I"⟩, 5) := ⟨⟨by decide +kernel, by decide +kernel⟩, List.mem_of_getElem? (i := 168) (by decide +kernel), List.mem_of_getElem? (i := 500) (by decide +kernel), List.mem_of_getElem? (i := 501) (by decide +kernel)⟩
theorem lw_p13 : lw_okq (⟨"LastThree$OrderFinder", "pairBehind", "(LLastThree$Plan;II)I"⟩, 5) := ⟨⟨by decide +kernel, by decide +kernel⟩, List.mem_of_getElem? (i := 168) (by decide +kernel), List.mem_of_getElem? (i := 514) (by decide +kernel), List.mem_of_getElem? (i := 515) (by decide +kernel)⟩
theorem lw_p14 : lw_okq (⟨"LastThree$OrderFinder", "followMost", "(LLastThree$Plan;)V"⟩, 5) := ⟨⟨by decide +kernel, by decide +kernel⟩, List.mem_of_getElem? (i := 168) (by decide +kernel), List.mem_of_getElem? (i := 519) (by decide +kernel), List.mem_of_getElem? (i := 520) (by decide +kernel)⟩
theorem lw_p15 : lw_okq (⟨"LastThree$OrderFinder", "firstOfMost", "(LLastThree$Plan;III)I"⟩, 5) := ⟨⟨by decide +kernel, by decide +kernel⟩, List.mem_of_getElem? (i := 168) (by decide +kernel), List.mem_of_getElem? (i := 523) (by decide +kernel), List.mem_of_getElem? (i := 524) (by decide +kernel)⟩
def lw_privs_1 : List (MethodName × Nat) := [(⟨"LastThree$Plan", "noteThing", "(I)Z"⟩, 15), (⟨"LastThree$Reader", "readNumbers", "([BII)I"⟩, 2), (⟨"LastThree$Reader", "tell", "(LLastThree$Plan;I)Z"⟩, 2), (⟨"LastThree$Plan", "noteSign", "(I)Z"⟩, 15), (⟨"LastThree", "isThing", "(I)Z"⟩, 13), (⟨"LastThree", "isSign", "(I)Z"⟩, 13), (⟨"LastThree", "isQueued", "(I)Z"⟩, 13), (⟨"LastThree$Rail", "startRow", "(LLastThree$Plan;)V"⟩, 3), (⟨"LastThree", "isSet", "(I)Z"⟩, 13), (⟨"LastThree$OrderFinder", "findAlike", "(LLastThree$Plan;)V"⟩, 5), (⟨"LastThree$OrderFinder", "mostLeft", "(LLastThree$Plan;III)I"⟩, 5), (⟨"LastThree$OrderFinder", "mayCome", "(LLastThree$Plan;II)Z"⟩, 5), (⟨"LastThree$OrderFinder", "mostIfComes", "(LLastThree$Plan;IIII)I"⟩, 5), (⟨"LastThree$OrderFinder", "pairBehind", "(LLastThree$Plan;II)I"⟩, 5), (⟨"LastThree$OrderFinder", "followMost", "(LLastThree$Plan;)V"⟩, 5), (⟨"LastThree$OrderFinder", "firstOfMost", "(LLastThree$Plan;III)I"⟩, 5)]
theorem lw_r1 : ∀ q ∈ lw_privs_1, lw_okq q := List.forall_mem_cons.mpr ⟨lw_p0, List.forall_mem_cons.mpr ⟨lw_p1, List.forall_mem_cons.mpr ⟨lw_p2, List.forall_mem_cons.mpr ⟨lw_p3, List.forall_mem_cons.mpr ⟨lw_p4, List.forall_mem_cons.mpr ⟨lw_p5, List.forall_mem_cons.mpr ⟨lw_p6, List.forall_mem_cons.mpr ⟨lw_p7, List.forall_mem_cons.mpr ⟨lw_p8, List.forall_mem_cons.mpr ⟨lw_p9, List.forall_mem_cons.mpr ⟨lw_p10, List.forall_mem_cons.mpr ⟨lw_p11, List.forall_mem_cons.mpr ⟨lw_p12, List.forall_mem_cons.mpr ⟨lw_p13, List.forall_mem_cons.mpr ⟨lw_p14, List.forall_mem_cons.mpr ⟨lw_p15, fun _ h => absurd h List.not_mem_nil⟩⟩⟩⟩⟩⟩⟩⟩⟩⟩⟩⟩⟩⟩⟩⟩
theorem lw_p16 : lw_okq (⟨"LastThree$StrangerFinder", "findFewest", "(LLastThree$Plan;I)V"⟩, 6) := ⟨⟨by decide +kernel, by decide +kernel⟩, List.mem_of_getElem? (i := 192) (by decide +kernel), List.mem_of_getElem? (i := 536) (by decide +kernel), List.mem_of_getElem? (i := 537) (by decide +kernel)⟩
theorem lw_p17 : lw_okq (⟨"LastThree$StrangerFinder", "costAtOnce", "(LLastThree$Plan;II)I"⟩, 6) := ⟨⟨by decide +kernel, by decide +kernel⟩, List.mem_of_getElem? (i := 192) (by decide +kernel), List.mem_of_getElem? (i := 540) (by decide +kernel), List.mem_of_getElem? (i := 541) (by decide +kernel)⟩
theorem lw_p18 : lw_okq (⟨"LastThree$StrangerFinder", "follow", "(LLastThree$Plan;)V"⟩, 6) := ⟨⟨by decide +kernel, by decide +kernel⟩, List.mem_of_getElem? (i := 192) (by decide +kernel), List.mem_of_getElem? (i := 548) (by decide +kernel), List.mem_of_getElem? (i := 549) (by decide +kernel)⟩
theorem lw_p19 : lw_okq (⟨"LastThree$StrangerFinder", "firstStranger", "(LLastThree$Plan;II)I"⟩, 6) := ⟨⟨by decide +kernel, by decide +kernel⟩, List.mem_of_getElem? (i := 192) (by decide +kernel), List.mem_of_getElem? (i := 552) (by decide +kernel), List.mem_of_getElem? (i := 553) (by decide +kernel)⟩
theorem lw_p20 : lw_okq (⟨"LastThree$Rail", "bestAsk", "(LLastThree$Plan;II)I"⟩, 3) := ⟨⟨by decide +kernel, by decide +kernel⟩, List.mem_of_getElem? (i := 150) (by decide +kernel), List.mem_of_getElem? (i := 572) (by decide +kernel), List.mem_of_getElem? (i := 573) (by decide +kernel)⟩
theorem lw_p21 : lw_okq (⟨"LastThree$Rail", "worthOfAsk", "(LLastThree$Plan;III)I"⟩, 3) := ⟨⟨by decide +kernel, by decide +kernel⟩, List.mem_of_getElem? (i := 150) (by decide +kernel), List.mem_of_getElem? (i := 576) (by decide +kernel), List.mem_of_getElem? (i := 577) (by decide +kernel)⟩
theorem lw_p22 : lw_okq (⟨"LastThree$Rail", "swapFirstTwo", "(LLastThree$Plan;)Z"⟩, 3) := ⟨⟨by decide +kernel, by decide +kernel⟩, List.mem_of_getElem? (i := 150) (by decide +kernel), List.mem_of_getElem? (i := 593) (by decide +kernel), List.mem_of_getElem? (i := 594) (by decide +kernel)⟩
theorem lw_p23 : lw_okq (⟨"LastThree$Rail", "gains", "(LLastThree$Plan;II)Z"⟩, 3) := ⟨⟨by decide +kernel, by decide +kernel⟩, List.mem_of_getElem? (i := 150) (by decide +kernel), List.mem_of_getElem? (i := 597) (by decide +kernel), List.mem_of_getElem? (i := 598) (by decide +kernel)⟩
theorem lw_p24 : lw_okq (⟨"LastThree$RowFinder", "sumUp", "(LLastThree$Plan;LLastThree$Standing;II)J"⟩, 4) := ⟨⟨by decide +kernel, by decide +kernel⟩, List.mem_of_getElem? (i := 220) (by decide +kernel), List.mem_of_getElem? (i := 619) (by decide +kernel), List.mem_of_getElem? (i := 620) (by decide +kernel)⟩
theorem lw_p25 : lw_okq (⟨"LastThree$RowFinder", "sumOver", "(LLastThree$Plan;III)V"⟩, 4) := ⟨⟨by decide +kernel, by decide +kernel⟩, List.mem_of_getElem? (i := 220) (by decide +kernel), List.mem_of_getElem? (i := 627) (by decide +kernel), List.mem_of_getElem? (i := 628) (by decide +kernel)⟩
theorem lw_p26 : lw_okq (⟨"LastThree", "isGift", "(I)Z"⟩, 13) := ⟨⟨by decide +kernel, by decide +kernel⟩, List.mem_of_getElem? (i := 15) (by decide +kernel), List.mem_of_getElem? (i := 644) (by decide +kernel), List.mem_of_getElem? (i := 645) (by decide +kernel)⟩
theorem lw_p27 : lw_okq (⟨"LastThree$RowFinder", "greatestFrom", "(LLastThree$Plan;III)J"⟩, 4) := ⟨⟨by decide +kernel, by decide +kernel⟩, List.mem_of_getElem? (i := 220) (by decide +kernel), List.mem_of_getElem? (i := 661) (by decide +kernel), List.mem_of_getElem? (i := 662) (by decide +kernel)⟩
theorem lw_p28 : lw_okq (⟨"LastThree$RowFinder", "weightFrom", "(LLastThree$Plan;IIII)J"⟩, 4) := ⟨⟨by decide +kernel, by decide +kernel⟩, List.mem_of_getElem? (i := 220) (by decide +kernel), List.mem_of_getElem? (i := 665) (by decide +kernel), List.mem_of_getElem? (i := 666) (by decide +kernel)⟩
theorem lw_p29 : lw_okq (⟨"LastThree$RowFinder", "firstOfGreatest", "(LLastThree$Plan;III)I"⟩, 4) := ⟨⟨by decide +kernel, by decide +kernel⟩, List.mem_of_getElem? (i := 220) (by decide +kernel), List.mem_of_getElem? (i := 672) (by decide +kernel), List.mem_of_getElem? (i := 673) (by decide +kernel)⟩
theorem lw_p30 : lw_okq (⟨"LastThree$Net", "numberOf", "(LLastThree$Plan;LLastThree$Standing;)J"⟩, 5) := ⟨⟨by decide +kernel, by decide +kernel⟩, List.mem_of_getElem? (i := 241) (by decide +kernel), List.mem_of_getElem? (i := 701) (by decide +kernel), List.mem_of_getElem? (i := 702) (by decide +kernel)⟩
theorem lw_p31 : lw_okq (⟨"LastThree$Net", "asksAhead", "(LLastThree$Plan;LLastThree$Standing;I)J"⟩, 5) := ⟨⟨by decide +kernel, by decide +kernel⟩, List.mem_of_getElem? (i := 241) (by decide +kernel), List.mem_of_getElem? (i := 715) (by decide +kernel), List.mem_of_getElem? (i := 716) (by decide +kernel)⟩
def lw_privs_2 : List (MethodName × Nat) := [(⟨"LastThree$StrangerFinder", "findFewest", "(LLastThree$Plan;I)V"⟩, 6), (⟨"LastThree$StrangerFinder", "costAtOnce", "(LLastThree$Plan;II)I"⟩, 6), (⟨"LastThree$StrangerFinder", "follow", "(LLastThree$Plan;)V"⟩, 6), (⟨"LastThree$StrangerFinder", "firstStranger", "(LLastThree$Plan;II)I"⟩, 6), (⟨"LastThree$Rail", "bestAsk", "(LLastThree$Plan;II)I"⟩, 3), (⟨"LastThree$Rail", "worthOfAsk", "(LLastThree$Plan;III)I"⟩, 3), (⟨"LastThree$Rail", "swapFirstTwo", "(LLastThree$Plan;)Z"⟩, 3), (⟨"LastThree$Rail", "gains", "(LLastThree$Plan;II)Z"⟩, 3), (⟨"LastThree$RowFinder", "sumUp", "(LLastThree$Plan;LLastThree$Standing;II)J"⟩, 4), (⟨"LastThree$RowFinder", "sumOver", "(LLastThree$Plan;III)V"⟩, 4), (⟨"LastThree", "isGift", "(I)Z"⟩, 13), (⟨"LastThree$RowFinder", "greatestFrom", "(LLastThree$Plan;III)J"⟩, 4), (⟨"LastThree$RowFinder", "weightFrom", "(LLastThree$Plan;IIII)J"⟩, 4), (⟨"LastThree$RowFinder", "firstOfGreatest", "(LLastThree$Plan;III)I"⟩, 4), (⟨"LastThree$Net", "numberOf", "(LLastThree$Plan;LLastThree$Standing;)J"⟩, 5), (⟨"LastThree$Net", "asksAhead", "(LLastThree$Plan;LLastThree$Standing;I)J"⟩, 5)]
theorem lw_r2 : ∀ q ∈ lw_privs_2, lw_okq q := List.forall_mem_cons.mpr ⟨lw_p16, List.forall_mem_cons.mpr ⟨lw_p17, List.forall_mem_cons.mpr ⟨lw_p18, List.forall_mem_cons.mpr ⟨lw_p19, List.forall_mem_cons.mpr ⟨lw_p20, List.forall_mem_cons.mpr ⟨lw_p21, List.forall_mem_cons.mpr ⟨lw_p22, List.forall_mem_cons.mpr ⟨lw_p23, List.forall_mem_cons.mpr ⟨lw_p24, List.forall_mem_cons.mpr ⟨lw_p25, List.forall_mem_cons.mpr ⟨lw_p26, List.forall_mem_cons.mpr ⟨lw_p27, List.forall_mem_cons.mpr ⟨lw_p28, List.forall_mem_cons.mpr ⟨lw_p29, List.forall_mem_cons.mpr ⟨lw_p30, List.forall_mem_cons.mpr ⟨lw_p31, fun _ h => absurd h List.not_mem_nil⟩⟩⟩⟩⟩⟩⟩⟩⟩⟩⟩⟩⟩⟩⟩⟩
theorem lw_p32 : lw_okq (⟨"LastThree$Net", "giftsAhead", "(LLastThree$Plan;LLastThree$Standing;I)J"⟩, 5) := ⟨⟨by decide +kernel, by decide +kernel⟩, List.mem_of_getElem? (i := 241) (by decide +kernel), List.mem_of_getElem? (i := 719) (by decide +kernel), List.mem_of_getElem? (i := 720) (by decide +kernel)⟩
theorem lw_p33 : lw_okq (⟨"LastThreeModel", "noPost", "(I)V"⟩, 35) := ⟨⟨by decide +kernel, by decide +kernel⟩, List.mem_of_getElem? (i := 736) (by decide +kernel), List.mem_of_getElem? (i := 743) (by decide +kernel), List.mem_of_getElem? (i := 744) (by decide +kernel)⟩
theorem lw_p34 : lw_okq (⟨"LastThreeModel", "readAll", "()I"⟩, 35) := ⟨⟨by decide +kernel, by decide +kernel⟩, List.mem_of_getElem? (i := 736) (by decide +kernel), List.mem_of_getElem? (i := 870) (by decide +kernel), List.mem_of_getElem? (i := 871) (by decide +kernel)⟩
theorem lw_p35 : lw_okq (⟨"LastThreeModel", "item", "()Z"⟩, 35) := ⟨⟨by decide +kernel, by decide +kernel⟩, List.mem_of_getElem? (i := 736) (by decide +kernel), List.mem_of_getElem? (i := 874) (by decide +kernel), List.mem_of_getElem? (i := 875) (by decide +kernel)⟩
theorem lw_p36 : lw_okq (⟨"LastThreeModel", "byteAt", "(I)I"⟩, 35) := ⟨⟨by decide +kernel, by decide +kernel⟩, List.mem_of_getElem? (i := 736) (by decide +kernel), List.mem_of_getElem? (i := 878) (by decide +kernel), List.mem_of_getElem? (i := 879) (by decide +kernel)⟩
theorem lw_p37 : lw_okq (⟨"LastThreeModel", "figures", "(I)Z"⟩, 35) := ⟨⟨by decide +kernel, by decide +kernel⟩, List.mem_of_getElem? (i := 736) (by decide +kernel), List.mem_of_getElem? (i := 882) (by decide +kernel), List.mem_of_getElem? (i := 883) (by decide +kernel)⟩
theorem lw_p38 : lw_okq (⟨"LastThreeModel", "aheadItem", "()Z"⟩, 35) := ⟨⟨by decide +kernel, by decide +kernel⟩, List.mem_of_getElem? (i := 736) (by decide +kernel), List.mem_of_getElem? (i := 891) (by decide +kernel), List.mem_of_getElem? (i := 892) (by decide +kernel)⟩
theorem lw_p39 : lw_okq (⟨"LastThreeModel", "meet", "(I)V"⟩, 35) := ⟨⟨by decide +kernel, by decide +kernel⟩, List.mem_of_getElem? (i := 736) (by decide +kernel), List.mem_of_getElem? (i := 895) (by decide +kernel), List.mem_of_getElem? (i := 896) (by decide +kernel)⟩
theorem lw_p40 : lw_okq (⟨"LastThreeModel", "wishItem", "()Z"⟩, 35) := ⟨⟨by decide +kernel, by decide +kernel⟩, List.mem_of_getElem? (i := 736) (by decide +kernel), List.mem_of_getElem? (i := 899) (by decide +kernel), List.mem_of_getElem? (i := 900) (by decide +kernel)⟩
theorem lw_p41 : lw_okq (⟨"LastThreeModel", "worthItem", "()Z"⟩, 35) := ⟨⟨by decide +kernel, by decide +kernel⟩, List.mem_of_getElem? (i := 736) (by decide +kernel), List.mem_of_getElem? (i := 903) (by decide +kernel), List.mem_of_getElem? (i := 904) (by decide +kernel)⟩
theorem lw_p42 : lw_okq (⟨"LastThreeModel", "postItem", "()Z"⟩, 35) := ⟨⟨by decide +kernel, by decide +kernel⟩, List.mem_of_getElem? (i := 736) (by decide +kernel), List.mem_of_getElem? (i := 907) (by decide +kernel), List.mem_of_getElem? (i := 908) (by decide +kernel)⟩
theorem lw_p43 : lw_okq (⟨"LastThreeModel", "isThing", "(I)Z"⟩, 35) := ⟨⟨by decide +kernel, by decide +kernel⟩, List.mem_of_getElem? (i := 736) (by decide +kernel), List.mem_of_getElem? (i := 919) (by decide +kernel), List.mem_of_getElem? (i := 920) (by decide +kernel)⟩
theorem lw_p44 : lw_okq (⟨"LastThreeModel", "isGift", "(I)Z"⟩, 35) := ⟨⟨by decide +kernel, by decide +kernel⟩, List.mem_of_getElem? (i := 736) (by decide +kernel), List.mem_of_getElem? (i := 923) (by decide +kernel), List.mem_of_getElem? (i := 924) (by decide +kernel)⟩
theorem lw_p45 : lw_okq (⟨"LastThreeModel", "isWish", "(I)Z"⟩, 35) := ⟨⟨by decide +kernel, by decide +kernel⟩, List.mem_of_getElem? (i := 736) (by decide +kernel), List.mem_of_getElem? (i := 931) (by decide +kernel), List.mem_of_getElem? (i := 932) (by decide +kernel)⟩
theorem lw_p46 : lw_okq (⟨"LastThreeModel", "givenBy", "(II)I"⟩, 35) := ⟨⟨by decide +kernel, by decide +kernel⟩, List.mem_of_getElem? (i := 736) (by decide +kernel), List.mem_of_getElem? (i := 935) (by decide +kernel), List.mem_of_getElem? (i := 936) (by decide +kernel)⟩
theorem lw_p47 : lw_okq (⟨"LastThreeModel", "beginRow", "()V"⟩, 35) := ⟨⟨by decide +kernel, by decide +kernel⟩, List.mem_of_getElem? (i := 736) (by decide +kernel), List.mem_of_getElem? (i := 939) (by decide +kernel), List.mem_of_getElem? (i := 940) (by decide +kernel)⟩
def lw_privs_3 : List (MethodName × Nat) := [(⟨"LastThree$Net", "giftsAhead", "(LLastThree$Plan;LLastThree$Standing;I)J"⟩, 5), (⟨"LastThreeModel", "noPost", "(I)V"⟩, 35), (⟨"LastThreeModel", "readAll", "()I"⟩, 35), (⟨"LastThreeModel", "item", "()Z"⟩, 35), (⟨"LastThreeModel", "byteAt", "(I)I"⟩, 35), (⟨"LastThreeModel", "figures", "(I)Z"⟩, 35), (⟨"LastThreeModel", "aheadItem", "()Z"⟩, 35), (⟨"LastThreeModel", "meet", "(I)V"⟩, 35), (⟨"LastThreeModel", "wishItem", "()Z"⟩, 35), (⟨"LastThreeModel", "worthItem", "()Z"⟩, 35), (⟨"LastThreeModel", "postItem", "()Z"⟩, 35), (⟨"LastThreeModel", "isThing", "(I)Z"⟩, 35), (⟨"LastThreeModel", "isGift", "(I)Z"⟩, 35), (⟨"LastThreeModel", "isWish", "(I)Z"⟩, 35), (⟨"LastThreeModel", "givenBy", "(II)I"⟩, 35), (⟨"LastThreeModel", "beginRow", "()V"⟩, 35)]
theorem lw_r3 : ∀ q ∈ lw_privs_3, lw_okq q := List.forall_mem_cons.mpr ⟨lw_p32, List.forall_mem_cons.mpr ⟨lw_p33, List.forall_mem_cons.mpr ⟨lw_p34, List.forall_mem_cons.mpr ⟨lw_p35, List.forall_mem_cons.mpr ⟨lw_p36, List.forall_mem_cons.mpr ⟨lw_p37, List.forall_mem_cons.mpr ⟨lw_p38, List.forall_mem_cons.mpr ⟨lw_p39, List.forall_mem_cons.mpr ⟨lw_p40, List.forall_mem_cons.mpr ⟨lw_p41, List.forall_mem_cons.mpr ⟨lw_p42, List.forall_mem_cons.mpr ⟨lw_p43, List.forall_mem_cons.mpr ⟨lw_p44, List.forall_mem_cons.mpr ⟨lw_p45, List.forall_mem_cons.mpr ⟨lw_p46, List.forall_mem_cons.mpr ⟨lw_p47, fun _ h => absurd h List.not_mem_nil⟩⟩⟩⟩⟩⟩⟩⟩⟩⟩⟩⟩⟩⟩⟩⟩
theorem lw_p48 : lw_okq (⟨"LastThreeModel", "askNow", "(I)V"⟩, 35) := ⟨⟨by decide +kernel, by decide +kernel⟩, List.mem_of_getElem? (i := 736) (by decide +kernel), List.mem_of_getElem? (i := 943) (by decide +kernel), List.mem_of_getElem? (i := 944) (by decide +kernel)⟩
theorem lw_p49 : lw_okq (⟨"LastThreeModel", "gives", "(I)I"⟩, 35) := ⟨⟨by decide +kernel, by decide +kernel⟩, List.mem_of_getElem? (i := 736) (by decide +kernel), List.mem_of_getElem? (i := 947) (by decide +kernel), List.mem_of_getElem? (i := 948) (by decide +kernel)⟩
theorem lw_p50 : lw_okq (⟨"LastThreeModel", "mostOf", "(II)I"⟩, 35) := ⟨⟨by decide +kernel, by decide +kernel⟩, List.mem_of_getElem? (i := 736) (by decide +kernel), List.mem_of_getElem? (i := 951) (by decide +kernel), List.mem_of_getElem? (i := 952) (by decide +kernel)⟩
theorem lw_p51 : lw_okq (⟨"LastThreeModel", "isQueue", "(I)Z"⟩, 35) := ⟨⟨by decide +kernel, by decide +kernel⟩, List.mem_of_getElem? (i := 736) (by decide +kernel), List.mem_of_getElem? (i := 967) (by decide +kernel), List.mem_of_getElem? (i := 968) (by decide +kernel)⟩
theorem lw_p52 : lw_okq (⟨"LastThreeModel", "isShort", "()Z"⟩, 35) := ⟨⟨by decide +kernel, by decide +kernel⟩, List.mem_of_getElem? (i := 736) (by decide +kernel), List.mem_of_getElem? (i := 971) (by decide +kernel), List.mem_of_getElem? (i := 972) (by decide +kernel)⟩
theorem lw_p53 : lw_okq (⟨"LastThreeModel", "layOrders", "(I)V"⟩, 35) := ⟨⟨by decide +kernel, by decide +kernel⟩, List.mem_of_getElem? (i := 736) (by decide +kernel), List.mem_of_getElem? (i := 975) (by decide +kernel), List.mem_of_getElem? (i := 976) (by decide +kernel)⟩
theorem lw_p54 : lw_okq (⟨"LastThreeModel", "bring", "(IIIII)I"⟩, 35) := ⟨⟨by decide +kernel, by decide +kernel⟩, List.mem_of_getElem? (i := 736) (by decide +kernel), List.mem_of_getElem? (i := 982) (by decide +kernel), List.mem_of_getElem? (i := 983) (by decide +kernel)⟩
theorem lw_p55 : lw_okq (⟨"LastThreeModel", "shortly", "(III)I"⟩, 35) := ⟨⟨by decide +kernel, by decide +kernel⟩, List.mem_of_getElem? (i := 736) (by decide +kernel), List.mem_of_getElem? (i := 986) (by decide +kernel), List.mem_of_getElem? (i := 987) (by decide +kernel)⟩
theorem lw_p56 : lw_okq (⟨"LastThreeModel", "lastBut", "(I)I"⟩, 35) := ⟨⟨by decide +kernel, by decide +kernel⟩, List.mem_of_getElem? (i := 736) (by decide +kernel), List.mem_of_getElem? (i := 996) (by decide +kernel), List.mem_of_getElem? (i := 997) (by decide +kernel)⟩
theorem lw_p57 : lw_okq (⟨"LastThreeModel", "layStrangers", "(I)I"⟩, 35) := ⟨⟨by decide +kernel, by decide +kernel⟩, List.mem_of_getElem? (i := 736) (by decide +kernel), List.mem_of_getElem? (i := 1006) (by decide +kernel), List.mem_of_getElem? (i := 1007) (by decide +kernel)⟩
theorem lw_p58 : lw_okq (⟨"LastThreeModel", "layNeeds", "(I)V"⟩, 35) := ⟨⟨by decide +kernel, by decide +kernel⟩, List.mem_of_getElem? (i := 736) (by decide +kernel), List.mem_of_getElem? (i := 1010) (by decide +kernel), List.mem_of_getElem? (i := 1011) (by decide +kernel)⟩
theorem lw_p59 : lw_okq (⟨"LastThreeModel", "byQueue", "(IIII)I"⟩, 35) := ⟨⟨by decide +kernel, by decide +kernel⟩, List.mem_of_getElem? (i := 736) (by decide +kernel), List.mem_of_getElem? (i := 1014) (by decide +kernel), List.mem_of_getElem? (i := 1015) (by decide +kernel)⟩
theorem lw_p60 : lw_okq (⟨"LastThreeModel", "askFor", "(I)I"⟩, 35) := ⟨⟨by decide +kernel, by decide +kernel⟩, List.mem_of_getElem? (i := 736) (by decide +kernel), List.mem_of_getElem? (i := 1029) (by decide +kernel), List.mem_of_getElem? (i := 1030) (by decide +kernel)⟩
theorem lw_p61 : lw_okq (⟨"LastThreeModel", "swapOnce", "()Z"⟩, 35) := ⟨⟨by decide +kernel, by decide +kernel⟩, List.mem_of_getElem? (i := 736) (by decide +kernel), List.mem_of_getElem? (i := 1041) (by decide +kernel), List.mem_of_getElem? (i := 1042) (by decide +kernel)⟩
theorem lw_p62 : lw_okq (⟨"LastThreeModel", "wants", "(II)Z"⟩, 35) := ⟨⟨by decide +kernel, by decide +kernel⟩, List.mem_of_getElem? (i := 736) (by decide +kernel), List.mem_of_getElem? (i := 1045) (by decide +kernel), List.mem_of_getElem? (i := 1046) (by decide +kernel)⟩
theorem lw_p63 : lw_okq (⟨"LastThreeModel", "layRows", "(II)V"⟩, 35) := ⟨⟨by decide +kernel, by decide +kernel⟩, List.mem_of_getElem? (i := 736) (by decide +kernel), List.mem_of_getElem? (i := 1062) (by decide +kernel), List.mem_of_getElem? (i := 1063) (by decide +kernel)⟩
def lw_privs_4 : List (MethodName × Nat) := [(⟨"LastThreeModel", "askNow", "(I)V"⟩, 35), (⟨"LastThreeModel", "gives", "(I)I"⟩, 35), (⟨"LastThreeModel", "mostOf", "(II)I"⟩, 35), (⟨"LastThreeModel", "isQueue", "(I)Z"⟩, 35), (⟨"LastThreeModel", "isShort", "()Z"⟩, 35), (⟨"LastThreeModel", "layOrders", "(I)V"⟩, 35), (⟨"LastThreeModel", "bring", "(IIIII)I"⟩, 35), (⟨"LastThreeModel", "shortly", "(III)I"⟩, 35), (⟨"LastThreeModel", "lastBut", "(I)I"⟩, 35), (⟨"LastThreeModel", "layStrangers", "(I)I"⟩, 35), (⟨"LastThreeModel", "layNeeds", "(I)V"⟩, 35), (⟨"LastThreeModel", "byQueue", "(IIII)I"⟩, 35), (⟨"LastThreeModel", "askFor", "(I)I"⟩, 35), (⟨"LastThreeModel", "swapOnce", "()Z"⟩, 35), (⟨"LastThreeModel", "wants", "(II)Z"⟩, 35), (⟨"LastThreeModel", "layRows", "(II)V"⟩, 35)]
theorem lw_r4 : ∀ q ∈ lw_privs_4, lw_okq q := List.forall_mem_cons.mpr ⟨lw_p48, List.forall_mem_cons.mpr ⟨lw_p49, List.forall_mem_cons.mpr ⟨lw_p50, List.forall_mem_cons.mpr ⟨lw_p51, List.forall_mem_cons.mpr ⟨lw_p52, List.forall_mem_cons.mpr ⟨lw_p53, List.forall_mem_cons.mpr ⟨lw_p54, List.forall_mem_cons.mpr ⟨lw_p55, List.forall_mem_cons.mpr ⟨lw_p56, List.forall_mem_cons.mpr ⟨lw_p57, List.forall_mem_cons.mpr ⟨lw_p58, List.forall_mem_cons.mpr ⟨lw_p59, List.forall_mem_cons.mpr ⟨lw_p60, List.forall_mem_cons.mpr ⟨lw_p61, List.forall_mem_cons.mpr ⟨lw_p62, List.forall_mem_cons.mpr ⟨lw_p63, fun _ h => absurd h List.not_mem_nil⟩⟩⟩⟩⟩⟩⟩⟩⟩⟩⟩⟩⟩⟩⟩⟩
theorem lw_p64 : lw_okq (⟨"LastThreeModel", "isPost", "(I)Z"⟩, 35) := ⟨⟨by decide +kernel, by decide +kernel⟩, List.mem_of_getElem? (i := 736) (by decide +kernel), List.mem_of_getElem? (i := 1082) (by decide +kernel), List.mem_of_getElem? (i := 1083) (by decide +kernel)⟩
theorem lw_p65 : lw_okq (⟨"LastThreeModel", "takeNet", "()V"⟩, 35) := ⟨⟨by decide +kernel, by decide +kernel⟩, List.mem_of_getElem? (i := 736) (by decide +kernel), List.mem_of_getElem? (i := 1090) (by decide +kernel), List.mem_of_getElem? (i := 1091) (by decide +kernel)⟩
theorem lw_p66 : lw_okq (⟨"LastThreeModel", "goRound", "()V"⟩, 35) := ⟨⟨by decide +kernel, by decide +kernel⟩, List.mem_of_getElem? (i := 736) (by decide +kernel), List.mem_of_getElem? (i := 1094) (by decide +kernel), List.mem_of_getElem? (i := 1095) (by decide +kernel)⟩
theorem lw_p67 : lw_okq (⟨"LastThreeModel", "state", "()J"⟩, 35) := ⟨⟨by decide +kernel, by decide +kernel⟩, List.mem_of_getElem? (i := 736) (by decide +kernel), List.mem_of_getElem? (i := 1102) (by decide +kernel), List.mem_of_getElem? (i := 1103) (by decide +kernel)⟩
theorem lw_p68 : lw_okq (⟨"LastThreeModel", "copy", "(II)V"⟩, 35) := ⟨⟨by decide +kernel, by decide +kernel⟩, List.mem_of_getElem? (i := 736) (by decide +kernel), List.mem_of_getElem? (i := 1115) (by decide +kernel), List.mem_of_getElem? (i := 1116) (by decide +kernel)⟩
def lw_privs_5 : List (MethodName × Nat) := [(⟨"LastThreeModel", "isPost", "(I)Z"⟩, 35), (⟨"LastThreeModel", "takeNet", "()V"⟩, 35), (⟨"LastThreeModel", "goRound", "()V"⟩, 35), (⟨"LastThreeModel", "state", "()J"⟩, 35), (⟨"LastThreeModel", "copy", "(II)V"⟩, 35)]
theorem lw_r5 : ∀ q ∈ lw_privs_5, lw_okq q := List.forall_mem_cons.mpr ⟨lw_p64, List.forall_mem_cons.mpr ⟨lw_p65, List.forall_mem_cons.mpr ⟨lw_p66, List.forall_mem_cons.mpr ⟨lw_p67, List.forall_mem_cons.mpr ⟨lw_p68, fun _ h => absurd h List.not_mem_nil⟩⟩⟩⟩⟩
def lw_privs : List (MethodName × Nat) := lw_privs_1 ++ (lw_privs_2 ++ (lw_privs_3 ++ (lw_privs_4 ++ (lw_privs_5))))
def lw_tbl : List Cond := k2_sels lw_privs ++ tables_1
theorem lw_privs_ok : ∀ q ∈ lw_privs, lw_okq q := by
  show ∀ q ∈ lw_privs_1 ++ (lw_privs_2 ++ (lw_privs_3 ++ (lw_privs_4 ++ (lw_privs_5)))), lw_okq q
  exact List.forall_mem_append.mpr ⟨lw_r1, List.forall_mem_append.mpr ⟨lw_r2, List.forall_mem_append.mpr ⟨lw_r3, List.forall_mem_append.mpr ⟨lw_r4, lw_r5⟩⟩⟩⟩
end
section
/-! ===== BEGIN words of one list among another's, by their places ===== -/
theorem goodIn_r {big : List Cond} (ws : List Cond) (ps : List Nat) (hp : ws = ps.filterMap (fun i => big[i]?)) (h : ws.all goodWord = true) : GoodIn big ws := by
  intro w hw
  have h1 := List.all_eq_true.mp h w hw
  rw [hp] at hw
  obtain ⟨i, -, hi⟩ := List.mem_filterMap.mp hw
  have hm : w ∈ big := by first | exact List.mem_of_getElem? hi | exact List.getElem?_mem hi
  exact ⟨hm, good_of_word h1⟩
theorem goodIn_app {big a b : List Cond} (ha : GoodIn big a) (hb : GoodIn big b) : GoodIn big (a ++ b) := fun w h => (List.mem_append.mp h).elim (ha w) (hb w)
theorem goodIn_ca {big a b : List Cond} {c : Cond} (ha : GoodIn big (c :: a)) (hb : GoodIn big b) : GoodIn big (c :: (a ++ b)) := fun w h => (List.mem_cons.mp h).elim (fun e => ha w (List.mem_cons.mpr (Or.inl e))) (fun h => (List.mem_append.mp h).elim (fun h => ha w (List.mem_cons.mpr (Or.inr h))) (hb w))
theorem goodIn_sub {big ws : List Cond} (hm : ∀ w ∈ ws, w ∈ big) (h : ws.all goodWord = true) : GoodIn big ws := fun w hw => ⟨hm w hw, good_of_word (List.all_eq_true.mp h w hw)⟩
/-! ===== END ===== -/

/-! ===== BEGIN printed: names, fields, word lists, decode rows ===== -/
def RX0 : String := "LastThree$Net"
def TX0 : u_T := fun k => match k with
  | 0 => ("LastThree$Net", "ringStart", "I", false)
  | 1 => ("LastThree$Net", "ringSize", "I", false)
  | 2 => ("LastThree$Net", "fed", "[I", true)
  | 3 => ("LastThree$Net", "trial", "LLastThree$Standing;", true)
  | _ => ("LastThree$Net", "states", "[J", true)
def tyX0 : Nat → FieldType := fun k => match k with
  | 0 => .int
  | 1 => .int
  | 2 => .array .int
  | 3 => .object "LastThree$Standing"
  | _ => .array .long
abbrev wsX00 : List Cond := u_ws RX0 TX0 5
theorem nmX0 : ∀ a, a < 5 → ∀ b, b < 5 → a ≠ b → (TX0 a).2.1 ≠ (TX0 b).2.1 := by decide +kernel
theorem tyX0_ok : ∀ k, k < 5 → parseFieldDescriptor (TX0 k).2.2.1 = some (tyX0 k) := by decide +kernel
abbrev cX0_init : ByteArray := prog_2_method_1_code
def yX0_init : MethodName := ⟨RX0, "<init>", "()V"⟩
abbrev cX0_advance : ByteArray := prog_2_method_2_code
def yX0_advance : MethodName := ⟨RX0, "advance", "(LLastThree$Plan;LLastThree$Standing;)I"⟩
abbrev cX0_findRing : ByteArray := prog_2_method_3_code
def yX0_findRing : MethodName := ⟨RX0, "findRing", "(LLastThree$Plan;LLastThree$Standing;)Z"⟩
abbrev cX0_numberOf : ByteArray := prog_2_method_4_code
def yX0_numberOf : MethodName := ⟨RX0, "numberOf", "(LLastThree$Plan;LLastThree$Standing;)J"⟩
abbrev cX0_statesAhead : ByteArray := prog_2_method_5_code
def yX0_statesAhead : MethodName := ⟨RX0, "statesAhead", "(LLastThree$Plan;LLastThree$Standing;)J"⟩
abbrev cX0_asksAhead : ByteArray := prog_2_method_6_code
def yX0_asksAhead : MethodName := ⟨RX0, "asksAhead", "(LLastThree$Plan;LLastThree$Standing;I)J"⟩
abbrev cX0_giftsAhead : ByteArray := prog_2_method_7_code
def yX0_giftsAhead : MethodName := ⟨RX0, "giftsAhead", "(LLastThree$Plan;LLastThree$Standing;I)J"⟩
def RX1 : String := "LastThree$OrderFinder"
def TX1 : u_T := fun k => match k with
  | 0 => ("LastThree$OrderFinder", "comers", "[I", true)
  | 1 => ("LastThree$OrderFinder", "most", "I", false)
  | 2 => ("LastThree$OrderFinder", "set", "I", false)
  | 3 => ("LastThree$OrderFinder", "alike", "[I", true)
  | _ => ("LastThree$OrderFinder", "known", "[I", true)
def tyX1 : Nat → FieldType := fun k => match k with
  | 0 => .array .int
  | 1 => .int
  | 2 => .int
  | 3 => .array .int
  | _ => .array .int
abbrev wsX10 : List Cond := u_ws RX1 TX1 5
theorem nmX1 : ∀ a, a < 5 → ∀ b, b < 5 → a ≠ b → (TX1 a).2.1 ≠ (TX1 b).2.1 := by decide +kernel
theorem tyX1_ok : ∀ k, k < 5 → parseFieldDescriptor (TX1 k).2.2.1 = some (tyX1 k) := by decide +kernel
abbrev cX1_init : ByteArray := prog_3_method_1_code
def yX1_init : MethodName := ⟨RX1, "<init>", "()V"⟩
abbrev cX1_forget : ByteArray := prog_3_method_2_code
def yX1_forget : MethodName := ⟨RX1, "forget", "()V"⟩
abbrev cX1_find : ByteArray := prog_3_method_3_code
def yX1_find : MethodName := ⟨RX1, "find", "(LLastThree$Plan;I)V"⟩
abbrev cX1_findAlike : ByteArray := prog_3_method_4_code
def yX1_findAlike : MethodName := ⟨RX1, "findAlike", "(LLastThree$Plan;)V"⟩
abbrev cX1_mayCome : ByteArray := prog_3_method_5_code
def yX1_mayCome : MethodName := ⟨RX1, "mayCome", "(LLastThree$Plan;II)Z"⟩
abbrev cX1_mostLeft : ByteArray := prog_3_method_6_code
def yX1_mostLeft : MethodName := ⟨RX1, "mostLeft", "(LLastThree$Plan;III)I"⟩
abbrev cX1_mostIfComes : ByteArray := prog_3_method_7_code
def yX1_mostIfComes : MethodName := ⟨RX1, "mostIfComes", "(LLastThree$Plan;IIII)I"⟩
abbrev cX1_pairBehind : ByteArray := prog_3_method_8_code
def yX1_pairBehind : MethodName := ⟨RX1, "pairBehind", "(LLastThree$Plan;II)I"⟩
abbrev cX1_followMost : ByteArray := prog_3_method_9_code
def yX1_followMost : MethodName := ⟨RX1, "followMost", "(LLastThree$Plan;)V"⟩
abbrev cX1_firstOfMost : ByteArray := prog_3_method_10_code
def yX1_firstOfMost : MethodName := ⟨RX1, "firstOfMost", "(LLastThree$Plan;III)I"⟩
def RX2 : String := "LastThree$Plan"
def TX2 : u_T := fun k => match k with
  | 0 => ("LastThree$Plan", "things", "I", false)
  | 1 => ("LastThree$Plan", "kind", "I", false)
  | 2 => ("LastThree$Plan", "askedCount", "I", false)
  | 3 => ("LastThree$Plan", "wishCount", "I", false)
  | 4 => ("LastThree$Plan", "postCount", "I", false)
  | 5 => ("LastThree$Plan", "asked", "[I", true)
  | 6 => ("LastThree$Plan", "wishes", "[I", true)
  | 7 => ("LastThree$Plan", "worths", "[I", true)
  | 8 => ("LastThree$Plan", "parts", "[I", true)
  | 9 => ("LastThree$Plan", "feeders", "[I", true)
  | 10 => ("LastThree$Plan", "earlier", "[I", true)
  | 11 => ("LastThree$Plan", "later", "[I", true)
  | 12 => ("LastThree$Plan", "gave", "[I", true)
  | 13 => ("LastThree$Plan", "highestThing", "I", false)
  | _ => ("LastThree$Plan", "highestFeeder", "I", false)
def tyX2 : Nat → FieldType := fun k => match k with
  | 0 => .int
  | 1 => .int
  | 2 => .int
  | 3 => .int
  | 4 => .int
  | 5 => .array .int
  | 6 => .array .int
  | 7 => .array .int
  | 8 => .array .int
  | 9 => .array .int
  | 10 => .array .int
  | 11 => .array .int
  | 12 => .array .int
  | 13 => .int
  | _ => .int
abbrev wsX20 : List Cond := u_ws RX2 TX2 15
theorem nmX2 : ∀ a, a < 15 → ∀ b, b < 15 → a ≠ b → (TX2 a).2.1 ≠ (TX2 b).2.1 := by decide +kernel
theorem tyX2_ok : ∀ k, k < 15 → parseFieldDescriptor (TX2 k).2.2.1 = some (tyX2 k) := by decide +kernel
abbrev cX2_init : ByteArray := prog_4_method_1_code
def yX2_init : MethodName := ⟨RX2, "<init>", "()V"⟩
abbrev cX2_clear : ByteArray := prog_4_method_2_code
def yX2_clear : MethodName := ⟨RX2, "clear", "()V"⟩
abbrev cX2_holdsTogether : ByteArray := prog_4_method_3_code
def yX2_holdsTogether : MethodName := ⟨RX2, "holdsTogether", "()Z"⟩
abbrev cX2_remembersTwo : ByteArray := prog_4_method_4_code
def yX2_remembersTwo : MethodName := ⟨RX2, "remembersTwo", "()Z"⟩
abbrev cX2_worthOf : ByteArray := prog_4_method_5_code
def yX2_worthOf : MethodName := ⟨RX2, "worthOf", "(II)I"⟩
abbrev cX2_askedBack : ByteArray := prog_4_method_6_code
def yX2_askedBack : MethodName := ⟨RX2, "askedBack", "(I)I"⟩
abbrev cX2_pairAhead : ByteArray := prog_4_method_7_code
def yX2_pairAhead : MethodName := ⟨RX2, "pairAhead", "()I"⟩
abbrev cX2_isIn : ByteArray := prog_4_method_8_code
def yX2_isIn : MethodName := ⟨RX2, "isIn", "(II)Z"⟩
abbrev cX2_hasBehind : ByteArray := prog_4_method_9_code
def yX2_hasBehind : MethodName := ⟨RX2, "hasBehind", "(II)Z"⟩
abbrev cX2_setThings : ByteArray := prog_4_method_10_code
def yX2_setThings : MethodName := ⟨RX2, "setThings", "(I)Z"⟩
abbrev cX2_setKind : ByteArray := prog_4_method_11_code
def yX2_setKind : MethodName := ⟨RX2, "setKind", "(I)Z"⟩
abbrev cX2_addAsked : ByteArray := prog_4_method_12_code
def yX2_addAsked : MethodName := ⟨RX2, "addAsked", "(I)Z"⟩
abbrev cX2_addWish : ByteArray := prog_4_method_13_code
def yX2_addWish : MethodName := ⟨RX2, "addWish", "(I)Z"⟩
abbrev cX2_setWorth : ByteArray := prog_4_method_14_code
def yX2_setWorth : MethodName := ⟨RX2, "setWorth", "(III)Z"⟩
abbrev cX2_setParts : ByteArray := prog_4_method_15_code
def yX2_setParts : MethodName := ⟨RX2, "setParts", "(II)Z"⟩
abbrev cX2_addPost : ByteArray := prog_4_method_16_code
def yX2_addPost : MethodName := ⟨RX2, "addPost", "(IIII)Z"⟩
abbrev cX2_noteThing : ByteArray := prog_4_method_17_code
def yX2_noteThing : MethodName := ⟨RX2, "noteThing", "(I)Z"⟩
abbrev cX2_noteSign : ByteArray := prog_4_method_18_code
def yX2_noteSign : MethodName := ⟨RX2, "noteSign", "(I)Z"⟩
def RX3 : String := "LastThree$Rail"
def TX3 : u_T := fun k => match k with
  | 0 => ("LastThree$Rail", "asked", "[I", true)
  | 1 => ("LastThree$Rail", "had", "[I", true)
  | _ => ("LastThree$Rail", "row", "[I", true)
def tyX3 : Nat → FieldType := fun k => match k with
  | 0 => .array .int
  | 1 => .array .int
  | _ => .array .int
abbrev wsX30 : List Cond := u_ws RX3 TX3 3
theorem nmX3 : ∀ a, a < 3 → ∀ b, b < 3 → a ≠ b → (TX3 a).2.1 ≠ (TX3 b).2.1 := by decide +kernel
theorem tyX3_ok : ∀ k, k < 3 → parseFieldDescriptor (TX3 k).2.2.1 = some (tyX3 k) := by decide +kernel
abbrev cX3_init : ByteArray := prog_5_method_1_code
def yX3_init : MethodName := ⟨RX3, "<init>", "()V"⟩
abbrev cX3_comeAsWished : ByteArray := prog_5_method_2_code
def yX3_comeAsWished : MethodName := ⟨RX3, "comeAsWished", "(LLastThree$Plan;I)V"⟩
abbrev cX3_comeForThemselves : ByteArray := prog_5_method_3_code
def yX3_comeForThemselves : MethodName := ⟨RX3, "comeForThemselves", "(LLastThree$Plan;)V"⟩
abbrev cX3_differing : ByteArray := prog_5_method_4_code
def yX3_differing : MethodName := ⟨RX3, "differing", "(LLastThree$Plan;I)I"⟩
abbrev cX3_swapTillNobodyGains : ByteArray := prog_5_method_5_code
def yX3_swapTillNobodyGains : MethodName := ⟨RX3, "swapTillNobodyGains", "(LLastThree$Plan;)I"⟩
abbrev cX3_startRow : ByteArray := prog_5_method_6_code
def yX3_startRow : MethodName := ⟨RX3, "startRow", "(LLastThree$Plan;)V"⟩
abbrev cX3_bestAsk : ByteArray := prog_5_method_7_code
def yX3_bestAsk : MethodName := ⟨RX3, "bestAsk", "(LLastThree$Plan;II)I"⟩
abbrev cX3_worthOfAsk : ByteArray := prog_5_method_8_code
def yX3_worthOfAsk : MethodName := ⟨RX3, "worthOfAsk", "(LLastThree$Plan;III)I"⟩
abbrev cX3_swapFirstTwo : ByteArray := prog_5_method_9_code
def yX3_swapFirstTwo : MethodName := ⟨RX3, "swapFirstTwo", "(LLastThree$Plan;)Z"⟩
abbrev cX3_gains : ByteArray := prog_5_method_10_code
def yX3_gains : MethodName := ⟨RX3, "gains", "(LLastThree$Plan;II)Z"⟩
def RX4 : String := "LastThree$Reader"
def TX4 : u_T := fun k => match k with
  | 0 => ("LastThree$Reader", "numbers", "[I", true)
  | _ => ("LastThree$Reader", "many", "I", false)
def tyX4 : Nat → FieldType := fun k => match k with
  | 0 => .array .int
  | _ => .int
abbrev wsX40 : List Cond := u_ws RX4 TX4 2
theorem nmX4 : ∀ a, a < 2 → ∀ b, b < 2 → a ≠ b → (TX4 a).2.1 ≠ (TX4 b).2.1 := by decide +kernel
theorem tyX4_ok : ∀ k, k < 2 → parseFieldDescriptor (TX4 k).2.2.1 = some (tyX4 k) := by decide +kernel
abbrev cX4_init : ByteArray := prog_6_method_1_code
def yX4_init : MethodName := ⟨RX4, "<init>", "()V"⟩
abbrev cX4_readInto : ByteArray := prog_6_method_2_code
def yX4_readInto : MethodName := ⟨RX4, "readInto", "(LLastThree$Plan;[BI)I"⟩
abbrev cX4_readNumbers : ByteArray := prog_6_method_3_code
def yX4_readNumbers : MethodName := ⟨RX4, "readNumbers", "([BII)I"⟩
abbrev cX4_tell : ByteArray := prog_6_method_4_code
def yX4_tell : MethodName := ⟨RX4, "tell", "(LLastThree$Plan;I)Z"⟩
def RX5 : String := "LastThree$RowFinder"
def TX5 : u_T := fun k => match k with
  | 0 => ("LastThree$RowFinder", "wishes", "[I", true)
  | 1 => ("LastThree$RowFinder", "greatest", "[J", true)
  | 2 => ("LastThree$RowFinder", "sums", "[J", true)
  | _ => ("LastThree$RowFinder", "shares", "[J", true)
def tyX5 : Nat → FieldType := fun k => match k with
  | 0 => .array .int
  | 1 => .array .long
  | 2 => .array .long
  | _ => .array .long
abbrev wsX50 : List Cond := u_ws RX5 TX5 4
theorem nmX5 : ∀ a, a < 4 → ∀ b, b < 4 → a ≠ b → (TX5 a).2.1 ≠ (TX5 b).2.1 := by decide +kernel
theorem tyX5_ok : ∀ k, k < 4 → parseFieldDescriptor (TX5 k).2.2.1 = some (tyX5 k) := by decide +kernel
abbrev cX5_init : ByteArray := prog_7_method_1_code
def yX5_init : MethodName := ⟨RX5, "<init>", "()V"⟩
abbrev cX5_number : ByteArray := prog_7_method_2_code
def yX5_number : MethodName := ⟨RX5, "number", "(LLastThree$Plan;LLastThree$Standing;)J"⟩
abbrev cX5_weight : ByteArray := prog_7_method_3_code
def yX5_weight : MethodName := ⟨RX5, "weight", "(LLastThree$Plan;LLastThree$Standing;)J"⟩
abbrev cX5_weightWith : ByteArray := prog_7_method_4_code
def yX5_weightWith : MethodName := ⟨RX5, "weightWith", "(LLastThree$Plan;LLastThree$Standing;II)J"⟩
abbrev cX5_sumUp : ByteArray := prog_7_method_5_code
def yX5_sumUp : MethodName := ⟨RX5, "sumUp", "(LLastThree$Plan;LLastThree$Standing;II)J"⟩
abbrev cX5_sumOver : ByteArray := prog_7_method_6_code
def yX5_sumOver : MethodName := ⟨RX5, "sumOver", "(LLastThree$Plan;III)V"⟩
abbrev cX5_findLikeliest : ByteArray := prog_7_method_7_code
def yX5_findLikeliest : MethodName := ⟨RX5, "findLikeliest", "(LLastThree$Plan;LLastThree$Standing;)Z"⟩
abbrev cX5_greatestFrom : ByteArray := prog_7_method_8_code
def yX5_greatestFrom : MethodName := ⟨RX5, "greatestFrom", "(LLastThree$Plan;III)J"⟩
abbrev cX5_weightFrom : ByteArray := prog_7_method_9_code
def yX5_weightFrom : MethodName := ⟨RX5, "weightFrom", "(LLastThree$Plan;IIII)J"⟩
abbrev cX5_firstOfGreatest : ByteArray := prog_7_method_10_code
def yX5_firstOfGreatest : MethodName := ⟨RX5, "firstOfGreatest", "(LLastThree$Plan;III)I"⟩
def RX6 : String := "LastThree$Standing"
def TX6 : u_T := fun k => match k with
  | 0 => ("LastThree$Standing", "earlier", "[I", true)
  | 1 => ("LastThree$Standing", "later", "[I", true)
  | 2 => ("LastThree$Standing", "gave", "[I", true)
  | 3 => ("LastThree$Standing", "gifts", "[I", true)
  | _ => ("LastThree$Standing", "giftCount", "I", false)
def tyX6 : Nat → FieldType := fun k => match k with
  | 0 => .array .int
  | 1 => .array .int
  | 2 => .array .int
  | 3 => .array .int
  | _ => .int
abbrev wsX60 : List Cond := u_ws RX6 TX6 5
theorem nmX6 : ∀ a, a < 5 → ∀ b, b < 5 → a ≠ b → (TX6 a).2.1 ≠ (TX6 b).2.1 := by decide +kernel
theorem tyX6_ok : ∀ k, k < 5 → parseFieldDescriptor (TX6 k).2.2.1 = some (tyX6 k) := by decide +kernel
abbrev cX6_init : ByteArray := prog_8_method_1_code
def yX6_init : MethodName := ⟨RX6, "<init>", "()V"⟩
abbrev cX6_begin : ByteArray := prog_8_method_2_code
def yX6_begin : MethodName := ⟨RX6, "begin", "(LLastThree$Plan;)V"⟩
abbrev cX6_copyFrom : ByteArray := prog_8_method_3_code
def yX6_copyFrom : MethodName := ⟨RX6, "copyFrom", "(LLastThree$Standing;)V"⟩
def RX7 : String := "LastThree$StrangerFinder"
def TX7 : u_T := fun k => match k with
  | 0 => ("LastThree$StrangerFinder", "wishes", "[I", true)
  | 1 => ("LastThree$StrangerFinder", "places", "[I", true)
  | 2 => ("LastThree$StrangerFinder", "many", "I", false)
  | 3 => ("LastThree$StrangerFinder", "set", "I", false)
  | 4 => ("LastThree$StrangerFinder", "fewest", "[I", true)
  | _ => ("LastThree$StrangerFinder", "fewestBehind", "[I", true)
def tyX7 : Nat → FieldType := fun k => match k with
  | 0 => .array .int
  | 1 => .array .int
  | 2 => .int
  | 3 => .int
  | 4 => .array .int
  | _ => .array .int
abbrev wsX70 : List Cond := u_ws RX7 TX7 6
theorem nmX7 : ∀ a, a < 6 → ∀ b, b < 6 → a ≠ b → (TX7 a).2.1 ≠ (TX7 b).2.1 := by decide +kernel
theorem tyX7_ok : ∀ k, k < 6 → parseFieldDescriptor (TX7 k).2.2.1 = some (tyX7 k) := by decide +kernel
abbrev cX7_init : ByteArray := prog_9_method_1_code
def yX7_init : MethodName := ⟨RX7, "<init>", "()V"⟩
abbrev cX7_forget : ByteArray := prog_9_method_2_code
def yX7_forget : MethodName := ⟨RX7, "forget", "()V"⟩
abbrev cX7_isOne : ByteArray := prog_9_method_3_code
def yX7_isOne : MethodName := ⟨RX7, "isOne", "(I)Z"⟩
abbrev cX7_find : ByteArray := prog_9_method_4_code
def yX7_find : MethodName := ⟨RX7, "find", "(LLastThree$Plan;I)V"⟩
abbrev cX7_findFewest : ByteArray := prog_9_method_5_code
def yX7_findFewest : MethodName := ⟨RX7, "findFewest", "(LLastThree$Plan;I)V"⟩
abbrev cX7_costAtOnce : ByteArray := prog_9_method_6_code
def yX7_costAtOnce : MethodName := ⟨RX7, "costAtOnce", "(LLastThree$Plan;II)I"⟩
abbrev cX7_follow : ByteArray := prog_9_method_7_code
def yX7_follow : MethodName := ⟨RX7, "follow", "(LLastThree$Plan;)V"⟩
abbrev cX7_firstStranger : ByteArray := prog_9_method_8_code
def yX7_firstStranger : MethodName := ⟨RX7, "firstStranger", "(LLastThree$Plan;II)I"⟩
def RX8 : String := "LastThree"
def TX8 : u_T := fun k => match k with
  | 0 => ("LastThree", "text", "[B", true)
  | 1 => ("LastThree", "length", "I", false)
  | 2 => ("LastThree", "reader", "LLastThree$Reader;", true)
  | 3 => ("LastThree", "laid", "LLastThree$Plan;", false)
  | 4 => ("LastThree", "draft", "LLastThree$Plan;", false)
  | 5 => ("LastThree", "now", "LLastThree$Standing;", true)
  | 6 => ("LastThree", "kept", "[LLastThree$Standing;", true)
  | 7 => ("LastThree", "keptCount", "I", false)
  | 8 => ("LastThree", "rail", "LLastThree$Rail;", true)
  | 9 => ("LastThree", "orders", "LLastThree$OrderFinder;", true)
  | 10 => ("LastThree", "between", "LLastThree$StrangerFinder;", true)
  | 11 => ("LastThree", "guesses", "LLastThree$RowFinder;", true)
  | _ => ("LastThree", "net", "LLastThree$Net;", true)
def tyX8 : Nat → FieldType := fun k => match k with
  | 0 => .array .byte
  | 1 => .int
  | 2 => .object "LastThree$Reader"
  | 3 => .object "LastThree$Plan"
  | 4 => .object "LastThree$Plan"
  | 5 => .object "LastThree$Standing"
  | 6 => .array (.object "LastThree$Standing")
  | 7 => .int
  | 8 => .object "LastThree$Rail"
  | 9 => .object "LastThree$OrderFinder"
  | 10 => .object "LastThree$StrangerFinder"
  | 11 => .object "LastThree$RowFinder"
  | _ => .object "LastThree$Net"
abbrev wsX80 : List Cond := u_ws RX8 TX8 13
theorem nmX8 : ∀ a, a < 13 → ∀ b, b < 13 → a ≠ b → (TX8 a).2.1 ≠ (TX8 b).2.1 := by decide +kernel
theorem tyX8_ok : ∀ k, k < 13 → parseFieldDescriptor (TX8 k).2.2.1 = some (tyX8 k) := by decide +kernel
abbrev cX8_init : ByteArray := prog_1_method_1_code
def yX8_init : MethodName := ⟨RX8, "<init>", "()V"⟩
abbrev cX8_write : ByteArray := prog_1_method_2_code
def yX8_write : MethodName := ⟨RX8, "write", "(IJ)I"⟩
abbrev cX8_wipe : ByteArray := prog_1_method_3_code
def yX8_wipe : MethodName := ⟨RX8, "wipe", "()I"⟩
abbrev cX8_fault : ByteArray := prog_1_method_4_code
def yX8_fault : MethodName := ⟨RX8, "fault", "()I"⟩
abbrev cX8_lay : ByteArray := prog_1_method_5_code
def yX8_lay : MethodName := ⟨RX8, "lay", "()I"⟩
abbrev cX8_worth : ByteArray := prog_1_method_6_code
def yX8_worth : MethodName := ⟨RX8, "worth", "(II)I"⟩
abbrev cX8_given : ByteArray := prog_1_method_7_code
def yX8_given : MethodName := ⟨RX8, "given", "(I)I"⟩
abbrev cX8_have : ByteArray := prog_1_method_8_code
def yX8_have : MethodName := ⟨RX8, "have", "()I"⟩
abbrev cX8_other : ByteArray := prog_1_method_9_code
def yX8_other : MethodName := ⟨RX8, "other", "(I)I"⟩
abbrev cX8_order : ByteArray := prog_1_method_10_code
def yX8_order : MethodName := ⟨RX8, "order", "(II)I"⟩
abbrev cX8_strangers : ByteArray := prog_1_method_11_code
def yX8_strangers : MethodName := ⟨RX8, "strangers", "(II)I"⟩
abbrev cX8_ahead : ByteArray := prog_1_method_12_code
def yX8_ahead : MethodName := ⟨RX8, "ahead", "(II)I"⟩
abbrev cX8_asks : ByteArray := prog_1_method_13_code
def yX8_asks : MethodName := ⟨RX8, "asks", "(II)I"⟩
abbrev cX8_otherwise : ByteArray := prog_1_method_14_code
def yX8_otherwise : MethodName := ⟨RX8, "otherwise", "()I"⟩
abbrev cX8_swaps : ByteArray := prog_1_method_15_code
def yX8_swaps : MethodName := ⟨RX8, "swaps", "(I)I"⟩
abbrev cX8_gift : ByteArray := prog_1_method_16_code
def yX8_gift : MethodName := ⟨RX8, "gift", "(I)I"⟩
abbrev cX8_noGifts : ByteArray := prog_1_method_17_code
def yX8_noGifts : MethodName := ⟨RX8, "noGifts", "()I"⟩
abbrev cX8_rows : ByteArray := prog_1_method_18_code
def yX8_rows : MethodName := ⟨RX8, "rows", "(I)J"⟩
abbrev cX8_odds : ByteArray := prog_1_method_19_code
def yX8_odds : MethodName := ⟨RX8, "odds", "(III)J"⟩
abbrev cX8_likeliest : ByteArray := prog_1_method_20_code
def yX8_likeliest : MethodName := ⟨RX8, "likeliest", "(I)I"⟩
abbrev cX8_post : ByteArray := prog_1_method_21_code
def yX8_post : MethodName := ⟨RX8, "post", "(II)I"⟩
abbrev cX8_round : ByteArray := prog_1_method_22_code
def yX8_round : MethodName := ⟨RX8, "round", "()I"⟩
abbrev cX8_ring : ByteArray := prog_1_method_23_code
def yX8_ring : MethodName := ⟨RX8, "ring", "(I)I"⟩
abbrev cX8_before : ByteArray := prog_1_method_24_code
def yX8_before : MethodName := ⟨RX8, "before", "()J"⟩
abbrev cX8_keep : ByteArray := prog_1_method_25_code
def yX8_keep : MethodName := ⟨RX8, "keep", "()I"⟩
abbrev cX8_back : ByteArray := prog_1_method_26_code
def yX8_back : MethodName := ⟨RX8, "back", "()I"⟩
abbrev cX8_count : ByteArray := prog_1_method_27_code
def yX8_count : MethodName := ⟨RX8, "count", "(I)I"⟩
abbrev cX8_within : ByteArray := prog_1_method_28_code
def yX8_within : MethodName := ⟨RX8, "within", "(III)Z"⟩
abbrev cX8_isThing : ByteArray := prog_1_method_29_code
def yX8_isThing : MethodName := ⟨RX8, "isThing", "(I)Z"⟩
abbrev cX8_isSign : ByteArray := prog_1_method_30_code
def yX8_isSign : MethodName := ⟨RX8, "isSign", "(I)Z"⟩
abbrev cX8_isQueued : ByteArray := prog_1_method_31_code
def yX8_isQueued : MethodName := ⟨RX8, "isQueued", "(I)Z"⟩
abbrev cX8_isGift : ByteArray := prog_1_method_32_code
def yX8_isGift : MethodName := ⟨RX8, "isGift", "(I)Z"⟩
abbrev cX8_isSet : ByteArray := prog_1_method_33_code
def yX8_isSet : MethodName := ⟨RX8, "isSet", "(I)Z"⟩
abbrev cX8_majority : ByteArray := prog_1_method_34_code
def yX8_majority : MethodName := ⟨RX8, "majority", "(III)I"⟩
abbrev cX8_givesBehind : ByteArray := prog_1_method_35_code
def yX8_givesBehind : MethodName := ⟨RX8, "givesBehind", "(IIII)I"⟩
abbrev cX8_givesFor : ByteArray := prog_1_method_36_code
def yX8_givesFor : MethodName := ⟨RX8, "givesFor", "(I[II)I"⟩
abbrev cX8_commonDivisor : ByteArray := prog_1_method_37_code
def yX8_commonDivisor : MethodName := ⟨RX8, "commonDivisor", "(JJ)J"⟩
def RX9 : String := "LastThreeModel"
def TX9 : u_T := fun k => match k with
  | 0 => ("LastThreeModel", "length", "I", false)
  | 1 => ("LastThreeModel", "text", "[I", true)
  | 2 => ("LastThreeModel", "things", "[I", true)
  | 3 => ("LastThreeModel", "memory", "[I", true)
  | 4 => ("LastThreeModel", "aheadMany", "[I", true)
  | 5 => ("LastThreeModel", "aheads", "[I", true)
  | 6 => ("LastThreeModel", "wishMany", "[I", true)
  | 7 => ("LastThreeModel", "wishes", "[I", true)
  | 8 => ("LastThreeModel", "worths", "[I", true)
  | 9 => ("LastThreeModel", "parts", "[I", true)
  | 10 => ("LastThreeModel", "postMany", "[I", true)
  | 11 => ("LastThreeModel", "feeds", "[I", true)
  | 12 => ("LastThreeModel", "toldNet", "[I", true)
  | 13 => ("LastThreeModel", "net", "[I", true)
  | 14 => ("LastThreeModel", "giftMany", "[I", true)
  | 15 => ("LastThreeModel", "gifts", "[I", true)
  | 16 => ("LastThreeModel", "keptMany", "I", false)
  | 17 => ("LastThreeModel", "place", "I", false)
  | 18 => ("LastThreeModel", "told", "[I", true)
  | 19 => ("LastThreeModel", "mostThing", "I", false)
  | 20 => ("LastThreeModel", "mostFeed", "I", false)
  | 21 => ("LastThreeModel", "asked", "[I", true)
  | 22 => ("LastThreeModel", "askedMany", "I", false)
  | 23 => ("LastThreeModel", "cans", "[I", true)
  | 24 => ("LastThreeModel", "needs", "[I", true)
  | 25 => ("LastThreeModel", "strangerMany", "I", false)
  | 26 => ("LastThreeModel", "strangerWish", "[I", true)
  | 27 => ("LastThreeModel", "strangerAt", "[I", true)
  | 28 => ("LastThreeModel", "holds", "[I", true)
  | 29 => ("LastThreeModel", "rowsFrom", "[J", true)
  | 30 => ("LastThreeModel", "weightFrom", "[J", true)
  | 31 => ("LastThreeModel", "mostFrom", "[J", true)
  | 32 => ("LastThreeModel", "goes", "[I", true)
  | 33 => ("LastThreeModel", "gave", "[I", true)
  | _ => ("LastThreeModel", "states", "[J", true)
def tyX9 : Nat → FieldType := fun k => match k with
  | 0 => .int
  | 1 => .array .int
  | 2 => .array .int
  | 3 => .array .int
  | 4 => .array .int
  | 5 => .array .int
  | 6 => .array .int
  | 7 => .array .int
  | 8 => .array .int
  | 9 => .array .int
  | 10 => .array .int
  | 11 => .array .int
  | 12 => .array .int
  | 13 => .array .int
  | 14 => .array .int
  | 15 => .array .int
  | 16 => .int
  | 17 => .int
  | 18 => .array .int
  | 19 => .int
  | 20 => .int
  | 21 => .array .int
  | 22 => .int
  | 23 => .array .int
  | 24 => .array .int
  | 25 => .int
  | 26 => .array .int
  | 27 => .array .int
  | 28 => .array .int
  | 29 => .array .long
  | 30 => .array .long
  | 31 => .array .long
  | 32 => .array .int
  | 33 => .array .int
  | _ => .array .long
abbrev wsX90 : List Cond := u_ws RX9 TX9 35
theorem nmX9 : ∀ a, a < 35 → ∀ b, b < 35 → a ≠ b → (TX9 a).2.1 ≠ (TX9 b).2.1 := by decide +kernel
theorem tyX9_ok : ∀ k, k < 35 → parseFieldDescriptor (TX9 k).2.2.1 = some (tyX9 k) := by decide +kernel
abbrev cX9_init : ByteArray := prog_11_method_1_code
def yX9_init : MethodName := ⟨RX9, "<init>", "()V"⟩
abbrev cX9_in : ByteArray := prog_11_method_2_code
def yX9_in : MethodName := ⟨RX9, "in", "(JJJ)Z"⟩
abbrev cX9_has : ByteArray := prog_11_method_3_code
def yX9_has : MethodName := ⟨RX9, "has", "(II)Z"⟩
abbrev cX9_noPost : ByteArray := prog_11_method_4_code
def yX9_noPost : MethodName := ⟨RX9, "noPost", "(I)V"⟩
abbrev cX9_write : ByteArray := prog_11_method_5_code
def yX9_write : MethodName := ⟨RX9, "write", "(IJ)I"⟩
abbrev cX9_wipe : ByteArray := prog_11_method_6_code
def yX9_wipe : MethodName := ⟨RX9, "wipe", "()I"⟩
abbrev cX9_byteAt : ByteArray := prog_11_method_7_code
def yX9_byteAt : MethodName := ⟨RX9, "byteAt", "(I)I"⟩
abbrev cX9_figures : ByteArray := prog_11_method_8_code
def yX9_figures : MethodName := ⟨RX9, "figures", "(I)Z"⟩
abbrev cX9_meet : ByteArray := prog_11_method_9_code
def yX9_meet : MethodName := ⟨RX9, "meet", "(I)V"⟩
abbrev cX9_aheadItem : ByteArray := prog_11_method_10_code
def yX9_aheadItem : MethodName := ⟨RX9, "aheadItem", "()Z"⟩
abbrev cX9_wishItem : ByteArray := prog_11_method_11_code
def yX9_wishItem : MethodName := ⟨RX9, "wishItem", "()Z"⟩
abbrev cX9_worthItem : ByteArray := prog_11_method_12_code
def yX9_worthItem : MethodName := ⟨RX9, "worthItem", "()Z"⟩
abbrev cX9_postItem : ByteArray := prog_11_method_13_code
def yX9_postItem : MethodName := ⟨RX9, "postItem", "()Z"⟩
abbrev cX9_item : ByteArray := prog_11_method_14_code
def yX9_item : MethodName := ⟨RX9, "item", "()Z"⟩
abbrev cX9_readAll : ByteArray := prog_11_method_15_code
def yX9_readAll : MethodName := ⟨RX9, "readAll", "()I"⟩
abbrev cX9_fault : ByteArray := prog_11_method_16_code
def yX9_fault : MethodName := ⟨RX9, "fault", "()I"⟩
abbrev cX9_lay : ByteArray := prog_11_method_17_code
def yX9_lay : MethodName := ⟨RX9, "lay", "()I"⟩
abbrev cX9_isThing : ByteArray := prog_11_method_18_code
def yX9_isThing : MethodName := ⟨RX9, "isThing", "(I)Z"⟩
abbrev cX9_isGift : ByteArray := prog_11_method_19_code
def yX9_isGift : MethodName := ⟨RX9, "isGift", "(I)Z"⟩
abbrev cX9_isWish : ByteArray := prog_11_method_20_code
def yX9_isWish : MethodName := ⟨RX9, "isWish", "(I)Z"⟩
abbrev cX9_worth : ByteArray := prog_11_method_21_code
def yX9_worth : MethodName := ⟨RX9, "worth", "(II)I"⟩
abbrev cX9_beginRow : ByteArray := prog_11_method_22_code
def yX9_beginRow : MethodName := ⟨RX9, "beginRow", "()V"⟩
abbrev cX9_askNow : ByteArray := prog_11_method_23_code
def yX9_askNow : MethodName := ⟨RX9, "askNow", "(I)V"⟩
abbrev cX9_mostOf : ByteArray := prog_11_method_24_code
def yX9_mostOf : MethodName := ⟨RX9, "mostOf", "(II)I"⟩
abbrev cX9_gives : ByteArray := prog_11_method_25_code
def yX9_gives : MethodName := ⟨RX9, "gives", "(I)I"⟩
abbrev cX9_givenBy : ByteArray := prog_11_method_26_code
def yX9_givenBy : MethodName := ⟨RX9, "givenBy", "(II)I"⟩
abbrev cX9_given : ByteArray := prog_11_method_27_code
def yX9_given : MethodName := ⟨RX9, "given", "(I)I"⟩
abbrev cX9_have : ByteArray := prog_11_method_28_code
def yX9_have : MethodName := ⟨RX9, "have", "()I"⟩
abbrev cX9_other : ByteArray := prog_11_method_29_code
def yX9_other : MethodName := ⟨RX9, "other", "(I)I"⟩
abbrev cX9_isShort : ByteArray := prog_11_method_30_code
def yX9_isShort : MethodName := ⟨RX9, "isShort", "()Z"⟩
abbrev cX9_three : ByteArray := prog_11_method_31_code
def yX9_three : MethodName := ⟨RX9, "three", "(III)I"⟩
abbrev cX9_shortly : ByteArray := prog_11_method_32_code
def yX9_shortly : MethodName := ⟨RX9, "shortly", "(III)I"⟩
abbrev cX9_lastBut : ByteArray := prog_11_method_33_code
def yX9_lastBut : MethodName := ⟨RX9, "lastBut", "(I)I"⟩
abbrev cX9_isQueue : ByteArray := prog_11_method_34_code
def yX9_isQueue : MethodName := ⟨RX9, "isQueue", "(I)Z"⟩
abbrev cX9_spot : ByteArray := prog_11_method_35_code
def yX9_spot : MethodName := ⟨RX9, "spot", "(III)I"⟩
abbrev cX9_bring : ByteArray := prog_11_method_36_code
def yX9_bring : MethodName := ⟨RX9, "bring", "(IIIII)I"⟩
abbrev cX9_layOrders : ByteArray := prog_11_method_37_code
def yX9_layOrders : MethodName := ⟨RX9, "layOrders", "(I)V"⟩
abbrev cX9_order : ByteArray := prog_11_method_38_code
def yX9_order : MethodName := ⟨RX9, "order", "(II)I"⟩
abbrev cX9_stand : ByteArray := prog_11_method_39_code
def yX9_stand : MethodName := ⟨RX9, "stand", "(III)I"⟩
abbrev cX9_byQueue : ByteArray := prog_11_method_40_code
def yX9_byQueue : MethodName := ⟨RX9, "byQueue", "(IIII)I"⟩
abbrev cX9_layNeeds : ByteArray := prog_11_method_41_code
def yX9_layNeeds : MethodName := ⟨RX9, "layNeeds", "(I)V"⟩
abbrev cX9_layStrangers : ByteArray := prog_11_method_42_code
def yX9_layStrangers : MethodName := ⟨RX9, "layStrangers", "(I)I"⟩
abbrev cX9_strangers : ByteArray := prog_11_method_43_code
def yX9_strangers : MethodName := ⟨RX9, "strangers", "(II)I"⟩
abbrev cX9_ahead : ByteArray := prog_11_method_44_code
def yX9_ahead : MethodName := ⟨RX9, "ahead", "(II)I"⟩
abbrev cX9_askFor : ByteArray := prog_11_method_45_code
def yX9_askFor : MethodName := ⟨RX9, "askFor", "(I)I"⟩
abbrev cX9_asks : ByteArray := prog_11_method_46_code
def yX9_asks : MethodName := ⟨RX9, "asks", "(II)I"⟩
abbrev cX9_otherwise : ByteArray := prog_11_method_47_code
def yX9_otherwise : MethodName := ⟨RX9, "otherwise", "()I"⟩
abbrev cX9_wants : ByteArray := prog_11_method_48_code
def yX9_wants : MethodName := ⟨RX9, "wants", "(II)Z"⟩
abbrev cX9_swapOnce : ByteArray := prog_11_method_49_code
def yX9_swapOnce : MethodName := ⟨RX9, "swapOnce", "()Z"⟩
abbrev cX9_swaps : ByteArray := prog_11_method_50_code
def yX9_swaps : MethodName := ⟨RX9, "swaps", "(I)I"⟩
abbrev cX9_gift : ByteArray := prog_11_method_51_code
def yX9_gift : MethodName := ⟨RX9, "gift", "(I)I"⟩
abbrev cX9_noGifts : ByteArray := prog_11_method_52_code
def yX9_noGifts : MethodName := ⟨RX9, "noGifts", "()I"⟩
abbrev cX9_layRows : ByteArray := prog_11_method_53_code
def yX9_layRows : MethodName := ⟨RX9, "layRows", "(II)V"⟩
abbrev cX9_rows : ByteArray := prog_11_method_54_code
def yX9_rows : MethodName := ⟨RX9, "rows", "(I)J"⟩
abbrev cX9_common : ByteArray := prog_11_method_55_code
def yX9_common : MethodName := ⟨RX9, "common", "(JJ)J"⟩
abbrev cX9_odds : ByteArray := prog_11_method_56_code
def yX9_odds : MethodName := ⟨RX9, "odds", "(III)J"⟩
abbrev cX9_likeliest : ByteArray := prog_11_method_57_code
def yX9_likeliest : MethodName := ⟨RX9, "likeliest", "(I)I"⟩
abbrev cX9_isPost : ByteArray := prog_11_method_58_code
def yX9_isPost : MethodName := ⟨RX9, "isPost", "(I)Z"⟩
abbrev cX9_post : ByteArray := prog_11_method_59_code
def yX9_post : MethodName := ⟨RX9, "post", "(II)I"⟩
abbrev cX9_goRound : ByteArray := prog_11_method_60_code
def yX9_goRound : MethodName := ⟨RX9, "goRound", "()V"⟩
abbrev cX9_takeNet : ByteArray := prog_11_method_61_code
def yX9_takeNet : MethodName := ⟨RX9, "takeNet", "()V"⟩
abbrev cX9_round : ByteArray := prog_11_method_62_code
def yX9_round : MethodName := ⟨RX9, "round", "()I"⟩
abbrev cX9_state : ByteArray := prog_11_method_63_code
def yX9_state : MethodName := ⟨RX9, "state", "()J"⟩
abbrev cX9_ring : ByteArray := prog_11_method_64_code
def yX9_ring : MethodName := ⟨RX9, "ring", "(I)I"⟩
abbrev cX9_before : ByteArray := prog_11_method_65_code
def yX9_before : MethodName := ⟨RX9, "before", "()J"⟩
abbrev cX9_copy : ByteArray := prog_11_method_66_code
def yX9_copy : MethodName := ⟨RX9, "copy", "(II)V"⟩
abbrev cX9_keep : ByteArray := prog_11_method_67_code
def yX9_keep : MethodName := ⟨RX9, "keep", "()I"⟩
abbrev cX9_back : ByteArray := prog_11_method_68_code
def yX9_back : MethodName := ⟨RX9, "back", "()I"⟩
abbrev cX9_count : ByteArray := prog_11_method_69_code
def yX9_count : MethodName := ⟨RX9, "count", "(I)I"⟩
def RJ9 : String := "java/lang/Math"
def TJ9 : u_T := fun k => match k with
  | _ => ("", "", "", false)
def tyJ9 : Nat → FieldType := fun k => match k with
  | _ => .int
abbrev wsJ90 : List Cond := u_ws RJ9 TJ9 0
theorem nmJ9 : ∀ a, a < 0 → ∀ b, b < 0 → a ≠ b → (TJ9 a).2.1 ≠ (TJ9 b).2.1 := by decide +kernel
theorem tyJ9_ok : ∀ k, k < 0 → parseFieldDescriptor (TJ9 k).2.2.1 = some (tyJ9 k) := by decide +kernel
abbrev cJ9_max_7cf53 : ByteArray := prog_12_method_65_code
def yJ9_max_7cf53 : MethodName := ⟨RJ9, "max", "(II)I"⟩
abbrev cJ9_max_f86c9 : ByteArray := prog_12_method_66_code
def yJ9_max_f86c9 : MethodName := ⟨RJ9, "max", "(JJ)J"⟩
abbrev cJ9_min_7cf53 : ByteArray := prog_12_method_69_code
def yJ9_min_7cf53 : MethodName := ⟨RJ9, "min", "(II)I"⟩
def RJ10 : String := "java/lang/System"
def TJ10 : u_T := fun k => match k with
  | _ => ("", "", "", false)
def tyJ10 : Nat → FieldType := fun k => match k with
  | _ => .int
abbrev wsJ100 : List Cond := u_ws RJ10 TJ10 0
theorem nmJ10 : ∀ a, a < 0 → ∀ b, b < 0 → a ≠ b → (TJ10 a).2.1 ≠ (TJ10 b).2.1 := by decide +kernel
theorem tyJ10_ok : ∀ k, k < 0 → parseFieldDescriptor (TJ10 k).2.2.1 = some (tyJ10 k) := by decide +kernel
def RJ7 : String := "java/util/Arrays"
def TJ7 : u_T := fun k => match k with
  | _ => ("", "", "", false)
def tyJ7 : Nat → FieldType := fun k => match k with
  | _ => .int
abbrev wsJ70 : List Cond := u_ws RJ7 TJ7 0
theorem nmJ7 : ∀ a, a < 0 → ∀ b, b < 0 → a ≠ b → (TJ7 a).2.1 ≠ (TJ7 b).2.1 := by decide +kernel
theorem tyJ7_ok : ∀ k, k < 0 → parseFieldDescriptor (TJ7 k).2.2.1 = some (tyJ7 k) := by decide +kernel
abbrev cJ7_fill_d0a16 : ByteArray := prog_14_method_101_code
def yJ7_fill_d0a16 : MethodName := ⟨RJ7, "fill", "([JJ)V"⟩
abbrev cJ7_fill_53178 : ByteArray := prog_14_method_103_code
def yJ7_fill_53178 : MethodName := ⟨RJ7, "fill", "([II)V"⟩
def RL : String := "LastThreeLaw"
abbrev cL_law : ByteArray := code
def yL_law : MethodName := ⟨RL, "law", "([I)Z"⟩
abbrev vwCl : List vw_C := [(RX0, TX0, 5), (RX1, TX1, 5), (RX2, TX2, 15), (RX3, TX3, 3), (RX4, TX4, 2), (RX5, TX5, 4), (RX6, TX6, 5), (RX7, TX7, 6), (RX8, TX8, 13), (RX9, TX9, 35)]
end
section
def zTB : List Cond := lw_tbl.filter goodWord
theorem zmS {w : Cond} (i : Nat) (h : (k2_sels lw_privs)[i]? = some w) (g : goodWord w = true) : w ∈ zTB := List.mem_filter.mpr ⟨List.mem_append_left _ (List.mem_of_getElem? h), g⟩
theorem zmt {w : Cond} (h : w ∈ tables_1) (g : goodWord w = true) : w ∈ zTB := List.mem_filter.mpr ⟨List.mem_append_right _ h, g⟩
theorem zm1 {w : Cond} (i : Nat) (h : tables_1_1[i]? = some w) (g : goodWord w = true) : w ∈ zTB := zmt (List.mem_append_left _ (List.mem_of_getElem? h)) g
theorem zm2 {w : Cond} (i : Nat) (h : tables_1_2[i]? = some w) (g : goodWord w = true) : w ∈ zTB := zmt (List.mem_append_right _ (List.mem_append_left _ (List.mem_of_getElem? h))) g
theorem zm3 {w : Cond} (i : Nat) (h : tables_1_3[i]? = some w) (g : goodWord w = true) : w ∈ zTB := zmt (List.mem_append_right _ (List.mem_append_right _ (List.mem_append_left _ (List.mem_of_getElem? h)))) g
theorem zm4 {w : Cond} (i : Nat) (h : tables_1_4[i]? = some w) (g : goodWord w = true) : w ∈ zTB := zmt (List.mem_append_right _ (List.mem_append_right _ (List.mem_append_right _ (List.mem_append_left _ (List.mem_of_getElem? h))))) g
theorem zm5 {w : Cond} (i : Nat) (h : tables_1_5[i]? = some w) (g : goodWord w = true) : w ∈ zTB := zmt (List.mem_append_right _ (List.mem_append_right _ (List.mem_append_right _ (List.mem_append_right _ (List.mem_of_getElem? h))))) g
abbrev MI : Type := MethodName × ByteArray × Nat × Option FieldType
/-- a method that may be called on an object; a static one -/
def zMV (Y : MI) (n : Nat) : Prop := Cond.instanceMethod Y.1 ∈ zTB ∧ Cond.selects Y.1.cls Y.1 Y.1 ∈ zTB ∧ Cond.initialized Y.1.cls ∈ zTB ∧ Cond.code Y.1 Y.2.1 Y.2.2.1 Y.2.2.2 ∈ zTB ∧ (Y.1.cls ≠ "java/lang/invoke/MethodHandle" ∧ Y.1.cls ≠ "java/lang/invoke/VarHandle" ∧ (parseMethodDescriptor Y.1.desc).map (fun d => d.parameters.length) = some n) ∧ Y.2.2.1 ≤ 80 ∧ plainName Y.1.cls = true
def zMS (Y : MI) (n : Nat) : Prop := Cond.static Y.1 ∈ zTB ∧ Cond.initialized Y.1.cls ∈ zTB ∧ Cond.code Y.1 Y.2.1 Y.2.2.1 Y.2.2.2 ∈ zTB ∧ (Y.1.cls ≠ "java/lang/invoke/MethodHandle" ∧ Y.1.cls ≠ "java/lang/invoke/VarHandle" ∧ (parseMethodDescriptor Y.1.desc).map (fun d => d.parameters.length) = some n) ∧ Y.2.2.1 ≤ 80 ∧ plainName Y.1.cls = true
/-- a field of a class, by a link of another; one that may be written -/
def zFL (own : String) (idx ci j : Nat) : Prop := ∃ (C : String) (T : u_T) (N : Nat), vwCl[ci]? = some (C, T, N) ∧ j < N ∧ Cond.fieldLink own idx (T j).1 (T j).2.1 (T j).2.2.1 ∈ zTB ∧ ∀ w ∈ u_ws C T N, w ∈ zTB
def zFP (own : String) (idx ci j : Nat) (ty : FieldType) : Prop := ∃ (C : String) (T : u_T) (N : Nat) (ty0 : Nat → FieldType), vwCl[ci]? = some (C, T, N) ∧ j < N ∧ Cond.fieldLink own idx (T j).1 (T j).2.1 (T j).2.2.1 ∈ zTB ∧ (∀ w ∈ u_ws C T N, w ∈ zTB) ∧ (∀ k, k < N → parseFieldDescriptor (T k).2.2.1 = some (ty0 k)) ∧ (∀ a, a < N → ∀ b, b < N → a ≠ b → (T a).2.1 ≠ (T b).2.1) ∧ (T j).2.2.2 = false ∧ parseFieldDescriptor (T j).2.2.1 = some ty
theorem inX0 : ∀ w ∈ u_ws RX0 TX0 5, w ∈ zTB := by
  intro w hw
  obtain ⟨k, hk, rfl⟩ := List.mem_map.mp hw
  have hk := List.mem_range.mp hk
  match k, hk with
  | 0, _ => exact zm2 15 (by decide +kernel) rfl
  | 1, _ => exact zm2 17 (by decide +kernel) rfl
  | 2, _ => exact zm2 19 (by decide +kernel) rfl
  | 3, _ => exact zm2 21 (by decide +kernel) rfl
  | 4, _ => exact zm2 23 (by decide +kernel) rfl
  | k + 5, hk => exact absurd hk (by omega)
theorem inX1 : ∀ w ∈ u_ws RX1 TX1 5, w ∈ zTB := by
  intro w hw
  obtain ⟨k, hk, rfl⟩ := List.mem_map.mp hw
  have hk := List.mem_range.mp hk
  match k, hk with
  | 0, _ => exact zm1 180 (by decide +kernel) rfl
  | 1, _ => exact zm1 182 (by decide +kernel) rfl
  | 2, _ => exact zm1 184 (by decide +kernel) rfl
  | 3, _ => exact zm1 186 (by decide +kernel) rfl
  | 4, _ => exact zm1 188 (by decide +kernel) rfl
  | k + 5, hk => exact absurd hk (by omega)
theorem inX2 : ∀ w ∈ u_ws RX2 TX2 15, w ∈ zTB := by
  intro w hw
  obtain ⟨k, hk, rfl⟩ := List.mem_map.mp hw
  have hk := List.mem_range.mp hk
  match k, hk with
  | 0, _ => exact zm1 85 (by decide +kernel) rfl
  | 1, _ => exact zm1 87 (by decide +kernel) rfl
  | 2, _ => exact zm1 89 (by decide +kernel) rfl
  | 3, _ => exact zm1 91 (by decide +kernel) rfl
  | 4, _ => exact zm1 93 (by decide +kernel) rfl
  | 5, _ => exact zm1 95 (by decide +kernel) rfl
  | 6, _ => exact zm1 97 (by decide +kernel) rfl
  | 7, _ => exact zm1 99 (by decide +kernel) rfl
  | 8, _ => exact zm1 101 (by decide +kernel) rfl
  | 9, _ => exact zm1 103 (by decide +kernel) rfl
  | 10, _ => exact zm1 105 (by decide +kernel) rfl
  | 11, _ => exact zm1 107 (by decide +kernel) rfl
  | 12, _ => exact zm1 109 (by decide +kernel) rfl
  | 13, _ => exact zm1 111 (by decide +kernel) rfl
  | 14, _ => exact zm1 113 (by decide +kernel) rfl
  | k + 15, hk => exact absurd hk (by omega)
theorem inX3 : ∀ w ∈ u_ws RX3 TX3 3, w ∈ zTB := by
  intro w hw
  obtain ⟨k, hk, rfl⟩ := List.mem_map.mp hw
  have hk := List.mem_range.mp hk
  match k, hk with
  | 0, _ => exact zm1 160 (by decide +kernel) rfl
  | 1, _ => exact zm1 162 (by decide +kernel) rfl
  | 2, _ => exact zm1 164 (by decide +kernel) rfl
  | k + 3, hk => exact absurd hk (by omega)
theorem inX4 : ∀ w ∈ u_ws RX4 TX4 2, w ∈ zTB := by
  intro w hw
  obtain ⟨k, hk, rfl⟩ := List.mem_map.mp hw
  have hk := List.mem_range.mp hk
  match k, hk with
  | 0, _ => exact zm1 30 (by decide +kernel) rfl
  | 1, _ => exact zm1 32 (by decide +kernel) rfl
  | k + 2, hk => exact absurd hk (by omega)
theorem inX5 : ∀ w ∈ u_ws RX5 TX5 4, w ∈ zTB := by
  intro w hw
  obtain ⟨k, hk, rfl⟩ := List.mem_map.mp hw
  have hk := List.mem_range.mp hk
  match k, hk with
  | 0, _ => exact zm1 230 (by decide +kernel) rfl
  | 1, _ => exact zm1 232 (by decide +kernel) rfl
  | 2, _ => exact zm1 234 (by decide +kernel) rfl
  | 3, _ => exact zm1 236 (by decide +kernel) rfl
  | k + 4, hk => exact absurd hk (by omega)
theorem inX6 : ∀ w ∈ u_ws RX6 TX6 5, w ∈ zTB := by
  intro w hw
  obtain ⟨k, hk, rfl⟩ := List.mem_map.mp hw
  have hk := List.mem_range.mp hk
  match k, hk with
  | 0, _ => exact zm1 137 (by decide +kernel) rfl
  | 1, _ => exact zm1 139 (by decide +kernel) rfl
  | 2, _ => exact zm1 141 (by decide +kernel) rfl
  | 3, _ => exact zm1 143 (by decide +kernel) rfl
  | 4, _ => exact zm1 145 (by decide +kernel) rfl
  | k + 5, hk => exact absurd hk (by omega)
theorem inX7 : ∀ w ∈ u_ws RX7 TX7 6, w ∈ zTB := by
  intro w hw
  obtain ⟨k, hk, rfl⟩ := List.mem_map.mp hw
  have hk := List.mem_range.mp hk
  match k, hk with
  | 0, _ => exact zm1 206 (by decide +kernel) rfl
  | 1, _ => exact zm1 208 (by decide +kernel) rfl
  | 2, _ => exact zm1 210 (by decide +kernel) rfl
  | 3, _ => exact zm1 212 (by decide +kernel) rfl
  | 4, _ => exact zm1 214 (by decide +kernel) rfl
  | 5, _ => exact zm1 216 (by decide +kernel) rfl
  | k + 6, hk => exact absurd hk (by omega)
theorem inX8 : ∀ w ∈ u_ws RX8 TX8 13, w ∈ zTB := by
  intro w hw
  obtain ⟨k, hk, rfl⟩ := List.mem_map.mp hw
  have hk := List.mem_range.mp hk
  match k, hk with
  | 0, _ => exact zm2 67 (by decide +kernel) rfl
  | 1, _ => exact zm2 69 (by decide +kernel) rfl
  | 2, _ => exact zm2 71 (by decide +kernel) rfl
  | 3, _ => exact zm2 73 (by decide +kernel) rfl
  | 4, _ => exact zm2 75 (by decide +kernel) rfl
  | 5, _ => exact zm2 77 (by decide +kernel) rfl
  | 6, _ => exact zm2 79 (by decide +kernel) rfl
  | 7, _ => exact zm2 81 (by decide +kernel) rfl
  | 8, _ => exact zm2 83 (by decide +kernel) rfl
  | 9, _ => exact zm2 85 (by decide +kernel) rfl
  | 10, _ => exact zm2 87 (by decide +kernel) rfl
  | 11, _ => exact zm2 89 (by decide +kernel) rfl
  | 12, _ => exact zm2 91 (by decide +kernel) rfl
  | k + 13, hk => exact absurd hk (by omega)
theorem inX9 : ∀ w ∈ u_ws RX9 TX9 35, w ∈ zTB := by
  intro w hw
  obtain ⟨k, hk, rfl⟩ := List.mem_map.mp hw
  have hk := List.mem_range.mp hk
  match k, hk with
  | 0, _ => exact zm4 61 (by decide +kernel) rfl
  | 1, _ => exact zm4 63 (by decide +kernel) rfl
  | 2, _ => exact zm4 65 (by decide +kernel) rfl
  | 3, _ => exact zm4 67 (by decide +kernel) rfl
  | 4, _ => exact zm4 69 (by decide +kernel) rfl
  | 5, _ => exact zm4 71 (by decide +kernel) rfl
  | 6, _ => exact zm4 73 (by decide +kernel) rfl
  | 7, _ => exact zm4 75 (by decide +kernel) rfl
  | 8, _ => exact zm4 77 (by decide +kernel) rfl
  | 9, _ => exact zm4 79 (by decide +kernel) rfl
  | 10, _ => exact zm4 81 (by decide +kernel) rfl
  | 11, _ => exact zm4 83 (by decide +kernel) rfl
  | 12, _ => exact zm4 85 (by decide +kernel) rfl
  | 13, _ => exact zm4 87 (by decide +kernel) rfl
  | 14, _ => exact zm4 89 (by decide +kernel) rfl
  | 15, _ => exact zm4 91 (by decide +kernel) rfl
  | 16, _ => exact zm4 93 (by decide +kernel) rfl
  | 17, _ => exact zm4 95 (by decide +kernel) rfl
  | 18, _ => exact zm4 97 (by decide +kernel) rfl
  | 19, _ => exact zm4 99 (by decide +kernel) rfl
  | 20, _ => exact zm4 101 (by decide +kernel) rfl
  | 21, _ => exact zm4 103 (by decide +kernel) rfl
  | 22, _ => exact zm4 105 (by decide +kernel) rfl
  | 23, _ => exact zm4 107 (by decide +kernel) rfl
  | 24, _ => exact zm4 109 (by decide +kernel) rfl
  | 25, _ => exact zm4 111 (by decide +kernel) rfl
  | 26, _ => exact zm4 113 (by decide +kernel) rfl
  | 27, _ => exact zm4 115 (by decide +kernel) rfl
  | 28, _ => exact zm4 117 (by decide +kernel) rfl
  | 29, _ => exact zm4 119 (by decide +kernel) rfl
  | 30, _ => exact zm4 121 (by decide +kernel) rfl
  | 31, _ => exact zm4 123 (by decide +kernel) rfl
  | 32, _ => exact zm4 125 (by decide +kernel) rfl
  | 33, _ => exact zm4 127 (by decide +kernel) rfl
  | 34, _ => exact zm4 129 (by decide +kernel) rfl
  | k + 35, hk => exact absurd hk (by omega)
abbrev mJ7_fill_53178 : MI := (yJ7_fill_53178, cJ7_fill_53178, 4, none)
theorem vJ7_fill_53178 : zMS mJ7_fill_53178 2 := ⟨zm2 31 (by decide +kernel) rfl, zm1 10 (by decide +kernel) rfl, zm2 32 (by decide +kernel) rfl, ⟨(by decide +kernel), (by decide +kernel), (by decide +kernel)⟩, by decide, (by decide +kernel)⟩
abbrev mJ7_fill_d0a16 : MI := (yJ7_fill_d0a16, cJ7_fill_d0a16, 5, none)
theorem vJ7_fill_d0a16 : zMS mJ7_fill_d0a16 2 := ⟨zm3 143 (by decide +kernel) rfl, zm1 10 (by decide +kernel) rfl, zm3 144 (by decide +kernel) rfl, ⟨(by decide +kernel), (by decide +kernel), (by decide +kernel)⟩, by decide, (by decide +kernel)⟩
abbrev mJ9_max_7cf53 : MI := (yJ9_max_7cf53, cJ9_max_7cf53, 2, (some .int))
theorem zw_max_s : Cond.static Lib.Math.max.name ∈ zTB := zm2 45 (by decide +kernel) rfl
theorem zw_max_c : Cond.code Lib.Math.max.name Lib.Math.max.code 2 (some .int) ∈ zTB := zm2 46 (by decide +kernel) rfl
theorem zw_math : Cond.initialized "java/lang/Math" ∈ zTB := zm1 11 (by decide +kernel) rfl
abbrev mJ9_max_f86c9 : MI := (yJ9_max_f86c9, cJ9_max_f86c9, 4, (some .long))
theorem zw_maxl_s : Cond.static Lib.MathLoose.max_long.x ∈ zTB := zm3 189 (by decide +kernel) rfl
theorem zw_maxl_c : Cond.code Lib.MathLoose.max_long.x Lib.MathLoose.max_long.code 4 (some .long) ∈ zTB := zm3 190 (by decide +kernel) rfl
abbrev mJ9_min_7cf53 : MI := (yJ9_min_7cf53, cJ9_min_7cf53, 2, (some .int))
theorem zw_min_s : Cond.static Lib.Math.min.name ∈ zTB := zm2 112 (by decide +kernel) rfl
theorem zw_min_c : Cond.code Lib.Math.min.name Lib.Math.min.code 2 (some .int) ∈ zTB := zm2 113 (by decide +kernel) rfl
abbrev mX0_advance : MI := (yX0_advance, cX0_advance, 5, (some .int))
theorem vX0_advance : zMV mX0_advance 2 := ⟨zm3 204 (by decide +kernel) rfl, zm3 205 (by decide +kernel) rfl, zm1 9 (by decide +kernel) rfl, zm3 206 (by decide +kernel) rfl, ⟨(by decide +kernel), (by decide +kernel), (by decide +kernel)⟩, by decide, (by decide +kernel)⟩
abbrev mX0_asksAhead : MI := (yX0_asksAhead, cX0_asksAhead, 8, (some .long))
theorem vX0_asksAhead : zMV mX0_asksAhead 3 := ⟨zm3 236 (by decide +kernel) rfl, zmS 31 (by decide +kernel) rfl, zm1 9 (by decide +kernel) rfl, zm3 237 (by decide +kernel) rfl, ⟨(by decide +kernel), (by decide +kernel), (by decide +kernel)⟩, by decide, (by decide +kernel)⟩
abbrev mX0_findRing : MI := (yX0_findRing, cX0_findRing, 5, (some .boolean))
theorem vX0_findRing : zMV mX0_findRing 2 := ⟨zm3 213 (by decide +kernel) rfl, zm3 214 (by decide +kernel) rfl, zm1 9 (by decide +kernel) rfl, zm3 215 (by decide +kernel) rfl, ⟨(by decide +kernel), (by decide +kernel), (by decide +kernel)⟩, by decide, (by decide +kernel)⟩
abbrev mX0_giftsAhead : MI := (yX0_giftsAhead, cX0_giftsAhead, 9, (some .long))
theorem vX0_giftsAhead : zMV mX0_giftsAhead 3 := ⟨zm4 0 (by decide +kernel) rfl, zmS 32 (by decide +kernel) rfl, zm1 9 (by decide +kernel) rfl, zm4 1 (by decide +kernel) rfl, ⟨(by decide +kernel), (by decide +kernel), (by decide +kernel)⟩, by decide, (by decide +kernel)⟩
abbrev mX0_init : MI := (yX0_init, cX0_init, 1, none)
abbrev mX0_numberOf : MI := (yX0_numberOf, cX0_numberOf, 6, (some .long))
theorem vX0_numberOf : zMV mX0_numberOf 2 := ⟨zm3 222 (by decide +kernel) rfl, zmS 30 (by decide +kernel) rfl, zm1 9 (by decide +kernel) rfl, zm3 223 (by decide +kernel) rfl, ⟨(by decide +kernel), (by decide +kernel), (by decide +kernel)⟩, by decide, (by decide +kernel)⟩
abbrev mX0_statesAhead : MI := (yX0_statesAhead, cX0_statesAhead, 6, (some .long))
theorem vX0_statesAhead : zMV mX0_statesAhead 2 := ⟨zm3 231 (by decide +kernel) rfl, zm3 232 (by decide +kernel) rfl, zm1 9 (by decide +kernel) rfl, zm3 233 (by decide +kernel) rfl, ⟨(by decide +kernel), (by decide +kernel), (by decide +kernel)⟩, by decide, (by decide +kernel)⟩
abbrev mX1_find : MI := (yX1_find, cX1_find, 3, none)
theorem vX1_find : zMV mX1_find 2 := ⟨zm2 231 (by decide +kernel) rfl, zm2 232 (by decide +kernel) rfl, zm1 6 (by decide +kernel) rfl, zm2 233 (by decide +kernel) rfl, ⟨(by decide +kernel), (by decide +kernel), (by decide +kernel)⟩, by decide, (by decide +kernel)⟩
abbrev mX1_findAlike : MI := (yX1_findAlike, cX1_findAlike, 4, none)
theorem vX1_findAlike : zMV mX1_findAlike 1 := ⟨zm2 237 (by decide +kernel) rfl, zmS 9 (by decide +kernel) rfl, zm1 6 (by decide +kernel) rfl, zm2 238 (by decide +kernel) rfl, ⟨(by decide +kernel), (by decide +kernel), (by decide +kernel)⟩, by decide, (by decide +kernel)⟩
abbrev mX1_firstOfMost : MI := (yX1_firstOfMost, cX1_firstOfMost, 7, (some .int))
theorem vX1_firstOfMost : zMV mX1_firstOfMost 4 := ⟨zm3 44 (by decide +kernel) rfl, zmS 15 (by decide +kernel) rfl, zm1 6 (by decide +kernel) rfl, zm3 45 (by decide +kernel) rfl, ⟨(by decide +kernel), (by decide +kernel), (by decide +kernel)⟩, by decide, (by decide +kernel)⟩
abbrev mX1_followMost : MI := (yX1_followMost, cX1_followMost, 6, none)
theorem vX1_followMost : zMV mX1_followMost 1 := ⟨zm3 40 (by decide +kernel) rfl, zmS 14 (by decide +kernel) rfl, zm1 6 (by decide +kernel) rfl, zm3 41 (by decide +kernel) rfl, ⟨(by decide +kernel), (by decide +kernel), (by decide +kernel)⟩, by decide, (by decide +kernel)⟩
abbrev mX1_forget : MI := (yX1_forget, cX1_forget, 1, none)
theorem vX1_forget : zMV mX1_forget 0 := ⟨zm2 161 (by decide +kernel) rfl, zm2 162 (by decide +kernel) rfl, zm1 6 (by decide +kernel) rfl, zm2 163 (by decide +kernel) rfl, ⟨(by decide +kernel), (by decide +kernel), (by decide +kernel)⟩, by decide, (by decide +kernel)⟩
abbrev mX1_init : MI := (yX1_init, cX1_init, 1, none)
abbrev mX1_mayCome : MI := (yX1_mayCome, cX1_mayCome, 4, (some .boolean))
theorem vX1_mayCome : zMV mX1_mayCome 3 := ⟨zm3 17 (by decide +kernel) rfl, zmS 11 (by decide +kernel) rfl, zm1 6 (by decide +kernel) rfl, zm3 18 (by decide +kernel) rfl, ⟨(by decide +kernel), (by decide +kernel), (by decide +kernel)⟩, by decide, (by decide +kernel)⟩
abbrev mX1_mostIfComes : MI := (yX1_mostIfComes, cX1_mostIfComes, 8, (some .int))
theorem vX1_mostIfComes : zMV mX1_mostIfComes 5 := ⟨zm3 21 (by decide +kernel) rfl, zmS 12 (by decide +kernel) rfl, zm1 6 (by decide +kernel) rfl, zm3 22 (by decide +kernel) rfl, ⟨(by decide +kernel), (by decide +kernel), (by decide +kernel)⟩, by decide, (by decide +kernel)⟩
abbrev mX1_mostLeft : MI := (yX1_mostLeft, cX1_mostLeft, 10, (some .int))
theorem vX1_mostLeft : zMV mX1_mostLeft 4 := ⟨zm3 13 (by decide +kernel) rfl, zmS 10 (by decide +kernel) rfl, zm1 6 (by decide +kernel) rfl, zm3 14 (by decide +kernel) rfl, ⟨(by decide +kernel), (by decide +kernel), (by decide +kernel)⟩, by decide, (by decide +kernel)⟩
abbrev mX1_pairBehind : MI := (yX1_pairBehind, cX1_pairBehind, 4, (some .int))
theorem vX1_pairBehind : zMV mX1_pairBehind 3 := ⟨zm3 35 (by decide +kernel) rfl, zmS 13 (by decide +kernel) rfl, zm1 6 (by decide +kernel) rfl, zm3 36 (by decide +kernel) rfl, ⟨(by decide +kernel), (by decide +kernel), (by decide +kernel)⟩, by decide, (by decide +kernel)⟩
abbrev mX2_addAsked : MI := (yX2_addAsked, cX2_addAsked, 2, (some .boolean))
theorem vX2_addAsked : zMV mX2_addAsked 1 := ⟨zm2 132 (by decide +kernel) rfl, zm2 133 (by decide +kernel) rfl, zm1 3 (by decide +kernel) rfl, zm2 134 (by decide +kernel) rfl, ⟨(by decide +kernel), (by decide +kernel), (by decide +kernel)⟩, by decide, (by decide +kernel)⟩
abbrev mX2_addPost : MI := (yX2_addPost, cX2_addPost, 5, (some .boolean))
theorem vX2_addPost : zMV mX2_addPost 4 := ⟨zm2 149 (by decide +kernel) rfl, zm2 150 (by decide +kernel) rfl, zm1 3 (by decide +kernel) rfl, zm2 151 (by decide +kernel) rfl, ⟨(by decide +kernel), (by decide +kernel), (by decide +kernel)⟩, by decide, (by decide +kernel)⟩
abbrev mX2_addWish : MI := (yX2_addWish, cX2_addWish, 2, (some .boolean))
theorem vX2_addWish : zMV mX2_addWish 1 := ⟨zm2 34 (by decide +kernel) rfl, zm2 35 (by decide +kernel) rfl, zm1 3 (by decide +kernel) rfl, zm2 36 (by decide +kernel) rfl, ⟨(by decide +kernel), (by decide +kernel), (by decide +kernel)⟩, by decide, (by decide +kernel)⟩
abbrev mX2_askedBack : MI := (yX2_askedBack, cX2_askedBack, 3, (some .int))
theorem vX2_askedBack : zMV mX2_askedBack 1 := ⟨zm3 8 (by decide +kernel) rfl, zm3 9 (by decide +kernel) rfl, zm1 3 (by decide +kernel) rfl, zm3 10 (by decide +kernel) rfl, ⟨(by decide +kernel), (by decide +kernel), (by decide +kernel)⟩, by decide, (by decide +kernel)⟩
abbrev mX2_clear : MI := (yX2_clear, cX2_clear, 2, none)
theorem vX2_clear : zMV mX2_clear 0 := ⟨zm2 27 (by decide +kernel) rfl, zm2 28 (by decide +kernel) rfl, zm1 3 (by decide +kernel) rfl, zm2 29 (by decide +kernel) rfl, ⟨(by decide +kernel), (by decide +kernel), (by decide +kernel)⟩, by decide, (by decide +kernel)⟩
abbrev mX2_hasBehind : MI := (yX2_hasBehind, cX2_hasBehind, 4, (some .boolean))
theorem vX2_hasBehind : zMV mX2_hasBehind 2 := ⟨zm3 24 (by decide +kernel) rfl, zm3 25 (by decide +kernel) rfl, zm1 3 (by decide +kernel) rfl, zm3 26 (by decide +kernel) rfl, ⟨(by decide +kernel), (by decide +kernel), (by decide +kernel)⟩, by decide, (by decide +kernel)⟩
abbrev mX2_holdsTogether : MI := (yX2_holdsTogether, cX2_holdsTogether, 1, (some .boolean))
theorem vX2_holdsTogether : zMV mX2_holdsTogether 0 := ⟨zm2 157 (by decide +kernel) rfl, zm2 158 (by decide +kernel) rfl, zm1 3 (by decide +kernel) rfl, zm2 159 (by decide +kernel) rfl, ⟨(by decide +kernel), (by decide +kernel), (by decide +kernel)⟩, by decide, (by decide +kernel)⟩
abbrev mX2_init : MI := (yX2_init, cX2_init, 1, none)
abbrev mX2_isIn : MI := (yX2_isIn, cX2_isIn, 3, (some .boolean))
theorem vX2_isIn : zMV mX2_isIn 2 := ⟨zm3 0 (by decide +kernel) rfl, zm3 1 (by decide +kernel) rfl, zm1 3 (by decide +kernel) rfl, zm3 2 (by decide +kernel) rfl, ⟨(by decide +kernel), (by decide +kernel), (by decide +kernel)⟩, by decide, (by decide +kernel)⟩
abbrev mX2_noteSign : MI := (yX2_noteSign, cX2_noteSign, 2, (some .boolean))
theorem vX2_noteSign : zMV mX2_noteSign 1 := ⟨zm2 142 (by decide +kernel) rfl, zmS 3 (by decide +kernel) rfl, zm1 3 (by decide +kernel) rfl, zm2 143 (by decide +kernel) rfl, ⟨(by decide +kernel), (by decide +kernel), (by decide +kernel)⟩, by decide, (by decide +kernel)⟩
abbrev mX2_noteThing : MI := (yX2_noteThing, cX2_noteThing, 2, (some .boolean))
theorem vX2_noteThing : zMV mX2_noteThing 1 := ⟨zm2 39 (by decide +kernel) rfl, zmS 0 (by decide +kernel) rfl, zm1 3 (by decide +kernel) rfl, zm2 40 (by decide +kernel) rfl, ⟨(by decide +kernel), (by decide +kernel), (by decide +kernel)⟩, by decide, (by decide +kernel)⟩
abbrev mX2_pairAhead : MI := (yX2_pairAhead, cX2_pairAhead, 1, (some .int))
theorem vX2_pairAhead : zMV mX2_pairAhead 0 := ⟨zm3 4 (by decide +kernel) rfl, zm3 5 (by decide +kernel) rfl, zm1 3 (by decide +kernel) rfl, zm3 6 (by decide +kernel) rfl, ⟨(by decide +kernel), (by decide +kernel), (by decide +kernel)⟩, by decide, (by decide +kernel)⟩
abbrev mX2_remembersTwo : MI := (yX2_remembersTwo, cX2_remembersTwo, 1, (some .boolean))
theorem vX2_remembersTwo : zMV mX2_remembersTwo 0 := ⟨zm2 227 (by decide +kernel) rfl, zm2 228 (by decide +kernel) rfl, zm1 3 (by decide +kernel) rfl, zm2 229 (by decide +kernel) rfl, ⟨(by decide +kernel), (by decide +kernel), (by decide +kernel)⟩, by decide, (by decide +kernel)⟩
abbrev mX2_setKind : MI := (yX2_setKind, cX2_setKind, 2, (some .boolean))
theorem vX2_setKind : zMV mX2_setKind 1 := ⟨zm2 128 (by decide +kernel) rfl, zm2 129 (by decide +kernel) rfl, zm1 3 (by decide +kernel) rfl, zm2 130 (by decide +kernel) rfl, ⟨(by decide +kernel), (by decide +kernel), (by decide +kernel)⟩, by decide, (by decide +kernel)⟩
abbrev mX2_setParts : MI := (yX2_setParts, cX2_setParts, 3, (some .boolean))
theorem vX2_setParts : zMV mX2_setParts 2 := ⟨zm2 145 (by decide +kernel) rfl, zm2 146 (by decide +kernel) rfl, zm1 3 (by decide +kernel) rfl, zm2 147 (by decide +kernel) rfl, ⟨(by decide +kernel), (by decide +kernel), (by decide +kernel)⟩, by decide, (by decide +kernel)⟩
abbrev mX2_setThings : MI := (yX2_setThings, cX2_setThings, 2, (some .boolean))
theorem vX2_setThings : zMV mX2_setThings 1 := ⟨zm2 124 (by decide +kernel) rfl, zm2 125 (by decide +kernel) rfl, zm1 3 (by decide +kernel) rfl, zm2 126 (by decide +kernel) rfl, ⟨(by decide +kernel), (by decide +kernel), (by decide +kernel)⟩, by decide, (by decide +kernel)⟩
abbrev mX2_setWorth : MI := (yX2_setWorth, cX2_setWorth, 4, (some .boolean))
theorem vX2_setWorth : zMV mX2_setWorth 3 := ⟨zm2 137 (by decide +kernel) rfl, zm2 138 (by decide +kernel) rfl, zm1 3 (by decide +kernel) rfl, zm2 139 (by decide +kernel) rfl, ⟨(by decide +kernel), (by decide +kernel), (by decide +kernel)⟩, by decide, (by decide +kernel)⟩
abbrev mX2_worthOf : MI := (yX2_worthOf, cX2_worthOf, 3, (some .int))
theorem vX2_worthOf : zMV mX2_worthOf 2 := ⟨zm2 181 (by decide +kernel) rfl, zm2 182 (by decide +kernel) rfl, zm1 3 (by decide +kernel) rfl, zm2 183 (by decide +kernel) rfl, ⟨(by decide +kernel), (by decide +kernel), (by decide +kernel)⟩, by decide, (by decide +kernel)⟩
abbrev mX3_bestAsk : MI := (yX3_bestAsk, cX3_bestAsk, 8, (some .int))
theorem vX3_bestAsk : zMV mX3_bestAsk 3 := ⟨zm3 93 (by decide +kernel) rfl, zmS 20 (by decide +kernel) rfl, zm1 5 (by decide +kernel) rfl, zm3 94 (by decide +kernel) rfl, ⟨(by decide +kernel), (by decide +kernel), (by decide +kernel)⟩, by decide, (by decide +kernel)⟩
abbrev mX3_comeAsWished : MI := (yX3_comeAsWished, cX3_comeAsWished, 5, none)
theorem vX3_comeAsWished : zMV mX3_comeAsWished 2 := ⟨zm2 193 (by decide +kernel) rfl, zm2 194 (by decide +kernel) rfl, zm1 5 (by decide +kernel) rfl, zm2 195 (by decide +kernel) rfl, ⟨(by decide +kernel), (by decide +kernel), (by decide +kernel)⟩, by decide, (by decide +kernel)⟩
abbrev mX3_comeForThemselves : MI := (yX3_comeForThemselves, cX3_comeForThemselves, 4, none)
theorem vX3_comeForThemselves : zMV mX3_comeForThemselves 1 := ⟨zm3 88 (by decide +kernel) rfl, zm3 89 (by decide +kernel) rfl, zm1 5 (by decide +kernel) rfl, zm3 90 (by decide +kernel) rfl, ⟨(by decide +kernel), (by decide +kernel), (by decide +kernel)⟩, by decide, (by decide +kernel)⟩
abbrev mX3_differing : MI := (yX3_differing, cX3_differing, 5, (some .int))
theorem vX3_differing : zMV mX3_differing 2 := ⟨zm2 214 (by decide +kernel) rfl, zm2 215 (by decide +kernel) rfl, zm1 5 (by decide +kernel) rfl, zm2 216 (by decide +kernel) rfl, ⟨(by decide +kernel), (by decide +kernel), (by decide +kernel)⟩, by decide, (by decide +kernel)⟩
abbrev mX3_gains : MI := (yX3_gains, cX3_gains, 5, (some .boolean))
theorem vX3_gains : zMV mX3_gains 3 := ⟨zm3 118 (by decide +kernel) rfl, zmS 23 (by decide +kernel) rfl, zm1 5 (by decide +kernel) rfl, zm3 119 (by decide +kernel) rfl, ⟨(by decide +kernel), (by decide +kernel), (by decide +kernel)⟩, by decide, (by decide +kernel)⟩
abbrev mX3_init : MI := (yX3_init, cX3_init, 1, none)
abbrev mX3_startRow : MI := (yX3_startRow, cX3_startRow, 2, none)
theorem vX3_startRow : zMV mX3_startRow 1 := ⟨zm2 198 (by decide +kernel) rfl, zmS 7 (by decide +kernel) rfl, zm1 5 (by decide +kernel) rfl, zm2 199 (by decide +kernel) rfl, ⟨(by decide +kernel), (by decide +kernel), (by decide +kernel)⟩, by decide, (by decide +kernel)⟩
abbrev mX3_swapFirstTwo : MI := (yX3_swapFirstTwo, cX3_swapFirstTwo, 5, (some .boolean))
theorem vX3_swapFirstTwo : zMV mX3_swapFirstTwo 1 := ⟨zm3 114 (by decide +kernel) rfl, zmS 22 (by decide +kernel) rfl, zm1 5 (by decide +kernel) rfl, zm3 115 (by decide +kernel) rfl, ⟨(by decide +kernel), (by decide +kernel), (by decide +kernel)⟩, by decide, (by decide +kernel)⟩
abbrev mX3_swapTillNobodyGains : MI := (yX3_swapTillNobodyGains, cX3_swapTillNobodyGains, 3, (some .int))
theorem vX3_swapTillNobodyGains : zMV mX3_swapTillNobodyGains 1 := ⟨zm3 109 (by decide +kernel) rfl, zm3 110 (by decide +kernel) rfl, zm1 5 (by decide +kernel) rfl, zm3 111 (by decide +kernel) rfl, ⟨(by decide +kernel), (by decide +kernel), (by decide +kernel)⟩, by decide, (by decide +kernel)⟩
abbrev mX3_worthOfAsk : MI := (yX3_worthOfAsk, cX3_worthOfAsk, 5, (some .int))
theorem vX3_worthOfAsk : zMV mX3_worthOfAsk 4 := ⟨zm3 97 (by decide +kernel) rfl, zmS 21 (by decide +kernel) rfl, zm1 5 (by decide +kernel) rfl, zm3 98 (by decide +kernel) rfl, ⟨(by decide +kernel), (by decide +kernel), (by decide +kernel)⟩, by decide, (by decide +kernel)⟩
abbrev mX4_init : MI := (yX4_init, cX4_init, 1, none)
abbrev mX4_readInto : MI := (yX4_readInto, cX4_readInto, 8, (some .int))
theorem vX4_readInto : zMV mX4_readInto 3 := ⟨zm2 108 (by decide +kernel) rfl, zm2 109 (by decide +kernel) rfl, zm1 2 (by decide +kernel) rfl, zm2 110 (by decide +kernel) rfl, ⟨(by decide +kernel), (by decide +kernel), (by decide +kernel)⟩, by decide, (by decide +kernel)⟩
abbrev mX4_readNumbers : MI := (yX4_readNumbers, cX4_readNumbers, 8, (some .int))
theorem vX4_readNumbers : zMV mX4_readNumbers 3 := ⟨zm2 117 (by decide +kernel) rfl, zmS 1 (by decide +kernel) rfl, zm1 2 (by decide +kernel) rfl, zm2 118 (by decide +kernel) rfl, ⟨(by decide +kernel), (by decide +kernel), (by decide +kernel)⟩, by decide, (by decide +kernel)⟩
abbrev mX4_tell : MI := (yX4_tell, cX4_tell, 6, (some .boolean))
theorem vX4_tell : zMV mX4_tell 2 := ⟨zm2 121 (by decide +kernel) rfl, zmS 2 (by decide +kernel) rfl, zm1 2 (by decide +kernel) rfl, zm2 122 (by decide +kernel) rfl, ⟨(by decide +kernel), (by decide +kernel), (by decide +kernel)⟩, by decide, (by decide +kernel)⟩
abbrev mX5_findLikeliest : MI := (yX5_findLikeliest, cX5_findLikeliest, 5, (some .boolean))
theorem vX5_findLikeliest : zMV mX5_findLikeliest 2 := ⟨zm3 177 (by decide +kernel) rfl, zm3 178 (by decide +kernel) rfl, zm1 8 (by decide +kernel) rfl, zm3 179 (by decide +kernel) rfl, ⟨(by decide +kernel), (by decide +kernel), (by decide +kernel)⟩, by decide, (by decide +kernel)⟩
abbrev mX5_firstOfGreatest : MI := (yX5_firstOfGreatest, cX5_firstOfGreatest, 6, (some .int))
theorem vX5_firstOfGreatest : zMV mX5_firstOfGreatest 4 := ⟨zm3 193 (by decide +kernel) rfl, zmS 29 (by decide +kernel) rfl, zm1 8 (by decide +kernel) rfl, zm3 194 (by decide +kernel) rfl, ⟨(by decide +kernel), (by decide +kernel), (by decide +kernel)⟩, by decide, (by decide +kernel)⟩
abbrev mX5_greatestFrom : MI := (yX5_greatestFrom, cX5_greatestFrom, 8, (some .long))
theorem vX5_greatestFrom : zMV mX5_greatestFrom 4 := ⟨zm3 182 (by decide +kernel) rfl, zmS 27 (by decide +kernel) rfl, zm1 8 (by decide +kernel) rfl, zm3 183 (by decide +kernel) rfl, ⟨(by decide +kernel), (by decide +kernel), (by decide +kernel)⟩, by decide, (by decide +kernel)⟩
abbrev mX5_init : MI := (yX5_init, cX5_init, 1, none)
abbrev mX5_number : MI := (yX5_number, cX5_number, 4, (some .long))
theorem vX5_number : zMV mX5_number 2 := ⟨zm3 135 (by decide +kernel) rfl, zm3 136 (by decide +kernel) rfl, zm1 8 (by decide +kernel) rfl, zm3 137 (by decide +kernel) rfl, ⟨(by decide +kernel), (by decide +kernel), (by decide +kernel)⟩, by decide, (by decide +kernel)⟩
abbrev mX5_sumOver : MI := (yX5_sumOver, cX5_sumOver, 7, none)
theorem vX5_sumOver : zMV mX5_sumOver 4 := ⟨zm3 148 (by decide +kernel) rfl, zmS 25 (by decide +kernel) rfl, zm1 8 (by decide +kernel) rfl, zm3 149 (by decide +kernel) rfl, ⟨(by decide +kernel), (by decide +kernel), (by decide +kernel)⟩, by decide, (by decide +kernel)⟩
abbrev mX5_sumUp : MI := (yX5_sumUp, cX5_sumUp, 8, (some .long))
theorem vX5_sumUp : zMV mX5_sumUp 4 := ⟨zm3 140 (by decide +kernel) rfl, zmS 24 (by decide +kernel) rfl, zm1 8 (by decide +kernel) rfl, zm3 141 (by decide +kernel) rfl, ⟨(by decide +kernel), (by decide +kernel), (by decide +kernel)⟩, by decide, (by decide +kernel)⟩
abbrev mX5_weight : MI := (yX5_weight, cX5_weight, 3, (some .long))
theorem vX5_weight : zMV mX5_weight 2 := ⟨zm3 152 (by decide +kernel) rfl, zm3 153 (by decide +kernel) rfl, zm1 8 (by decide +kernel) rfl, zm3 154 (by decide +kernel) rfl, ⟨(by decide +kernel), (by decide +kernel), (by decide +kernel)⟩, by decide, (by decide +kernel)⟩
abbrev mX5_weightFrom : MI := (yX5_weightFrom, cX5_weightFrom, 7, (some .long))
theorem vX5_weightFrom : zMV mX5_weightFrom 5 := ⟨zm3 186 (by decide +kernel) rfl, zmS 28 (by decide +kernel) rfl, zm1 8 (by decide +kernel) rfl, zm3 187 (by decide +kernel) rfl, ⟨(by decide +kernel), (by decide +kernel), (by decide +kernel)⟩, by decide, (by decide +kernel)⟩
abbrev mX5_weightWith : MI := (yX5_weightWith, cX5_weightWith, 6, (some .long))
theorem vX5_weightWith : zMV mX5_weightWith 4 := ⟨zm3 156 (by decide +kernel) rfl, zm3 157 (by decide +kernel) rfl, zm1 8 (by decide +kernel) rfl, zm3 158 (by decide +kernel) rfl, ⟨(by decide +kernel), (by decide +kernel), (by decide +kernel)⟩, by decide, (by decide +kernel)⟩
abbrev mX6_begin : MI := (yX6_begin, cX6_begin, 2, none)
theorem vX6_begin : zMV mX6_begin 1 := ⟨zm2 48 (by decide +kernel) rfl, zm2 49 (by decide +kernel) rfl, zm1 4 (by decide +kernel) rfl, zm2 50 (by decide +kernel) rfl, ⟨(by decide +kernel), (by decide +kernel), (by decide +kernel)⟩, by decide, (by decide +kernel)⟩
abbrev mX6_copyFrom : MI := (yX6_copyFrom, cX6_copyFrom, 2, none)
theorem vX6_copyFrom : zMV mX6_copyFrom 1 := ⟨zm3 217 (by decide +kernel) rfl, zm3 218 (by decide +kernel) rfl, zm1 4 (by decide +kernel) rfl, zm3 219 (by decide +kernel) rfl, ⟨(by decide +kernel), (by decide +kernel), (by decide +kernel)⟩, by decide, (by decide +kernel)⟩
abbrev mX6_init : MI := (yX6_init, cX6_init, 1, none)
abbrev mX7_costAtOnce : MI := (yX7_costAtOnce, cX7_costAtOnce, 4, (some .int))
theorem vX7_costAtOnce : zMV mX7_costAtOnce 3 := ⟨zm3 61 (by decide +kernel) rfl, zmS 17 (by decide +kernel) rfl, zm1 7 (by decide +kernel) rfl, zm3 62 (by decide +kernel) rfl, ⟨(by decide +kernel), (by decide +kernel), (by decide +kernel)⟩, by decide, (by decide +kernel)⟩
abbrev mX7_find : MI := (yX7_find, cX7_find, 4, none)
theorem vX7_find : zMV mX7_find 2 := ⟨zm3 51 (by decide +kernel) rfl, zm3 52 (by decide +kernel) rfl, zm1 7 (by decide +kernel) rfl, zm3 53 (by decide +kernel) rfl, ⟨(by decide +kernel), (by decide +kernel), (by decide +kernel)⟩, by decide, (by decide +kernel)⟩
abbrev mX7_findFewest : MI := (yX7_findFewest, cX7_findFewest, 7, none)
theorem vX7_findFewest : zMV mX7_findFewest 2 := ⟨zm3 57 (by decide +kernel) rfl, zmS 16 (by decide +kernel) rfl, zm1 7 (by decide +kernel) rfl, zm3 58 (by decide +kernel) rfl, ⟨(by decide +kernel), (by decide +kernel), (by decide +kernel)⟩, by decide, (by decide +kernel)⟩
abbrev mX7_firstStranger : MI := (yX7_firstStranger, cX7_firstStranger, 8, (some .int))
theorem vX7_firstStranger : zMV mX7_firstStranger 3 := ⟨zm3 73 (by decide +kernel) rfl, zmS 19 (by decide +kernel) rfl, zm1 7 (by decide +kernel) rfl, zm3 74 (by decide +kernel) rfl, ⟨(by decide +kernel), (by decide +kernel), (by decide +kernel)⟩, by decide, (by decide +kernel)⟩
abbrev mX7_follow : MI := (yX7_follow, cX7_follow, 7, none)
theorem vX7_follow : zMV mX7_follow 1 := ⟨zm3 69 (by decide +kernel) rfl, zmS 18 (by decide +kernel) rfl, zm1 7 (by decide +kernel) rfl, zm3 70 (by decide +kernel) rfl, ⟨(by decide +kernel), (by decide +kernel), (by decide +kernel)⟩, by decide, (by decide +kernel)⟩
abbrev mX7_forget : MI := (yX7_forget, cX7_forget, 1, none)
theorem vX7_forget : zMV mX7_forget 0 := ⟨zm2 165 (by decide +kernel) rfl, zm2 166 (by decide +kernel) rfl, zm1 7 (by decide +kernel) rfl, zm2 167 (by decide +kernel) rfl, ⟨(by decide +kernel), (by decide +kernel), (by decide +kernel)⟩, by decide, (by decide +kernel)⟩
abbrev mX7_init : MI := (yX7_init, cX7_init, 1, none)
abbrev mX7_isOne : MI := (yX7_isOne, cX7_isOne, 2, (some .boolean))
theorem vX7_isOne : zMV mX7_isOne 1 := ⟨zm3 76 (by decide +kernel) rfl, zm3 77 (by decide +kernel) rfl, zm1 7 (by decide +kernel) rfl, zm3 78 (by decide +kernel) rfl, ⟨(by decide +kernel), (by decide +kernel), (by decide +kernel)⟩, by decide, (by decide +kernel)⟩
abbrev mX8_ahead : MI := (yX8_ahead, cX8_ahead, 3, (some .int))
theorem vX8_ahead : zMV mX8_ahead 2 := ⟨zm3 80 (by decide +kernel) rfl, zm3 81 (by decide +kernel) rfl, zm1 1 (by decide +kernel) rfl, zm3 82 (by decide +kernel) rfl, ⟨(by decide +kernel), (by decide +kernel), (by decide +kernel)⟩, by decide, (by decide +kernel)⟩
abbrev mX8_asks : MI := (yX8_asks, cX8_asks, 3, (some .int))
theorem vX8_asks : zMV mX8_asks 2 := ⟨zm3 84 (by decide +kernel) rfl, zm3 85 (by decide +kernel) rfl, zm1 1 (by decide +kernel) rfl, zm3 86 (by decide +kernel) rfl, ⟨(by decide +kernel), (by decide +kernel), (by decide +kernel)⟩, by decide, (by decide +kernel)⟩
abbrev mX8_back : MI := (yX8_back, cX8_back, 1, (some .int))
theorem vX8_back : zMV mX8_back 0 := ⟨zm4 8 (by decide +kernel) rfl, zm4 9 (by decide +kernel) rfl, zm1 1 (by decide +kernel) rfl, zm4 10 (by decide +kernel) rfl, ⟨(by decide +kernel), (by decide +kernel), (by decide +kernel)⟩, by decide, (by decide +kernel)⟩
abbrev mX8_before : MI := (yX8_before, cX8_before, 1, (some .long))
theorem vX8_before : zMV mX8_before 0 := ⟨zm3 227 (by decide +kernel) rfl, zm3 228 (by decide +kernel) rfl, zm1 1 (by decide +kernel) rfl, zm3 229 (by decide +kernel) rfl, ⟨(by decide +kernel), (by decide +kernel), (by decide +kernel)⟩, by decide, (by decide +kernel)⟩
abbrev mX8_commonDivisor : MI := (yX8_commonDivisor, cX8_commonDivisor, 7, (some .long))
theorem vX8_commonDivisor : zMS mX8_commonDivisor 2 := ⟨zm3 170 (by decide +kernel) rfl, zm1 1 (by decide +kernel) rfl, zm3 171 (by decide +kernel) rfl, ⟨(by decide +kernel), (by decide +kernel), (by decide +kernel)⟩, by decide, (by decide +kernel)⟩
abbrev mX8_count : MI := (yX8_count, cX8_count, 2, (some .int))
theorem vX8_count : zMV mX8_count 1 := ⟨zm4 12 (by decide +kernel) rfl, zm4 13 (by decide +kernel) rfl, zm1 1 (by decide +kernel) rfl, zm4 14 (by decide +kernel) rfl, ⟨(by decide +kernel), (by decide +kernel), (by decide +kernel)⟩, by decide, (by decide +kernel)⟩
abbrev mX8_fault : MI := (yX8_fault, cX8_fault, 1, (some .int))
theorem vX8_fault : zMV mX8_fault 0 := ⟨zm2 104 (by decide +kernel) rfl, zm2 105 (by decide +kernel) rfl, zm1 1 (by decide +kernel) rfl, zm2 106 (by decide +kernel) rfl, ⟨(by decide +kernel), (by decide +kernel), (by decide +kernel)⟩, by decide, (by decide +kernel)⟩
abbrev mX8_gift : MI := (yX8_gift, cX8_gift, 2, (some .int))
theorem vX8_gift : zMV mX8_gift 1 := ⟨zm3 121 (by decide +kernel) rfl, zm3 122 (by decide +kernel) rfl, zm1 1 (by decide +kernel) rfl, zm3 123 (by decide +kernel) rfl, ⟨(by decide +kernel), (by decide +kernel), (by decide +kernel)⟩, by decide, (by decide +kernel)⟩
abbrev mX8_given : MI := (yX8_given, cX8_given, 2, (some .int))
theorem vX8_given : zMV mX8_given 1 := ⟨zm2 185 (by decide +kernel) rfl, zm2 186 (by decide +kernel) rfl, zm1 1 (by decide +kernel) rfl, zm2 187 (by decide +kernel) rfl, ⟨(by decide +kernel), (by decide +kernel), (by decide +kernel)⟩, by decide, (by decide +kernel)⟩
abbrev mX8_givesBehind : MI := (yX8_givesBehind, cX8_givesBehind, 4, (some .int))
theorem vX8_givesBehind : zMS mX8_givesBehind 4 := ⟨zm3 28 (by decide +kernel) rfl, zm1 1 (by decide +kernel) rfl, zm3 29 (by decide +kernel) rfl, ⟨(by decide +kernel), (by decide +kernel), (by decide +kernel)⟩, by decide, (by decide +kernel)⟩
abbrev mX8_givesFor : MI := (yX8_givesFor, cX8_givesFor, 7, (some .int))
theorem vX8_givesFor : zMS mX8_givesFor 3 := ⟨zm2 202 (by decide +kernel) rfl, zm1 1 (by decide +kernel) rfl, zm2 203 (by decide +kernel) rfl, ⟨(by decide +kernel), (by decide +kernel), (by decide +kernel)⟩, by decide, (by decide +kernel)⟩
abbrev mX8_have : MI := (yX8_have, cX8_have, 3, (some .int))
theorem vX8_have : zMV mX8_have 0 := ⟨zm2 206 (by decide +kernel) rfl, zm2 207 (by decide +kernel) rfl, zm1 1 (by decide +kernel) rfl, zm2 208 (by decide +kernel) rfl, ⟨(by decide +kernel), (by decide +kernel), (by decide +kernel)⟩, by decide, (by decide +kernel)⟩
abbrev mX8_init : MI := (yX8_init, cX8_init, 1, none)
abbrev mX8_isGift : MI := (yX8_isGift, cX8_isGift, 2, (some .boolean))
theorem vX8_isGift : zMV mX8_isGift 1 := ⟨zm3 165 (by decide +kernel) rfl, zmS 26 (by decide +kernel) rfl, zm1 1 (by decide +kernel) rfl, zm3 166 (by decide +kernel) rfl, ⟨(by decide +kernel), (by decide +kernel), (by decide +kernel)⟩, by decide, (by decide +kernel)⟩
abbrev mX8_isQueued : MI := (yX8_isQueued, cX8_isQueued, 2, (some .boolean))
theorem vX8_isQueued : zMV mX8_isQueued 1 := ⟨zm2 190 (by decide +kernel) rfl, zmS 6 (by decide +kernel) rfl, zm1 1 (by decide +kernel) rfl, zm2 191 (by decide +kernel) rfl, ⟨(by decide +kernel), (by decide +kernel), (by decide +kernel)⟩, by decide, (by decide +kernel)⟩
abbrev mX8_isSet : MI := (yX8_isSet, cX8_isSet, 2, (some .boolean))
theorem vX8_isSet : zMV mX8_isSet 1 := ⟨zm2 224 (by decide +kernel) rfl, zmS 8 (by decide +kernel) rfl, zm1 1 (by decide +kernel) rfl, zm2 225 (by decide +kernel) rfl, ⟨(by decide +kernel), (by decide +kernel), (by decide +kernel)⟩, by decide, (by decide +kernel)⟩
abbrev mX8_isSign : MI := (yX8_isSign, cX8_isSign, 2, (some .boolean))
theorem vX8_isSign : zMV mX8_isSign 1 := ⟨zm2 178 (by decide +kernel) rfl, zmS 5 (by decide +kernel) rfl, zm1 1 (by decide +kernel) rfl, zm2 179 (by decide +kernel) rfl, ⟨(by decide +kernel), (by decide +kernel), (by decide +kernel)⟩, by decide, (by decide +kernel)⟩
abbrev mX8_isThing : MI := (yX8_isThing, cX8_isThing, 2, (some .boolean))
theorem vX8_isThing : zMV mX8_isThing 1 := ⟨zm2 174 (by decide +kernel) rfl, zmS 4 (by decide +kernel) rfl, zm1 1 (by decide +kernel) rfl, zm2 175 (by decide +kernel) rfl, ⟨(by decide +kernel), (by decide +kernel), (by decide +kernel)⟩, by decide, (by decide +kernel)⟩
abbrev mX8_keep : MI := (yX8_keep, cX8_keep, 1, (some .int))
theorem vX8_keep : zMV mX8_keep 0 := ⟨zm4 3 (by decide +kernel) rfl, zm4 4 (by decide +kernel) rfl, zm1 1 (by decide +kernel) rfl, zm4 5 (by decide +kernel) rfl, ⟨(by decide +kernel), (by decide +kernel), (by decide +kernel)⟩, by decide, (by decide +kernel)⟩
abbrev mX8_lay : MI := (yX8_lay, cX8_lay, 2, (some .int))
theorem vX8_lay : zMV mX8_lay 0 := ⟨zm2 153 (by decide +kernel) rfl, zm2 154 (by decide +kernel) rfl, zm1 1 (by decide +kernel) rfl, zm2 155 (by decide +kernel) rfl, ⟨(by decide +kernel), (by decide +kernel), (by decide +kernel)⟩, by decide, (by decide +kernel)⟩
abbrev mX8_likeliest : MI := (yX8_likeliest, cX8_likeliest, 2, (some .int))
theorem vX8_likeliest : zMV mX8_likeliest 1 := ⟨zm3 173 (by decide +kernel) rfl, zm3 174 (by decide +kernel) rfl, zm1 1 (by decide +kernel) rfl, zm3 175 (by decide +kernel) rfl, ⟨(by decide +kernel), (by decide +kernel), (by decide +kernel)⟩, by decide, (by decide +kernel)⟩
abbrev mX8_majority : MI := (yX8_majority, cX8_majority, 3, (some .int))
theorem vX8_majority : zMS mX8_majority 3 := ⟨zm3 31 (by decide +kernel) rfl, zm1 1 (by decide +kernel) rfl, zm3 32 (by decide +kernel) rfl, ⟨(by decide +kernel), (by decide +kernel), (by decide +kernel)⟩, by decide, (by decide +kernel)⟩
abbrev mX8_noGifts : MI := (yX8_noGifts, cX8_noGifts, 2, (some .int))
theorem vX8_noGifts : zMV mX8_noGifts 0 := ⟨zm3 125 (by decide +kernel) rfl, zm3 126 (by decide +kernel) rfl, zm1 1 (by decide +kernel) rfl, zm3 127 (by decide +kernel) rfl, ⟨(by decide +kernel), (by decide +kernel), (by decide +kernel)⟩, by decide, (by decide +kernel)⟩
abbrev mX8_odds : MI := (yX8_odds, cX8_odds, 10, (some .long))
theorem vX8_odds : zMV mX8_odds 3 := ⟨zm3 160 (by decide +kernel) rfl, zm3 161 (by decide +kernel) rfl, zm1 1 (by decide +kernel) rfl, zm3 162 (by decide +kernel) rfl, ⟨(by decide +kernel), (by decide +kernel), (by decide +kernel)⟩, by decide, (by decide +kernel)⟩
abbrev mX8_order : MI := (yX8_order, cX8_order, 3, (some .int))
theorem vX8_order : zMV mX8_order 2 := ⟨zm2 219 (by decide +kernel) rfl, zm2 220 (by decide +kernel) rfl, zm1 1 (by decide +kernel) rfl, zm2 221 (by decide +kernel) rfl, ⟨(by decide +kernel), (by decide +kernel), (by decide +kernel)⟩, by decide, (by decide +kernel)⟩
abbrev mX8_other : MI := (yX8_other, cX8_other, 2, (some .int))
theorem vX8_other : zMV mX8_other 1 := ⟨zm2 210 (by decide +kernel) rfl, zm2 211 (by decide +kernel) rfl, zm1 1 (by decide +kernel) rfl, zm2 212 (by decide +kernel) rfl, ⟨(by decide +kernel), (by decide +kernel), (by decide +kernel)⟩, by decide, (by decide +kernel)⟩
abbrev mX8_otherwise : MI := (yX8_otherwise, cX8_otherwise, 3, (some .int))
theorem vX8_otherwise : zMV mX8_otherwise 0 := ⟨zm3 101 (by decide +kernel) rfl, zm3 102 (by decide +kernel) rfl, zm1 1 (by decide +kernel) rfl, zm3 103 (by decide +kernel) rfl, ⟨(by decide +kernel), (by decide +kernel), (by decide +kernel)⟩, by decide, (by decide +kernel)⟩
abbrev mX8_post : MI := (yX8_post, cX8_post, 3, (some .int))
theorem vX8_post : zMV mX8_post 2 := ⟨zm3 196 (by decide +kernel) rfl, zm3 197 (by decide +kernel) rfl, zm1 1 (by decide +kernel) rfl, zm3 198 (by decide +kernel) rfl, ⟨(by decide +kernel), (by decide +kernel), (by decide +kernel)⟩, by decide, (by decide +kernel)⟩
abbrev mX8_ring : MI := (yX8_ring, cX8_ring, 2, (some .int))
theorem vX8_ring : zMV mX8_ring 1 := ⟨zm3 209 (by decide +kernel) rfl, zm3 210 (by decide +kernel) rfl, zm1 1 (by decide +kernel) rfl, zm3 211 (by decide +kernel) rfl, ⟨(by decide +kernel), (by decide +kernel), (by decide +kernel)⟩, by decide, (by decide +kernel)⟩
abbrev mX8_round : MI := (yX8_round, cX8_round, 1, (some .int))
theorem vX8_round : zMV mX8_round 0 := ⟨zm3 200 (by decide +kernel) rfl, zm3 201 (by decide +kernel) rfl, zm1 1 (by decide +kernel) rfl, zm3 202 (by decide +kernel) rfl, ⟨(by decide +kernel), (by decide +kernel), (by decide +kernel)⟩, by decide, (by decide +kernel)⟩
abbrev mX8_rows : MI := (yX8_rows, cX8_rows, 2, (some .long))
theorem vX8_rows : zMV mX8_rows 1 := ⟨zm3 129 (by decide +kernel) rfl, zm3 130 (by decide +kernel) rfl, zm1 1 (by decide +kernel) rfl, zm3 131 (by decide +kernel) rfl, ⟨(by decide +kernel), (by decide +kernel), (by decide +kernel)⟩, by decide, (by decide +kernel)⟩
abbrev mX8_strangers : MI := (yX8_strangers, cX8_strangers, 3, (some .int))
theorem vX8_strangers : zMV mX8_strangers 2 := ⟨zm3 47 (by decide +kernel) rfl, zm3 48 (by decide +kernel) rfl, zm1 1 (by decide +kernel) rfl, zm3 49 (by decide +kernel) rfl, ⟨(by decide +kernel), (by decide +kernel), (by decide +kernel)⟩, by decide, (by decide +kernel)⟩
abbrev mX8_swaps : MI := (yX8_swaps, cX8_swaps, 3, (some .int))
theorem vX8_swaps : zMV mX8_swaps 1 := ⟨zm3 105 (by decide +kernel) rfl, zm3 106 (by decide +kernel) rfl, zm1 1 (by decide +kernel) rfl, zm3 107 (by decide +kernel) rfl, ⟨(by decide +kernel), (by decide +kernel), (by decide +kernel)⟩, by decide, (by decide +kernel)⟩
abbrev mX8_wipe : MI := (yX8_wipe, cX8_wipe, 2, (some .int))
theorem vX8_wipe : zMV mX8_wipe 0 := ⟨zm2 100 (by decide +kernel) rfl, zm2 101 (by decide +kernel) rfl, zm1 1 (by decide +kernel) rfl, zm2 102 (by decide +kernel) rfl, ⟨(by decide +kernel), (by decide +kernel), (by decide +kernel)⟩, by decide, (by decide +kernel)⟩
abbrev mX8_within : MI := (yX8_within, cX8_within, 3, (some .boolean))
theorem vX8_within : zMS mX8_within 3 := ⟨zm2 42 (by decide +kernel) rfl, zm1 1 (by decide +kernel) rfl, zm2 43 (by decide +kernel) rfl, ⟨(by decide +kernel), (by decide +kernel), (by decide +kernel)⟩, by decide, (by decide +kernel)⟩
abbrev mX8_worth : MI := (yX8_worth, cX8_worth, 3, (some .int))
theorem vX8_worth : zMV mX8_worth 2 := ⟨zm2 169 (by decide +kernel) rfl, zm2 170 (by decide +kernel) rfl, zm1 1 (by decide +kernel) rfl, zm2 171 (by decide +kernel) rfl, ⟨(by decide +kernel), (by decide +kernel), (by decide +kernel)⟩, by decide, (by decide +kernel)⟩
abbrev mX8_write : MI := (yX8_write, cX8_write, 5, (some .int))
theorem vX8_write : zMV mX8_write 2 := ⟨zm2 95 (by decide +kernel) rfl, zm2 96 (by decide +kernel) rfl, zm1 1 (by decide +kernel) rfl, zm2 97 (by decide +kernel) rfl, ⟨(by decide +kernel), (by decide +kernel), (by decide +kernel)⟩, by decide, (by decide +kernel)⟩
abbrev mX9_ahead : MI := (yX9_ahead, cX9_ahead, 3, (some .int))
theorem vX9_ahead : zMV mX9_ahead 2 := ⟨zm5 61 (by decide +kernel) rfl, zm5 62 (by decide +kernel) rfl, zm1 13 (by decide +kernel) rfl, zm5 63 (by decide +kernel) rfl, ⟨(by decide +kernel), (by decide +kernel), (by decide +kernel)⟩, by decide, (by decide +kernel)⟩
abbrev mX9_aheadItem : MI := (yX9_aheadItem, cX9_aheadItem, 1, (some .boolean))
theorem vX9_aheadItem : zMV mX9_aheadItem 0 := ⟨zm4 172 (by decide +kernel) rfl, zmS 38 (by decide +kernel) rfl, zm1 13 (by decide +kernel) rfl, zm4 173 (by decide +kernel) rfl, ⟨(by decide +kernel), (by decide +kernel), (by decide +kernel)⟩, by decide, (by decide +kernel)⟩
abbrev mX9_askFor : MI := (yX9_askFor, cX9_askFor, 7, (some .int))
theorem vX9_askFor : zMV mX9_askFor 1 := ⟨zm5 70 (by decide +kernel) rfl, zmS 60 (by decide +kernel) rfl, zm1 13 (by decide +kernel) rfl, zm5 71 (by decide +kernel) rfl, ⟨(by decide +kernel), (by decide +kernel), (by decide +kernel)⟩, by decide, (by decide +kernel)⟩
abbrev mX9_askNow : MI := (yX9_askNow, cX9_askNow, 2, none)
theorem vX9_askNow : zMV mX9_askNow 1 := ⟨zm4 224 (by decide +kernel) rfl, zmS 48 (by decide +kernel) rfl, zm1 13 (by decide +kernel) rfl, zm4 225 (by decide +kernel) rfl, ⟨(by decide +kernel), (by decide +kernel), (by decide +kernel)⟩, by decide, (by decide +kernel)⟩
abbrev mX9_asks : MI := (yX9_asks, cX9_asks, 5, (some .int))
theorem vX9_asks : zMV mX9_asks 2 := ⟨zm5 65 (by decide +kernel) rfl, zm5 66 (by decide +kernel) rfl, zm1 13 (by decide +kernel) rfl, zm5 67 (by decide +kernel) rfl, ⟨(by decide +kernel), (by decide +kernel), (by decide +kernel)⟩, by decide, (by decide +kernel)⟩
abbrev mX9_back : MI := (yX9_back, cX9_back, 1, (some .int))
theorem vX9_back : zMV mX9_back 0 := ⟨zm5 159 (by decide +kernel) rfl, zm5 160 (by decide +kernel) rfl, zm1 13 (by decide +kernel) rfl, zm5 161 (by decide +kernel) rfl, ⟨(by decide +kernel), (by decide +kernel), (by decide +kernel)⟩, by decide, (by decide +kernel)⟩
abbrev mX9_before : MI := (yX9_before, cX9_before, 8, (some .long))
theorem vX9_before : zMV mX9_before 0 := ⟨zm5 147 (by decide +kernel) rfl, zm5 148 (by decide +kernel) rfl, zm1 13 (by decide +kernel) rfl, zm5 149 (by decide +kernel) rfl, ⟨(by decide +kernel), (by decide +kernel), (by decide +kernel)⟩, by decide, (by decide +kernel)⟩
abbrev mX9_beginRow : MI := (yX9_beginRow, cX9_beginRow, 2, none)
theorem vX9_beginRow : zMV mX9_beginRow 0 := ⟨zm4 220 (by decide +kernel) rfl, zmS 47 (by decide +kernel) rfl, zm1 13 (by decide +kernel) rfl, zm4 221 (by decide +kernel) rfl, ⟨(by decide +kernel), (by decide +kernel), (by decide +kernel)⟩, by decide, (by decide +kernel)⟩
abbrev mX9_bring : MI := (yX9_bring, cX9_bring, 9, (some .int))
theorem vX9_bring : zMV mX9_bring 5 := ⟨zm5 23 (by decide +kernel) rfl, zmS 54 (by decide +kernel) rfl, zm1 13 (by decide +kernel) rfl, zm5 24 (by decide +kernel) rfl, ⟨(by decide +kernel), (by decide +kernel), (by decide +kernel)⟩, by decide, (by decide +kernel)⟩
abbrev mX9_byQueue : MI := (yX9_byQueue, cX9_byQueue, 6, (some .int))
theorem vX9_byQueue : zMV mX9_byQueue 4 := ⟨zm5 55 (by decide +kernel) rfl, zmS 59 (by decide +kernel) rfl, zm1 13 (by decide +kernel) rfl, zm5 56 (by decide +kernel) rfl, ⟨(by decide +kernel), (by decide +kernel), (by decide +kernel)⟩, by decide, (by decide +kernel)⟩
abbrev mX9_byteAt : MI := (yX9_byteAt, cX9_byteAt, 2, (some .int))
theorem vX9_byteAt : zMV mX9_byteAt 1 := ⟨zm4 159 (by decide +kernel) rfl, zmS 36 (by decide +kernel) rfl, zm1 13 (by decide +kernel) rfl, zm4 160 (by decide +kernel) rfl, ⟨(by decide +kernel), (by decide +kernel), (by decide +kernel)⟩, by decide, (by decide +kernel)⟩
abbrev mX9_common : MI := (yX9_common, cX9_common, 10, (some .long))
theorem vX9_common : zMS mX9_common 2 := ⟨zm5 111 (by decide +kernel) rfl, zm1 13 (by decide +kernel) rfl, zm5 112 (by decide +kernel) rfl, ⟨(by decide +kernel), (by decide +kernel), (by decide +kernel)⟩, by decide, (by decide +kernel)⟩
abbrev mX9_copy : MI := (yX9_copy, cX9_copy, 4, none)
theorem vX9_copy : zMV mX9_copy 2 := ⟨zm5 156 (by decide +kernel) rfl, zmS 68 (by decide +kernel) rfl, zm1 13 (by decide +kernel) rfl, zm5 157 (by decide +kernel) rfl, ⟨(by decide +kernel), (by decide +kernel), (by decide +kernel)⟩, by decide, (by decide +kernel)⟩
abbrev mX9_count : MI := (yX9_count, cX9_count, 2, (some .int))
theorem vX9_count : zMV mX9_count 1 := ⟨zm5 163 (by decide +kernel) rfl, zm5 164 (by decide +kernel) rfl, zm1 13 (by decide +kernel) rfl, zm5 165 (by decide +kernel) rfl, ⟨(by decide +kernel), (by decide +kernel), (by decide +kernel)⟩, by decide, (by decide +kernel)⟩
abbrev mX9_fault : MI := (yX9_fault, cX9_fault, 1, (some .int))
theorem vX9_fault : zMV mX9_fault 0 := ⟨zm4 146 (by decide +kernel) rfl, zm4 147 (by decide +kernel) rfl, zm1 13 (by decide +kernel) rfl, zm4 148 (by decide +kernel) rfl, ⟨(by decide +kernel), (by decide +kernel), (by decide +kernel)⟩, by decide, (by decide +kernel)⟩
abbrev mX9_figures : MI := (yX9_figures, cX9_figures, 5, (some .boolean))
theorem vX9_figures : zMV mX9_figures 1 := ⟨zm4 163 (by decide +kernel) rfl, zmS 37 (by decide +kernel) rfl, zm1 13 (by decide +kernel) rfl, zm4 164 (by decide +kernel) rfl, ⟨(by decide +kernel), (by decide +kernel), (by decide +kernel)⟩, by decide, (by decide +kernel)⟩
abbrev mX9_gift : MI := (yX9_gift, cX9_gift, 2, (some .int))
theorem vX9_gift : zMV mX9_gift 1 := ⟨zm5 89 (by decide +kernel) rfl, zm5 90 (by decide +kernel) rfl, zm1 13 (by decide +kernel) rfl, zm5 91 (by decide +kernel) rfl, ⟨(by decide +kernel), (by decide +kernel), (by decide +kernel)⟩, by decide, (by decide +kernel)⟩
abbrev mX9_given : MI := (yX9_given, cX9_given, 2, (some .int))
theorem vX9_given : zMV mX9_given 1 := ⟨zm4 207 (by decide +kernel) rfl, zm4 208 (by decide +kernel) rfl, zm1 13 (by decide +kernel) rfl, zm4 209 (by decide +kernel) rfl, ⟨(by decide +kernel), (by decide +kernel), (by decide +kernel)⟩, by decide, (by decide +kernel)⟩
abbrev mX9_givenBy : MI := (yX9_givenBy, cX9_givenBy, 4, (some .int))
theorem vX9_givenBy : zMV mX9_givenBy 2 := ⟨zm4 216 (by decide +kernel) rfl, zmS 46 (by decide +kernel) rfl, zm1 13 (by decide +kernel) rfl, zm4 217 (by decide +kernel) rfl, ⟨(by decide +kernel), (by decide +kernel), (by decide +kernel)⟩, by decide, (by decide +kernel)⟩
abbrev mX9_gives : MI := (yX9_gives, cX9_gives, 2, (some .int))
theorem vX9_gives : zMV mX9_gives 1 := ⟨zm4 228 (by decide +kernel) rfl, zmS 49 (by decide +kernel) rfl, zm1 13 (by decide +kernel) rfl, zm4 229 (by decide +kernel) rfl, ⟨(by decide +kernel), (by decide +kernel), (by decide +kernel)⟩, by decide, (by decide +kernel)⟩
abbrev mX9_goRound : MI := (yX9_goRound, cX9_goRound, 5, none)
theorem vX9_goRound : zMV mX9_goRound 0 := ⟨zm5 135 (by decide +kernel) rfl, zmS 66 (by decide +kernel) rfl, zm1 13 (by decide +kernel) rfl, zm5 136 (by decide +kernel) rfl, ⟨(by decide +kernel), (by decide +kernel), (by decide +kernel)⟩, by decide, (by decide +kernel)⟩
abbrev mX9_has : MI := (yX9_has, cX9_has, 2, (some .boolean))
theorem vX9_has : zMS mX9_has 2 := ⟨zm5 19 (by decide +kernel) rfl, zm1 13 (by decide +kernel) rfl, zm5 20 (by decide +kernel) rfl, ⟨(by decide +kernel), (by decide +kernel), (by decide +kernel)⟩, by decide, (by decide +kernel)⟩
abbrev mX9_have : MI := (yX9_have, cX9_have, 3, (some .int))
theorem vX9_have : zMV mX9_have 0 := ⟨zm4 235 (by decide +kernel) rfl, zm4 236 (by decide +kernel) rfl, zm1 13 (by decide +kernel) rfl, zm4 237 (by decide +kernel) rfl, ⟨(by decide +kernel), (by decide +kernel), (by decide +kernel)⟩, by decide, (by decide +kernel)⟩
abbrev mX9_in : MI := (yX9_in, cX9_in, 6, (some .boolean))
theorem vX9_in : zMS mX9_in 3 := ⟨zm4 138 (by decide +kernel) rfl, zm1 13 (by decide +kernel) rfl, zm4 139 (by decide +kernel) rfl, ⟨(by decide +kernel), (by decide +kernel), (by decide +kernel)⟩, by decide, (by decide +kernel)⟩
abbrev mX9_init : MI := (yX9_init, cX9_init, 1, none)
abbrev mX9_isGift : MI := (yX9_isGift, cX9_isGift, 2, (some .boolean))
theorem vX9_isGift : zMV mX9_isGift 1 := ⟨zm4 204 (by decide +kernel) rfl, zmS 44 (by decide +kernel) rfl, zm1 13 (by decide +kernel) rfl, zm4 205 (by decide +kernel) rfl, ⟨(by decide +kernel), (by decide +kernel), (by decide +kernel)⟩, by decide, (by decide +kernel)⟩
abbrev mX9_isPost : MI := (yX9_isPost, cX9_isPost, 2, (some .boolean))
theorem vX9_isPost : zMV mX9_isPost 1 := ⟨zm5 123 (by decide +kernel) rfl, zmS 64 (by decide +kernel) rfl, zm1 13 (by decide +kernel) rfl, zm5 124 (by decide +kernel) rfl, ⟨(by decide +kernel), (by decide +kernel), (by decide +kernel)⟩, by decide, (by decide +kernel)⟩
abbrev mX9_isQueue : MI := (yX9_isQueue, cX9_isQueue, 2, (some .boolean))
theorem vX9_isQueue : zMV mX9_isQueue 1 := ⟨zm5 8 (by decide +kernel) rfl, zmS 51 (by decide +kernel) rfl, zm1 13 (by decide +kernel) rfl, zm5 9 (by decide +kernel) rfl, ⟨(by decide +kernel), (by decide +kernel), (by decide +kernel)⟩, by decide, (by decide +kernel)⟩
abbrev mX9_isShort : MI := (yX9_isShort, cX9_isShort, 1, (some .boolean))
theorem vX9_isShort : zMV mX9_isShort 0 := ⟨zm5 12 (by decide +kernel) rfl, zmS 52 (by decide +kernel) rfl, zm1 13 (by decide +kernel) rfl, zm5 13 (by decide +kernel) rfl, ⟨(by decide +kernel), (by decide +kernel), (by decide +kernel)⟩, by decide, (by decide +kernel)⟩
abbrev mX9_isThing : MI := (yX9_isThing, cX9_isThing, 2, (some .boolean))
theorem vX9_isThing : zMV mX9_isThing 1 := ⟨zm4 200 (by decide +kernel) rfl, zmS 43 (by decide +kernel) rfl, zm1 13 (by decide +kernel) rfl, zm4 201 (by decide +kernel) rfl, ⟨(by decide +kernel), (by decide +kernel), (by decide +kernel)⟩, by decide, (by decide +kernel)⟩
abbrev mX9_isWish : MI := (yX9_isWish, cX9_isWish, 2, (some .boolean))
theorem vX9_isWish : zMV mX9_isWish 1 := ⟨zm4 212 (by decide +kernel) rfl, zmS 45 (by decide +kernel) rfl, zm1 13 (by decide +kernel) rfl, zm4 213 (by decide +kernel) rfl, ⟨(by decide +kernel), (by decide +kernel), (by decide +kernel)⟩, by decide, (by decide +kernel)⟩
abbrev mX9_item : MI := (yX9_item, cX9_item, 2, (some .boolean))
theorem vX9_item : zMV mX9_item 0 := ⟨zm4 155 (by decide +kernel) rfl, zmS 35 (by decide +kernel) rfl, zm1 13 (by decide +kernel) rfl, zm4 156 (by decide +kernel) rfl, ⟨(by decide +kernel), (by decide +kernel), (by decide +kernel)⟩, by decide, (by decide +kernel)⟩
abbrev mX9_keep : MI := (yX9_keep, cX9_keep, 1, (some .int))
theorem vX9_keep : zMV mX9_keep 0 := ⟨zm5 151 (by decide +kernel) rfl, zm5 152 (by decide +kernel) rfl, zm1 13 (by decide +kernel) rfl, zm5 153 (by decide +kernel) rfl, ⟨(by decide +kernel), (by decide +kernel), (by decide +kernel)⟩, by decide, (by decide +kernel)⟩
abbrev mX9_lastBut : MI := (yX9_lastBut, cX9_lastBut, 2, (some .int))
theorem vX9_lastBut : zMV mX9_lastBut 1 := ⟨zm5 37 (by decide +kernel) rfl, zmS 56 (by decide +kernel) rfl, zm1 13 (by decide +kernel) rfl, zm5 38 (by decide +kernel) rfl, ⟨(by decide +kernel), (by decide +kernel), (by decide +kernel)⟩, by decide, (by decide +kernel)⟩
abbrev mX9_lay : MI := (yX9_lay, cX9_lay, 2, (some .int))
theorem vX9_lay : zMV mX9_lay 0 := ⟨zm4 191 (by decide +kernel) rfl, zm4 192 (by decide +kernel) rfl, zm1 13 (by decide +kernel) rfl, zm4 193 (by decide +kernel) rfl, ⟨(by decide +kernel), (by decide +kernel), (by decide +kernel)⟩, by decide, (by decide +kernel)⟩
abbrev mX9_layNeeds : MI := (yX9_layNeeds, cX9_layNeeds, 8, none)
theorem vX9_layNeeds : zMV mX9_layNeeds 1 := ⟨zm5 51 (by decide +kernel) rfl, zmS 58 (by decide +kernel) rfl, zm1 13 (by decide +kernel) rfl, zm5 52 (by decide +kernel) rfl, ⟨(by decide +kernel), (by decide +kernel), (by decide +kernel)⟩, by decide, (by decide +kernel)⟩
abbrev mX9_layOrders : MI := (yX9_layOrders, cX9_layOrders, 9, none)
theorem vX9_layOrders : zMV mX9_layOrders 1 := ⟨zm5 16 (by decide +kernel) rfl, zmS 53 (by decide +kernel) rfl, zm1 13 (by decide +kernel) rfl, zm5 17 (by decide +kernel) rfl, ⟨(by decide +kernel), (by decide +kernel), (by decide +kernel)⟩, by decide, (by decide +kernel)⟩
abbrev mX9_layRows : MI := (yX9_layRows, cX9_layRows, 14, none)
theorem vX9_layRows : zMV mX9_layRows 2 := ⟨zm5 103 (by decide +kernel) rfl, zmS 63 (by decide +kernel) rfl, zm1 13 (by decide +kernel) rfl, zm5 104 (by decide +kernel) rfl, ⟨(by decide +kernel), (by decide +kernel), (by decide +kernel)⟩, by decide, (by decide +kernel)⟩
abbrev mX9_layStrangers : MI := (yX9_layStrangers, cX9_layStrangers, 10, (some .int))
theorem vX9_layStrangers : zMV mX9_layStrangers 1 := ⟨zm5 47 (by decide +kernel) rfl, zmS 57 (by decide +kernel) rfl, zm1 13 (by decide +kernel) rfl, zm5 48 (by decide +kernel) rfl, ⟨(by decide +kernel), (by decide +kernel), (by decide +kernel)⟩, by decide, (by decide +kernel)⟩
abbrev mX9_likeliest : MI := (yX9_likeliest, cX9_likeliest, 8, (some .int))
theorem vX9_likeliest : zMV mX9_likeliest 1 := ⟨zm5 114 (by decide +kernel) rfl, zm5 115 (by decide +kernel) rfl, zm1 13 (by decide +kernel) rfl, zm5 116 (by decide +kernel) rfl, ⟨(by decide +kernel), (by decide +kernel), (by decide +kernel)⟩, by decide, (by decide +kernel)⟩
abbrev mX9_meet : MI := (yX9_meet, cX9_meet, 2, none)
theorem vX9_meet : zMV mX9_meet 1 := ⟨zm4 176 (by decide +kernel) rfl, zmS 39 (by decide +kernel) rfl, zm1 13 (by decide +kernel) rfl, zm4 177 (by decide +kernel) rfl, ⟨(by decide +kernel), (by decide +kernel), (by decide +kernel)⟩, by decide, (by decide +kernel)⟩
abbrev mX9_mostOf : MI := (yX9_mostOf, cX9_mostOf, 6, (some .int))
theorem vX9_mostOf : zMV mX9_mostOf 2 := ⟨zm4 232 (by decide +kernel) rfl, zmS 50 (by decide +kernel) rfl, zm1 13 (by decide +kernel) rfl, zm4 233 (by decide +kernel) rfl, ⟨(by decide +kernel), (by decide +kernel), (by decide +kernel)⟩, by decide, (by decide +kernel)⟩
abbrev mX9_noGifts : MI := (yX9_noGifts, cX9_noGifts, 2, (some .int))
theorem vX9_noGifts : zMV mX9_noGifts 0 := ⟨zm5 93 (by decide +kernel) rfl, zm5 94 (by decide +kernel) rfl, zm1 13 (by decide +kernel) rfl, zm5 95 (by decide +kernel) rfl, ⟨(by decide +kernel), (by decide +kernel), (by decide +kernel)⟩, by decide, (by decide +kernel)⟩
abbrev mX9_noPost : MI := (yX9_noPost, cX9_noPost, 4, none)
theorem vX9_noPost : zMV mX9_noPost 1 := ⟨zm4 24 (by decide +kernel) rfl, zmS 33 (by decide +kernel) rfl, zm1 13 (by decide +kernel) rfl, zm4 25 (by decide +kernel) rfl, ⟨(by decide +kernel), (by decide +kernel), (by decide +kernel)⟩, by decide, (by decide +kernel)⟩
abbrev mX9_odds : MI := (yX9_odds, cX9_odds, 11, (some .long))
theorem vX9_odds : zMV mX9_odds 3 := ⟨zm5 106 (by decide +kernel) rfl, zm5 107 (by decide +kernel) rfl, zm1 13 (by decide +kernel) rfl, zm5 108 (by decide +kernel) rfl, ⟨(by decide +kernel), (by decide +kernel), (by decide +kernel)⟩, by decide, (by decide +kernel)⟩
abbrev mX9_order : MI := (yX9_order, cX9_order, 10, (some .int))
theorem vX9_order : zMV mX9_order 2 := ⟨zm5 3 (by decide +kernel) rfl, zm5 4 (by decide +kernel) rfl, zm1 13 (by decide +kernel) rfl, zm5 5 (by decide +kernel) rfl, ⟨(by decide +kernel), (by decide +kernel), (by decide +kernel)⟩, by decide, (by decide +kernel)⟩
abbrev mX9_other : MI := (yX9_other, cX9_other, 4, (some .int))
theorem vX9_other : zMV mX9_other 1 := ⟨zm4 239 (by decide +kernel) rfl, zm5 0 (by decide +kernel) rfl, zm1 13 (by decide +kernel) rfl, zm5 1 (by decide +kernel) rfl, ⟨(by decide +kernel), (by decide +kernel), (by decide +kernel)⟩, by decide, (by decide +kernel)⟩
abbrev mX9_otherwise : MI := (yX9_otherwise, cX9_otherwise, 3, (some .int))
theorem vX9_otherwise : zMV mX9_otherwise 0 := ⟨zm5 73 (by decide +kernel) rfl, zm5 74 (by decide +kernel) rfl, zm1 13 (by decide +kernel) rfl, zm5 75 (by decide +kernel) rfl, ⟨(by decide +kernel), (by decide +kernel), (by decide +kernel)⟩, by decide, (by decide +kernel)⟩
abbrev mX9_post : MI := (yX9_post, cX9_post, 3, (some .int))
theorem vX9_post : zMV mX9_post 2 := ⟨zm5 118 (by decide +kernel) rfl, zm5 119 (by decide +kernel) rfl, zm1 13 (by decide +kernel) rfl, zm5 120 (by decide +kernel) rfl, ⟨(by decide +kernel), (by decide +kernel), (by decide +kernel)⟩, by decide, (by decide +kernel)⟩
abbrev mX9_postItem : MI := (yX9_postItem, cX9_postItem, 3, (some .boolean))
theorem vX9_postItem : zMV mX9_postItem 0 := ⟨zm4 188 (by decide +kernel) rfl, zmS 42 (by decide +kernel) rfl, zm1 13 (by decide +kernel) rfl, zm4 189 (by decide +kernel) rfl, ⟨(by decide +kernel), (by decide +kernel), (by decide +kernel)⟩, by decide, (by decide +kernel)⟩
abbrev mX9_readAll : MI := (yX9_readAll, cX9_readAll, 2, (some .int))
theorem vX9_readAll : zMV mX9_readAll 0 := ⟨zm4 151 (by decide +kernel) rfl, zmS 34 (by decide +kernel) rfl, zm1 13 (by decide +kernel) rfl, zm4 152 (by decide +kernel) rfl, ⟨(by decide +kernel), (by decide +kernel), (by decide +kernel)⟩, by decide, (by decide +kernel)⟩
abbrev mX9_ring : MI := (yX9_ring, cX9_ring, 4, (some .int))
theorem vX9_ring : zMV mX9_ring 1 := ⟨zm5 138 (by decide +kernel) rfl, zm5 139 (by decide +kernel) rfl, zm1 13 (by decide +kernel) rfl, zm5 140 (by decide +kernel) rfl, ⟨(by decide +kernel), (by decide +kernel), (by decide +kernel)⟩, by decide, (by decide +kernel)⟩
abbrev mX9_round : MI := (yX9_round, cX9_round, 3, (some .int))
theorem vX9_round : zMV mX9_round 0 := ⟨zm5 126 (by decide +kernel) rfl, zm5 127 (by decide +kernel) rfl, zm1 13 (by decide +kernel) rfl, zm5 128 (by decide +kernel) rfl, ⟨(by decide +kernel), (by decide +kernel), (by decide +kernel)⟩, by decide, (by decide +kernel)⟩
abbrev mX9_rows : MI := (yX9_rows, cX9_rows, 3, (some .long))
theorem vX9_rows : zMV mX9_rows 1 := ⟨zm5 97 (by decide +kernel) rfl, zm5 98 (by decide +kernel) rfl, zm1 13 (by decide +kernel) rfl, zm5 99 (by decide +kernel) rfl, ⟨(by decide +kernel), (by decide +kernel), (by decide +kernel)⟩, by decide, (by decide +kernel)⟩
abbrev mX9_shortly : MI := (yX9_shortly, cX9_shortly, 4, (some .int))
theorem vX9_shortly : zMV mX9_shortly 3 := ⟨zm5 27 (by decide +kernel) rfl, zmS 55 (by decide +kernel) rfl, zm1 13 (by decide +kernel) rfl, zm5 28 (by decide +kernel) rfl, ⟨(by decide +kernel), (by decide +kernel), (by decide +kernel)⟩, by decide, (by decide +kernel)⟩
abbrev mX9_spot : MI := (yX9_spot, cX9_spot, 3, (some .int))
theorem vX9_spot : zMS mX9_spot 3 := ⟨zm5 33 (by decide +kernel) rfl, zm1 13 (by decide +kernel) rfl, zm5 34 (by decide +kernel) rfl, ⟨(by decide +kernel), (by decide +kernel), (by decide +kernel)⟩, by decide, (by decide +kernel)⟩
abbrev mX9_stand : MI := (yX9_stand, cX9_stand, 3, (some .int))
theorem vX9_stand : zMS mX9_stand 3 := ⟨zm5 58 (by decide +kernel) rfl, zm1 13 (by decide +kernel) rfl, zm5 59 (by decide +kernel) rfl, ⟨(by decide +kernel), (by decide +kernel), (by decide +kernel)⟩, by decide, (by decide +kernel)⟩
abbrev mX9_state : MI := (yX9_state, cX9_state, 4, (some .long))
theorem vX9_state : zMV mX9_state 0 := ⟨zm5 143 (by decide +kernel) rfl, zmS 67 (by decide +kernel) rfl, zm1 13 (by decide +kernel) rfl, zm5 144 (by decide +kernel) rfl, ⟨(by decide +kernel), (by decide +kernel), (by decide +kernel)⟩, by decide, (by decide +kernel)⟩
abbrev mX9_strangers : MI := (yX9_strangers, cX9_strangers, 4, (some .int))
theorem vX9_strangers : zMV mX9_strangers 2 := ⟨zm5 40 (by decide +kernel) rfl, zm5 41 (by decide +kernel) rfl, zm1 13 (by decide +kernel) rfl, zm5 42 (by decide +kernel) rfl, ⟨(by decide +kernel), (by decide +kernel), (by decide +kernel)⟩, by decide, (by decide +kernel)⟩
abbrev mX9_swapOnce : MI := (yX9_swapOnce, cX9_swapOnce, 4, (some .boolean))
theorem vX9_swapOnce : zMV mX9_swapOnce 0 := ⟨zm5 82 (by decide +kernel) rfl, zmS 61 (by decide +kernel) rfl, zm1 13 (by decide +kernel) rfl, zm5 83 (by decide +kernel) rfl, ⟨(by decide +kernel), (by decide +kernel), (by decide +kernel)⟩, by decide, (by decide +kernel)⟩
abbrev mX9_swaps : MI := (yX9_swaps, cX9_swaps, 3, (some .int))
theorem vX9_swaps : zMV mX9_swaps 1 := ⟨zm5 77 (by decide +kernel) rfl, zm5 78 (by decide +kernel) rfl, zm1 13 (by decide +kernel) rfl, zm5 79 (by decide +kernel) rfl, ⟨(by decide +kernel), (by decide +kernel), (by decide +kernel)⟩, by decide, (by decide +kernel)⟩
abbrev mX9_takeNet : MI := (yX9_takeNet, cX9_takeNet, 2, none)
theorem vX9_takeNet : zMV mX9_takeNet 0 := ⟨zm5 131 (by decide +kernel) rfl, zmS 65 (by decide +kernel) rfl, zm1 13 (by decide +kernel) rfl, zm5 132 (by decide +kernel) rfl, ⟨(by decide +kernel), (by decide +kernel), (by decide +kernel)⟩, by decide, (by decide +kernel)⟩
abbrev mX9_three : MI := (yX9_three, cX9_three, 3, (some .int))
theorem vX9_three : zMS mX9_three 3 := ⟨zm5 30 (by decide +kernel) rfl, zm1 13 (by decide +kernel) rfl, zm5 31 (by decide +kernel) rfl, ⟨(by decide +kernel), (by decide +kernel), (by decide +kernel)⟩, by decide, (by decide +kernel)⟩
abbrev mX9_wants : MI := (yX9_wants, cX9_wants, 3, (some .boolean))
theorem vX9_wants : zMV mX9_wants 2 := ⟨zm5 86 (by decide +kernel) rfl, zmS 62 (by decide +kernel) rfl, zm1 13 (by decide +kernel) rfl, zm5 87 (by decide +kernel) rfl, ⟨(by decide +kernel), (by decide +kernel), (by decide +kernel)⟩, by decide, (by decide +kernel)⟩
abbrev mX9_wipe : MI := (yX9_wipe, cX9_wipe, 2, (some .int))
theorem vX9_wipe : zMV mX9_wipe 0 := ⟨zm4 142 (by decide +kernel) rfl, zm4 143 (by decide +kernel) rfl, zm1 13 (by decide +kernel) rfl, zm4 144 (by decide +kernel) rfl, ⟨(by decide +kernel), (by decide +kernel), (by decide +kernel)⟩, by decide, (by decide +kernel)⟩
abbrev mX9_wishItem : MI := (yX9_wishItem, cX9_wishItem, 1, (some .boolean))
theorem vX9_wishItem : zMV mX9_wishItem 0 := ⟨zm4 180 (by decide +kernel) rfl, zmS 40 (by decide +kernel) rfl, zm1 13 (by decide +kernel) rfl, zm4 181 (by decide +kernel) rfl, ⟨(by decide +kernel), (by decide +kernel), (by decide +kernel)⟩, by decide, (by decide +kernel)⟩
abbrev mX9_worth : MI := (yX9_worth, cX9_worth, 3, (some .int))
theorem vX9_worth : zMV mX9_worth 2 := ⟨zm4 195 (by decide +kernel) rfl, zm4 196 (by decide +kernel) rfl, zm1 13 (by decide +kernel) rfl, zm4 197 (by decide +kernel) rfl, ⟨(by decide +kernel), (by decide +kernel), (by decide +kernel)⟩, by decide, (by decide +kernel)⟩
abbrev mX9_worthItem : MI := (yX9_worthItem, cX9_worthItem, 1, (some .boolean))
theorem vX9_worthItem : zMV mX9_worthItem 0 := ⟨zm4 184 (by decide +kernel) rfl, zmS 41 (by decide +kernel) rfl, zm1 13 (by decide +kernel) rfl, zm4 185 (by decide +kernel) rfl, ⟨(by decide +kernel), (by decide +kernel), (by decide +kernel)⟩, by decide, (by decide +kernel)⟩
abbrev mX9_write : MI := (yX9_write, cX9_write, 5, (some .int))
theorem vX9_write : zMV mX9_write 2 := ⟨zm4 133 (by decide +kernel) rfl, zm4 134 (by decide +kernel) rfl, zm1 13 (by decide +kernel) rfl, zm4 135 (by decide +kernel) rfl, ⟨(by decide +kernel), (by decide +kernel), (by decide +kernel)⟩, by decide, (by decide +kernel)⟩
theorem zw_nat : Cond.native arraycopyName ∈ zTB := zm2 53 (by decide +kernel) rfl
theorem zw_sta : Cond.static arraycopyName ∈ zTB := zm2 52 (by decide +kernel) rfl
theorem zw_ini : Cond.initialized "java/lang/System" ∈ zTB := zm1 12 (by decide +kernel) rfl
theorem kX9_61 : Cond.constant RX9 61 (65536 : Int32) ∈ zTB := zm4 21 (by decide +kernel) rfl
theorem kX8_186 : Cond.constantLong RX8 186 (-1 : Int64) ∈ zTB := zm3 132 (by decide +kernel) rfl
theorem kX8_188 : Cond.constantLong RX8 188 (-2 : Int64) ∈ zTB := zm3 133 (by decide +kernel) rfl
theorem kX8_200 : Cond.constantLong RX8 200 (-4 : Int64) ∈ zTB := zm3 167 (by decide +kernel) rfl
theorem kX0_66 : Cond.constantLong RX0 66 (7 : Int64) ∈ zTB := zm3 224 (by decide +kernel) rfl
theorem kL_13 : Cond.constantLong RL 13 (4294967295 : Int64) ∈ zTB := zm5 166 (by decide +kernel) rfl
theorem kX9_100 : Cond.constantLong RX9 100 (8 : Int64) ∈ zTB := zm4 136 (by decide +kernel) rfl
theorem kX9_110 : Cond.constantLong RX9 110 (255 : Int64) ∈ zTB := zm4 140 (by decide +kernel) rfl
theorem kX9_119 : Cond.constantLong RX9 119 (48 : Int64) ∈ zTB := zm4 165 (by decide +kernel) rfl
theorem kX9_121 : Cond.constantLong RX9 121 (57 : Int64) ∈ zTB := zm4 166 (by decide +kernel) rfl
theorem kX9_123 : Cond.constantLong RX9 123 (3 : Int64) ∈ zTB := zm4 167 (by decide +kernel) rfl
theorem kX9_138 : Cond.constantLong RX9 138 (2 : Int64) ∈ zTB := zm4 168 (by decide +kernel) rfl
theorem kX9_140 : Cond.constantLong RX9 140 (6 : Int64) ∈ zTB := zm4 169 (by decide +kernel) rfl
theorem kX9_236 : Cond.constantLong RX9 236 (-1 : Int64) ∈ zTB := zm5 43 (by decide +kernel) rfl
theorem kX9_238 : Cond.constantLong RX9 238 (11 : Int64) ∈ zTB := zm5 44 (by decide +kernel) rfl
theorem kX9_252 : Cond.constantLong RX9 252 (-2 : Int64) ∈ zTB := zm5 100 (by decide +kernel) rfl
theorem kX9_258 : Cond.constantLong RX9 258 (-4 : Int64) ∈ zTB := zm5 109 (by decide +kernel) rfl
theorem kX9_273 : Cond.constantLong RX9 273 (7 : Int64) ∈ zTB := zm5 145 (by decide +kernel) rfl
theorem fX8_103 : zFL RX8 103 8 7 := ⟨RX8, TX8, 13, rfl, by decide, zm2 61 (by decide +kernel) rfl, inX8⟩
theorem pX8_103 : zFP RX8 103 8 7 .int := ⟨RX8, TX8, 13, tyX8, rfl, by decide, zm2 61 (by decide +kernel) rfl, inX8, tyX8_ok, nmX8, rfl, (by decide +kernel)⟩
theorem fX8_110 : zFL RX8 110 2 3 := ⟨RX2, TX2, 15, rfl, by decide, zm1 60 (by decide +kernel) rfl, inX2⟩
theorem pX8_110 : zFP RX8 110 2 3 .int := ⟨RX2, TX2, 15, tyX2, rfl, by decide, zm1 60 (by decide +kernel) rfl, inX2, tyX2_ok, nmX2, rfl, (by decide +kernel)⟩
theorem fX8_126 : zFL RX8 126 2 1 := ⟨RX2, TX2, 15, rfl, by decide, zm1 52 (by decide +kernel) rfl, inX2⟩
theorem pX8_126 : zFP RX8 126 2 1 .int := ⟨RX2, TX2, 15, tyX2, rfl, by decide, zm1 52 (by decide +kernel) rfl, inX2, tyX2_ok, nmX2, rfl, (by decide +kernel)⟩
theorem fX8_133 : zFL RX8 133 3 1 := ⟨RX3, TX3, 3, rfl, by decide, zm1 158 (by decide +kernel) rfl, inX3⟩
theorem fX8_137 : zFL RX8 137 2 6 := ⟨RX2, TX2, 15, rfl, by decide, zm1 70 (by decide +kernel) rfl, inX2⟩
theorem fX8_153 : zFL RX8 153 1 1 := ⟨RX1, TX1, 5, rfl, by decide, zm1 176 (by decide +kernel) rfl, inX1⟩
theorem pX8_153 : zFP RX8 153 1 1 .int := ⟨RX1, TX1, 5, tyX1, rfl, by decide, zm1 176 (by decide +kernel) rfl, inX1, tyX1_ok, nmX1, rfl, (by decide +kernel)⟩
theorem fX8_156 : zFL RX8 156 1 0 := ⟨RX1, TX1, 5, rfl, by decide, zm1 174 (by decide +kernel) rfl, inX1⟩
theorem fX8_16 : zFL RX8 16 8 2 := ⟨RX8, TX8, 13, rfl, by decide, zm2 56 (by decide +kernel) rfl, inX8⟩
theorem fX8_160 : zFL RX8 160 7 2 := ⟨RX7, TX7, 6, rfl, by decide, zm1 202 (by decide +kernel) rfl, inX7⟩
theorem pX8_160 : zFP RX8 160 7 2 .int := ⟨RX7, TX7, 6, tyX7, rfl, by decide, zm1 202 (by decide +kernel) rfl, inX7, tyX7_ok, nmX7, rfl, (by decide +kernel)⟩
theorem fX8_166 : zFL RX8 166 7 0 := ⟨RX7, TX7, 6, rfl, by decide, zm1 198 (by decide +kernel) rfl, inX7⟩
theorem fX8_167 : zFL RX8 167 7 1 := ⟨RX7, TX7, 6, rfl, by decide, zm1 200 (by decide +kernel) rfl, inX7⟩
theorem fX8_173 : zFL RX8 173 3 0 := ⟨RX3, TX3, 3, rfl, by decide, zm1 156 (by decide +kernel) rfl, inX3⟩
theorem fX8_180 : zFL RX8 180 6 4 := ⟨RX6, TX6, 5, rfl, by decide, zm1 136 (by decide +kernel) rfl, inX6⟩
theorem pX8_180 : zFP RX8 180 6 4 .int := ⟨RX6, TX6, 5, tyX6, rfl, by decide, zm1 136 (by decide +kernel) rfl, inX6, tyX6_ok, nmX6, rfl, (by decide +kernel)⟩
theorem fX8_183 : zFL RX8 183 6 3 := ⟨RX6, TX6, 5, rfl, by decide, zm1 133 (by decide +kernel) rfl, inX6⟩
theorem fX8_214 : zFL RX8 214 5 0 := ⟨RX5, TX5, 4, rfl, by decide, zm1 226 (by decide +kernel) rfl, inX5⟩
theorem fX8_215 : zFL RX8 215 2 4 := ⟨RX2, TX2, 15, rfl, by decide, zm1 63 (by decide +kernel) rfl, inX2⟩
theorem pX8_215 : zFP RX8 215 2 4 .int := ⟨RX2, TX2, 15, tyX2, rfl, by decide, zm1 63 (by decide +kernel) rfl, inX2, tyX2_ok, nmX2, rfl, (by decide +kernel)⟩
theorem fX8_218 : zFL RX8 218 2 9 := ⟨RX2, TX2, 15, rfl, by decide, zm1 76 (by decide +kernel) rfl, inX2⟩
theorem fX8_221 : zFL RX8 221 6 0 := ⟨RX6, TX6, 5, rfl, by decide, zm1 124 (by decide +kernel) rfl, inX6⟩
theorem fX8_224 : zFL RX8 224 6 1 := ⟨RX6, TX6, 5, rfl, by decide, zm1 127 (by decide +kernel) rfl, inX6⟩
theorem fX8_227 : zFL RX8 227 6 2 := ⟨RX6, TX6, 5, rfl, by decide, zm1 130 (by decide +kernel) rfl, inX6⟩
theorem fX8_23 : zFL RX8 23 8 3 := ⟨RX8, TX8, 13, rfl, by decide, zm2 57 (by decide +kernel) rfl, inX8⟩
theorem pX8_23 : zFP RX8 23 8 3 (.object "LastThree$Plan") := ⟨RX8, TX8, 13, tyX8, rfl, by decide, zm2 57 (by decide +kernel) rfl, inX8, tyX8_ok, nmX8, rfl, (by decide +kernel)⟩
theorem fX8_237 : zFL RX8 237 0 0 := ⟨RX0, TX0, 5, rfl, by decide, zm2 9 (by decide +kernel) rfl, inX0⟩
theorem pX8_237 : zFP RX8 237 0 0 .int := ⟨RX0, TX0, 5, tyX0, rfl, by decide, zm2 9 (by decide +kernel) rfl, inX0, tyX0_ok, nmX0, rfl, (by decide +kernel)⟩
theorem fX8_240 : zFL RX8 240 0 1 := ⟨RX0, TX0, 5, rfl, by decide, zm2 11 (by decide +kernel) rfl, inX0⟩
theorem pX8_240 : zFP RX8 240 0 1 .int := ⟨RX0, TX0, 5, tyX0, rfl, by decide, zm2 11 (by decide +kernel) rfl, inX0, tyX0_ok, nmX0, rfl, (by decide +kernel)⟩
theorem fX8_250 : zFL RX8 250 2 0 := ⟨RX2, TX2, 15, rfl, by decide, zm1 48 (by decide +kernel) rfl, inX2⟩
theorem pX8_250 : zFP RX8 250 2 0 .int := ⟨RX2, TX2, 15, tyX2, rfl, by decide, zm1 48 (by decide +kernel) rfl, inX2, tyX2_ok, nmX2, rfl, (by decide +kernel)⟩
theorem fX8_253 : zFL RX8 253 2 2 := ⟨RX2, TX2, 15, rfl, by decide, zm1 55 (by decide +kernel) rfl, inX2⟩
theorem pX8_253 : zFP RX8 253 2 2 .int := ⟨RX2, TX2, 15, tyX2, rfl, by decide, zm1 55 (by decide +kernel) rfl, inX2, tyX2_ok, nmX2, rfl, (by decide +kernel)⟩
theorem fX8_27 : zFL RX8 27 8 4 := ⟨RX8, TX8, 13, rfl, by decide, zm2 58 (by decide +kernel) rfl, inX8⟩
theorem pX8_27 : zFP RX8 27 8 4 (.object "LastThree$Plan") := ⟨RX8, TX8, 13, tyX8, rfl, by decide, zm2 58 (by decide +kernel) rfl, inX8, tyX8_ok, nmX8, rfl, (by decide +kernel)⟩
theorem fX8_33 : zFL RX8 33 8 5 := ⟨RX8, TX8, 13, rfl, by decide, zm2 59 (by decide +kernel) rfl, inX8⟩
theorem fX8_37 : zFL RX8 37 8 6 := ⟨RX8, TX8, 13, rfl, by decide, zm2 60 (by decide +kernel) rfl, inX8⟩
theorem fX8_44 : zFL RX8 44 8 8 := ⟨RX8, TX8, 13, rfl, by decide, zm2 62 (by decide +kernel) rfl, inX8⟩
theorem fX8_51 : zFL RX8 51 8 9 := ⟨RX8, TX8, 13, rfl, by decide, zm2 63 (by decide +kernel) rfl, inX8⟩
theorem fX8_58 : zFL RX8 58 8 10 := ⟨RX8, TX8, 13, rfl, by decide, zm2 64 (by decide +kernel) rfl, inX8⟩
theorem fX8_65 : zFL RX8 65 8 11 := ⟨RX8, TX8, 13, rfl, by decide, zm2 65 (by decide +kernel) rfl, inX8⟩
theorem fX8_72 : zFL RX8 72 8 12 := ⟨RX8, TX8, 13, rfl, by decide, zm2 66 (by decide +kernel) rfl, inX8⟩
theorem fX8_9 : zFL RX8 9 8 0 := ⟨RX8, TX8, 13, rfl, by decide, zm2 54 (by decide +kernel) rfl, inX8⟩
theorem fX8_91 : zFL RX8 91 8 1 := ⟨RX8, TX8, 13, rfl, by decide, zm2 55 (by decide +kernel) rfl, inX8⟩
theorem pX8_91 : zFP RX8 91 8 1 .int := ⟨RX8, TX8, 13, tyX8, rfl, by decide, zm2 55 (by decide +kernel) rfl, inX8, tyX8_ok, nmX8, rfl, (by decide +kernel)⟩
theorem fX0_18 : zFL RX0 18 0 3 := ⟨RX0, TX0, 5, rfl, by decide, zm2 13 (by decide +kernel) rfl, inX0⟩
theorem fX0_22 : zFL RX0 22 0 4 := ⟨RX0, TX0, 5, rfl, by decide, zm2 14 (by decide +kernel) rfl, inX0⟩
theorem fX0_26 : zFL RX0 26 2 4 := ⟨RX2, TX2, 15, rfl, by decide, zm1 61 (by decide +kernel) rfl, inX2⟩
theorem pX0_26 : zFP RX0 26 2 4 .int := ⟨RX2, TX2, 15, tyX2, rfl, by decide, zm1 61 (by decide +kernel) rfl, inX2, tyX2_ok, nmX2, rfl, (by decide +kernel)⟩
theorem fX0_32 : zFL RX0 32 6 2 := ⟨RX6, TX6, 5, rfl, by decide, zm1 129 (by decide +kernel) rfl, inX6⟩
theorem fX0_35 : zFL RX0 35 2 9 := ⟨RX2, TX2, 15, rfl, by decide, zm1 75 (by decide +kernel) rfl, inX2⟩
theorem fX0_38 : zFL RX0 38 6 0 := ⟨RX6, TX6, 5, rfl, by decide, zm1 123 (by decide +kernel) rfl, inX6⟩
theorem fX0_41 : zFL RX0 41 6 1 := ⟨RX6, TX6, 5, rfl, by decide, zm1 126 (by decide +kernel) rfl, inX6⟩
theorem fX0_60 : zFL RX0 60 0 0 := ⟨RX0, TX0, 5, rfl, by decide, zm2 8 (by decide +kernel) rfl, inX0⟩
theorem pX0_60 : zFP RX0 60 0 0 .int := ⟨RX0, TX0, 5, tyX0, rfl, by decide, zm2 8 (by decide +kernel) rfl, inX0, tyX0_ok, nmX0, rfl, (by decide +kernel)⟩
theorem fX0_63 : zFL RX0 63 0 1 := ⟨RX0, TX0, 5, rfl, by decide, zm2 10 (by decide +kernel) rfl, inX0⟩
theorem pX0_63 : zFP RX0 63 0 1 .int := ⟨RX0, TX0, 5, tyX0, rfl, by decide, zm2 10 (by decide +kernel) rfl, inX0, tyX0_ok, nmX0, rfl, (by decide +kernel)⟩
theorem fX0_75 : zFL RX0 75 2 0 := ⟨RX2, TX2, 15, rfl, by decide, zm1 46 (by decide +kernel) rfl, inX2⟩
theorem pX0_75 : zFP RX0 75 2 0 .int := ⟨RX2, TX2, 15, tyX2, rfl, by decide, zm1 46 (by decide +kernel) rfl, inX2, tyX2_ok, nmX2, rfl, (by decide +kernel)⟩
theorem fX0_9 : zFL RX0 9 0 2 := ⟨RX0, TX0, 5, rfl, by decide, zm2 12 (by decide +kernel) rfl, inX0⟩
theorem fX1_15 : zFL RX1 15 1 2 := ⟨RX1, TX1, 5, rfl, by decide, zm1 177 (by decide +kernel) rfl, inX1⟩
theorem pX1_15 : zFP RX1 15 1 2 .int := ⟨RX1, TX1, 5, tyX1, rfl, by decide, zm1 177 (by decide +kernel) rfl, inX1, tyX1_ok, nmX1, rfl, (by decide +kernel)⟩
theorem fX1_19 : zFL RX1 19 1 3 := ⟨RX1, TX1, 5, rfl, by decide, zm1 178 (by decide +kernel) rfl, inX1⟩
theorem fX1_22 : zFL RX1 22 1 4 := ⟨RX1, TX1, 5, rfl, by decide, zm1 179 (by decide +kernel) rfl, inX1⟩
theorem fX1_45 : zFL RX1 45 1 1 := ⟨RX1, TX1, 5, rfl, by decide, zm1 175 (by decide +kernel) rfl, inX1⟩
theorem pX1_45 : zFP RX1 45 1 1 .int := ⟨RX1, TX1, 5, tyX1, rfl, by decide, zm1 175 (by decide +kernel) rfl, inX1, tyX1_ok, nmX1, rfl, (by decide +kernel)⟩
theorem fX1_51 : zFL RX1 51 2 3 := ⟨RX2, TX2, 15, rfl, by decide, zm1 58 (by decide +kernel) rfl, inX2⟩
theorem pX1_51 : zFP RX1 51 2 3 .int := ⟨RX2, TX2, 15, tyX2, rfl, by decide, zm1 58 (by decide +kernel) rfl, inX2, tyX2_ok, nmX2, rfl, (by decide +kernel)⟩
theorem fX1_54 : zFL RX1 54 2 6 := ⟨RX2, TX2, 15, rfl, by decide, zm1 68 (by decide +kernel) rfl, inX2⟩
theorem fX1_9 : zFL RX1 9 1 0 := ⟨RX1, TX1, 5, rfl, by decide, zm1 173 (by decide +kernel) rfl, inX1⟩
theorem fX2_15 : zFL RX2 15 2 6 := ⟨RX2, TX2, 15, rfl, by decide, zm1 66 (by decide +kernel) rfl, inX2⟩
theorem fX2_18 : zFL RX2 18 2 7 := ⟨RX2, TX2, 15, rfl, by decide, zm1 71 (by decide +kernel) rfl, inX2⟩
theorem fX2_21 : zFL RX2 21 2 8 := ⟨RX2, TX2, 15, rfl, by decide, zm1 72 (by decide +kernel) rfl, inX2⟩
theorem fX2_24 : zFL RX2 24 2 9 := ⟨RX2, TX2, 15, rfl, by decide, zm1 74 (by decide +kernel) rfl, inX2⟩
theorem fX2_27 : zFL RX2 27 2 10 := ⟨RX2, TX2, 15, rfl, by decide, zm1 77 (by decide +kernel) rfl, inX2⟩
theorem fX2_30 : zFL RX2 30 2 11 := ⟨RX2, TX2, 15, rfl, by decide, zm1 79 (by decide +kernel) rfl, inX2⟩
theorem fX2_33 : zFL RX2 33 2 12 := ⟨RX2, TX2, 15, rfl, by decide, zm1 81 (by decide +kernel) rfl, inX2⟩
theorem fX2_36 : zFL RX2 36 2 0 := ⟨RX2, TX2, 15, rfl, by decide, zm1 43 (by decide +kernel) rfl, inX2⟩
theorem pX2_36 : zFP RX2 36 2 0 .int := ⟨RX2, TX2, 15, tyX2, rfl, by decide, zm1 43 (by decide +kernel) rfl, inX2, tyX2_ok, nmX2, rfl, (by decide +kernel)⟩
theorem fX2_40 : zFL RX2 40 2 1 := ⟨RX2, TX2, 15, rfl, by decide, zm1 49 (by decide +kernel) rfl, inX2⟩
theorem pX2_40 : zFP RX2 40 2 1 .int := ⟨RX2, TX2, 15, tyX2, rfl, by decide, zm1 49 (by decide +kernel) rfl, inX2, tyX2_ok, nmX2, rfl, (by decide +kernel)⟩
theorem fX2_43 : zFL RX2 43 2 2 := ⟨RX2, TX2, 15, rfl, by decide, zm1 53 (by decide +kernel) rfl, inX2⟩
theorem pX2_43 : zFP RX2 43 2 2 .int := ⟨RX2, TX2, 15, tyX2, rfl, by decide, zm1 53 (by decide +kernel) rfl, inX2, tyX2_ok, nmX2, rfl, (by decide +kernel)⟩
theorem fX2_46 : zFL RX2 46 2 3 := ⟨RX2, TX2, 15, rfl, by decide, zm1 57 (by decide +kernel) rfl, inX2⟩
theorem pX2_46 : zFP RX2 46 2 3 .int := ⟨RX2, TX2, 15, tyX2, rfl, by decide, zm1 57 (by decide +kernel) rfl, inX2, tyX2_ok, nmX2, rfl, (by decide +kernel)⟩
theorem fX2_49 : zFL RX2 49 2 4 := ⟨RX2, TX2, 15, rfl, by decide, zm1 62 (by decide +kernel) rfl, inX2⟩
theorem pX2_49 : zFP RX2 49 2 4 .int := ⟨RX2, TX2, 15, tyX2, rfl, by decide, zm1 62 (by decide +kernel) rfl, inX2, tyX2_ok, nmX2, rfl, (by decide +kernel)⟩
theorem fX2_52 : zFL RX2 52 2 13 := ⟨RX2, TX2, 15, rfl, by decide, zm1 83 (by decide +kernel) rfl, inX2⟩
theorem pX2_52 : zFP RX2 52 2 13 .int := ⟨RX2, TX2, 15, tyX2, rfl, by decide, zm1 83 (by decide +kernel) rfl, inX2, tyX2_ok, nmX2, rfl, (by decide +kernel)⟩
theorem fX2_55 : zFL RX2 55 2 14 := ⟨RX2, TX2, 15, rfl, by decide, zm1 84 (by decide +kernel) rfl, inX2⟩
theorem pX2_55 : zFP RX2 55 2 14 .int := ⟨RX2, TX2, 15, tyX2, rfl, by decide, zm1 84 (by decide +kernel) rfl, inX2, tyX2_ok, nmX2, rfl, (by decide +kernel)⟩
theorem fX2_9 : zFL RX2 9 2 5 := ⟨RX2, TX2, 15, rfl, by decide, zm1 64 (by decide +kernel) rfl, inX2⟩
theorem fX3_15 : zFL RX3 15 3 1 := ⟨RX3, TX3, 3, rfl, by decide, zm1 157 (by decide +kernel) rfl, inX3⟩
theorem fX3_18 : zFL RX3 18 3 2 := ⟨RX3, TX3, 3, rfl, by decide, zm1 159 (by decide +kernel) rfl, inX3⟩
theorem fX3_25 : zFL RX3 25 2 3 := ⟨RX2, TX2, 15, rfl, by decide, zm1 56 (by decide +kernel) rfl, inX2⟩
theorem pX3_25 : zFP RX3 25 2 3 .int := ⟨RX2, TX2, 15, tyX2, rfl, by decide, zm1 56 (by decide +kernel) rfl, inX2, tyX2_ok, nmX2, rfl, (by decide +kernel)⟩
theorem fX3_31 : zFL RX3 31 2 2 := ⟨RX2, TX2, 15, rfl, by decide, zm1 54 (by decide +kernel) rfl, inX2⟩
theorem pX3_31 : zFP RX3 31 2 2 .int := ⟨RX2, TX2, 15, tyX2, rfl, by decide, zm1 54 (by decide +kernel) rfl, inX2, tyX2_ok, nmX2, rfl, (by decide +kernel)⟩
theorem fX3_34 : zFL RX3 34 2 6 := ⟨RX2, TX2, 15, rfl, by decide, zm1 67 (by decide +kernel) rfl, inX2⟩
theorem fX3_45 : zFL RX3 45 2 1 := ⟨RX2, TX2, 15, rfl, by decide, zm1 50 (by decide +kernel) rfl, inX2⟩
theorem pX3_45 : zFP RX3 45 2 1 .int := ⟨RX2, TX2, 15, tyX2, rfl, by decide, zm1 50 (by decide +kernel) rfl, inX2, tyX2_ok, nmX2, rfl, (by decide +kernel)⟩
theorem fX3_56 : zFL RX3 56 2 5 := ⟨RX2, TX2, 15, rfl, by decide, zm1 65 (by decide +kernel) rfl, inX2⟩
theorem fX3_67 : zFL RX3 67 2 0 := ⟨RX2, TX2, 15, rfl, by decide, zm1 47 (by decide +kernel) rfl, inX2⟩
theorem pX3_67 : zFP RX3 67 2 0 .int := ⟨RX2, TX2, 15, tyX2, rfl, by decide, zm1 47 (by decide +kernel) rfl, inX2, tyX2_ok, nmX2, rfl, (by decide +kernel)⟩
theorem fX3_9 : zFL RX3 9 3 0 := ⟨RX3, TX3, 3, rfl, by decide, zm1 155 (by decide +kernel) rfl, inX3⟩
theorem fX4_11 : zFL RX4 11 4 0 := ⟨RX4, TX4, 2, rfl, by decide, zm1 28 (by decide +kernel) rfl, inX4⟩
theorem fX4_34 : zFL RX4 34 4 1 := ⟨RX4, TX4, 2, rfl, by decide, zm1 29 (by decide +kernel) rfl, inX4⟩
theorem pX4_34 : zFP RX4 34 4 1 .int := ⟨RX4, TX4, 2, tyX4, rfl, by decide, zm1 29 (by decide +kernel) rfl, inX4, tyX4_ok, nmX4, rfl, (by decide +kernel)⟩
theorem fX5_15 : zFL RX5 15 5 1 := ⟨RX5, TX5, 4, rfl, by decide, zm1 227 (by decide +kernel) rfl, inX5⟩
theorem fX5_19 : zFL RX5 19 5 2 := ⟨RX5, TX5, 4, rfl, by decide, zm1 228 (by decide +kernel) rfl, inX5⟩
theorem fX5_22 : zFL RX5 22 5 3 := ⟨RX5, TX5, 4, rfl, by decide, zm1 229 (by decide +kernel) rfl, inX5⟩
theorem fX5_25 : zFL RX5 25 2 8 := ⟨RX2, TX2, 15, rfl, by decide, zm1 73 (by decide +kernel) rfl, inX2⟩
theorem fX5_47 : zFL RX5 47 6 4 := ⟨RX6, TX6, 5, rfl, by decide, zm1 135 (by decide +kernel) rfl, inX6⟩
theorem pX5_47 : zFP RX5 47 6 4 .int := ⟨RX6, TX6, 5, tyX6, rfl, by decide, zm1 135 (by decide +kernel) rfl, inX6, tyX6_ok, nmX6, rfl, (by decide +kernel)⟩
theorem fX5_53 : zFL RX5 53 2 0 := ⟨RX2, TX2, 15, rfl, by decide, zm1 45 (by decide +kernel) rfl, inX2⟩
theorem pX5_53 : zFP RX5 53 2 0 .int := ⟨RX2, TX2, 15, tyX2, rfl, by decide, zm1 45 (by decide +kernel) rfl, inX2, tyX2_ok, nmX2, rfl, (by decide +kernel)⟩
theorem fX5_56 : zFL RX5 56 6 3 := ⟨RX6, TX6, 5, rfl, by decide, zm1 132 (by decide +kernel) rfl, inX6⟩
theorem fX5_63 : zFL RX5 63 2 1 := ⟨RX2, TX2, 15, rfl, by decide, zm1 51 (by decide +kernel) rfl, inX2⟩
theorem pX5_63 : zFP RX5 63 2 1 .int := ⟨RX2, TX2, 15, tyX2, rfl, by decide, zm1 51 (by decide +kernel) rfl, inX2, tyX2_ok, nmX2, rfl, (by decide +kernel)⟩
theorem fX5_9 : zFL RX5 9 5 0 := ⟨RX5, TX5, 4, rfl, by decide, zm1 225 (by decide +kernel) rfl, inX5⟩
theorem fX6_15 : zFL RX6 15 6 1 := ⟨RX6, TX6, 5, rfl, by decide, zm1 125 (by decide +kernel) rfl, inX6⟩
theorem fX6_18 : zFL RX6 18 6 2 := ⟨RX6, TX6, 5, rfl, by decide, zm1 128 (by decide +kernel) rfl, inX6⟩
theorem fX6_21 : zFL RX6 21 6 3 := ⟨RX6, TX6, 5, rfl, by decide, zm1 131 (by decide +kernel) rfl, inX6⟩
theorem fX6_24 : zFL RX6 24 2 10 := ⟨RX2, TX2, 15, rfl, by decide, zm1 78 (by decide +kernel) rfl, inX2⟩
theorem fX6_33 : zFL RX6 33 2 11 := ⟨RX2, TX2, 15, rfl, by decide, zm1 80 (by decide +kernel) rfl, inX2⟩
theorem fX6_34 : zFL RX6 34 2 12 := ⟨RX2, TX2, 15, rfl, by decide, zm1 82 (by decide +kernel) rfl, inX2⟩
theorem fX6_35 : zFL RX6 35 6 4 := ⟨RX6, TX6, 5, rfl, by decide, zm1 134 (by decide +kernel) rfl, inX6⟩
theorem pX6_35 : zFP RX6 35 6 4 .int := ⟨RX6, TX6, 5, tyX6, rfl, by decide, zm1 134 (by decide +kernel) rfl, inX6, tyX6_ok, nmX6, rfl, (by decide +kernel)⟩
theorem fX6_9 : zFL RX6 9 6 0 := ⟨RX6, TX6, 5, rfl, by decide, zm1 122 (by decide +kernel) rfl, inX6⟩
theorem fX7_15 : zFL RX7 15 7 1 := ⟨RX7, TX7, 6, rfl, by decide, zm1 199 (by decide +kernel) rfl, inX7⟩
theorem fX7_18 : zFL RX7 18 7 3 := ⟨RX7, TX7, 6, rfl, by decide, zm1 203 (by decide +kernel) rfl, inX7⟩
theorem pX7_18 : zFP RX7 18 7 3 .int := ⟨RX7, TX7, 6, tyX7, rfl, by decide, zm1 203 (by decide +kernel) rfl, inX7, tyX7_ok, nmX7, rfl, (by decide +kernel)⟩
theorem fX7_22 : zFL RX7 22 7 4 := ⟨RX7, TX7, 6, rfl, by decide, zm1 204 (by decide +kernel) rfl, inX7⟩
theorem fX7_25 : zFL RX7 25 7 5 := ⟨RX7, TX7, 6, rfl, by decide, zm1 205 (by decide +kernel) rfl, inX7⟩
theorem fX7_28 : zFL RX7 28 7 2 := ⟨RX7, TX7, 6, rfl, by decide, zm1 201 (by decide +kernel) rfl, inX7⟩
theorem pX7_28 : zFP RX7 28 7 2 .int := ⟨RX7, TX7, 6, tyX7, rfl, by decide, zm1 201 (by decide +kernel) rfl, inX7, tyX7_ok, nmX7, rfl, (by decide +kernel)⟩
theorem fX7_37 : zFL RX7 37 2 3 := ⟨RX2, TX2, 15, rfl, by decide, zm1 59 (by decide +kernel) rfl, inX2⟩
theorem pX7_37 : zFP RX7 37 2 3 .int := ⟨RX2, TX2, 15, tyX2, rfl, by decide, zm1 59 (by decide +kernel) rfl, inX2, tyX2_ok, nmX2, rfl, (by decide +kernel)⟩
theorem fX7_54 : zFL RX7 54 2 0 := ⟨RX2, TX2, 15, rfl, by decide, zm1 44 (by decide +kernel) rfl, inX2⟩
theorem pX7_54 : zFP RX7 54 2 0 .int := ⟨RX2, TX2, 15, tyX2, rfl, by decide, zm1 44 (by decide +kernel) rfl, inX2, tyX2_ok, nmX2, rfl, (by decide +kernel)⟩
theorem fX7_74 : zFL RX7 74 2 6 := ⟨RX2, TX2, 15, rfl, by decide, zm1 69 (by decide +kernel) rfl, inX2⟩
theorem fX7_9 : zFL RX7 9 7 0 := ⟨RX7, TX7, 6, rfl, by decide, zm1 197 (by decide +kernel) rfl, inX7⟩
theorem fX9_106 : zFL RX9 106 9 0 := ⟨RX9, TX9, 35, rfl, by decide, zm4 26 (by decide +kernel) rfl, inX9⟩
theorem pX9_106 : zFP RX9 106 9 0 .int := ⟨RX9, TX9, 35, tyX9, rfl, by decide, zm4 26 (by decide +kernel) rfl, inX9, tyX9_ok, nmX9, rfl, (by decide +kernel)⟩
theorem fX9_112 : zFL RX9 112 9 17 := ⟨RX9, TX9, 35, rfl, by decide, zm4 43 (by decide +kernel) rfl, inX9⟩
theorem pX9_112 : zFP RX9 112 9 17 .int := ⟨RX9, TX9, 35, tyX9, rfl, by decide, zm4 43 (by decide +kernel) rfl, inX9, tyX9_ok, nmX9, rfl, (by decide +kernel)⟩
theorem fX9_125 : zFL RX9 125 9 19 := ⟨RX9, TX9, 35, rfl, by decide, zm4 45 (by decide +kernel) rfl, inX9⟩
theorem pX9_125 : zFP RX9 125 9 19 .int := ⟨RX9, TX9, 35, tyX9, rfl, by decide, zm4 45 (by decide +kernel) rfl, inX9, tyX9_ok, nmX9, rfl, (by decide +kernel)⟩
theorem fX9_13 : zFL RX9 13 9 2 := ⟨RX9, TX9, 35, rfl, by decide, zm4 28 (by decide +kernel) rfl, inX9⟩
theorem fX9_135 : zFL RX9 135 9 20 := ⟨RX9, TX9, 35, rfl, by decide, zm4 46 (by decide +kernel) rfl, inX9⟩
theorem pX9_135 : zFP RX9 135 9 20 .int := ⟨RX9, TX9, 35, tyX9, rfl, by decide, zm4 46 (by decide +kernel) rfl, inX9, tyX9_ok, nmX9, rfl, (by decide +kernel)⟩
theorem fX9_16 : zFL RX9 16 9 3 := ⟨RX9, TX9, 35, rfl, by decide, zm4 29 (by decide +kernel) rfl, inX9⟩
theorem fX9_162 : zFL RX9 162 9 16 := ⟨RX9, TX9, 35, rfl, by decide, zm4 42 (by decide +kernel) rfl, inX9⟩
theorem pX9_162 : zFP RX9 162 9 16 .int := ⟨RX9, TX9, 35, tyX9, rfl, by decide, zm4 42 (by decide +kernel) rfl, inX9, tyX9_ok, nmX9, rfl, (by decide +kernel)⟩
theorem fX9_171 : zFL RX9 171 9 22 := ⟨RX9, TX9, 35, rfl, by decide, zm4 48 (by decide +kernel) rfl, inX9⟩
theorem pX9_171 : zFP RX9 171 9 22 .int := ⟨RX9, TX9, 35, tyX9, rfl, by decide, zm4 48 (by decide +kernel) rfl, inX9, tyX9_ok, nmX9, rfl, (by decide +kernel)⟩
theorem fX9_19 : zFL RX9 19 9 4 := ⟨RX9, TX9, 35, rfl, by decide, zm4 30 (by decide +kernel) rfl, inX9⟩
theorem fX9_22 : zFL RX9 22 9 5 := ⟨RX9, TX9, 35, rfl, by decide, zm4 31 (by decide +kernel) rfl, inX9⟩
theorem fX9_233 : zFL RX9 233 9 25 := ⟨RX9, TX9, 35, rfl, by decide, zm4 51 (by decide +kernel) rfl, inX9⟩
theorem pX9_233 : zFP RX9 233 9 25 .int := ⟨RX9, TX9, 35, tyX9, rfl, by decide, zm4 51 (by decide +kernel) rfl, inX9, tyX9_ok, nmX9, rfl, (by decide +kernel)⟩
theorem fX9_25 : zFL RX9 25 9 6 := ⟨RX9, TX9, 35, rfl, by decide, zm4 32 (by decide +kernel) rfl, inX9⟩
theorem fX9_28 : zFL RX9 28 9 7 := ⟨RX9, TX9, 35, rfl, by decide, zm4 33 (by decide +kernel) rfl, inX9⟩
theorem fX9_31 : zFL RX9 31 9 8 := ⟨RX9, TX9, 35, rfl, by decide, zm4 34 (by decide +kernel) rfl, inX9⟩
theorem fX9_34 : zFL RX9 34 9 9 := ⟨RX9, TX9, 35, rfl, by decide, zm4 35 (by decide +kernel) rfl, inX9⟩
theorem fX9_37 : zFL RX9 37 9 10 := ⟨RX9, TX9, 35, rfl, by decide, zm4 36 (by decide +kernel) rfl, inX9⟩
theorem fX9_40 : zFL RX9 40 9 11 := ⟨RX9, TX9, 35, rfl, by decide, zm4 37 (by decide +kernel) rfl, inX9⟩
theorem fX9_43 : zFL RX9 43 9 12 := ⟨RX9, TX9, 35, rfl, by decide, zm4 38 (by decide +kernel) rfl, inX9⟩
theorem fX9_46 : zFL RX9 46 9 13 := ⟨RX9, TX9, 35, rfl, by decide, zm4 39 (by decide +kernel) rfl, inX9⟩
theorem fX9_49 : zFL RX9 49 9 14 := ⟨RX9, TX9, 35, rfl, by decide, zm4 40 (by decide +kernel) rfl, inX9⟩
theorem fX9_52 : zFL RX9 52 9 15 := ⟨RX9, TX9, 35, rfl, by decide, zm4 41 (by decide +kernel) rfl, inX9⟩
theorem fX9_55 : zFL RX9 55 9 18 := ⟨RX9, TX9, 35, rfl, by decide, zm4 44 (by decide +kernel) rfl, inX9⟩
theorem fX9_58 : zFL RX9 58 9 21 := ⟨RX9, TX9, 35, rfl, by decide, zm4 47 (by decide +kernel) rfl, inX9⟩
theorem fX9_62 : zFL RX9 62 9 23 := ⟨RX9, TX9, 35, rfl, by decide, zm4 49 (by decide +kernel) rfl, inX9⟩
theorem fX9_65 : zFL RX9 65 9 24 := ⟨RX9, TX9, 35, rfl, by decide, zm4 50 (by decide +kernel) rfl, inX9⟩
theorem fX9_68 : zFL RX9 68 9 26 := ⟨RX9, TX9, 35, rfl, by decide, zm4 52 (by decide +kernel) rfl, inX9⟩
theorem fX9_7 : zFL RX9 7 9 1 := ⟨RX9, TX9, 35, rfl, by decide, zm4 27 (by decide +kernel) rfl, inX9⟩
theorem fX9_71 : zFL RX9 71 9 27 := ⟨RX9, TX9, 35, rfl, by decide, zm4 53 (by decide +kernel) rfl, inX9⟩
theorem fX9_74 : zFL RX9 74 9 28 := ⟨RX9, TX9, 35, rfl, by decide, zm4 54 (by decide +kernel) rfl, inX9⟩
theorem fX9_77 : zFL RX9 77 9 29 := ⟨RX9, TX9, 35, rfl, by decide, zm4 55 (by decide +kernel) rfl, inX9⟩
theorem fX9_81 : zFL RX9 81 9 30 := ⟨RX9, TX9, 35, rfl, by decide, zm4 56 (by decide +kernel) rfl, inX9⟩
theorem fX9_84 : zFL RX9 84 9 31 := ⟨RX9, TX9, 35, rfl, by decide, zm4 57 (by decide +kernel) rfl, inX9⟩
theorem fX9_87 : zFL RX9 87 9 32 := ⟨RX9, TX9, 35, rfl, by decide, zm4 58 (by decide +kernel) rfl, inX9⟩
theorem fX9_90 : zFL RX9 90 9 33 := ⟨RX9, TX9, 35, rfl, by decide, zm4 59 (by decide +kernel) rfl, inX9⟩
theorem fX9_93 : zFL RX9 93 9 34 := ⟨RX9, TX9, 35, rfl, by decide, zm4 60 (by decide +kernel) rfl, inX9⟩
theorem lX8_106 : Cond.methodLink RX8 106 yX1_forget ∈ zTB := zm2 160 (by decide +kernel) rfl
theorem lX8_109 : Cond.methodLink RX8 109 yX7_forget ∈ zTB := zm2 164 (by decide +kernel) rfl
theorem lX8_113 : Cond.methodLink RX8 113 yX8_isThing ∈ zTB := zm2 172 (by decide +kernel) rfl
theorem lX8_116 : Cond.methodLink RX8 116 yX8_isSign ∈ zTB := zm2 176 (by decide +kernel) rfl
theorem lX8_119 : Cond.methodLink RX8 119 yX2_worthOf ∈ zTB := zm2 180 (by decide +kernel) rfl
theorem lX8_123 : Cond.methodLink RX8 123 yX8_isQueued ∈ zTB := zm2 188 (by decide +kernel) rfl
theorem lX8_129 : Cond.methodLink RX8 129 yX3_comeAsWished ∈ zTB := zm2 192 (by decide +kernel) rfl
theorem lX8_140 : Cond.methodLink RX8 140 yX3_differing ∈ zTB := zm2 213 (by decide +kernel) rfl
theorem lX8_144 : Cond.methodLink RX8 144 yX8_isSet ∈ zTB := zm2 222 (by decide +kernel) rfl
theorem lX8_147 : Cond.methodLink RX8 147 yX2_remembersTwo ∈ zTB := zm2 226 (by decide +kernel) rfl
theorem lX8_150 : Cond.methodLink RX8 150 yX1_find ∈ zTB := zm2 230 (by decide +kernel) rfl
theorem lX8_159 : Cond.methodLink RX8 159 yX7_find ∈ zTB := zm3 50 (by decide +kernel) rfl
theorem lX8_163 : Cond.methodLink RX8 163 yX7_isOne ∈ zTB := zm3 75 (by decide +kernel) rfl
theorem lX8_170 : Cond.methodLink RX8 170 yX3_comeForThemselves ∈ zTB := zm3 87 (by decide +kernel) rfl
theorem lX8_176 : Cond.methodLink RX8 176 yX3_swapTillNobodyGains ∈ zTB := zm3 108 (by decide +kernel) rfl
theorem lX8_190 : Cond.methodLink RX8 190 yX5_number ∈ zTB := zm3 134 (by decide +kernel) rfl
theorem lX8_194 : Cond.methodLink RX8 194 yX5_weight ∈ zTB := zm3 151 (by decide +kernel) rfl
theorem lX8_197 : Cond.methodLink RX8 197 yX8_isGift ∈ zTB := zm3 163 (by decide +kernel) rfl
theorem lX8_202 : Cond.methodLink RX8 202 yX5_weightWith ∈ zTB := zm3 168 (by decide +kernel) rfl
theorem lX8_206 : Cond.methodLink RX8 206 yX8_commonDivisor ∈ zTB := zm3 169 (by decide +kernel) rfl
theorem lX8_210 : Cond.methodLink RX8 210 yX5_findLikeliest ∈ zTB := zm3 176 (by decide +kernel) rfl
theorem lX8_230 : Cond.methodLink RX8 230 yX0_advance ∈ zTB := zm3 203 (by decide +kernel) rfl
theorem lX8_234 : Cond.methodLink RX8 234 yX0_findRing ∈ zTB := zm3 212 (by decide +kernel) rfl
theorem lX8_243 : Cond.methodLink RX8 243 yX0_statesAhead ∈ zTB := zm3 230 (by decide +kernel) rfl
theorem lX8_246 : Cond.methodLink RX8 246 yX6_copyFrom ∈ zTB := zm4 6 (by decide +kernel) rfl
theorem lX8_256 : Cond.methodLink RX8 256 yX8_majority ∈ zTB := zm3 30 (by decide +kernel) rfl
theorem lX8_260 : Cond.methodLink RX8 260 Lib.Math.max.name ∈ zTB := zm2 204 (by decide +kernel) rfl
theorem lX8_76 : Cond.methodLink RX8 76 yX2_clear ∈ zTB := zm2 26 (by decide +kernel) rfl
theorem lX8_79 : Cond.methodLink RX8 79 yX2_addWish ∈ zTB := zm2 33 (by decide +kernel) rfl
theorem lX8_83 : Cond.methodLink RX8 83 yX6_begin ∈ zTB := zm2 47 (by decide +kernel) rfl
theorem lX8_87 : Cond.methodLink RX8 87 yX8_within ∈ zTB := zm2 98 (by decide +kernel) rfl
theorem lX8_95 : Cond.methodLink RX8 95 yX4_readInto ∈ zTB := zm2 107 (by decide +kernel) rfl
theorem lX8_99 : Cond.methodLink RX8 99 yX2_holdsTogether ∈ zTB := zm2 156 (by decide +kernel) rfl
theorem lX0_48 : Cond.methodLink RX0 48 yX6_copyFrom ∈ zTB := zm3 216 (by decide +kernel) rfl
theorem lX0_52 : Cond.methodLink RX0 52 yX0_numberOf ∈ zTB := zm3 220 (by decide +kernel) rfl
theorem lX0_56 : Cond.methodLink RX0 56 yX0_advance ∈ zTB := zm3 225 (by decide +kernel) rfl
theorem lX0_68 : Cond.methodLink RX0 68 yX0_asksAhead ∈ zTB := zm3 234 (by decide +kernel) rfl
theorem lX0_72 : Cond.methodLink RX0 72 yX0_giftsAhead ∈ zTB := zm3 238 (by decide +kernel) rfl
theorem lX1_25 : Cond.methodLink RX1 25 yJ7_fill_53178 ∈ zTB := zm2 234 (by decide +kernel) rfl
theorem lX1_31 : Cond.methodLink RX1 31 yX1_findAlike ∈ zTB := zm2 235 (by decide +kernel) rfl
theorem lX1_35 : Cond.methodLink RX1 35 yX2_pairAhead ∈ zTB := zm3 3 (by decide +kernel) rfl
theorem lX1_41 : Cond.methodLink RX1 41 yX1_mostLeft ∈ zTB := zm3 11 (by decide +kernel) rfl
theorem lX1_48 : Cond.methodLink RX1 48 yX1_followMost ∈ zTB := zm3 38 (by decide +kernel) rfl
theorem lX1_57 : Cond.methodLink RX1 57 yX2_isIn ∈ zTB := zm2 239 (by decide +kernel) rfl
theorem lX1_61 : Cond.methodLink RX1 61 yX1_mayCome ∈ zTB := zm3 15 (by decide +kernel) rfl
theorem lX1_65 : Cond.methodLink RX1 65 yX1_mostIfComes ∈ zTB := zm3 19 (by decide +kernel) rfl
theorem lX1_69 : Cond.methodLink RX1 69 Lib.Math.max.name ∈ zTB := zm3 37 (by decide +kernel) rfl
theorem lX1_75 : Cond.methodLink RX1 75 yX2_hasBehind ∈ zTB := zm3 23 (by decide +kernel) rfl
theorem lX1_78 : Cond.methodLink RX1 78 yX1_pairBehind ∈ zTB := zm3 33 (by decide +kernel) rfl
theorem lX1_82 : Cond.methodLink RX1 82 yX1_firstOfMost ∈ zTB := zm3 42 (by decide +kernel) rfl
theorem lX2_58 : Cond.methodLink RX2 58 yJ7_fill_53178 ∈ zTB := zm2 30 (by decide +kernel) rfl
theorem lX2_64 : Cond.methodLink RX2 64 yX2_askedBack ∈ zTB := zm3 7 (by decide +kernel) rfl
theorem lX2_76 : Cond.methodLink RX2 76 yX2_noteThing ∈ zTB := zm2 37 (by decide +kernel) rfl
theorem lX2_80 : Cond.methodLink RX2 80 yX2_noteSign ∈ zTB := zm2 140 (by decide +kernel) rfl
theorem lX2_83 : Cond.methodLink RX2 83 Lib.Math.max.name ∈ zTB := zm2 44 (by decide +kernel) rfl
theorem lX3_21 : Cond.methodLink RX3 21 yX3_startRow ∈ zTB := zm2 196 (by decide +kernel) rfl
theorem lX3_41 : Cond.methodLink RX3 41 yX3_bestAsk ∈ zTB := zm3 91 (by decide +kernel) rfl
theorem lX3_48 : Cond.methodLink RX3 48 yX3_comeAsWished ∈ zTB := zm2 217 (by decide +kernel) rfl
theorem lX3_52 : Cond.methodLink RX3 52 yX3_swapFirstTwo ∈ zTB := zm3 112 (by decide +kernel) rfl
theorem lX3_57 : Cond.methodLink RX3 57 arraycopyName ∈ zTB := zm2 200 (by decide +kernel) rfl
theorem lX3_63 : Cond.methodLink RX3 63 yX3_worthOfAsk ∈ zTB := zm3 95 (by decide +kernel) rfl
theorem lX3_70 : Cond.methodLink RX3 70 yX2_worthOf ∈ zTB := zm3 99 (by decide +kernel) rfl
theorem lX3_74 : Cond.methodLink RX3 74 yX3_gains ∈ zTB := zm3 116 (by decide +kernel) rfl
theorem lX4_15 : Cond.methodLink RX4 15 Lib.Math.min.name ∈ zTB := zm2 111 (by decide +kernel) rfl
theorem lX4_21 : Cond.methodLink RX4 21 yX2_clear ∈ zTB := zm2 114 (by decide +kernel) rfl
theorem lX4_26 : Cond.methodLink RX4 26 yX4_readNumbers ∈ zTB := zm2 115 (by decide +kernel) rfl
theorem lX4_30 : Cond.methodLink RX4 30 yX4_tell ∈ zTB := zm2 119 (by decide +kernel) rfl
theorem lX4_38 : Cond.methodLink RX4 38 yX2_setThings ∈ zTB := zm2 123 (by decide +kernel) rfl
theorem lX4_42 : Cond.methodLink RX4 42 yX2_setKind ∈ zTB := zm2 127 (by decide +kernel) rfl
theorem lX4_45 : Cond.methodLink RX4 45 yX2_addAsked ∈ zTB := zm2 131 (by decide +kernel) rfl
theorem lX4_48 : Cond.methodLink RX4 48 yX2_addWish ∈ zTB := zm2 135 (by decide +kernel) rfl
theorem lX4_51 : Cond.methodLink RX4 51 yX2_setWorth ∈ zTB := zm2 136 (by decide +kernel) rfl
theorem lX4_55 : Cond.methodLink RX4 55 yX2_setParts ∈ zTB := zm2 144 (by decide +kernel) rfl
theorem lX4_59 : Cond.methodLink RX4 59 yX2_addPost ∈ zTB := zm2 148 (by decide +kernel) rfl
theorem lX5_30 : Cond.methodLink RX5 30 yX5_sumUp ∈ zTB := zm3 138 (by decide +kernel) rfl
theorem lX5_34 : Cond.methodLink RX5 34 yX5_weightWith ∈ zTB := zm3 155 (by decide +kernel) rfl
theorem lX5_37 : Cond.methodLink RX5 37 yJ7_fill_d0a16 ∈ zTB := zm3 142 (by decide +kernel) rfl
theorem lX5_43 : Cond.methodLink RX5 43 yX2_pairAhead ∈ zTB := zm3 145 (by decide +kernel) rfl
theorem lX5_59 : Cond.methodLink RX5 59 yX5_sumOver ∈ zTB := zm3 146 (by decide +kernel) rfl
theorem lX5_70 : Cond.methodLink RX5 70 yX5_greatestFrom ∈ zTB := zm3 180 (by decide +kernel) rfl
theorem lX5_74 : Cond.methodLink RX5 74 yX5_firstOfGreatest ∈ zTB := zm3 191 (by decide +kernel) rfl
theorem lX5_78 : Cond.methodLink RX5 78 yX5_weightFrom ∈ zTB := zm3 184 (by decide +kernel) rfl
theorem lX5_82 : Cond.methodLink RX5 82 Lib.MathLoose.max_long.x ∈ zTB := zm3 188 (by decide +kernel) rfl
theorem lX6_27 : Cond.methodLink RX6 27 arraycopyName ∈ zTB := zm2 51 (by decide +kernel) rfl
theorem lX7_31 : Cond.methodLink RX7 31 yJ7_fill_53178 ∈ zTB := zm3 54 (by decide +kernel) rfl
theorem lX7_42 : Cond.methodLink RX7 42 yX7_findFewest ∈ zTB := zm3 55 (by decide +kernel) rfl
theorem lX7_46 : Cond.methodLink RX7 46 yX2_pairAhead ∈ zTB := zm3 66 (by decide +kernel) rfl
theorem lX7_50 : Cond.methodLink RX7 50 yX7_follow ∈ zTB := zm3 67 (by decide +kernel) rfl
theorem lX7_57 : Cond.methodLink RX7 57 yX7_costAtOnce ∈ zTB := zm3 59 (by decide +kernel) rfl
theorem lX7_61 : Cond.methodLink RX7 61 Lib.Math.min.name ∈ zTB := zm3 65 (by decide +kernel) rfl
theorem lX7_67 : Cond.methodLink RX7 67 yX2_isIn ∈ zTB := zm3 63 (by decide +kernel) rfl
theorem lX7_71 : Cond.methodLink RX7 71 yX2_hasBehind ∈ zTB := zm3 64 (by decide +kernel) rfl
theorem lX7_75 : Cond.methodLink RX7 75 yX7_firstStranger ∈ zTB := zm3 71 (by decide +kernel) rfl
theorem lL_100 : Cond.methodLink RL 100 yX9_post ∈ zTB := zm5 117 (by decide +kernel) rfl
theorem lL_101 : Cond.methodLink RL 101 yX8_round ∈ zTB := zm3 199 (by decide +kernel) rfl
theorem lL_104 : Cond.methodLink RL 104 yX9_round ∈ zTB := zm5 125 (by decide +kernel) rfl
theorem lL_105 : Cond.methodLink RL 105 yX8_ring ∈ zTB := zm3 208 (by decide +kernel) rfl
theorem lL_108 : Cond.methodLink RL 108 yX9_ring ∈ zTB := zm5 137 (by decide +kernel) rfl
theorem lL_109 : Cond.methodLink RL 109 yX8_before ∈ zTB := zm3 226 (by decide +kernel) rfl
theorem lL_113 : Cond.methodLink RL 113 yX9_before ∈ zTB := zm5 146 (by decide +kernel) rfl
theorem lL_114 : Cond.methodLink RL 114 yX8_keep ∈ zTB := zm4 2 (by decide +kernel) rfl
theorem lL_117 : Cond.methodLink RL 117 yX9_keep ∈ zTB := zm5 150 (by decide +kernel) rfl
theorem lL_118 : Cond.methodLink RL 118 yX8_back ∈ zTB := zm4 7 (by decide +kernel) rfl
theorem lL_12 : Cond.methodLink RL 12 yX9_init ∈ zTB := zm4 17 (by decide +kernel) rfl
theorem lL_121 : Cond.methodLink RL 121 yX9_back ∈ zTB := zm5 158 (by decide +kernel) rfl
theorem lL_122 : Cond.methodLink RL 122 yX8_count ∈ zTB := zm4 11 (by decide +kernel) rfl
theorem lL_125 : Cond.methodLink RL 125 yX9_count ∈ zTB := zm5 162 (by decide +kernel) rfl
theorem lL_15 : Cond.methodLink RL 15 yX8_write ∈ zTB := zm2 94 (by decide +kernel) rfl
theorem lL_19 : Cond.methodLink RL 19 yX9_write ∈ zTB := zm4 132 (by decide +kernel) rfl
theorem lL_20 : Cond.methodLink RL 20 yX8_wipe ∈ zTB := zm2 99 (by decide +kernel) rfl
theorem lL_24 : Cond.methodLink RL 24 yX9_wipe ∈ zTB := zm4 141 (by decide +kernel) rfl
theorem lL_25 : Cond.methodLink RL 25 yX8_fault ∈ zTB := zm2 103 (by decide +kernel) rfl
theorem lL_28 : Cond.methodLink RL 28 yX9_fault ∈ zTB := zm4 145 (by decide +kernel) rfl
theorem lL_29 : Cond.methodLink RL 29 yX8_lay ∈ zTB := zm2 152 (by decide +kernel) rfl
theorem lL_32 : Cond.methodLink RL 32 yX9_lay ∈ zTB := zm4 190 (by decide +kernel) rfl
theorem lL_33 : Cond.methodLink RL 33 yX8_worth ∈ zTB := zm2 168 (by decide +kernel) rfl
theorem lL_37 : Cond.methodLink RL 37 yX9_worth ∈ zTB := zm4 194 (by decide +kernel) rfl
theorem lL_38 : Cond.methodLink RL 38 yX8_given ∈ zTB := zm2 184 (by decide +kernel) rfl
theorem lL_42 : Cond.methodLink RL 42 yX9_given ∈ zTB := zm4 206 (by decide +kernel) rfl
theorem lL_43 : Cond.methodLink RL 43 yX8_have ∈ zTB := zm2 205 (by decide +kernel) rfl
theorem lL_46 : Cond.methodLink RL 46 yX9_have ∈ zTB := zm4 234 (by decide +kernel) rfl
theorem lL_47 : Cond.methodLink RL 47 yX8_other ∈ zTB := zm2 209 (by decide +kernel) rfl
theorem lL_50 : Cond.methodLink RL 50 yX9_other ∈ zTB := zm4 238 (by decide +kernel) rfl
theorem lL_51 : Cond.methodLink RL 51 yX8_order ∈ zTB := zm2 218 (by decide +kernel) rfl
theorem lL_54 : Cond.methodLink RL 54 yX9_order ∈ zTB := zm5 2 (by decide +kernel) rfl
theorem lL_55 : Cond.methodLink RL 55 yX8_strangers ∈ zTB := zm3 46 (by decide +kernel) rfl
theorem lL_58 : Cond.methodLink RL 58 yX9_strangers ∈ zTB := zm5 39 (by decide +kernel) rfl
theorem lL_59 : Cond.methodLink RL 59 yX8_ahead ∈ zTB := zm3 79 (by decide +kernel) rfl
theorem lL_62 : Cond.methodLink RL 62 yX9_ahead ∈ zTB := zm5 60 (by decide +kernel) rfl
theorem lL_63 : Cond.methodLink RL 63 yX8_asks ∈ zTB := zm3 83 (by decide +kernel) rfl
theorem lL_66 : Cond.methodLink RL 66 yX9_asks ∈ zTB := zm5 64 (by decide +kernel) rfl
theorem lL_67 : Cond.methodLink RL 67 yX8_otherwise ∈ zTB := zm3 100 (by decide +kernel) rfl
theorem lL_70 : Cond.methodLink RL 70 yX9_otherwise ∈ zTB := zm5 72 (by decide +kernel) rfl
theorem lL_71 : Cond.methodLink RL 71 yX8_swaps ∈ zTB := zm3 104 (by decide +kernel) rfl
theorem lL_74 : Cond.methodLink RL 74 yX9_swaps ∈ zTB := zm5 76 (by decide +kernel) rfl
theorem lL_75 : Cond.methodLink RL 75 yX8_gift ∈ zTB := zm3 120 (by decide +kernel) rfl
theorem lL_78 : Cond.methodLink RL 78 yX9_gift ∈ zTB := zm5 88 (by decide +kernel) rfl
theorem lL_79 : Cond.methodLink RL 79 yX8_noGifts ∈ zTB := zm3 124 (by decide +kernel) rfl
theorem lL_82 : Cond.methodLink RL 82 yX9_noGifts ∈ zTB := zm5 92 (by decide +kernel) rfl
theorem lL_83 : Cond.methodLink RL 83 yX8_rows ∈ zTB := zm3 128 (by decide +kernel) rfl
theorem lL_87 : Cond.methodLink RL 87 yX9_rows ∈ zTB := zm5 96 (by decide +kernel) rfl
theorem lL_88 : Cond.methodLink RL 88 yX8_odds ∈ zTB := zm3 159 (by decide +kernel) rfl
theorem lL_9 : Cond.methodLink RL 9 yX8_init ∈ zTB := zm1 16 (by decide +kernel) rfl
theorem lL_92 : Cond.methodLink RL 92 yX9_odds ∈ zTB := zm5 105 (by decide +kernel) rfl
theorem lL_93 : Cond.methodLink RL 93 yX8_likeliest ∈ zTB := zm3 172 (by decide +kernel) rfl
theorem lL_96 : Cond.methodLink RL 96 yX9_likeliest ∈ zTB := zm5 113 (by decide +kernel) rfl
theorem lL_97 : Cond.methodLink RL 97 yX8_post ∈ zTB := zm3 195 (by decide +kernel) rfl
theorem lX9_102 : Cond.methodLink RX9 102 yX9_in ∈ zTB := zm4 137 (by decide +kernel) rfl
theorem lX9_115 : Cond.methodLink RX9 115 yX9_byteAt ∈ zTB := zm4 157 (by decide +kernel) rfl
theorem lX9_128 : Cond.methodLink RX9 128 yX9_figures ∈ zTB := zm4 161 (by decide +kernel) rfl
theorem lX9_132 : Cond.methodLink RX9 132 yX9_meet ∈ zTB := zm4 174 (by decide +kernel) rfl
theorem lX9_142 : Cond.methodLink RX9 142 yX9_aheadItem ∈ zTB := zm4 170 (by decide +kernel) rfl
theorem lX9_146 : Cond.methodLink RX9 146 yX9_wishItem ∈ zTB := zm4 178 (by decide +kernel) rfl
theorem lX9_149 : Cond.methodLink RX9 149 yX9_worthItem ∈ zTB := zm4 182 (by decide +kernel) rfl
theorem lX9_152 : Cond.methodLink RX9 152 yX9_postItem ∈ zTB := zm4 186 (by decide +kernel) rfl
theorem lX9_155 : Cond.methodLink RX9 155 yX9_item ∈ zTB := zm4 153 (by decide +kernel) rfl
theorem lX9_158 : Cond.methodLink RX9 158 yX9_readAll ∈ zTB := zm4 149 (by decide +kernel) rfl
theorem lX9_165 : Cond.methodLink RX9 165 yX9_isThing ∈ zTB := zm4 198 (by decide +kernel) rfl
theorem lX9_168 : Cond.methodLink RX9 168 yX9_isGift ∈ zTB := zm4 202 (by decide +kernel) rfl
theorem lX9_174 : Cond.methodLink RX9 174 yX9_mostOf ∈ zTB := zm4 230 (by decide +kernel) rfl
theorem lX9_178 : Cond.methodLink RX9 178 yX9_beginRow ∈ zTB := zm4 218 (by decide +kernel) rfl
theorem lX9_181 : Cond.methodLink RX9 181 yX9_askNow ∈ zTB := zm4 222 (by decide +kernel) rfl
theorem lX9_184 : Cond.methodLink RX9 184 yX9_gives ∈ zTB := zm4 226 (by decide +kernel) rfl
theorem lX9_187 : Cond.methodLink RX9 187 yX9_isWish ∈ zTB := zm4 210 (by decide +kernel) rfl
theorem lX9_190 : Cond.methodLink RX9 190 yX9_givenBy ∈ zTB := zm4 214 (by decide +kernel) rfl
theorem lX9_193 : Cond.methodLink RX9 193 yX9_three ∈ zTB := zm5 29 (by decide +kernel) rfl
theorem lX9_197 : Cond.methodLink RX9 197 yX9_shortly ∈ zTB := zm5 25 (by decide +kernel) rfl
theorem lX9_200 : Cond.methodLink RX9 200 yX9_spot ∈ zTB := zm5 32 (by decide +kernel) rfl
theorem lX9_203 : Cond.methodLink RX9 203 yX9_has ∈ zTB := zm5 18 (by decide +kernel) rfl
theorem lX9_207 : Cond.methodLink RX9 207 yX9_bring ∈ zTB := zm5 21 (by decide +kernel) rfl
theorem lX9_211 : Cond.methodLink RX9 211 yX9_isQueue ∈ zTB := zm5 6 (by decide +kernel) rfl
theorem lX9_214 : Cond.methodLink RX9 214 yX9_isShort ∈ zTB := zm5 10 (by decide +kernel) rfl
theorem lX9_217 : Cond.methodLink RX9 217 yX9_layOrders ∈ zTB := zm5 14 (by decide +kernel) rfl
theorem lX9_220 : Cond.methodLink RX9 220 yX9_lastBut ∈ zTB := zm5 35 (by decide +kernel) rfl
theorem lX9_223 : Cond.methodLink RX9 223 yX9_stand ∈ zTB := zm5 57 (by decide +kernel) rfl
theorem lX9_226 : Cond.methodLink RX9 226 yX9_byQueue ∈ zTB := zm5 53 (by decide +kernel) rfl
theorem lX9_230 : Cond.methodLink RX9 230 yX9_layNeeds ∈ zTB := zm5 49 (by decide +kernel) rfl
theorem lX9_240 : Cond.methodLink RX9 240 yX9_layStrangers ∈ zTB := zm5 45 (by decide +kernel) rfl
theorem lX9_243 : Cond.methodLink RX9 243 yX9_askFor ∈ zTB := zm5 68 (by decide +kernel) rfl
theorem lX9_246 : Cond.methodLink RX9 246 yX9_wants ∈ zTB := zm5 84 (by decide +kernel) rfl
theorem lX9_249 : Cond.methodLink RX9 249 yX9_swapOnce ∈ zTB := zm5 80 (by decide +kernel) rfl
theorem lX9_254 : Cond.methodLink RX9 254 yX9_layRows ∈ zTB := zm5 101 (by decide +kernel) rfl
theorem lX9_260 : Cond.methodLink RX9 260 yX9_common ∈ zTB := zm5 110 (by decide +kernel) rfl
theorem lX9_264 : Cond.methodLink RX9 264 yX9_isPost ∈ zTB := zm5 121 (by decide +kernel) rfl
theorem lX9_267 : Cond.methodLink RX9 267 yX9_takeNet ∈ zTB := zm5 129 (by decide +kernel) rfl
theorem lX9_270 : Cond.methodLink RX9 270 yX9_goRound ∈ zTB := zm5 133 (by decide +kernel) rfl
theorem lX9_275 : Cond.methodLink RX9 275 yX9_state ∈ zTB := zm5 141 (by decide +kernel) rfl
theorem lX9_279 : Cond.methodLink RX9 279 yX9_copy ∈ zTB := zm5 154 (by decide +kernel) rfl
theorem lX9_96 : Cond.methodLink RX9 96 yX9_noPost ∈ zTB := zm4 22 (by decide +kernel) rfl
end
section
/-! a light logic over one flat memory: every cell of class and reference has a number, every int, long and reference is an Int -/
abbrev AV : Type := Nat × Int
abbrev Mem : Type := Int → Int → Int
def z32 (x : Int) : Int32 := Int32.ofInt x
def z64 (x : Int) : Int64 := Int64.ofInt x
abbrev zI (x : Int) : AV := (0, x)
abbrev zJ (x : Int) : AV := (1, x)
abbrev zR (k : Int) : AV := (2, k)
abbrev zU : AV := (9, 0)
abbrev zV : AV := (3, 0)
def zcv (al : Nat → Nat) (v : AV) : Value := match v.1 with
  | 0 => .int (z32 v.2)
  | 1 => .long (z64 v.2)
  | _ => .ref (al v.2.toNat)
def zrv (al : Nat → Nat) (v : AV) : Option Value := if v.1 = 3 then none else some (zcv al v)
def zps (v : AV) (r : List AV) : List AV := if v.1 = 3 then r else v :: r
def zin (x : Int) : Prop := -2147483648 ≤ x ∧ x < 2147483648
def zil (x : Int) : Prop := -9223372036854775808 ≤ x ∧ x < 9223372036854775808
theorem z32_add (a b : Int) : z32 (a + b) = z32 a + z32 b := by unfold z32; exact Int32.ofInt_add ..
theorem z32_sub (a b : Int) : z32 (a - b) = z32 a - z32 b := by unfold z32; exact Int32.ofInt_sub ..
theorem z32_mul (a b : Int) : z32 (a * b) = z32 a * z32 b := by unfold z32; exact Int32.ofInt_mul ..
theorem z64_add (a b : Int) : z64 (a + b) = z64 a + z64 b := by unfold z64; exact Int64.ofInt_add ..
theorem z64_sub (a b : Int) : z64 (a - b) = z64 a - z64 b := by unfold z64; exact Int64.ofInt_sub ..
theorem z64_mul (a b : Int) : z64 (a * b) = z64 a * z64 b := by unfold z64; exact Int64.ofInt_mul ..
theorem z32_toInt {x : Int} (h : zin x) : (z32 x).toInt = x := by
  obtain ⟨h1, h2⟩ := h
  unfold z32
  rw [Int32.toInt_ofInt]
  show Int.bmod x (2 ^ 32) = x
  rw [Int.bmod_def]
  omega
theorem z64_toInt {x : Int} (h : zil x) : (z64 x).toInt = x := by
  obtain ⟨h1, h2⟩ := h
  unfold z64
  rw [Int64.toInt_ofInt]
  show Int.bmod x (2 ^ 64) = x
  rw [Int.bmod_def]
  omega
theorem z32_of (x : Int32) : z32 x.toInt = x := by unfold z32; exact Int32.ofInt_toInt x
theorem z64_of (x : Int64) : z64 x.toInt = x := by unfold z64; exact Int64.ofInt_toInt x
theorem zin_toInt (x : Int32) : zin x.toInt := ⟨Int32.le_toInt x, Int32.toInt_lt x⟩
theorem zil_toInt (x : Int64) : zil x.toInt := ⟨Int64.le_toInt x, Int64.toInt_lt x⟩
theorem z32_lt {a b : Int} (ha : zin a) (hb : zin b) : z32 a < z32 b ↔ a < b := by rw [Int32.lt_iff_toInt_lt, z32_toInt ha, z32_toInt hb]
theorem z32_le {a b : Int} (ha : zin a) (hb : zin b) : z32 a ≤ z32 b ↔ a ≤ b := by rw [Int32.le_iff_toInt_le, z32_toInt ha, z32_toInt hb]
theorem z32_eq {a b : Int} (ha : zin a) (hb : zin b) : z32 a = z32 b ↔ a = b := by rw [← Int32.toInt_inj, z32_toInt ha, z32_toInt hb]
theorem z64_lt {a b : Int} (ha : zil a) (hb : zil b) : z64 a < z64 b ↔ a < b := by rw [Int64.lt_iff_toInt_lt, z64_toInt ha, z64_toInt hb]
theorem z64_eq {a b : Int} (ha : zil a) (hb : zil b) : z64 a = z64 b ↔ a = b := by rw [← Int64.toInt_inj, z64_toInt ha, z64_toInt hb]
theorem zin_0 : zin 0 := by unfold zin; decide
theorem z32_0 : (0 : Int32) = z32 0 := rfl
/-! the cells: number, kind (0 to 9 an object of that class, 10 bytes, 11 ints, 12 longs, 13 Standings), how many -/
def zkl : List (Nat × Nat) := [(8, 13), (10, 300), (4, 2), (11, 4),
  (2, 15), (11, 6), (11, 10), (11, 42), (11, 6), (11, 6), (11, 6), (11, 6), (11, 6),
  (2, 15), (11, 6), (11, 10), (11, 42), (11, 6), (11, 6), (11, 6), (11, 6), (11, 6),
  (6, 5), (11, 6), (11, 6), (11, 6), (11, 10),
  (13, 2), (6, 5), (11, 6), (11, 6), (11, 6), (11, 10), (6, 5), (11, 6), (11, 6), (11, 6), (11, 10),
  (3, 3), (11, 10), (11, 10), (11, 16),
  (1, 5), (11, 10), (11, 10), (11, 7168),
  (7, 6), (11, 12), (11, 12), (11, 539), (11, 7),
  (5, 4), (11, 10), (12, 539), (12, 539), (12, 6),
  (0, 5), (11, 6), (6, 5), (11, 6), (11, 6), (11, 6), (11, 10), (12, 601),
  (9, 35), (11, 300), (11, 2), (11, 2), (11, 2), (11, 12), (11, 2), (11, 20), (11, 84), (11, 12), (11, 2), (11, 12), (11, 36), (11, 54), (11, 3), (11, 30), (11, 4), (11, 16), (11, 65536), (11, 704), (11, 12), (11, 12), (11, 10), (12, 704), (12, 704), (12, 704), (11, 18), (11, 6), (12, 601)]
/-- fields by class and slot: -1 an int, -2 a reference that changes, else how far behind the object its cell stands -/
def zst : List (List Int) := [[-1, -1, 1, 2, 7], [1, -1, -1, 2, 3], [-1, -1, -1, -1, -1, 1, 2, 3, 4, 5, 6, 7, 8, -1, -1], [1, 2, 3], [1, -1], [1, 2, 3, 4], [1, 2, 3, 4, -1], [1, 2, -1, -1, 3, 4],
  [1, -1, 2, -2, -2, 22, 27, -1, 38, 42, 46, 51, 56],
  [-1, 1, 2, 3, 4, 5, 6, 7, 8, 9, 10, 11, 12, 13, 14, 15, -1, -1, 16, -1, -1, 17, -1, 18, 19, -1, 20, 21, 22, 23, 24, 25, 26, 27, 28]]
def zkd (k : Nat) : Nat := (zkl.getD k (99, 0)).1
def zln (k : Nat) : Nat := (zkl.getD k (99, 0)).2
def zsl (ci j : Nat) : Int := (zst.getD ci []).getD j (-1)
def zfv (al : Nat → Nat) (mu : Mem) (ci k j : Nat) : Value := if zsl ci j = -1 then .int (z32 (mu k j)) else if zsl ci j = -2 then .ref (al (mu k j).toNat) else .ref (al (k + (zsl ci j).toNat))
def zce (al : Nat → Nat) (cy : Nat → ClassId) (mu : Mem) (k : Nat) : va_E :=
  if zkd k = 10 then .inl (cy 0, zln k, .inl (fun j => z32 (mu k j)))
  else if zkd k = 11 then .inl (cy 1, zln k, .inl (fun j => z32 (mu k j)))
  else if zkd k = 12 then .inl (cy 2, zln k, .inr (.inl (fun j => z64 (mu k j))))
  else if zkd k = 13 then .inl (cy 3, zln k, .inr (.inr (.inr (.inr (fun j => some (al (k + 1 + 5 * j)))))))
  else .inr (zkd k, (List.range (zln k)).map (zfv al mu (zkd k) k))
def zwl (K : Nat) (al : Nat → Nat) (cy : Nat → ClassId) (mu : Mem) : va_W := (List.range K).map (fun k => (al k, zce al cy mu k))
theorem zwl_get {K : Nat} {al : Nat → Nat} {cy : Nat → ClassId} {mu : Mem} {k : Nat} (h : k < K) : (zwl K al cy mu)[k]? = some (al k, zce al cy mu k) := by simp [zwl, h]
theorem zwl_at {K : Nat} {al : Nat → Nat} {cy : Nat → ClassId} {mu : Mem} {k : Nat} {q : Nat × va_E} (h : (zwl K al cy mu)[k]? = some q) : k < K ∧ q = (al k, zce al cy mu k) := by
  have hk : k < (zwl K al cy mu).length := (List.getElem?_eq_some_iff.mp h).1
  have hk : k < K := by simpa [zwl] using hk
  rw [zwl_get hk] at h
  exact ⟨hk, (Option.some.inj h).symm⟩
theorem zce_congr {al : Nat → Nat} {cy : Nat → ClassId} {mu nu : Mem} {k : Nat} (h : ∀ j : Int, mu k j = nu k j) : zce al cy mu k = zce al cy nu k := by
  have h2 : mu (k : Int) = nu (k : Int) := funext h
  have h3 : zfv al mu (zkd k) k = zfv al nu (zkd k) k := by
    funext j
    simp only [zfv, h2]
  simp only [zce, h2, h3]
theorem zwl_set {K : Nat} {al : Nat → Nat} {cy : Nat → ClassId} {mu nu : Mem} {k : Nat} {e : va_E} (hk : k < K) (he : zce al cy nu k = e) (ho : ∀ k' : Nat, k' ≠ k → ∀ j : Int, mu k' j = nu k' j) : (zwl K al cy mu).set k (al k, e) = zwl K al cy nu := by
  apply List.ext_getElem?
  intro i
  by_cases hi : i = k
  · subst hi
    rw [List.getElem?_set_self (by simpa [zwl] using hk), zwl_get hk, he]
  · rw [List.getElem?_set_ne (Ne.symm hi)]
    by_cases hl : i < K
    · rw [zwl_get hl, zwl_get hl, zce_congr (ho i hi)]
    · rw [List.getElem?_eq_none (by simpa [zwl] using hl), List.getElem?_eq_none (by simpa [zwl] using hl)]
def zup (mu : Mem) (k j v : Int) : Mem := fun a b => if a = k ∧ b = j then v else mu a b
theorem zup_same (mu : Mem) (k j v : Int) : zup mu k j v k j = v := by simp [zup]
theorem zup_cell (mu : Mem) {k j v a b : Int} (h : a ≠ k) : zup mu k j v a b = mu a b := by simp [zup, h]
theorem zup_slot (mu : Mem) {k j v a b : Int} (h : b ≠ j) : zup mu k j v a b = mu a b := by simp [zup, h]
/-- an array cell (kind, length); an object cell -/
def zAr (K kd : Nat) (k : Int) (n : Nat) : Prop := 0 ≤ k ∧ k.toNat < K ∧ zkd k.toNat = kd ∧ zln k.toNat = n
def zOb (K ci : Nat) (k : Int) : Prop := 0 ≤ k ∧ k.toNat < K ∧ zkd k.toNat = ci ∧ ci < 10
theorem zAr.mk {K kd n : Nat} {k : Int} {B : Nat} (hK : B ≤ K) (h0 : 0 ≤ k) (h1 : k.toNat < B) (h2 : zkd k.toNat = kd) (h3 : zln k.toNat = n) : zAr K kd k n := ⟨h0, Nat.lt_of_lt_of_le h1 hK, h2, h3⟩
theorem zOb.mk {K ci : Nat} {k : Int} {B : Nat} (hK : B ≤ K) (h0 : 0 ≤ k) (h1 : k.toNat < B) (h2 : zkd k.toNat = ci) (h3 : ci < 10) : zOb K ci k := ⟨h0, Nat.lt_of_lt_of_le h1 hK, h2, h3⟩
theorem zAr.cell {K n : Nat} {k : Int} {al : Nat → Nat} {cy : Nat → ClassId} {mu : Mem} (h : zAr K 11 k n) : (zwl K al cy mu)[k.toNat]? = some (al k.toNat, .inl (cy 1, n, .inl (fun j => z32 (mu k j)))) := by
  obtain ⟨h0, h1, h2, h3⟩ := h
  have hk : ((k.toNat : Nat) : Int) = k := by omega
  rw [zwl_get h1, zce, if_neg (by omega), if_pos h2, h3, hk]
theorem zAr.cellB {K n : Nat} {k : Int} {al : Nat → Nat} {cy : Nat → ClassId} {mu : Mem} (h : zAr K 10 k n) : (zwl K al cy mu)[k.toNat]? = some (al k.toNat, .inl (cy 0, n, .inl (fun j => z32 (mu k j)))) := by
  obtain ⟨h0, h1, h2, h3⟩ := h
  have hk : ((k.toNat : Nat) : Int) = k := by omega
  rw [zwl_get h1, zce, if_pos h2, h3, hk]
theorem zAr.cellJ {K n : Nat} {k : Int} {al : Nat → Nat} {cy : Nat → ClassId} {mu : Mem} (h : zAr K 12 k n) : (zwl K al cy mu)[k.toNat]? = some (al k.toNat, .inl (cy 2, n, .inr (.inl (fun j => z64 (mu k j))))) := by
  obtain ⟨h0, h1, h2, h3⟩ := h
  have hk : ((k.toNat : Nat) : Int) = k := by omega
  rw [zwl_get h1, zce, if_neg (by omega), if_neg (by omega), if_pos h2, h3, hk]
theorem zAr.cellQ {K n : Nat} {k : Int} {al : Nat → Nat} {cy : Nat → ClassId} {mu : Mem} (h : zAr K 13 k n) : (zwl K al cy mu)[k.toNat]? = some (al k.toNat, .inl (cy 3, n, .inr (.inr (.inr (.inr (fun j => some (al (k.toNat + 1 + 5 * j)))))))) := by
  obtain ⟨h0, h1, h2, h3⟩ := h
  rw [zwl_get h1, zce, if_neg (by omega), if_neg (by omega), if_neg (by omega), if_pos h2, h3]
theorem zOb.cell {K ci : Nat} {k : Int} {al : Nat → Nat} {cy : Nat → ClassId} {mu : Mem} (h : zOb K ci k) : (zwl K al cy mu)[k.toNat]? = some (al k.toNat, .inr (ci, (List.range (zln k.toNat)).map (zfv al mu ci k.toNat))) := by
  obtain ⟨h0, h1, h2, h3⟩ := h
  rw [zwl_get h1, zce, if_neg (by omega), if_neg (by omega), if_neg (by omega), if_neg (by omega), h2]
/-! the words; the context of a frame; the judgement; the contract -/
def zNW : List (String × Nat × MethodName × String) := [(RX0, 44, yX8_majority, RX8), (RX2, 68, yX8_givesBehind, RX8), (RX2, 72, yX8_within, RX8), (RX3, 37, yX8_givesFor, RX8), (RX5, 66, yX8_givesBehind, RX8)]
def zKK (D : va_G) (cy : Nat → ClassId) (U : State) : Prop := va_K D vwCl [(cy 0, .byte), (cy 1, .int), (cy 2, .long), (cy 3, .object "LastThree$Standing")] U ∧ ∀ q ∈ zNW, va_Nw (.methodLinkNest q.1 q.2.1 q.2.2.1 q.2.2.2) U
theorem zKK.warm {D : va_G} {cy : Nat → ClassId} {s U : State} (hW : s.WarmedH U.vm) (h : zKK D cy s) : zKK D cy U := ⟨va_K.moved hW.alike h.1, fun q hq => va_Nw.warmM hW (h.2 q hq)⟩
theorem zKK.same {D : va_G} {cy : Nat → ClassId} {s U : State} (hv : s.vm = U.vm) (h : zKK D cy s) : zKK D cy U := ⟨va_K.moved (hv ▸ Vm.Alike.refl s.vm) h.1, fun q hq => va_Nw.same rfl hv (h.2 q hq)⟩
def zws (Y : MI) : List Cond := .code Y.1 Y.2.1 Y.2.2.1 Y.2.2.2 :: zTB
def zrm (d : Nat) : Room := { frames := d, cells := 0, slots := 0, locals := 100 * d }
def zA (K : Nat) (al : Nat → Nat) (sz : Nat) : Nat → Prop := fun q => (∃ k : Nat, k < K ∧ q = al k) ∨ sz ≤ q
def zCx (K : Nat) (Y : MI) (p : Program) (s : State) (m : MethodId) (args : Array Value) (meth : Method) (c : Code) (D : va_G) (cy : Nat → ClassId) (al : Nat → Nat) : Prop :=
  p.tables.exec = Jvm.exec ∧ c.code = Y.2.1 ∧ c.maxLocals = Y.2.2.1 ∧ meth.sig.returnType = Y.2.2.2 ∧ s.vm.findClass Y.1.cls = some m.cls ∧ (∀ w ∈ zws Y, w.before args s = true) ∧ meth.locks = false ∧ zKK D cy s ∧ ∀ i j : Nat, i < K → j < K → al i = al j → i = j
def zQ (K : Nat) (D : va_G) (cy : Nat → ClassId) (al : Nat → Nat) (sz : Nat) (Q : AV → Mem → Prop) : Array Value → State → Outcome → State → Prop := fun _ st oc t =>
  (∃ (v : AV) (mu : Mem), oc = .returned (zrv al v) ∧ Q v mu ∧ va_P D vwCl (zwl K al cy mu) t.heap) ∧ va_F (zA K al sz) st t
def zok (al : Nat → Nat) (L : List AV) (n : Nat) (ls : Array Slot) : Prop := ls.size = n ∧ lv_wf ls ∧ ∀ (i : Nat) (v : AV), L[i]? = some v → v.1 < 3 → ls[i]? = some (.val (zcv al v))
def zG (K d : Nat) (Y : MI) (pc : Nat) (L st : List AV) (mu : Mem) (Q : AV → Mem → Prop) : Prop :=
  ∀ (p : Program) (l : Launch) (e : Env) (s : State) (m : MethodId) (args : Array Value) (below : List Frame) (meth : Method) (c : Code) (D : va_G) (cy : Nat → ClassId) (al : Nat → Nat), zCx K Y p s m args meth c D cy al →
  ∀ (H : Heap) (locs : List Loc) (ls : Array Slot), va_P D vwCl (zwl K al cy mu) H → va_S (zA K al s.heap.size) s.heap H locs → zok al L Y.2.2.1 ls →
  W p l e (zrm d) s m args below meth c H locs 0 0 (MQ below (zQ K D cy al s.heap.size Q) args s 0 0 (zA K al s.heap.size)) (F0 m pc ls (st.map (zcv al)))
def zC (K d : Nat) (Y : MI) (av : List AV) (mu : Mem) (Q : AV → Mem → Prop) : Prop :=
  ∀ (l : Launch) (D : va_G) (cy : Nat → ClassId) (al : Nat → Nat) (sz : Nat), (∀ i j : Nat, i < K → j < K → al i = al j → i = j) →
  Met l Y.1 (zws Y) (zrm d) (va_Pc (av.map (zcv al)) (fun U => U.heap.size = sz ∧ va_P D vwCl (zwl K al cy mu) U.heap ∧ zKK D cy U)) (zQ K D cy al sz Q) 0 0 (zA K al sz)
theorem zD {K : Nat} {al : Nat → Nat} {cy : Nat → ClassId} {mu : Mem} {sz : Nat} (h : ∀ i j : Nat, i < K → j < K → al i = al j → i = j) : va_D (zA K al sz) (zwl K al cy mu) := by
  refine ⟨fun i j p q hi hj hpq => ?_, fun k q hk => ?_⟩
  · obtain ⟨h1, rfl⟩ := zwl_at hi
    obtain ⟨h2, rfl⟩ := zwl_at hj
    exact h i j h1 h2 hpq
  · obtain ⟨h1, rfl⟩ := zwl_at hk
    exact Or.inl ⟨k, h1, rfl⟩
end
section
/-! rules, one an instruction -/
theorem zlv {al : Nat → Nat} {L : List AV} {n : Nat} {ls : Array Slot} (h : zok al L n ls) {i : Nat} {v : AV} (hi : L[i]? = some v) (hv : v.1 < 3) : ls[i]? = some (.val (zcv al v)) := h.2.2 i v hi hv
/-- the listed locals of a list -/
def zll (al : Nat → Nat) (L : List AV) : List (Nat × Value) := (List.range L.length).filterMap (fun i => match L[i]? with | some v => if v.1 < 3 then some (i, zcv al v) else none | none => none)
theorem zll_mem {al : Nat → Nat} {L : List AV} {q : Nat × Value} : q ∈ zll al L ↔ ∃ v : AV, L[q.1]? = some v ∧ v.1 < 3 ∧ q.2 = zcv al v := by
  unfold zll
  rw [List.mem_filterMap]
  constructor
  · rintro ⟨i, hi, h⟩
    cases hL : L[i]? with
    | none => rw [hL] at h; cases h
    | some v =>
      rw [hL] at h
      by_cases hv : v.1 < 3
      · simp only [if_pos hv] at h
        cases h
        exact ⟨v, hL, hv, rfl⟩
      · simp only [if_neg hv] at h
        cases h
  · rintro ⟨v, h1, h2, h3⟩
    refine ⟨q.1, List.mem_range.mpr (List.getElem?_eq_some_iff.mp h1).1, ?_⟩
    rw [h1]
    simp only [if_pos h2, ← h3]
theorem zll_has {al : Nat → Nat} {L : List AV} {n : Nat} {ls : Array Slot} (h : zok al L n ls) : lv_has ls n (zll al L) := ⟨h.1, h.2.1, fun q hq => by
  obtain ⟨v, h1, h2, h3⟩ := zll_mem.mp hq
  rw [h3]
  exact h.2.2 _ v h1 h2⟩
/-- what a store leaves: a long one place below is gone -/
def zkp (L : List AV) (i : Nat) : List AV := match i with
  | 0 => L
  | j + 1 => match L[j]? with
    | some (1, _) => L.set j zU
    | _ => L
def zsi (L : List AV) (i : Nat) (v : AV) : List AV := (zkp L i).set i v
def zsj (L : List AV) (i : Nat) (v : AV) : List AV := ((zkp L i).set i v).set (i + 1) zU
theorem zkp_at {L : List AV} {i j : Nat} {v : AV} (h : (zkp L i)[j]? = some v) (hv : v.1 < 3) : L[j]? = some v ∧ ¬ (j + 1 = i ∧ v.1 = 1) := by
  unfold zkp at h
  cases i with
  | zero => exact ⟨h, fun q => by omega⟩
  | succ k =>
    dsimp only at h
    split at h
    · rename_i x hx
      by_cases hjk : j = k
      · subst hjk
        rw [List.getElem?_set_self (List.getElem?_eq_some_iff.mp hx).1] at h
        cases h
        exact absurd hv (by decide)
      · rw [List.getElem?_set_ne (Ne.symm hjk)] at h
        exact ⟨h, fun q => hjk (by omega)⟩
    · rename_i hx
      refine ⟨h, fun q => ?_⟩
      have hjk : j = k := by omega
      subst hjk
      exact hx v.2 (by rw [h, ← q.2])
theorem zcat {al : Nat → Nat} {v : AV} : (zcv al v).category = (if v.1 = 1 then 2 else 1) := by
  obtain ⟨t, x⟩ := v
  unfold zcv
  match t with
  | 0 => rfl
  | 1 => rfl
  | t + 2 => simp [Value.category]
theorem zok_si {al : Nat → Nat} {L : List AV} {n i : Nat} {v : AV} {ls' : Array Slot} {x : Value} (hx : x = zcv al v) (h : lv_has ls' n ((i, x) :: (zll al L).filter (fun q => !(q.1 == i) && !(q.1 + 1 == i && q.2.category == 2)))) : zok al (zsi L i v) n ls' := by
  subst hx
  refine ⟨h.1, h.2.1, fun j w hj hw => ?_⟩
  unfold zsi at hj
  by_cases hji : j = i
  · subst hji
    by_cases hl : j < (zkp L j).length
    · rw [List.getElem?_set_self hl] at hj
      cases hj
      exact h.2.2 (j, _) (List.mem_cons.mpr (Or.inl rfl))
    · rw [List.getElem?_eq_none (by simpa using hl)] at hj
      cases hj
  · rw [List.getElem?_set_ne (Ne.symm hji)] at hj
    obtain ⟨h1, h2⟩ := zkp_at hj hw
    refine h.2.2 (j, _) (List.mem_cons.mpr (Or.inr (List.mem_filter.mpr ⟨zll_mem.mpr ⟨w, h1, hw, rfl⟩, ?_⟩)))
    show (!(j == i) && !(j + 1 == i && (zcv al w).category == 2)) = true
    rw [zcat]
    by_cases hw1 : w.1 = 1
    · have : ¬ j + 1 = i := fun q => h2 ⟨q, hw1⟩
      simp [hji, this]
    · simp [hji, hw1]
theorem zok_sj {al : Nat → Nat} {L : List AV} {n i : Nat} {v : AV} {ls' : Array Slot} {x : Value} (hx : x = zcv al v) (h : lv_has ls' n ((i, x) :: (zll al L).filter (fun q => !(q.1 == i) && (!(q.1 == i + 1) && !(q.1 + 1 == i && q.2.category == 2))))) : zok al (zsj L i v) n ls' := by
  subst hx
  refine ⟨h.1, h.2.1, fun j w hj hw => ?_⟩
  unfold zsj at hj
  by_cases hj1 : j = i + 1
  · subst hj1
    by_cases hl : i + 1 < ((zkp L i).set i v).length
    · rw [List.getElem?_set_self hl] at hj
      cases hj
      exact absurd hw (by decide)
    · rw [List.getElem?_eq_none (by simpa using hl)] at hj
      cases hj
  rw [List.getElem?_set_ne (Ne.symm hj1)] at hj
  by_cases hji : j = i
  · subst hji
    by_cases hl : j < (zkp L j).length
    · rw [List.getElem?_set_self hl] at hj
      cases hj
      exact h.2.2 (j, _) (List.mem_cons.mpr (Or.inl rfl))
    · rw [List.getElem?_eq_none (by simpa using hl)] at hj
      cases hj
  · rw [List.getElem?_set_ne (Ne.symm hji)] at hj
    obtain ⟨h1, h2⟩ := zkp_at hj hw
    refine h.2.2 (j, _) (List.mem_cons.mpr (Or.inr (List.mem_filter.mpr ⟨zll_mem.mpr ⟨w, h1, hw, rfl⟩, ?_⟩)))
    show (!(j == i) && (!(j == i + 1) && !(j + 1 == i && (zcv al w).category == 2))) = true
    rw [zcat]
    by_cases hw1 : w.1 = 1
    · have : ¬ j + 1 = i := fun q => h2 ⟨q, hw1⟩
      simp [hji, hj1, this]
    · simp [hji, hj1, hw1]
theorem zt3 {t : Nat} {x : Int} (h : t < 3) : ((t, x) : AV).1 < 3 := h
section ZR
variable {K d : Nat} {Y : MI} {pc : Nat} {L st : List AV} {mu : Mem} {Q : AV → Mem → Prop}
theorem g_iconst {n : Int} (hd : decode Y.2.1 pc = .ok (.iconst n, 1)) (k : zG K d Y (pc + 1) L (zI n :: st) mu Q) : zG K d Y pc L st mu Q := by
  intro p l e s m args below meth c D cy al C H locs ls hP hS hL
  exact lv_iconst C.1 C.2.1 hd rfl (k p l e s m args below meth c D cy al C H locs ls hP hS hL)
theorem g_bipush {n : Int} (hd : decode Y.2.1 pc = .ok (.bipush n, 2)) (hn : (Int8.ofInt n).toInt32 = z32 n) (k : zG K d Y (pc + 2) L (zI n :: st) mu Q) : zG K d Y pc L st mu Q := by
  intro p l e s m args below meth c D cy al C H locs ls hP hS hL
  exact lv_bipush C.1 C.2.1 hd hn (k p l e s m args below meth c D cy al C H locs ls hP hS hL)
theorem g_sipush {n : Int} (hd : decode Y.2.1 pc = .ok (.sipush n, 3)) (hn : (Int16.ofInt n).toInt32 = z32 n) (k : zG K d Y (pc + 3) L (zI n :: st) mu Q) : zG K d Y pc L st mu Q := by
  intro p l e s m args below meth c D cy al C H locs ls hP hS hL
  exact lv_sipush C.1 C.2.1 hd hn (k p l e s m args below meth c D cy al C H locs ls hP hS hL)
theorem g_ldc {i : Nat} {x : Int} (hc : Cond.constant Y.1.cls i (z32 x) ∈ zTB) (hd : decode Y.2.1 pc = .ok (.ldc i, 2)) (k : zG K d Y (pc + 2) L (zI x :: st) mu Q) : zG K d Y pc L st mu Q := by
  intro p l e s m args below meth c D cy al C H locs ls hP hS hL
  exact lv_ldc C.1 C.2.1 C.2.2.2.2.1 (C.2.2.2.2.2.1 _ (List.mem_cons_of_mem _ hc)) hd (k p l e s m args below meth c D cy al C H locs ls hP hS hL)
theorem g_ldc2 {i : Nat} {x : Int} (hc : Cond.constantLong Y.1.cls i (z64 x) ∈ zTB) (hd : decode Y.2.1 pc = .ok (.ldc2_w i, 3)) (k : zG K d Y (pc + 3) L (zJ x :: st) mu Q) : zG K d Y pc L st mu Q := by
  intro p l e s m args below meth c D cy al C H locs ls hP hS hL
  exact lv_ldc2 C.1 C.2.1 C.2.2.2.2.1 (C.2.2.2.2.2.1 _ (List.mem_cons_of_mem _ hc)) hd (k p l e s m args below meth c D cy al C H locs ls hP hS hL)
theorem g_lconst {n : Fin 2} {x : Int} (hd : decode Y.2.1 pc = .ok (.lconst n, 1)) (hn : Int64.ofNat (n : Nat) = z64 x) (k : zG K d Y (pc + 1) L (zJ x :: st) mu Q) : zG K d Y pc L st mu Q := by
  intro p l e s m args below meth c D cy al C H locs ls hP hS hL
  exact lv_lconst C.1 C.2.1 hd hn (k p l e s m args below meth c D cy al C H locs ls hP hS hL)
theorem g_iload {i : Nat} {x : Int} (hd : decode Y.2.1 pc = .ok (.iload i, 2)) (hi : L[i]? = some (zI x)) (k : zG K d Y (pc + 2) L (zI x :: st) mu Q) : zG K d Y pc L st mu Q := by
  intro p l e s m args below meth c D cy al C H locs ls hP hS hL
  exact lv_iload C.1 C.2.1 hd (zlv hL hi (zt3 (by decide))) (k p l e s m args below meth c D cy al C H locs ls hP hS hL)
theorem g_iload_n {n : Fin 4} {x : Int} (hd : decode Y.2.1 pc = .ok (.iload_n n, 1)) (hi : L[(n : Nat)]? = some (zI x)) (k : zG K d Y (pc + 1) L (zI x :: st) mu Q) : zG K d Y pc L st mu Q := by
  intro p l e s m args below meth c D cy al C H locs ls hP hS hL
  exact lv_iload_n C.1 C.2.1 hd rfl (zlv hL hi (zt3 (by decide))) (k p l e s m args below meth c D cy al C H locs ls hP hS hL)
theorem g_istore {i : Nat} {x : Int} {L' : List AV} (hd : decode Y.2.1 pc = .ok (.istore i, 2)) (hn : i < Y.2.2.1) (hl : zsi L i (zI x) = L') (k : zG K d Y (pc + 2) L' st mu Q) : zG K d Y pc L (zI x :: st) mu Q := by
  intro p l e s m args below meth c D cy al C H locs ls hP hS hL
  exact lv_istore C.1 C.2.1 hd (zll_has hL) hn rfl (fun ls' h' => k p l e s m args below meth c D cy al C H locs ls' hP hS (hl ▸ zok_si rfl h'))
theorem g_istore_n {n : Fin 4} {x : Int} {L' : List AV} (hd : decode Y.2.1 pc = .ok (.istore_n n, 1)) (hn : (n : Nat) < Y.2.2.1) (hl : zsi L n (zI x) = L') (k : zG K d Y (pc + 1) L' st mu Q) : zG K d Y pc L (zI x :: st) mu Q := by
  intro p l e s m args below meth c D cy al C H locs ls hP hS hL
  exact lv_istore_n C.1 C.2.1 hd rfl (zll_has hL) hn rfl (fun ls' h' => k p l e s m args below meth c D cy al C H locs ls' hP hS (hl ▸ zok_si rfl h'))
theorem g_lload {i : Nat} {x : Int} (hd : decode Y.2.1 pc = .ok (.lload i, 2)) (hi : L[i]? = some (zJ x)) (k : zG K d Y (pc + 2) L (zJ x :: st) mu Q) : zG K d Y pc L st mu Q := by
  intro p l e s m args below meth c D cy al C H locs ls hP hS hL
  exact lv_lload C.1 C.2.1 hd (zlv hL hi (zt3 (by decide))) (k p l e s m args below meth c D cy al C H locs ls hP hS hL)
theorem g_lload_n {n : Fin 4} {x : Int} (hd : decode Y.2.1 pc = .ok (.lload_n n, 1)) (hi : L[(n : Nat)]? = some (zJ x)) (k : zG K d Y (pc + 1) L (zJ x :: st) mu Q) : zG K d Y pc L st mu Q := by
  intro p l e s m args below meth c D cy al C H locs ls hP hS hL
  exact lv_lload_n C.1 C.2.1 hd rfl (zlv hL hi (zt3 (by decide))) (k p l e s m args below meth c D cy al C H locs ls hP hS hL)
theorem g_lstore {i : Nat} {x : Int} {L' : List AV} (hd : decode Y.2.1 pc = .ok (.lstore i, 2)) (hn : i + 1 < Y.2.2.1) (hl : zsj L i (zJ x) = L') (k : zG K d Y (pc + 2) L' st mu Q) : zG K d Y pc L (zJ x :: st) mu Q := by
  intro p l e s m args below meth c D cy al C H locs ls hP hS hL
  exact lv_lstore C.1 C.2.1 hd (zll_has hL) hn rfl (fun ls' h' => k p l e s m args below meth c D cy al C H locs ls' hP hS (hl ▸ zok_sj rfl h'))
theorem g_lstore_n {n : Fin 4} {x : Int} {L' : List AV} (hd : decode Y.2.1 pc = .ok (.lstore_n n, 1)) (hn : (n : Nat) + 1 < Y.2.2.1) (hl : zsj L n (zJ x) = L') (k : zG K d Y (pc + 1) L' st mu Q) : zG K d Y pc L (zJ x :: st) mu Q := by
  intro p l e s m args below meth c D cy al C H locs ls hP hS hL
  exact lv_lstore_n C.1 C.2.1 hd rfl (zll_has hL) hn rfl (fun ls' h' => k p l e s m args below meth c D cy al C H locs ls' hP hS (hl ▸ zok_sj rfl h'))
theorem g_aload {i : Nat} {x : Int} (hd : decode Y.2.1 pc = .ok (.aload i, 2)) (hi : L[i]? = some (zR x)) (k : zG K d Y (pc + 2) L (zR x :: st) mu Q) : zG K d Y pc L st mu Q := by
  intro p l e s m args below meth c D cy al C H locs ls hP hS hL
  exact lv_aload C.1 C.2.1 hd (zlv hL hi (zt3 (by decide))) (k p l e s m args below meth c D cy al C H locs ls hP hS hL)
theorem g_aload_n {n : Fin 4} {x : Int} (hd : decode Y.2.1 pc = .ok (.aload_n n, 1)) (hi : L[(n : Nat)]? = some (zR x)) (k : zG K d Y (pc + 1) L (zR x :: st) mu Q) : zG K d Y pc L st mu Q := by
  intro p l e s m args below meth c D cy al C H locs ls hP hS hL
  exact lv_aload_n C.1 C.2.1 hd rfl (zlv hL hi (zt3 (by decide))) (k p l e s m args below meth c D cy al C H locs ls hP hS hL)
theorem g_astore {i : Nat} {x : Int} {L' : List AV} (hd : decode Y.2.1 pc = .ok (.astore i, 2)) (hn : i < Y.2.2.1) (hl : zsi L i (zR x) = L') (k : zG K d Y (pc + 2) L' st mu Q) : zG K d Y pc L (zR x :: st) mu Q := by
  intro p l e s m args below meth c D cy al C H locs ls hP hS hL
  exact lv_astore C.1 C.2.1 hd (zll_has hL) hn rfl (fun ls' h' => k p l e s m args below meth c D cy al C H locs ls' hP hS (hl ▸ zok_si rfl h'))
theorem g_astore_n {n : Fin 4} {x : Int} {L' : List AV} (hd : decode Y.2.1 pc = .ok (.astore_n n, 1)) (hn : (n : Nat) < Y.2.2.1) (hl : zsi L n (zR x) = L') (k : zG K d Y (pc + 1) L' st mu Q) : zG K d Y pc L (zR x :: st) mu Q := by
  intro p l e s m args below meth c D cy al C H locs ls hP hS hL
  exact lv_astore_n C.1 C.2.1 hd rfl (zll_has hL) hn rfl (fun ls' h' => k p l e s m args below meth c D cy al C H locs ls' hP hS (hl ▸ zok_si rfl h'))
theorem g_iinc {i : Nat} {n x : Int} {L' : List AV} (hd : decode Y.2.1 pc = .ok (.iinc i n, 3)) (hi : L[i]? = some (zI x)) (hn : i < Y.2.2.1) (hl : zsi L i (zI (x + n)) = L') (k : zG K d Y (pc + 3) L' st mu Q) : zG K d Y pc L st mu Q := by
  intro p l e s m args below meth c D cy al C H locs ls hP hS hL
  obtain ⟨q, hq⟩ := List.getElem?_of_mem (zll_mem (al := al) (q := (i, Value.int (z32 x))) |>.mpr ⟨zI x, hi, zt3 (by decide), rfl⟩)
  exact lv_iinc C.1 C.2.1 hd (zll_has hL) hq (v := z32 (x + n)) (z32_add x n).symm hn rfl (fun ls' h' => k p l e s m args below meth c D cy al C H locs ls' hP hS (hl ▸ zok_si rfl h'))
theorem g_iadd {a b : Int} (hd : decode Y.2.1 pc = .ok (.iadd, 1)) (k : zG K d Y (pc + 1) L (zI (a + b) :: st) mu Q) : zG K d Y pc L (zI b :: zI a :: st) mu Q := by
  intro p l e s m args below meth c D cy al C H locs ls hP hS hL
  refine lv_iadd C.1 C.2.1 hd ?_
  rw [← z32_add]
  exact k p l e s m args below meth c D cy al C H locs ls hP hS hL
theorem g_isub {a b : Int} (hd : decode Y.2.1 pc = .ok (.isub, 1)) (k : zG K d Y (pc + 1) L (zI (a - b) :: st) mu Q) : zG K d Y pc L (zI b :: zI a :: st) mu Q := by
  intro p l e s m args below meth c D cy al C H locs ls hP hS hL
  refine lv_isub C.1 C.2.1 hd ?_
  rw [← z32_sub]
  exact k p l e s m args below meth c D cy al C H locs ls hP hS hL
theorem g_imul {a b : Int} (hd : decode Y.2.1 pc = .ok (.imul, 1)) (k : zG K d Y (pc + 1) L (zI (a * b) :: st) mu Q) : zG K d Y pc L (zI b :: zI a :: st) mu Q := by
  intro p l e s m args below meth c D cy al C H locs ls hP hS hL
  refine lv_imul C.1 C.2.1 hd ?_
  rw [← z32_mul]
  exact k p l e s m args below meth c D cy al C H locs ls hP hS hL
theorem g_ladd {a b : Int} (hd : decode Y.2.1 pc = .ok (.ladd, 1)) (k : zG K d Y (pc + 1) L (zJ (a + b) :: st) mu Q) : zG K d Y pc L (zJ b :: zJ a :: st) mu Q := by
  intro p l e s m args below meth c D cy al C H locs ls hP hS hL
  refine lv_ladd C.1 C.2.1 hd ?_
  rw [← z64_add]
  exact k p l e s m args below meth c D cy al C H locs ls hP hS hL
theorem g_lmul {a b : Int} (hd : decode Y.2.1 pc = .ok (.lmul, 1)) (k : zG K d Y (pc + 1) L (zJ (a * b) :: st) mu Q) : zG K d Y pc L (zJ b :: zJ a :: st) mu Q := by
  intro p l e s m args below meth c D cy al C H locs ls hP hS hL
  refine lv_lmul C.1 C.2.1 hd ?_
  rw [← z64_mul]
  exact k p l e s m args below meth c D cy al C H locs ls hP hS hL
theorem g_ishl {a b x : Int} (hd : decode Y.2.1 pc = .ok (.ishl, 1)) (hx : z32 a <<< (z32 b &&& 31) = z32 x) (k : zG K d Y (pc + 1) L (zI x :: st) mu Q) : zG K d Y pc L (zI b :: zI a :: st) mu Q := by
  intro p l e s m args below meth c D cy al C H locs ls hP hS hL
  refine lv_ishl C.1 C.2.1 hd ?_
  rw [hx]
  exact k p l e s m args below meth c D cy al C H locs ls hP hS hL
theorem g_ishr {a b x : Int} (hd : decode Y.2.1 pc = .ok (.ishr, 1)) (hx : z32 a >>> (z32 b &&& 31) = z32 x) (k : zG K d Y (pc + 1) L (zI x :: st) mu Q) : zG K d Y pc L (zI b :: zI a :: st) mu Q := by
  intro p l e s m args below meth c D cy al C H locs ls hP hS hL
  refine lv_ishr C.1 C.2.1 hd ?_
  rw [hx]
  exact k p l e s m args below meth c D cy al C H locs ls hP hS hL
theorem g_iand {a b x : Int} (hd : decode Y.2.1 pc = .ok (.iand, 1)) (hx : z32 a &&& z32 b = z32 x) (k : zG K d Y (pc + 1) L (zI x :: st) mu Q) : zG K d Y pc L (zI b :: zI a :: st) mu Q := by
  intro p l e s m args below meth c D cy al C H locs ls hP hS hL
  refine lv_iand C.1 C.2.1 hd ?_
  rw [hx]
  exact k p l e s m args below meth c D cy al C H locs ls hP hS hL
theorem g_ior {a b x : Int} (hd : decode Y.2.1 pc = .ok (.ior, 1)) (hx : z32 a ||| z32 b = z32 x) (k : zG K d Y (pc + 1) L (zI x :: st) mu Q) : zG K d Y pc L (zI b :: zI a :: st) mu Q := by
  intro p l e s m args below meth c D cy al C H locs ls hP hS hL
  refine lv_ior C.1 C.2.1 hd ?_
  rw [hx]
  exact k p l e s m args below meth c D cy al C H locs ls hP hS hL
theorem g_ixor {a b x : Int} (hd : decode Y.2.1 pc = .ok (.ixor, 1)) (hx : z32 a ^^^ z32 b = z32 x) (k : zG K d Y (pc + 1) L (zI x :: st) mu Q) : zG K d Y pc L (zI b :: zI a :: st) mu Q := by
  intro p l e s m args below meth c D cy al C H locs ls hP hS hL
  refine lv_ixor C.1 C.2.1 hd ?_
  rw [hx]
  exact k p l e s m args below meth c D cy al C H locs ls hP hS hL
theorem g_land {a b x : Int} (hd : decode Y.2.1 pc = .ok (.land, 1)) (hx : z64 a &&& z64 b = z64 x) (k : zG K d Y (pc + 1) L (zJ x :: st) mu Q) : zG K d Y pc L (zJ b :: zJ a :: st) mu Q := by
  intro p l e s m args below meth c D cy al C H locs ls hP hS hL
  refine lv_land C.1 C.2.1 hd ?_
  rw [hx]
  exact k p l e s m args below meth c D cy al C H locs ls hP hS hL
theorem g_lor {a b x : Int} (hd : decode Y.2.1 pc = .ok (.lor, 1)) (hx : z64 a ||| z64 b = z64 x) (k : zG K d Y (pc + 1) L (zJ x :: st) mu Q) : zG K d Y pc L (zJ b :: zJ a :: st) mu Q := by
  intro p l e s m args below meth c D cy al C H locs ls hP hS hL
  refine lv_lor C.1 C.2.1 hd ?_
  rw [hx]
  exact k p l e s m args below meth c D cy al C H locs ls hP hS hL
theorem g_lshl {a b x : Int} (hd : decode Y.2.1 pc = .ok (.lshl, 1)) (hx : z64 a <<< ((z32 b).toInt64 &&& 63) = z64 x) (k : zG K d Y (pc + 1) L (zJ x :: st) mu Q) : zG K d Y pc L (zI b :: zJ a :: st) mu Q := by
  intro p l e s m args below meth c D cy al C H locs ls hP hS hL
  exact lv_lshl C.1 C.2.1 hd hx (k p l e s m args below meth c D cy al C H locs ls hP hS hL)
theorem g_lshr {a b x : Int} (hd : decode Y.2.1 pc = .ok (.lshr, 1)) (hx : z64 a >>> ((z32 b).toInt64 &&& 63) = z64 x) (k : zG K d Y (pc + 1) L (zJ x :: st) mu Q) : zG K d Y pc L (zI b :: zJ a :: st) mu Q := by
  intro p l e s m args below meth c D cy al C H locs ls hP hS hL
  exact lv_lshr C.1 C.2.1 hd hx (k p l e s m args below meth c D cy al C H locs ls hP hS hL)
theorem g_lushr {a b x : Int} (hd : decode Y.2.1 pc = .ok (.lushr, 1)) (hx : ((z64 a).toUInt64 >>> ((z32 b).toInt64.toUInt64 &&& Int64.toUInt64 63)).toInt64 = z64 x) (k : zG K d Y (pc + 1) L (zJ x :: st) mu Q) : zG K d Y pc L (zI b :: zJ a :: st) mu Q := by
  intro p l e s m args below meth c D cy al C H locs ls hP hS hL
  exact lv_lushr C.1 C.2.1 hd hx (k p l e s m args below meth c D cy al C H locs ls hP hS hL)
theorem z32_div {a b : Int} (ha : zin a) (hb : zin b) (h : 0 < b) : z32 a / z32 b = z32 (a.tdiv b) := by
  apply Int32.toInt_inj.mp
  rw [Int32.toInt_div, z32_toInt ha, z32_toInt hb, z32]
  rw [Int32.toInt_ofInt]
theorem z32_ne {b : Int} (hb : zin b) (h : 0 < b) : ¬ z32 b = 0 := by
  rw [z32_0, z32_eq hb zin_0]
  omega
theorem z64_ne {b : Int} (hb : zil b) (h : 0 < b) : ¬ z64 b = 0 := by
  rw [show (0 : Int64) = z64 0 from rfl, z64_eq hb (by unfold zil; decide)]
  omega
theorem z64_div {a b : Int} (ha : zil a) (hb : zil b) (h : 0 < b) : z64 a / z64 b = z64 (a.tdiv b) := by
  apply Int64.toInt_inj.mp
  rw [Int64.toInt_div, z64_toInt ha, z64_toInt hb, z64]
  rw [Int64.toInt_ofInt]
theorem z32_rem {a b : Int} (ha : zin a) (hb : zin b) (h : 0 < b) : z32 a - z32 a / z32 b * z32 b = z32 (a.tmod b) := by
  rw [z32_div ha hb h, ← z32_mul, ← z32_sub]
  congr 1
  have := Int.tmod_add_tdiv_mul a b
  omega
theorem z64_rem {a b : Int} (ha : zil a) (hb : zil b) (h : 0 < b) : z64 a - z64 a / z64 b * z64 b = z64 (a.tmod b) := by
  rw [z64_div ha hb h, ← z64_mul, ← z64_sub]
  congr 1
  have := Int.tmod_add_tdiv_mul a b
  omega
theorem g_idiv {a b : Int} (hd : decode Y.2.1 pc = .ok (.idiv, 1)) (ha : zin a) (hb : zin b) (h : 0 < b) (k : zG K d Y (pc + 1) L (zI (a.tdiv b) :: st) mu Q) : zG K d Y pc L (zI b :: zI a :: st) mu Q := by
  intro p l e s m args below meth c D cy al C H locs ls hP hS hL
  refine lv_idiv C.1 C.2.1 hd (z32_ne hb h) ?_
  rw [z32_div ha hb h]
  exact k p l e s m args below meth c D cy al C H locs ls hP hS hL
theorem g_irem {a b : Int} (hd : decode Y.2.1 pc = .ok (.irem, 1)) (ha : zin a) (hb : zin b) (h : 0 < b) (k : zG K d Y (pc + 1) L (zI (a.tmod b) :: st) mu Q) : zG K d Y pc L (zI b :: zI a :: st) mu Q := by
  intro p l e s m args below meth c D cy al C H locs ls hP hS hL
  refine lv_irem C.1 C.2.1 hd (z32_ne hb h) ?_
  rw [z32_rem ha hb h]
  exact k p l e s m args below meth c D cy al C H locs ls hP hS hL
theorem g_ldiv {a b : Int} (hd : decode Y.2.1 pc = .ok (.ldiv, 1)) (ha : zil a) (hb : zil b) (h : 0 < b) (k : zG K d Y (pc + 1) L (zJ (a.tdiv b) :: st) mu Q) : zG K d Y pc L (zJ b :: zJ a :: st) mu Q := by
  intro p l e s m args below meth c D cy al C H locs ls hP hS hL
  refine lv_ldiv C.1 C.2.1 hd (z64_ne hb h) ?_
  rw [z64_div ha hb h]
  exact k p l e s m args below meth c D cy al C H locs ls hP hS hL
theorem g_lrem {a b : Int} (hd : decode Y.2.1 pc = .ok (.lrem, 1)) (ha : zil a) (hb : zil b) (h : 0 < b) (k : zG K d Y (pc + 1) L (zJ (a.tmod b) :: st) mu Q) : zG K d Y pc L (zJ b :: zJ a :: st) mu Q := by
  intro p l e s m args below meth c D cy al C H locs ls hP hS hL
  refine lv_lrem C.1 C.2.1 hd (z64_ne hb h) ?_
  rw [z64_rem ha hb h]
  exact k p l e s m args below meth c D cy al C H locs ls hP hS hL
theorem z32_l {a : Int} (ha : zin a) : (z32 a).toInt64 = z64 a := by
  apply Int64.toInt_inj.mp
  rw [Int32.toInt_toInt64, z32_toInt ha, z64_toInt ⟨by have := ha.1; omega, by have := ha.2; omega⟩]
theorem z64_i (a : Int) : (z64 a).toInt32 = z32 a := by
  unfold z64 z32
  apply Int32.toInt_inj.mp
  have h1 : (Int64.ofInt a).toInt = a.bmod (2 ^ 64) := Int64.toInt_ofInt ..
  have h2 : (Int32.ofInt a).toInt = a.bmod (2 ^ 32) := Int32.toInt_ofInt ..
  rw [Int64.toInt_toInt32, h1, h2]
  exact Int.bmod_bmod_of_dvd (show 2 ^ 32 ∣ 2 ^ 64 by decide)
theorem z32_b (a : Int) : (z32 a).toInt8.toInt32 = z32 (a.bmod 256) := by
  apply Int32.toInt_inj.mp
  have h1 := Int.le_bmod (x := a) (m := 256) (by decide)
  have h2 := Int.bmod_lt (x := a) (m := 256) (by decide)
  have h3 : (z32 a).toInt = a.bmod (2 ^ 32) := Int32.toInt_ofInt ..
  rw [Int8.toInt_toInt32, Int32.toInt_toInt8, z32_toInt (x := a.bmod 256) ⟨by omega, by omega⟩, h3]
  exact Int.bmod_bmod_of_dvd (show 2 ^ 8 ∣ 2 ^ 32 by decide)
theorem g_i2l {a : Int} (hd : decode Y.2.1 pc = .ok (.i2l, 1)) (ha : zin a) (k : zG K d Y (pc + 1) L (zJ a :: st) mu Q) : zG K d Y pc L (zI a :: st) mu Q := by
  intro p l e s m args below meth c D cy al C H locs ls hP hS hL
  exact lv_i2l C.1 C.2.1 hd (z32_l ha) (k p l e s m args below meth c D cy al C H locs ls hP hS hL)
theorem g_l2i {a : Int} (hd : decode Y.2.1 pc = .ok (.l2i, 1)) (k : zG K d Y (pc + 1) L (zI a :: st) mu Q) : zG K d Y pc L (zJ a :: st) mu Q := by
  intro p l e s m args below meth c D cy al C H locs ls hP hS hL
  exact lv_l2i C.1 C.2.1 hd (z64_i a) (k p l e s m args below meth c D cy al C H locs ls hP hS hL)
theorem g_i2b {a : Int} (hd : decode Y.2.1 pc = .ok (.i2b, 1)) (k : zG K d Y (pc + 1) L (zI (a.bmod 256) :: st) mu Q) : zG K d Y pc L (zI a :: st) mu Q := by
  intro p l e s m args below meth c D cy al C H locs ls hP hS hL
  exact lv_i2b C.1 C.2.1 hd (z32_b a) (k p l e s m args below meth c D cy al C H locs ls hP hS hL)
theorem g_dup {v : AV} (hd : decode Y.2.1 pc = .ok (.dup, 1)) (hv : ¬ v.1 = 1) (k : zG K d Y (pc + 1) L (v :: v :: st) mu Q) : zG K d Y pc L (v :: st) mu Q := by
  intro p l e s m args below meth c D cy al C H locs ls hP hS hL
  exact lv_dup C.1 C.2.1 hd (by rw [zcat, if_neg hv]) (k p l e s m args below meth c D cy al C H locs ls hP hS hL)
theorem g_pop {v : AV} (hd : decode Y.2.1 pc = .ok (.pop, 1)) (hv : ¬ v.1 = 1) (k : zG K d Y (pc + 1) L st mu Q) : zG K d Y pc L (v :: st) mu Q := by
  intro p l e s m args below meth c D cy al C H locs ls hP hS hL
  exact lv_pop C.1 C.2.1 hd (by rw [zcat, if_neg hv]) (k p l e s m args below meth c D cy al C H locs ls hP hS hL)
theorem g_dup2 {v w : AV} (hd : decode Y.2.1 pc = .ok (.dup2, 1)) (hv : ¬ v.1 = 1) (hw : ¬ w.1 = 1) (k : zG K d Y (pc + 1) L (v :: w :: v :: w :: st) mu Q) : zG K d Y pc L (v :: w :: st) mu Q := by
  intro p l e s m args below meth c D cy al C H locs ls hP hS hL
  exact lv_dup2_11 C.1 C.2.1 hd (by rw [zcat, if_neg hv]) (by rw [zcat, if_neg hw]) (k p l e s m args below meth c D cy al C H locs ls hP hS hL)
theorem g_goto {off : Int} {tgt : Nat} (hd : decode Y.2.1 pc = .ok (.goto off, 3)) (ht : (pc : Int) + off = (tgt : Int)) (k : zG K d Y tgt L st mu Q) : zG K d Y pc L st mu Q := by
  intro p l e s m args below meth c D cy al C H locs ls hP hS hL
  exact lv_goto C.1 C.2.1 hd ht (k p l e s m args below meth c D cy al C H locs ls hP hS hL)
theorem g_if_eq {x off : Int} {tgt : Nat} (hd : decode Y.2.1 pc = .ok (.ifCond .eq off, 3)) (ht : (pc : Int) + off = (tgt : Int)) (hx : zin x) (kt : x = 0 → zG K d Y tgt L st mu Q) (kf : ¬ x = 0 → zG K d Y (pc + 3) L st mu Q) : zG K d Y pc L (zI x :: st) mu Q := by
  intro p l e s m args below meth c D cy al C H locs ls hP hS hL
  exact lv_if_eq C.1 C.2.1 hd ht (fun h => kt ((z32_eq hx zin_0).mp h) p l e s m args below meth c D cy al C H locs ls hP hS hL) (fun h => kf (fun q => h ((z32_eq hx zin_0).mpr q)) p l e s m args below meth c D cy al C H locs ls hP hS hL)
theorem g_icmp_eq {a b off : Int} {tgt : Nat} (hd : decode Y.2.1 pc = .ok (.if_icmp .eq off, 3)) (ht : (pc : Int) + off = (tgt : Int)) (ha : zin a) (hb : zin b) (kt : a = b → zG K d Y tgt L st mu Q) (kf : ¬ a = b → zG K d Y (pc + 3) L st mu Q) : zG K d Y pc L (zI b :: zI a :: st) mu Q := by
  intro p l e s m args below meth c D cy al C H locs ls hP hS hL
  exact lv_icmp_eq C.1 C.2.1 hd ht (fun h => kt ((z32_eq ha hb).mp h) p l e s m args below meth c D cy al C H locs ls hP hS hL) (fun h => kf (fun q => h ((z32_eq ha hb).mpr q)) p l e s m args below meth c D cy al C H locs ls hP hS hL)
theorem g_if_ne {x off : Int} {tgt : Nat} (hd : decode Y.2.1 pc = .ok (.ifCond .ne off, 3)) (ht : (pc : Int) + off = (tgt : Int)) (hx : zin x) (kt : ¬ x = 0 → zG K d Y tgt L st mu Q) (kf : x = 0 → zG K d Y (pc + 3) L st mu Q) : zG K d Y pc L (zI x :: st) mu Q := by
  intro p l e s m args below meth c D cy al C H locs ls hP hS hL
  exact lv_if_ne C.1 C.2.1 hd ht (fun h => kt (fun q => h ((z32_eq hx zin_0).mpr q)) p l e s m args below meth c D cy al C H locs ls hP hS hL) (fun h => kf ((z32_eq hx zin_0).mp h) p l e s m args below meth c D cy al C H locs ls hP hS hL)
theorem g_icmp_ne {a b off : Int} {tgt : Nat} (hd : decode Y.2.1 pc = .ok (.if_icmp .ne off, 3)) (ht : (pc : Int) + off = (tgt : Int)) (ha : zin a) (hb : zin b) (kt : ¬ a = b → zG K d Y tgt L st mu Q) (kf : a = b → zG K d Y (pc + 3) L st mu Q) : zG K d Y pc L (zI b :: zI a :: st) mu Q := by
  intro p l e s m args below meth c D cy al C H locs ls hP hS hL
  exact lv_icmp_ne C.1 C.2.1 hd ht (fun h => kt (fun q => h ((z32_eq ha hb).mpr q)) p l e s m args below meth c D cy al C H locs ls hP hS hL) (fun h => kf ((z32_eq ha hb).mp h) p l e s m args below meth c D cy al C H locs ls hP hS hL)
theorem g_if_lt {x off : Int} {tgt : Nat} (hd : decode Y.2.1 pc = .ok (.ifCond .lt off, 3)) (ht : (pc : Int) + off = (tgt : Int)) (hx : zin x) (kt : x < 0 → zG K d Y tgt L st mu Q) (kf : ¬ x < 0 → zG K d Y (pc + 3) L st mu Q) : zG K d Y pc L (zI x :: st) mu Q := by
  intro p l e s m args below meth c D cy al C H locs ls hP hS hL
  exact lv_if_lt C.1 C.2.1 hd ht (fun h => kt ((z32_lt hx zin_0).mp h) p l e s m args below meth c D cy al C H locs ls hP hS hL) (fun h => kf (fun q => h ((z32_lt hx zin_0).mpr q)) p l e s m args below meth c D cy al C H locs ls hP hS hL)
theorem g_icmp_lt {a b off : Int} {tgt : Nat} (hd : decode Y.2.1 pc = .ok (.if_icmp .lt off, 3)) (ht : (pc : Int) + off = (tgt : Int)) (ha : zin a) (hb : zin b) (kt : a < b → zG K d Y tgt L st mu Q) (kf : ¬ a < b → zG K d Y (pc + 3) L st mu Q) : zG K d Y pc L (zI b :: zI a :: st) mu Q := by
  intro p l e s m args below meth c D cy al C H locs ls hP hS hL
  exact lv_icmp_lt C.1 C.2.1 hd ht (fun h => kt ((z32_lt ha hb).mp h) p l e s m args below meth c D cy al C H locs ls hP hS hL) (fun h => kf (fun q => h ((z32_lt ha hb).mpr q)) p l e s m args below meth c D cy al C H locs ls hP hS hL)
theorem g_if_ge {x off : Int} {tgt : Nat} (hd : decode Y.2.1 pc = .ok (.ifCond .ge off, 3)) (ht : (pc : Int) + off = (tgt : Int)) (hx : zin x) (kt : 0 ≤ x → zG K d Y tgt L st mu Q) (kf : ¬ 0 ≤ x → zG K d Y (pc + 3) L st mu Q) : zG K d Y pc L (zI x :: st) mu Q := by
  intro p l e s m args below meth c D cy al C H locs ls hP hS hL
  exact lv_if_ge C.1 C.2.1 hd ht (fun h => kt ((z32_le zin_0 hx).mp h) p l e s m args below meth c D cy al C H locs ls hP hS hL) (fun h => kf (fun q => h ((z32_le zin_0 hx).mpr q)) p l e s m args below meth c D cy al C H locs ls hP hS hL)
theorem g_icmp_ge {a b off : Int} {tgt : Nat} (hd : decode Y.2.1 pc = .ok (.if_icmp .ge off, 3)) (ht : (pc : Int) + off = (tgt : Int)) (ha : zin a) (hb : zin b) (kt : b ≤ a → zG K d Y tgt L st mu Q) (kf : ¬ b ≤ a → zG K d Y (pc + 3) L st mu Q) : zG K d Y pc L (zI b :: zI a :: st) mu Q := by
  intro p l e s m args below meth c D cy al C H locs ls hP hS hL
  exact lv_icmp_ge C.1 C.2.1 hd ht (fun h => kt ((z32_le hb ha).mp h) p l e s m args below meth c D cy al C H locs ls hP hS hL) (fun h => kf (fun q => h ((z32_le hb ha).mpr q)) p l e s m args below meth c D cy al C H locs ls hP hS hL)
theorem g_if_gt {x off : Int} {tgt : Nat} (hd : decode Y.2.1 pc = .ok (.ifCond .gt off, 3)) (ht : (pc : Int) + off = (tgt : Int)) (hx : zin x) (kt : 0 < x → zG K d Y tgt L st mu Q) (kf : ¬ 0 < x → zG K d Y (pc + 3) L st mu Q) : zG K d Y pc L (zI x :: st) mu Q := by
  intro p l e s m args below meth c D cy al C H locs ls hP hS hL
  exact lv_if_gt C.1 C.2.1 hd ht (fun h => kt ((z32_lt zin_0 hx).mp h) p l e s m args below meth c D cy al C H locs ls hP hS hL) (fun h => kf (fun q => h ((z32_lt zin_0 hx).mpr q)) p l e s m args below meth c D cy al C H locs ls hP hS hL)
theorem g_icmp_gt {a b off : Int} {tgt : Nat} (hd : decode Y.2.1 pc = .ok (.if_icmp .gt off, 3)) (ht : (pc : Int) + off = (tgt : Int)) (ha : zin a) (hb : zin b) (kt : b < a → zG K d Y tgt L st mu Q) (kf : ¬ b < a → zG K d Y (pc + 3) L st mu Q) : zG K d Y pc L (zI b :: zI a :: st) mu Q := by
  intro p l e s m args below meth c D cy al C H locs ls hP hS hL
  exact lv_icmp_gt C.1 C.2.1 hd ht (fun h => kt ((z32_lt hb ha).mp h) p l e s m args below meth c D cy al C H locs ls hP hS hL) (fun h => kf (fun q => h ((z32_lt hb ha).mpr q)) p l e s m args below meth c D cy al C H locs ls hP hS hL)
theorem g_if_le {x off : Int} {tgt : Nat} (hd : decode Y.2.1 pc = .ok (.ifCond .le off, 3)) (ht : (pc : Int) + off = (tgt : Int)) (hx : zin x) (kt : x ≤ 0 → zG K d Y tgt L st mu Q) (kf : ¬ x ≤ 0 → zG K d Y (pc + 3) L st mu Q) : zG K d Y pc L (zI x :: st) mu Q := by
  intro p l e s m args below meth c D cy al C H locs ls hP hS hL
  exact lv_if_le C.1 C.2.1 hd ht (fun h => kt ((z32_le hx zin_0).mp h) p l e s m args below meth c D cy al C H locs ls hP hS hL) (fun h => kf (fun q => h ((z32_le hx zin_0).mpr q)) p l e s m args below meth c D cy al C H locs ls hP hS hL)
theorem g_icmp_le {a b off : Int} {tgt : Nat} (hd : decode Y.2.1 pc = .ok (.if_icmp .le off, 3)) (ht : (pc : Int) + off = (tgt : Int)) (ha : zin a) (hb : zin b) (kt : a ≤ b → zG K d Y tgt L st mu Q) (kf : ¬ a ≤ b → zG K d Y (pc + 3) L st mu Q) : zG K d Y pc L (zI b :: zI a :: st) mu Q := by
  intro p l e s m args below meth c D cy al C H locs ls hP hS hL
  exact lv_icmp_le C.1 C.2.1 hd ht (fun h => kt ((z32_le ha hb).mp h) p l e s m args below meth c D cy al C H locs ls hP hS hL) (fun h => kf (fun q => h ((z32_le ha hb).mpr q)) p l e s m args below meth c D cy al C H locs ls hP hS hL)
def zlc (a b : Int) : Int := if a < b then -1 else if a = b then 0 else 1
theorem zlc_in (a b : Int) : zin (zlc a b) := by
  unfold zlc
  split
  · exact ⟨by omega, by omega⟩
  · split
    · exact ⟨by omega, by omega⟩
    · exact ⟨by omega, by omega⟩
theorem z64_cmp {a b : Int} (ha : zil a) (hb : zil b) : lg_cmp (z64 a) (z64 b) = z32 (zlc a b) := by
  unfold lg_cmp zlc
  simp only [z64_lt ha hb, z64_eq ha hb, GT.gt, z64_lt hb ha]
  repeat' split
  all_goals first | rfl | omega
theorem g_lcmp {a b : Int} (hd : decode Y.2.1 pc = .ok (.lcmp, 1)) (ha : zil a) (hb : zil b) (k : zG K d Y (pc + 1) L (zI (zlc a b) :: st) mu Q) : zG K d Y pc L (zJ b :: zJ a :: st) mu Q := by
  intro p l e s m args below meth c D cy al C H locs ls hP hS hL
  refine W.lcmp C.1 C.2.1 hd ?_
  rw [z64_cmp ha hb]
  exact k p l e s m args below meth c D cy al C H locs ls hP hS hL
theorem zlc_lt (a b : Int) : zlc a b < 0 ↔ a < b := by unfold zlc; repeat' split
                                                       all_goals omega
theorem zlc_eq (a b : Int) : zlc a b = 0 ↔ a = b := by unfold zlc; repeat' split
                                                       all_goals omega
theorem zlc_ge (a b : Int) : 0 ≤ zlc a b ↔ b ≤ a := by unfold zlc; repeat' split
                                                       all_goals omega
theorem zlc_gt (a b : Int) : 0 < zlc a b ↔ b < a := by unfold zlc; repeat' split
                                                       all_goals omega
theorem zlc_le (a b : Int) : zlc a b ≤ 0 ↔ a ≤ b := by unfold zlc; repeat' split
                                                       all_goals omega
theorem g_lcmp_eq {a b off : Int} {tgt : Nat} (hd : decode Y.2.1 pc = .ok (.lcmp, 1)) (hd2 : decode Y.2.1 (pc + 1) = .ok (.ifCond .eq off, 3)) (ht : ((pc + 1 : Nat) : Int) + off = (tgt : Int)) (ha : zil a) (hb : zil b) (kt : a = b → zG K d Y tgt L st mu Q) (kf : ¬ a = b → zG K d Y (pc + 4) L st mu Q) : zG K d Y pc L (zJ b :: zJ a :: st) mu Q :=
  g_lcmp hd ha hb (g_if_eq hd2 ht (zlc_in a b) (fun h => kt ((zlc_eq a b).mp h)) (fun h => kf (fun q => h ((zlc_eq a b).mpr q))))
theorem g_lcmp_ne {a b off : Int} {tgt : Nat} (hd : decode Y.2.1 pc = .ok (.lcmp, 1)) (hd2 : decode Y.2.1 (pc + 1) = .ok (.ifCond .ne off, 3)) (ht : ((pc + 1 : Nat) : Int) + off = (tgt : Int)) (ha : zil a) (hb : zil b) (kt : ¬ a = b → zG K d Y tgt L st mu Q) (kf : a = b → zG K d Y (pc + 4) L st mu Q) : zG K d Y pc L (zJ b :: zJ a :: st) mu Q :=
  g_lcmp hd ha hb (g_if_ne hd2 ht (zlc_in a b) (fun h => kt (fun q => h ((zlc_eq a b).mpr q))) (fun h => kf ((zlc_eq a b).mp h)))
theorem g_lcmp_lt {a b off : Int} {tgt : Nat} (hd : decode Y.2.1 pc = .ok (.lcmp, 1)) (hd2 : decode Y.2.1 (pc + 1) = .ok (.ifCond .lt off, 3)) (ht : ((pc + 1 : Nat) : Int) + off = (tgt : Int)) (ha : zil a) (hb : zil b) (kt : a < b → zG K d Y tgt L st mu Q) (kf : ¬ a < b → zG K d Y (pc + 4) L st mu Q) : zG K d Y pc L (zJ b :: zJ a :: st) mu Q :=
  g_lcmp hd ha hb (g_if_lt hd2 ht (zlc_in a b) (fun h => kt ((zlc_lt a b).mp h)) (fun h => kf (fun q => h ((zlc_lt a b).mpr q))))
theorem g_lcmp_ge {a b off : Int} {tgt : Nat} (hd : decode Y.2.1 pc = .ok (.lcmp, 1)) (hd2 : decode Y.2.1 (pc + 1) = .ok (.ifCond .ge off, 3)) (ht : ((pc + 1 : Nat) : Int) + off = (tgt : Int)) (ha : zil a) (hb : zil b) (kt : b ≤ a → zG K d Y tgt L st mu Q) (kf : ¬ b ≤ a → zG K d Y (pc + 4) L st mu Q) : zG K d Y pc L (zJ b :: zJ a :: st) mu Q :=
  g_lcmp hd ha hb (g_if_ge hd2 ht (zlc_in a b) (fun h => kt ((zlc_ge a b).mp h)) (fun h => kf (fun q => h ((zlc_ge a b).mpr q))))
theorem g_lcmp_gt {a b off : Int} {tgt : Nat} (hd : decode Y.2.1 pc = .ok (.lcmp, 1)) (hd2 : decode Y.2.1 (pc + 1) = .ok (.ifCond .gt off, 3)) (ht : ((pc + 1 : Nat) : Int) + off = (tgt : Int)) (ha : zil a) (hb : zil b) (kt : b < a → zG K d Y tgt L st mu Q) (kf : ¬ b < a → zG K d Y (pc + 4) L st mu Q) : zG K d Y pc L (zJ b :: zJ a :: st) mu Q :=
  g_lcmp hd ha hb (g_if_gt hd2 ht (zlc_in a b) (fun h => kt ((zlc_gt a b).mp h)) (fun h => kf (fun q => h ((zlc_gt a b).mpr q))))
theorem g_lcmp_le {a b off : Int} {tgt : Nat} (hd : decode Y.2.1 pc = .ok (.lcmp, 1)) (hd2 : decode Y.2.1 (pc + 1) = .ok (.ifCond .le off, 3)) (ht : ((pc + 1 : Nat) : Int) + off = (tgt : Int)) (ha : zil a) (hb : zil b) (kt : a ≤ b → zG K d Y tgt L st mu Q) (kf : ¬ a ≤ b → zG K d Y (pc + 4) L st mu Q) : zG K d Y pc L (zJ b :: zJ a :: st) mu Q :=
  g_lcmp hd ha hb (g_if_le hd2 ht (zlc_in a b) (fun h => kt ((zlc_le a b).mp h)) (fun h => kf (fun q => h ((zlc_le a b).mpr q))))
theorem g_swIn {x dflt lo hi off : Int} {offs : Array Int} {len tgt : Nat} (hd : decode Y.2.1 pc = .ok (.tableswitch dflt lo hi offs, len)) (hx : zin x) (h1 : lo ≤ x) (h2 : x ≤ hi) (ho : offs[(x - lo).toNat]? = some off) (ht : (pc : Int) + off = (tgt : Int)) (k : zG K d Y tgt L st mu Q) : zG K d Y pc L (zI x :: st) mu Q := by
  intro p l e s m args below meth c D cy al C H locs ls hP hS hL
  exact lv_tableIn C.1 C.2.1 hd (by rw [z32_toInt hx]; omega) (by rw [z32_toInt hx]; omega) (by rw [z32_toInt hx]; exact ho) ht (k p l e s m args below meth c D cy al C H locs ls hP hS hL)
theorem g_swOut {x dflt lo hi : Int} {offs : Array Int} {len tgt : Nat} (hd : decode Y.2.1 pc = .ok (.tableswitch dflt lo hi offs, len)) (hx : zin x) (h : x < lo ∨ hi < x) (ht : (pc : Int) + dflt = (tgt : Int)) (k : zG K d Y tgt L st mu Q) : zG K d Y pc L (zI x :: st) mu Q := by
  intro p l e s m args below meth c D cy al C H locs ls hP hS hL
  exact lv_tableOut C.1 C.2.1 hd (by rw [z32_toInt hx]; exact h) ht (k p l e s m args below meth c D cy al C H locs ls hP hS hL)
theorem g_ireturn {x : Int} (hd : decode Y.2.1 pc = .ok (.ireturn, 1)) (hr : Y.2.2.2 = some .int) (k : Q (zI x) mu) : zG K d Y pc L [zI x] mu Q := by
  intro p l e s m args below meth c D cy al C H locs ls hP hS hL
  exact W.iret C.1 C.2.1 (C.2.2.2.1.trans hr) (fun t ht hW => ⟨⟨zI x, mu, rfl, k, by rw [ht]; exact hP⟩, hS.F ht⟩) hS.2.2 hd C.2.2.2.2.2.2.1
theorem g_zreturn {x : Int} (hd : decode Y.2.1 pc = .ok (.ireturn, 1)) (hr : Y.2.2.2 = some .boolean) (hx : x = 0 ∨ x = 1) (k : Q (zI x) mu) : zG K d Y pc L [zI x] mu Q := by
  intro p l e s m args below meth c D cy al C H locs ls hP hS hL
  exact W.zret C.1 C.2.1 (C.2.2.2.1.trans hr) (by rcases hx with rfl | rfl <;> rfl) (fun t ht hW => ⟨⟨zI x, mu, rfl, k, by rw [ht]; exact hP⟩, hS.F ht⟩) hS.2.2 hd C.2.2.2.2.2.2.1
theorem g_lreturn {x : Int} (hd : decode Y.2.1 pc = .ok (.lreturn, 1)) (hr : Y.2.2.2 = some .long) (k : Q (zJ x) mu) : zG K d Y pc L [zJ x] mu Q := by
  intro p l e s m args below meth c D cy al C H locs ls hP hS hL
  exact W.lret C.1 C.2.1 (C.2.2.2.1.trans hr) (fun t ht hW => ⟨⟨zJ x, mu, rfl, k, by rw [ht]; exact hP⟩, hS.F ht⟩) hS.2.2 hd C.2.2.2.2.2.2.1
theorem g_return (hd : decode Y.2.1 pc = .ok (.return_, 1)) (hr : Y.2.2.2 = none) (k : Q zV mu) : zG K d Y pc L [] mu Q := by
  intro p l e s m args below meth c D cy al C H locs ls hP hS hL
  exact W.vret C.1 C.2.1 (C.2.2.2.1.trans hr) (fun t ht hW => ⟨⟨zV, mu, rfl, k, by rw [ht]; exact hP⟩, hS.F ht⟩) hS.2.2 hd C.2.2.2.2.2.2.1
end ZR
end
section
/-! rules: fields, arrays, calls, the entry -/
theorem zcl_n : ∀ ci, ci < 10 → ∀ q, vwCl[ci]? = some q → q.2.2 = (zst.getD ci []).length := by
  intro ci hc q hq
  match ci, hc, hq with
  | 0, _, hq => cases hq; rfl
  | 1, _, hq => cases hq; rfl
  | 2, _, hq => cases hq; rfl
  | 3, _, hq => cases hq; rfl
  | 4, _, hq => cases hq; rfl
  | 5, _, hq => cases hq; rfl
  | 6, _, hq => cases hq; rfl
  | 7, _, hq => cases hq; rfl
  | 8, _, hq => cases hq; rfl
  | 9, _, hq => cases hq; rfl
  | n + 10, hc, _ => exact absurd hc (by omega)
theorem zcl_l : ∀ k : Nat, k < 93 → zkd k < 10 → zln k = (zst.getD (zkd k) []).length := by decide +kernel
theorem zcl_k : ∀ k : Nat, 93 ≤ k → zkd k = 99 := by
  intro k hk
  unfold zkd
  rw [List.getD_eq_getElem?_getD, List.getElem?_eq_none (by show 93 ≤ k; exact hk)]
  rfl
theorem zOb.len {K ci : Nat} {k : Int} (h : zOb K ci k) : zln k.toNat = (zst.getD ci []).length := by
  obtain ⟨h0, h1, h2, h3⟩ := h
  have hk : k.toNat < 93 := by
    rcases Nat.lt_or_ge k.toNat 93 with h | h
    · exact h
    · rw [zcl_k _ h] at h2; omega
  rw [zcl_l _ hk (by omega), h2]
theorem zidx {i : Int} {n : Nat} (h0 : 0 ≤ i) (h1 : i < n) (hn : n ≤ 100000) : vp_in (z32 i) n ∧ (z32 i).toNatClampNeg = i.toNat := by
  have hi : (z32 i).toInt = i := z32_toInt ⟨by omega, by omega⟩
  exact ⟨vp_in_iff.mpr (by rw [hi]; exact ⟨h0, h1⟩), by show (z32 i).toInt.toNat = _; rw [hi]⟩
theorem zln_le : ∀ k : Nat, zln k ≤ 100000 := by
  intro k
  rcases Nat.lt_or_ge k 93 with h | h
  · have : ∀ k : Nat, k < 93 → zln k ≤ 100000 := by decide +kernel
    exact this k h
  · unfold zln
    rw [List.getD_eq_getElem?_getD, List.getElem?_eq_none (by show 93 ≤ k; exact h)]
    decide
theorem zAr.le {K kd n : Nat} {k : Int} (h : zAr K kd k n) : n ≤ 100000 := by rw [← h.2.2.2]; exact zln_le _
section ZM
variable {K d : Nat} {Y : MI} {pc : Nat} {L st : List AV} {mu : Mem} {Q : AV → Mem → Prop}
theorem zfs_at {al : Nat → Nat} {ci : Nat} {k : Int} {j : Nat} (h : zOb K ci k) (hj : j < (zst.getD ci []).length) : ((List.range (zln k.toNat)).map (zfv al mu ci k.toNat))[j]? = some (zfv al mu ci k.toNat j) := by
  rw [h.len, List.getElem?_map, List.getElem?_range hj]
  rfl
theorem g_get {idx ci j : Nat} {k : Int} {v : AV} (hd : decode Y.2.1 pc = .ok (.getfield idx, 3)) (ho : zOb K ci k) (hf : zFL Y.1.cls idx ci j) (hv : ∀ al : Nat → Nat, zfv al mu ci k.toNat j = zcv al v) (kk : zG K d Y (pc + 3) L (v :: st) mu Q) : zG K d Y pc L (zR k :: st) mu Q := by
  intro p l e s m args below meth c D cy al C H locs ls hP hS hL
  obtain ⟨Cn, T, N, h1, h2, h3, h4⟩ := hf
  have hN := zcl_n ci ho.2.2.2 _ h1
  refine va_get C.1 C.2.1 C.2.2.2.2.2.1 (fun w hw => List.mem_cons_of_mem _ (h4 w hw)) C.2.2.2.2.1 C.2.2.2.2.2.2.2.1.1 hP k.toNat ho.cell h1 j h2 (C.2.2.2.2.2.1 _ (List.mem_cons_of_mem _ h3)) (fun _ h => h) (zfs_at ho (by rw [← hN]; exact h2)) hd ?_
  rw [hv al]
  exact kk p l e s m args below meth c D cy al C H locs ls hP hS hL
theorem zkz {k : Int} (h : 0 ≤ k) : ((k.toNat : Nat) : Int) = k := by omega
theorem g_getI {idx ci j : Nat} {k : Int} (hd : decode Y.2.1 pc = .ok (.getfield idx, 3)) (ho : zOb K ci k) (hf : zFL Y.1.cls idx ci j) (hs : zsl ci j = -1) (kk : zG K d Y (pc + 3) L (zI (mu k j) :: st) mu Q) : zG K d Y pc L (zR k :: st) mu Q :=
  g_get hd ho hf (fun al => by rw [zfv, if_pos hs, zkz ho.1]; rfl) kk
theorem g_getM {idx ci j : Nat} {k : Int} (hd : decode Y.2.1 pc = .ok (.getfield idx, 3)) (ho : zOb K ci k) (hf : zFL Y.1.cls idx ci j) (hs : zsl ci j = -2) (kk : zG K d Y (pc + 3) L (zR (mu k j) :: st) mu Q) : zG K d Y pc L (zR k :: st) mu Q :=
  g_get hd ho hf (fun al => by rw [zfv, if_neg (by omega), if_pos hs, zkz ho.1]; rfl) kk
theorem g_getR {idx ci j : Nat} {k k' : Int} (hd : decode Y.2.1 pc = .ok (.getfield idx, 3)) (ho : zOb K ci k) (hf : zFL Y.1.cls idx ci j) (hs : 0 ≤ zsl ci j) (hk : k + zsl ci j = k') (kk : zG K d Y (pc + 3) L (zR k' :: st) mu Q) : zG K d Y pc L (zR k :: st) mu Q :=
  g_get hd ho hf (fun al => by
    rw [zfv, if_neg (by omega), if_neg (by omega)]
    show Value.ref _ = Value.ref _
    congr 2
    have := ho.1
    show k.toNat + (zsl ci j).toNat = k'.toNat
    omega) kk
theorem zset_fs {al : Nat → Nat} {ci : Nat} {k : Int} {j : Nat} {v : Int} {x : Value} (ho : zOb K ci k) (hj : j < (zst.getD ci []).length) (hx : zfv al (zup mu k j v) ci k.toNat j = x) : ((List.range (zln k.toNat)).map (zfv al mu ci k.toNat)).set j x = (List.range (zln k.toNat)).map (zfv al (zup mu k j v) ci k.toNat) := by
  apply List.ext_getElem?
  intro i
  by_cases hi : i = j
  · subst hi
    rw [List.getElem?_set_self (by rw [List.length_map, List.length_range, ho.len]; exact hj), zfs_at ho hj, hx]
  · rw [List.getElem?_set_ne (Ne.symm hi)]
    by_cases hl : i < (zst.getD ci []).length
    · rw [zfs_at ho hl, zfs_at ho hl]
      have e : mu k.toNat i = zup mu k j v k.toNat i := (zup_slot mu (by omega)).symm
      simp only [zfv, e]
    · rw [List.getElem?_eq_none (by rw [List.length_map, List.length_range, ho.len]; omega), List.getElem?_eq_none (by rw [List.length_map, List.length_range, ho.len]; omega)]
theorem zce_ob {al : Nat → Nat} {cy : Nat → ClassId} {ci : Nat} {k : Int} (ho : zOb K ci k) : zce al cy mu k.toNat = .inr (ci, (List.range (zln k.toNat)).map (zfv al mu ci k.toNat)) := by
  obtain ⟨h0, h1, h2, h3⟩ := ho
  rw [zce, if_neg (by omega), if_neg (by omega), if_neg (by omega), if_neg (by omega), h2]
theorem g_put {idx ci j : Nat} {k v : Int} {a : AV} {ty : FieldType} (hd : decode Y.2.1 pc = .ok (.putfield idx, 3)) (ho : zOb K ci k) (hf : zFP Y.1.cls idx ci j ty) (hn : ∀ al : Nat → Nat, narrow ty (zcv al a) = zcv al a ∧ fits ty (zcv al a) = true) (hv : ∀ al : Nat → Nat, zfv al (zup mu k j v) ci k.toNat j = zcv al a) (kk : zG K d Y (pc + 3) L st (zup mu k j v) Q) : zG K d Y pc L (a :: zR k :: st) mu Q := by
  intro p l e s m args below meth c D cy al C H locs ls hP hS hL
  obtain ⟨Cn, T, N, ty0, h1, h2, h3, h4, h5, h6, h7, h8⟩ := hf
  have hN := zcl_n ci ho.2.2.2 _ h1
  have hj : j < (zst.getD ci []).length := by rw [← hN]; exact h2
  refine va_put C.1 C.2.1 C.2.2.2.2.2.1 (fun w hw => List.mem_cons_of_mem _ (h4 w hw)) ty0 h5 h6 C.2.2.2.2.1 C.2.2.2.2.2.2.2.1.1 hP (zD C.2.2.2.2.2.2.2.2) hS k.toNat ho.cell h1 j h2 (C.2.2.2.2.2.1 _ (List.mem_cons_of_mem _ h3)) (fun _ h => h) h7 h8 (hn al).1 (hn al).2 (by rw [List.length_map, List.length_range, ho.len]; exact hj) hd (fun H1 locs1 hP1 _ hS1 => ?_)
  rw [zset_fs ho hj (hv al), zwl_set ho.2.1 (zce_ob ho) (fun k' hk' j' => (zup_cell mu (by have := ho.1; omega)).symm)] at hP1
  exact kk p l e s m args below meth c D cy al C H1 locs1 ls hP1 hS1 hL
theorem g_putI {idx ci j : Nat} {k v : Int} (hd : decode Y.2.1 pc = .ok (.putfield idx, 3)) (ho : zOb K ci k) (hf : zFP Y.1.cls idx ci j .int) (hs : zsl ci j = -1) (kk : zG K d Y (pc + 3) L st (zup mu k j v) Q) : zG K d Y pc L (zI v :: zR k :: st) mu Q :=
  g_put hd ho hf (fun al => ⟨rfl, rfl⟩) (fun al => by rw [zfv, if_pos hs, zkz ho.1, zup_same]; rfl) kk
theorem g_putM {idx ci j : Nat} {k v : Int} {Cn : String} (hd : decode Y.2.1 pc = .ok (.putfield idx, 3)) (ho : zOb K ci k) (hf : zFP Y.1.cls idx ci j (.object Cn)) (hs : zsl ci j = -2) (kk : zG K d Y (pc + 3) L st (zup mu k j v) Q) : zG K d Y pc L (zR v :: zR k :: st) mu Q :=
  g_put hd ho hf (fun al => ⟨rfl, rfl⟩) (fun al => by rw [zfv, if_neg (by omega), if_pos hs, zkz ho.1, zup_same]; rfl) kk
theorem g_iald {k i : Int} {n : Nat} (hd : decode Y.2.1 pc = .ok (.iaload, 1)) (ha : zAr K 11 k n) (h0 : 0 ≤ i) (h1 : i < n) (kk : zG K d Y (pc + 1) L (zI (mu k i) :: st) mu Q) : zG K d Y pc L (zI i :: zR k :: st) mu Q := by
  intro p l e s m args below meth c D cy al C H locs ls hP hS hL
  obtain ⟨q1, q2⟩ := zidx h0 h1 ha.le
  refine va_iald C.1 C.2.1 C.2.2.2.2.2.2.2.1.1 hP k.toNat 1 ha.cell rfl q1 hd ?_
  rw [q2, zkz h0]
  exact kk p l e s m args below meth c D cy al C H locs ls hP hS hL
theorem g_bald {k i : Int} {n : Nat} (hd : decode Y.2.1 pc = .ok (.baload, 1)) (ha : zAr K 10 k n) (h0 : 0 ≤ i) (h1 : i < n) (kk : zG K d Y (pc + 1) L (zI (mu k i) :: st) mu Q) : zG K d Y pc L (zI i :: zR k :: st) mu Q := by
  intro p l e s m args below meth c D cy al C H locs ls hP hS hL
  obtain ⟨q1, q2⟩ := zidx h0 h1 ha.le
  refine va_bald C.1 C.2.1 C.2.2.2.2.2.2.2.1.1 hP k.toNat 0 ha.cellB rfl q1 hd ?_
  rw [q2, zkz h0]
  exact kk p l e s m args below meth c D cy al C H locs ls hP hS hL
theorem g_lald {k i : Int} {n : Nat} (hd : decode Y.2.1 pc = .ok (.laload, 1)) (ha : zAr K 12 k n) (h0 : 0 ≤ i) (h1 : i < n) (kk : zG K d Y (pc + 1) L (zJ (mu k i) :: st) mu Q) : zG K d Y pc L (zI i :: zR k :: st) mu Q := by
  intro p l e s m args below meth c D cy al C H locs ls hP hS hL
  obtain ⟨q1, q2⟩ := zidx h0 h1 ha.le
  refine va_lald C.1 C.2.1 C.2.2.2.2.2.2.2.1.1 hP k.toNat 2 ha.cellJ rfl q1 hd ?_
  rw [q2, zkz h0]
  exact kk p l e s m args below meth c D cy al C H locs ls hP hS hL
theorem g_aald {k i k' : Int} {n : Nat} (hd : decode Y.2.1 pc = .ok (.aaload, 1)) (ha : zAr K 13 k n) (h0 : 0 ≤ i) (h1 : i < n) (hk : k + 1 + 5 * i = k') (kk : zG K d Y (pc + 1) L (zR k' :: st) mu Q) : zG K d Y pc L (zI i :: zR k :: st) mu Q := by
  intro p l e s m args below meth c D cy al C H locs ls hP hS hL
  obtain ⟨q1, q2⟩ := zidx h0 h1 ha.le
  refine va_aldq C.1 C.2.1 C.2.2.2.2.2.2.2.1.1 hP k.toNat 3 ha.cellQ rfl q1 hd ?_
  have he : k.toNat + 1 + 5 * (z32 i).toNatClampNeg = k'.toNat := by
    rw [q2]
    have := ha.1
    omega
  rw [he]
  exact kk p l e s m args below meth c D cy al C H locs ls hP hS hL
theorem g_alen {kd : Nat} {k : Int} {n : Nat} (hd : decode Y.2.1 pc = .ok (.arraylength, 1)) (ha : zAr K kd k n) (hk : kd = 10 ∨ kd = 11 ∨ kd = 12) (kk : zG K d Y (pc + 1) L (zI n :: st) mu Q) : zG K d Y pc L (zR k :: st) mu Q := by
  intro p l e s m args below meth c D cy al C H locs ls hP hS hL
  have hn : Int32.ofNat n = z32 (n : Int) := by
    unfold z32
    exact (Int32.ofInt_eq_ofNat).symm
  rcases hk with rfl | rfl | rfl
  · exact va_alen C.1 C.2.1 C.2.2.2.2.2.2.2.1.1 hP k.toNat 0 ha.cellB rfl hn hd (kk p l e s m args below meth c D cy al C H locs ls hP hS hL)
  · exact va_alen C.1 C.2.1 C.2.2.2.2.2.2.2.1.1 hP k.toNat 1 ha.cell rfl hn hd (kk p l e s m args below meth c D cy al C H locs ls hP hS hL)
  · exact va_alen C.1 C.2.1 C.2.2.2.2.2.2.2.1.1 hP k.toNat 2 ha.cellJ rfl hn hd (kk p l e s m args below meth c D cy al C H locs ls hP hS hL)
theorem zce_11 {al : Nat → Nat} {cy : Nat → ClassId} {k : Int} {n : Nat} (ha : zAr K 11 k n) : zce al cy mu k.toNat = .inl (cy 1, n, .inl (fun j => z32 (mu k j))) := by
  obtain ⟨h0, h1, h2, h3⟩ := ha
  rw [zce, if_neg (by omega), if_pos h2, h3, zkz h0]
theorem zce_10 {al : Nat → Nat} {cy : Nat → ClassId} {k : Int} {n : Nat} (ha : zAr K 10 k n) : zce al cy mu k.toNat = .inl (cy 0, n, .inl (fun j => z32 (mu k j))) := by
  obtain ⟨h0, h1, h2, h3⟩ := ha
  rw [zce, if_pos h2, h3, zkz h0]
theorem zce_12 {al : Nat → Nat} {cy : Nat → ClassId} {k : Int} {n : Nat} (ha : zAr K 12 k n) : zce al cy mu k.toNat = .inl (cy 2, n, .inr (.inl (fun j => z64 (mu k j)))) := by
  obtain ⟨h0, h1, h2, h3⟩ := ha
  rw [zce, if_neg (by omega), if_neg (by omega), if_pos h2, h3, zkz h0]
theorem zupf {k i v : Int} (h0 : 0 ≤ i) : upd (fun j : Nat => z32 (mu k j)) i.toNat (z32 v) = fun j : Nat => z32 (zup mu k i v k j) := by
  funext q
  by_cases hq : q = i.toNat
  · subst hq
    rw [zkz h0, zup_same]
    simp [upd]
  · rw [zup_slot mu (by omega)]
    simp [upd, hq]
theorem zupg {k i v : Int} (h0 : 0 ≤ i) : vp_updL (fun j : Nat => z64 (mu k j)) i.toNat (z64 v) = fun j : Nat => z64 (zup mu k i v k j) := by
  funext q
  by_cases hq : q = i.toNat
  · subst hq
    rw [zkz h0, zup_same]
    simp [vp_updL]
  · rw [zup_slot mu (by omega)]
    simp [vp_updL, hq]
theorem g_iast {k i v : Int} {n : Nat} (hd : decode Y.2.1 pc = .ok (.iastore, 1)) (ha : zAr K 11 k n) (h0 : 0 ≤ i) (h1 : i < n) (kk : zG K d Y (pc + 1) L st (zup mu k i v) Q) : zG K d Y pc L (zI v :: zI i :: zR k :: st) mu Q := by
  intro p l e s m args below meth c D cy al C H locs ls hP hS hL
  obtain ⟨q1, q2⟩ := zidx h0 h1 ha.le
  refine va_iast C.1 C.2.1 C.2.2.2.2.2.2.2.1.1 hP (zD C.2.2.2.2.2.2.2.2) hS k.toNat 1 ha.cell rfl q1 hd (fun H1 locs1 hP1 _ hS1 => ?_)
  rw [q2, zupf h0, zwl_set ha.2.1 (zce_11 ha) (fun k' hk' j' => (zup_cell mu (by have := ha.1; omega)).symm)] at hP1
  exact kk p l e s m args below meth c D cy al C H1 locs1 ls hP1 hS1 hL
theorem g_last {k i v : Int} {n : Nat} (hd : decode Y.2.1 pc = .ok (.lastore, 1)) (ha : zAr K 12 k n) (h0 : 0 ≤ i) (h1 : i < n) (kk : zG K d Y (pc + 1) L st (zup mu k i v) Q) : zG K d Y pc L (zJ v :: zI i :: zR k :: st) mu Q := by
  intro p l e s m args below meth c D cy al C H locs ls hP hS hL
  obtain ⟨q1, q2⟩ := zidx h0 h1 ha.le
  refine va_last C.1 C.2.1 C.2.2.2.2.2.2.2.1.1 hP (zD C.2.2.2.2.2.2.2.2) hS k.toNat 2 ha.cellJ rfl q1 hd (fun H1 locs1 hP1 _ hS1 => ?_)
  rw [q2, zupg h0, zwl_set ha.2.1 (zce_12 ha) (fun k' hk' j' => (zup_cell mu (by have := ha.1; omega)).symm)] at hP1
  exact kk p l e s m args below meth c D cy al C H1 locs1 ls hP1 hS1 hL
theorem g_bast {k i v : Int} {n : Nat} (hd : decode Y.2.1 pc = .ok (.bastore, 1)) (ha : zAr K 10 k n) (h0 : 0 ≤ i) (h1 : i < n) (kk : zG K d Y (pc + 1) L st (zup mu k i (v.bmod 256)) Q) : zG K d Y pc L (zI v :: zI i :: zR k :: st) mu Q := by
  intro p l e s m args below meth c D cy al C H locs ls hP hS hL
  obtain ⟨q1, q2⟩ := zidx h0 h1 ha.le
  refine va_bast C.1 C.2.1 C.2.2.2.2.2.2.2.1.1 hP (zD C.2.2.2.2.2.2.2.2) hS k.toNat 0 ha.cellB rfl q1 hd (fun H1 locs1 hP1 _ hS1 => ?_)
  rw [q2, vp_nar_byte, z32_b, zupf h0, zwl_set ha.2.1 (zce_10 ha) (fun k' hk' j' => (zup_cell mu (by have := ha.1; omega)).symm)] at hP1
  exact kk p l e s m args below meth c D cy al C H1 locs1 ls hP1 hS1 hL
def zcp (mu : Mem) (ks kd sp dp n : Int) : Mem := fun a b => if a = kd ∧ dp ≤ b ∧ b < dp + n then mu ks (sp + (b - dp)) else mu a b
theorem g_copy {idx : Nat} {ks kd sp dp n : Int} {n0 n1 : Nat} (hd : decode Y.2.1 pc = .ok (.invokestatic idx, 3)) (hl : Cond.methodLink Y.1.cls idx arraycopyName ∈ zTB) (hdep : 1 ≤ d) (hr : st = []) (h0 : zAr K 11 ks n0) (h1 : zAr K 11 kd n1) (hs : 0 ≤ sp) (hp : 0 ≤ dp) (hn : 0 ≤ n) (hs1 : sp + n ≤ n0) (hp1 : dp + n ≤ n1) (kk : zG K d Y (pc + 3) L st (zcp mu ks kd sp dp n) Q) : zG K d Y pc L (zI n :: zI dp :: zR kd :: zI sp :: zR ks :: st) mu Q := by
  intro p l e s m args below meth c D cy al C H locs ls hP hS hL
  have b0 := h0.le
  have b1 := h1.le
  have ts : ∀ x : Int, 0 ≤ x → x ≤ 100000 → (z32 x).toNatClampNeg = x.toNat ∧ ¬ z32 x < 0 := fun x hx0 hx1 => by
    have hi : (z32 x).toInt = x := z32_toInt ⟨by omega, by omega⟩
    refine ⟨by show (z32 x).toInt.toNat = _; rw [hi], ?_⟩
    rw [z32_0, z32_lt ⟨by omega, by omega⟩ zin_0]
    omega
  obtain ⟨s1, s2⟩ := ts sp hs (by omega)
  obtain ⟨p1, p2⟩ := ts dp hp (by omega)
  obtain ⟨n1', n2⟩ := ts n hn (by omega)
  subst hr
  refine va_copyi C.1 C.2.1 (C.2.2.1.trans hL.1.symm) C.2.2.2.2.1 (C.2.2.2.2.2.1 _ (List.mem_cons_of_mem _ hl)) (C.2.2.2.2.2.1 _ (List.mem_cons_of_mem _ zw_nat)) (C.2.2.2.2.2.1 _ (List.mem_cons_of_mem _ zw_sta)) (C.2.2.2.2.2.1 _ (List.mem_cons_of_mem _ zw_ini)) C.2.2.2.2.2.2.2.1.1 hP (zD C.2.2.2.2.2.2.2.2) hS ks.toNat kd.toNat 1 1 (ty := .int) h0.cell h1.cell rfl rfl rfl s2 p2 n2 (by rw [s1, n1']; omega) (by rw [p1, n1']; omega) (fun i _ => rfl) hdep ?_ hd (fun H1 locs1 hP1 _ hS1 => ?_)
  · show 0 + _ ≤ 100 * d
    refine Nat.le_trans ?_ (show 100 ≤ 100 * d by omega)
    decide +kernel
  · rw [s1, p1, n1', zwl_set (nu := zcp mu ks kd sp dp n) h1.2.1 ?_ ?_] at hP1
    · exact kk p l e s m args below meth c D cy al C H1 locs1 ls hP1 hS1 hL
    · rw [zce_11 h1]
      congr 4
      funext q
      unfold va_cpy zcp
      by_cases hq : dp.toNat ≤ q ∧ q < dp.toNat + n.toNat
      · rw [if_pos hq, if_pos ⟨rfl, by omega, by omega⟩]
        congr 2
        omega
      · rw [if_neg hq, if_neg (by omega)]
    · intro k' hk' j'
      unfold zcp
      rw [if_neg (by have := h1.1; omega)]
end ZM
end
section
/-! rules: calls and the entry -/
section ZC
variable {K d : Nat} {Y : MI} {pc : Nat} {L st : List AV} {mu : Mem} {Q : AV → Mem → Prop}
theorem z32_max {a b : Int} (ha : zin a) (hb : zin b) : (if z32 a < z32 b then z32 b else z32 a) = z32 (max a b) := by
  by_cases h : a < b
  · rw [if_pos ((z32_lt ha hb).mpr h), Int.max_eq_right (by omega)]
  · rw [if_neg (fun q => h ((z32_lt ha hb).mp q)), Int.max_eq_left (by omega)]
theorem z32_min {a b : Int} (ha : zin a) (hb : zin b) : (if z32 b < z32 a then z32 b else z32 a) = z32 (min a b) := by
  by_cases h : b < a
  · rw [if_pos ((z32_lt hb ha).mpr h), Int.min_eq_right (by omega)]
  · rw [if_neg (fun q => h ((z32_lt hb ha).mp q)), Int.min_eq_left (by omega)]
theorem z64_max {a b : Int} (ha : zil a) (hb : zil b) : (if z64 b < z64 a then z64 a else z64 b) = z64 (max a b) := by
  by_cases h : b < a
  · rw [if_pos ((z64_lt hb ha).mpr h), Int.max_eq_left (by omega)]
  · rw [if_neg (fun q => h ((z64_lt hb ha).mp q)), Int.max_eq_right (by omega)]
def zw (v : AV) : Nat := if v.1 = 1 then 2 else 1
theorem zw_sum (al : Nat → Nat) (r : List AV) : ((r.map (zcv al)).map fun v => v.category).sum = (r.map zw).sum := by
  rw [List.map_map]
  congr 1
  apply List.map_congr_left
  intro v _
  exact zcat
theorem g_max {idx : Nat} {a b : Int} (hd : decode Y.2.1 pc = .ok (.invokestatic idx, 3)) (hl : Cond.methodLink Y.1.cls idx Lib.Math.max.name ∈ zTB) (hdep : 1 ≤ d) (hr : (st.map zw).sum ≤ 8) (ha : zin a) (hb : zin b) (k : zG K d Y (pc + 3) L (zI (max a b) :: st) mu Q) : zG K d Y pc L (zI b :: zI a :: st) mu Q := by
  intro p l e s m args below meth c D cy al C H locs ls hP hS hL
  refine va_mmax C.1 C.2.1 (C.2.2.1.trans hL.1.symm) C.2.2.2.2.1 (C.2.2.2.2.2.1 _ (List.mem_cons_of_mem _ hl)) (C.2.2.2.2.2.1 _ (List.mem_cons_of_mem _ zw_max_s)) (C.2.2.2.2.2.1 _ (List.mem_cons_of_mem _ zw_math)) (C.2.2.2.2.2.1 _ (List.mem_cons_of_mem _ zw_max_c)) hdep ?_ (Nat.le_refl _) (Nat.le_refl _) hd ?_
  · rw [zw_sum]
    show _ ≤ 100 * d
    omega
  · rw [z32_max ha hb]
    exact k p l e s m args below meth c D cy al C H locs ls hP hS hL
theorem g_min {idx : Nat} {a b : Int} (hd : decode Y.2.1 pc = .ok (.invokestatic idx, 3)) (hl : Cond.methodLink Y.1.cls idx Lib.Math.min.name ∈ zTB) (hdep : 1 ≤ d) (hr : (st.map zw).sum ≤ 8) (ha : zin a) (hb : zin b) (k : zG K d Y (pc + 3) L (zI (min a b) :: st) mu Q) : zG K d Y pc L (zI b :: zI a :: st) mu Q := by
  intro p l e s m args below meth c D cy al C H locs ls hP hS hL
  refine va_mmin C.1 C.2.1 (C.2.2.1.trans hL.1.symm) C.2.2.2.2.1 (C.2.2.2.2.2.1 _ (List.mem_cons_of_mem _ hl)) (C.2.2.2.2.2.1 _ (List.mem_cons_of_mem _ zw_min_s)) (C.2.2.2.2.2.1 _ (List.mem_cons_of_mem _ zw_math)) (C.2.2.2.2.2.1 _ (List.mem_cons_of_mem _ zw_min_c)) hdep ?_ (Nat.le_refl _) (Nat.le_refl _) hd ?_
  · rw [zw_sum]
    show _ ≤ 100 * d
    omega
  · rw [z32_min ha hb]
    exact k p l e s m args below meth c D cy al C H locs ls hP hS hL
theorem g_maxl {idx : Nat} {a b : Int} (hd : decode Y.2.1 pc = .ok (.invokestatic idx, 3)) (hl : Cond.methodLink Y.1.cls idx Lib.MathLoose.max_long.x ∈ zTB) (hdep : 1 ≤ d) (hr : (st.map zw).sum ≤ 8) (ha : zil a) (hb : zil b) (k : zG K d Y (pc + 3) L (zJ (max a b) :: st) mu Q) : zG K d Y pc L (zJ b :: zJ a :: st) mu Q := by
  intro p l e s m args below meth c D cy al C H locs ls hP hS hL
  refine va_mmax_long C.1 C.2.1 (C.2.2.1.trans hL.1.symm) C.2.2.2.2.1 (C.2.2.2.2.2.1 _ (List.mem_cons_of_mem _ hl)) (C.2.2.2.2.2.1 _ (List.mem_cons_of_mem _ zw_maxl_s)) (C.2.2.2.2.2.1 _ (List.mem_cons_of_mem _ zw_math)) (C.2.2.2.2.2.1 _ (List.mem_cons_of_mem _ zw_maxl_c)) hdep ?_ (Nat.le_refl _) (Nat.le_refl _) hd ?_
  · rw [zw_sum]
    show _ ≤ 100 * d
    omega
  · have := k p l e s m args below meth c D cy al C H locs ls hP hS hL
    have e1 : zcv al (zJ (max a b)) = Value.long (if z64 b < z64 a then z64 a else z64 b) := by rw [z64_max ha hb]; rfl
    rw [List.map_cons, e1] at this
    exact this
/-- behind any call -/
theorem zcall {p : Program} {l : Launch} {e : Env} {s : State} {m : MethodId} {args : Array Value} {below : List Frame} {meth : Method} {c : Code} {D : va_G} {cy : Nat → ClassId} {al : Nat → Nat} (C : zCx K Y p s m args meth c D cy al) {H : Heap} {locs : List Loc} {ls : Array Slot} (hS : va_S (zA K al s.heap.size) s.heap H locs) (hL : zok al L Y.2.2.1 ls) {st0 : List Value} {rest : List AV} {a : Array Value}
    (hr : va_Run p l e (zrm d) s m args below meth c H locs 0 0 0 0 (F0 m pc ls st0) (rest.map (zcv al)) (zQ K D cy al H.size (fun v mu' => zG K d Y (pc + 3) L (zps v rest) mu' Q) a) (zA K al H.size)) :
    W p l e (zrm d) s m args below meth c H locs 0 0 (MQ below (zQ K D cy al s.heap.size Q) args s 0 0 (zA K al s.heap.size)) (F0 m pc ls st0) := by
  intro T hT X
  obtain ⟨v, st₀, t, T', L', h0, X', hL', e1, e2, ⟨⟨w, mu', hv, hq, hp⟩, hz, hk⟩, st⟩ := hr T hT X
  have hv : v = zrv al w := by injection hv
  subst hv
  rw [h0] at hz hk
  have hA : ∀ q : Nat, q < H.size → zA K al H.size q → zA K al s.heap.size q := fun q hq h => by
    rcases h with h | h
    · exact Or.inl h
    · omega
  have hA2 : ∀ q : Nat, zA K al H.size q → zA K al s.heap.size q := fun q h => by
    rcases h with h | h
    · exact Or.inl h
    · exact Or.inr (Nat.le_trans hS.1 h)
  have hS' : va_S (zA K al s.heap.size) s.heap T'.heap (locs ++ L') := ⟨Nat.le_trans hS.1 (by rw [e1]; exact hz), fun q h1 h2 => by rw [e1, hk q (Nat.lt_of_lt_of_le h1 hS.1) (fun z => h2 (hA q (Nat.lt_of_lt_of_le h1 hS.1) z))]; exact hS.2.1 q h1 h2, fun q hq => by
      rcases List.mem_append.mp hq with h | h
      · exact hS.2.2 q h
      · exact hA2 _ (hL' q h)⟩
  obtain ⟨t2, a1, b1⟩ := hq p l e s m args below meth c D cy al C T'.heap (locs ++ L') ls (by rw [e1]; exact hp) hS' hL T' rfl X'
  refine ⟨t2, st t2 ?_, b1⟩
  have hg : F0 m (pc + 3) ls ((zps w rest).map (zcv al)) = { F0 m pc ls st0 with pc := (F0 m pc ls st0).pc + 3, stack := (zrv al w).toList ++ rest.map (zcv al) } := by
    unfold zps zrv
    by_cases hw : w.1 = 3
    · rw [if_pos hw, if_pos hw]
      rfl
    · rw [if_neg hw, if_neg hw]
      rfl
  rw [← hg]
  exact a1
theorem zblind {av : List AV} {D : va_G} {cy : Nat → ClassId} {al : Nat → Nat} {sz : Nat} : FrameBlind (va_Pc (av.map (zcv al)) (fun U => U.heap.size = sz ∧ va_P D vwCl (zwl K al cy mu) U.heap ∧ zKK D cy U)) :=
  fun _ U g mk q => ⟨q.1, q.2.1, q.2.2.1, zKK.same (s := U) rfl q.2.2.2⟩
theorem zgin {Y' : MI} (h : Cond.code Y'.1 Y'.2.1 Y'.2.2.1 Y'.2.2.2 ∈ zTB) : GoodIn (zws Y) (zws Y') := by
  have hz : ∀ w ∈ zTB, w ∈ zws Y ∧ ((w.onTables && w.keeps) = true ∨ ∃ ty, w = .arrayClass ty) := fun w hw => ⟨List.mem_cons_of_mem _ hw, good_of_word (List.mem_filter.mp hw).2⟩
  intro w hw
  rcases List.mem_cons.mp hw with rfl | hw
  · exact hz _ h
  · exact hz w hw
theorem g_callV {d' idx n ci : Nat} {Y' : MI} {As rest : List AV} {k : Int} (hd : decode Y.2.1 pc = .ok (.invokevirtual idx, 3)) (hl : Cond.methodLink Y.1.cls idx Y'.1 ∈ zTB) (hm : zMV Y' n) (hdep : d' + 1 ≤ d) (ho : zOb K ci k) (hc : vwCl[ci]?.map (fun q => q.1) = some Y'.1.cls) (hn : As.length = n) (hr : (rest.map zw).sum ≤ 8) (hst : st = As.reverse ++ zR k :: rest)
    (hC : zC K d' Y' (zR k :: As) mu (fun v mu' => zG K d Y (pc + 3) L (zps v rest) mu' Q)) : zG K d Y pc L st mu Q := by
  intro p l e s m args below meth c D cy al C H locs ls hP hS hL
  obtain ⟨m1, m2, m3, m4, m5, m6, m7⟩ := hm
  have hw : ∀ w ∈ zTB, w.before args s = true := fun w h => C.2.2.2.2.2.1 w (List.mem_cons_of_mem _ h)
  cases hcl : vwCl[ci]? with
  | none => rw [hcl] at hc; cases hc
  | some q =>
    rw [hcl] at hc
    have hc : q.1 = Y'.1.cls := Option.some.inj hc
    have hrv := va_recv C.2.2.2.2.2.2.2.1.1 hP hcl (ho.cell (al := al) (cy := cy) (mu := mu))
    rw [hc] at hrv
    refine zcall C hS hL (rest := rest) (a := (Value.ref (al k.toNat) :: As.map (zcv al)).toArray) (va_runV (As := As.map (zcv al)) (rest := rest.map (zcv al)) (b := al k.toNat) ⟨C.1, C.2.1, C.2.2.1, C.2.2.2.2.1, C.2.2.2.2.2.1⟩ (hC l D cy al H.size C.2.2.2.2.2.2.2.2) ⟨callB_of n C.2.2.2.2.2.1 (zgin m4) rfl rfl rfl (hw _ m3) (hw _ hl) m5 ⟨hdep, ?_⟩, hw _ m1, hw _ m2⟩ ⟨zblind, hrv, fun U hU hW => ⟨rfl, by rw [hU], by rw [hU]; exact hP, C.2.2.2.2.2.2.2.1.warm hW⟩⟩ rfl (by rw [List.length_map]; exact hn) hL.1 ?_ (lv_room (by rw [zw_sum]; exact hr)) hd ⟨Nat.le_refl _, Nat.le_refl _⟩)
    · show 8 + (Y'.2.2.1 + 11) + 100 * d' ≤ 100 * d
      omega
    · show st.map (zcv al) = _
      rw [hst, List.map_append, List.map_reverse]
      rfl
theorem g_callS {d' idx n : Nat} {Y' : MI} {As rest : List AV} (hd : decode Y.2.1 pc = .ok (.invokestatic idx, 3)) (hl : Cond.methodLink Y.1.cls idx Y'.1 ∈ zTB) (hm : zMS Y' n) (hdep : d' + 1 ≤ d) (hn : As.length = n) (hr : (rest.map zw).sum ≤ 8) (hst : st = As.reverse ++ rest)
    (hC : zC K d' Y' As mu (fun v mu' => zG K d Y (pc + 3) L (zps v rest) mu' Q)) : zG K d Y pc L st mu Q := by
  intro p l e s m args below meth c D cy al C H locs ls hP hS hL
  obtain ⟨m1, m3, m4, m5, m6, m7⟩ := hm
  have hw : ∀ w ∈ zTB, w.before args s = true := fun w h => C.2.2.2.2.2.1 w (List.mem_cons_of_mem _ h)
  refine zcall C hS hL (rest := rest) (a := (As.map (zcv al)).toArray) (va_runS (As := As.map (zcv al)) (rest := rest.map (zcv al)) ⟨C.1, C.2.1, C.2.2.1, C.2.2.2.2.1, C.2.2.2.2.2.1⟩ (hC l D cy al H.size C.2.2.2.2.2.2.2.2) ⟨callB_of n C.2.2.2.2.2.1 (zgin m4) rfl rfl rfl (hw _ m3) (hw _ hl) m5 ⟨hdep, ?_⟩, hw _ m1⟩ ⟨zblind, fun U hU hW => ⟨rfl, by rw [hU], by rw [hU]; exact hP, C.2.2.2.2.2.2.2.1.warm hW⟩⟩ rfl (by rw [List.length_map]; exact hn) hL.1 ?_ (lv_room (by rw [zw_sum]; exact hr)) hd ⟨Nat.le_refl _, Nat.le_refl _⟩)
  · show 8 + (Y'.2.2.1 + 11) + 100 * d' ≤ 100 * d
    omega
  · show st.map (zcv al) = _
    rw [hst, List.map_append, List.map_reverse]
/-- a static method of a nest mate -/
theorem g_callN {d' idx n : Nat} {Y' : MI} {host : String} {As rest : List AV} (hd : decode Y.2.1 pc = .ok (.invokestatic idx, 3)) (hl : (Y.1.cls, idx, Y'.1, host) ∈ zNW) (hm : zMS Y' n) (hdep : d' + 1 ≤ d) (hn : As.length = n) (hr : (rest.map zw).sum ≤ 8) (hst : st = As.reverse ++ rest)
    (hC : zC K d' Y' As mu (fun v mu' => zG K d Y (pc + 3) L (zps v rest) mu' Q)) : zG K d Y pc L st mu Q := by
  intro p l e s m args below meth c D cy al C H locs ls hP hS hL
  obtain ⟨m1, m3, m4, m5, m6, m7⟩ := hm
  have hw : ∀ w ∈ zTB, w.before args s = true := fun w h => C.2.2.2.2.2.1 w (List.mem_cons_of_mem _ h)
  have hN := C.2.2.2.2.2.2.2.1.2 _ hl
  refine zcall C hS hL (rest := rest) (a := (As.map (zcv al)).toArray) (va_runSN (As := As.map (zcv al)) (rest := rest.map (zcv al)) ⟨C.1, C.2.1, C.2.2.1, C.2.2.2.2.1, C.2.2.2.2.2.1⟩ (hC l D cy al H.size C.2.2.2.2.2.2.2.2) ⟨va_cnB n C.2.2.2.2.2.1 (zgin m4) rfl rfl rfl hN (hw _ m3) m5 ⟨hdep, ?_⟩, hw _ m1, trivial⟩ ⟨zblind, fun U hU hW => ⟨rfl, by rw [hU], by rw [hU]; exact hP, C.2.2.2.2.2.2.2.1.warm hW⟩⟩ rfl (by rw [List.length_map]; exact hn) hL.1 ?_ (lv_room (by rw [zw_sum]; exact hr)) hd ⟨Nat.le_refl _, Nat.le_refl _⟩)
  · show 8 + (Y'.2.2.1 + 11) + 100 * d' ≤ 100 * d
    omega
  · show st.map (zcv al) = _
    rw [hst, List.map_append, List.map_reverse]
/-- the locals at the entry -/
def zea (av : List AV) : List AV := av.flatMap (fun v => if v.1 = 1 then [v, zU] else [v])
def zen (av : List AV) (n : Nat) : List AV := zea av ++ List.replicate (n - (zea av).length) zU
theorem zea_len (al : Nat → Nat) (av : List AV) : (lg_sl (av.map (zcv al))).length = (zea av).length := by
  induction av with
  | nil => rfl
  | cons v av ih =>
    simp only [lg_sl, zea, List.map_cons, List.flatMap_cons, List.length_append] at ih ⊢
    rw [ih, zcat]
    by_cases h : v.1 = 1 <;> simp [h]
theorem zea_at (al : Nat → Nat) : ∀ (av : List AV) (i0 i : Nat) (v : AV), (zea av)[i]? = some v → v.1 < 3 → (i0 + i, zcv al v) ∈ lv_args i0 (av.map (zcv al))
  | [], _, _, _, h, _ => by simp [zea] at h
  | w :: av, i0, i, v, h, hv => by
    have ih := zea_at al av
    simp only [List.map_cons, lv_args, zcat]
    by_cases hw : w.1 = 1
    · have hz : zea (w :: av) = w :: zU :: zea av := by simp [zea, hw]
      rw [hz] at h
      match i, h with
      | 0, h => cases h; exact List.mem_cons.mpr (Or.inl rfl)
      | 1, h => cases h; exact absurd hv (by decide)
      | i + 2, h =>
        have := ih (i0 + 2) i v h hv
        simp only [hw, if_true]
        exact List.mem_cons.mpr (Or.inr (by rw [show i0 + (i + 2) = i0 + 2 + i by omega]; simpa using this))
    · have hz : zea (w :: av) = w :: zea av := by simp [zea, hw]
      rw [hz] at h
      match i, h with
      | 0, h => cases h; exact List.mem_cons.mpr (Or.inl rfl)
      | i + 1, h =>
        have := ih (i0 + 1) i v h hv
        simp only [hw, if_false]
        exact List.mem_cons.mpr (Or.inr (by rw [show i0 + (i + 1) = i0 + 1 + i by omega]; simpa using this))
theorem zC_of {av : List AV} (hy : plainName Y.1.cls = true) (hl : (zea av).length ≤ Y.2.2.1) (hL : zen av Y.2.2.1 = L) (k : zG K d Y 0 L [] mu Q) : zC K d Y av mu Q := by
  intro l D cy al sz hinj
  refine Met.ofW (cc := Y.2.1) (maxL := Y.2.2.1) (ret := Y.2.2.2) hy rfl ?_
  intro p e s m args below meth c s₁ B hml hv
  obtain ⟨rfl, hsz, hP, hK⟩ := hv
  subst hsz
  have C : zCx K Y p s m (av.map (zcv al)).toArray meth c D cy al := ⟨B.exec, B.bytes, hml, B.returns, findClass_of_methodNamed B.named, atoms_spec (ws := zws Y) B.pre, B.notSynchronized, hK, hinj⟩
  have hl' : (lg_sl (av.map (zcv al))).length ≤ Y.2.2.1 := by rw [zea_len]; exact hl
  have h := lv_entry (av.map (zcv al)) hl'
  rw [lg_entry_eq]
  refine k p l e s m _ below meth c D cy al C s.heap [] _ hP va_S.rf ⟨h.1, h.2.1, fun i v hi hv => ?_⟩
  rw [← hL] at hi
  unfold zen at hi
  by_cases hlt : i < (zea av).length
  · rw [List.getElem?_append_left hlt] at hi
    have := zea_at al av 0 i v hi hv
    rw [Nat.zero_add] at this
    exact h.2.2 _ this
  · rw [List.getElem?_append_right (by omega)] at hi
    have := List.eq_of_mem_replicate (List.mem_of_getElem? hi)
    subst this
    exact absurd hv (by decide)
theorem zC_mono {av : List AV} {Q' : AV → Mem → Prop} (h : zC K d Y av mu Q) (hq : ∀ v nu, Q v nu → Q' v nu) : zC K d Y av mu Q' := fun l D cy al sz hi =>
  Jvm.Free.MetFree.mono (h l D cy al sz hi) (fun _ _ h => h) (fun _ _ _ _ _ h => h) (fun a s o s' _ hh => ⟨⟨(by
    obtain ⟨v, nu, e1, e2, e3⟩ := hh.1.1
    exact ⟨v, nu, e1, hq v nu e2, e3⟩), hh.1.2⟩, hh.2⟩)
theorem zC_i {av : List AV} {rest : List AV} {Y' : MI} {d' : Nat} {Q' : Int → Mem → Prop} (h : zC K d' Y' av mu (fun v nu => ∃ r, v = zI r ∧ Q' r nu)) (k : ∀ r nu, Q' r nu → zG K d Y (pc + 3) L (zI r :: rest) nu Q) : zC K d' Y' av mu (fun v nu => zG K d Y (pc + 3) L (zps v rest) nu Q) :=
  zC_mono h (fun v nu ⟨r, hr, q⟩ => by subst hr; exact k r nu q)
theorem zC_j {av : List AV} {rest : List AV} {Y' : MI} {d' : Nat} {Q' : Int → Mem → Prop} (h : zC K d' Y' av mu (fun v nu => ∃ r, v = zJ r ∧ Q' r nu)) (k : ∀ r nu, Q' r nu → zG K d Y (pc + 3) L (zJ r :: rest) nu Q) : zC K d' Y' av mu (fun v nu => zG K d Y (pc + 3) L (zps v rest) nu Q) :=
  zC_mono h (fun v nu ⟨r, hr, q⟩ => by subst hr; exact k r nu q)
theorem zC_v {av : List AV} {rest : List AV} {Y' : MI} {d' : Nat} {Q' : Mem → Prop} (h : zC K d' Y' av mu (fun v nu => v = zV ∧ Q' nu)) (k : ∀ nu, Q' nu → zG K d Y (pc + 3) L rest nu Q) : zC K d' Y' av mu (fun v nu => zG K d Y (pc + 3) L (zps v rest) nu Q) :=
  zC_mono h (fun v nu ⟨hr, q⟩ => by subst hr; exact k nu q)
end ZC
end
