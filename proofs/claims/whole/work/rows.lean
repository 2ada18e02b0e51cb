section
-- ===== PART A: goes FIRST, ahead of the names: the tables' words, and 'selects' of the private methods out of them =====
/-- a private method of a class that the tables say can be made, by its rows of tables_1 -/
def lw_okq (q : MethodName × Nat) : Prop := (q.1.cls ≠ "java/lang/invoke/MethodHandle" ∧ q.1.cls ≠ "java/lang/invoke/VarHandle") ∧ Cond.instantiable q.1.cls q.2 ∈ tables_1 ∧ Cond.privateMethod q.1 ∈ tables_1 ∧ Cond.instanceMethod q.1 ∈ tables_1
theorem lw_p0 : lw_okq (⟨"FoldedWays$Page", "fits", "(I)Z"⟩, 2) := ⟨⟨by decide +kernel, by decide +kernel⟩, List.mem_of_getElem? (i := 20) (by decide +kernel), List.mem_of_getElem? (i := 195) (by decide +kernel), List.mem_of_getElem? (i := 196) (by decide +kernel)⟩
theorem lw_p1 : lw_okq (⟨"FoldedWays$Page", "isNodeAt", "(I)Z"⟩, 2) := ⟨⟨by decide +kernel, by decide +kernel⟩, List.mem_of_getElem? (i := 20) (by decide +kernel), List.mem_of_getElem? (i := 207) (by decide +kernel), List.mem_of_getElem? (i := 208) (by decide +kernel)⟩
theorem lw_p2 : lw_okq (⟨"FoldedWays$Page", "endsNewPair", "(I)Z"⟩, 2) := ⟨⟨by decide +kernel, by decide +kernel⟩, List.mem_of_getElem? (i := 20) (by decide +kernel), List.mem_of_getElem? (i := 211) (by decide +kernel), List.mem_of_getElem? (i := 212) (by decide +kernel)⟩
theorem lw_p3 : lw_okq (⟨"FoldedWays$Graph", "forget", "()V"⟩, 8) := ⟨⟨by decide +kernel, by decide +kernel⟩, List.mem_of_getElem? (i := 34) (by decide +kernel), List.mem_of_getElem? (i := 236) (by decide +kernel), List.mem_of_getElem? (i := 237) (by decide +kernel)⟩
theorem lw_p4 : lw_okq (⟨"FoldedWays$Graph", "addLink", "(II)V"⟩, 8) := ⟨⟨by decide +kernel, by decide +kernel⟩, List.mem_of_getElem? (i := 34) (by decide +kernel), List.mem_of_getElem? (i := 253) (by decide +kernel), List.mem_of_getElem? (i := 254) (by decide +kernel)⟩
theorem lw_p5 : lw_okq (⟨"FoldedWays$Graph", "findWays", "(I)V"⟩, 8) := ⟨⟨by decide +kernel, by decide +kernel⟩, List.mem_of_getElem? (i := 34) (by decide +kernel), List.mem_of_getElem? (i := 261) (by decide +kernel), List.mem_of_getElem? (i := 262) (by decide +kernel)⟩
theorem lw_p6 : lw_okq (⟨"FoldedWays$Graph", "findWay", "(III)V"⟩, 8) := ⟨⟨by decide +kernel, by decide +kernel⟩, List.mem_of_getElem? (i := 34) (by decide +kernel), List.mem_of_getElem? (i := 265) (by decide +kernel), List.mem_of_getElem? (i := 266) (by decide +kernel)⟩
theorem lw_p7 : lw_okq (⟨"FoldedWays$Marks", "drawMark", "()J"⟩, 5) := ⟨⟨by decide +kernel, by decide +kernel⟩, List.mem_of_getElem? (i := 65) (by decide +kernel), List.mem_of_getElem? (i := 281) (by decide +kernel), List.mem_of_getElem? (i := 282) (by decide +kernel)⟩
theorem lw_p8 : lw_okq (⟨"FoldedWays$Marks", "drawBit", "()I"⟩, 5) := ⟨⟨by decide +kernel, by decide +kernel⟩, List.mem_of_getElem? (i := 65) (by decide +kernel), List.mem_of_getElem? (i := 285) (by decide +kernel), List.mem_of_getElem? (i := 286) (by decide +kernel)⟩
theorem lw_p9 : lw_okq (⟨"FoldedWays", "foldedBits", "(IIZ)J"⟩, 10) := ⟨⟨by decide +kernel, by decide +kernel⟩, List.mem_of_getElem? (i := 12) (by decide +kernel), List.mem_of_getElem? (i := 412) (by decide +kernel), List.mem_of_getElem? (i := 413) (by decide +kernel)⟩
theorem lw_p10 : lw_okq (⟨"FoldedWays", "spreadOut", "(IIIZ)V"⟩, 10) := ⟨⟨by decide +kernel, by decide +kernel⟩, List.mem_of_getElem? (i := 12) (by decide +kernel), List.mem_of_getElem? (i := 420) (by decide +kernel), List.mem_of_getElem? (i := 421) (by decide +kernel)⟩
theorem lw_p11 : lw_okq (⟨"FoldedWays", "matchingLinks", "(JI)I"⟩, 10) := ⟨⟨by decide +kernel, by decide +kernel⟩, List.mem_of_getElem? (i := 12) (by decide +kernel), List.mem_of_getElem? (i := 424) (by decide +kernel), List.mem_of_getElem? (i := 425) (by decide +kernel)⟩
theorem lw_p12 : lw_okq (⟨"FoldedWays$Flow", "sendOn", "(LFoldedWays$Graph;III)I"⟩, 7) := ⟨⟨by decide +kernel, by decide +kernel⟩, List.mem_of_getElem? (i := 98) (by decide +kernel), List.mem_of_getElem? (i := 434) (by decide +kernel), List.mem_of_getElem? (i := 435) (by decide +kernel)⟩
theorem lw_p13 : lw_okq (⟨"FoldedWays", "spreadFact", "(I)I"⟩, 10) := ⟨⟨by decide +kernel, by decide +kernel⟩, List.mem_of_getElem? (i := 12) (by decide +kernel), List.mem_of_getElem? (i := 447) (by decide +kernel), List.mem_of_getElem? (i := 448) (by decide +kernel)⟩
theorem lw_p14 : lw_okq (⟨"FoldedWays$Marks", "reduced", "(II)I"⟩, 5) := ⟨⟨by decide +kernel, by decide +kernel⟩, List.mem_of_getElem? (i := 65) (by decide +kernel), List.mem_of_getElem? (i := 455) (by decide +kernel), List.mem_of_getElem? (i := 456) (by decide +kernel)⟩
theorem lw_p15 : lw_okq (⟨"FoldedWays$Marks", "power", "(I)I"⟩, 5) := ⟨⟨by decide +kernel, by decide +kernel⟩, List.mem_of_getElem? (i := 65) (by decide +kernel), List.mem_of_getElem? (i := 459) (by decide +kernel), List.mem_of_getElem? (i := 460) (by decide +kernel)⟩
def lw_privs_1 : List (MethodName × Nat) := [(⟨"FoldedWays$Page", "fits", "(I)Z"⟩, 2), (⟨"FoldedWays$Page", "isNodeAt", "(I)Z"⟩, 2), (⟨"FoldedWays$Page", "endsNewPair", "(I)Z"⟩, 2), (⟨"FoldedWays$Graph", "forget", "()V"⟩, 8), (⟨"FoldedWays$Graph", "addLink", "(II)V"⟩, 8), (⟨"FoldedWays$Graph", "findWays", "(I)V"⟩, 8), (⟨"FoldedWays$Graph", "findWay", "(III)V"⟩, 8), (⟨"FoldedWays$Marks", "drawMark", "()J"⟩, 5), (⟨"FoldedWays$Marks", "drawBit", "()I"⟩, 5), (⟨"FoldedWays", "foldedBits", "(IIZ)J"⟩, 10), (⟨"FoldedWays", "spreadOut", "(IIIZ)V"⟩, 10), (⟨"FoldedWays", "matchingLinks", "(JI)I"⟩, 10), (⟨"FoldedWays$Flow", "sendOn", "(LFoldedWays$Graph;III)I"⟩, 7), (⟨"FoldedWays", "spreadFact", "(I)I"⟩, 10), (⟨"FoldedWays$Marks", "reduced", "(II)I"⟩, 5), (⟨"FoldedWays$Marks", "power", "(I)I"⟩, 5)]
theorem lw_r1 : ∀ q ∈ lw_privs_1, lw_okq q := List.forall_mem_cons.mpr ⟨lw_p0, List.forall_mem_cons.mpr ⟨lw_p1, List.forall_mem_cons.mpr ⟨lw_p2, List.forall_mem_cons.mpr ⟨lw_p3, List.forall_mem_cons.mpr ⟨lw_p4, List.forall_mem_cons.mpr ⟨lw_p5, List.forall_mem_cons.mpr ⟨lw_p6, List.forall_mem_cons.mpr ⟨lw_p7, List.forall_mem_cons.mpr ⟨lw_p8, List.forall_mem_cons.mpr ⟨lw_p9, List.forall_mem_cons.mpr ⟨lw_p10, List.forall_mem_cons.mpr ⟨lw_p11, List.forall_mem_cons.mpr ⟨lw_p12, List.forall_mem_cons.mpr ⟨lw_p13, List.forall_mem_cons.mpr ⟨lw_p14, List.forall_mem_cons.mpr ⟨lw_p15, fun _ h => absurd h List.not_mem_nil⟩⟩⟩⟩⟩⟩⟩⟩⟩⟩⟩⟩⟩⟩⟩⟩
theorem lw_p16 : lw_okq (⟨"FoldedWays", "bestVariant", "(IIZ)I"⟩, 10) := ⟨⟨by decide +kernel, by decide +kernel⟩, List.mem_of_getElem? (i := 12) (by decide +kernel), List.mem_of_getElem? (i := 471) (by decide +kernel), List.mem_of_getElem? (i := 472) (by decide +kernel)⟩
theorem lw_p17 : lw_okq (⟨"FoldedWays", "withLinks", "(J)J"⟩, 10) := ⟨⟨by decide +kernel, by decide +kernel⟩, List.mem_of_getElem? (i := 12) (by decide +kernel), List.mem_of_getElem? (i := 497) (by decide +kernel), List.mem_of_getElem? (i := 498) (by decide +kernel)⟩
theorem lw_p18 : lw_okq (⟨"FoldedWays", "withBundles", "(J)J"⟩, 10) := ⟨⟨by decide +kernel, by decide +kernel⟩, List.mem_of_getElem? (i := 12) (by decide +kernel), List.mem_of_getElem? (i := 505) (by decide +kernel), List.mem_of_getElem? (i := 506) (by decide +kernel)⟩
theorem lw_p19 : lw_okq (⟨"FoldedWays", "withNodes", "(J)J"⟩, 10) := ⟨⟨by decide +kernel, by decide +kernel⟩, List.mem_of_getElem? (i := 12) (by decide +kernel), List.mem_of_getElem? (i := 509) (by decide +kernel), List.mem_of_getElem? (i := 510) (by decide +kernel)⟩
theorem lw_p20 : lw_okq (⟨"FoldedWays", "withPage", "(J)J"⟩, 10) := ⟨⟨by decide +kernel, by decide +kernel⟩, List.mem_of_getElem? (i := 12) (by decide +kernel), List.mem_of_getElem? (i := 514) (by decide +kernel), List.mem_of_getElem? (i := 515) (by decide +kernel)⟩
theorem lw_p21 : lw_okq (⟨"FoldedWays", "withCounts", "(J)J"⟩, 10) := ⟨⟨by decide +kernel, by decide +kernel⟩, List.mem_of_getElem? (i := 12) (by decide +kernel), List.mem_of_getElem? (i := 519) (by decide +kernel), List.mem_of_getElem? (i := 520) (by decide +kernel)⟩
theorem lw_p22 : lw_okq (⟨"FoldedWaysModel", "goAlong", "()I"⟩, 34) := ⟨⟨by decide +kernel, by decide +kernel⟩, List.mem_of_getElem? (i := 524) (by decide +kernel), List.mem_of_getElem? (i := 648) (by decide +kernel), List.mem_of_getElem? (i := 649) (by decide +kernel)⟩
theorem lw_p23 : lw_okq (⟨"FoldedWaysModel", "takes", "(I)Z"⟩, 34) := ⟨⟨by decide +kernel, by decide +kernel⟩, List.mem_of_getElem? (i := 524) (by decide +kernel), List.mem_of_getElem? (i := 652) (by decide +kernel), List.mem_of_getElem? (i := 653) (by decide +kernel)⟩
theorem lw_p24 : lw_okq (⟨"FoldedWaysModel", "takesNode", "(I)Z"⟩, 34) := ⟨⟨by decide +kernel, by decide +kernel⟩, List.mem_of_getElem? (i := 524) (by decide +kernel), List.mem_of_getElem? (i := 656) (by decide +kernel), List.mem_of_getElem? (i := 657) (by decide +kernel)⟩
theorem lw_p25 : lw_okq (⟨"FoldedWaysModel", "isTold", "(II)Z"⟩, 34) := ⟨⟨by decide +kernel, by decide +kernel⟩, List.mem_of_getElem? (i := 524) (by decide +kernel), List.mem_of_getElem? (i := 660) (by decide +kernel), List.mem_of_getElem? (i := 661) (by decide +kernel)⟩
theorem lw_p26 : lw_okq (⟨"FoldedWaysModel", "layMarks", "()V"⟩, 34) := ⟨⟨by decide +kernel, by decide +kernel⟩, List.mem_of_getElem? (i := 524) (by decide +kernel), List.mem_of_getElem? (i := 668) (by decide +kernel), List.mem_of_getElem? (i := 669) (by decide +kernel)⟩
theorem lw_p27 : lw_okq (⟨"FoldedWaysModel", "draw", "(I)I"⟩, 34) := ⟨⟨by decide +kernel, by decide +kernel⟩, List.mem_of_getElem? (i := 524) (by decide +kernel), List.mem_of_getElem? (i := 672) (by decide +kernel), List.mem_of_getElem? (i := 673) (by decide +kernel)⟩
theorem lw_p28 : lw_okq (⟨"FoldedWaysModel", "isLink", "(I)Z"⟩, 34) := ⟨⟨by decide +kernel, by decide +kernel⟩, List.mem_of_getElem? (i := 524) (by decide +kernel), List.mem_of_getElem? (i := 688) (by decide +kernel), List.mem_of_getElem? (i := 689) (by decide +kernel)⟩
theorem lw_p29 : lw_okq (⟨"FoldedWaysModel", "linkNow", "(II)I"⟩, 34) := ⟨⟨by decide +kernel, by decide +kernel⟩, List.mem_of_getElem? (i := 524) (by decide +kernel), List.mem_of_getElem? (i := 701) (by decide +kernel), List.mem_of_getElem? (i := 702) (by decide +kernel)⟩
theorem lw_p30 : lw_okq (⟨"FoldedWaysModel", "bundlesOf", "(I)I"⟩, 34) := ⟨⟨by decide +kernel, by decide +kernel⟩, List.mem_of_getElem? (i := 524) (by decide +kernel), List.mem_of_getElem? (i := 705) (by decide +kernel), List.mem_of_getElem? (i := 706) (by decide +kernel)⟩
theorem lw_p31 : lw_okq (⟨"FoldedWaysModel", "isNode", "(I)Z"⟩, 34) := ⟨⟨by decide +kernel, by decide +kernel⟩, List.mem_of_getElem? (i := 524) (by decide +kernel), List.mem_of_getElem? (i := 716) (by decide +kernel), List.mem_of_getElem? (i := 717) (by decide +kernel)⟩
def lw_privs_2 : List (MethodName × Nat) := [(⟨"FoldedWays", "bestVariant", "(IIZ)I"⟩, 10), (⟨"FoldedWays", "withLinks", "(J)J"⟩, 10), (⟨"FoldedWays", "withBundles", "(J)J"⟩, 10), (⟨"FoldedWays", "withNodes", "(J)J"⟩, 10), (⟨"FoldedWays", "withPage", "(J)J"⟩, 10), (⟨"FoldedWays", "withCounts", "(J)J"⟩, 10), (⟨"FoldedWaysModel", "goAlong", "()I"⟩, 34), (⟨"FoldedWaysModel", "takes", "(I)Z"⟩, 34), (⟨"FoldedWaysModel", "takesNode", "(I)Z"⟩, 34), (⟨"FoldedWaysModel", "isTold", "(II)Z"⟩, 34), (⟨"FoldedWaysModel", "layMarks", "()V"⟩, 34), (⟨"FoldedWaysModel", "draw", "(I)I"⟩, 34), (⟨"FoldedWaysModel", "isLink", "(I)Z"⟩, 34), (⟨"FoldedWaysModel", "linkNow", "(II)I"⟩, 34), (⟨"FoldedWaysModel", "bundlesOf", "(I)I"⟩, 34), (⟨"FoldedWaysModel", "isNode", "(I)Z"⟩, 34)]
theorem lw_r2 : ∀ q ∈ lw_privs_2, lw_okq q := List.forall_mem_cons.mpr ⟨lw_p16, List.forall_mem_cons.mpr ⟨lw_p17, List.forall_mem_cons.mpr ⟨lw_p18, List.forall_mem_cons.mpr ⟨lw_p19, List.forall_mem_cons.mpr ⟨lw_p20, List.forall_mem_cons.mpr ⟨lw_p21, List.forall_mem_cons.mpr ⟨lw_p22, List.forall_mem_cons.mpr ⟨lw_p23, List.forall_mem_cons.mpr ⟨lw_p24, List.forall_mem_cons.mpr ⟨lw_p25, List.forall_mem_cons.mpr ⟨lw_p26, List.forall_mem_cons.mpr ⟨lw_p27, List.forall_mem_cons.mpr ⟨lw_p28, List.forall_mem_cons.mpr ⟨lw_p29, List.forall_mem_cons.mpr ⟨lw_p30, List.forall_mem_cons.mpr ⟨lw_p31, fun _ h => absurd h List.not_mem_nil⟩⟩⟩⟩⟩⟩⟩⟩⟩⟩⟩⟩⟩⟩⟩⟩
theorem lw_p32 : lw_okq (⟨"FoldedWaysModel", "layWay", "(II)V"⟩, 34) := ⟨⟨by decide +kernel, by decide +kernel⟩, List.mem_of_getElem? (i := 524) (by decide +kernel), List.mem_of_getElem? (i := 720) (by decide +kernel), List.mem_of_getElem? (i := 721) (by decide +kernel)⟩
theorem lw_p33 : lw_okq (⟨"FoldedWaysModel", "layLeft", "(I)V"⟩, 34) := ⟨⟨by decide +kernel, by decide +kernel⟩, List.mem_of_getElem? (i := 524) (by decide +kernel), List.mem_of_getElem? (i := 724) (by decide +kernel), List.mem_of_getElem? (i := 725) (by decide +kernel)⟩
theorem lw_p34 : lw_okq (⟨"FoldedWaysModel", "nextNode", "(I)I"⟩, 34) := ⟨⟨by decide +kernel, by decide +kernel⟩, List.mem_of_getElem? (i := 524) (by decide +kernel), List.mem_of_getElem? (i := 728) (by decide +kernel), List.mem_of_getElem? (i := 729) (by decide +kernel)⟩
theorem lw_p35 : lw_okq (⟨"FoldedWaysModel", "isSet", "(I)Z"⟩, 34) := ⟨⟨by decide +kernel, by decide +kernel⟩, List.mem_of_getElem? (i := 524) (by decide +kernel), List.mem_of_getElem? (i := 736) (by decide +kernel), List.mem_of_getElem? (i := 737) (by decide +kernel)⟩
theorem lw_p36 : lw_okq (⟨"FoldedWaysModel", "treeOf", "(II)I"⟩, 34) := ⟨⟨by decide +kernel, by decide +kernel⟩, List.mem_of_getElem? (i := 524) (by decide +kernel), List.mem_of_getElem? (i := 740) (by decide +kernel), List.mem_of_getElem? (i := 741) (by decide +kernel)⟩
theorem lw_p37 : lw_okq (⟨"FoldedWaysModel", "linkFrom", "(II)I"⟩, 34) := ⟨⟨by decide +kernel, by decide +kernel⟩, List.mem_of_getElem? (i := 524) (by decide +kernel), List.mem_of_getElem? (i := 744) (by decide +kernel), List.mem_of_getElem? (i := 745) (by decide +kernel)⟩
theorem lw_p38 : lw_okq (⟨"FoldedWaysModel", "foldOf", "(IIZ)J"⟩, 34) := ⟨⟨by decide +kernel, by decide +kernel⟩, List.mem_of_getElem? (i := 524) (by decide +kernel), List.mem_of_getElem? (i := 770) (by decide +kernel), List.mem_of_getElem? (i := 771) (by decide +kernel)⟩
theorem lw_p39 : lw_okq (⟨"FoldedWaysModel", "laySpread", "(IIIZ)V"⟩, 34) := ⟨⟨by decide +kernel, by decide +kernel⟩, List.mem_of_getElem? (i := 524) (by decide +kernel), List.mem_of_getElem? (i := 778) (by decide +kernel), List.mem_of_getElem? (i := 779) (by decide +kernel)⟩
theorem lw_p40 : lw_okq (⟨"FoldedWaysModel", "matches", "(IJI)Z"⟩, 34) := ⟨⟨by decide +kernel, by decide +kernel⟩, List.mem_of_getElem? (i := 524) (by decide +kernel), List.mem_of_getElem? (i := 782) (by decide +kernel), List.mem_of_getElem? (i := 783) (by decide +kernel)⟩
theorem lw_p41 : lw_okq (⟨"FoldedWaysModel", "goStep", "(III)I"⟩, 34) := ⟨⟨by decide +kernel, by decide +kernel⟩, List.mem_of_getElem? (i := 524) (by decide +kernel), List.mem_of_getElem? (i := 787) (by decide +kernel), List.mem_of_getElem? (i := 788) (by decide +kernel)⟩
theorem lw_p42 : lw_okq (⟨"FoldedWaysModel", "spreadNow", "(I)I"⟩, 34) := ⟨⟨by decide +kernel, by decide +kernel⟩, List.mem_of_getElem? (i := 524) (by decide +kernel), List.mem_of_getElem? (i := 791) (by decide +kernel), List.mem_of_getElem? (i := 792) (by decide +kernel)⟩
theorem lw_p43 : lw_okq (⟨"FoldedWaysModel", "odds", "(I)I"⟩, 34) := ⟨⟨by decide +kernel, by decide +kernel⟩, List.mem_of_getElem? (i := 524) (by decide +kernel), List.mem_of_getElem? (i := 795) (by decide +kernel), List.mem_of_getElem? (i := 796) (by decide +kernel)⟩
theorem lw_p44 : lw_okq (⟨"FoldedWaysModel", "bestOf", "(IIZ)I"⟩, 34) := ⟨⟨by decide +kernel, by decide +kernel⟩, List.mem_of_getElem? (i := 524) (by decide +kernel), List.mem_of_getElem? (i := 806) (by decide +kernel), List.mem_of_getElem? (i := 807) (by decide +kernel)⟩
theorem lw_p45 : lw_okq (⟨"FoldedWaysModel", "sendNow", "(IIZ)I"⟩, 34) := ⟨⟨by decide +kernel, by decide +kernel⟩, List.mem_of_getElem? (i := 524) (by decide +kernel), List.mem_of_getElem? (i := 814) (by decide +kernel), List.mem_of_getElem? (i := 815) (by decide +kernel)⟩
theorem lw_p46 : lw_okq (⟨"FoldedWaysModel", "howMany", "(I)I"⟩, 34) := ⟨⟨by decide +kernel, by decide +kernel⟩, List.mem_of_getElem? (i := 524) (by decide +kernel), List.mem_of_getElem? (i := 822) (by decide +kernel), List.mem_of_getElem? (i := 823) (by decide +kernel)⟩
theorem lw_p47 : lw_okq (⟨"FoldedWaysModel", "bundlesMany", "()I"⟩, 34) := ⟨⟨by decide +kernel, by decide +kernel⟩, List.mem_of_getElem? (i := 524) (by decide +kernel), List.mem_of_getElem? (i := 826) (by decide +kernel), List.mem_of_getElem? (i := 827) (by decide +kernel)⟩
def lw_privs_3 : List (MethodName × Nat) := [(⟨"FoldedWaysModel", "layWay", "(II)V"⟩, 34), (⟨"FoldedWaysModel", "layLeft", "(I)V"⟩, 34), (⟨"FoldedWaysModel", "nextNode", "(I)I"⟩, 34), (⟨"FoldedWaysModel", "isSet", "(I)Z"⟩, 34), (⟨"FoldedWaysModel", "treeOf", "(II)I"⟩, 34), (⟨"FoldedWaysModel", "linkFrom", "(II)I"⟩, 34), (⟨"FoldedWaysModel", "foldOf", "(IIZ)J"⟩, 34), (⟨"FoldedWaysModel", "laySpread", "(IIIZ)V"⟩, 34), (⟨"FoldedWaysModel", "matches", "(IJI)Z"⟩, 34), (⟨"FoldedWaysModel", "goStep", "(III)I"⟩, 34), (⟨"FoldedWaysModel", "spreadNow", "(I)I"⟩, 34), (⟨"FoldedWaysModel", "odds", "(I)I"⟩, 34), (⟨"FoldedWaysModel", "bestOf", "(IIZ)I"⟩, 34), (⟨"FoldedWaysModel", "sendNow", "(IIZ)I"⟩, 34), (⟨"FoldedWaysModel", "howMany", "(I)I"⟩, 34), (⟨"FoldedWaysModel", "bundlesMany", "()I"⟩, 34)]
theorem lw_r3 : ∀ q ∈ lw_privs_3, lw_okq q := List.forall_mem_cons.mpr ⟨lw_p32, List.forall_mem_cons.mpr ⟨lw_p33, List.forall_mem_cons.mpr ⟨lw_p34, List.forall_mem_cons.mpr ⟨lw_p35, List.forall_mem_cons.mpr ⟨lw_p36, List.forall_mem_cons.mpr ⟨lw_p37, List.forall_mem_cons.mpr ⟨lw_p38, List.forall_mem_cons.mpr ⟨lw_p39, List.forall_mem_cons.mpr ⟨lw_p40, List.forall_mem_cons.mpr ⟨lw_p41, List.forall_mem_cons.mpr ⟨lw_p42, List.forall_mem_cons.mpr ⟨lw_p43, List.forall_mem_cons.mpr ⟨lw_p44, List.forall_mem_cons.mpr ⟨lw_p45, List.forall_mem_cons.mpr ⟨lw_p46, List.forall_mem_cons.mpr ⟨lw_p47, fun _ h => absurd h List.not_mem_nil⟩⟩⟩⟩⟩⟩⟩⟩⟩⟩⟩⟩⟩⟩⟩⟩
theorem lw_p48 : lw_okq (⟨"FoldedWaysModel", "mix", "(J)V"⟩, 34) := ⟨⟨by decide +kernel, by decide +kernel⟩, List.mem_of_getElem? (i := 524) (by decide +kernel), List.mem_of_getElem? (i := 835) (by decide +kernel), List.mem_of_getElem? (i := 836) (by decide +kernel)⟩
theorem lw_p49 : lw_okq (⟨"FoldedWaysModel", "mixNode", "(I)V"⟩, 34) := ⟨⟨by decide +kernel, by decide +kernel⟩, List.mem_of_getElem? (i := 524) (by decide +kernel), List.mem_of_getElem? (i := 840) (by decide +kernel), List.mem_of_getElem? (i := 841) (by decide +kernel)⟩
def lw_privs_4 : List (MethodName × Nat) := [(⟨"FoldedWaysModel", "mix", "(J)V"⟩, 34), (⟨"FoldedWaysModel", "mixNode", "(I)V"⟩, 34)]
theorem lw_r4 : ∀ q ∈ lw_privs_4, lw_okq q := List.forall_mem_cons.mpr ⟨lw_p48, List.forall_mem_cons.mpr ⟨lw_p49, fun _ h => absurd h List.not_mem_nil⟩⟩
def lw_privs : List (MethodName × Nat) := lw_privs_1 ++ (lw_privs_2 ++ (lw_privs_3 ++ (lw_privs_4)))
def lw_tbl : List Cond := k2_sels lw_privs ++ tables_1
theorem lw_privs_ok : ∀ q ∈ lw_privs, lw_okq q := by
  show ∀ q ∈ lw_privs_1 ++ (lw_privs_2 ++ (lw_privs_3 ++ (lw_privs_4))), lw_okq q
  exact List.forall_mem_append.mpr ⟨lw_r1, List.forall_mem_append.mpr ⟨lw_r2, List.forall_mem_append.mpr ⟨lw_r3, lw_r4⟩⟩⟩
-- ===== end of PART A; then your names; then what follows =====
end
section
/-! ===== BEGIN words of one list among another's, by their places ===== -/
theorem goodIn_r {big : List Cond} (ws : List Cond) (ps : List Nat) (hp : ws = ps.filterMap (fun i => big[i]?)) (h : ws.all goodWord = true) : GoodIn big ws := by
  intro w hw
  have h1 := List.all_eq_true.mp h w hw
  rw [hp] at hw
  obtain ⟨i, -, hi⟩ := List.mem_filterMap.mp hw
  have hm : w ∈ big := by first | exact List.mem_of_getElem? hi | exact List.getElem?_mem hi
  exact ⟨hm, good_of_word h1⟩
theorem goodIn_app {big a b : List Cond} (ha : GoodIn big a) (hb : GoodIn big b) : GoodIn big (a ++ b) := fun w h => (List.mem_append.mp h).elim (ha w) (hb w)
theorem goodIn_ca {big a b : List Cond} {c : Cond} (ha : GoodIn big (c :: a)) (hb : GoodIn big b) : GoodIn big (c :: (a ++ b)) := fun w h => (List.mem_cons.mp h).elim (fun e => ha w (List.mem_cons.mpr (Or.inl e))) (fun h => (List.mem_append.mp h).elim (fun h => ha w (List.mem_cons.mpr (Or.inr h))) (hb w))
theorem goodIn_sub {big ws : List Cond} (hm : ∀ w ∈ ws, w ∈ big) (h : ws.all goodWord = true) : GoodIn big ws := fun w hw => ⟨hm w hw, good_of_word (List.all_eq_true.mp h w hw)⟩
/-! ===== END ===== -/

/-! ===== BEGIN printed: names, fields, word lists, decode rows ===== -/
def RX0 : String := "FoldedWays$Bundles"
def TX0 : u_T := fun k => match k with
  | _ => ("FoldedWays$Bundles", "links", "[I", true)
def tyX0 : Nat → FieldType := fun k => match k with
  | _ => .array .int
abbrev wsX00 : List Cond := u_ws RX0 TX0 1
theorem nmX0 : ∀ a, a < 1 → ∀ b, b < 1 → a ≠ b → (TX0 a).2.1 ≠ (TX0 b).2.1 := by decide +kernel
theorem tyX0_ok : ∀ k, k < 1 → parseFieldDescriptor (TX0 k).2.2.1 = some (tyX0 k) := by decide +kernel
abbrev cX0_init : ByteArray := prog_2_method_1_code
def yX0_init : MethodName := ⟨RX0, "<init>", "()V"⟩
abbrev cX0_linksAt : ByteArray := prog_2_method_2_code
def yX0_linksAt : MethodName := ⟨RX0, "linksAt", "(I)I"⟩
abbrev cX0_isThere : ByteArray := prog_2_method_3_code
def yX0_isThere : MethodName := ⟨RX0, "isThere", "(I)Z"⟩
abbrev cX0_put : ByteArray := prog_2_method_4_code
def yX0_put : MethodName := ⟨RX0, "put", "(II)V"⟩
abbrev cX0_clear : ByteArray := prog_2_method_5_code
def yX0_clear : MethodName := ⟨RX0, "clear", "()V"⟩
abbrev cX0_howMany : ByteArray := prog_2_method_6_code
def yX0_howMany : MethodName := ⟨RX0, "howMany", "()I"⟩
abbrev cX0_placesWith : ByteArray := prog_2_method_7_code
def yX0_placesWith : MethodName := ⟨RX0, "placesWith", "(I)I"⟩
def RX1 : String := "FoldedWays$Flow"
def TX1 : u_T := fun k => match k with
  | 0 => ("FoldedWays$Flow", "foldBits", "I", false)
  | 1 => ("FoldedWays$Flow", "passages", "I", false)
  | 2 => ("FoldedWays$Flow", "astray", "I", false)
  | 3 => ("FoldedWays$Flow", "loops", "I", false)
  | 4 => ("FoldedWays$Flow", "steps", "I", false)
  | 5 => ("FoldedWays$Flow", "reached", "I", false)
  | _ => ("FoldedWays$Flow", "matchingAside", "I", false)
def tyX1 : Nat → FieldType := fun k => match k with
  | 0 => .int
  | 1 => .int
  | 2 => .int
  | 3 => .int
  | 4 => .int
  | 5 => .int
  | _ => .int
abbrev wsX10 : List Cond := u_ws RX1 TX1 7
theorem nmX1 : ∀ a, a < 7 → ∀ b, b < 7 → a ≠ b → (TX1 a).2.1 ≠ (TX1 b).2.1 := by decide +kernel
theorem tyX1_ok : ∀ k, k < 7 → parseFieldDescriptor (TX1 k).2.2.1 = some (tyX1 k) := by decide +kernel
abbrev cX1_init : ByteArray := prog_3_method_1_code
def yX1_init : MethodName := ⟨RX1, "<init>", "()V"⟩
abbrev cX1_run : ByteArray := prog_3_method_2_code
def yX1_run : MethodName := ⟨RX1, "run", "(LFoldedWays$Graph;III)V"⟩
abbrev cX1_sendOn : ByteArray := prog_3_method_3_code
def yX1_sendOn : MethodName := ⟨RX1, "sendOn", "(LFoldedWays$Graph;III)I"⟩
def RX2 : String := "FoldedWays$Graph"
def TX2 : u_T := fun k => match k with
  | 0 => ("FoldedWays$Graph", "nodes", "I", false)
  | 1 => ("FoldedWays$Graph", "links", "I", false)
  | 2 => ("FoldedWays$Graph", "start", "[I", true)
  | 3 => ("FoldedWays$Graph", "end", "[I", true)
  | 4 => ("FoldedWays$Graph", "linkBetween", "[I", true)
  | 5 => ("FoldedWays$Graph", "wayLength", "[I", true)
  | 6 => ("FoldedWays$Graph", "wayNext", "[I", true)
  | _ => ("FoldedWays$Graph", "wayLinks", "[I", true)
def tyX2 : Nat → FieldType := fun k => match k with
  | 0 => .int
  | 1 => .int
  | 2 => .array .int
  | 3 => .array .int
  | 4 => .array .int
  | 5 => .array .int
  | 6 => .array .int
  | _ => .array .int
abbrev wsX20 : List Cond := u_ws RX2 TX2 8
theorem nmX2 : ∀ a, a < 8 → ∀ b, b < 8 → a ≠ b → (TX2 a).2.1 ≠ (TX2 b).2.1 := by decide +kernel
theorem tyX2_ok : ∀ k, k < 8 → parseFieldDescriptor (TX2 k).2.2.1 = some (tyX2 k) := by decide +kernel
abbrev cX2_init : ByteArray := prog_4_method_1_code
def yX2_init : MethodName := ⟨RX2, "<init>", "()V"⟩
abbrev cX2_nodeCount : ByteArray := prog_4_method_2_code
def yX2_nodeCount : MethodName := ⟨RX2, "nodeCount", "()I"⟩
abbrev cX2_linkCount : ByteArray := prog_4_method_3_code
def yX2_linkCount : MethodName := ⟨RX2, "linkCount", "()I"⟩
abbrev cX2_hasNode : ByteArray := prog_4_method_4_code
def yX2_hasNode : MethodName := ⟨RX2, "hasNode", "(I)Z"⟩
abbrev cX2_hasLink : ByteArray := prog_4_method_5_code
def yX2_hasLink : MethodName := ⟨RX2, "hasLink", "(I)Z"⟩
abbrev cX2_allNodes : ByteArray := prog_4_method_6_code
def yX2_allNodes : MethodName := ⟨RX2, "allNodes", "()I"⟩
abbrev cX2_hasNodes : ByteArray := prog_4_method_7_code
def yX2_hasNodes : MethodName := ⟨RX2, "hasNodes", "(I)Z"⟩
abbrev cX2_startOf : ByteArray := prog_4_method_8_code
def yX2_startOf : MethodName := ⟨RX2, "startOf", "(I)I"⟩
abbrev cX2_endOf : ByteArray := prog_4_method_9_code
def yX2_endOf : MethodName := ⟨RX2, "endOf", "(I)I"⟩
abbrev cX2_at : ByteArray := prog_4_method_10_code
def yX2_at : MethodName := ⟨RX2, "at", "(II)I"⟩
abbrev cX2_read : ByteArray := prog_4_method_11_code
def yX2_read : MethodName := ⟨RX2, "read", "(LFoldedWays$Page;)V"⟩
abbrev cX2_forget : ByteArray := prog_4_method_12_code
def yX2_forget : MethodName := ⟨RX2, "forget", "()V"⟩
abbrev cX2_addLink : ByteArray := prog_4_method_13_code
def yX2_addLink : MethodName := ⟨RX2, "addLink", "(II)V"⟩
abbrev cX2_findWays : ByteArray := prog_4_method_14_code
def yX2_findWays : MethodName := ⟨RX2, "findWays", "(I)V"⟩
abbrev cX2_findWay : ByteArray := prog_4_method_15_code
def yX2_findWay : MethodName := ⟨RX2, "findWay", "(III)V"⟩
abbrev cX2_nodeOnWay : ByteArray := prog_4_method_16_code
def yX2_nodeOnWay : MethodName := ⟨RX2, "nodeOnWay", "(III)I"⟩
abbrev cX2_treeLinks : ByteArray := prog_4_method_17_code
def yX2_treeLinks : MethodName := ⟨RX2, "treeLinks", "(II)I"⟩
def RX3 : String := "FoldedWays$Marks"
def TX3 : u_T := fun k => match k with
  | 0 => ("FoldedWays$Marks", "width", "I", false)
  | 1 => ("FoldedWays$Marks", "drawn", "I", false)
  | 2 => ("FoldedWays$Marks", "seed", "I", false)
  | 3 => ("FoldedWays$Marks", "nextSeed", "J", false)
  | _ => ("FoldedWays$Marks", "bits", "[J", true)
def tyX3 : Nat → FieldType := fun k => match k with
  | 0 => .int
  | 1 => .int
  | 2 => .int
  | 3 => .long
  | _ => .array .long
abbrev wsX30 : List Cond := u_ws RX3 TX3 5
theorem nmX3 : ∀ a, a < 5 → ∀ b, b < 5 → a ≠ b → (TX3 a).2.1 ≠ (TX3 b).2.1 := by decide +kernel
theorem tyX3_ok : ∀ k, k < 5 → parseFieldDescriptor (TX3 k).2.2.1 = some (tyX3 k) := by decide +kernel
abbrev cX3_init : ByteArray := prog_5_method_1_code
def yX3_init : MethodName := ⟨RX3, "<init>", "()V"⟩
abbrev cX3_allows : ByteArray := prog_5_method_2_code
def yX3_allows : MethodName := ⟨RX3, "allows", "(II)Z"⟩
abbrev cX3_setting : ByteArray := prog_5_method_3_code
def yX3_setting : MethodName := ⟨RX3, "setting", "(I)I"⟩
abbrev cX3_change : ByteArray := prog_5_method_4_code
def yX3_change : MethodName := ⟨RX3, "change", "(II)V"⟩
abbrev cX3_ofLink : ByteArray := prog_5_method_5_code
def yX3_ofLink : MethodName := ⟨RX3, "ofLink", "(II)J"⟩
abbrev cX3_ofBundle : ByteArray := prog_5_method_6_code
def yX3_ofBundle : MethodName := ⟨RX3, "ofBundle", "(II)J"⟩
abbrev cX3_drawAll : ByteArray := prog_5_method_7_code
def yX3_drawAll : MethodName := ⟨RX3, "drawAll", "(I)V"⟩
abbrev cX3_drawMark : ByteArray := prog_5_method_8_code
def yX3_drawMark : MethodName := ⟨RX3, "drawMark", "()J"⟩
abbrev cX3_drawBit : ByteArray := prog_5_method_9_code
def yX3_drawBit : MethodName := ⟨RX3, "drawBit", "()I"⟩
abbrev cX3_oddsAbove : ByteArray := prog_5_method_10_code
def yX3_oddsAbove : MethodName := ⟨RX3, "oddsAbove", "(I)I"⟩
abbrev cX3_oddsBelow : ByteArray := prog_5_method_11_code
def yX3_oddsBelow : MethodName := ⟨RX3, "oddsBelow", "(I)I"⟩
abbrev cX3_reduced : ByteArray := prog_5_method_12_code
def yX3_reduced : MethodName := ⟨RX3, "reduced", "(II)I"⟩
abbrev cX3_power : ByteArray := prog_5_method_13_code
def yX3_power : MethodName := ⟨RX3, "power", "(I)I"⟩
def RX4 : String := "FoldedWays$Page"
def TX4 : u_T := fun k => match k with
  | 0 => ("FoldedWays$Page", "codes", "[I", true)
  | _ => ("FoldedWays$Page", "length", "I", false)
def tyX4 : Nat → FieldType := fun k => match k with
  | 0 => .array .int
  | _ => .int
abbrev wsX40 : List Cond := u_ws RX4 TX4 2
theorem nmX4 : ∀ a, a < 2 → ∀ b, b < 2 → a ≠ b → (TX4 a).2.1 ≠ (TX4 b).2.1 := by decide +kernel
theorem tyX4_ok : ∀ k, k < 2 → parseFieldDescriptor (TX4 k).2.2.1 = some (tyX4 k) := by decide +kernel
abbrev cX4_init : ByteArray := prog_6_method_1_code
def yX4_init : MethodName := ⟨RX4, "<init>", "()V"⟩
abbrev cX4_size : ByteArray := prog_6_method_2_code
def yX4_size : MethodName := ⟨RX4, "size", "()I"⟩
abbrev cX4_isFull : ByteArray := prog_6_method_3_code
def yX4_isFull : MethodName := ⟨RX4, "isFull", "()Z"⟩
abbrev cX4_append : ByteArray := prog_6_method_4_code
def yX4_append : MethodName := ⟨RX4, "append", "(I)V"⟩
abbrev cX4_clear : ByteArray := prog_6_method_5_code
def yX4_clear : MethodName := ⟨RX4, "clear", "()V"⟩
abbrev cX4_codeAt : ByteArray := prog_6_method_6_code
def yX4_codeAt : MethodName := ⟨RX4, "codeAt", "(I)I"⟩
abbrev cX4_digitAt : ByteArray := prog_6_method_7_code
def yX4_digitAt : MethodName := ⟨RX4, "digitAt", "(I)I"⟩
abbrev cX4_pairCount : ByteArray := prog_6_method_8_code
def yX4_pairCount : MethodName := ⟨RX4, "pairCount", "()I"⟩
abbrev cX4_firstOfPair : ByteArray := prog_6_method_9_code
def yX4_firstOfPair : MethodName := ⟨RX4, "firstOfPair", "(I)I"⟩
abbrev cX4_secondOfPair : ByteArray := prog_6_method_10_code
def yX4_secondOfPair : MethodName := ⟨RX4, "secondOfPair", "(I)I"⟩
abbrev cX4_isWhole : ByteArray := prog_6_method_11_code
def yX4_isWhole : MethodName := ⟨RX4, "isWhole", "()Z"⟩
abbrev cX4_firstWrong : ByteArray := prog_6_method_12_code
def yX4_firstWrong : MethodName := ⟨RX4, "firstWrong", "()I"⟩
abbrev cX4_fits : ByteArray := prog_6_method_13_code
def yX4_fits : MethodName := ⟨RX4, "fits", "(I)Z"⟩
abbrev cX4_isNodeAt : ByteArray := prog_6_method_14_code
def yX4_isNodeAt : MethodName := ⟨RX4, "isNodeAt", "(I)Z"⟩
abbrev cX4_endsNewPair : ByteArray := prog_6_method_15_code
def yX4_endsNewPair : MethodName := ⟨RX4, "endsNewPair", "(I)Z"⟩
def RX5 : String := "FoldedWays"
def TX5 : u_T := fun k => match k with
  | 0 => ("FoldedWays", "page", "LFoldedWays$Page;", true)
  | 1 => ("FoldedWays", "graph", "LFoldedWays$Graph;", true)
  | 2 => ("FoldedWays", "marks", "LFoldedWays$Marks;", true)
  | 3 => ("FoldedWays", "bundles", "LFoldedWays$Bundles;", true)
  | 4 => ("FoldedWays", "flow", "LFoldedWays$Flow;", true)
  | 5 => ("FoldedWays", "netsRead", "I", false)
  | 6 => ("FoldedWays", "timesSent", "I", false)
  | 7 => ("FoldedWays", "passagesSent", "I", false)
  | 8 => ("FoldedWays", "astraySent", "I", false)
  | _ => ("FoldedWays", "loopsSent", "I", false)
def tyX5 : Nat → FieldType := fun k => match k with
  | 0 => .object "FoldedWays$Page"
  | 1 => .object "FoldedWays$Graph"
  | 2 => .object "FoldedWays$Marks"
  | 3 => .object "FoldedWays$Bundles"
  | 4 => .object "FoldedWays$Flow"
  | 5 => .int
  | 6 => .int
  | 7 => .int
  | 8 => .int
  | _ => .int
abbrev wsX50 : List Cond := u_ws RX5 TX5 10
theorem nmX5 : ∀ a, a < 10 → ∀ b, b < 10 → a ≠ b → (TX5 a).2.1 ≠ (TX5 b).2.1 := by decide +kernel
theorem tyX5_ok : ∀ k, k < 10 → parseFieldDescriptor (TX5 k).2.2.1 = some (tyX5 k) := by decide +kernel
abbrev cX5_init : ByteArray := prog_1_method_1_code
def yX5_init : MethodName := ⟨RX5, "<init>", "()V"⟩
abbrev cX5_letter : ByteArray := prog_1_method_2_code
def yX5_letter : MethodName := ⟨RX5, "letter", "(I)I"⟩
abbrev cX5_blank : ByteArray := prog_1_method_3_code
def yX5_blank : MethodName := ⟨RX5, "blank", "()I"⟩
abbrev cX5_fault : ByteArray := prog_1_method_4_code
def yX5_fault : MethodName := ⟨RX5, "fault", "()I"⟩
abbrev cX5_net : ByteArray := prog_1_method_5_code
def yX5_net : MethodName := ⟨RX5, "net", "()I"⟩
abbrev cX5_set : ByteArray := prog_1_method_6_code
def yX5_set : MethodName := ⟨RX5, "set", "(II)I"⟩
abbrev cX5_mark : ByteArray := prog_1_method_7_code
def yX5_mark : MethodName := ⟨RX5, "mark", "(II)J"⟩
abbrev cX5_link : ByteArray := prog_1_method_8_code
def yX5_link : MethodName := ⟨RX5, "link", "(II)I"⟩
abbrev cX5_way : ByteArray := prog_1_method_9_code
def yX5_way : MethodName := ⟨RX5, "way", "(III)I"⟩
abbrev cX5_tree : ByteArray := prog_1_method_10_code
def yX5_tree : MethodName := ⟨RX5, "tree", "(II)I"⟩
abbrev cX5_bind : ByteArray := prog_1_method_11_code
def yX5_bind : MethodName := ⟨RX5, "bind", "(III)I"⟩
abbrev cX5_loosen : ByteArray := prog_1_method_12_code
def yX5_loosen : MethodName := ⟨RX5, "loosen", "(I)I"⟩
abbrev cX5_bound : ByteArray := prog_1_method_13_code
def yX5_bound : MethodName := ⟨RX5, "bound", "(II)J"⟩
abbrev cX5_fold : ByteArray := prog_1_method_14_code
def yX5_fold : MethodName := ⟨RX5, "fold", "(IIIZ)J"⟩
abbrev cX5_spread : ByteArray := prog_1_method_15_code
def yX5_spread : MethodName := ⟨RX5, "spread", "(IIIZI)I"⟩
abbrev cX5_best : ByteArray := prog_1_method_16_code
def yX5_best : MethodName := ⟨RX5, "best", "(IIZ)I"⟩
abbrev cX5_send : ByteArray := prog_1_method_17_code
def yX5_send : MethodName := ⟨RX5, "send", "(IIZ)I"⟩
abbrev cX5_count : ByteArray := prog_1_method_18_code
def yX5_count : MethodName := ⟨RX5, "count", "(I)I"⟩
abbrev cX5_digest : ByteArray := prog_1_method_19_code
def yX5_digest : MethodName := ⟨RX5, "digest", "()J"⟩
abbrev cX5_isVariant : ByteArray := prog_1_method_20_code
def yX5_isVariant : MethodName := ⟨RX5, "isVariant", "(I)Z"⟩
abbrev cX5_isPlace : ByteArray := prog_1_method_21_code
def yX5_isPlace : MethodName := ⟨RX5, "isPlace", "(I)Z"⟩
abbrev cX5_foldedBits : ByteArray := prog_1_method_22_code
def yX5_foldedBits : MethodName := ⟨RX5, "foldedBits", "(IIZ)J"⟩
abbrev cX5_matchingLinks : ByteArray := prog_1_method_23_code
def yX5_matchingLinks : MethodName := ⟨RX5, "matchingLinks", "(JI)I"⟩
abbrev cX5_spreadOut : ByteArray := prog_1_method_24_code
def yX5_spreadOut : MethodName := ⟨RX5, "spreadOut", "(IIIZ)V"⟩
abbrev cX5_spreadFact : ByteArray := prog_1_method_25_code
def yX5_spreadFact : MethodName := ⟨RX5, "spreadFact", "(I)I"⟩
abbrev cX5_bestVariant : ByteArray := prog_1_method_26_code
def yX5_bestVariant : MethodName := ⟨RX5, "bestVariant", "(IIZ)I"⟩
abbrev cX5_with : ByteArray := prog_1_method_27_code
def yX5_with : MethodName := ⟨RX5, "with", "(JJ)J"⟩
abbrev cX5_withLinks : ByteArray := prog_1_method_28_code
def yX5_withLinks : MethodName := ⟨RX5, "withLinks", "(J)J"⟩
abbrev cX5_withBundles : ByteArray := prog_1_method_29_code
def yX5_withBundles : MethodName := ⟨RX5, "withBundles", "(J)J"⟩
abbrev cX5_withNodes : ByteArray := prog_1_method_30_code
def yX5_withNodes : MethodName := ⟨RX5, "withNodes", "(J)J"⟩
abbrev cX5_withPage : ByteArray := prog_1_method_31_code
def yX5_withPage : MethodName := ⟨RX5, "withPage", "(J)J"⟩
abbrev cX5_withCounts : ByteArray := prog_1_method_32_code
def yX5_withCounts : MethodName := ⟨RX5, "withCounts", "(J)J"⟩
def RX6 : String := "FoldedWaysModel"
def TX6 : u_T := fun k => match k with
  | 0 => ("FoldedWaysModel", "pageLength", "I", false)
  | 1 => ("FoldedWaysModel", "page", "[I", true)
  | 2 => ("FoldedWaysModel", "nodes", "I", false)
  | 3 => ("FoldedWaysModel", "links", "I", false)
  | 4 => ("FoldedWaysModel", "fromOf", "[I", true)
  | 5 => ("FoldedWaysModel", "toOf", "[I", true)
  | 6 => ("FoldedWaysModel", "width", "I", false)
  | 7 => ("FoldedWaysModel", "drawn", "I", false)
  | 8 => ("FoldedWaysModel", "seed", "I", false)
  | 9 => ("FoldedWaysModel", "bundleOf", "[I", true)
  | 10 => ("FoldedWaysModel", "netsRead", "I", false)
  | 11 => ("FoldedWaysModel", "sent", "I", false)
  | 12 => ("FoldedWaysModel", "passagesEver", "I", false)
  | 13 => ("FoldedWaysModel", "astrayEver", "I", false)
  | 14 => ("FoldedWaysModel", "loopsEver", "I", false)
  | 15 => ("FoldedWaysModel", "newNodes", "I", false)
  | 16 => ("FoldedWaysModel", "newPairs", "I", false)
  | 17 => ("FoldedWaysModel", "due", "I", false)
  | 18 => ("FoldedWaysModel", "newOne", "I", false)
  | 19 => ("FoldedWaysModel", "newFrom", "[I", true)
  | 20 => ("FoldedWaysModel", "newTo", "[I", true)
  | 21 => ("FoldedWaysModel", "marks", "[J", true)
  | 22 => ("FoldedWaysModel", "drawing", "J", false)
  | 23 => ("FoldedWaysModel", "leftOf", "[I", true)
  | 24 => ("FoldedWaysModel", "wayMany", "I", false)
  | 25 => ("FoldedWaysModel", "wayAt", "[I", true)
  | 26 => ("FoldedWaysModel", "bitsNow", "J", false)
  | 27 => ("FoldedWaysModel", "passages", "I", false)
  | 28 => ("FoldedWaysModel", "astray", "I", false)
  | 29 => ("FoldedWaysModel", "loops", "I", false)
  | 30 => ("FoldedWaysModel", "steps", "I", false)
  | 31 => ("FoldedWaysModel", "reached", "I", false)
  | 32 => ("FoldedWaysModel", "others", "I", false)
  | _ => ("FoldedWaysModel", "h", "J", false)
def tyX6 : Nat → FieldType := fun k => match k with
  | 0 => .int
  | 1 => .array .int
  | 2 => .int
  | 3 => .int
  | 4 => .array .int
  | 5 => .array .int
  | 6 => .int
  | 7 => .int
  | 8 => .int
  | 9 => .array .int
  | 10 => .int
  | 11 => .int
  | 12 => .int
  | 13 => .int
  | 14 => .int
  | 15 => .int
  | 16 => .int
  | 17 => .int
  | 18 => .int
  | 19 => .array .int
  | 20 => .array .int
  | 21 => .array .long
  | 22 => .long
  | 23 => .array .int
  | 24 => .int
  | 25 => .array .int
  | 26 => .long
  | 27 => .int
  | 28 => .int
  | 29 => .int
  | 30 => .int
  | 31 => .int
  | 32 => .int
  | _ => .long
abbrev wsX60 : List Cond := u_ws RX6 TX6 34
theorem nmX6 : ∀ a, a < 34 → ∀ b, b < 34 → a ≠ b → (TX6 a).2.1 ≠ (TX6 b).2.1 := by decide +kernel
theorem tyX6_ok : ∀ k, k < 34 → parseFieldDescriptor (TX6 k).2.2.1 = some (tyX6 k) := by decide +kernel
abbrev cX6_init : ByteArray := prog_8_method_1_code
def yX6_init : MethodName := ⟨RX6, "<init>", "()V"⟩
abbrev cX6_within : ByteArray := prog_8_method_3_code
def yX6_within : MethodName := ⟨RX6, "within", "(III)Z"⟩
abbrev cX6_has : ByteArray := prog_8_method_4_code
def yX6_has : MethodName := ⟨RX6, "has", "(II)Z"⟩
abbrev cX6_letter : ByteArray := prog_8_method_5_code
def yX6_letter : MethodName := ⟨RX6, "letter", "(I)I"⟩
abbrev cX6_blank : ByteArray := prog_8_method_6_code
def yX6_blank : MethodName := ⟨RX6, "blank", "()I"⟩
abbrev cX6_isTold : ByteArray := prog_8_method_7_code
def yX6_isTold : MethodName := ⟨RX6, "isTold", "(II)Z"⟩
abbrev cX6_takesNode : ByteArray := prog_8_method_8_code
def yX6_takesNode : MethodName := ⟨RX6, "takesNode", "(I)Z"⟩
abbrev cX6_takes : ByteArray := prog_8_method_9_code
def yX6_takes : MethodName := ⟨RX6, "takes", "(I)Z"⟩
abbrev cX6_goAlong : ByteArray := prog_8_method_10_code
def yX6_goAlong : MethodName := ⟨RX6, "goAlong", "()I"⟩
abbrev cX6_fault : ByteArray := prog_8_method_11_code
def yX6_fault : MethodName := ⟨RX6, "fault", "()I"⟩
abbrev cX6_net : ByteArray := prog_8_method_12_code
def yX6_net : MethodName := ⟨RX6, "net", "()I"⟩
abbrev cX6_draw : ByteArray := prog_8_method_13_code
def yX6_draw : MethodName := ⟨RX6, "draw", "(I)I"⟩
abbrev cX6_layMarks : ByteArray := prog_8_method_14_code
def yX6_layMarks : MethodName := ⟨RX6, "layMarks", "()V"⟩
abbrev cX6_set : ByteArray := prog_8_method_15_code
def yX6_set : MethodName := ⟨RX6, "set", "(II)I"⟩
abbrev cX6_isLink : ByteArray := prog_8_method_16_code
def yX6_isLink : MethodName := ⟨RX6, "isLink", "(I)Z"⟩
abbrev cX6_isVariant : ByteArray := prog_8_method_17_code
def yX6_isVariant : MethodName := ⟨RX6, "isVariant", "(I)Z"⟩
abbrev cX6_mark : ByteArray := prog_8_method_18_code
def yX6_mark : MethodName := ⟨RX6, "mark", "(II)J"⟩
abbrev cX6_bundlesOf : ByteArray := prog_8_method_19_code
def yX6_bundlesOf : MethodName := ⟨RX6, "bundlesOf", "(I)I"⟩
abbrev cX6_linkNow : ByteArray := prog_8_method_20_code
def yX6_linkNow : MethodName := ⟨RX6, "linkNow", "(II)I"⟩
abbrev cX6_link : ByteArray := prog_8_method_21_code
def yX6_link : MethodName := ⟨RX6, "link", "(II)I"⟩
abbrev cX6_isNode : ByteArray := prog_8_method_22_code
def yX6_isNode : MethodName := ⟨RX6, "isNode", "(I)Z"⟩
abbrev cX6_layLeft : ByteArray := prog_8_method_23_code
def yX6_layLeft : MethodName := ⟨RX6, "layLeft", "(I)V"⟩
abbrev cX6_nextNode : ByteArray := prog_8_method_24_code
def yX6_nextNode : MethodName := ⟨RX6, "nextNode", "(I)I"⟩
abbrev cX6_layWay : ByteArray := prog_8_method_25_code
def yX6_layWay : MethodName := ⟨RX6, "layWay", "(II)V"⟩
abbrev cX6_way : ByteArray := prog_8_method_26_code
def yX6_way : MethodName := ⟨RX6, "way", "(III)I"⟩
abbrev cX6_linkFrom : ByteArray := prog_8_method_27_code
def yX6_linkFrom : MethodName := ⟨RX6, "linkFrom", "(II)I"⟩
abbrev cX6_treeOf : ByteArray := prog_8_method_28_code
def yX6_treeOf : MethodName := ⟨RX6, "treeOf", "(II)I"⟩
abbrev cX6_isSet : ByteArray := prog_8_method_29_code
def yX6_isSet : MethodName := ⟨RX6, "isSet", "(I)Z"⟩
abbrev cX6_tree : ByteArray := prog_8_method_30_code
def yX6_tree : MethodName := ⟨RX6, "tree", "(II)I"⟩
abbrev cX6_ones : ByteArray := prog_8_method_31_code
def yX6_ones : MethodName := ⟨RX6, "ones", "(J)I"⟩
abbrev cX6_isPlace : ByteArray := prog_8_method_32_code
def yX6_isPlace : MethodName := ⟨RX6, "isPlace", "(I)Z"⟩
abbrev cX6_bind : ByteArray := prog_8_method_33_code
def yX6_bind : MethodName := ⟨RX6, "bind", "(III)I"⟩
abbrev cX6_loosen : ByteArray := prog_8_method_34_code
def yX6_loosen : MethodName := ⟨RX6, "loosen", "(I)I"⟩
abbrev cX6_bound : ByteArray := prog_8_method_35_code
def yX6_bound : MethodName := ⟨RX6, "bound", "(II)J"⟩
abbrev cX6_foldOf : ByteArray := prog_8_method_36_code
def yX6_foldOf : MethodName := ⟨RX6, "foldOf", "(IIZ)J"⟩
abbrev cX6_fold : ByteArray := prog_8_method_37_code
def yX6_fold : MethodName := ⟨RX6, "fold", "(IIIZ)J"⟩
abbrev cX6_matches : ByteArray := prog_8_method_38_code
def yX6_matches : MethodName := ⟨RX6, "matches", "(IJI)Z"⟩
abbrev cX6_laySpread : ByteArray := prog_8_method_39_code
def yX6_laySpread : MethodName := ⟨RX6, "laySpread", "(IIIZ)V"⟩
abbrev cX6_goStep : ByteArray := prog_8_method_40_code
def yX6_goStep : MethodName := ⟨RX6, "goStep", "(III)I"⟩
abbrev cX6_common : ByteArray := prog_8_method_41_code
def yX6_common : MethodName := ⟨RX6, "common", "(II)I"⟩
abbrev cX6_odds : ByteArray := prog_8_method_42_code
def yX6_odds : MethodName := ⟨RX6, "odds", "(I)I"⟩
abbrev cX6_spreadNow : ByteArray := prog_8_method_43_code
def yX6_spreadNow : MethodName := ⟨RX6, "spreadNow", "(I)I"⟩
abbrev cX6_spread : ByteArray := prog_8_method_44_code
def yX6_spread : MethodName := ⟨RX6, "spread", "(IIIZI)I"⟩
abbrev cX6_bestOf : ByteArray := prog_8_method_45_code
def yX6_bestOf : MethodName := ⟨RX6, "bestOf", "(IIZ)I"⟩
abbrev cX6_best : ByteArray := prog_8_method_46_code
def yX6_best : MethodName := ⟨RX6, "best", "(IIZ)I"⟩
abbrev cX6_sendNow : ByteArray := prog_8_method_47_code
def yX6_sendNow : MethodName := ⟨RX6, "sendNow", "(IIZ)I"⟩
abbrev cX6_send : ByteArray := prog_8_method_48_code
def yX6_send : MethodName := ⟨RX6, "send", "(IIZ)I"⟩
abbrev cX6_bundlesMany : ByteArray := prog_8_method_49_code
def yX6_bundlesMany : MethodName := ⟨RX6, "bundlesMany", "()I"⟩
abbrev cX6_howMany : ByteArray := prog_8_method_50_code
def yX6_howMany : MethodName := ⟨RX6, "howMany", "(I)I"⟩
abbrev cX6_count : ByteArray := prog_8_method_51_code
def yX6_count : MethodName := ⟨RX6, "count", "(I)I"⟩
abbrev cX6_mix : ByteArray := prog_8_method_52_code
def yX6_mix : MethodName := ⟨RX6, "mix", "(J)V"⟩
abbrev cX6_mixNode : ByteArray := prog_8_method_53_code
def yX6_mixNode : MethodName := ⟨RX6, "mixNode", "(I)V"⟩
abbrev cX6_digest : ByteArray := prog_8_method_54_code
def yX6_digest : MethodName := ⟨RX6, "digest", "()J"⟩
def RJ6 : String := "java/lang/Integer"
def TJ6 : u_T := fun k => match k with
  | _ => ("", "", "", false)
def tyJ6 : Nat → FieldType := fun k => match k with
  | _ => .int
abbrev wsJ60 : List Cond := u_ws RJ6 TJ6 0
theorem nmJ6 : ∀ a, a < 0 → ∀ b, b < 0 → a ≠ b → (TJ6 a).2.1 ≠ (TJ6 b).2.1 := by decide +kernel
theorem tyJ6_ok : ∀ k, k < 0 → parseFieldDescriptor (TJ6 k).2.2.1 = some (tyJ6 k) := by decide +kernel
abbrev cJ6_bitCount_0f7a4 : ByteArray := prog_9_method_49_code
def yJ6_bitCount_0f7a4 : MethodName := ⟨RJ6, "bitCount", "(I)I"⟩
def RJ13 : String := "java/lang/Long"
def TJ13 : u_T := fun k => match k with
  | _ => ("", "", "", false)
def tyJ13 : Nat → FieldType := fun k => match k with
  | _ => .int
abbrev wsJ130 : List Cond := u_ws RJ13 TJ13 0
theorem nmJ13 : ∀ a, a < 0 → ∀ b, b < 0 → a ≠ b → (TJ13 a).2.1 ≠ (TJ13 b).2.1 := by decide +kernel
theorem tyJ13_ok : ∀ k, k < 0 → parseFieldDescriptor (TJ13 k).2.2.1 = some (tyJ13 k) := by decide +kernel
abbrev cJ13_bitCount_95d88 : ByteArray := prog_10_method_50_code
def yJ13_bitCount_95d88 : MethodName := ⟨RJ13, "bitCount", "(J)I"⟩
def RJ9 : String := "java/lang/Math"
def TJ9 : u_T := fun k => match k with
  | _ => ("", "", "", false)
def tyJ9 : Nat → FieldType := fun k => match k with
  | _ => .int
abbrev wsJ90 : List Cond := u_ws RJ9 TJ9 0
theorem nmJ9 : ∀ a, a < 0 → ∀ b, b < 0 → a ≠ b → (TJ9 a).2.1 ≠ (TJ9 b).2.1 := by decide +kernel
theorem tyJ9_ok : ∀ k, k < 0 → parseFieldDescriptor (TJ9 k).2.2.1 = some (tyJ9 k) := by decide +kernel
abbrev cJ9_min_7cf53 : ByteArray := prog_11_method_69_code
def yJ9_min_7cf53 : MethodName := ⟨RJ9, "min", "(II)I"⟩
def RL : String := "FoldedWaysLaw"
abbrev cL_law : ByteArray := code
def yL_law : MethodName := ⟨RL, "law", "([I)Z"⟩
def wsX0_init : List Cond := .code yX0_init cX0_init 1 none :: ([.methodLink RX0 3 objectInit, .instanceMethod objectInit, .code objectInit ⟨#[0xb1]⟩ 1 none, .arrayClass .int, .fieldLink RX0 9 "FoldedWays$Bundles" "links" "[I"] ++ wsX00)
def wsX5_isPlace : List Cond := .code yX5_isPlace cX5_isPlace 1 (some .boolean) :: ([])
def wsX0_linksAt : List Cond := .code yX0_linksAt cX0_linksAt 2 (some .int) :: ([.fieldLink RX0 9 "FoldedWays$Bundles" "links" "[I", .static yX5_isPlace, .initialized RX5, .code yX5_isPlace cX5_isPlace 1 (some .boolean)] ++ wsX00)
def wsX0_isThere : List Cond := .code yX0_isThere cX0_isThere 2 (some .boolean) :: ([.methodLink RX0 19 yX0_linksAt, .instanceMethod yX0_linksAt, .selects RX0 yX0_linksAt yX0_linksAt, .initialized RX0, .code yX0_linksAt cX0_linksAt 2 (some .int), .fieldLink RX0 9 "FoldedWays$Bundles" "links" "[I", .static yX5_isPlace, .initialized RX5, .code yX5_isPlace cX5_isPlace 1 (some .boolean)] ++ wsX00)
def wsX0_put : List Cond := .code yX0_put cX0_put 3 none :: ([.fieldLink RX0 9 "FoldedWays$Bundles" "links" "[I", .static yX5_isPlace, .initialized RX5, .code yX5_isPlace cX5_isPlace 1 (some .boolean)] ++ wsX00)
def wsX0_clear : List Cond := .code yX0_clear cX0_clear 2 none :: ([.fieldLink RX0 9 "FoldedWays$Bundles" "links" "[I"] ++ wsX00)
def wsX0_howMany : List Cond := .code yX0_howMany cX0_howMany 3 (some .int) :: ([.methodLink RX0 23 yX0_isThere, .instanceMethod yX0_isThere, .selects RX0 yX0_isThere yX0_isThere, .initialized RX0, .code yX0_isThere cX0_isThere 2 (some .boolean), .methodLink RX0 19 yX0_linksAt, .instanceMethod yX0_linksAt, .selects RX0 yX0_linksAt yX0_linksAt, .code yX0_linksAt cX0_linksAt 2 (some .int), .fieldLink RX0 9 "FoldedWays$Bundles" "links" "[I", .static yX5_isPlace, .initialized RX5, .code yX5_isPlace cX5_isPlace 1 (some .boolean)] ++ wsX00)
def wsX0_placesWith : List Cond := .code yX0_placesWith cX0_placesWith 4 (some .int) :: ([.fieldLink RX0 9 "FoldedWays$Bundles" "links" "[I"] ++ wsX00)
def wsX1_init : List Cond := .code yX1_init cX1_init 1 none :: ([.methodLink RX1 3 objectInit, .instanceMethod objectInit, .code objectInit ⟨#[0xb1]⟩ 1 none])
def wsJ6_bitCount_0f7a4 : List Cond := .code yJ6_bitCount_0f7a4 cJ6_bitCount_0f7a4 1 (some .int) :: ([.constant RJ6 265 (1431655765), .constant RJ6 266 (858993459), .constant RJ6 267 (252645135)])
def wsX2_linkCount : List Cond := .code yX2_linkCount cX2_linkCount 1 (some .int) :: ([.fieldLink RX2 34 "FoldedWays$Graph" "links" "I"] ++ wsX20)
def wsX2_startOf : List Cond := .code yX2_startOf cX2_startOf 2 (some .int) :: ([.fieldLink RX2 9 "FoldedWays$Graph" "start" "[I"] ++ wsX20)
def wsX2_endOf : List Cond := .code yX2_endOf cX2_endOf 2 (some .int) :: ([.fieldLink RX2 15 "FoldedWays$Graph" "end" "[I"] ++ wsX20)
def wsX1_sendOn : List Cond := .code yX1_sendOn cX1_sendOn 9 (some .int) :: ([.fieldLink RX1 24 "FoldedWays$Flow" "reached" "I", .fieldLink RX1 9 "FoldedWays$Flow" "passages" "I", .fieldLink RX1 15 "FoldedWays$Flow" "astray" "I", .fieldLink RX1 18 "FoldedWays$Flow" "loops" "I", .methodLink RX1 40 yX2_linkCount, .instanceMethod yX2_linkCount, .selects RX2 yX2_linkCount yX2_linkCount, .initialized RX2, .code yX2_linkCount cX2_linkCount 1 (some .int), .fieldLink RX2 34 "FoldedWays$Graph" "links" "I", .methodLink RX1 46 yX2_startOf, .instanceMethod yX2_startOf, .selects RX2 yX2_startOf yX2_startOf, .code yX2_startOf cX2_startOf 2 (some .int), .fieldLink RX2 9 "FoldedWays$Graph" "start" "[I", .methodLink RX1 49 yX2_endOf, .instanceMethod yX2_endOf, .selects RX2 yX2_endOf yX2_endOf, .code yX2_endOf cX2_endOf 2 (some .int), .fieldLink RX2 15 "FoldedWays$Graph" "end" "[I"] ++ wsX10 ++ wsX20)
def wsX1_run_r1 : List Cond := [Cond.fieldLink RX1 9 "FoldedWays$Flow" "passages" "I", Cond.fieldLink RX1 15 "FoldedWays$Flow" "astray" "I", Cond.fieldLink RX1 18 "FoldedWays$Flow" "loops" "I", Cond.fieldLink RX1 21 "FoldedWays$Flow" "steps" "I", Cond.fieldLink RX1 24 "FoldedWays$Flow" "reached" "I", Cond.fieldLink RX1 33 "FoldedWays$Flow" "matchingAside" "I", Cond.methodLink RX1 27 yJ6_bitCount_0f7a4, Cond.static yJ6_bitCount_0f7a4, Cond.initialized RJ6, Cond.code yJ6_bitCount_0f7a4 cJ6_bitCount_0f7a4 1 (some .int), Cond.constant RJ6 265 (1431655765), Cond.constant RJ6 266 (858993459), Cond.constant RJ6 267 (252645135), Cond.methodLink RX1 36 yX1_sendOn, Cond.instanceMethod yX1_sendOn, Cond.selects RX1 yX1_sendOn yX1_sendOn, Cond.initialized RX1, Cond.code yX1_sendOn cX1_sendOn 9 (some .int), Cond.methodLink RX1 40 yX2_linkCount, Cond.instanceMethod yX2_linkCount, Cond.selects RX2 yX2_linkCount yX2_linkCount, Cond.initialized RX2, Cond.code yX2_linkCount cX2_linkCount 1 (some .int), Cond.fieldLink RX2 34 "FoldedWays$Graph" "links" "I"]
def wsX1_run_r2 : List Cond := [Cond.methodLink RX1 46 yX2_startOf, Cond.instanceMethod yX2_startOf, Cond.selects RX2 yX2_startOf yX2_startOf, Cond.code yX2_startOf cX2_startOf 2 (some .int), Cond.fieldLink RX2 9 "FoldedWays$Graph" "start" "[I", Cond.methodLink RX1 49 yX2_endOf, Cond.instanceMethod yX2_endOf, Cond.selects RX2 yX2_endOf yX2_endOf, Cond.code yX2_endOf cX2_endOf 2 (some .int), Cond.fieldLink RX2 15 "FoldedWays$Graph" "end" "[I"]
def wsX1_run : List Cond := .code yX1_run cX1_run 7 none :: ((wsX1_run_r1 ++ wsX1_run_r2) ++ wsX10 ++ wsX20)
def wsX2_init : List Cond := .code yX2_init cX2_init 1 none :: ([.methodLink RX2 3 objectInit, .instanceMethod objectInit, .code objectInit ⟨#[0xb1]⟩ 1 none, .arrayClass .int, .fieldLink RX2 9 "FoldedWays$Graph" "start" "[I", .fieldLink RX2 15 "FoldedWays$Graph" "end" "[I", .fieldLink RX2 18 "FoldedWays$Graph" "linkBetween" "[I", .fieldLink RX2 21 "FoldedWays$Graph" "wayLength" "[I", .fieldLink RX2 24 "FoldedWays$Graph" "wayNext" "[I", .fieldLink RX2 27 "FoldedWays$Graph" "wayLinks" "[I"] ++ wsX20)
def wsX2_nodeCount : List Cond := .code yX2_nodeCount cX2_nodeCount 1 (some .int) :: ([.fieldLink RX2 30 "FoldedWays$Graph" "nodes" "I"] ++ wsX20)
def wsX2_hasNode : List Cond := .code yX2_hasNode cX2_hasNode 2 (some .boolean) :: ([.fieldLink RX2 30 "FoldedWays$Graph" "nodes" "I"] ++ wsX20)
def wsX2_hasLink : List Cond := .code yX2_hasLink cX2_hasLink 2 (some .boolean) :: ([.fieldLink RX2 34 "FoldedWays$Graph" "links" "I"] ++ wsX20)
def wsX2_allNodes : List Cond := .code yX2_allNodes cX2_allNodes 1 (some .int) :: ([.fieldLink RX2 30 "FoldedWays$Graph" "nodes" "I"] ++ wsX20)
def wsX2_hasNodes : List Cond := .code yX2_hasNodes cX2_hasNodes 2 (some .boolean) :: ([.methodLink RX2 37 yX2_allNodes, .instanceMethod yX2_allNodes, .selects RX2 yX2_allNodes yX2_allNodes, .initialized RX2, .code yX2_allNodes cX2_allNodes 1 (some .int), .fieldLink RX2 30 "FoldedWays$Graph" "nodes" "I"] ++ wsX20)
def wsX2_at : List Cond := .code yX2_at cX2_at 2 (some .int) :: ([])
def wsX2_forget : List Cond := .code yX2_forget cX2_forget 3 none :: ([.fieldLink RX2 30 "FoldedWays$Graph" "nodes" "I", .fieldLink RX2 34 "FoldedWays$Graph" "links" "I", .fieldLink RX2 18 "FoldedWays$Graph" "linkBetween" "[I", .fieldLink RX2 21 "FoldedWays$Graph" "wayLength" "[I", .fieldLink RX2 24 "FoldedWays$Graph" "wayNext" "[I", .fieldLink RX2 27 "FoldedWays$Graph" "wayLinks" "[I", .methodLink RX2 73 yX2_at, .static yX2_at, .initialized RX2, .code yX2_at cX2_at 2 (some .int)] ++ wsX20)
def wsX4_codeAt : List Cond := .code yX4_codeAt cX4_codeAt 2 (some .int) :: ([.fieldLink RX4 15 "FoldedWays$Page" "length" "I", .fieldLink RX4 11 "FoldedWays$Page" "codes" "[I"] ++ wsX40)
def wsX4_digitAt : List Cond := .code yX4_digitAt cX4_digitAt 2 (some .int) :: ([.methodLink RX4 19 yX4_codeAt, .instanceMethod yX4_codeAt, .selects RX4 yX4_codeAt yX4_codeAt, .initialized RX4, .code yX4_codeAt cX4_codeAt 2 (some .int), .fieldLink RX4 15 "FoldedWays$Page" "length" "I", .fieldLink RX4 11 "FoldedWays$Page" "codes" "[I"] ++ wsX40)
def wsX4_pairCount : List Cond := .code yX4_pairCount cX4_pairCount 1 (some .int) :: ([.fieldLink RX4 15 "FoldedWays$Page" "length" "I"] ++ wsX40)
def wsX4_firstOfPair : List Cond := .code yX4_firstOfPair cX4_firstOfPair 2 (some .int) :: ([.methodLink RX4 23 yX4_digitAt, .instanceMethod yX4_digitAt, .selects RX4 yX4_digitAt yX4_digitAt, .initialized RX4, .code yX4_digitAt cX4_digitAt 2 (some .int), .methodLink RX4 19 yX4_codeAt, .instanceMethod yX4_codeAt, .selects RX4 yX4_codeAt yX4_codeAt, .code yX4_codeAt cX4_codeAt 2 (some .int), .fieldLink RX4 15 "FoldedWays$Page" "length" "I", .fieldLink RX4 11 "FoldedWays$Page" "codes" "[I"] ++ wsX40)
def wsX4_secondOfPair : List Cond := .code yX4_secondOfPair cX4_secondOfPair 2 (some .int) :: ([.methodLink RX4 23 yX4_digitAt, .instanceMethod yX4_digitAt, .selects RX4 yX4_digitAt yX4_digitAt, .initialized RX4, .code yX4_digitAt cX4_digitAt 2 (some .int), .methodLink RX4 19 yX4_codeAt, .instanceMethod yX4_codeAt, .selects RX4 yX4_codeAt yX4_codeAt, .code yX4_codeAt cX4_codeAt 2 (some .int), .fieldLink RX4 15 "FoldedWays$Page" "length" "I", .fieldLink RX4 11 "FoldedWays$Page" "codes" "[I"] ++ wsX40)
def wsX2_addLink : List Cond := .code yX2_addLink cX2_addLink 3 none :: ([.fieldLink RX2 34 "FoldedWays$Graph" "links" "I", .fieldLink RX2 9 "FoldedWays$Graph" "start" "[I", .fieldLink RX2 15 "FoldedWays$Graph" "end" "[I", .fieldLink RX2 18 "FoldedWays$Graph" "linkBetween" "[I", .methodLink RX2 76 yX2_hasNode, .instanceMethod yX2_hasNode, .selects RX2 yX2_hasNode yX2_hasNode, .initialized RX2, .code yX2_hasNode cX2_hasNode 2 (some .boolean), .fieldLink RX2 30 "FoldedWays$Graph" "nodes" "I", .methodLink RX2 73 yX2_at, .static yX2_at, .code yX2_at cX2_at 2 (some .int)] ++ wsX20)
def wsX2_findWay : List Cond := .code yX2_findWay cX2_findWay 6 none :: ([.fieldLink RX2 30 "FoldedWays$Graph" "nodes" "I", .fieldLink RX2 18 "FoldedWays$Graph" "linkBetween" "[I", .fieldLink RX2 21 "FoldedWays$Graph" "wayLength" "[I", .fieldLink RX2 24 "FoldedWays$Graph" "wayNext" "[I", .fieldLink RX2 27 "FoldedWays$Graph" "wayLinks" "[I", .methodLink RX2 73 yX2_at, .static yX2_at, .initialized RX2, .code yX2_at cX2_at 2 (some .int)] ++ wsX20)
def wsX2_findWays : List Cond := .code yX2_findWays cX2_findWays 4 none :: ([.fieldLink RX2 30 "FoldedWays$Graph" "nodes" "I", .fieldLink RX2 21 "FoldedWays$Graph" "wayLength" "[I", .methodLink RX2 73 yX2_at, .static yX2_at, .initialized RX2, .code yX2_at cX2_at 2 (some .int), .methodLink RX2 80 yX2_findWay, .instanceMethod yX2_findWay, .selects RX2 yX2_findWay yX2_findWay, .code yX2_findWay cX2_findWay 6 none, .fieldLink RX2 18 "FoldedWays$Graph" "linkBetween" "[I", .fieldLink RX2 24 "FoldedWays$Graph" "wayNext" "[I", .fieldLink RX2 27 "FoldedWays$Graph" "wayLinks" "[I"] ++ wsX20)
def wsX2_read_r1 : List Cond := [Cond.methodLink RX2 50 Lib.Math.min.name, Cond.static Lib.Math.min.name, Cond.initialized "java/lang/Math", Cond.code Lib.Math.min.name Lib.Math.min.code 2 (some .int), Cond.fieldLink RX2 30 "FoldedWays$Graph" "nodes" "I", Cond.methodLink RX2 41 yX2_forget, Cond.instanceMethod yX2_forget, Cond.selects RX2 yX2_forget yX2_forget, Cond.initialized RX2, Cond.code yX2_forget cX2_forget 3 none, Cond.fieldLink RX2 34 "FoldedWays$Graph" "links" "I", Cond.fieldLink RX2 18 "FoldedWays$Graph" "linkBetween" "[I", Cond.fieldLink RX2 21 "FoldedWays$Graph" "wayLength" "[I", Cond.fieldLink RX2 24 "FoldedWays$Graph" "wayNext" "[I", Cond.fieldLink RX2 27 "FoldedWays$Graph" "wayLinks" "[I", Cond.methodLink RX2 73 yX2_at, Cond.static yX2_at, Cond.code yX2_at cX2_at 2 (some .int), Cond.methodLink RX2 44 yX4_digitAt, Cond.instanceMethod yX4_digitAt, Cond.selects RX4 yX4_digitAt yX4_digitAt, Cond.initialized RX4, Cond.code yX4_digitAt cX4_digitAt 2 (some .int), Cond.methodLink RX4 19 yX4_codeAt]
def wsX2_read_r2 : List Cond := [Cond.instanceMethod yX4_codeAt, Cond.selects RX4 yX4_codeAt yX4_codeAt, Cond.code yX4_codeAt cX4_codeAt 2 (some .int), Cond.fieldLink RX4 15 "FoldedWays$Page" "length" "I", Cond.fieldLink RX4 11 "FoldedWays$Page" "codes" "[I", Cond.methodLink RX2 56 yX4_pairCount, Cond.instanceMethod yX4_pairCount, Cond.selects RX4 yX4_pairCount yX4_pairCount, Cond.code yX4_pairCount cX4_pairCount 1 (some .int), Cond.methodLink RX2 59 yX4_firstOfPair, Cond.instanceMethod yX4_firstOfPair, Cond.selects RX4 yX4_firstOfPair yX4_firstOfPair, Cond.code yX4_firstOfPair cX4_firstOfPair 2 (some .int), Cond.methodLink RX4 23 yX4_digitAt, Cond.methodLink RX2 62 yX4_secondOfPair, Cond.instanceMethod yX4_secondOfPair, Cond.selects RX4 yX4_secondOfPair yX4_secondOfPair, Cond.code yX4_secondOfPair cX4_secondOfPair 2 (some .int), Cond.methodLink RX2 65 yX2_addLink, Cond.instanceMethod yX2_addLink, Cond.selects RX2 yX2_addLink yX2_addLink, Cond.code yX2_addLink cX2_addLink 3 none, Cond.fieldLink RX2 9 "FoldedWays$Graph" "start" "[I", Cond.fieldLink RX2 15 "FoldedWays$Graph" "end" "[I"]
def wsX2_read_r3 : List Cond := [Cond.methodLink RX2 76 yX2_hasNode, Cond.instanceMethod yX2_hasNode, Cond.selects RX2 yX2_hasNode yX2_hasNode, Cond.code yX2_hasNode cX2_hasNode 2 (some .boolean), Cond.methodLink RX2 69 yX2_findWays, Cond.instanceMethod yX2_findWays, Cond.selects RX2 yX2_findWays yX2_findWays, Cond.code yX2_findWays cX2_findWays 4 none, Cond.methodLink RX2 80 yX2_findWay, Cond.instanceMethod yX2_findWay, Cond.selects RX2 yX2_findWay yX2_findWay, Cond.code yX2_findWay cX2_findWay 6 none]
def wsX2_read : List Cond := .code yX2_read cX2_read 5 none :: ((wsX2_read_r1 ++ (wsX2_read_r2 ++ wsX2_read_r3)) ++ wsX20 ++ wsX40)
def wsX2_nodeOnWay : List Cond := .code yX2_nodeOnWay cX2_nodeOnWay 6 (some .int) :: ([.fieldLink RX2 21 "FoldedWays$Graph" "wayLength" "[I", .fieldLink RX2 24 "FoldedWays$Graph" "wayNext" "[I", .methodLink RX2 76 yX2_hasNode, .instanceMethod yX2_hasNode, .selects RX2 yX2_hasNode yX2_hasNode, .initialized RX2, .code yX2_hasNode cX2_hasNode 2 (some .boolean), .fieldLink RX2 30 "FoldedWays$Graph" "nodes" "I", .methodLink RX2 73 yX2_at, .static yX2_at, .code yX2_at cX2_at 2 (some .int)] ++ wsX20)
def wsX2_treeLinks : List Cond := .code yX2_treeLinks cX2_treeLinks 5 (some .int) :: ([.fieldLink RX2 30 "FoldedWays$Graph" "nodes" "I", .fieldLink RX2 27 "FoldedWays$Graph" "wayLinks" "[I", .methodLink RX2 76 yX2_hasNode, .instanceMethod yX2_hasNode, .selects RX2 yX2_hasNode yX2_hasNode, .initialized RX2, .code yX2_hasNode cX2_hasNode 2 (some .boolean), .methodLink RX2 73 yX2_at, .static yX2_at, .code yX2_at cX2_at 2 (some .int)] ++ wsX20)
def wsX3_init : List Cond := .code yX3_init cX3_init 1 none :: ([.methodLink RX3 3 objectInit, .instanceMethod objectInit, .code objectInit ⟨#[0xb1]⟩ 1 none, .fieldLink RX3 9 "FoldedWays$Marks" "width" "I", .fieldLink RX3 15 "FoldedWays$Marks" "drawn" "I", .fieldLink RX3 18 "FoldedWays$Marks" "seed" "I", .arrayClass .long, .fieldLink RX3 21 "FoldedWays$Marks" "bits" "[J"] ++ wsX30)
def wsX3_allows : List Cond := .code yX3_allows cX3_allows 3 (some .boolean) :: ([])
def wsX3_setting : List Cond := .code yX3_setting cX3_setting 2 (some .int) :: ([.fieldLink RX3 9 "FoldedWays$Marks" "width" "I", .fieldLink RX3 15 "FoldedWays$Marks" "drawn" "I", .fieldLink RX3 18 "FoldedWays$Marks" "seed" "I"] ++ wsX30)
def wsX3_change : List Cond := .code yX3_change cX3_change 3 none :: ([.fieldLink RX3 9 "FoldedWays$Marks" "width" "I", .fieldLink RX3 15 "FoldedWays$Marks" "drawn" "I", .fieldLink RX3 18 "FoldedWays$Marks" "seed" "I"] ++ wsX30)
def wsX5_isVariant : List Cond := .code yX5_isVariant cX5_isVariant 1 (some .boolean) :: ([])
def wsX3_ofLink : List Cond := .code yX3_ofLink cX3_ofLink 3 (some .long) :: ([.fieldLink RX3 21 "FoldedWays$Marks" "bits" "[J", .static yX5_isVariant, .initialized RX5, .code yX5_isVariant cX5_isVariant 1 (some .boolean)] ++ wsX30)
def wsX3_ofBundle : List Cond := .code yX3_ofBundle cX3_ofBundle 3 (some .long) :: ([.fieldLink RX3 21 "FoldedWays$Marks" "bits" "[J", .static yX5_isVariant, .initialized RX5, .code yX5_isVariant cX5_isVariant 1 (some .boolean), .static yX5_isPlace, .code yX5_isPlace cX5_isPlace 1 (some .boolean)] ++ wsX30)
def wsX3_drawBit : List Cond := .code yX3_drawBit cX3_drawBit 1 (some .int) :: ([.constantLong RX3 44 (1103515245), .fieldLink RX3 32 "FoldedWays$Marks" "nextSeed" "J", .constantLong RX3 46 (12345), .constantLong RX3 48 (2147483648), .fieldLink RX3 9 "FoldedWays$Marks" "width" "I", .constantLong RX3 50 (65536)] ++ wsX30)
def wsX3_drawMark : List Cond := .code yX3_drawMark cX3_drawMark 4 (some .long) :: ([.fieldLink RX3 15 "FoldedWays$Marks" "drawn" "I", .methodLink RX3 40 yX3_drawBit, .instanceMethod yX3_drawBit, .selects RX3 yX3_drawBit yX3_drawBit, .initialized RX3, .code yX3_drawBit cX3_drawBit 1 (some .int), .constantLong RX3 44 (1103515245), .fieldLink RX3 32 "FoldedWays$Marks" "nextSeed" "J", .constantLong RX3 46 (12345), .constantLong RX3 48 (2147483648), .fieldLink RX3 9 "FoldedWays$Marks" "width" "I", .constantLong RX3 50 (65536)] ++ wsX30)
def wsX3_drawAll : List Cond := .code yX3_drawAll cX3_drawAll 4 none :: ([.fieldLink RX3 18 "FoldedWays$Marks" "seed" "I", .fieldLink RX3 32 "FoldedWays$Marks" "nextSeed" "J", .fieldLink RX3 21 "FoldedWays$Marks" "bits" "[J", .methodLink RX3 36 yX3_drawMark, .instanceMethod yX3_drawMark, .selects RX3 yX3_drawMark yX3_drawMark, .initialized RX3, .code yX3_drawMark cX3_drawMark 4 (some .long), .fieldLink RX3 15 "FoldedWays$Marks" "drawn" "I", .methodLink RX3 40 yX3_drawBit, .instanceMethod yX3_drawBit, .selects RX3 yX3_drawBit yX3_drawBit, .code yX3_drawBit cX3_drawBit 1 (some .int), .constantLong RX3 44 (1103515245), .constantLong RX3 46 (12345), .constantLong RX3 48 (2147483648), .fieldLink RX3 9 "FoldedWays$Marks" "width" "I", .constantLong RX3 50 (65536)] ++ wsX30)
def wsX3_reduced : List Cond := .code yX3_reduced cX3_reduced 4 (some .int) :: ([.fieldLink RX3 9 "FoldedWays$Marks" "width" "I"] ++ wsX30)
def wsX3_power : List Cond := .code yX3_power cX3_power 4 (some .int) :: ([.fieldLink RX3 15 "FoldedWays$Marks" "drawn" "I"] ++ wsX30)
def wsX3_oddsAbove : List Cond := .code yX3_oddsAbove cX3_oddsAbove 2 (some .int) :: ([.methodLink RX3 52 yX3_reduced, .instanceMethod yX3_reduced, .selects RX3 yX3_reduced yX3_reduced, .initialized RX3, .code yX3_reduced cX3_reduced 4 (some .int), .fieldLink RX3 9 "FoldedWays$Marks" "width" "I", .methodLink RX3 56 yX3_power, .instanceMethod yX3_power, .selects RX3 yX3_power yX3_power, .code yX3_power cX3_power 4 (some .int), .fieldLink RX3 15 "FoldedWays$Marks" "drawn" "I"] ++ wsX30)
def wsX3_oddsBelow : List Cond := .code yX3_oddsBelow cX3_oddsBelow 2 (some .int) :: ([.fieldLink RX3 9 "FoldedWays$Marks" "width" "I", .methodLink RX3 52 yX3_reduced, .instanceMethod yX3_reduced, .selects RX3 yX3_reduced yX3_reduced, .initialized RX3, .code yX3_reduced cX3_reduced 4 (some .int), .methodLink RX3 56 yX3_power, .instanceMethod yX3_power, .selects RX3 yX3_power yX3_power, .code yX3_power cX3_power 4 (some .int), .fieldLink RX3 15 "FoldedWays$Marks" "drawn" "I"] ++ wsX30)
def wsX4_init : List Cond := .code yX4_init cX4_init 1 none :: ([.methodLink RX4 3 objectInit, .instanceMethod objectInit, .code objectInit ⟨#[0xb1]⟩ 1 none, .arrayClass .int, .fieldLink RX4 11 "FoldedWays$Page" "codes" "[I"] ++ wsX40)
def wsX4_size : List Cond := .code yX4_size cX4_size 1 (some .int) :: ([.fieldLink RX4 15 "FoldedWays$Page" "length" "I"] ++ wsX40)
def wsX4_isFull : List Cond := .code yX4_isFull cX4_isFull 1 (some .boolean) :: ([.fieldLink RX4 15 "FoldedWays$Page" "length" "I"] ++ wsX40)
def wsX4_append : List Cond := .code yX4_append cX4_append 2 none :: ([.fieldLink RX4 15 "FoldedWays$Page" "length" "I", .fieldLink RX4 11 "FoldedWays$Page" "codes" "[I"] ++ wsX40)
def wsX4_clear : List Cond := .code yX4_clear cX4_clear 1 none :: ([.fieldLink RX4 15 "FoldedWays$Page" "length" "I"] ++ wsX40)
def wsX4_isNodeAt : List Cond := .code yX4_isNodeAt cX4_isNodeAt 2 (some .boolean) :: ([.methodLink RX4 23 yX4_digitAt, .instanceMethod yX4_digitAt, .selects RX4 yX4_digitAt yX4_digitAt, .initialized RX4, .code yX4_digitAt cX4_digitAt 2 (some .int), .methodLink RX4 19 yX4_codeAt, .instanceMethod yX4_codeAt, .selects RX4 yX4_codeAt yX4_codeAt, .code yX4_codeAt cX4_codeAt 2 (some .int), .fieldLink RX4 15 "FoldedWays$Page" "length" "I", .fieldLink RX4 11 "FoldedWays$Page" "codes" "[I"] ++ wsX40)
def wsX4_endsNewPair : List Cond := .code yX4_endsNewPair cX4_endsNewPair 8 (some .boolean) :: ([.methodLink RX4 23 yX4_digitAt, .instanceMethod yX4_digitAt, .selects RX4 yX4_digitAt yX4_digitAt, .initialized RX4, .code yX4_digitAt cX4_digitAt 2 (some .int), .methodLink RX4 19 yX4_codeAt, .instanceMethod yX4_codeAt, .selects RX4 yX4_codeAt yX4_codeAt, .code yX4_codeAt cX4_codeAt 2 (some .int), .fieldLink RX4 15 "FoldedWays$Page" "length" "I", .fieldLink RX4 11 "FoldedWays$Page" "codes" "[I", .methodLink RX4 40 yX4_firstOfPair, .instanceMethod yX4_firstOfPair, .selects RX4 yX4_firstOfPair yX4_firstOfPair, .code yX4_firstOfPair cX4_firstOfPair 2 (some .int), .methodLink RX4 43 yX4_secondOfPair, .instanceMethod yX4_secondOfPair, .selects RX4 yX4_secondOfPair yX4_secondOfPair, .code yX4_secondOfPair cX4_secondOfPair 2 (some .int)] ++ wsX40)
def wsX4_fits_r1 : List Cond := [Cond.methodLink RX4 23 yX4_digitAt, Cond.instanceMethod yX4_digitAt, Cond.selects RX4 yX4_digitAt yX4_digitAt, Cond.initialized RX4, Cond.code yX4_digitAt cX4_digitAt 2 (some .int), Cond.methodLink RX4 19 yX4_codeAt, Cond.instanceMethod yX4_codeAt, Cond.selects RX4 yX4_codeAt yX4_codeAt, Cond.code yX4_codeAt cX4_codeAt 2 (some .int), Cond.fieldLink RX4 15 "FoldedWays$Page" "length" "I", Cond.fieldLink RX4 11 "FoldedWays$Page" "codes" "[I", Cond.methodLink RX4 34 yX4_isNodeAt, Cond.instanceMethod yX4_isNodeAt, Cond.selects RX4 yX4_isNodeAt yX4_isNodeAt, Cond.code yX4_isNodeAt cX4_isNodeAt 2 (some .boolean), Cond.methodLink RX4 37 yX4_endsNewPair, Cond.instanceMethod yX4_endsNewPair, Cond.selects RX4 yX4_endsNewPair yX4_endsNewPair, Cond.code yX4_endsNewPair cX4_endsNewPair 8 (some .boolean), Cond.methodLink RX4 40 yX4_firstOfPair, Cond.instanceMethod yX4_firstOfPair, Cond.selects RX4 yX4_firstOfPair yX4_firstOfPair, Cond.code yX4_firstOfPair cX4_firstOfPair 2 (some .int), Cond.methodLink RX4 43 yX4_secondOfPair]
def wsX4_fits_r2 : List Cond := [Cond.instanceMethod yX4_secondOfPair, Cond.selects RX4 yX4_secondOfPair yX4_secondOfPair, Cond.code yX4_secondOfPair cX4_secondOfPair 2 (some .int)]
def wsX4_fits : List Cond := .code yX4_fits cX4_fits 2 (some .boolean) :: ((wsX4_fits_r1 ++ wsX4_fits_r2) ++ wsX40)
def wsX4_firstWrong_r1 : List Cond := [Cond.fieldLink RX4 15 "FoldedWays$Page" "length" "I", Cond.methodLink RX4 30 yX4_fits, Cond.instanceMethod yX4_fits, Cond.selects RX4 yX4_fits yX4_fits, Cond.initialized RX4, Cond.code yX4_fits cX4_fits 2 (some .boolean), Cond.methodLink RX4 23 yX4_digitAt, Cond.instanceMethod yX4_digitAt, Cond.selects RX4 yX4_digitAt yX4_digitAt, Cond.code yX4_digitAt cX4_digitAt 2 (some .int), Cond.methodLink RX4 19 yX4_codeAt, Cond.instanceMethod yX4_codeAt, Cond.selects RX4 yX4_codeAt yX4_codeAt, Cond.code yX4_codeAt cX4_codeAt 2 (some .int), Cond.fieldLink RX4 11 "FoldedWays$Page" "codes" "[I", Cond.methodLink RX4 34 yX4_isNodeAt, Cond.instanceMethod yX4_isNodeAt, Cond.selects RX4 yX4_isNodeAt yX4_isNodeAt, Cond.code yX4_isNodeAt cX4_isNodeAt 2 (some .boolean), Cond.methodLink RX4 37 yX4_endsNewPair, Cond.instanceMethod yX4_endsNewPair, Cond.selects RX4 yX4_endsNewPair yX4_endsNewPair, Cond.code yX4_endsNewPair cX4_endsNewPair 8 (some .boolean), Cond.methodLink RX4 40 yX4_firstOfPair]
def wsX4_firstWrong_r2 : List Cond := [Cond.instanceMethod yX4_firstOfPair, Cond.selects RX4 yX4_firstOfPair yX4_firstOfPair, Cond.code yX4_firstOfPair cX4_firstOfPair 2 (some .int), Cond.methodLink RX4 43 yX4_secondOfPair, Cond.instanceMethod yX4_secondOfPair, Cond.selects RX4 yX4_secondOfPair yX4_secondOfPair, Cond.code yX4_secondOfPair cX4_secondOfPair 2 (some .int)]
def wsX4_firstWrong : List Cond := .code yX4_firstWrong cX4_firstWrong 2 (some .int) :: ((wsX4_firstWrong_r1 ++ wsX4_firstWrong_r2) ++ wsX40)
def wsX4_isWhole_r1 : List Cond := [Cond.fieldLink RX4 15 "FoldedWays$Page" "length" "I", Cond.methodLink RX4 26 yX4_firstWrong, Cond.instanceMethod yX4_firstWrong, Cond.selects RX4 yX4_firstWrong yX4_firstWrong, Cond.initialized RX4, Cond.code yX4_firstWrong cX4_firstWrong 2 (some .int), Cond.methodLink RX4 30 yX4_fits, Cond.instanceMethod yX4_fits, Cond.selects RX4 yX4_fits yX4_fits, Cond.code yX4_fits cX4_fits 2 (some .boolean), Cond.methodLink RX4 23 yX4_digitAt, Cond.instanceMethod yX4_digitAt, Cond.selects RX4 yX4_digitAt yX4_digitAt, Cond.code yX4_digitAt cX4_digitAt 2 (some .int), Cond.methodLink RX4 19 yX4_codeAt, Cond.instanceMethod yX4_codeAt, Cond.selects RX4 yX4_codeAt yX4_codeAt, Cond.code yX4_codeAt cX4_codeAt 2 (some .int), Cond.fieldLink RX4 11 "FoldedWays$Page" "codes" "[I", Cond.methodLink RX4 34 yX4_isNodeAt, Cond.instanceMethod yX4_isNodeAt, Cond.selects RX4 yX4_isNodeAt yX4_isNodeAt, Cond.code yX4_isNodeAt cX4_isNodeAt 2 (some .boolean), Cond.methodLink RX4 37 yX4_endsNewPair]
def wsX4_isWhole_r2 : List Cond := [Cond.instanceMethod yX4_endsNewPair, Cond.selects RX4 yX4_endsNewPair yX4_endsNewPair, Cond.code yX4_endsNewPair cX4_endsNewPair 8 (some .boolean), Cond.methodLink RX4 40 yX4_firstOfPair, Cond.instanceMethod yX4_firstOfPair, Cond.selects RX4 yX4_firstOfPair yX4_firstOfPair, Cond.code yX4_firstOfPair cX4_firstOfPair 2 (some .int), Cond.methodLink RX4 43 yX4_secondOfPair, Cond.instanceMethod yX4_secondOfPair, Cond.selects RX4 yX4_secondOfPair yX4_secondOfPair, Cond.code yX4_secondOfPair cX4_secondOfPair 2 (some .int)]
def wsX4_isWhole : List Cond := .code yX4_isWhole cX4_isWhole 1 (some .boolean) :: ((wsX4_isWhole_r1 ++ wsX4_isWhole_r2) ++ wsX40)
def wsX5_init_r1 : List Cond := [Cond.methodLink RX5 1 objectInit, Cond.instanceMethod objectInit, Cond.code objectInit ⟨#[0xb1]⟩ 1 none, Cond.classLink RX5 7 RX4, Cond.instantiable RX4 2, Cond.initialized RX4, Cond.fieldLink RX5 10 "FoldedWays" "page" "LFoldedWays$Page;", Cond.classLink RX5 16 RX2, Cond.instantiable RX2 8, Cond.initialized RX2, Cond.fieldLink RX5 19 "FoldedWays" "graph" "LFoldedWays$Graph;", Cond.classLink RX5 23 RX3, Cond.instantiable RX3 5, Cond.initialized RX3, Cond.fieldLink RX5 26 "FoldedWays" "marks" "LFoldedWays$Marks;", Cond.classLink RX5 30 RX0, Cond.instantiable RX0 1, Cond.initialized RX0, Cond.fieldLink RX5 33 "FoldedWays" "bundles" "LFoldedWays$Bundles;", Cond.classLink RX5 37 RX1, Cond.instantiable RX1 7, Cond.initialized RX1, Cond.fieldLink RX5 40 "FoldedWays" "flow" "LFoldedWays$Flow;", Cond.methodLink RX5 9 yX4_init]
def wsX5_init_r2 : List Cond := [Cond.instanceMethod yX4_init, Cond.code yX4_init cX4_init 1 none, Cond.methodLink RX4 3 objectInit, Cond.arrayClass .int, Cond.fieldLink RX4 11 "FoldedWays$Page" "codes" "[I", Cond.methodLink RX5 18 yX2_init, Cond.instanceMethod yX2_init, Cond.code yX2_init cX2_init 1 none, Cond.methodLink RX2 3 objectInit, Cond.fieldLink RX2 9 "FoldedWays$Graph" "start" "[I", Cond.fieldLink RX2 15 "FoldedWays$Graph" "end" "[I", Cond.fieldLink RX2 18 "FoldedWays$Graph" "linkBetween" "[I", Cond.fieldLink RX2 21 "FoldedWays$Graph" "wayLength" "[I", Cond.fieldLink RX2 24 "FoldedWays$Graph" "wayNext" "[I", Cond.fieldLink RX2 27 "FoldedWays$Graph" "wayLinks" "[I", Cond.methodLink RX5 25 yX3_init, Cond.instanceMethod yX3_init, Cond.code yX3_init cX3_init 1 none, Cond.methodLink RX3 3 objectInit, Cond.fieldLink RX3 9 "FoldedWays$Marks" "width" "I", Cond.fieldLink RX3 15 "FoldedWays$Marks" "drawn" "I", Cond.fieldLink RX3 18 "FoldedWays$Marks" "seed" "I", Cond.arrayClass .long, Cond.fieldLink RX3 21 "FoldedWays$Marks" "bits" "[J"]
def wsX5_init_r3 : List Cond := [Cond.methodLink RX5 32 yX0_init, Cond.instanceMethod yX0_init, Cond.code yX0_init cX0_init 1 none, Cond.methodLink RX0 3 objectInit, Cond.fieldLink RX0 9 "FoldedWays$Bundles" "links" "[I", Cond.instanceMethod yX1_init, Cond.code yX1_init cX1_init 1 none, Cond.methodLink RX1 3 objectInit]
def wsX5_init : List Cond := .code yX5_init cX5_init 1 none :: ((wsX5_init_r1 ++ (wsX5_init_r2 ++ wsX5_init_r3)) ++ wsX40 ++ wsX50 ++ wsX20 ++ wsX30 ++ wsX00 ++ wsX10)
def wsX5_letter : List Cond := .code yX5_letter cX5_letter 2 (some .int) :: ([.fieldLink RX5 10 "FoldedWays" "page" "LFoldedWays$Page;", .methodLink RX5 44 yX4_isFull, .instanceMethod yX4_isFull, .selects RX4 yX4_isFull yX4_isFull, .initialized RX4, .code yX4_isFull cX4_isFull 1 (some .boolean), .fieldLink RX4 15 "FoldedWays$Page" "length" "I", .methodLink RX5 48 yX4_append, .instanceMethod yX4_append, .selects RX4 yX4_append yX4_append, .code yX4_append cX4_append 2 none, .fieldLink RX4 11 "FoldedWays$Page" "codes" "[I", .methodLink RX5 52 yX4_size, .instanceMethod yX4_size, .selects RX4 yX4_size yX4_size, .code yX4_size cX4_size 1 (some .int)] ++ wsX50 ++ wsX40)
def wsX5_blank : List Cond := .code yX5_blank cX5_blank 2 (some .int) :: ([.fieldLink RX5 10 "FoldedWays" "page" "LFoldedWays$Page;", .methodLink RX5 52 yX4_size, .instanceMethod yX4_size, .selects RX4 yX4_size yX4_size, .initialized RX4, .code yX4_size cX4_size 1 (some .int), .fieldLink RX4 15 "FoldedWays$Page" "length" "I", .methodLink RX5 56 yX4_clear, .instanceMethod yX4_clear, .selects RX4 yX4_clear yX4_clear, .code yX4_clear cX4_clear 1 none] ++ wsX50 ++ wsX40)
def wsX5_fault_r1 : List Cond := [Cond.fieldLink RX5 10 "FoldedWays" "page" "LFoldedWays$Page;", Cond.methodLink RX5 59 yX4_firstWrong, Cond.instanceMethod yX4_firstWrong, Cond.selects RX4 yX4_firstWrong yX4_firstWrong, Cond.initialized RX4, Cond.code yX4_firstWrong cX4_firstWrong 2 (some .int), Cond.fieldLink RX4 15 "FoldedWays$Page" "length" "I", Cond.methodLink RX4 30 yX4_fits, Cond.instanceMethod yX4_fits, Cond.selects RX4 yX4_fits yX4_fits, Cond.code yX4_fits cX4_fits 2 (some .boolean), Cond.methodLink RX4 23 yX4_digitAt, Cond.instanceMethod yX4_digitAt, Cond.selects RX4 yX4_digitAt yX4_digitAt, Cond.code yX4_digitAt cX4_digitAt 2 (some .int), Cond.methodLink RX4 19 yX4_codeAt, Cond.instanceMethod yX4_codeAt, Cond.selects RX4 yX4_codeAt yX4_codeAt, Cond.code yX4_codeAt cX4_codeAt 2 (some .int), Cond.fieldLink RX4 11 "FoldedWays$Page" "codes" "[I", Cond.methodLink RX4 34 yX4_isNodeAt, Cond.instanceMethod yX4_isNodeAt, Cond.selects RX4 yX4_isNodeAt yX4_isNodeAt, Cond.code yX4_isNodeAt cX4_isNodeAt 2 (some .boolean)]
def wsX5_fault_r2 : List Cond := [Cond.methodLink RX4 37 yX4_endsNewPair, Cond.instanceMethod yX4_endsNewPair, Cond.selects RX4 yX4_endsNewPair yX4_endsNewPair, Cond.code yX4_endsNewPair cX4_endsNewPair 8 (some .boolean), Cond.methodLink RX4 40 yX4_firstOfPair, Cond.instanceMethod yX4_firstOfPair, Cond.selects RX4 yX4_firstOfPair yX4_firstOfPair, Cond.code yX4_firstOfPair cX4_firstOfPair 2 (some .int), Cond.methodLink RX4 43 yX4_secondOfPair, Cond.instanceMethod yX4_secondOfPair, Cond.selects RX4 yX4_secondOfPair yX4_secondOfPair, Cond.code yX4_secondOfPair cX4_secondOfPair 2 (some .int)]
def wsX5_fault : List Cond := .code yX5_fault cX5_fault 1 (some .int) :: ((wsX5_fault_r1 ++ wsX5_fault_r2) ++ wsX50 ++ wsX40)
def wsX5_net_r1 : List Cond := [Cond.fieldLink RX5 10 "FoldedWays" "page" "LFoldedWays$Page;", Cond.fieldLink RX5 19 "FoldedWays" "graph" "LFoldedWays$Graph;", Cond.fieldLink RX5 33 "FoldedWays" "bundles" "LFoldedWays$Bundles;", Cond.fieldLink RX5 26 "FoldedWays" "marks" "LFoldedWays$Marks;", Cond.fieldLink RX5 76 "FoldedWays" "netsRead" "I", Cond.methodLink RX5 62 yX4_isWhole, Cond.instanceMethod yX4_isWhole, Cond.selects RX4 yX4_isWhole yX4_isWhole, Cond.initialized RX4, Cond.code yX4_isWhole cX4_isWhole 1 (some .boolean), Cond.fieldLink RX4 15 "FoldedWays$Page" "length" "I", Cond.methodLink RX4 26 yX4_firstWrong, Cond.instanceMethod yX4_firstWrong, Cond.selects RX4 yX4_firstWrong yX4_firstWrong, Cond.code yX4_firstWrong cX4_firstWrong 2 (some .int), Cond.methodLink RX4 30 yX4_fits, Cond.instanceMethod yX4_fits, Cond.selects RX4 yX4_fits yX4_fits, Cond.code yX4_fits cX4_fits 2 (some .boolean), Cond.methodLink RX4 23 yX4_digitAt, Cond.instanceMethod yX4_digitAt, Cond.selects RX4 yX4_digitAt yX4_digitAt, Cond.code yX4_digitAt cX4_digitAt 2 (some .int), Cond.methodLink RX4 19 yX4_codeAt]
def wsX5_net_r2 : List Cond := [Cond.instanceMethod yX4_codeAt, Cond.selects RX4 yX4_codeAt yX4_codeAt, Cond.code yX4_codeAt cX4_codeAt 2 (some .int), Cond.fieldLink RX4 11 "FoldedWays$Page" "codes" "[I", Cond.methodLink RX4 34 yX4_isNodeAt, Cond.instanceMethod yX4_isNodeAt, Cond.selects RX4 yX4_isNodeAt yX4_isNodeAt, Cond.code yX4_isNodeAt cX4_isNodeAt 2 (some .boolean), Cond.methodLink RX4 37 yX4_endsNewPair, Cond.instanceMethod yX4_endsNewPair, Cond.selects RX4 yX4_endsNewPair yX4_endsNewPair, Cond.code yX4_endsNewPair cX4_endsNewPair 8 (some .boolean), Cond.methodLink RX4 40 yX4_firstOfPair, Cond.instanceMethod yX4_firstOfPair, Cond.selects RX4 yX4_firstOfPair yX4_firstOfPair, Cond.code yX4_firstOfPair cX4_firstOfPair 2 (some .int), Cond.methodLink RX4 43 yX4_secondOfPair, Cond.instanceMethod yX4_secondOfPair, Cond.selects RX4 yX4_secondOfPair yX4_secondOfPair, Cond.code yX4_secondOfPair cX4_secondOfPair 2 (some .int), Cond.methodLink RX5 65 yX2_read, Cond.instanceMethod yX2_read, Cond.selects RX2 yX2_read yX2_read, Cond.initialized RX2]
def wsX5_net_r3 : List Cond := [Cond.code yX2_read cX2_read 5 none, Cond.methodLink RX2 50 Lib.Math.min.name, Cond.static Lib.Math.min.name, Cond.initialized "java/lang/Math", Cond.code Lib.Math.min.name Lib.Math.min.code 2 (some .int), Cond.fieldLink RX2 30 "FoldedWays$Graph" "nodes" "I", Cond.methodLink RX2 41 yX2_forget, Cond.instanceMethod yX2_forget, Cond.selects RX2 yX2_forget yX2_forget, Cond.code yX2_forget cX2_forget 3 none, Cond.fieldLink RX2 34 "FoldedWays$Graph" "links" "I", Cond.fieldLink RX2 18 "FoldedWays$Graph" "linkBetween" "[I", Cond.fieldLink RX2 21 "FoldedWays$Graph" "wayLength" "[I", Cond.fieldLink RX2 24 "FoldedWays$Graph" "wayNext" "[I", Cond.fieldLink RX2 27 "FoldedWays$Graph" "wayLinks" "[I", Cond.methodLink RX2 73 yX2_at, Cond.static yX2_at, Cond.code yX2_at cX2_at 2 (some .int), Cond.methodLink RX2 44 yX4_digitAt, Cond.methodLink RX2 56 yX4_pairCount, Cond.instanceMethod yX4_pairCount, Cond.selects RX4 yX4_pairCount yX4_pairCount, Cond.code yX4_pairCount cX4_pairCount 1 (some .int), Cond.methodLink RX2 59 yX4_firstOfPair]
def wsX5_net_r4 : List Cond := [Cond.methodLink RX2 62 yX4_secondOfPair, Cond.methodLink RX2 65 yX2_addLink, Cond.instanceMethod yX2_addLink, Cond.selects RX2 yX2_addLink yX2_addLink, Cond.code yX2_addLink cX2_addLink 3 none, Cond.fieldLink RX2 9 "FoldedWays$Graph" "start" "[I", Cond.fieldLink RX2 15 "FoldedWays$Graph" "end" "[I", Cond.methodLink RX2 76 yX2_hasNode, Cond.instanceMethod yX2_hasNode, Cond.selects RX2 yX2_hasNode yX2_hasNode, Cond.code yX2_hasNode cX2_hasNode 2 (some .boolean), Cond.methodLink RX2 69 yX2_findWays, Cond.instanceMethod yX2_findWays, Cond.selects RX2 yX2_findWays yX2_findWays, Cond.code yX2_findWays cX2_findWays 4 none, Cond.methodLink RX2 80 yX2_findWay, Cond.instanceMethod yX2_findWay, Cond.selects RX2 yX2_findWay yX2_findWay, Cond.code yX2_findWay cX2_findWay 6 none, Cond.methodLink RX5 56 yX4_clear, Cond.instanceMethod yX4_clear, Cond.selects RX4 yX4_clear yX4_clear, Cond.code yX4_clear cX4_clear 1 none, Cond.methodLink RX5 69 yX0_clear]
def wsX5_net_r5 : List Cond := [Cond.instanceMethod yX0_clear, Cond.selects RX0 yX0_clear yX0_clear, Cond.initialized RX0, Cond.code yX0_clear cX0_clear 2 none, Cond.fieldLink RX0 9 "FoldedWays$Bundles" "links" "[I", Cond.methodLink RX5 70 yX2_linkCount, Cond.instanceMethod yX2_linkCount, Cond.selects RX2 yX2_linkCount yX2_linkCount, Cond.code yX2_linkCount cX2_linkCount 1 (some .int), Cond.methodLink RX5 73 yX3_drawAll, Cond.instanceMethod yX3_drawAll, Cond.selects RX3 yX3_drawAll yX3_drawAll, Cond.initialized RX3, Cond.code yX3_drawAll cX3_drawAll 4 none, Cond.fieldLink RX3 18 "FoldedWays$Marks" "seed" "I", Cond.fieldLink RX3 32 "FoldedWays$Marks" "nextSeed" "J", Cond.fieldLink RX3 21 "FoldedWays$Marks" "bits" "[J", Cond.methodLink RX3 36 yX3_drawMark, Cond.instanceMethod yX3_drawMark, Cond.selects RX3 yX3_drawMark yX3_drawMark, Cond.code yX3_drawMark cX3_drawMark 4 (some .long), Cond.fieldLink RX3 15 "FoldedWays$Marks" "drawn" "I", Cond.methodLink RX3 40 yX3_drawBit, Cond.instanceMethod yX3_drawBit]
def wsX5_net_r6 : List Cond := [Cond.selects RX3 yX3_drawBit yX3_drawBit, Cond.code yX3_drawBit cX3_drawBit 1 (some .int), Cond.constantLong RX3 44 (1103515245), Cond.constantLong RX3 46 (12345), Cond.constantLong RX3 48 (2147483648), Cond.fieldLink RX3 9 "FoldedWays$Marks" "width" "I", Cond.constantLong RX3 50 (65536)]
def wsX5_net : List Cond := .code yX5_net cX5_net 1 (some .int) :: ((wsX5_net_r1 ++ (wsX5_net_r2 ++ (wsX5_net_r3 ++ (wsX5_net_r4 ++ (wsX5_net_r5 ++ wsX5_net_r6))))) ++ wsX50 ++ wsX40 ++ wsX20 ++ wsX00 ++ wsX30)
def wsX5_set_r1 : List Cond := [Cond.fieldLink RX5 26 "FoldedWays" "marks" "LFoldedWays$Marks;", Cond.fieldLink RX5 19 "FoldedWays" "graph" "LFoldedWays$Graph;", Cond.methodLink RX5 80 yX3_allows, Cond.instanceMethod yX3_allows, Cond.selects RX3 yX3_allows yX3_allows, Cond.initialized RX3, Cond.code yX3_allows cX3_allows 3 (some .boolean), Cond.methodLink RX5 84 yX3_setting, Cond.instanceMethod yX3_setting, Cond.selects RX3 yX3_setting yX3_setting, Cond.code yX3_setting cX3_setting 2 (some .int), Cond.fieldLink RX3 9 "FoldedWays$Marks" "width" "I", Cond.fieldLink RX3 15 "FoldedWays$Marks" "drawn" "I", Cond.fieldLink RX3 18 "FoldedWays$Marks" "seed" "I", Cond.methodLink RX5 88 yX3_change, Cond.instanceMethod yX3_change, Cond.selects RX3 yX3_change yX3_change, Cond.code yX3_change cX3_change 3 none, Cond.methodLink RX5 70 yX2_linkCount, Cond.instanceMethod yX2_linkCount, Cond.selects RX2 yX2_linkCount yX2_linkCount, Cond.initialized RX2, Cond.code yX2_linkCount cX2_linkCount 1 (some .int), Cond.fieldLink RX2 34 "FoldedWays$Graph" "links" "I"]
def wsX5_set_r2 : List Cond := [Cond.methodLink RX5 73 yX3_drawAll, Cond.instanceMethod yX3_drawAll, Cond.selects RX3 yX3_drawAll yX3_drawAll, Cond.code yX3_drawAll cX3_drawAll 4 none, Cond.fieldLink RX3 32 "FoldedWays$Marks" "nextSeed" "J", Cond.fieldLink RX3 21 "FoldedWays$Marks" "bits" "[J", Cond.methodLink RX3 36 yX3_drawMark, Cond.instanceMethod yX3_drawMark, Cond.selects RX3 yX3_drawMark yX3_drawMark, Cond.code yX3_drawMark cX3_drawMark 4 (some .long), Cond.methodLink RX3 40 yX3_drawBit, Cond.instanceMethod yX3_drawBit, Cond.selects RX3 yX3_drawBit yX3_drawBit, Cond.code yX3_drawBit cX3_drawBit 1 (some .int), Cond.constantLong RX3 44 (1103515245), Cond.constantLong RX3 46 (12345), Cond.constantLong RX3 48 (2147483648), Cond.constantLong RX3 50 (65536)]
def wsX5_set : List Cond := .code yX5_set cX5_set 4 (some .int) :: ((wsX5_set_r1 ++ wsX5_set_r2) ++ wsX50 ++ wsX30 ++ wsX20)
def wsX5_mark : List Cond := .code yX5_mark cX5_mark 3 (some .long) :: ([.fieldLink RX5 19 "FoldedWays" "graph" "LFoldedWays$Graph;", .constantLong RX5 96 (-1001), .constantLong RX5 101 (-1002), .fieldLink RX5 26 "FoldedWays" "marks" "LFoldedWays$Marks;", .methodLink RX5 92 yX2_hasLink, .instanceMethod yX2_hasLink, .selects RX2 yX2_hasLink yX2_hasLink, .initialized RX2, .code yX2_hasLink cX2_hasLink 2 (some .boolean), .fieldLink RX2 34 "FoldedWays$Graph" "links" "I", .methodLink RX5 98 yX5_isVariant, .static yX5_isVariant, .initialized RX5, .code yX5_isVariant cX5_isVariant 1 (some .boolean), .methodLink RX5 103 yX3_ofLink, .instanceMethod yX3_ofLink, .selects RX3 yX3_ofLink yX3_ofLink, .initialized RX3, .code yX3_ofLink cX3_ofLink 3 (some .long), .fieldLink RX3 21 "FoldedWays$Marks" "bits" "[J"] ++ wsX50 ++ wsX20 ++ wsX30)
def wsX5_link : List Cond := .code yX5_link cX5_link 3 (some .int) :: ([.fieldLink RX5 19 "FoldedWays" "graph" "LFoldedWays$Graph;", .fieldLink RX5 33 "FoldedWays" "bundles" "LFoldedWays$Bundles;", .methodLink RX5 92 yX2_hasLink, .instanceMethod yX2_hasLink, .selects RX2 yX2_hasLink yX2_hasLink, .initialized RX2, .code yX2_hasLink cX2_hasLink 2 (some .boolean), .fieldLink RX2 34 "FoldedWays$Graph" "links" "I", .methodLink RX5 107 yX2_startOf, .instanceMethod yX2_startOf, .selects RX2 yX2_startOf yX2_startOf, .code yX2_startOf cX2_startOf 2 (some .int), .fieldLink RX2 9 "FoldedWays$Graph" "start" "[I", .methodLink RX5 110 yX2_endOf, .instanceMethod yX2_endOf, .selects RX2 yX2_endOf yX2_endOf, .code yX2_endOf cX2_endOf 2 (some .int), .fieldLink RX2 15 "FoldedWays$Graph" "end" "[I", .methodLink RX5 113 yX0_placesWith, .instanceMethod yX0_placesWith, .selects RX0 yX0_placesWith yX0_placesWith, .initialized RX0, .code yX0_placesWith cX0_placesWith 4 (some .int), .fieldLink RX0 9 "FoldedWays$Bundles" "links" "[I"] ++ wsX50 ++ wsX20 ++ wsX00)
def wsX5_way : List Cond := .code yX5_way cX5_way 4 (some .int) :: ([.fieldLink RX5 19 "FoldedWays" "graph" "LFoldedWays$Graph;", .methodLink RX5 116 yX2_hasNode, .instanceMethod yX2_hasNode, .selects RX2 yX2_hasNode yX2_hasNode, .initialized RX2, .code yX2_hasNode cX2_hasNode 2 (some .boolean), .fieldLink RX2 30 "FoldedWays$Graph" "nodes" "I", .methodLink RX5 119 yX2_nodeOnWay, .instanceMethod yX2_nodeOnWay, .selects RX2 yX2_nodeOnWay yX2_nodeOnWay, .code yX2_nodeOnWay cX2_nodeOnWay 6 (some .int), .fieldLink RX2 21 "FoldedWays$Graph" "wayLength" "[I", .fieldLink RX2 24 "FoldedWays$Graph" "wayNext" "[I", .methodLink RX2 76 yX2_hasNode, .methodLink RX2 73 yX2_at, .static yX2_at, .code yX2_at cX2_at 2 (some .int)] ++ wsX50 ++ wsX20)
def wsX5_tree : List Cond := .code yX5_tree cX5_tree 3 (some .int) :: ([.fieldLink RX5 19 "FoldedWays" "graph" "LFoldedWays$Graph;", .methodLink RX5 116 yX2_hasNode, .instanceMethod yX2_hasNode, .selects RX2 yX2_hasNode yX2_hasNode, .initialized RX2, .code yX2_hasNode cX2_hasNode 2 (some .boolean), .fieldLink RX2 30 "FoldedWays$Graph" "nodes" "I", .methodLink RX5 123 yX2_hasNodes, .instanceMethod yX2_hasNodes, .selects RX2 yX2_hasNodes yX2_hasNodes, .code yX2_hasNodes cX2_hasNodes 2 (some .boolean), .methodLink RX2 37 yX2_allNodes, .instanceMethod yX2_allNodes, .selects RX2 yX2_allNodes yX2_allNodes, .code yX2_allNodes cX2_allNodes 1 (some .int), .methodLink RX5 126 yX2_treeLinks, .instanceMethod yX2_treeLinks, .selects RX2 yX2_treeLinks yX2_treeLinks, .code yX2_treeLinks cX2_treeLinks 5 (some .int), .fieldLink RX2 27 "FoldedWays$Graph" "wayLinks" "[I", .methodLink RX2 76 yX2_hasNode, .methodLink RX2 73 yX2_at, .static yX2_at, .code yX2_at cX2_at 2 (some .int)] ++ wsX50 ++ wsX20)
def wsX5_bind_r1 : List Cond := [Cond.fieldLink RX5 19 "FoldedWays" "graph" "LFoldedWays$Graph;", Cond.fieldLink RX5 33 "FoldedWays" "bundles" "LFoldedWays$Bundles;", Cond.methodLink RX5 130 yX5_isPlace, Cond.static yX5_isPlace, Cond.initialized RX5, Cond.code yX5_isPlace cX5_isPlace 1 (some .boolean), Cond.methodLink RX5 116 yX2_hasNode, Cond.instanceMethod yX2_hasNode, Cond.selects RX2 yX2_hasNode yX2_hasNode, Cond.initialized RX2, Cond.code yX2_hasNode cX2_hasNode 2 (some .boolean), Cond.fieldLink RX2 30 "FoldedWays$Graph" "nodes" "I", Cond.methodLink RX5 123 yX2_hasNodes, Cond.instanceMethod yX2_hasNodes, Cond.selects RX2 yX2_hasNodes yX2_hasNodes, Cond.code yX2_hasNodes cX2_hasNodes 2 (some .boolean), Cond.methodLink RX2 37 yX2_allNodes, Cond.instanceMethod yX2_allNodes, Cond.selects RX2 yX2_allNodes yX2_allNodes, Cond.code yX2_allNodes cX2_allNodes 1 (some .int), Cond.methodLink RX5 126 yX2_treeLinks, Cond.instanceMethod yX2_treeLinks, Cond.selects RX2 yX2_treeLinks yX2_treeLinks, Cond.code yX2_treeLinks cX2_treeLinks 5 (some .int)]
def wsX5_bind_r2 : List Cond := [Cond.fieldLink RX2 27 "FoldedWays$Graph" "wayLinks" "[I", Cond.methodLink RX2 76 yX2_hasNode, Cond.methodLink RX2 73 yX2_at, Cond.static yX2_at, Cond.code yX2_at cX2_at 2 (some .int), Cond.methodLink RX5 133 yX0_isThere, Cond.instanceMethod yX0_isThere, Cond.selects RX0 yX0_isThere yX0_isThere, Cond.initialized RX0, Cond.code yX0_isThere cX0_isThere 2 (some .boolean), Cond.methodLink RX0 19 yX0_linksAt, Cond.instanceMethod yX0_linksAt, Cond.selects RX0 yX0_linksAt yX0_linksAt, Cond.code yX0_linksAt cX0_linksAt 2 (some .int), Cond.fieldLink RX0 9 "FoldedWays$Bundles" "links" "[I", Cond.methodLink RX5 136 yX0_put, Cond.instanceMethod yX0_put, Cond.selects RX0 yX0_put yX0_put, Cond.code yX0_put cX0_put 3 none, Cond.methodLink RX5 139 yJ6_bitCount_0f7a4, Cond.static yJ6_bitCount_0f7a4, Cond.initialized RJ6, Cond.code yJ6_bitCount_0f7a4 cJ6_bitCount_0f7a4 1 (some .int), Cond.constant RJ6 265 (1431655765)]
def wsX5_bind_r3 : List Cond := [Cond.constant RJ6 266 (858993459), Cond.constant RJ6 267 (252645135)]
def wsX5_bind : List Cond := .code yX5_bind cX5_bind 5 (some .int) :: ((wsX5_bind_r1 ++ (wsX5_bind_r2 ++ wsX5_bind_r3)) ++ wsX50 ++ wsX20 ++ wsX00)
def wsX5_loosen : List Cond := .code yX5_loosen cX5_loosen 3 (some .int) :: ([.fieldLink RX5 33 "FoldedWays" "bundles" "LFoldedWays$Bundles;", .methodLink RX5 130 yX5_isPlace, .static yX5_isPlace, .initialized RX5, .code yX5_isPlace cX5_isPlace 1 (some .boolean), .methodLink RX5 133 yX0_isThere, .instanceMethod yX0_isThere, .selects RX0 yX0_isThere yX0_isThere, .initialized RX0, .code yX0_isThere cX0_isThere 2 (some .boolean), .methodLink RX0 19 yX0_linksAt, .instanceMethod yX0_linksAt, .selects RX0 yX0_linksAt yX0_linksAt, .code yX0_linksAt cX0_linksAt 2 (some .int), .fieldLink RX0 9 "FoldedWays$Bundles" "links" "[I", .methodLink RX5 144 yX0_linksAt, .methodLink RX5 136 yX0_put, .instanceMethod yX0_put, .selects RX0 yX0_put yX0_put, .code yX0_put cX0_put 3 none] ++ wsX50 ++ wsX00)
def wsX5_bound_r1 : List Cond := [Cond.fieldLink RX5 33 "FoldedWays" "bundles" "LFoldedWays$Bundles;", Cond.constantLong RX5 96 (-1001), Cond.constantLong RX5 101 (-1002), Cond.fieldLink RX5 26 "FoldedWays" "marks" "LFoldedWays$Marks;", Cond.methodLink RX5 130 yX5_isPlace, Cond.static yX5_isPlace, Cond.initialized RX5, Cond.code yX5_isPlace cX5_isPlace 1 (some .boolean), Cond.methodLink RX5 133 yX0_isThere, Cond.instanceMethod yX0_isThere, Cond.selects RX0 yX0_isThere yX0_isThere, Cond.initialized RX0, Cond.code yX0_isThere cX0_isThere 2 (some .boolean), Cond.methodLink RX0 19 yX0_linksAt, Cond.instanceMethod yX0_linksAt, Cond.selects RX0 yX0_linksAt yX0_linksAt, Cond.code yX0_linksAt cX0_linksAt 2 (some .int), Cond.fieldLink RX0 9 "FoldedWays$Bundles" "links" "[I", Cond.methodLink RX5 98 yX5_isVariant, Cond.static yX5_isVariant, Cond.code yX5_isVariant cX5_isVariant 1 (some .boolean), Cond.methodLink RX5 147 yX3_ofBundle, Cond.instanceMethod yX3_ofBundle, Cond.selects RX3 yX3_ofBundle yX3_ofBundle]
def wsX5_bound_r2 : List Cond := [Cond.initialized RX3, Cond.code yX3_ofBundle cX3_ofBundle 3 (some .long), Cond.fieldLink RX3 21 "FoldedWays$Marks" "bits" "[J"]
def wsX5_bound : List Cond := .code yX5_bound cX5_bound 3 (some .long) :: ((wsX5_bound_r1 ++ wsX5_bound_r2) ++ wsX50 ++ wsX00 ++ wsX30)
def wsX5_foldedBits_r1 : List Cond := [Cond.fieldLink RX5 33 "FoldedWays" "bundles" "LFoldedWays$Bundles;", Cond.fieldLink RX5 26 "FoldedWays" "marks" "LFoldedWays$Marks;", Cond.fieldLink RX5 19 "FoldedWays" "graph" "LFoldedWays$Graph;", Cond.methodLink RX5 144 yX0_linksAt, Cond.instanceMethod yX0_linksAt, Cond.selects RX0 yX0_linksAt yX0_linksAt, Cond.initialized RX0, Cond.code yX0_linksAt cX0_linksAt 2 (some .int), Cond.fieldLink RX0 9 "FoldedWays$Bundles" "links" "[I", Cond.static yX5_isPlace, Cond.initialized RX5, Cond.code yX5_isPlace cX5_isPlace 1 (some .boolean), Cond.methodLink RX5 147 yX3_ofBundle, Cond.instanceMethod yX3_ofBundle, Cond.selects RX3 yX3_ofBundle yX3_ofBundle, Cond.initialized RX3, Cond.code yX3_ofBundle cX3_ofBundle 3 (some .long), Cond.fieldLink RX3 21 "FoldedWays$Marks" "bits" "[J", Cond.static yX5_isVariant, Cond.code yX5_isVariant cX5_isVariant 1 (some .boolean), Cond.methodLink RX5 70 yX2_linkCount, Cond.instanceMethod yX2_linkCount, Cond.selects RX2 yX2_linkCount yX2_linkCount, Cond.initialized RX2]
def wsX5_foldedBits_r2 : List Cond := [Cond.code yX2_linkCount cX2_linkCount 1 (some .int), Cond.fieldLink RX2 34 "FoldedWays$Graph" "links" "I", Cond.methodLink RX5 103 yX3_ofLink, Cond.instanceMethod yX3_ofLink, Cond.selects RX3 yX3_ofLink yX3_ofLink, Cond.code yX3_ofLink cX3_ofLink 3 (some .long)]
def wsX5_foldedBits : List Cond := .code yX5_foldedBits cX5_foldedBits 9 (some .long) :: ((wsX5_foldedBits_r1 ++ wsX5_foldedBits_r2) ++ wsX50 ++ wsX00 ++ wsX30 ++ wsX20)
def wsX5_fold_r1 : List Cond := [Cond.fieldLink RX5 19 "FoldedWays" "graph" "LFoldedWays$Graph;", Cond.constantLong RX5 96 (-1001), Cond.constantLong RX5 101 (-1002), Cond.methodLink RX5 116 yX2_hasNode, Cond.instanceMethod yX2_hasNode, Cond.selects RX2 yX2_hasNode yX2_hasNode, Cond.initialized RX2, Cond.code yX2_hasNode cX2_hasNode 2 (some .boolean), Cond.fieldLink RX2 30 "FoldedWays$Graph" "nodes" "I", Cond.methodLink RX5 123 yX2_hasNodes, Cond.instanceMethod yX2_hasNodes, Cond.selects RX2 yX2_hasNodes yX2_hasNodes, Cond.code yX2_hasNodes cX2_hasNodes 2 (some .boolean), Cond.methodLink RX2 37 yX2_allNodes, Cond.instanceMethod yX2_allNodes, Cond.selects RX2 yX2_allNodes yX2_allNodes, Cond.code yX2_allNodes cX2_allNodes 1 (some .int), Cond.methodLink RX5 98 yX5_isVariant, Cond.static yX5_isVariant, Cond.initialized RX5, Cond.code yX5_isVariant cX5_isVariant 1 (some .boolean), Cond.methodLink RX5 126 yX2_treeLinks, Cond.instanceMethod yX2_treeLinks, Cond.selects RX2 yX2_treeLinks yX2_treeLinks]
def wsX5_fold_r2 : List Cond := [Cond.code yX2_treeLinks cX2_treeLinks 5 (some .int), Cond.fieldLink RX2 27 "FoldedWays$Graph" "wayLinks" "[I", Cond.methodLink RX2 76 yX2_hasNode, Cond.methodLink RX2 73 yX2_at, Cond.static yX2_at, Cond.code yX2_at cX2_at 2 (some .int), Cond.methodLink RX5 150 yX5_foldedBits, Cond.instanceMethod yX5_foldedBits, Cond.selects RX5 yX5_foldedBits yX5_foldedBits, Cond.code yX5_foldedBits cX5_foldedBits 9 (some .long), Cond.fieldLink RX5 33 "FoldedWays" "bundles" "LFoldedWays$Bundles;", Cond.fieldLink RX5 26 "FoldedWays" "marks" "LFoldedWays$Marks;", Cond.methodLink RX5 144 yX0_linksAt, Cond.instanceMethod yX0_linksAt, Cond.selects RX0 yX0_linksAt yX0_linksAt, Cond.initialized RX0, Cond.code yX0_linksAt cX0_linksAt 2 (some .int), Cond.fieldLink RX0 9 "FoldedWays$Bundles" "links" "[I", Cond.static yX5_isPlace, Cond.code yX5_isPlace cX5_isPlace 1 (some .boolean), Cond.methodLink RX5 147 yX3_ofBundle, Cond.instanceMethod yX3_ofBundle, Cond.selects RX3 yX3_ofBundle yX3_ofBundle, Cond.initialized RX3]
def wsX5_fold_r3 : List Cond := [Cond.code yX3_ofBundle cX3_ofBundle 3 (some .long), Cond.fieldLink RX3 21 "FoldedWays$Marks" "bits" "[J", Cond.methodLink RX5 70 yX2_linkCount, Cond.instanceMethod yX2_linkCount, Cond.selects RX2 yX2_linkCount yX2_linkCount, Cond.code yX2_linkCount cX2_linkCount 1 (some .int), Cond.fieldLink RX2 34 "FoldedWays$Graph" "links" "I", Cond.methodLink RX5 103 yX3_ofLink, Cond.instanceMethod yX3_ofLink, Cond.selects RX3 yX3_ofLink yX3_ofLink, Cond.code yX3_ofLink cX3_ofLink 3 (some .long)]
def wsX5_fold : List Cond := .code yX5_fold cX5_fold 5 (some .long) :: ((wsX5_fold_r1 ++ (wsX5_fold_r2 ++ wsX5_fold_r3)) ++ wsX50 ++ wsX20 ++ wsX00 ++ wsX30)
def wsX5_matchingLinks_r1 : List Cond := [Cond.fieldLink RX5 19 "FoldedWays" "graph" "LFoldedWays$Graph;", Cond.fieldLink RX5 26 "FoldedWays" "marks" "LFoldedWays$Marks;", Cond.constantLong RX5 210 (-1), Cond.fieldLink RX5 33 "FoldedWays" "bundles" "LFoldedWays$Bundles;", Cond.methodLink RX5 70 yX2_linkCount, Cond.instanceMethod yX2_linkCount, Cond.selects RX2 yX2_linkCount yX2_linkCount, Cond.initialized RX2, Cond.code yX2_linkCount cX2_linkCount 1 (some .int), Cond.fieldLink RX2 34 "FoldedWays$Graph" "links" "I", Cond.methodLink RX5 103 yX3_ofLink, Cond.instanceMethod yX3_ofLink, Cond.selects RX3 yX3_ofLink yX3_ofLink, Cond.initialized RX3, Cond.code yX3_ofLink cX3_ofLink 3 (some .long), Cond.fieldLink RX3 21 "FoldedWays$Marks" "bits" "[J", Cond.static yX5_isVariant, Cond.initialized RX5, Cond.code yX5_isVariant cX5_isVariant 1 (some .boolean), Cond.methodLink RX5 147 yX3_ofBundle, Cond.instanceMethod yX3_ofBundle, Cond.selects RX3 yX3_ofBundle yX3_ofBundle, Cond.code yX3_ofBundle cX3_ofBundle 3 (some .long), Cond.static yX5_isPlace]
def wsX5_matchingLinks_r2 : List Cond := [Cond.code yX5_isPlace cX5_isPlace 1 (some .boolean), Cond.methodLink RX5 144 yX0_linksAt, Cond.instanceMethod yX0_linksAt, Cond.selects RX0 yX0_linksAt yX0_linksAt, Cond.initialized RX0, Cond.code yX0_linksAt cX0_linksAt 2 (some .int), Cond.fieldLink RX0 9 "FoldedWays$Bundles" "links" "[I"]
def wsX5_matchingLinks : List Cond := .code yX5_matchingLinks cX5_matchingLinks 6 (some .int) :: ((wsX5_matchingLinks_r1 ++ wsX5_matchingLinks_r2) ++ wsX50 ++ wsX20 ++ wsX30 ++ wsX00)
def wsJ13_bitCount_95d88 : List Cond := .code yJ13_bitCount_95d88 cJ13_bitCount_95d88 2 (some .int) :: ([.constantLong RJ13 314 (6148914691236517205), .constantLong RJ13 316 (3689348814741910323), .constantLong RJ13 318 (1085102592571150095)])
def wsX5_spreadOut_r1 : List Cond := [Cond.fieldLink RX5 19 "FoldedWays" "graph" "LFoldedWays$Graph;", Cond.fieldLink RX5 40 "FoldedWays" "flow" "LFoldedWays$Flow;", Cond.fieldLink RX5 225 "FoldedWays$Flow" "foldBits" "I", Cond.methodLink RX5 126 yX2_treeLinks, Cond.instanceMethod yX2_treeLinks, Cond.selects RX2 yX2_treeLinks yX2_treeLinks, Cond.initialized RX2, Cond.code yX2_treeLinks cX2_treeLinks 5 (some .int), Cond.fieldLink RX2 30 "FoldedWays$Graph" "nodes" "I", Cond.fieldLink RX2 27 "FoldedWays$Graph" "wayLinks" "[I", Cond.methodLink RX2 76 yX2_hasNode, Cond.instanceMethod yX2_hasNode, Cond.selects RX2 yX2_hasNode yX2_hasNode, Cond.code yX2_hasNode cX2_hasNode 2 (some .boolean), Cond.methodLink RX2 73 yX2_at, Cond.static yX2_at, Cond.code yX2_at cX2_at 2 (some .int), Cond.methodLink RX5 150 yX5_foldedBits, Cond.instanceMethod yX5_foldedBits, Cond.selects RX5 yX5_foldedBits yX5_foldedBits, Cond.initialized RX5, Cond.code yX5_foldedBits cX5_foldedBits 9 (some .long), Cond.fieldLink RX5 33 "FoldedWays" "bundles" "LFoldedWays$Bundles;", Cond.fieldLink RX5 26 "FoldedWays" "marks" "LFoldedWays$Marks;"]
def wsX5_spreadOut_r2 : List Cond := [Cond.methodLink RX5 144 yX0_linksAt, Cond.instanceMethod yX0_linksAt, Cond.selects RX0 yX0_linksAt yX0_linksAt, Cond.initialized RX0, Cond.code yX0_linksAt cX0_linksAt 2 (some .int), Cond.fieldLink RX0 9 "FoldedWays$Bundles" "links" "[I", Cond.static yX5_isPlace, Cond.code yX5_isPlace cX5_isPlace 1 (some .boolean), Cond.methodLink RX5 147 yX3_ofBundle, Cond.instanceMethod yX3_ofBundle, Cond.selects RX3 yX3_ofBundle yX3_ofBundle, Cond.initialized RX3, Cond.code yX3_ofBundle cX3_ofBundle 3 (some .long), Cond.fieldLink RX3 21 "FoldedWays$Marks" "bits" "[J", Cond.static yX5_isVariant, Cond.code yX5_isVariant cX5_isVariant 1 (some .boolean), Cond.methodLink RX5 70 yX2_linkCount, Cond.instanceMethod yX2_linkCount, Cond.selects RX2 yX2_linkCount yX2_linkCount, Cond.code yX2_linkCount cX2_linkCount 1 (some .int), Cond.fieldLink RX2 34 "FoldedWays$Graph" "links" "I", Cond.methodLink RX5 103 yX3_ofLink, Cond.instanceMethod yX3_ofLink, Cond.selects RX3 yX3_ofLink yX3_ofLink]
def wsX5_spreadOut_r3 : List Cond := [Cond.code yX3_ofLink cX3_ofLink 3 (some .long), Cond.methodLink RX5 212 yX5_matchingLinks, Cond.instanceMethod yX5_matchingLinks, Cond.selects RX5 yX5_matchingLinks yX5_matchingLinks, Cond.code yX5_matchingLinks cX5_matchingLinks 6 (some .int), Cond.constantLong RX5 210 (-1), Cond.methodLink RX5 216 yX1_run, Cond.instanceMethod yX1_run, Cond.selects RX1 yX1_run yX1_run, Cond.initialized RX1, Cond.code yX1_run cX1_run 7 none, Cond.fieldLink RX1 9 "FoldedWays$Flow" "passages" "I", Cond.fieldLink RX1 15 "FoldedWays$Flow" "astray" "I", Cond.fieldLink RX1 18 "FoldedWays$Flow" "loops" "I", Cond.fieldLink RX1 21 "FoldedWays$Flow" "steps" "I", Cond.fieldLink RX1 24 "FoldedWays$Flow" "reached" "I", Cond.fieldLink RX1 33 "FoldedWays$Flow" "matchingAside" "I", Cond.methodLink RX1 27 yJ6_bitCount_0f7a4, Cond.static yJ6_bitCount_0f7a4, Cond.initialized RJ6, Cond.code yJ6_bitCount_0f7a4 cJ6_bitCount_0f7a4 1 (some .int), Cond.constant RJ6 265 (1431655765), Cond.constant RJ6 266 (858993459), Cond.constant RJ6 267 (252645135)]
def wsX5_spreadOut_r4 : List Cond := [Cond.methodLink RX1 36 yX1_sendOn, Cond.instanceMethod yX1_sendOn, Cond.selects RX1 yX1_sendOn yX1_sendOn, Cond.code yX1_sendOn cX1_sendOn 9 (some .int), Cond.methodLink RX1 40 yX2_linkCount, Cond.methodLink RX1 46 yX2_startOf, Cond.instanceMethod yX2_startOf, Cond.selects RX2 yX2_startOf yX2_startOf, Cond.code yX2_startOf cX2_startOf 2 (some .int), Cond.fieldLink RX2 9 "FoldedWays$Graph" "start" "[I", Cond.methodLink RX1 49 yX2_endOf, Cond.instanceMethod yX2_endOf, Cond.selects RX2 yX2_endOf yX2_endOf, Cond.code yX2_endOf cX2_endOf 2 (some .int), Cond.fieldLink RX2 15 "FoldedWays$Graph" "end" "[I", Cond.methodLink RX5 220 yJ13_bitCount_95d88, Cond.static yJ13_bitCount_95d88, Cond.initialized RJ13, Cond.code yJ13_bitCount_95d88 cJ13_bitCount_95d88 2 (some .int), Cond.constantLong RJ13 314 (6148914691236517205), Cond.constantLong RJ13 316 (3689348814741910323), Cond.constantLong RJ13 318 (1085102592571150095)]
def wsX5_spreadOut : List Cond := .code yX5_spreadOut cX5_spreadOut 8 none :: ((wsX5_spreadOut_r1 ++ (wsX5_spreadOut_r2 ++ (wsX5_spreadOut_r3 ++ wsX5_spreadOut_r4))) ++ wsX50 ++ wsX10 ++ wsX20 ++ wsX00 ++ wsX30)
def wsX5_spreadFact_r1 : List Cond := [Cond.fieldLink RX5 40 "FoldedWays" "flow" "LFoldedWays$Flow;", Cond.fieldLink RX5 225 "FoldedWays$Flow" "foldBits" "I", Cond.fieldLink RX5 171 "FoldedWays$Flow" "passages" "I", Cond.fieldLink RX5 177 "FoldedWays$Flow" "astray" "I", Cond.fieldLink RX5 183 "FoldedWays$Flow" "loops" "I", Cond.fieldLink RX5 228 "FoldedWays$Flow" "steps" "I", Cond.fieldLink RX5 231 "FoldedWays$Flow" "reached" "I", Cond.fieldLink RX5 26 "FoldedWays" "marks" "LFoldedWays$Marks;", Cond.fieldLink RX5 240 "FoldedWays$Flow" "matchingAside" "I", Cond.methodLink RX5 234 yX3_oddsAbove, Cond.instanceMethod yX3_oddsAbove, Cond.selects RX3 yX3_oddsAbove yX3_oddsAbove, Cond.initialized RX3, Cond.code yX3_oddsAbove cX3_oddsAbove 2 (some .int), Cond.methodLink RX3 52 yX3_reduced, Cond.instanceMethod yX3_reduced, Cond.selects RX3 yX3_reduced yX3_reduced, Cond.code yX3_reduced cX3_reduced 4 (some .int), Cond.fieldLink RX3 9 "FoldedWays$Marks" "width" "I", Cond.methodLink RX3 56 yX3_power, Cond.instanceMethod yX3_power, Cond.selects RX3 yX3_power yX3_power, Cond.code yX3_power cX3_power 4 (some .int), Cond.fieldLink RX3 15 "FoldedWays$Marks" "drawn" "I"]
def wsX5_spreadFact_r2 : List Cond := [Cond.methodLink RX5 237 yX3_oddsBelow, Cond.instanceMethod yX3_oddsBelow, Cond.selects RX3 yX3_oddsBelow yX3_oddsBelow, Cond.code yX3_oddsBelow cX3_oddsBelow 2 (some .int)]
def wsX5_spreadFact : List Cond := .code yX5_spreadFact cX5_spreadFact 2 (some .int) :: ((wsX5_spreadFact_r1 ++ wsX5_spreadFact_r2) ++ wsX50 ++ wsX10 ++ wsX30)
def wsX5_spread_r1 : List Cond := [Cond.fieldLink RX5 19 "FoldedWays" "graph" "LFoldedWays$Graph;", Cond.methodLink RX5 116 yX2_hasNode, Cond.instanceMethod yX2_hasNode, Cond.selects RX2 yX2_hasNode yX2_hasNode, Cond.initialized RX2, Cond.code yX2_hasNode cX2_hasNode 2 (some .boolean), Cond.fieldLink RX2 30 "FoldedWays$Graph" "nodes" "I", Cond.methodLink RX5 123 yX2_hasNodes, Cond.instanceMethod yX2_hasNodes, Cond.selects RX2 yX2_hasNodes yX2_hasNodes, Cond.code yX2_hasNodes cX2_hasNodes 2 (some .boolean), Cond.methodLink RX2 37 yX2_allNodes, Cond.instanceMethod yX2_allNodes, Cond.selects RX2 yX2_allNodes yX2_allNodes, Cond.code yX2_allNodes cX2_allNodes 1 (some .int), Cond.methodLink RX5 98 yX5_isVariant, Cond.static yX5_isVariant, Cond.initialized RX5, Cond.code yX5_isVariant cX5_isVariant 1 (some .boolean), Cond.methodLink RX5 154 yX5_spreadOut, Cond.instanceMethod yX5_spreadOut, Cond.selects RX5 yX5_spreadOut yX5_spreadOut, Cond.code yX5_spreadOut cX5_spreadOut 8 none, Cond.fieldLink RX5 40 "FoldedWays" "flow" "LFoldedWays$Flow;"]
def wsX5_spread_r2 : List Cond := [Cond.fieldLink RX5 225 "FoldedWays$Flow" "foldBits" "I", Cond.methodLink RX5 126 yX2_treeLinks, Cond.instanceMethod yX2_treeLinks, Cond.selects RX2 yX2_treeLinks yX2_treeLinks, Cond.code yX2_treeLinks cX2_treeLinks 5 (some .int), Cond.fieldLink RX2 27 "FoldedWays$Graph" "wayLinks" "[I", Cond.methodLink RX2 76 yX2_hasNode, Cond.methodLink RX2 73 yX2_at, Cond.static yX2_at, Cond.code yX2_at cX2_at 2 (some .int), Cond.methodLink RX5 150 yX5_foldedBits, Cond.instanceMethod yX5_foldedBits, Cond.selects RX5 yX5_foldedBits yX5_foldedBits, Cond.code yX5_foldedBits cX5_foldedBits 9 (some .long), Cond.fieldLink RX5 33 "FoldedWays" "bundles" "LFoldedWays$Bundles;", Cond.fieldLink RX5 26 "FoldedWays" "marks" "LFoldedWays$Marks;", Cond.methodLink RX5 144 yX0_linksAt, Cond.instanceMethod yX0_linksAt, Cond.selects RX0 yX0_linksAt yX0_linksAt, Cond.initialized RX0, Cond.code yX0_linksAt cX0_linksAt 2 (some .int), Cond.fieldLink RX0 9 "FoldedWays$Bundles" "links" "[I", Cond.static yX5_isPlace, Cond.code yX5_isPlace cX5_isPlace 1 (some .boolean)]
def wsX5_spread_r3 : List Cond := [Cond.methodLink RX5 147 yX3_ofBundle, Cond.instanceMethod yX3_ofBundle, Cond.selects RX3 yX3_ofBundle yX3_ofBundle, Cond.initialized RX3, Cond.code yX3_ofBundle cX3_ofBundle 3 (some .long), Cond.fieldLink RX3 21 "FoldedWays$Marks" "bits" "[J", Cond.methodLink RX5 70 yX2_linkCount, Cond.instanceMethod yX2_linkCount, Cond.selects RX2 yX2_linkCount yX2_linkCount, Cond.code yX2_linkCount cX2_linkCount 1 (some .int), Cond.fieldLink RX2 34 "FoldedWays$Graph" "links" "I", Cond.methodLink RX5 103 yX3_ofLink, Cond.instanceMethod yX3_ofLink, Cond.selects RX3 yX3_ofLink yX3_ofLink, Cond.code yX3_ofLink cX3_ofLink 3 (some .long), Cond.methodLink RX5 212 yX5_matchingLinks, Cond.instanceMethod yX5_matchingLinks, Cond.selects RX5 yX5_matchingLinks yX5_matchingLinks, Cond.code yX5_matchingLinks cX5_matchingLinks 6 (some .int), Cond.constantLong RX5 210 (-1), Cond.methodLink RX5 216 yX1_run, Cond.instanceMethod yX1_run, Cond.selects RX1 yX1_run yX1_run, Cond.initialized RX1]
def wsX5_spread_r4 : List Cond := [Cond.code yX1_run cX1_run 7 none, Cond.fieldLink RX1 9 "FoldedWays$Flow" "passages" "I", Cond.fieldLink RX1 15 "FoldedWays$Flow" "astray" "I", Cond.fieldLink RX1 18 "FoldedWays$Flow" "loops" "I", Cond.fieldLink RX1 21 "FoldedWays$Flow" "steps" "I", Cond.fieldLink RX1 24 "FoldedWays$Flow" "reached" "I", Cond.fieldLink RX1 33 "FoldedWays$Flow" "matchingAside" "I", Cond.methodLink RX1 27 yJ6_bitCount_0f7a4, Cond.static yJ6_bitCount_0f7a4, Cond.initialized RJ6, Cond.code yJ6_bitCount_0f7a4 cJ6_bitCount_0f7a4 1 (some .int), Cond.constant RJ6 265 (1431655765), Cond.constant RJ6 266 (858993459), Cond.constant RJ6 267 (252645135), Cond.methodLink RX1 36 yX1_sendOn, Cond.instanceMethod yX1_sendOn, Cond.selects RX1 yX1_sendOn yX1_sendOn, Cond.code yX1_sendOn cX1_sendOn 9 (some .int), Cond.methodLink RX1 40 yX2_linkCount, Cond.methodLink RX1 46 yX2_startOf, Cond.instanceMethod yX2_startOf, Cond.selects RX2 yX2_startOf yX2_startOf, Cond.code yX2_startOf cX2_startOf 2 (some .int), Cond.fieldLink RX2 9 "FoldedWays$Graph" "start" "[I"]
def wsX5_spread_r5 : List Cond := [Cond.methodLink RX1 49 yX2_endOf, Cond.instanceMethod yX2_endOf, Cond.selects RX2 yX2_endOf yX2_endOf, Cond.code yX2_endOf cX2_endOf 2 (some .int), Cond.fieldLink RX2 15 "FoldedWays$Graph" "end" "[I", Cond.methodLink RX5 220 yJ13_bitCount_95d88, Cond.static yJ13_bitCount_95d88, Cond.initialized RJ13, Cond.code yJ13_bitCount_95d88 cJ13_bitCount_95d88 2 (some .int), Cond.constantLong RJ13 314 (6148914691236517205), Cond.constantLong RJ13 316 (3689348814741910323), Cond.constantLong RJ13 318 (1085102592571150095), Cond.methodLink RX5 158 yX5_spreadFact, Cond.instanceMethod yX5_spreadFact, Cond.selects RX5 yX5_spreadFact yX5_spreadFact, Cond.code yX5_spreadFact cX5_spreadFact 2 (some .int), Cond.fieldLink RX5 171 "FoldedWays$Flow" "passages" "I", Cond.fieldLink RX5 177 "FoldedWays$Flow" "astray" "I", Cond.fieldLink RX5 183 "FoldedWays$Flow" "loops" "I", Cond.fieldLink RX5 228 "FoldedWays$Flow" "steps" "I", Cond.fieldLink RX5 231 "FoldedWays$Flow" "reached" "I", Cond.fieldLink RX5 240 "FoldedWays$Flow" "matchingAside" "I", Cond.methodLink RX5 234 yX3_oddsAbove, Cond.instanceMethod yX3_oddsAbove]
def wsX5_spread_r6 : List Cond := [Cond.selects RX3 yX3_oddsAbove yX3_oddsAbove, Cond.code yX3_oddsAbove cX3_oddsAbove 2 (some .int), Cond.methodLink RX3 52 yX3_reduced, Cond.instanceMethod yX3_reduced, Cond.selects RX3 yX3_reduced yX3_reduced, Cond.code yX3_reduced cX3_reduced 4 (some .int), Cond.fieldLink RX3 9 "FoldedWays$Marks" "width" "I", Cond.methodLink RX3 56 yX3_power, Cond.instanceMethod yX3_power, Cond.selects RX3 yX3_power yX3_power, Cond.code yX3_power cX3_power 4 (some .int), Cond.fieldLink RX3 15 "FoldedWays$Marks" "drawn" "I", Cond.methodLink RX5 237 yX3_oddsBelow, Cond.instanceMethod yX3_oddsBelow, Cond.selects RX3 yX3_oddsBelow yX3_oddsBelow, Cond.code yX3_oddsBelow cX3_oddsBelow 2 (some .int)]
def wsX5_spread : List Cond := .code yX5_spread cX5_spread 6 (some .int) :: ((wsX5_spread_r1 ++ (wsX5_spread_r2 ++ (wsX5_spread_r3 ++ (wsX5_spread_r4 ++ (wsX5_spread_r5 ++ wsX5_spread_r6))))) ++ wsX50 ++ wsX20 ++ wsX10 ++ wsX00 ++ wsX30)
def wsX5_bestVariant_r1 : List Cond := [Cond.fieldLink RX5 40 "FoldedWays" "flow" "LFoldedWays$Flow;", Cond.fieldLink RX5 177 "FoldedWays$Flow" "astray" "I", Cond.fieldLink RX5 225 "FoldedWays$Flow" "foldBits" "I", Cond.methodLink RX5 154 yX5_spreadOut, Cond.instanceMethod yX5_spreadOut, Cond.selects RX5 yX5_spreadOut yX5_spreadOut, Cond.initialized RX5, Cond.code yX5_spreadOut cX5_spreadOut 8 none, Cond.fieldLink RX5 19 "FoldedWays" "graph" "LFoldedWays$Graph;", Cond.methodLink RX5 126 yX2_treeLinks, Cond.instanceMethod yX2_treeLinks, Cond.selects RX2 yX2_treeLinks yX2_treeLinks, Cond.initialized RX2, Cond.code yX2_treeLinks cX2_treeLinks 5 (some .int), Cond.fieldLink RX2 30 "FoldedWays$Graph" "nodes" "I", Cond.fieldLink RX2 27 "FoldedWays$Graph" "wayLinks" "[I", Cond.methodLink RX2 76 yX2_hasNode, Cond.instanceMethod yX2_hasNode, Cond.selects RX2 yX2_hasNode yX2_hasNode, Cond.code yX2_hasNode cX2_hasNode 2 (some .boolean), Cond.methodLink RX2 73 yX2_at, Cond.static yX2_at, Cond.code yX2_at cX2_at 2 (some .int), Cond.methodLink RX5 150 yX5_foldedBits]
def wsX5_bestVariant_r2 : List Cond := [Cond.instanceMethod yX5_foldedBits, Cond.selects RX5 yX5_foldedBits yX5_foldedBits, Cond.code yX5_foldedBits cX5_foldedBits 9 (some .long), Cond.fieldLink RX5 33 "FoldedWays" "bundles" "LFoldedWays$Bundles;", Cond.fieldLink RX5 26 "FoldedWays" "marks" "LFoldedWays$Marks;", Cond.methodLink RX5 144 yX0_linksAt, Cond.instanceMethod yX0_linksAt, Cond.selects RX0 yX0_linksAt yX0_linksAt, Cond.initialized RX0, Cond.code yX0_linksAt cX0_linksAt 2 (some .int), Cond.fieldLink RX0 9 "FoldedWays$Bundles" "links" "[I", Cond.static yX5_isPlace, Cond.code yX5_isPlace cX5_isPlace 1 (some .boolean), Cond.methodLink RX5 147 yX3_ofBundle, Cond.instanceMethod yX3_ofBundle, Cond.selects RX3 yX3_ofBundle yX3_ofBundle, Cond.initialized RX3, Cond.code yX3_ofBundle cX3_ofBundle 3 (some .long), Cond.fieldLink RX3 21 "FoldedWays$Marks" "bits" "[J", Cond.static yX5_isVariant, Cond.code yX5_isVariant cX5_isVariant 1 (some .boolean), Cond.methodLink RX5 70 yX2_linkCount, Cond.instanceMethod yX2_linkCount, Cond.selects RX2 yX2_linkCount yX2_linkCount]
def wsX5_bestVariant_r3 : List Cond := [Cond.code yX2_linkCount cX2_linkCount 1 (some .int), Cond.fieldLink RX2 34 "FoldedWays$Graph" "links" "I", Cond.methodLink RX5 103 yX3_ofLink, Cond.instanceMethod yX3_ofLink, Cond.selects RX3 yX3_ofLink yX3_ofLink, Cond.code yX3_ofLink cX3_ofLink 3 (some .long), Cond.methodLink RX5 212 yX5_matchingLinks, Cond.instanceMethod yX5_matchingLinks, Cond.selects RX5 yX5_matchingLinks yX5_matchingLinks, Cond.code yX5_matchingLinks cX5_matchingLinks 6 (some .int), Cond.constantLong RX5 210 (-1), Cond.methodLink RX5 216 yX1_run, Cond.instanceMethod yX1_run, Cond.selects RX1 yX1_run yX1_run, Cond.initialized RX1, Cond.code yX1_run cX1_run 7 none, Cond.fieldLink RX1 9 "FoldedWays$Flow" "passages" "I", Cond.fieldLink RX1 15 "FoldedWays$Flow" "astray" "I", Cond.fieldLink RX1 18 "FoldedWays$Flow" "loops" "I", Cond.fieldLink RX1 21 "FoldedWays$Flow" "steps" "I", Cond.fieldLink RX1 24 "FoldedWays$Flow" "reached" "I", Cond.fieldLink RX1 33 "FoldedWays$Flow" "matchingAside" "I", Cond.methodLink RX1 27 yJ6_bitCount_0f7a4, Cond.static yJ6_bitCount_0f7a4]
def wsX5_bestVariant_r4 : List Cond := [Cond.initialized RJ6, Cond.code yJ6_bitCount_0f7a4 cJ6_bitCount_0f7a4 1 (some .int), Cond.constant RJ6 265 (1431655765), Cond.constant RJ6 266 (858993459), Cond.constant RJ6 267 (252645135), Cond.methodLink RX1 36 yX1_sendOn, Cond.instanceMethod yX1_sendOn, Cond.selects RX1 yX1_sendOn yX1_sendOn, Cond.code yX1_sendOn cX1_sendOn 9 (some .int), Cond.methodLink RX1 40 yX2_linkCount, Cond.methodLink RX1 46 yX2_startOf, Cond.instanceMethod yX2_startOf, Cond.selects RX2 yX2_startOf yX2_startOf, Cond.code yX2_startOf cX2_startOf 2 (some .int), Cond.fieldLink RX2 9 "FoldedWays$Graph" "start" "[I", Cond.methodLink RX1 49 yX2_endOf, Cond.instanceMethod yX2_endOf, Cond.selects RX2 yX2_endOf yX2_endOf, Cond.code yX2_endOf cX2_endOf 2 (some .int), Cond.fieldLink RX2 15 "FoldedWays$Graph" "end" "[I", Cond.methodLink RX5 220 yJ13_bitCount_95d88, Cond.static yJ13_bitCount_95d88, Cond.initialized RJ13, Cond.code yJ13_bitCount_95d88 cJ13_bitCount_95d88 2 (some .int)]
def wsX5_bestVariant_r5 : List Cond := [Cond.constantLong RJ13 314 (6148914691236517205), Cond.constantLong RJ13 316 (3689348814741910323), Cond.constantLong RJ13 318 (1085102592571150095)]
def wsX5_bestVariant : List Cond := .code yX5_bestVariant cX5_bestVariant 9 (some .int) :: ((wsX5_bestVariant_r1 ++ (wsX5_bestVariant_r2 ++ (wsX5_bestVariant_r3 ++ (wsX5_bestVariant_r4 ++ wsX5_bestVariant_r5)))) ++ wsX50 ++ wsX10 ++ wsX20 ++ wsX00 ++ wsX30)
def wsX5_best_r1 : List Cond := [Cond.fieldLink RX5 19 "FoldedWays" "graph" "LFoldedWays$Graph;", Cond.methodLink RX5 116 yX2_hasNode, Cond.instanceMethod yX2_hasNode, Cond.selects RX2 yX2_hasNode yX2_hasNode, Cond.initialized RX2, Cond.code yX2_hasNode cX2_hasNode 2 (some .boolean), Cond.fieldLink RX2 30 "FoldedWays$Graph" "nodes" "I", Cond.methodLink RX5 123 yX2_hasNodes, Cond.instanceMethod yX2_hasNodes, Cond.selects RX2 yX2_hasNodes yX2_hasNodes, Cond.code yX2_hasNodes cX2_hasNodes 2 (some .boolean), Cond.methodLink RX2 37 yX2_allNodes, Cond.instanceMethod yX2_allNodes, Cond.selects RX2 yX2_allNodes yX2_allNodes, Cond.code yX2_allNodes cX2_allNodes 1 (some .int), Cond.methodLink RX5 161 yX5_bestVariant, Cond.instanceMethod yX5_bestVariant, Cond.selects RX5 yX5_bestVariant yX5_bestVariant, Cond.initialized RX5, Cond.code yX5_bestVariant cX5_bestVariant 9 (some .int), Cond.fieldLink RX5 40 "FoldedWays" "flow" "LFoldedWays$Flow;", Cond.fieldLink RX5 177 "FoldedWays$Flow" "astray" "I", Cond.fieldLink RX5 225 "FoldedWays$Flow" "foldBits" "I", Cond.methodLink RX5 154 yX5_spreadOut]
def wsX5_best_r2 : List Cond := [Cond.instanceMethod yX5_spreadOut, Cond.selects RX5 yX5_spreadOut yX5_spreadOut, Cond.code yX5_spreadOut cX5_spreadOut 8 none, Cond.methodLink RX5 126 yX2_treeLinks, Cond.instanceMethod yX2_treeLinks, Cond.selects RX2 yX2_treeLinks yX2_treeLinks, Cond.code yX2_treeLinks cX2_treeLinks 5 (some .int), Cond.fieldLink RX2 27 "FoldedWays$Graph" "wayLinks" "[I", Cond.methodLink RX2 76 yX2_hasNode, Cond.methodLink RX2 73 yX2_at, Cond.static yX2_at, Cond.code yX2_at cX2_at 2 (some .int), Cond.methodLink RX5 150 yX5_foldedBits, Cond.instanceMethod yX5_foldedBits, Cond.selects RX5 yX5_foldedBits yX5_foldedBits, Cond.code yX5_foldedBits cX5_foldedBits 9 (some .long), Cond.fieldLink RX5 33 "FoldedWays" "bundles" "LFoldedWays$Bundles;", Cond.fieldLink RX5 26 "FoldedWays" "marks" "LFoldedWays$Marks;", Cond.methodLink RX5 144 yX0_linksAt, Cond.instanceMethod yX0_linksAt, Cond.selects RX0 yX0_linksAt yX0_linksAt, Cond.initialized RX0, Cond.code yX0_linksAt cX0_linksAt 2 (some .int), Cond.fieldLink RX0 9 "FoldedWays$Bundles" "links" "[I"]
def wsX5_best_r3 : List Cond := [Cond.static yX5_isPlace, Cond.code yX5_isPlace cX5_isPlace 1 (some .boolean), Cond.methodLink RX5 147 yX3_ofBundle, Cond.instanceMethod yX3_ofBundle, Cond.selects RX3 yX3_ofBundle yX3_ofBundle, Cond.initialized RX3, Cond.code yX3_ofBundle cX3_ofBundle 3 (some .long), Cond.fieldLink RX3 21 "FoldedWays$Marks" "bits" "[J", Cond.static yX5_isVariant, Cond.code yX5_isVariant cX5_isVariant 1 (some .boolean), Cond.methodLink RX5 70 yX2_linkCount, Cond.instanceMethod yX2_linkCount, Cond.selects RX2 yX2_linkCount yX2_linkCount, Cond.code yX2_linkCount cX2_linkCount 1 (some .int), Cond.fieldLink RX2 34 "FoldedWays$Graph" "links" "I", Cond.methodLink RX5 103 yX3_ofLink, Cond.instanceMethod yX3_ofLink, Cond.selects RX3 yX3_ofLink yX3_ofLink, Cond.code yX3_ofLink cX3_ofLink 3 (some .long), Cond.methodLink RX5 212 yX5_matchingLinks, Cond.instanceMethod yX5_matchingLinks, Cond.selects RX5 yX5_matchingLinks yX5_matchingLinks, Cond.code yX5_matchingLinks cX5_matchingLinks 6 (some .int), Cond.constantLong RX5 210 (-1)]
def wsX5_best_r4 : List Cond := [Cond.methodLink RX5 216 yX1_run, Cond.instanceMethod yX1_run, Cond.selects RX1 yX1_run yX1_run, Cond.initialized RX1, Cond.code yX1_run cX1_run 7 none, Cond.fieldLink RX1 9 "FoldedWays$Flow" "passages" "I", Cond.fieldLink RX1 15 "FoldedWays$Flow" "astray" "I", Cond.fieldLink RX1 18 "FoldedWays$Flow" "loops" "I", Cond.fieldLink RX1 21 "FoldedWays$Flow" "steps" "I", Cond.fieldLink RX1 24 "FoldedWays$Flow" "reached" "I", Cond.fieldLink RX1 33 "FoldedWays$Flow" "matchingAside" "I", Cond.methodLink RX1 27 yJ6_bitCount_0f7a4, Cond.static yJ6_bitCount_0f7a4, Cond.initialized RJ6, Cond.code yJ6_bitCount_0f7a4 cJ6_bitCount_0f7a4 1 (some .int), Cond.constant RJ6 265 (1431655765), Cond.constant RJ6 266 (858993459), Cond.constant RJ6 267 (252645135), Cond.methodLink RX1 36 yX1_sendOn, Cond.instanceMethod yX1_sendOn, Cond.selects RX1 yX1_sendOn yX1_sendOn, Cond.code yX1_sendOn cX1_sendOn 9 (some .int), Cond.methodLink RX1 40 yX2_linkCount, Cond.methodLink RX1 46 yX2_startOf]
def wsX5_best_r5 : List Cond := [Cond.instanceMethod yX2_startOf, Cond.selects RX2 yX2_startOf yX2_startOf, Cond.code yX2_startOf cX2_startOf 2 (some .int), Cond.fieldLink RX2 9 "FoldedWays$Graph" "start" "[I", Cond.methodLink RX1 49 yX2_endOf, Cond.instanceMethod yX2_endOf, Cond.selects RX2 yX2_endOf yX2_endOf, Cond.code yX2_endOf cX2_endOf 2 (some .int), Cond.fieldLink RX2 15 "FoldedWays$Graph" "end" "[I", Cond.methodLink RX5 220 yJ13_bitCount_95d88, Cond.static yJ13_bitCount_95d88, Cond.initialized RJ13, Cond.code yJ13_bitCount_95d88 cJ13_bitCount_95d88 2 (some .int), Cond.constantLong RJ13 314 (6148914691236517205), Cond.constantLong RJ13 316 (3689348814741910323), Cond.constantLong RJ13 318 (1085102592571150095)]
def wsX5_best : List Cond := .code yX5_best cX5_best 4 (some .int) :: ((wsX5_best_r1 ++ (wsX5_best_r2 ++ (wsX5_best_r3 ++ (wsX5_best_r4 ++ wsX5_best_r5)))) ++ wsX50 ++ wsX20 ++ wsX10 ++ wsX00 ++ wsX30)
def wsX5_send_r1 : List Cond := [Cond.fieldLink RX5 19 "FoldedWays" "graph" "LFoldedWays$Graph;", Cond.fieldLink RX5 165 "FoldedWays" "timesSent" "I", Cond.fieldLink RX5 168 "FoldedWays" "passagesSent" "I", Cond.fieldLink RX5 40 "FoldedWays" "flow" "LFoldedWays$Flow;", Cond.fieldLink RX5 171 "FoldedWays$Flow" "passages" "I", Cond.fieldLink RX5 174 "FoldedWays" "astraySent" "I", Cond.fieldLink RX5 177 "FoldedWays$Flow" "astray" "I", Cond.fieldLink RX5 180 "FoldedWays" "loopsSent" "I", Cond.fieldLink RX5 183 "FoldedWays$Flow" "loops" "I", Cond.methodLink RX5 116 yX2_hasNode, Cond.instanceMethod yX2_hasNode, Cond.selects RX2 yX2_hasNode yX2_hasNode, Cond.initialized RX2, Cond.code yX2_hasNode cX2_hasNode 2 (some .boolean), Cond.fieldLink RX2 30 "FoldedWays$Graph" "nodes" "I", Cond.methodLink RX5 123 yX2_hasNodes, Cond.instanceMethod yX2_hasNodes, Cond.selects RX2 yX2_hasNodes yX2_hasNodes, Cond.code yX2_hasNodes cX2_hasNodes 2 (some .boolean), Cond.methodLink RX2 37 yX2_allNodes, Cond.instanceMethod yX2_allNodes, Cond.selects RX2 yX2_allNodes yX2_allNodes, Cond.code yX2_allNodes cX2_allNodes 1 (some .int), Cond.methodLink RX5 161 yX5_bestVariant]
def wsX5_send_r2 : List Cond := [Cond.instanceMethod yX5_bestVariant, Cond.selects RX5 yX5_bestVariant yX5_bestVariant, Cond.initialized RX5, Cond.code yX5_bestVariant cX5_bestVariant 9 (some .int), Cond.fieldLink RX5 225 "FoldedWays$Flow" "foldBits" "I", Cond.methodLink RX5 154 yX5_spreadOut, Cond.instanceMethod yX5_spreadOut, Cond.selects RX5 yX5_spreadOut yX5_spreadOut, Cond.code yX5_spreadOut cX5_spreadOut 8 none, Cond.methodLink RX5 126 yX2_treeLinks, Cond.instanceMethod yX2_treeLinks, Cond.selects RX2 yX2_treeLinks yX2_treeLinks, Cond.code yX2_treeLinks cX2_treeLinks 5 (some .int), Cond.fieldLink RX2 27 "FoldedWays$Graph" "wayLinks" "[I", Cond.methodLink RX2 76 yX2_hasNode, Cond.methodLink RX2 73 yX2_at, Cond.static yX2_at, Cond.code yX2_at cX2_at 2 (some .int), Cond.methodLink RX5 150 yX5_foldedBits, Cond.instanceMethod yX5_foldedBits, Cond.selects RX5 yX5_foldedBits yX5_foldedBits, Cond.code yX5_foldedBits cX5_foldedBits 9 (some .long), Cond.fieldLink RX5 33 "FoldedWays" "bundles" "LFoldedWays$Bundles;", Cond.fieldLink RX5 26 "FoldedWays" "marks" "LFoldedWays$Marks;"]
def wsX5_send_r3 : List Cond := [Cond.methodLink RX5 144 yX0_linksAt, Cond.instanceMethod yX0_linksAt, Cond.selects RX0 yX0_linksAt yX0_linksAt, Cond.initialized RX0, Cond.code yX0_linksAt cX0_linksAt 2 (some .int), Cond.fieldLink RX0 9 "FoldedWays$Bundles" "links" "[I", Cond.static yX5_isPlace, Cond.code yX5_isPlace cX5_isPlace 1 (some .boolean), Cond.methodLink RX5 147 yX3_ofBundle, Cond.instanceMethod yX3_ofBundle, Cond.selects RX3 yX3_ofBundle yX3_ofBundle, Cond.initialized RX3, Cond.code yX3_ofBundle cX3_ofBundle 3 (some .long), Cond.fieldLink RX3 21 "FoldedWays$Marks" "bits" "[J", Cond.static yX5_isVariant, Cond.code yX5_isVariant cX5_isVariant 1 (some .boolean), Cond.methodLink RX5 70 yX2_linkCount, Cond.instanceMethod yX2_linkCount, Cond.selects RX2 yX2_linkCount yX2_linkCount, Cond.code yX2_linkCount cX2_linkCount 1 (some .int), Cond.fieldLink RX2 34 "FoldedWays$Graph" "links" "I", Cond.methodLink RX5 103 yX3_ofLink, Cond.instanceMethod yX3_ofLink, Cond.selects RX3 yX3_ofLink yX3_ofLink]
def wsX5_send_r4 : List Cond := [Cond.code yX3_ofLink cX3_ofLink 3 (some .long), Cond.methodLink RX5 212 yX5_matchingLinks, Cond.instanceMethod yX5_matchingLinks, Cond.selects RX5 yX5_matchingLinks yX5_matchingLinks, Cond.code yX5_matchingLinks cX5_matchingLinks 6 (some .int), Cond.constantLong RX5 210 (-1), Cond.methodLink RX5 216 yX1_run, Cond.instanceMethod yX1_run, Cond.selects RX1 yX1_run yX1_run, Cond.initialized RX1, Cond.code yX1_run cX1_run 7 none, Cond.fieldLink RX1 9 "FoldedWays$Flow" "passages" "I", Cond.fieldLink RX1 15 "FoldedWays$Flow" "astray" "I", Cond.fieldLink RX1 18 "FoldedWays$Flow" "loops" "I", Cond.fieldLink RX1 21 "FoldedWays$Flow" "steps" "I", Cond.fieldLink RX1 24 "FoldedWays$Flow" "reached" "I", Cond.fieldLink RX1 33 "FoldedWays$Flow" "matchingAside" "I", Cond.methodLink RX1 27 yJ6_bitCount_0f7a4, Cond.static yJ6_bitCount_0f7a4, Cond.initialized RJ6, Cond.code yJ6_bitCount_0f7a4 cJ6_bitCount_0f7a4 1 (some .int), Cond.constant RJ6 265 (1431655765), Cond.constant RJ6 266 (858993459), Cond.constant RJ6 267 (252645135)]
def wsX5_send_r5 : List Cond := [Cond.methodLink RX1 36 yX1_sendOn, Cond.instanceMethod yX1_sendOn, Cond.selects RX1 yX1_sendOn yX1_sendOn, Cond.code yX1_sendOn cX1_sendOn 9 (some .int), Cond.methodLink RX1 40 yX2_linkCount, Cond.methodLink RX1 46 yX2_startOf, Cond.instanceMethod yX2_startOf, Cond.selects RX2 yX2_startOf yX2_startOf, Cond.code yX2_startOf cX2_startOf 2 (some .int), Cond.fieldLink RX2 9 "FoldedWays$Graph" "start" "[I", Cond.methodLink RX1 49 yX2_endOf, Cond.instanceMethod yX2_endOf, Cond.selects RX2 yX2_endOf yX2_endOf, Cond.code yX2_endOf cX2_endOf 2 (some .int), Cond.fieldLink RX2 15 "FoldedWays$Graph" "end" "[I", Cond.methodLink RX5 220 yJ13_bitCount_95d88, Cond.static yJ13_bitCount_95d88, Cond.initialized RJ13, Cond.code yJ13_bitCount_95d88 cJ13_bitCount_95d88 2 (some .int), Cond.constantLong RJ13 314 (6148914691236517205), Cond.constantLong RJ13 316 (3689348814741910323), Cond.constantLong RJ13 318 (1085102592571150095)]
def wsX5_send : List Cond := .code yX5_send cX5_send 4 (some .int) :: ((wsX5_send_r1 ++ (wsX5_send_r2 ++ (wsX5_send_r3 ++ (wsX5_send_r4 ++ wsX5_send_r5)))) ++ wsX50 ++ wsX10 ++ wsX20 ++ wsX00 ++ wsX30)
def wsX5_count_r1 : List Cond := [Cond.fieldLink RX5 19 "FoldedWays" "graph" "LFoldedWays$Graph;", Cond.fieldLink RX5 10 "FoldedWays" "page" "LFoldedWays$Page;", Cond.fieldLink RX5 26 "FoldedWays" "marks" "LFoldedWays$Marks;", Cond.fieldLink RX5 33 "FoldedWays" "bundles" "LFoldedWays$Bundles;", Cond.fieldLink RX5 76 "FoldedWays" "netsRead" "I", Cond.fieldLink RX5 165 "FoldedWays" "timesSent" "I", Cond.fieldLink RX5 168 "FoldedWays" "passagesSent" "I", Cond.fieldLink RX5 174 "FoldedWays" "astraySent" "I", Cond.fieldLink RX5 180 "FoldedWays" "loopsSent" "I", Cond.methodLink RX5 186 yX2_nodeCount, Cond.instanceMethod yX2_nodeCount, Cond.selects RX2 yX2_nodeCount yX2_nodeCount, Cond.initialized RX2, Cond.code yX2_nodeCount cX2_nodeCount 1 (some .int), Cond.fieldLink RX2 30 "FoldedWays$Graph" "nodes" "I", Cond.methodLink RX5 70 yX2_linkCount, Cond.instanceMethod yX2_linkCount, Cond.selects RX2 yX2_linkCount yX2_linkCount, Cond.code yX2_linkCount cX2_linkCount 1 (some .int), Cond.fieldLink RX2 34 "FoldedWays$Graph" "links" "I", Cond.methodLink RX5 52 yX4_size, Cond.instanceMethod yX4_size, Cond.selects RX4 yX4_size yX4_size, Cond.initialized RX4]
def wsX5_count_r2 : List Cond := [Cond.code yX4_size cX4_size 1 (some .int), Cond.fieldLink RX4 15 "FoldedWays$Page" "length" "I", Cond.methodLink RX5 84 yX3_setting, Cond.instanceMethod yX3_setting, Cond.selects RX3 yX3_setting yX3_setting, Cond.initialized RX3, Cond.code yX3_setting cX3_setting 2 (some .int), Cond.fieldLink RX3 9 "FoldedWays$Marks" "width" "I", Cond.fieldLink RX3 15 "FoldedWays$Marks" "drawn" "I", Cond.fieldLink RX3 18 "FoldedWays$Marks" "seed" "I", Cond.methodLink RX5 189 yX0_howMany, Cond.instanceMethod yX0_howMany, Cond.selects RX0 yX0_howMany yX0_howMany, Cond.initialized RX0, Cond.code yX0_howMany cX0_howMany 3 (some .int), Cond.methodLink RX0 23 yX0_isThere, Cond.instanceMethod yX0_isThere, Cond.selects RX0 yX0_isThere yX0_isThere, Cond.code yX0_isThere cX0_isThere 2 (some .boolean), Cond.methodLink RX0 19 yX0_linksAt, Cond.instanceMethod yX0_linksAt, Cond.selects RX0 yX0_linksAt yX0_linksAt, Cond.code yX0_linksAt cX0_linksAt 2 (some .int), Cond.fieldLink RX0 9 "FoldedWays$Bundles" "links" "[I"]
def wsX5_count_r3 : List Cond := [Cond.static yX5_isPlace, Cond.initialized RX5, Cond.code yX5_isPlace cX5_isPlace 1 (some .boolean)]
def wsX5_count : List Cond := .code yX5_count cX5_count 2 (some .int) :: ((wsX5_count_r1 ++ (wsX5_count_r2 ++ wsX5_count_r3)) ++ wsX50 ++ wsX20 ++ wsX40 ++ wsX30 ++ wsX00)
def wsX5_with : List Cond := .code yX5_with cX5_with 4 (some .long) :: ([.constantLong RX5 243 (31)])
def wsX5_withLinks_r1 : List Cond := [Cond.fieldLink RX5 19 "FoldedWays" "graph" "LFoldedWays$Graph;", Cond.fieldLink RX5 33 "FoldedWays" "bundles" "LFoldedWays$Bundles;", Cond.fieldLink RX5 26 "FoldedWays" "marks" "LFoldedWays$Marks;", Cond.methodLink RX5 70 yX2_linkCount, Cond.instanceMethod yX2_linkCount, Cond.selects RX2 yX2_linkCount yX2_linkCount, Cond.initialized RX2, Cond.code yX2_linkCount cX2_linkCount 1 (some .int), Cond.fieldLink RX2 34 "FoldedWays$Graph" "links" "I", Cond.methodLink RX5 107 yX2_startOf, Cond.instanceMethod yX2_startOf, Cond.selects RX2 yX2_startOf yX2_startOf, Cond.code yX2_startOf cX2_startOf 2 (some .int), Cond.fieldLink RX2 9 "FoldedWays$Graph" "start" "[I", Cond.methodLink RX5 245 yX5_with, Cond.static yX5_with, Cond.initialized RX5, Cond.code yX5_with cX5_with 4 (some .long), Cond.constantLong RX5 243 (31), Cond.methodLink RX5 110 yX2_endOf, Cond.instanceMethod yX2_endOf, Cond.selects RX2 yX2_endOf yX2_endOf, Cond.code yX2_endOf cX2_endOf 2 (some .int), Cond.fieldLink RX2 15 "FoldedWays$Graph" "end" "[I"]
def wsX5_withLinks_r2 : List Cond := [Cond.methodLink RX5 113 yX0_placesWith, Cond.instanceMethod yX0_placesWith, Cond.selects RX0 yX0_placesWith yX0_placesWith, Cond.initialized RX0, Cond.code yX0_placesWith cX0_placesWith 4 (some .int), Cond.fieldLink RX0 9 "FoldedWays$Bundles" "links" "[I", Cond.methodLink RX5 103 yX3_ofLink, Cond.instanceMethod yX3_ofLink, Cond.selects RX3 yX3_ofLink yX3_ofLink, Cond.initialized RX3, Cond.code yX3_ofLink cX3_ofLink 3 (some .long), Cond.fieldLink RX3 21 "FoldedWays$Marks" "bits" "[J", Cond.static yX5_isVariant, Cond.code yX5_isVariant cX5_isVariant 1 (some .boolean)]
def wsX5_withLinks : List Cond := .code yX5_withLinks cX5_withLinks 7 (some .long) :: ((wsX5_withLinks_r1 ++ wsX5_withLinks_r2) ++ wsX50 ++ wsX20 ++ wsX00 ++ wsX30)
def wsX5_withBundles_r1 : List Cond := [Cond.fieldLink RX5 33 "FoldedWays" "bundles" "LFoldedWays$Bundles;", Cond.fieldLink RX5 26 "FoldedWays" "marks" "LFoldedWays$Marks;", Cond.methodLink RX5 133 yX0_isThere, Cond.instanceMethod yX0_isThere, Cond.selects RX0 yX0_isThere yX0_isThere, Cond.initialized RX0, Cond.code yX0_isThere cX0_isThere 2 (some .boolean), Cond.methodLink RX0 19 yX0_linksAt, Cond.instanceMethod yX0_linksAt, Cond.selects RX0 yX0_linksAt yX0_linksAt, Cond.code yX0_linksAt cX0_linksAt 2 (some .int), Cond.fieldLink RX0 9 "FoldedWays$Bundles" "links" "[I", Cond.static yX5_isPlace, Cond.initialized RX5, Cond.code yX5_isPlace cX5_isPlace 1 (some .boolean), Cond.methodLink RX5 245 yX5_with, Cond.static yX5_with, Cond.code yX5_with cX5_with 4 (some .long), Cond.constantLong RX5 243 (31), Cond.methodLink RX5 147 yX3_ofBundle, Cond.instanceMethod yX3_ofBundle, Cond.selects RX3 yX3_ofBundle yX3_ofBundle, Cond.initialized RX3, Cond.code yX3_ofBundle cX3_ofBundle 3 (some .long)]
def wsX5_withBundles_r2 : List Cond := [Cond.fieldLink RX3 21 "FoldedWays$Marks" "bits" "[J", Cond.static yX5_isVariant, Cond.code yX5_isVariant cX5_isVariant 1 (some .boolean)]
def wsX5_withBundles : List Cond := .code yX5_withBundles cX5_withBundles 7 (some .long) :: ((wsX5_withBundles_r1 ++ wsX5_withBundles_r2) ++ wsX50 ++ wsX00 ++ wsX30)
def wsX5_withNodes_r1 : List Cond := [Cond.fieldLink RX5 19 "FoldedWays" "graph" "LFoldedWays$Graph;", Cond.methodLink RX5 249 yX2_allNodes, Cond.instanceMethod yX2_allNodes, Cond.selects RX2 yX2_allNodes yX2_allNodes, Cond.initialized RX2, Cond.code yX2_allNodes cX2_allNodes 1 (some .int), Cond.fieldLink RX2 30 "FoldedWays$Graph" "nodes" "I", Cond.methodLink RX5 186 yX2_nodeCount, Cond.instanceMethod yX2_nodeCount, Cond.selects RX2 yX2_nodeCount yX2_nodeCount, Cond.code yX2_nodeCount cX2_nodeCount 1 (some .int), Cond.methodLink RX5 126 yX2_treeLinks, Cond.instanceMethod yX2_treeLinks, Cond.selects RX2 yX2_treeLinks yX2_treeLinks, Cond.code yX2_treeLinks cX2_treeLinks 5 (some .int), Cond.fieldLink RX2 27 "FoldedWays$Graph" "wayLinks" "[I", Cond.methodLink RX2 76 yX2_hasNode, Cond.instanceMethod yX2_hasNode, Cond.selects RX2 yX2_hasNode yX2_hasNode, Cond.code yX2_hasNode cX2_hasNode 2 (some .boolean), Cond.methodLink RX2 73 yX2_at, Cond.static yX2_at, Cond.code yX2_at cX2_at 2 (some .int), Cond.methodLink RX5 245 yX5_with]
def wsX5_withNodes_r2 : List Cond := [Cond.static yX5_with, Cond.initialized RX5, Cond.code yX5_with cX5_with 4 (some .long), Cond.constantLong RX5 243 (31), Cond.methodLink RX5 154 yX5_spreadOut, Cond.instanceMethod yX5_spreadOut, Cond.selects RX5 yX5_spreadOut yX5_spreadOut, Cond.code yX5_spreadOut cX5_spreadOut 8 none, Cond.fieldLink RX5 40 "FoldedWays" "flow" "LFoldedWays$Flow;", Cond.fieldLink RX5 225 "FoldedWays$Flow" "foldBits" "I", Cond.methodLink RX5 150 yX5_foldedBits, Cond.instanceMethod yX5_foldedBits, Cond.selects RX5 yX5_foldedBits yX5_foldedBits, Cond.code yX5_foldedBits cX5_foldedBits 9 (some .long), Cond.fieldLink RX5 33 "FoldedWays" "bundles" "LFoldedWays$Bundles;", Cond.fieldLink RX5 26 "FoldedWays" "marks" "LFoldedWays$Marks;", Cond.methodLink RX5 144 yX0_linksAt, Cond.instanceMethod yX0_linksAt, Cond.selects RX0 yX0_linksAt yX0_linksAt, Cond.initialized RX0, Cond.code yX0_linksAt cX0_linksAt 2 (some .int), Cond.fieldLink RX0 9 "FoldedWays$Bundles" "links" "[I", Cond.static yX5_isPlace, Cond.code yX5_isPlace cX5_isPlace 1 (some .boolean)]
def wsX5_withNodes_r3 : List Cond := [Cond.methodLink RX5 147 yX3_ofBundle, Cond.instanceMethod yX3_ofBundle, Cond.selects RX3 yX3_ofBundle yX3_ofBundle, Cond.initialized RX3, Cond.code yX3_ofBundle cX3_ofBundle 3 (some .long), Cond.fieldLink RX3 21 "FoldedWays$Marks" "bits" "[J", Cond.static yX5_isVariant, Cond.code yX5_isVariant cX5_isVariant 1 (some .boolean), Cond.methodLink RX5 70 yX2_linkCount, Cond.instanceMethod yX2_linkCount, Cond.selects RX2 yX2_linkCount yX2_linkCount, Cond.code yX2_linkCount cX2_linkCount 1 (some .int), Cond.fieldLink RX2 34 "FoldedWays$Graph" "links" "I", Cond.methodLink RX5 103 yX3_ofLink, Cond.instanceMethod yX3_ofLink, Cond.selects RX3 yX3_ofLink yX3_ofLink, Cond.code yX3_ofLink cX3_ofLink 3 (some .long), Cond.methodLink RX5 212 yX5_matchingLinks, Cond.instanceMethod yX5_matchingLinks, Cond.selects RX5 yX5_matchingLinks yX5_matchingLinks, Cond.code yX5_matchingLinks cX5_matchingLinks 6 (some .int), Cond.constantLong RX5 210 (-1), Cond.methodLink RX5 216 yX1_run, Cond.instanceMethod yX1_run]
def wsX5_withNodes_r4 : List Cond := [Cond.selects RX1 yX1_run yX1_run, Cond.initialized RX1, Cond.code yX1_run cX1_run 7 none, Cond.fieldLink RX1 9 "FoldedWays$Flow" "passages" "I", Cond.fieldLink RX1 15 "FoldedWays$Flow" "astray" "I", Cond.fieldLink RX1 18 "FoldedWays$Flow" "loops" "I", Cond.fieldLink RX1 21 "FoldedWays$Flow" "steps" "I", Cond.fieldLink RX1 24 "FoldedWays$Flow" "reached" "I", Cond.fieldLink RX1 33 "FoldedWays$Flow" "matchingAside" "I", Cond.methodLink RX1 27 yJ6_bitCount_0f7a4, Cond.static yJ6_bitCount_0f7a4, Cond.initialized RJ6, Cond.code yJ6_bitCount_0f7a4 cJ6_bitCount_0f7a4 1 (some .int), Cond.constant RJ6 265 (1431655765), Cond.constant RJ6 266 (858993459), Cond.constant RJ6 267 (252645135), Cond.methodLink RX1 36 yX1_sendOn, Cond.instanceMethod yX1_sendOn, Cond.selects RX1 yX1_sendOn yX1_sendOn, Cond.code yX1_sendOn cX1_sendOn 9 (some .int), Cond.methodLink RX1 40 yX2_linkCount, Cond.methodLink RX1 46 yX2_startOf, Cond.instanceMethod yX2_startOf, Cond.selects RX2 yX2_startOf yX2_startOf]
def wsX5_withNodes_r5 : List Cond := [Cond.code yX2_startOf cX2_startOf 2 (some .int), Cond.fieldLink RX2 9 "FoldedWays$Graph" "start" "[I", Cond.methodLink RX1 49 yX2_endOf, Cond.instanceMethod yX2_endOf, Cond.selects RX2 yX2_endOf yX2_endOf, Cond.code yX2_endOf cX2_endOf 2 (some .int), Cond.fieldLink RX2 15 "FoldedWays$Graph" "end" "[I", Cond.methodLink RX5 220 yJ13_bitCount_95d88, Cond.static yJ13_bitCount_95d88, Cond.initialized RJ13, Cond.code yJ13_bitCount_95d88 cJ13_bitCount_95d88 2 (some .int), Cond.constantLong RJ13 314 (6148914691236517205), Cond.constantLong RJ13 316 (3689348814741910323), Cond.constantLong RJ13 318 (1085102592571150095), Cond.methodLink RX5 158 yX5_spreadFact, Cond.instanceMethod yX5_spreadFact, Cond.selects RX5 yX5_spreadFact yX5_spreadFact, Cond.code yX5_spreadFact cX5_spreadFact 2 (some .int), Cond.fieldLink RX5 171 "FoldedWays$Flow" "passages" "I", Cond.fieldLink RX5 177 "FoldedWays$Flow" "astray" "I", Cond.fieldLink RX5 183 "FoldedWays$Flow" "loops" "I", Cond.fieldLink RX5 228 "FoldedWays$Flow" "steps" "I", Cond.fieldLink RX5 231 "FoldedWays$Flow" "reached" "I", Cond.fieldLink RX5 240 "FoldedWays$Flow" "matchingAside" "I"]
def wsX5_withNodes_r6 : List Cond := [Cond.methodLink RX5 234 yX3_oddsAbove, Cond.instanceMethod yX3_oddsAbove, Cond.selects RX3 yX3_oddsAbove yX3_oddsAbove, Cond.code yX3_oddsAbove cX3_oddsAbove 2 (some .int), Cond.methodLink RX3 52 yX3_reduced, Cond.instanceMethod yX3_reduced, Cond.selects RX3 yX3_reduced yX3_reduced, Cond.code yX3_reduced cX3_reduced 4 (some .int), Cond.fieldLink RX3 9 "FoldedWays$Marks" "width" "I", Cond.methodLink RX3 56 yX3_power, Cond.instanceMethod yX3_power, Cond.selects RX3 yX3_power yX3_power, Cond.code yX3_power cX3_power 4 (some .int), Cond.fieldLink RX3 15 "FoldedWays$Marks" "drawn" "I", Cond.methodLink RX5 237 yX3_oddsBelow, Cond.instanceMethod yX3_oddsBelow, Cond.selects RX3 yX3_oddsBelow yX3_oddsBelow, Cond.code yX3_oddsBelow cX3_oddsBelow 2 (some .int), Cond.methodLink RX5 161 yX5_bestVariant, Cond.instanceMethod yX5_bestVariant, Cond.selects RX5 yX5_bestVariant yX5_bestVariant, Cond.code yX5_bestVariant cX5_bestVariant 9 (some .int)]
def wsX5_withNodes : List Cond := .code yX5_withNodes cX5_withNodes 9 (some .long) :: ((wsX5_withNodes_r1 ++ (wsX5_withNodes_r2 ++ (wsX5_withNodes_r3 ++ (wsX5_withNodes_r4 ++ (wsX5_withNodes_r5 ++ wsX5_withNodes_r6))))) ++ wsX50 ++ wsX20 ++ wsX10 ++ wsX00 ++ wsX30)
def wsX5_withPage : List Cond := .code yX5_withPage cX5_withPage 6 (some .long) :: ([.fieldLink RX5 10 "FoldedWays" "page" "LFoldedWays$Page;", .methodLink RX5 52 yX4_size, .instanceMethod yX4_size, .selects RX4 yX4_size yX4_size, .initialized RX4, .code yX4_size cX4_size 1 (some .int), .fieldLink RX4 15 "FoldedWays$Page" "length" "I", .methodLink RX5 252 yX4_codeAt, .instanceMethod yX4_codeAt, .selects RX4 yX4_codeAt yX4_codeAt, .code yX4_codeAt cX4_codeAt 2 (some .int), .fieldLink RX4 11 "FoldedWays$Page" "codes" "[I", .methodLink RX5 245 yX5_with, .static yX5_with, .initialized RX5, .code yX5_with cX5_with 4 (some .long), .constantLong RX5 243 (31)] ++ wsX50 ++ wsX40)
def wsX5_withCounts_r1 : List Cond := [Cond.methodLink RX5 255 yX5_count, Cond.instanceMethod yX5_count, Cond.selects RX5 yX5_count yX5_count, Cond.initialized RX5, Cond.code yX5_count cX5_count 2 (some .int), Cond.fieldLink RX5 19 "FoldedWays" "graph" "LFoldedWays$Graph;", Cond.fieldLink RX5 10 "FoldedWays" "page" "LFoldedWays$Page;", Cond.fieldLink RX5 26 "FoldedWays" "marks" "LFoldedWays$Marks;", Cond.fieldLink RX5 33 "FoldedWays" "bundles" "LFoldedWays$Bundles;", Cond.fieldLink RX5 76 "FoldedWays" "netsRead" "I", Cond.fieldLink RX5 165 "FoldedWays" "timesSent" "I", Cond.fieldLink RX5 168 "FoldedWays" "passagesSent" "I", Cond.fieldLink RX5 174 "FoldedWays" "astraySent" "I", Cond.fieldLink RX5 180 "FoldedWays" "loopsSent" "I", Cond.methodLink RX5 186 yX2_nodeCount, Cond.instanceMethod yX2_nodeCount, Cond.selects RX2 yX2_nodeCount yX2_nodeCount, Cond.initialized RX2, Cond.code yX2_nodeCount cX2_nodeCount 1 (some .int), Cond.fieldLink RX2 30 "FoldedWays$Graph" "nodes" "I", Cond.methodLink RX5 70 yX2_linkCount, Cond.instanceMethod yX2_linkCount, Cond.selects RX2 yX2_linkCount yX2_linkCount, Cond.code yX2_linkCount cX2_linkCount 1 (some .int)]
def wsX5_withCounts_r2 : List Cond := [Cond.fieldLink RX2 34 "FoldedWays$Graph" "links" "I", Cond.methodLink RX5 52 yX4_size, Cond.instanceMethod yX4_size, Cond.selects RX4 yX4_size yX4_size, Cond.initialized RX4, Cond.code yX4_size cX4_size 1 (some .int), Cond.fieldLink RX4 15 "FoldedWays$Page" "length" "I", Cond.methodLink RX5 84 yX3_setting, Cond.instanceMethod yX3_setting, Cond.selects RX3 yX3_setting yX3_setting, Cond.initialized RX3, Cond.code yX3_setting cX3_setting 2 (some .int), Cond.fieldLink RX3 9 "FoldedWays$Marks" "width" "I", Cond.fieldLink RX3 15 "FoldedWays$Marks" "drawn" "I", Cond.fieldLink RX3 18 "FoldedWays$Marks" "seed" "I", Cond.methodLink RX5 189 yX0_howMany, Cond.instanceMethod yX0_howMany, Cond.selects RX0 yX0_howMany yX0_howMany, Cond.initialized RX0, Cond.code yX0_howMany cX0_howMany 3 (some .int), Cond.methodLink RX0 23 yX0_isThere, Cond.instanceMethod yX0_isThere, Cond.selects RX0 yX0_isThere yX0_isThere, Cond.code yX0_isThere cX0_isThere 2 (some .boolean)]
def wsX5_withCounts_r3 : List Cond := [Cond.methodLink RX0 19 yX0_linksAt, Cond.instanceMethod yX0_linksAt, Cond.selects RX0 yX0_linksAt yX0_linksAt, Cond.code yX0_linksAt cX0_linksAt 2 (some .int), Cond.fieldLink RX0 9 "FoldedWays$Bundles" "links" "[I", Cond.static yX5_isPlace, Cond.code yX5_isPlace cX5_isPlace 1 (some .boolean), Cond.methodLink RX5 245 yX5_with, Cond.static yX5_with, Cond.code yX5_with cX5_with 4 (some .long), Cond.constantLong RX5 243 (31)]
def wsX5_withCounts : List Cond := .code yX5_withCounts cX5_withCounts 6 (some .long) :: ((wsX5_withCounts_r1 ++ (wsX5_withCounts_r2 ++ wsX5_withCounts_r3)) ++ wsX50 ++ wsX20 ++ wsX40 ++ wsX30 ++ wsX00)
def wsX5_digest_r1 : List Cond := [Cond.constantLong RX5 192 (1693), Cond.methodLink RX5 194 yX5_withLinks, Cond.instanceMethod yX5_withLinks, Cond.selects RX5 yX5_withLinks yX5_withLinks, Cond.initialized RX5, Cond.code yX5_withLinks cX5_withLinks 7 (some .long), Cond.fieldLink RX5 19 "FoldedWays" "graph" "LFoldedWays$Graph;", Cond.fieldLink RX5 33 "FoldedWays" "bundles" "LFoldedWays$Bundles;", Cond.fieldLink RX5 26 "FoldedWays" "marks" "LFoldedWays$Marks;", Cond.methodLink RX5 70 yX2_linkCount, Cond.instanceMethod yX2_linkCount, Cond.selects RX2 yX2_linkCount yX2_linkCount, Cond.initialized RX2, Cond.code yX2_linkCount cX2_linkCount 1 (some .int), Cond.fieldLink RX2 34 "FoldedWays$Graph" "links" "I", Cond.methodLink RX5 107 yX2_startOf, Cond.instanceMethod yX2_startOf, Cond.selects RX2 yX2_startOf yX2_startOf, Cond.code yX2_startOf cX2_startOf 2 (some .int), Cond.fieldLink RX2 9 "FoldedWays$Graph" "start" "[I", Cond.methodLink RX5 245 yX5_with, Cond.static yX5_with, Cond.code yX5_with cX5_with 4 (some .long), Cond.constantLong RX5 243 (31)]
def wsX5_digest_r2 : List Cond := [Cond.methodLink RX5 110 yX2_endOf, Cond.instanceMethod yX2_endOf, Cond.selects RX2 yX2_endOf yX2_endOf, Cond.code yX2_endOf cX2_endOf 2 (some .int), Cond.fieldLink RX2 15 "FoldedWays$Graph" "end" "[I", Cond.methodLink RX5 113 yX0_placesWith, Cond.instanceMethod yX0_placesWith, Cond.selects RX0 yX0_placesWith yX0_placesWith, Cond.initialized RX0, Cond.code yX0_placesWith cX0_placesWith 4 (some .int), Cond.fieldLink RX0 9 "FoldedWays$Bundles" "links" "[I", Cond.methodLink RX5 103 yX3_ofLink, Cond.instanceMethod yX3_ofLink, Cond.selects RX3 yX3_ofLink yX3_ofLink, Cond.initialized RX3, Cond.code yX3_ofLink cX3_ofLink 3 (some .long), Cond.fieldLink RX3 21 "FoldedWays$Marks" "bits" "[J", Cond.static yX5_isVariant, Cond.code yX5_isVariant cX5_isVariant 1 (some .boolean), Cond.methodLink RX5 198 yX5_withBundles, Cond.instanceMethod yX5_withBundles, Cond.selects RX5 yX5_withBundles yX5_withBundles, Cond.code yX5_withBundles cX5_withBundles 7 (some .long), Cond.methodLink RX5 133 yX0_isThere]
def wsX5_digest_r3 : List Cond := [Cond.instanceMethod yX0_isThere, Cond.selects RX0 yX0_isThere yX0_isThere, Cond.code yX0_isThere cX0_isThere 2 (some .boolean), Cond.methodLink RX0 19 yX0_linksAt, Cond.instanceMethod yX0_linksAt, Cond.selects RX0 yX0_linksAt yX0_linksAt, Cond.code yX0_linksAt cX0_linksAt 2 (some .int), Cond.static yX5_isPlace, Cond.code yX5_isPlace cX5_isPlace 1 (some .boolean), Cond.methodLink RX5 147 yX3_ofBundle, Cond.instanceMethod yX3_ofBundle, Cond.selects RX3 yX3_ofBundle yX3_ofBundle, Cond.code yX3_ofBundle cX3_ofBundle 3 (some .long), Cond.methodLink RX5 201 yX5_withNodes, Cond.instanceMethod yX5_withNodes, Cond.selects RX5 yX5_withNodes yX5_withNodes, Cond.code yX5_withNodes cX5_withNodes 9 (some .long), Cond.methodLink RX5 249 yX2_allNodes, Cond.instanceMethod yX2_allNodes, Cond.selects RX2 yX2_allNodes yX2_allNodes, Cond.code yX2_allNodes cX2_allNodes 1 (some .int), Cond.fieldLink RX2 30 "FoldedWays$Graph" "nodes" "I", Cond.methodLink RX5 186 yX2_nodeCount, Cond.instanceMethod yX2_nodeCount]
def wsX5_digest_r4 : List Cond := [Cond.selects RX2 yX2_nodeCount yX2_nodeCount, Cond.code yX2_nodeCount cX2_nodeCount 1 (some .int), Cond.methodLink RX5 126 yX2_treeLinks, Cond.instanceMethod yX2_treeLinks, Cond.selects RX2 yX2_treeLinks yX2_treeLinks, Cond.code yX2_treeLinks cX2_treeLinks 5 (some .int), Cond.fieldLink RX2 27 "FoldedWays$Graph" "wayLinks" "[I", Cond.methodLink RX2 76 yX2_hasNode, Cond.instanceMethod yX2_hasNode, Cond.selects RX2 yX2_hasNode yX2_hasNode, Cond.code yX2_hasNode cX2_hasNode 2 (some .boolean), Cond.methodLink RX2 73 yX2_at, Cond.static yX2_at, Cond.code yX2_at cX2_at 2 (some .int), Cond.methodLink RX5 154 yX5_spreadOut, Cond.instanceMethod yX5_spreadOut, Cond.selects RX5 yX5_spreadOut yX5_spreadOut, Cond.code yX5_spreadOut cX5_spreadOut 8 none, Cond.fieldLink RX5 40 "FoldedWays" "flow" "LFoldedWays$Flow;", Cond.fieldLink RX5 225 "FoldedWays$Flow" "foldBits" "I", Cond.methodLink RX5 150 yX5_foldedBits, Cond.instanceMethod yX5_foldedBits, Cond.selects RX5 yX5_foldedBits yX5_foldedBits, Cond.code yX5_foldedBits cX5_foldedBits 9 (some .long)]
def wsX5_digest_r5 : List Cond := [Cond.methodLink RX5 144 yX0_linksAt, Cond.methodLink RX5 212 yX5_matchingLinks, Cond.instanceMethod yX5_matchingLinks, Cond.selects RX5 yX5_matchingLinks yX5_matchingLinks, Cond.code yX5_matchingLinks cX5_matchingLinks 6 (some .int), Cond.constantLong RX5 210 (-1), Cond.methodLink RX5 216 yX1_run, Cond.instanceMethod yX1_run, Cond.selects RX1 yX1_run yX1_run, Cond.initialized RX1, Cond.code yX1_run cX1_run 7 none, Cond.fieldLink RX1 9 "FoldedWays$Flow" "passages" "I", Cond.fieldLink RX1 15 "FoldedWays$Flow" "astray" "I", Cond.fieldLink RX1 18 "FoldedWays$Flow" "loops" "I", Cond.fieldLink RX1 21 "FoldedWays$Flow" "steps" "I", Cond.fieldLink RX1 24 "FoldedWays$Flow" "reached" "I", Cond.fieldLink RX1 33 "FoldedWays$Flow" "matchingAside" "I", Cond.methodLink RX1 27 yJ6_bitCount_0f7a4, Cond.static yJ6_bitCount_0f7a4, Cond.initialized RJ6, Cond.code yJ6_bitCount_0f7a4 cJ6_bitCount_0f7a4 1 (some .int), Cond.constant RJ6 265 (1431655765), Cond.constant RJ6 266 (858993459), Cond.constant RJ6 267 (252645135)]
def wsX5_digest_r6 : List Cond := [Cond.methodLink RX1 36 yX1_sendOn, Cond.instanceMethod yX1_sendOn, Cond.selects RX1 yX1_sendOn yX1_sendOn, Cond.code yX1_sendOn cX1_sendOn 9 (some .int), Cond.methodLink RX1 40 yX2_linkCount, Cond.methodLink RX1 46 yX2_startOf, Cond.methodLink RX1 49 yX2_endOf, Cond.methodLink RX5 220 yJ13_bitCount_95d88, Cond.static yJ13_bitCount_95d88, Cond.initialized RJ13, Cond.code yJ13_bitCount_95d88 cJ13_bitCount_95d88 2 (some .int), Cond.constantLong RJ13 314 (6148914691236517205), Cond.constantLong RJ13 316 (3689348814741910323), Cond.constantLong RJ13 318 (1085102592571150095), Cond.methodLink RX5 158 yX5_spreadFact, Cond.instanceMethod yX5_spreadFact, Cond.selects RX5 yX5_spreadFact yX5_spreadFact, Cond.code yX5_spreadFact cX5_spreadFact 2 (some .int), Cond.fieldLink RX5 171 "FoldedWays$Flow" "passages" "I", Cond.fieldLink RX5 177 "FoldedWays$Flow" "astray" "I", Cond.fieldLink RX5 183 "FoldedWays$Flow" "loops" "I", Cond.fieldLink RX5 228 "FoldedWays$Flow" "steps" "I", Cond.fieldLink RX5 231 "FoldedWays$Flow" "reached" "I", Cond.fieldLink RX5 240 "FoldedWays$Flow" "matchingAside" "I"]
def wsX5_digest_r7 : List Cond := [Cond.methodLink RX5 234 yX3_oddsAbove, Cond.instanceMethod yX3_oddsAbove, Cond.selects RX3 yX3_oddsAbove yX3_oddsAbove, Cond.code yX3_oddsAbove cX3_oddsAbove 2 (some .int), Cond.methodLink RX3 52 yX3_reduced, Cond.instanceMethod yX3_reduced, Cond.selects RX3 yX3_reduced yX3_reduced, Cond.code yX3_reduced cX3_reduced 4 (some .int), Cond.fieldLink RX3 9 "FoldedWays$Marks" "width" "I", Cond.methodLink RX3 56 yX3_power, Cond.instanceMethod yX3_power, Cond.selects RX3 yX3_power yX3_power, Cond.code yX3_power cX3_power 4 (some .int), Cond.fieldLink RX3 15 "FoldedWays$Marks" "drawn" "I", Cond.methodLink RX5 237 yX3_oddsBelow, Cond.instanceMethod yX3_oddsBelow, Cond.selects RX3 yX3_oddsBelow yX3_oddsBelow, Cond.code yX3_oddsBelow cX3_oddsBelow 2 (some .int), Cond.methodLink RX5 161 yX5_bestVariant, Cond.instanceMethod yX5_bestVariant, Cond.selects RX5 yX5_bestVariant yX5_bestVariant, Cond.code yX5_bestVariant cX5_bestVariant 9 (some .int), Cond.methodLink RX5 204 yX5_withPage, Cond.instanceMethod yX5_withPage]
def wsX5_digest_r8 : List Cond := [Cond.selects RX5 yX5_withPage yX5_withPage, Cond.code yX5_withPage cX5_withPage 6 (some .long), Cond.fieldLink RX5 10 "FoldedWays" "page" "LFoldedWays$Page;", Cond.methodLink RX5 52 yX4_size, Cond.instanceMethod yX4_size, Cond.selects RX4 yX4_size yX4_size, Cond.initialized RX4, Cond.code yX4_size cX4_size 1 (some .int), Cond.fieldLink RX4 15 "FoldedWays$Page" "length" "I", Cond.methodLink RX5 252 yX4_codeAt, Cond.instanceMethod yX4_codeAt, Cond.selects RX4 yX4_codeAt yX4_codeAt, Cond.code yX4_codeAt cX4_codeAt 2 (some .int), Cond.fieldLink RX4 11 "FoldedWays$Page" "codes" "[I", Cond.methodLink RX5 207 yX5_withCounts, Cond.instanceMethod yX5_withCounts, Cond.selects RX5 yX5_withCounts yX5_withCounts, Cond.code yX5_withCounts cX5_withCounts 6 (some .long), Cond.methodLink RX5 255 yX5_count, Cond.instanceMethod yX5_count, Cond.selects RX5 yX5_count yX5_count, Cond.code yX5_count cX5_count 2 (some .int), Cond.fieldLink RX5 76 "FoldedWays" "netsRead" "I", Cond.fieldLink RX5 165 "FoldedWays" "timesSent" "I"]
def wsX5_digest_r9 : List Cond := [Cond.fieldLink RX5 168 "FoldedWays" "passagesSent" "I", Cond.fieldLink RX5 174 "FoldedWays" "astraySent" "I", Cond.fieldLink RX5 180 "FoldedWays" "loopsSent" "I", Cond.methodLink RX5 84 yX3_setting, Cond.instanceMethod yX3_setting, Cond.selects RX3 yX3_setting yX3_setting, Cond.code yX3_setting cX3_setting 2 (some .int), Cond.fieldLink RX3 18 "FoldedWays$Marks" "seed" "I", Cond.methodLink RX5 189 yX0_howMany, Cond.instanceMethod yX0_howMany, Cond.selects RX0 yX0_howMany yX0_howMany, Cond.code yX0_howMany cX0_howMany 3 (some .int), Cond.methodLink RX0 23 yX0_isThere]
def wsX5_digest : List Cond := .code yX5_digest cX5_digest 3 (some .long) :: ((wsX5_digest_r1 ++ (wsX5_digest_r2 ++ (wsX5_digest_r3 ++ (wsX5_digest_r4 ++ (wsX5_digest_r5 ++ (wsX5_digest_r6 ++ (wsX5_digest_r7 ++ (wsX5_digest_r8 ++ wsX5_digest_r9)))))))) ++ wsX50 ++ wsX20 ++ wsX00 ++ wsX30 ++ wsX10 ++ wsX40)
def wsX6_init : List Cond := .code yX6_init cX6_init 1 none :: ([.methodLink RX6 1 objectInit, .instanceMethod objectInit, .code objectInit ⟨#[0xb1]⟩ 1 none, .arrayClass .int, .fieldLink RX6 7 "FoldedWaysModel" "page" "[I", .fieldLink RX6 13 "FoldedWaysModel" "fromOf" "[I", .fieldLink RX6 16 "FoldedWaysModel" "toOf" "[I", .fieldLink RX6 19 "FoldedWaysModel" "width" "I", .fieldLink RX6 23 "FoldedWaysModel" "drawn" "I", .fieldLink RX6 26 "FoldedWaysModel" "seed" "I", .fieldLink RX6 29 "FoldedWaysModel" "bundleOf" "[I", .fieldLink RX6 32 "FoldedWaysModel" "newFrom" "[I", .fieldLink RX6 35 "FoldedWaysModel" "newTo" "[I", .arrayClass .long, .fieldLink RX6 38 "FoldedWaysModel" "marks" "[J", .fieldLink RX6 42 "FoldedWaysModel" "leftOf" "[I", .fieldLink RX6 45 "FoldedWaysModel" "wayAt" "[I"] ++ wsX60)
def wsX6_within : List Cond := .code yX6_within cX6_within 3 (some .boolean) :: ([])
def wsX6_has : List Cond := .code yX6_has cX6_has 2 (some .boolean) :: ([])
def wsX6_letter : List Cond := .code yX6_letter cX6_letter 2 (some .int) :: ([.fieldLink RX6 52 "FoldedWaysModel" "pageLength" "I", .fieldLink RX6 7 "FoldedWaysModel" "page" "[I", .methodLink RX6 48 yX6_within, .static yX6_within, .initialized RX6, .code yX6_within cX6_within 3 (some .boolean)] ++ wsX60)
def wsX6_blank : List Cond := .code yX6_blank cX6_blank 2 (some .int) :: ([.fieldLink RX6 52 "FoldedWaysModel" "pageLength" "I"] ++ wsX60)
def wsX6_isTold : List Cond := .code yX6_isTold cX6_isTold 5 (some .boolean) :: ([.fieldLink RX6 55 "FoldedWaysModel" "newPairs" "I", .fieldLink RX6 32 "FoldedWaysModel" "newFrom" "[I", .fieldLink RX6 35 "FoldedWaysModel" "newTo" "[I"] ++ wsX60)
def wsX6_takesNode : List Cond := .code yX6_takesNode cX6_takesNode 3 (some .boolean) :: ([.fieldLink RX6 58 "FoldedWaysModel" "newNodes" "I", .fieldLink RX6 61 "FoldedWaysModel" "due" "I", .fieldLink RX6 64 "FoldedWaysModel" "newOne" "I", .fieldLink RX6 32 "FoldedWaysModel" "newFrom" "[I", .fieldLink RX6 55 "FoldedWaysModel" "newPairs" "I", .fieldLink RX6 35 "FoldedWaysModel" "newTo" "[I", .methodLink RX6 48 yX6_within, .static yX6_within, .initialized RX6, .code yX6_within cX6_within 3 (some .boolean), .methodLink RX6 67 yX6_isTold, .instanceMethod yX6_isTold, .selects RX6 yX6_isTold yX6_isTold, .code yX6_isTold cX6_isTold 5 (some .boolean)] ++ wsX60)
def wsX6_takes : List Cond := .code yX6_takes cX6_takes 3 (some .boolean) :: ([.fieldLink RX6 58 "FoldedWaysModel" "newNodes" "I", .fieldLink RX6 61 "FoldedWaysModel" "due" "I", .fieldLink RX6 55 "FoldedWaysModel" "newPairs" "I", .methodLink RX6 48 yX6_within, .static yX6_within, .initialized RX6, .code yX6_within cX6_within 3 (some .boolean), .methodLink RX6 71 yX6_takesNode, .instanceMethod yX6_takesNode, .selects RX6 yX6_takesNode yX6_takesNode, .code yX6_takesNode cX6_takesNode 3 (some .boolean), .fieldLink RX6 64 "FoldedWaysModel" "newOne" "I", .fieldLink RX6 32 "FoldedWaysModel" "newFrom" "[I", .fieldLink RX6 35 "FoldedWaysModel" "newTo" "[I", .methodLink RX6 67 yX6_isTold, .instanceMethod yX6_isTold, .selects RX6 yX6_isTold yX6_isTold, .code yX6_isTold cX6_isTold 5 (some .boolean)] ++ wsX60)
def wsX6_goAlong : List Cond := .code yX6_goAlong cX6_goAlong 2 (some .int) :: ([.fieldLink RX6 58 "FoldedWaysModel" "newNodes" "I", .fieldLink RX6 55 "FoldedWaysModel" "newPairs" "I", .fieldLink RX6 61 "FoldedWaysModel" "due" "I", .fieldLink RX6 52 "FoldedWaysModel" "pageLength" "I", .fieldLink RX6 7 "FoldedWaysModel" "page" "[I", .methodLink RX6 75 yX6_takes, .instanceMethod yX6_takes, .selects RX6 yX6_takes yX6_takes, .initialized RX6, .code yX6_takes cX6_takes 3 (some .boolean), .methodLink RX6 48 yX6_within, .static yX6_within, .code yX6_within cX6_within 3 (some .boolean), .methodLink RX6 71 yX6_takesNode, .instanceMethod yX6_takesNode, .selects RX6 yX6_takesNode yX6_takesNode, .code yX6_takesNode cX6_takesNode 3 (some .boolean), .fieldLink RX6 64 "FoldedWaysModel" "newOne" "I", .fieldLink RX6 32 "FoldedWaysModel" "newFrom" "[I", .fieldLink RX6 35 "FoldedWaysModel" "newTo" "[I", .methodLink RX6 67 yX6_isTold, .instanceMethod yX6_isTold, .selects RX6 yX6_isTold yX6_isTold, .code yX6_isTold cX6_isTold 5 (some .boolean)] ++ wsX60)
def wsX6_fault_r1 : List Cond := [Cond.methodLink RX6 78 yX6_goAlong, Cond.instanceMethod yX6_goAlong, Cond.selects RX6 yX6_goAlong yX6_goAlong, Cond.initialized RX6, Cond.code yX6_goAlong cX6_goAlong 2 (some .int), Cond.fieldLink RX6 58 "FoldedWaysModel" "newNodes" "I", Cond.fieldLink RX6 55 "FoldedWaysModel" "newPairs" "I", Cond.fieldLink RX6 61 "FoldedWaysModel" "due" "I", Cond.fieldLink RX6 52 "FoldedWaysModel" "pageLength" "I", Cond.fieldLink RX6 7 "FoldedWaysModel" "page" "[I", Cond.methodLink RX6 75 yX6_takes, Cond.instanceMethod yX6_takes, Cond.selects RX6 yX6_takes yX6_takes, Cond.code yX6_takes cX6_takes 3 (some .boolean), Cond.methodLink RX6 48 yX6_within, Cond.static yX6_within, Cond.code yX6_within cX6_within 3 (some .boolean), Cond.methodLink RX6 71 yX6_takesNode, Cond.instanceMethod yX6_takesNode, Cond.selects RX6 yX6_takesNode yX6_takesNode, Cond.code yX6_takesNode cX6_takesNode 3 (some .boolean), Cond.fieldLink RX6 64 "FoldedWaysModel" "newOne" "I", Cond.fieldLink RX6 32 "FoldedWaysModel" "newFrom" "[I", Cond.fieldLink RX6 35 "FoldedWaysModel" "newTo" "[I"]
def wsX6_fault_r2 : List Cond := [Cond.methodLink RX6 67 yX6_isTold, Cond.instanceMethod yX6_isTold, Cond.selects RX6 yX6_isTold yX6_isTold, Cond.code yX6_isTold cX6_isTold 5 (some .boolean)]
def wsX6_fault : List Cond := .code yX6_fault cX6_fault 1 (some .int) :: ((wsX6_fault_r1 ++ wsX6_fault_r2) ++ wsX60)
def wsX6_draw : List Cond := .code yX6_draw cX6_draw 2 (some .int) :: ([.constantLong RX6 94 (1103515245), .fieldLink RX6 96 "FoldedWaysModel" "drawing" "J", .constantLong RX6 100 (12345), .constantLong RX6 102 (2147483648), .constantLong RX6 104 (65536)] ++ wsX60)
def wsX6_layMarks : List Cond := .code yX6_layMarks cX6_layMarks 6 none :: ([.fieldLink RX6 26 "FoldedWaysModel" "seed" "I", .fieldLink RX6 96 "FoldedWaysModel" "drawing" "J", .fieldLink RX6 23 "FoldedWaysModel" "drawn" "I", .fieldLink RX6 85 "FoldedWaysModel" "links" "I", .fieldLink RX6 19 "FoldedWaysModel" "width" "I", .fieldLink RX6 38 "FoldedWaysModel" "marks" "[J", .methodLink RX6 106 yX6_draw, .instanceMethod yX6_draw, .selects RX6 yX6_draw yX6_draw, .initialized RX6, .code yX6_draw cX6_draw 2 (some .int), .constantLong RX6 94 (1103515245), .constantLong RX6 100 (12345), .constantLong RX6 102 (2147483648), .constantLong RX6 104 (65536)] ++ wsX60)
def wsX6_net_r1 : List Cond := [Cond.fieldLink RX6 52 "FoldedWaysModel" "pageLength" "I", Cond.fieldLink RX6 55 "FoldedWaysModel" "newPairs" "I", Cond.fieldLink RX6 61 "FoldedWaysModel" "due" "I", Cond.fieldLink RX6 58 "FoldedWaysModel" "newNodes" "I", Cond.fieldLink RX6 82 "FoldedWaysModel" "nodes" "I", Cond.fieldLink RX6 85 "FoldedWaysModel" "links" "I", Cond.fieldLink RX6 13 "FoldedWaysModel" "fromOf" "[I", Cond.fieldLink RX6 32 "FoldedWaysModel" "newFrom" "[I", Cond.fieldLink RX6 16 "FoldedWaysModel" "toOf" "[I", Cond.fieldLink RX6 35 "FoldedWaysModel" "newTo" "[I", Cond.fieldLink RX6 29 "FoldedWaysModel" "bundleOf" "[I", Cond.fieldLink RX6 88 "FoldedWaysModel" "netsRead" "I", Cond.methodLink RX6 78 yX6_goAlong, Cond.instanceMethod yX6_goAlong, Cond.selects RX6 yX6_goAlong yX6_goAlong, Cond.initialized RX6, Cond.code yX6_goAlong cX6_goAlong 2 (some .int), Cond.fieldLink RX6 7 "FoldedWaysModel" "page" "[I", Cond.methodLink RX6 75 yX6_takes, Cond.instanceMethod yX6_takes, Cond.selects RX6 yX6_takes yX6_takes, Cond.code yX6_takes cX6_takes 3 (some .boolean), Cond.methodLink RX6 48 yX6_within, Cond.static yX6_within]
def wsX6_net_r2 : List Cond := [Cond.code yX6_within cX6_within 3 (some .boolean), Cond.methodLink RX6 71 yX6_takesNode, Cond.instanceMethod yX6_takesNode, Cond.selects RX6 yX6_takesNode yX6_takesNode, Cond.code yX6_takesNode cX6_takesNode 3 (some .boolean), Cond.fieldLink RX6 64 "FoldedWaysModel" "newOne" "I", Cond.methodLink RX6 67 yX6_isTold, Cond.instanceMethod yX6_isTold, Cond.selects RX6 yX6_isTold yX6_isTold, Cond.code yX6_isTold cX6_isTold 5 (some .boolean), Cond.methodLink RX6 91 yX6_layMarks, Cond.instanceMethod yX6_layMarks, Cond.selects RX6 yX6_layMarks yX6_layMarks, Cond.code yX6_layMarks cX6_layMarks 6 none, Cond.fieldLink RX6 26 "FoldedWaysModel" "seed" "I", Cond.fieldLink RX6 96 "FoldedWaysModel" "drawing" "J", Cond.fieldLink RX6 23 "FoldedWaysModel" "drawn" "I", Cond.fieldLink RX6 19 "FoldedWaysModel" "width" "I", Cond.fieldLink RX6 38 "FoldedWaysModel" "marks" "[J", Cond.methodLink RX6 106 yX6_draw, Cond.instanceMethod yX6_draw, Cond.selects RX6 yX6_draw yX6_draw, Cond.code yX6_draw cX6_draw 2 (some .int), Cond.constantLong RX6 94 (1103515245)]
def wsX6_net_r3 : List Cond := [Cond.constantLong RX6 100 (12345), Cond.constantLong RX6 102 (2147483648), Cond.constantLong RX6 104 (65536)]
def wsX6_net : List Cond := .code yX6_net cX6_net 2 (some .int) :: ((wsX6_net_r1 ++ (wsX6_net_r2 ++ wsX6_net_r3)) ++ wsX60)
def wsX6_set : List Cond := .code yX6_set cX6_set 5 (some .int) :: ([.fieldLink RX6 19 "FoldedWaysModel" "width" "I", .fieldLink RX6 23 "FoldedWaysModel" "drawn" "I", .fieldLink RX6 26 "FoldedWaysModel" "seed" "I", .methodLink RX6 48 yX6_within, .static yX6_within, .initialized RX6, .code yX6_within cX6_within 3 (some .boolean), .methodLink RX6 91 yX6_layMarks, .instanceMethod yX6_layMarks, .selects RX6 yX6_layMarks yX6_layMarks, .code yX6_layMarks cX6_layMarks 6 none, .fieldLink RX6 96 "FoldedWaysModel" "drawing" "J", .fieldLink RX6 85 "FoldedWaysModel" "links" "I", .fieldLink RX6 38 "FoldedWaysModel" "marks" "[J", .methodLink RX6 106 yX6_draw, .instanceMethod yX6_draw, .selects RX6 yX6_draw yX6_draw, .code yX6_draw cX6_draw 2 (some .int), .constantLong RX6 94 (1103515245), .constantLong RX6 100 (12345), .constantLong RX6 102 (2147483648), .constantLong RX6 104 (65536)] ++ wsX60)
def wsX6_isLink : List Cond := .code yX6_isLink cX6_isLink 2 (some .boolean) :: ([.fieldLink RX6 85 "FoldedWaysModel" "links" "I", .methodLink RX6 48 yX6_within, .static yX6_within, .initialized RX6, .code yX6_within cX6_within 3 (some .boolean)] ++ wsX60)
def wsX6_isVariant : List Cond := .code yX6_isVariant cX6_isVariant 1 (some .boolean) :: ([.methodLink RX6 48 yX6_within, .static yX6_within, .initialized RX6, .code yX6_within cX6_within 3 (some .boolean)])
def wsX6_mark : List Cond := .code yX6_mark cX6_mark 3 (some .long) :: ([.constantLong RX6 113 (-1001), .fieldLink RX6 38 "FoldedWaysModel" "marks" "[J", .constantLong RX6 118 (-1002), .methodLink RX6 110 yX6_isLink, .instanceMethod yX6_isLink, .selects RX6 yX6_isLink yX6_isLink, .initialized RX6, .code yX6_isLink cX6_isLink 2 (some .boolean), .fieldLink RX6 85 "FoldedWaysModel" "links" "I", .methodLink RX6 48 yX6_within, .static yX6_within, .code yX6_within cX6_within 3 (some .boolean), .methodLink RX6 115 yX6_isVariant, .static yX6_isVariant, .code yX6_isVariant cX6_isVariant 1 (some .boolean)] ++ wsX60)
def wsX6_bundlesOf : List Cond := .code yX6_bundlesOf cX6_bundlesOf 4 (some .int) :: ([.fieldLink RX6 29 "FoldedWaysModel" "bundleOf" "[I", .methodLink RX6 120 yX6_has, .static yX6_has, .initialized RX6, .code yX6_has cX6_has 2 (some .boolean)] ++ wsX60)
def wsX6_linkNow : List Cond := .code yX6_linkNow cX6_linkNow 3 (some .int) :: ([.fieldLink RX6 13 "FoldedWaysModel" "fromOf" "[I", .fieldLink RX6 16 "FoldedWaysModel" "toOf" "[I", .methodLink RX6 123 yX6_bundlesOf, .instanceMethod yX6_bundlesOf, .selects RX6 yX6_bundlesOf yX6_bundlesOf, .initialized RX6, .code yX6_bundlesOf cX6_bundlesOf 4 (some .int), .fieldLink RX6 29 "FoldedWaysModel" "bundleOf" "[I", .methodLink RX6 120 yX6_has, .static yX6_has, .code yX6_has cX6_has 2 (some .boolean)] ++ wsX60)
def wsX6_link : List Cond := .code yX6_link cX6_link 3 (some .int) :: ([.methodLink RX6 110 yX6_isLink, .instanceMethod yX6_isLink, .selects RX6 yX6_isLink yX6_isLink, .initialized RX6, .code yX6_isLink cX6_isLink 2 (some .boolean), .fieldLink RX6 85 "FoldedWaysModel" "links" "I", .methodLink RX6 48 yX6_within, .static yX6_within, .code yX6_within cX6_within 3 (some .boolean), .methodLink RX6 126 yX6_linkNow, .instanceMethod yX6_linkNow, .selects RX6 yX6_linkNow yX6_linkNow, .code yX6_linkNow cX6_linkNow 3 (some .int), .fieldLink RX6 13 "FoldedWaysModel" "fromOf" "[I", .fieldLink RX6 16 "FoldedWaysModel" "toOf" "[I", .methodLink RX6 123 yX6_bundlesOf, .instanceMethod yX6_bundlesOf, .selects RX6 yX6_bundlesOf yX6_bundlesOf, .code yX6_bundlesOf cX6_bundlesOf 4 (some .int), .fieldLink RX6 29 "FoldedWaysModel" "bundleOf" "[I", .methodLink RX6 120 yX6_has, .static yX6_has, .code yX6_has cX6_has 2 (some .boolean)] ++ wsX60)
def wsX6_isNode : List Cond := .code yX6_isNode cX6_isNode 2 (some .boolean) :: ([.fieldLink RX6 82 "FoldedWaysModel" "nodes" "I", .methodLink RX6 48 yX6_within, .static yX6_within, .initialized RX6, .code yX6_within cX6_within 3 (some .boolean)] ++ wsX60)
def wsX6_layLeft : List Cond := .code yX6_layLeft cX6_layLeft 5 none :: ([.fieldLink RX6 82 "FoldedWaysModel" "nodes" "I", .fieldLink RX6 42 "FoldedWaysModel" "leftOf" "[I", .fieldLink RX6 85 "FoldedWaysModel" "links" "I", .fieldLink RX6 16 "FoldedWaysModel" "toOf" "[I", .fieldLink RX6 13 "FoldedWaysModel" "fromOf" "[I"] ++ wsX60)
def wsX6_nextNode : List Cond := .code yX6_nextNode cX6_nextNode 5 (some .int) :: ([.fieldLink RX6 85 "FoldedWaysModel" "links" "I", .fieldLink RX6 13 "FoldedWaysModel" "fromOf" "[I", .fieldLink RX6 42 "FoldedWaysModel" "leftOf" "[I", .fieldLink RX6 16 "FoldedWaysModel" "toOf" "[I"] ++ wsX60)
def wsX6_layWay : List Cond := .code yX6_layWay cX6_layWay 5 none :: ([.fieldLink RX6 134 "FoldedWaysModel" "wayMany" "I", .fieldLink RX6 42 "FoldedWaysModel" "leftOf" "[I", .fieldLink RX6 45 "FoldedWaysModel" "wayAt" "[I", .methodLink RX6 130 yX6_layLeft, .instanceMethod yX6_layLeft, .selects RX6 yX6_layLeft yX6_layLeft, .initialized RX6, .code yX6_layLeft cX6_layLeft 5 none, .fieldLink RX6 82 "FoldedWaysModel" "nodes" "I", .fieldLink RX6 85 "FoldedWaysModel" "links" "I", .fieldLink RX6 16 "FoldedWaysModel" "toOf" "[I", .fieldLink RX6 13 "FoldedWaysModel" "fromOf" "[I", .methodLink RX6 137 yX6_nextNode, .instanceMethod yX6_nextNode, .selects RX6 yX6_nextNode yX6_nextNode, .code yX6_nextNode cX6_nextNode 5 (some .int)] ++ wsX60)
def wsX6_way_r1 : List Cond := [Cond.fieldLink RX6 134 "FoldedWaysModel" "wayMany" "I", Cond.fieldLink RX6 45 "FoldedWaysModel" "wayAt" "[I", Cond.methodLink RX6 140 yX6_isNode, Cond.instanceMethod yX6_isNode, Cond.selects RX6 yX6_isNode yX6_isNode, Cond.initialized RX6, Cond.code yX6_isNode cX6_isNode 2 (some .boolean), Cond.fieldLink RX6 82 "FoldedWaysModel" "nodes" "I", Cond.methodLink RX6 48 yX6_within, Cond.static yX6_within, Cond.code yX6_within cX6_within 3 (some .boolean), Cond.methodLink RX6 143 yX6_layWay, Cond.instanceMethod yX6_layWay, Cond.selects RX6 yX6_layWay yX6_layWay, Cond.code yX6_layWay cX6_layWay 5 none, Cond.fieldLink RX6 42 "FoldedWaysModel" "leftOf" "[I", Cond.methodLink RX6 130 yX6_layLeft, Cond.instanceMethod yX6_layLeft, Cond.selects RX6 yX6_layLeft yX6_layLeft, Cond.code yX6_layLeft cX6_layLeft 5 none, Cond.fieldLink RX6 85 "FoldedWaysModel" "links" "I", Cond.fieldLink RX6 16 "FoldedWaysModel" "toOf" "[I", Cond.fieldLink RX6 13 "FoldedWaysModel" "fromOf" "[I", Cond.methodLink RX6 137 yX6_nextNode]
def wsX6_way_r2 : List Cond := [Cond.instanceMethod yX6_nextNode, Cond.selects RX6 yX6_nextNode yX6_nextNode, Cond.code yX6_nextNode cX6_nextNode 5 (some .int)]
def wsX6_way : List Cond := .code yX6_way cX6_way 4 (some .int) :: ((wsX6_way_r1 ++ wsX6_way_r2) ++ wsX60)
def wsX6_linkFrom : List Cond := .code yX6_linkFrom cX6_linkFrom 5 (some .int) :: ([.fieldLink RX6 85 "FoldedWaysModel" "links" "I", .fieldLink RX6 13 "FoldedWaysModel" "fromOf" "[I", .fieldLink RX6 16 "FoldedWaysModel" "toOf" "[I"] ++ wsX60)
def wsX6_treeOf_r1 : List Cond := [Cond.fieldLink RX6 82 "FoldedWaysModel" "nodes" "I", Cond.fieldLink RX6 134 "FoldedWaysModel" "wayMany" "I", Cond.fieldLink RX6 45 "FoldedWaysModel" "wayAt" "[I", Cond.methodLink RX6 120 yX6_has, Cond.static yX6_has, Cond.initialized RX6, Cond.code yX6_has cX6_has 2 (some .boolean), Cond.methodLink RX6 143 yX6_layWay, Cond.instanceMethod yX6_layWay, Cond.selects RX6 yX6_layWay yX6_layWay, Cond.code yX6_layWay cX6_layWay 5 none, Cond.fieldLink RX6 42 "FoldedWaysModel" "leftOf" "[I", Cond.methodLink RX6 130 yX6_layLeft, Cond.instanceMethod yX6_layLeft, Cond.selects RX6 yX6_layLeft yX6_layLeft, Cond.code yX6_layLeft cX6_layLeft 5 none, Cond.fieldLink RX6 85 "FoldedWaysModel" "links" "I", Cond.fieldLink RX6 16 "FoldedWaysModel" "toOf" "[I", Cond.fieldLink RX6 13 "FoldedWaysModel" "fromOf" "[I", Cond.methodLink RX6 137 yX6_nextNode, Cond.instanceMethod yX6_nextNode, Cond.selects RX6 yX6_nextNode yX6_nextNode, Cond.code yX6_nextNode cX6_nextNode 5 (some .int), Cond.methodLink RX6 147 yX6_linkFrom]
def wsX6_treeOf_r2 : List Cond := [Cond.instanceMethod yX6_linkFrom, Cond.selects RX6 yX6_linkFrom yX6_linkFrom, Cond.code yX6_linkFrom cX6_linkFrom 5 (some .int)]
def wsX6_treeOf : List Cond := .code yX6_treeOf cX6_treeOf 6 (some .int) :: ((wsX6_treeOf_r1 ++ wsX6_treeOf_r2) ++ wsX60)
def wsX6_isSet : List Cond := .code yX6_isSet cX6_isSet 2 (some .boolean) :: ([.fieldLink RX6 82 "FoldedWaysModel" "nodes" "I", .methodLink RX6 48 yX6_within, .static yX6_within, .initialized RX6, .code yX6_within cX6_within 3 (some .boolean)] ++ wsX60)
def wsX6_tree_r1 : List Cond := [Cond.methodLink RX6 140 yX6_isNode, Cond.instanceMethod yX6_isNode, Cond.selects RX6 yX6_isNode yX6_isNode, Cond.initialized RX6, Cond.code yX6_isNode cX6_isNode 2 (some .boolean), Cond.fieldLink RX6 82 "FoldedWaysModel" "nodes" "I", Cond.methodLink RX6 48 yX6_within, Cond.static yX6_within, Cond.code yX6_within cX6_within 3 (some .boolean), Cond.methodLink RX6 150 yX6_isSet, Cond.instanceMethod yX6_isSet, Cond.selects RX6 yX6_isSet yX6_isSet, Cond.code yX6_isSet cX6_isSet 2 (some .boolean), Cond.methodLink RX6 153 yX6_treeOf, Cond.instanceMethod yX6_treeOf, Cond.selects RX6 yX6_treeOf yX6_treeOf, Cond.code yX6_treeOf cX6_treeOf 6 (some .int), Cond.fieldLink RX6 134 "FoldedWaysModel" "wayMany" "I", Cond.fieldLink RX6 45 "FoldedWaysModel" "wayAt" "[I", Cond.methodLink RX6 120 yX6_has, Cond.static yX6_has, Cond.code yX6_has cX6_has 2 (some .boolean), Cond.methodLink RX6 143 yX6_layWay, Cond.instanceMethod yX6_layWay]
def wsX6_tree_r2 : List Cond := [Cond.selects RX6 yX6_layWay yX6_layWay, Cond.code yX6_layWay cX6_layWay 5 none, Cond.fieldLink RX6 42 "FoldedWaysModel" "leftOf" "[I", Cond.methodLink RX6 130 yX6_layLeft, Cond.instanceMethod yX6_layLeft, Cond.selects RX6 yX6_layLeft yX6_layLeft, Cond.code yX6_layLeft cX6_layLeft 5 none, Cond.fieldLink RX6 85 "FoldedWaysModel" "links" "I", Cond.fieldLink RX6 16 "FoldedWaysModel" "toOf" "[I", Cond.fieldLink RX6 13 "FoldedWaysModel" "fromOf" "[I", Cond.methodLink RX6 137 yX6_nextNode, Cond.instanceMethod yX6_nextNode, Cond.selects RX6 yX6_nextNode yX6_nextNode, Cond.code yX6_nextNode cX6_nextNode 5 (some .int), Cond.methodLink RX6 147 yX6_linkFrom, Cond.instanceMethod yX6_linkFrom, Cond.selects RX6 yX6_linkFrom yX6_linkFrom, Cond.code yX6_linkFrom cX6_linkFrom 5 (some .int)]
def wsX6_tree : List Cond := .code yX6_tree cX6_tree 3 (some .int) :: ((wsX6_tree_r1 ++ wsX6_tree_r2) ++ wsX60)
def wsX6_ones : List Cond := .code yX6_ones cX6_ones 4 (some .int) :: ([])
def wsX6_isPlace : List Cond := .code yX6_isPlace cX6_isPlace 1 (some .boolean) :: ([.methodLink RX6 48 yX6_within, .static yX6_within, .initialized RX6, .code yX6_within cX6_within 3 (some .boolean)])
def wsX6_bind_r1 : List Cond := [Cond.fieldLink RX6 29 "FoldedWaysModel" "bundleOf" "[I", Cond.methodLink RX6 156 yX6_isPlace, Cond.static yX6_isPlace, Cond.initialized RX6, Cond.code yX6_isPlace cX6_isPlace 1 (some .boolean), Cond.methodLink RX6 48 yX6_within, Cond.static yX6_within, Cond.code yX6_within cX6_within 3 (some .boolean), Cond.methodLink RX6 140 yX6_isNode, Cond.instanceMethod yX6_isNode, Cond.selects RX6 yX6_isNode yX6_isNode, Cond.code yX6_isNode cX6_isNode 2 (some .boolean), Cond.fieldLink RX6 82 "FoldedWaysModel" "nodes" "I", Cond.methodLink RX6 150 yX6_isSet, Cond.instanceMethod yX6_isSet, Cond.selects RX6 yX6_isSet yX6_isSet, Cond.code yX6_isSet cX6_isSet 2 (some .boolean), Cond.methodLink RX6 153 yX6_treeOf, Cond.instanceMethod yX6_treeOf, Cond.selects RX6 yX6_treeOf yX6_treeOf, Cond.code yX6_treeOf cX6_treeOf 6 (some .int), Cond.fieldLink RX6 134 "FoldedWaysModel" "wayMany" "I", Cond.fieldLink RX6 45 "FoldedWaysModel" "wayAt" "[I", Cond.methodLink RX6 120 yX6_has]
def wsX6_bind_r2 : List Cond := [Cond.static yX6_has, Cond.code yX6_has cX6_has 2 (some .boolean), Cond.methodLink RX6 143 yX6_layWay, Cond.instanceMethod yX6_layWay, Cond.selects RX6 yX6_layWay yX6_layWay, Cond.code yX6_layWay cX6_layWay 5 none, Cond.fieldLink RX6 42 "FoldedWaysModel" "leftOf" "[I", Cond.methodLink RX6 130 yX6_layLeft, Cond.instanceMethod yX6_layLeft, Cond.selects RX6 yX6_layLeft yX6_layLeft, Cond.code yX6_layLeft cX6_layLeft 5 none, Cond.fieldLink RX6 85 "FoldedWaysModel" "links" "I", Cond.fieldLink RX6 16 "FoldedWaysModel" "toOf" "[I", Cond.fieldLink RX6 13 "FoldedWaysModel" "fromOf" "[I", Cond.methodLink RX6 137 yX6_nextNode, Cond.instanceMethod yX6_nextNode, Cond.selects RX6 yX6_nextNode yX6_nextNode, Cond.code yX6_nextNode cX6_nextNode 5 (some .int), Cond.methodLink RX6 147 yX6_linkFrom, Cond.instanceMethod yX6_linkFrom, Cond.selects RX6 yX6_linkFrom yX6_linkFrom, Cond.code yX6_linkFrom cX6_linkFrom 5 (some .int), Cond.methodLink RX6 159 yX6_ones, Cond.static yX6_ones]
def wsX6_bind_r3 : List Cond := [Cond.code yX6_ones cX6_ones 4 (some .int)]
def wsX6_bind : List Cond := .code yX6_bind cX6_bind 5 (some .int) :: ((wsX6_bind_r1 ++ (wsX6_bind_r2 ++ wsX6_bind_r3)) ++ wsX60)
def wsX6_loosen : List Cond := .code yX6_loosen cX6_loosen 3 (some .int) :: ([.fieldLink RX6 29 "FoldedWaysModel" "bundleOf" "[I", .methodLink RX6 156 yX6_isPlace, .static yX6_isPlace, .initialized RX6, .code yX6_isPlace cX6_isPlace 1 (some .boolean), .methodLink RX6 48 yX6_within, .static yX6_within, .code yX6_within cX6_within 3 (some .boolean)] ++ wsX60)
def wsX6_bound : List Cond := .code yX6_bound cX6_bound 3 (some .long) :: ([.fieldLink RX6 29 "FoldedWaysModel" "bundleOf" "[I", .constantLong RX6 113 (-1001), .fieldLink RX6 38 "FoldedWaysModel" "marks" "[J", .constantLong RX6 118 (-1002), .methodLink RX6 156 yX6_isPlace, .static yX6_isPlace, .initialized RX6, .code yX6_isPlace cX6_isPlace 1 (some .boolean), .methodLink RX6 48 yX6_within, .static yX6_within, .code yX6_within cX6_within 3 (some .boolean), .methodLink RX6 115 yX6_isVariant, .static yX6_isVariant, .code yX6_isVariant cX6_isVariant 1 (some .boolean)] ++ wsX60)
def wsX6_foldOf : List Cond := .code yX6_foldOf cX6_foldOf 8 (some .long) :: ([.fieldLink RX6 29 "FoldedWaysModel" "bundleOf" "[I", .fieldLink RX6 38 "FoldedWaysModel" "marks" "[J", .fieldLink RX6 85 "FoldedWaysModel" "links" "I", .methodLink RX6 120 yX6_has, .static yX6_has, .initialized RX6, .code yX6_has cX6_has 2 (some .boolean)] ++ wsX60)
def wsX6_fold_r1 : List Cond := [Cond.constantLong RX6 113 (-1001), Cond.constantLong RX6 118 (-1002), Cond.methodLink RX6 140 yX6_isNode, Cond.instanceMethod yX6_isNode, Cond.selects RX6 yX6_isNode yX6_isNode, Cond.initialized RX6, Cond.code yX6_isNode cX6_isNode 2 (some .boolean), Cond.fieldLink RX6 82 "FoldedWaysModel" "nodes" "I", Cond.methodLink RX6 48 yX6_within, Cond.static yX6_within, Cond.code yX6_within cX6_within 3 (some .boolean), Cond.methodLink RX6 150 yX6_isSet, Cond.instanceMethod yX6_isSet, Cond.selects RX6 yX6_isSet yX6_isSet, Cond.code yX6_isSet cX6_isSet 2 (some .boolean), Cond.methodLink RX6 115 yX6_isVariant, Cond.static yX6_isVariant, Cond.code yX6_isVariant cX6_isVariant 1 (some .boolean), Cond.methodLink RX6 153 yX6_treeOf, Cond.instanceMethod yX6_treeOf, Cond.selects RX6 yX6_treeOf yX6_treeOf, Cond.code yX6_treeOf cX6_treeOf 6 (some .int), Cond.fieldLink RX6 134 "FoldedWaysModel" "wayMany" "I", Cond.fieldLink RX6 45 "FoldedWaysModel" "wayAt" "[I"]
def wsX6_fold_r2 : List Cond := [Cond.methodLink RX6 120 yX6_has, Cond.static yX6_has, Cond.code yX6_has cX6_has 2 (some .boolean), Cond.methodLink RX6 143 yX6_layWay, Cond.instanceMethod yX6_layWay, Cond.selects RX6 yX6_layWay yX6_layWay, Cond.code yX6_layWay cX6_layWay 5 none, Cond.fieldLink RX6 42 "FoldedWaysModel" "leftOf" "[I", Cond.methodLink RX6 130 yX6_layLeft, Cond.instanceMethod yX6_layLeft, Cond.selects RX6 yX6_layLeft yX6_layLeft, Cond.code yX6_layLeft cX6_layLeft 5 none, Cond.fieldLink RX6 85 "FoldedWaysModel" "links" "I", Cond.fieldLink RX6 16 "FoldedWaysModel" "toOf" "[I", Cond.fieldLink RX6 13 "FoldedWaysModel" "fromOf" "[I", Cond.methodLink RX6 137 yX6_nextNode, Cond.instanceMethod yX6_nextNode, Cond.selects RX6 yX6_nextNode yX6_nextNode, Cond.code yX6_nextNode cX6_nextNode 5 (some .int), Cond.methodLink RX6 147 yX6_linkFrom, Cond.instanceMethod yX6_linkFrom, Cond.selects RX6 yX6_linkFrom yX6_linkFrom, Cond.code yX6_linkFrom cX6_linkFrom 5 (some .int), Cond.methodLink RX6 163 yX6_foldOf]
def wsX6_fold_r3 : List Cond := [Cond.instanceMethod yX6_foldOf, Cond.selects RX6 yX6_foldOf yX6_foldOf, Cond.code yX6_foldOf cX6_foldOf 8 (some .long), Cond.fieldLink RX6 29 "FoldedWaysModel" "bundleOf" "[I", Cond.fieldLink RX6 38 "FoldedWaysModel" "marks" "[J"]
def wsX6_fold : List Cond := .code yX6_fold cX6_fold 5 (some .long) :: ((wsX6_fold_r1 ++ (wsX6_fold_r2 ++ wsX6_fold_r3)) ++ wsX60)
def wsX6_matches : List Cond := .code yX6_matches cX6_matches 7 (some .boolean) :: ([.fieldLink RX6 38 "FoldedWaysModel" "marks" "[J", .constantLong RX6 167 (-1), .fieldLink RX6 29 "FoldedWaysModel" "bundleOf" "[I", .methodLink RX6 120 yX6_has, .static yX6_has, .initialized RX6, .code yX6_has cX6_has 2 (some .boolean)] ++ wsX60)
def wsX6_goStep : List Cond := .code yX6_goStep cX6_goStep 7 (some .int) :: ([.fieldLink RX6 85 "FoldedWaysModel" "links" "I", .fieldLink RX6 13 "FoldedWaysModel" "fromOf" "[I", .fieldLink RX6 169 "FoldedWaysModel" "bitsNow" "J", .fieldLink RX6 172 "FoldedWaysModel" "passages" "I", .fieldLink RX6 175 "FoldedWaysModel" "astray" "I", .fieldLink RX6 191 "FoldedWaysModel" "reached" "I", .fieldLink RX6 16 "FoldedWaysModel" "toOf" "[I", .fieldLink RX6 178 "FoldedWaysModel" "loops" "I", .methodLink RX6 120 yX6_has, .static yX6_has, .initialized RX6, .code yX6_has cX6_has 2 (some .boolean), .methodLink RX6 187 yX6_matches, .instanceMethod yX6_matches, .selects RX6 yX6_matches yX6_matches, .code yX6_matches cX6_matches 7 (some .boolean), .fieldLink RX6 38 "FoldedWaysModel" "marks" "[J", .constantLong RX6 167 (-1), .fieldLink RX6 29 "FoldedWaysModel" "bundleOf" "[I"] ++ wsX60)
def wsX6_laySpread_r1 : List Cond := [Cond.fieldLink RX6 169 "FoldedWaysModel" "bitsNow" "J", Cond.fieldLink RX6 172 "FoldedWaysModel" "passages" "I", Cond.fieldLink RX6 175 "FoldedWaysModel" "astray" "I", Cond.fieldLink RX6 178 "FoldedWaysModel" "loops" "I", Cond.fieldLink RX6 181 "FoldedWaysModel" "steps" "I", Cond.fieldLink RX6 184 "FoldedWaysModel" "others" "I", Cond.fieldLink RX6 85 "FoldedWaysModel" "links" "I", Cond.fieldLink RX6 191 "FoldedWaysModel" "reached" "I", Cond.methodLink RX6 163 yX6_foldOf, Cond.instanceMethod yX6_foldOf, Cond.selects RX6 yX6_foldOf yX6_foldOf, Cond.initialized RX6, Cond.code yX6_foldOf cX6_foldOf 8 (some .long), Cond.fieldLink RX6 29 "FoldedWaysModel" "bundleOf" "[I", Cond.fieldLink RX6 38 "FoldedWaysModel" "marks" "[J", Cond.methodLink RX6 120 yX6_has, Cond.static yX6_has, Cond.code yX6_has cX6_has 2 (some .boolean), Cond.methodLink RX6 187 yX6_matches, Cond.instanceMethod yX6_matches, Cond.selects RX6 yX6_matches yX6_matches, Cond.code yX6_matches cX6_matches 7 (some .boolean), Cond.constantLong RX6 167 (-1), Cond.methodLink RX6 194 yX6_goStep]
def wsX6_laySpread_r2 : List Cond := [Cond.instanceMethod yX6_goStep, Cond.selects RX6 yX6_goStep yX6_goStep, Cond.code yX6_goStep cX6_goStep 7 (some .int), Cond.fieldLink RX6 13 "FoldedWaysModel" "fromOf" "[I", Cond.fieldLink RX6 16 "FoldedWaysModel" "toOf" "[I"]
def wsX6_laySpread : List Cond := .code yX6_laySpread cX6_laySpread 6 none :: ((wsX6_laySpread_r1 ++ wsX6_laySpread_r2) ++ wsX60)
def wsX6_common : List Cond := .code yX6_common cX6_common 5 (some .int) :: ([])
def wsX6_odds : List Cond := .code yX6_odds cX6_odds 5 (some .int) :: ([.fieldLink RX6 23 "FoldedWaysModel" "drawn" "I", .fieldLink RX6 169 "FoldedWaysModel" "bitsNow" "J", .fieldLink RX6 19 "FoldedWaysModel" "width" "I", .methodLink RX6 159 yX6_ones, .static yX6_ones, .initialized RX6, .code yX6_ones cX6_ones 4 (some .int), .methodLink RX6 198 yX6_common, .static yX6_common, .code yX6_common cX6_common 5 (some .int)] ++ wsX60)
def wsX6_spreadNow : List Cond := .code yX6_spreadNow cX6_spreadNow 2 (some .int) :: ([.fieldLink RX6 169 "FoldedWaysModel" "bitsNow" "J", .fieldLink RX6 172 "FoldedWaysModel" "passages" "I", .fieldLink RX6 175 "FoldedWaysModel" "astray" "I", .fieldLink RX6 178 "FoldedWaysModel" "loops" "I", .fieldLink RX6 181 "FoldedWaysModel" "steps" "I", .fieldLink RX6 191 "FoldedWaysModel" "reached" "I", .fieldLink RX6 184 "FoldedWaysModel" "others" "I", .methodLink RX6 159 yX6_ones, .static yX6_ones, .initialized RX6, .code yX6_ones cX6_ones 4 (some .int), .methodLink RX6 201 yX6_odds, .instanceMethod yX6_odds, .selects RX6 yX6_odds yX6_odds, .code yX6_odds cX6_odds 5 (some .int), .fieldLink RX6 23 "FoldedWaysModel" "drawn" "I", .fieldLink RX6 19 "FoldedWaysModel" "width" "I", .methodLink RX6 198 yX6_common, .static yX6_common, .code yX6_common cX6_common 5 (some .int)] ++ wsX60)
def wsX6_spread_r1 : List Cond := [Cond.methodLink RX6 140 yX6_isNode, Cond.instanceMethod yX6_isNode, Cond.selects RX6 yX6_isNode yX6_isNode, Cond.initialized RX6, Cond.code yX6_isNode cX6_isNode 2 (some .boolean), Cond.fieldLink RX6 82 "FoldedWaysModel" "nodes" "I", Cond.methodLink RX6 48 yX6_within, Cond.static yX6_within, Cond.code yX6_within cX6_within 3 (some .boolean), Cond.methodLink RX6 150 yX6_isSet, Cond.instanceMethod yX6_isSet, Cond.selects RX6 yX6_isSet yX6_isSet, Cond.code yX6_isSet cX6_isSet 2 (some .boolean), Cond.methodLink RX6 115 yX6_isVariant, Cond.static yX6_isVariant, Cond.code yX6_isVariant cX6_isVariant 1 (some .boolean), Cond.methodLink RX6 153 yX6_treeOf, Cond.instanceMethod yX6_treeOf, Cond.selects RX6 yX6_treeOf yX6_treeOf, Cond.code yX6_treeOf cX6_treeOf 6 (some .int), Cond.fieldLink RX6 134 "FoldedWaysModel" "wayMany" "I", Cond.fieldLink RX6 45 "FoldedWaysModel" "wayAt" "[I", Cond.methodLink RX6 120 yX6_has, Cond.static yX6_has]
def wsX6_spread_r2 : List Cond := [Cond.code yX6_has cX6_has 2 (some .boolean), Cond.methodLink RX6 143 yX6_layWay, Cond.instanceMethod yX6_layWay, Cond.selects RX6 yX6_layWay yX6_layWay, Cond.code yX6_layWay cX6_layWay 5 none, Cond.fieldLink RX6 42 "FoldedWaysModel" "leftOf" "[I", Cond.methodLink RX6 130 yX6_layLeft, Cond.instanceMethod yX6_layLeft, Cond.selects RX6 yX6_layLeft yX6_layLeft, Cond.code yX6_layLeft cX6_layLeft 5 none, Cond.fieldLink RX6 85 "FoldedWaysModel" "links" "I", Cond.fieldLink RX6 16 "FoldedWaysModel" "toOf" "[I", Cond.fieldLink RX6 13 "FoldedWaysModel" "fromOf" "[I", Cond.methodLink RX6 137 yX6_nextNode, Cond.instanceMethod yX6_nextNode, Cond.selects RX6 yX6_nextNode yX6_nextNode, Cond.code yX6_nextNode cX6_nextNode 5 (some .int), Cond.methodLink RX6 147 yX6_linkFrom, Cond.instanceMethod yX6_linkFrom, Cond.selects RX6 yX6_linkFrom yX6_linkFrom, Cond.code yX6_linkFrom cX6_linkFrom 5 (some .int), Cond.methodLink RX6 204 yX6_laySpread, Cond.instanceMethod yX6_laySpread, Cond.selects RX6 yX6_laySpread yX6_laySpread]
def wsX6_spread_r3 : List Cond := [Cond.code yX6_laySpread cX6_laySpread 6 none, Cond.fieldLink RX6 169 "FoldedWaysModel" "bitsNow" "J", Cond.fieldLink RX6 172 "FoldedWaysModel" "passages" "I", Cond.fieldLink RX6 175 "FoldedWaysModel" "astray" "I", Cond.fieldLink RX6 178 "FoldedWaysModel" "loops" "I", Cond.fieldLink RX6 181 "FoldedWaysModel" "steps" "I", Cond.fieldLink RX6 184 "FoldedWaysModel" "others" "I", Cond.fieldLink RX6 191 "FoldedWaysModel" "reached" "I", Cond.methodLink RX6 163 yX6_foldOf, Cond.instanceMethod yX6_foldOf, Cond.selects RX6 yX6_foldOf yX6_foldOf, Cond.code yX6_foldOf cX6_foldOf 8 (some .long), Cond.fieldLink RX6 29 "FoldedWaysModel" "bundleOf" "[I", Cond.fieldLink RX6 38 "FoldedWaysModel" "marks" "[J", Cond.methodLink RX6 187 yX6_matches, Cond.instanceMethod yX6_matches, Cond.selects RX6 yX6_matches yX6_matches, Cond.code yX6_matches cX6_matches 7 (some .boolean), Cond.constantLong RX6 167 (-1), Cond.methodLink RX6 194 yX6_goStep, Cond.instanceMethod yX6_goStep, Cond.selects RX6 yX6_goStep yX6_goStep, Cond.code yX6_goStep cX6_goStep 7 (some .int), Cond.methodLink RX6 208 yX6_spreadNow]
def wsX6_spread_r4 : List Cond := [Cond.instanceMethod yX6_spreadNow, Cond.selects RX6 yX6_spreadNow yX6_spreadNow, Cond.code yX6_spreadNow cX6_spreadNow 2 (some .int), Cond.methodLink RX6 159 yX6_ones, Cond.static yX6_ones, Cond.code yX6_ones cX6_ones 4 (some .int), Cond.methodLink RX6 201 yX6_odds, Cond.instanceMethod yX6_odds, Cond.selects RX6 yX6_odds yX6_odds, Cond.code yX6_odds cX6_odds 5 (some .int), Cond.fieldLink RX6 23 "FoldedWaysModel" "drawn" "I", Cond.fieldLink RX6 19 "FoldedWaysModel" "width" "I", Cond.methodLink RX6 198 yX6_common, Cond.static yX6_common, Cond.code yX6_common cX6_common 5 (some .int)]
def wsX6_spread : List Cond := .code yX6_spread cX6_spread 6 (some .int) :: ((wsX6_spread_r1 ++ (wsX6_spread_r2 ++ (wsX6_spread_r3 ++ wsX6_spread_r4))) ++ wsX60)
def wsX6_bestOf_r1 : List Cond := [Cond.fieldLink RX6 175 "FoldedWaysModel" "astray" "I", Cond.fieldLink RX6 169 "FoldedWaysModel" "bitsNow" "J", Cond.methodLink RX6 204 yX6_laySpread, Cond.instanceMethod yX6_laySpread, Cond.selects RX6 yX6_laySpread yX6_laySpread, Cond.initialized RX6, Cond.code yX6_laySpread cX6_laySpread 6 none, Cond.fieldLink RX6 172 "FoldedWaysModel" "passages" "I", Cond.fieldLink RX6 178 "FoldedWaysModel" "loops" "I", Cond.fieldLink RX6 181 "FoldedWaysModel" "steps" "I", Cond.fieldLink RX6 184 "FoldedWaysModel" "others" "I", Cond.fieldLink RX6 85 "FoldedWaysModel" "links" "I", Cond.fieldLink RX6 191 "FoldedWaysModel" "reached" "I", Cond.methodLink RX6 163 yX6_foldOf, Cond.instanceMethod yX6_foldOf, Cond.selects RX6 yX6_foldOf yX6_foldOf, Cond.code yX6_foldOf cX6_foldOf 8 (some .long), Cond.fieldLink RX6 29 "FoldedWaysModel" "bundleOf" "[I", Cond.fieldLink RX6 38 "FoldedWaysModel" "marks" "[J", Cond.methodLink RX6 120 yX6_has, Cond.static yX6_has, Cond.code yX6_has cX6_has 2 (some .boolean), Cond.methodLink RX6 187 yX6_matches, Cond.instanceMethod yX6_matches]
def wsX6_bestOf_r2 : List Cond := [Cond.selects RX6 yX6_matches yX6_matches, Cond.code yX6_matches cX6_matches 7 (some .boolean), Cond.constantLong RX6 167 (-1), Cond.methodLink RX6 194 yX6_goStep, Cond.instanceMethod yX6_goStep, Cond.selects RX6 yX6_goStep yX6_goStep, Cond.code yX6_goStep cX6_goStep 7 (some .int), Cond.fieldLink RX6 13 "FoldedWaysModel" "fromOf" "[I", Cond.fieldLink RX6 16 "FoldedWaysModel" "toOf" "[I", Cond.methodLink RX6 159 yX6_ones, Cond.static yX6_ones, Cond.code yX6_ones cX6_ones 4 (some .int)]
def wsX6_bestOf : List Cond := .code yX6_bestOf cX6_bestOf 8 (some .int) :: ((wsX6_bestOf_r1 ++ wsX6_bestOf_r2) ++ wsX60)
def wsX6_best_r1 : List Cond := [Cond.methodLink RX6 140 yX6_isNode, Cond.instanceMethod yX6_isNode, Cond.selects RX6 yX6_isNode yX6_isNode, Cond.initialized RX6, Cond.code yX6_isNode cX6_isNode 2 (some .boolean), Cond.fieldLink RX6 82 "FoldedWaysModel" "nodes" "I", Cond.methodLink RX6 48 yX6_within, Cond.static yX6_within, Cond.code yX6_within cX6_within 3 (some .boolean), Cond.methodLink RX6 150 yX6_isSet, Cond.instanceMethod yX6_isSet, Cond.selects RX6 yX6_isSet yX6_isSet, Cond.code yX6_isSet cX6_isSet 2 (some .boolean), Cond.methodLink RX6 153 yX6_treeOf, Cond.instanceMethod yX6_treeOf, Cond.selects RX6 yX6_treeOf yX6_treeOf, Cond.code yX6_treeOf cX6_treeOf 6 (some .int), Cond.fieldLink RX6 134 "FoldedWaysModel" "wayMany" "I", Cond.fieldLink RX6 45 "FoldedWaysModel" "wayAt" "[I", Cond.methodLink RX6 120 yX6_has, Cond.static yX6_has, Cond.code yX6_has cX6_has 2 (some .boolean), Cond.methodLink RX6 143 yX6_layWay, Cond.instanceMethod yX6_layWay]
def wsX6_best_r2 : List Cond := [Cond.selects RX6 yX6_layWay yX6_layWay, Cond.code yX6_layWay cX6_layWay 5 none, Cond.fieldLink RX6 42 "FoldedWaysModel" "leftOf" "[I", Cond.methodLink RX6 130 yX6_layLeft, Cond.instanceMethod yX6_layLeft, Cond.selects RX6 yX6_layLeft yX6_layLeft, Cond.code yX6_layLeft cX6_layLeft 5 none, Cond.fieldLink RX6 85 "FoldedWaysModel" "links" "I", Cond.fieldLink RX6 16 "FoldedWaysModel" "toOf" "[I", Cond.fieldLink RX6 13 "FoldedWaysModel" "fromOf" "[I", Cond.methodLink RX6 137 yX6_nextNode, Cond.instanceMethod yX6_nextNode, Cond.selects RX6 yX6_nextNode yX6_nextNode, Cond.code yX6_nextNode cX6_nextNode 5 (some .int), Cond.methodLink RX6 147 yX6_linkFrom, Cond.instanceMethod yX6_linkFrom, Cond.selects RX6 yX6_linkFrom yX6_linkFrom, Cond.code yX6_linkFrom cX6_linkFrom 5 (some .int), Cond.methodLink RX6 211 yX6_bestOf, Cond.instanceMethod yX6_bestOf, Cond.selects RX6 yX6_bestOf yX6_bestOf, Cond.code yX6_bestOf cX6_bestOf 8 (some .int), Cond.fieldLink RX6 175 "FoldedWaysModel" "astray" "I", Cond.fieldLink RX6 169 "FoldedWaysModel" "bitsNow" "J"]
def wsX6_best_r3 : List Cond := [Cond.methodLink RX6 204 yX6_laySpread, Cond.instanceMethod yX6_laySpread, Cond.selects RX6 yX6_laySpread yX6_laySpread, Cond.code yX6_laySpread cX6_laySpread 6 none, Cond.fieldLink RX6 172 "FoldedWaysModel" "passages" "I", Cond.fieldLink RX6 178 "FoldedWaysModel" "loops" "I", Cond.fieldLink RX6 181 "FoldedWaysModel" "steps" "I", Cond.fieldLink RX6 184 "FoldedWaysModel" "others" "I", Cond.fieldLink RX6 191 "FoldedWaysModel" "reached" "I", Cond.methodLink RX6 163 yX6_foldOf, Cond.instanceMethod yX6_foldOf, Cond.selects RX6 yX6_foldOf yX6_foldOf, Cond.code yX6_foldOf cX6_foldOf 8 (some .long), Cond.fieldLink RX6 29 "FoldedWaysModel" "bundleOf" "[I", Cond.fieldLink RX6 38 "FoldedWaysModel" "marks" "[J", Cond.methodLink RX6 187 yX6_matches, Cond.instanceMethod yX6_matches, Cond.selects RX6 yX6_matches yX6_matches, Cond.code yX6_matches cX6_matches 7 (some .boolean), Cond.constantLong RX6 167 (-1), Cond.methodLink RX6 194 yX6_goStep, Cond.instanceMethod yX6_goStep, Cond.selects RX6 yX6_goStep yX6_goStep, Cond.code yX6_goStep cX6_goStep 7 (some .int)]
def wsX6_best_r4 : List Cond := [Cond.methodLink RX6 159 yX6_ones, Cond.static yX6_ones, Cond.code yX6_ones cX6_ones 4 (some .int)]
def wsX6_best : List Cond := .code yX6_best cX6_best 4 (some .int) :: ((wsX6_best_r1 ++ (wsX6_best_r2 ++ (wsX6_best_r3 ++ wsX6_best_r4))) ++ wsX60)
def wsX6_sendNow_r1 : List Cond := [Cond.fieldLink RX6 215 "FoldedWaysModel" "sent" "I", Cond.fieldLink RX6 218 "FoldedWaysModel" "passagesEver" "I", Cond.fieldLink RX6 172 "FoldedWaysModel" "passages" "I", Cond.fieldLink RX6 221 "FoldedWaysModel" "astrayEver" "I", Cond.fieldLink RX6 175 "FoldedWaysModel" "astray" "I", Cond.fieldLink RX6 224 "FoldedWaysModel" "loopsEver" "I", Cond.fieldLink RX6 178 "FoldedWaysModel" "loops" "I", Cond.methodLink RX6 211 yX6_bestOf, Cond.instanceMethod yX6_bestOf, Cond.selects RX6 yX6_bestOf yX6_bestOf, Cond.initialized RX6, Cond.code yX6_bestOf cX6_bestOf 8 (some .int), Cond.fieldLink RX6 169 "FoldedWaysModel" "bitsNow" "J", Cond.methodLink RX6 204 yX6_laySpread, Cond.instanceMethod yX6_laySpread, Cond.selects RX6 yX6_laySpread yX6_laySpread, Cond.code yX6_laySpread cX6_laySpread 6 none, Cond.fieldLink RX6 181 "FoldedWaysModel" "steps" "I", Cond.fieldLink RX6 184 "FoldedWaysModel" "others" "I", Cond.fieldLink RX6 85 "FoldedWaysModel" "links" "I", Cond.fieldLink RX6 191 "FoldedWaysModel" "reached" "I", Cond.methodLink RX6 163 yX6_foldOf, Cond.instanceMethod yX6_foldOf, Cond.selects RX6 yX6_foldOf yX6_foldOf]
def wsX6_sendNow_r2 : List Cond := [Cond.code yX6_foldOf cX6_foldOf 8 (some .long), Cond.fieldLink RX6 29 "FoldedWaysModel" "bundleOf" "[I", Cond.fieldLink RX6 38 "FoldedWaysModel" "marks" "[J", Cond.methodLink RX6 120 yX6_has, Cond.static yX6_has, Cond.code yX6_has cX6_has 2 (some .boolean), Cond.methodLink RX6 187 yX6_matches, Cond.instanceMethod yX6_matches, Cond.selects RX6 yX6_matches yX6_matches, Cond.code yX6_matches cX6_matches 7 (some .boolean), Cond.constantLong RX6 167 (-1), Cond.methodLink RX6 194 yX6_goStep, Cond.instanceMethod yX6_goStep, Cond.selects RX6 yX6_goStep yX6_goStep, Cond.code yX6_goStep cX6_goStep 7 (some .int), Cond.fieldLink RX6 13 "FoldedWaysModel" "fromOf" "[I", Cond.fieldLink RX6 16 "FoldedWaysModel" "toOf" "[I", Cond.methodLink RX6 159 yX6_ones, Cond.static yX6_ones, Cond.code yX6_ones cX6_ones 4 (some .int)]
def wsX6_sendNow : List Cond := .code yX6_sendNow cX6_sendNow 4 (some .int) :: ((wsX6_sendNow_r1 ++ wsX6_sendNow_r2) ++ wsX60)
def wsX6_send_r1 : List Cond := [Cond.methodLink RX6 140 yX6_isNode, Cond.instanceMethod yX6_isNode, Cond.selects RX6 yX6_isNode yX6_isNode, Cond.initialized RX6, Cond.code yX6_isNode cX6_isNode 2 (some .boolean), Cond.fieldLink RX6 82 "FoldedWaysModel" "nodes" "I", Cond.methodLink RX6 48 yX6_within, Cond.static yX6_within, Cond.code yX6_within cX6_within 3 (some .boolean), Cond.methodLink RX6 150 yX6_isSet, Cond.instanceMethod yX6_isSet, Cond.selects RX6 yX6_isSet yX6_isSet, Cond.code yX6_isSet cX6_isSet 2 (some .boolean), Cond.methodLink RX6 153 yX6_treeOf, Cond.instanceMethod yX6_treeOf, Cond.selects RX6 yX6_treeOf yX6_treeOf, Cond.code yX6_treeOf cX6_treeOf 6 (some .int), Cond.fieldLink RX6 134 "FoldedWaysModel" "wayMany" "I", Cond.fieldLink RX6 45 "FoldedWaysModel" "wayAt" "[I", Cond.methodLink RX6 120 yX6_has, Cond.static yX6_has, Cond.code yX6_has cX6_has 2 (some .boolean), Cond.methodLink RX6 143 yX6_layWay, Cond.instanceMethod yX6_layWay]
def wsX6_send_r2 : List Cond := [Cond.selects RX6 yX6_layWay yX6_layWay, Cond.code yX6_layWay cX6_layWay 5 none, Cond.fieldLink RX6 42 "FoldedWaysModel" "leftOf" "[I", Cond.methodLink RX6 130 yX6_layLeft, Cond.instanceMethod yX6_layLeft, Cond.selects RX6 yX6_layLeft yX6_layLeft, Cond.code yX6_layLeft cX6_layLeft 5 none, Cond.fieldLink RX6 85 "FoldedWaysModel" "links" "I", Cond.fieldLink RX6 16 "FoldedWaysModel" "toOf" "[I", Cond.fieldLink RX6 13 "FoldedWaysModel" "fromOf" "[I", Cond.methodLink RX6 137 yX6_nextNode, Cond.instanceMethod yX6_nextNode, Cond.selects RX6 yX6_nextNode yX6_nextNode, Cond.code yX6_nextNode cX6_nextNode 5 (some .int), Cond.methodLink RX6 147 yX6_linkFrom, Cond.instanceMethod yX6_linkFrom, Cond.selects RX6 yX6_linkFrom yX6_linkFrom, Cond.code yX6_linkFrom cX6_linkFrom 5 (some .int), Cond.methodLink RX6 227 yX6_sendNow, Cond.instanceMethod yX6_sendNow, Cond.selects RX6 yX6_sendNow yX6_sendNow, Cond.code yX6_sendNow cX6_sendNow 4 (some .int), Cond.fieldLink RX6 215 "FoldedWaysModel" "sent" "I", Cond.fieldLink RX6 218 "FoldedWaysModel" "passagesEver" "I"]
def wsX6_send_r3 : List Cond := [Cond.fieldLink RX6 172 "FoldedWaysModel" "passages" "I", Cond.fieldLink RX6 221 "FoldedWaysModel" "astrayEver" "I", Cond.fieldLink RX6 175 "FoldedWaysModel" "astray" "I", Cond.fieldLink RX6 224 "FoldedWaysModel" "loopsEver" "I", Cond.fieldLink RX6 178 "FoldedWaysModel" "loops" "I", Cond.methodLink RX6 211 yX6_bestOf, Cond.instanceMethod yX6_bestOf, Cond.selects RX6 yX6_bestOf yX6_bestOf, Cond.code yX6_bestOf cX6_bestOf 8 (some .int), Cond.fieldLink RX6 169 "FoldedWaysModel" "bitsNow" "J", Cond.methodLink RX6 204 yX6_laySpread, Cond.instanceMethod yX6_laySpread, Cond.selects RX6 yX6_laySpread yX6_laySpread, Cond.code yX6_laySpread cX6_laySpread 6 none, Cond.fieldLink RX6 181 "FoldedWaysModel" "steps" "I", Cond.fieldLink RX6 184 "FoldedWaysModel" "others" "I", Cond.fieldLink RX6 191 "FoldedWaysModel" "reached" "I", Cond.methodLink RX6 163 yX6_foldOf, Cond.instanceMethod yX6_foldOf, Cond.selects RX6 yX6_foldOf yX6_foldOf, Cond.code yX6_foldOf cX6_foldOf 8 (some .long), Cond.fieldLink RX6 29 "FoldedWaysModel" "bundleOf" "[I", Cond.fieldLink RX6 38 "FoldedWaysModel" "marks" "[J", Cond.methodLink RX6 187 yX6_matches]
def wsX6_send_r4 : List Cond := [Cond.instanceMethod yX6_matches, Cond.selects RX6 yX6_matches yX6_matches, Cond.code yX6_matches cX6_matches 7 (some .boolean), Cond.constantLong RX6 167 (-1), Cond.methodLink RX6 194 yX6_goStep, Cond.instanceMethod yX6_goStep, Cond.selects RX6 yX6_goStep yX6_goStep, Cond.code yX6_goStep cX6_goStep 7 (some .int), Cond.methodLink RX6 159 yX6_ones, Cond.static yX6_ones, Cond.code yX6_ones cX6_ones 4 (some .int)]
def wsX6_send : List Cond := .code yX6_send cX6_send 4 (some .int) :: ((wsX6_send_r1 ++ (wsX6_send_r2 ++ (wsX6_send_r3 ++ wsX6_send_r4))) ++ wsX60)
def wsX6_bundlesMany : List Cond := .code yX6_bundlesMany cX6_bundlesMany 3 (some .int) :: ([.fieldLink RX6 29 "FoldedWaysModel" "bundleOf" "[I"] ++ wsX60)
def wsX6_howMany : List Cond := .code yX6_howMany cX6_howMany 2 (some .int) :: ([.fieldLink RX6 82 "FoldedWaysModel" "nodes" "I", .fieldLink RX6 85 "FoldedWaysModel" "links" "I", .fieldLink RX6 52 "FoldedWaysModel" "pageLength" "I", .fieldLink RX6 19 "FoldedWaysModel" "width" "I", .fieldLink RX6 23 "FoldedWaysModel" "drawn" "I", .fieldLink RX6 26 "FoldedWaysModel" "seed" "I", .fieldLink RX6 88 "FoldedWaysModel" "netsRead" "I", .fieldLink RX6 215 "FoldedWaysModel" "sent" "I", .fieldLink RX6 218 "FoldedWaysModel" "passagesEver" "I", .fieldLink RX6 221 "FoldedWaysModel" "astrayEver" "I", .fieldLink RX6 224 "FoldedWaysModel" "loopsEver" "I", .methodLink RX6 230 yX6_bundlesMany, .instanceMethod yX6_bundlesMany, .selects RX6 yX6_bundlesMany yX6_bundlesMany, .initialized RX6, .code yX6_bundlesMany cX6_bundlesMany 3 (some .int), .fieldLink RX6 29 "FoldedWaysModel" "bundleOf" "[I"] ++ wsX60)
def wsX6_count : List Cond := .code yX6_count cX6_count 2 (some .int) :: ([.methodLink RX6 233 yX6_howMany, .instanceMethod yX6_howMany, .selects RX6 yX6_howMany yX6_howMany, .initialized RX6, .code yX6_howMany cX6_howMany 2 (some .int), .fieldLink RX6 82 "FoldedWaysModel" "nodes" "I", .fieldLink RX6 85 "FoldedWaysModel" "links" "I", .fieldLink RX6 52 "FoldedWaysModel" "pageLength" "I", .fieldLink RX6 19 "FoldedWaysModel" "width" "I", .fieldLink RX6 23 "FoldedWaysModel" "drawn" "I", .fieldLink RX6 26 "FoldedWaysModel" "seed" "I", .fieldLink RX6 88 "FoldedWaysModel" "netsRead" "I", .fieldLink RX6 215 "FoldedWaysModel" "sent" "I", .fieldLink RX6 218 "FoldedWaysModel" "passagesEver" "I", .fieldLink RX6 221 "FoldedWaysModel" "astrayEver" "I", .fieldLink RX6 224 "FoldedWaysModel" "loopsEver" "I", .methodLink RX6 230 yX6_bundlesMany, .instanceMethod yX6_bundlesMany, .selects RX6 yX6_bundlesMany yX6_bundlesMany, .code yX6_bundlesMany cX6_bundlesMany 3 (some .int), .fieldLink RX6 29 "FoldedWaysModel" "bundleOf" "[I"] ++ wsX60)
def wsX6_mix : List Cond := .code yX6_mix cX6_mix 3 none :: ([.constantLong RX6 236 (31), .fieldLink RX6 238 "FoldedWaysModel" "h" "J"] ++ wsX60)
def wsX6_mixNode_r1 : List Cond := [Cond.fieldLink RX6 82 "FoldedWaysModel" "nodes" "I", Cond.methodLink RX6 153 yX6_treeOf, Cond.instanceMethod yX6_treeOf, Cond.selects RX6 yX6_treeOf yX6_treeOf, Cond.initialized RX6, Cond.code yX6_treeOf cX6_treeOf 6 (some .int), Cond.fieldLink RX6 134 "FoldedWaysModel" "wayMany" "I", Cond.fieldLink RX6 45 "FoldedWaysModel" "wayAt" "[I", Cond.methodLink RX6 120 yX6_has, Cond.static yX6_has, Cond.code yX6_has cX6_has 2 (some .boolean), Cond.methodLink RX6 143 yX6_layWay, Cond.instanceMethod yX6_layWay, Cond.selects RX6 yX6_layWay yX6_layWay, Cond.code yX6_layWay cX6_layWay 5 none, Cond.fieldLink RX6 42 "FoldedWaysModel" "leftOf" "[I", Cond.methodLink RX6 130 yX6_layLeft, Cond.instanceMethod yX6_layLeft, Cond.selects RX6 yX6_layLeft yX6_layLeft, Cond.code yX6_layLeft cX6_layLeft 5 none, Cond.fieldLink RX6 85 "FoldedWaysModel" "links" "I", Cond.fieldLink RX6 16 "FoldedWaysModel" "toOf" "[I", Cond.fieldLink RX6 13 "FoldedWaysModel" "fromOf" "[I", Cond.methodLink RX6 137 yX6_nextNode]
def wsX6_mixNode_r2 : List Cond := [Cond.instanceMethod yX6_nextNode, Cond.selects RX6 yX6_nextNode yX6_nextNode, Cond.code yX6_nextNode cX6_nextNode 5 (some .int), Cond.methodLink RX6 147 yX6_linkFrom, Cond.instanceMethod yX6_linkFrom, Cond.selects RX6 yX6_linkFrom yX6_linkFrom, Cond.code yX6_linkFrom cX6_linkFrom 5 (some .int), Cond.methodLink RX6 241 yX6_mix, Cond.instanceMethod yX6_mix, Cond.selects RX6 yX6_mix yX6_mix, Cond.code yX6_mix cX6_mix 3 none, Cond.constantLong RX6 236 (31), Cond.fieldLink RX6 238 "FoldedWaysModel" "h" "J", Cond.methodLink RX6 204 yX6_laySpread, Cond.instanceMethod yX6_laySpread, Cond.selects RX6 yX6_laySpread yX6_laySpread, Cond.code yX6_laySpread cX6_laySpread 6 none, Cond.fieldLink RX6 169 "FoldedWaysModel" "bitsNow" "J", Cond.fieldLink RX6 172 "FoldedWaysModel" "passages" "I", Cond.fieldLink RX6 175 "FoldedWaysModel" "astray" "I", Cond.fieldLink RX6 178 "FoldedWaysModel" "loops" "I", Cond.fieldLink RX6 181 "FoldedWaysModel" "steps" "I", Cond.fieldLink RX6 184 "FoldedWaysModel" "others" "I", Cond.fieldLink RX6 191 "FoldedWaysModel" "reached" "I"]
def wsX6_mixNode_r3 : List Cond := [Cond.methodLink RX6 163 yX6_foldOf, Cond.instanceMethod yX6_foldOf, Cond.selects RX6 yX6_foldOf yX6_foldOf, Cond.code yX6_foldOf cX6_foldOf 8 (some .long), Cond.fieldLink RX6 29 "FoldedWaysModel" "bundleOf" "[I", Cond.fieldLink RX6 38 "FoldedWaysModel" "marks" "[J", Cond.methodLink RX6 187 yX6_matches, Cond.instanceMethod yX6_matches, Cond.selects RX6 yX6_matches yX6_matches, Cond.code yX6_matches cX6_matches 7 (some .boolean), Cond.constantLong RX6 167 (-1), Cond.methodLink RX6 194 yX6_goStep, Cond.instanceMethod yX6_goStep, Cond.selects RX6 yX6_goStep yX6_goStep, Cond.code yX6_goStep cX6_goStep 7 (some .int), Cond.methodLink RX6 208 yX6_spreadNow, Cond.instanceMethod yX6_spreadNow, Cond.selects RX6 yX6_spreadNow yX6_spreadNow, Cond.code yX6_spreadNow cX6_spreadNow 2 (some .int), Cond.methodLink RX6 159 yX6_ones, Cond.static yX6_ones, Cond.code yX6_ones cX6_ones 4 (some .int), Cond.methodLink RX6 201 yX6_odds, Cond.instanceMethod yX6_odds]
def wsX6_mixNode_r4 : List Cond := [Cond.selects RX6 yX6_odds yX6_odds, Cond.code yX6_odds cX6_odds 5 (some .int), Cond.fieldLink RX6 23 "FoldedWaysModel" "drawn" "I", Cond.fieldLink RX6 19 "FoldedWaysModel" "width" "I", Cond.methodLink RX6 198 yX6_common, Cond.static yX6_common, Cond.code yX6_common cX6_common 5 (some .int), Cond.methodLink RX6 211 yX6_bestOf, Cond.instanceMethod yX6_bestOf, Cond.selects RX6 yX6_bestOf yX6_bestOf, Cond.code yX6_bestOf cX6_bestOf 8 (some .int)]
def wsX6_mixNode : List Cond := .code yX6_mixNode cX6_mixNode 5 none :: ((wsX6_mixNode_r1 ++ (wsX6_mixNode_r2 ++ (wsX6_mixNode_r3 ++ wsX6_mixNode_r4))) ++ wsX60)
def wsX6_digest_r1 : List Cond := [Cond.constantLong RX6 245 (1693), Cond.fieldLink RX6 238 "FoldedWaysModel" "h" "J", Cond.fieldLink RX6 85 "FoldedWaysModel" "links" "I", Cond.fieldLink RX6 38 "FoldedWaysModel" "marks" "[J", Cond.fieldLink RX6 29 "FoldedWaysModel" "bundleOf" "[I", Cond.fieldLink RX6 82 "FoldedWaysModel" "nodes" "I", Cond.fieldLink RX6 52 "FoldedWaysModel" "pageLength" "I", Cond.fieldLink RX6 7 "FoldedWaysModel" "page" "[I", Cond.methodLink RX6 126 yX6_linkNow, Cond.instanceMethod yX6_linkNow, Cond.selects RX6 yX6_linkNow yX6_linkNow, Cond.initialized RX6, Cond.code yX6_linkNow cX6_linkNow 3 (some .int), Cond.fieldLink RX6 13 "FoldedWaysModel" "fromOf" "[I", Cond.fieldLink RX6 16 "FoldedWaysModel" "toOf" "[I", Cond.methodLink RX6 123 yX6_bundlesOf, Cond.instanceMethod yX6_bundlesOf, Cond.selects RX6 yX6_bundlesOf yX6_bundlesOf, Cond.code yX6_bundlesOf cX6_bundlesOf 4 (some .int), Cond.methodLink RX6 120 yX6_has, Cond.static yX6_has, Cond.code yX6_has cX6_has 2 (some .boolean), Cond.methodLink RX6 241 yX6_mix, Cond.instanceMethod yX6_mix]
def wsX6_digest_r2 : List Cond := [Cond.selects RX6 yX6_mix yX6_mix, Cond.code yX6_mix cX6_mix 3 none, Cond.constantLong RX6 236 (31), Cond.methodLink RX6 247 yX6_mixNode, Cond.instanceMethod yX6_mixNode, Cond.selects RX6 yX6_mixNode yX6_mixNode, Cond.code yX6_mixNode cX6_mixNode 5 none, Cond.methodLink RX6 153 yX6_treeOf, Cond.instanceMethod yX6_treeOf, Cond.selects RX6 yX6_treeOf yX6_treeOf, Cond.code yX6_treeOf cX6_treeOf 6 (some .int), Cond.fieldLink RX6 134 "FoldedWaysModel" "wayMany" "I", Cond.fieldLink RX6 45 "FoldedWaysModel" "wayAt" "[I", Cond.methodLink RX6 143 yX6_layWay, Cond.instanceMethod yX6_layWay, Cond.selects RX6 yX6_layWay yX6_layWay, Cond.code yX6_layWay cX6_layWay 5 none, Cond.fieldLink RX6 42 "FoldedWaysModel" "leftOf" "[I", Cond.methodLink RX6 130 yX6_layLeft, Cond.instanceMethod yX6_layLeft, Cond.selects RX6 yX6_layLeft yX6_layLeft, Cond.code yX6_layLeft cX6_layLeft 5 none, Cond.methodLink RX6 137 yX6_nextNode, Cond.instanceMethod yX6_nextNode]
def wsX6_digest_r3 : List Cond := [Cond.selects RX6 yX6_nextNode yX6_nextNode, Cond.code yX6_nextNode cX6_nextNode 5 (some .int), Cond.methodLink RX6 147 yX6_linkFrom, Cond.instanceMethod yX6_linkFrom, Cond.selects RX6 yX6_linkFrom yX6_linkFrom, Cond.code yX6_linkFrom cX6_linkFrom 5 (some .int), Cond.methodLink RX6 204 yX6_laySpread, Cond.instanceMethod yX6_laySpread, Cond.selects RX6 yX6_laySpread yX6_laySpread, Cond.code yX6_laySpread cX6_laySpread 6 none, Cond.fieldLink RX6 169 "FoldedWaysModel" "bitsNow" "J", Cond.fieldLink RX6 172 "FoldedWaysModel" "passages" "I", Cond.fieldLink RX6 175 "FoldedWaysModel" "astray" "I", Cond.fieldLink RX6 178 "FoldedWaysModel" "loops" "I", Cond.fieldLink RX6 181 "FoldedWaysModel" "steps" "I", Cond.fieldLink RX6 184 "FoldedWaysModel" "others" "I", Cond.fieldLink RX6 191 "FoldedWaysModel" "reached" "I", Cond.methodLink RX6 163 yX6_foldOf, Cond.instanceMethod yX6_foldOf, Cond.selects RX6 yX6_foldOf yX6_foldOf, Cond.code yX6_foldOf cX6_foldOf 8 (some .long), Cond.methodLink RX6 187 yX6_matches, Cond.instanceMethod yX6_matches, Cond.selects RX6 yX6_matches yX6_matches]
def wsX6_digest_r4 : List Cond := [Cond.code yX6_matches cX6_matches 7 (some .boolean), Cond.constantLong RX6 167 (-1), Cond.methodLink RX6 194 yX6_goStep, Cond.instanceMethod yX6_goStep, Cond.selects RX6 yX6_goStep yX6_goStep, Cond.code yX6_goStep cX6_goStep 7 (some .int), Cond.methodLink RX6 208 yX6_spreadNow, Cond.instanceMethod yX6_spreadNow, Cond.selects RX6 yX6_spreadNow yX6_spreadNow, Cond.code yX6_spreadNow cX6_spreadNow 2 (some .int), Cond.methodLink RX6 159 yX6_ones, Cond.static yX6_ones, Cond.code yX6_ones cX6_ones 4 (some .int), Cond.methodLink RX6 201 yX6_odds, Cond.instanceMethod yX6_odds, Cond.selects RX6 yX6_odds yX6_odds, Cond.code yX6_odds cX6_odds 5 (some .int), Cond.fieldLink RX6 23 "FoldedWaysModel" "drawn" "I", Cond.fieldLink RX6 19 "FoldedWaysModel" "width" "I", Cond.methodLink RX6 198 yX6_common, Cond.static yX6_common, Cond.code yX6_common cX6_common 5 (some .int), Cond.methodLink RX6 211 yX6_bestOf, Cond.instanceMethod yX6_bestOf]
def wsX6_digest_r5 : List Cond := [Cond.selects RX6 yX6_bestOf yX6_bestOf, Cond.code yX6_bestOf cX6_bestOf 8 (some .int), Cond.methodLink RX6 233 yX6_howMany, Cond.instanceMethod yX6_howMany, Cond.selects RX6 yX6_howMany yX6_howMany, Cond.code yX6_howMany cX6_howMany 2 (some .int), Cond.fieldLink RX6 26 "FoldedWaysModel" "seed" "I", Cond.fieldLink RX6 88 "FoldedWaysModel" "netsRead" "I", Cond.fieldLink RX6 215 "FoldedWaysModel" "sent" "I", Cond.fieldLink RX6 218 "FoldedWaysModel" "passagesEver" "I", Cond.fieldLink RX6 221 "FoldedWaysModel" "astrayEver" "I", Cond.fieldLink RX6 224 "FoldedWaysModel" "loopsEver" "I", Cond.methodLink RX6 230 yX6_bundlesMany, Cond.instanceMethod yX6_bundlesMany, Cond.selects RX6 yX6_bundlesMany yX6_bundlesMany, Cond.code yX6_bundlesMany cX6_bundlesMany 3 (some .int)]
def wsX6_digest : List Cond := .code yX6_digest cX6_digest 3 (some .long) :: ((wsX6_digest_r1 ++ (wsX6_digest_r2 ++ (wsX6_digest_r3 ++ (wsX6_digest_r4 ++ wsX6_digest_r5)))) ++ wsX60)
def wsJ9_min_7cf53 : List Cond := .code yJ9_min_7cf53 cJ9_min_7cf53 2 (some .int) :: ([])
def wsL_law_r1 : List Cond := [Cond.classLink RL 7 RX5, Cond.instantiable RX5 10, Cond.initialized RX5, Cond.classLink RL 10 RX6, Cond.instantiable RX6 34, Cond.initialized RX6, Cond.methodLink RL 9 yX5_init, Cond.instanceMethod yX5_init, Cond.code yX5_init cX5_init 1 none, Cond.methodLink RX5 1 objectInit, Cond.instanceMethod objectInit, Cond.code objectInit ⟨#[0xb1]⟩ 1 none, Cond.classLink RX5 7 RX4, Cond.instantiable RX4 2, Cond.initialized RX4, Cond.fieldLink RX5 10 "FoldedWays" "page" "LFoldedWays$Page;", Cond.classLink RX5 16 RX2, Cond.instantiable RX2 8, Cond.initialized RX2, Cond.fieldLink RX5 19 "FoldedWays" "graph" "LFoldedWays$Graph;", Cond.classLink RX5 23 RX3, Cond.instantiable RX3 5, Cond.initialized RX3, Cond.fieldLink RX5 26 "FoldedWays" "marks" "LFoldedWays$Marks;"]
def wsL_law_r2 : List Cond := [Cond.classLink RX5 30 RX0, Cond.instantiable RX0 1, Cond.initialized RX0, Cond.fieldLink RX5 33 "FoldedWays" "bundles" "LFoldedWays$Bundles;", Cond.classLink RX5 37 RX1, Cond.instantiable RX1 7, Cond.initialized RX1, Cond.fieldLink RX5 40 "FoldedWays" "flow" "LFoldedWays$Flow;", Cond.methodLink RX5 9 yX4_init, Cond.instanceMethod yX4_init, Cond.code yX4_init cX4_init 1 none, Cond.methodLink RX4 3 objectInit, Cond.arrayClass .int, Cond.fieldLink RX4 11 "FoldedWays$Page" "codes" "[I", Cond.methodLink RX5 18 yX2_init, Cond.instanceMethod yX2_init, Cond.code yX2_init cX2_init 1 none, Cond.methodLink RX2 3 objectInit, Cond.fieldLink RX2 9 "FoldedWays$Graph" "start" "[I", Cond.fieldLink RX2 15 "FoldedWays$Graph" "end" "[I", Cond.fieldLink RX2 18 "FoldedWays$Graph" "linkBetween" "[I", Cond.fieldLink RX2 21 "FoldedWays$Graph" "wayLength" "[I", Cond.fieldLink RX2 24 "FoldedWays$Graph" "wayNext" "[I", Cond.fieldLink RX2 27 "FoldedWays$Graph" "wayLinks" "[I"]
def wsL_law_r3 : List Cond := [Cond.methodLink RX5 25 yX3_init, Cond.instanceMethod yX3_init, Cond.code yX3_init cX3_init 1 none, Cond.methodLink RX3 3 objectInit, Cond.fieldLink RX3 9 "FoldedWays$Marks" "width" "I", Cond.fieldLink RX3 15 "FoldedWays$Marks" "drawn" "I", Cond.fieldLink RX3 18 "FoldedWays$Marks" "seed" "I", Cond.arrayClass .long, Cond.fieldLink RX3 21 "FoldedWays$Marks" "bits" "[J", Cond.methodLink RX5 32 yX0_init, Cond.instanceMethod yX0_init, Cond.code yX0_init cX0_init 1 none, Cond.methodLink RX0 3 objectInit, Cond.fieldLink RX0 9 "FoldedWays$Bundles" "links" "[I", Cond.instanceMethod yX1_init, Cond.code yX1_init cX1_init 1 none, Cond.methodLink RX1 3 objectInit, Cond.methodLink RL 12 yX6_init, Cond.instanceMethod yX6_init, Cond.code yX6_init cX6_init 1 none, Cond.methodLink RX6 1 objectInit, Cond.fieldLink RX6 7 "FoldedWaysModel" "page" "[I", Cond.fieldLink RX6 13 "FoldedWaysModel" "fromOf" "[I", Cond.fieldLink RX6 16 "FoldedWaysModel" "toOf" "[I"]
def wsL_law_r4 : List Cond := [Cond.fieldLink RX6 19 "FoldedWaysModel" "width" "I", Cond.fieldLink RX6 23 "FoldedWaysModel" "drawn" "I", Cond.fieldLink RX6 26 "FoldedWaysModel" "seed" "I", Cond.fieldLink RX6 29 "FoldedWaysModel" "bundleOf" "[I", Cond.fieldLink RX6 32 "FoldedWaysModel" "newFrom" "[I", Cond.fieldLink RX6 35 "FoldedWaysModel" "newTo" "[I", Cond.fieldLink RX6 38 "FoldedWaysModel" "marks" "[J", Cond.fieldLink RX6 42 "FoldedWaysModel" "leftOf" "[I", Cond.fieldLink RX6 45 "FoldedWaysModel" "wayAt" "[I", Cond.methodLink RL 13 yX5_letter, Cond.instanceMethod yX5_letter, Cond.selects RX5 yX5_letter yX5_letter, Cond.code yX5_letter cX5_letter 2 (some .int), Cond.methodLink RX5 44 yX4_isFull, Cond.instanceMethod yX4_isFull, Cond.selects RX4 yX4_isFull yX4_isFull, Cond.code yX4_isFull cX4_isFull 1 (some .boolean), Cond.fieldLink RX4 15 "FoldedWays$Page" "length" "I", Cond.methodLink RX5 48 yX4_append, Cond.instanceMethod yX4_append, Cond.selects RX4 yX4_append yX4_append, Cond.code yX4_append cX4_append 2 none, Cond.methodLink RX5 52 yX4_size, Cond.instanceMethod yX4_size]
def wsL_law_r5 : List Cond := [Cond.selects RX4 yX4_size yX4_size, Cond.code yX4_size cX4_size 1 (some .int), Cond.methodLink RL 17 yX6_letter, Cond.instanceMethod yX6_letter, Cond.selects RX6 yX6_letter yX6_letter, Cond.code yX6_letter cX6_letter 2 (some .int), Cond.fieldLink RX6 52 "FoldedWaysModel" "pageLength" "I", Cond.methodLink RX6 48 yX6_within, Cond.static yX6_within, Cond.code yX6_within cX6_within 3 (some .boolean), Cond.methodLink RL 18 yX5_blank, Cond.instanceMethod yX5_blank, Cond.selects RX5 yX5_blank yX5_blank, Cond.code yX5_blank cX5_blank 2 (some .int), Cond.methodLink RX5 56 yX4_clear, Cond.instanceMethod yX4_clear, Cond.selects RX4 yX4_clear yX4_clear, Cond.code yX4_clear cX4_clear 1 none, Cond.methodLink RL 22 yX6_blank, Cond.instanceMethod yX6_blank, Cond.selects RX6 yX6_blank yX6_blank, Cond.code yX6_blank cX6_blank 2 (some .int), Cond.methodLink RL 23 yX5_fault, Cond.instanceMethod yX5_fault]
def wsL_law_r6 : List Cond := [Cond.selects RX5 yX5_fault yX5_fault, Cond.code yX5_fault cX5_fault 1 (some .int), Cond.methodLink RX5 59 yX4_firstWrong, Cond.instanceMethod yX4_firstWrong, Cond.selects RX4 yX4_firstWrong yX4_firstWrong, Cond.code yX4_firstWrong cX4_firstWrong 2 (some .int), Cond.methodLink RX4 30 yX4_fits, Cond.instanceMethod yX4_fits, Cond.selects RX4 yX4_fits yX4_fits, Cond.code yX4_fits cX4_fits 2 (some .boolean), Cond.methodLink RX4 23 yX4_digitAt, Cond.instanceMethod yX4_digitAt, Cond.selects RX4 yX4_digitAt yX4_digitAt, Cond.code yX4_digitAt cX4_digitAt 2 (some .int), Cond.methodLink RX4 19 yX4_codeAt, Cond.instanceMethod yX4_codeAt, Cond.selects RX4 yX4_codeAt yX4_codeAt, Cond.code yX4_codeAt cX4_codeAt 2 (some .int), Cond.methodLink RX4 34 yX4_isNodeAt, Cond.instanceMethod yX4_isNodeAt, Cond.selects RX4 yX4_isNodeAt yX4_isNodeAt, Cond.code yX4_isNodeAt cX4_isNodeAt 2 (some .boolean), Cond.methodLink RX4 37 yX4_endsNewPair, Cond.instanceMethod yX4_endsNewPair]
def wsL_law_r7 : List Cond := [Cond.selects RX4 yX4_endsNewPair yX4_endsNewPair, Cond.code yX4_endsNewPair cX4_endsNewPair 8 (some .boolean), Cond.methodLink RX4 40 yX4_firstOfPair, Cond.instanceMethod yX4_firstOfPair, Cond.selects RX4 yX4_firstOfPair yX4_firstOfPair, Cond.code yX4_firstOfPair cX4_firstOfPair 2 (some .int), Cond.methodLink RX4 43 yX4_secondOfPair, Cond.instanceMethod yX4_secondOfPair, Cond.selects RX4 yX4_secondOfPair yX4_secondOfPair, Cond.code yX4_secondOfPair cX4_secondOfPair 2 (some .int), Cond.methodLink RL 26 yX6_fault, Cond.instanceMethod yX6_fault, Cond.selects RX6 yX6_fault yX6_fault, Cond.code yX6_fault cX6_fault 1 (some .int), Cond.methodLink RX6 78 yX6_goAlong, Cond.instanceMethod yX6_goAlong, Cond.selects RX6 yX6_goAlong yX6_goAlong, Cond.code yX6_goAlong cX6_goAlong 2 (some .int), Cond.fieldLink RX6 58 "FoldedWaysModel" "newNodes" "I", Cond.fieldLink RX6 55 "FoldedWaysModel" "newPairs" "I", Cond.fieldLink RX6 61 "FoldedWaysModel" "due" "I", Cond.methodLink RX6 75 yX6_takes, Cond.instanceMethod yX6_takes, Cond.selects RX6 yX6_takes yX6_takes]
def wsL_law_r8 : List Cond := [Cond.code yX6_takes cX6_takes 3 (some .boolean), Cond.methodLink RX6 71 yX6_takesNode, Cond.instanceMethod yX6_takesNode, Cond.selects RX6 yX6_takesNode yX6_takesNode, Cond.code yX6_takesNode cX6_takesNode 3 (some .boolean), Cond.fieldLink RX6 64 "FoldedWaysModel" "newOne" "I", Cond.methodLink RX6 67 yX6_isTold, Cond.instanceMethod yX6_isTold, Cond.selects RX6 yX6_isTold yX6_isTold, Cond.code yX6_isTold cX6_isTold 5 (some .boolean), Cond.methodLink RL 27 yX5_net, Cond.instanceMethod yX5_net, Cond.selects RX5 yX5_net yX5_net, Cond.code yX5_net cX5_net 1 (some .int), Cond.fieldLink RX5 76 "FoldedWays" "netsRead" "I", Cond.methodLink RX5 62 yX4_isWhole, Cond.instanceMethod yX4_isWhole, Cond.selects RX4 yX4_isWhole yX4_isWhole, Cond.code yX4_isWhole cX4_isWhole 1 (some .boolean), Cond.methodLink RX4 26 yX4_firstWrong, Cond.methodLink RX5 65 yX2_read, Cond.instanceMethod yX2_read, Cond.selects RX2 yX2_read yX2_read, Cond.code yX2_read cX2_read 5 none]
def wsL_law_r9 : List Cond := [Cond.methodLink RX2 50 Lib.Math.min.name, Cond.static Lib.Math.min.name, Cond.initialized "java/lang/Math", Cond.code Lib.Math.min.name Lib.Math.min.code 2 (some .int), Cond.fieldLink RX2 30 "FoldedWays$Graph" "nodes" "I", Cond.methodLink RX2 41 yX2_forget, Cond.instanceMethod yX2_forget, Cond.selects RX2 yX2_forget yX2_forget, Cond.code yX2_forget cX2_forget 3 none, Cond.fieldLink RX2 34 "FoldedWays$Graph" "links" "I", Cond.methodLink RX2 73 yX2_at, Cond.static yX2_at, Cond.code yX2_at cX2_at 2 (some .int), Cond.methodLink RX2 44 yX4_digitAt, Cond.methodLink RX2 56 yX4_pairCount, Cond.instanceMethod yX4_pairCount, Cond.selects RX4 yX4_pairCount yX4_pairCount, Cond.code yX4_pairCount cX4_pairCount 1 (some .int), Cond.methodLink RX2 59 yX4_firstOfPair, Cond.methodLink RX2 62 yX4_secondOfPair, Cond.methodLink RX2 65 yX2_addLink, Cond.instanceMethod yX2_addLink, Cond.selects RX2 yX2_addLink yX2_addLink, Cond.code yX2_addLink cX2_addLink 3 none]
def wsL_law_r10 : List Cond := [Cond.methodLink RX2 76 yX2_hasNode, Cond.instanceMethod yX2_hasNode, Cond.selects RX2 yX2_hasNode yX2_hasNode, Cond.code yX2_hasNode cX2_hasNode 2 (some .boolean), Cond.methodLink RX2 69 yX2_findWays, Cond.instanceMethod yX2_findWays, Cond.selects RX2 yX2_findWays yX2_findWays, Cond.code yX2_findWays cX2_findWays 4 none, Cond.methodLink RX2 80 yX2_findWay, Cond.instanceMethod yX2_findWay, Cond.selects RX2 yX2_findWay yX2_findWay, Cond.code yX2_findWay cX2_findWay 6 none, Cond.methodLink RX5 69 yX0_clear, Cond.instanceMethod yX0_clear, Cond.selects RX0 yX0_clear yX0_clear, Cond.code yX0_clear cX0_clear 2 none, Cond.methodLink RX5 70 yX2_linkCount, Cond.instanceMethod yX2_linkCount, Cond.selects RX2 yX2_linkCount yX2_linkCount, Cond.code yX2_linkCount cX2_linkCount 1 (some .int), Cond.methodLink RX5 73 yX3_drawAll, Cond.instanceMethod yX3_drawAll, Cond.selects RX3 yX3_drawAll yX3_drawAll, Cond.code yX3_drawAll cX3_drawAll 4 none]
def wsL_law_r11 : List Cond := [Cond.fieldLink RX3 32 "FoldedWays$Marks" "nextSeed" "J", Cond.methodLink RX3 36 yX3_drawMark, Cond.instanceMethod yX3_drawMark, Cond.selects RX3 yX3_drawMark yX3_drawMark, Cond.code yX3_drawMark cX3_drawMark 4 (some .long), Cond.methodLink RX3 40 yX3_drawBit, Cond.instanceMethod yX3_drawBit, Cond.selects RX3 yX3_drawBit yX3_drawBit, Cond.code yX3_drawBit cX3_drawBit 1 (some .int), Cond.constantLong RX3 44 (1103515245), Cond.constantLong RX3 46 (12345), Cond.constantLong RX3 48 (2147483648), Cond.constantLong RX3 50 (65536), Cond.methodLink RL 30 yX6_net, Cond.instanceMethod yX6_net, Cond.selects RX6 yX6_net yX6_net, Cond.code yX6_net cX6_net 2 (some .int), Cond.fieldLink RX6 82 "FoldedWaysModel" "nodes" "I", Cond.fieldLink RX6 85 "FoldedWaysModel" "links" "I", Cond.fieldLink RX6 88 "FoldedWaysModel" "netsRead" "I", Cond.methodLink RX6 91 yX6_layMarks, Cond.instanceMethod yX6_layMarks, Cond.selects RX6 yX6_layMarks yX6_layMarks, Cond.code yX6_layMarks cX6_layMarks 6 none]
def wsL_law_r12 : List Cond := [Cond.fieldLink RX6 96 "FoldedWaysModel" "drawing" "J", Cond.methodLink RX6 106 yX6_draw, Cond.instanceMethod yX6_draw, Cond.selects RX6 yX6_draw yX6_draw, Cond.code yX6_draw cX6_draw 2 (some .int), Cond.constantLong RX6 94 (1103515245), Cond.constantLong RX6 100 (12345), Cond.constantLong RX6 102 (2147483648), Cond.constantLong RX6 104 (65536), Cond.methodLink RL 31 yX5_set, Cond.instanceMethod yX5_set, Cond.selects RX5 yX5_set yX5_set, Cond.code yX5_set cX5_set 4 (some .int), Cond.methodLink RX5 80 yX3_allows, Cond.instanceMethod yX3_allows, Cond.selects RX3 yX3_allows yX3_allows, Cond.code yX3_allows cX3_allows 3 (some .boolean), Cond.methodLink RX5 84 yX3_setting, Cond.instanceMethod yX3_setting, Cond.selects RX3 yX3_setting yX3_setting, Cond.code yX3_setting cX3_setting 2 (some .int), Cond.methodLink RX5 88 yX3_change, Cond.instanceMethod yX3_change, Cond.selects RX3 yX3_change yX3_change]
def wsL_law_r13 : List Cond := [Cond.code yX3_change cX3_change 3 none, Cond.methodLink RL 35 yX6_set, Cond.instanceMethod yX6_set, Cond.selects RX6 yX6_set yX6_set, Cond.code yX6_set cX6_set 5 (some .int), Cond.methodLink RL 36 yX5_mark, Cond.instanceMethod yX5_mark, Cond.selects RX5 yX5_mark yX5_mark, Cond.code yX5_mark cX5_mark 3 (some .long), Cond.constantLong RX5 96 (-1001), Cond.constantLong RX5 101 (-1002), Cond.methodLink RX5 92 yX2_hasLink, Cond.instanceMethod yX2_hasLink, Cond.selects RX2 yX2_hasLink yX2_hasLink, Cond.code yX2_hasLink cX2_hasLink 2 (some .boolean), Cond.methodLink RX5 98 yX5_isVariant, Cond.static yX5_isVariant, Cond.code yX5_isVariant cX5_isVariant 1 (some .boolean), Cond.methodLink RX5 103 yX3_ofLink, Cond.instanceMethod yX3_ofLink, Cond.selects RX3 yX3_ofLink yX3_ofLink, Cond.code yX3_ofLink cX3_ofLink 3 (some .long), Cond.methodLink RL 40 yX6_mark, Cond.instanceMethod yX6_mark]
def wsL_law_r14 : List Cond := [Cond.selects RX6 yX6_mark yX6_mark, Cond.code yX6_mark cX6_mark 3 (some .long), Cond.constantLong RX6 113 (-1001), Cond.constantLong RX6 118 (-1002), Cond.methodLink RX6 110 yX6_isLink, Cond.instanceMethod yX6_isLink, Cond.selects RX6 yX6_isLink yX6_isLink, Cond.code yX6_isLink cX6_isLink 2 (some .boolean), Cond.methodLink RX6 115 yX6_isVariant, Cond.static yX6_isVariant, Cond.code yX6_isVariant cX6_isVariant 1 (some .boolean), Cond.methodLink RL 41 yX5_link, Cond.instanceMethod yX5_link, Cond.selects RX5 yX5_link yX5_link, Cond.code yX5_link cX5_link 3 (some .int), Cond.methodLink RX5 107 yX2_startOf, Cond.instanceMethod yX2_startOf, Cond.selects RX2 yX2_startOf yX2_startOf, Cond.code yX2_startOf cX2_startOf 2 (some .int), Cond.methodLink RX5 110 yX2_endOf, Cond.instanceMethod yX2_endOf, Cond.selects RX2 yX2_endOf yX2_endOf, Cond.code yX2_endOf cX2_endOf 2 (some .int), Cond.methodLink RX5 113 yX0_placesWith]
def wsL_law_r15 : List Cond := [Cond.instanceMethod yX0_placesWith, Cond.selects RX0 yX0_placesWith yX0_placesWith, Cond.code yX0_placesWith cX0_placesWith 4 (some .int), Cond.methodLink RL 44 yX6_link, Cond.instanceMethod yX6_link, Cond.selects RX6 yX6_link yX6_link, Cond.code yX6_link cX6_link 3 (some .int), Cond.methodLink RX6 126 yX6_linkNow, Cond.instanceMethod yX6_linkNow, Cond.selects RX6 yX6_linkNow yX6_linkNow, Cond.code yX6_linkNow cX6_linkNow 3 (some .int), Cond.methodLink RX6 123 yX6_bundlesOf, Cond.instanceMethod yX6_bundlesOf, Cond.selects RX6 yX6_bundlesOf yX6_bundlesOf, Cond.code yX6_bundlesOf cX6_bundlesOf 4 (some .int), Cond.methodLink RX6 120 yX6_has, Cond.static yX6_has, Cond.code yX6_has cX6_has 2 (some .boolean), Cond.methodLink RL 45 yX5_way, Cond.instanceMethod yX5_way, Cond.selects RX5 yX5_way yX5_way, Cond.code yX5_way cX5_way 4 (some .int), Cond.methodLink RX5 116 yX2_hasNode, Cond.methodLink RX5 119 yX2_nodeOnWay]
def wsL_law_r16 : List Cond := [Cond.instanceMethod yX2_nodeOnWay, Cond.selects RX2 yX2_nodeOnWay yX2_nodeOnWay, Cond.code yX2_nodeOnWay cX2_nodeOnWay 6 (some .int), Cond.methodLink RL 49 yX6_way, Cond.instanceMethod yX6_way, Cond.selects RX6 yX6_way yX6_way, Cond.code yX6_way cX6_way 4 (some .int), Cond.fieldLink RX6 134 "FoldedWaysModel" "wayMany" "I", Cond.methodLink RX6 140 yX6_isNode, Cond.instanceMethod yX6_isNode, Cond.selects RX6 yX6_isNode yX6_isNode, Cond.code yX6_isNode cX6_isNode 2 (some .boolean), Cond.methodLink RX6 143 yX6_layWay, Cond.instanceMethod yX6_layWay, Cond.selects RX6 yX6_layWay yX6_layWay, Cond.code yX6_layWay cX6_layWay 5 none, Cond.methodLink RX6 130 yX6_layLeft, Cond.instanceMethod yX6_layLeft, Cond.selects RX6 yX6_layLeft yX6_layLeft, Cond.code yX6_layLeft cX6_layLeft 5 none, Cond.methodLink RX6 137 yX6_nextNode, Cond.instanceMethod yX6_nextNode, Cond.selects RX6 yX6_nextNode yX6_nextNode, Cond.code yX6_nextNode cX6_nextNode 5 (some .int)]
def wsL_law_r17 : List Cond := [Cond.methodLink RL 50 yX5_tree, Cond.instanceMethod yX5_tree, Cond.selects RX5 yX5_tree yX5_tree, Cond.code yX5_tree cX5_tree 3 (some .int), Cond.methodLink RX5 123 yX2_hasNodes, Cond.instanceMethod yX2_hasNodes, Cond.selects RX2 yX2_hasNodes yX2_hasNodes, Cond.code yX2_hasNodes cX2_hasNodes 2 (some .boolean), Cond.methodLink RX2 37 yX2_allNodes, Cond.instanceMethod yX2_allNodes, Cond.selects RX2 yX2_allNodes yX2_allNodes, Cond.code yX2_allNodes cX2_allNodes 1 (some .int), Cond.methodLink RX5 126 yX2_treeLinks, Cond.instanceMethod yX2_treeLinks, Cond.selects RX2 yX2_treeLinks yX2_treeLinks, Cond.code yX2_treeLinks cX2_treeLinks 5 (some .int), Cond.methodLink RL 53 yX6_tree, Cond.instanceMethod yX6_tree, Cond.selects RX6 yX6_tree yX6_tree, Cond.code yX6_tree cX6_tree 3 (some .int), Cond.methodLink RX6 150 yX6_isSet, Cond.instanceMethod yX6_isSet, Cond.selects RX6 yX6_isSet yX6_isSet, Cond.code yX6_isSet cX6_isSet 2 (some .boolean)]
def wsL_law_r18 : List Cond := [Cond.methodLink RX6 153 yX6_treeOf, Cond.instanceMethod yX6_treeOf, Cond.selects RX6 yX6_treeOf yX6_treeOf, Cond.code yX6_treeOf cX6_treeOf 6 (some .int), Cond.methodLink RX6 147 yX6_linkFrom, Cond.instanceMethod yX6_linkFrom, Cond.selects RX6 yX6_linkFrom yX6_linkFrom, Cond.code yX6_linkFrom cX6_linkFrom 5 (some .int), Cond.methodLink RL 54 yX5_bind, Cond.instanceMethod yX5_bind, Cond.selects RX5 yX5_bind yX5_bind, Cond.code yX5_bind cX5_bind 5 (some .int), Cond.methodLink RX5 130 yX5_isPlace, Cond.static yX5_isPlace, Cond.code yX5_isPlace cX5_isPlace 1 (some .boolean), Cond.methodLink RX5 133 yX0_isThere, Cond.instanceMethod yX0_isThere, Cond.selects RX0 yX0_isThere yX0_isThere, Cond.code yX0_isThere cX0_isThere 2 (some .boolean), Cond.methodLink RX0 19 yX0_linksAt, Cond.instanceMethod yX0_linksAt, Cond.selects RX0 yX0_linksAt yX0_linksAt, Cond.code yX0_linksAt cX0_linksAt 2 (some .int), Cond.methodLink RX5 136 yX0_put]
def wsL_law_r19 : List Cond := [Cond.instanceMethod yX0_put, Cond.selects RX0 yX0_put yX0_put, Cond.code yX0_put cX0_put 3 none, Cond.methodLink RX5 139 yJ6_bitCount_0f7a4, Cond.static yJ6_bitCount_0f7a4, Cond.initialized RJ6, Cond.code yJ6_bitCount_0f7a4 cJ6_bitCount_0f7a4 1 (some .int), Cond.constant RJ6 265 (1431655765), Cond.constant RJ6 266 (858993459), Cond.constant RJ6 267 (252645135), Cond.methodLink RL 57 yX6_bind, Cond.instanceMethod yX6_bind, Cond.selects RX6 yX6_bind yX6_bind, Cond.code yX6_bind cX6_bind 5 (some .int), Cond.methodLink RX6 156 yX6_isPlace, Cond.static yX6_isPlace, Cond.code yX6_isPlace cX6_isPlace 1 (some .boolean), Cond.methodLink RX6 159 yX6_ones, Cond.static yX6_ones, Cond.code yX6_ones cX6_ones 4 (some .int), Cond.methodLink RL 58 yX5_loosen, Cond.instanceMethod yX5_loosen, Cond.selects RX5 yX5_loosen yX5_loosen, Cond.code yX5_loosen cX5_loosen 3 (some .int)]
def wsL_law_r20 : List Cond := [Cond.methodLink RX5 144 yX0_linksAt, Cond.methodLink RL 61 yX6_loosen, Cond.instanceMethod yX6_loosen, Cond.selects RX6 yX6_loosen yX6_loosen, Cond.code yX6_loosen cX6_loosen 3 (some .int), Cond.methodLink RL 62 yX5_bound, Cond.instanceMethod yX5_bound, Cond.selects RX5 yX5_bound yX5_bound, Cond.code yX5_bound cX5_bound 3 (some .long), Cond.methodLink RX5 147 yX3_ofBundle, Cond.instanceMethod yX3_ofBundle, Cond.selects RX3 yX3_ofBundle yX3_ofBundle, Cond.code yX3_ofBundle cX3_ofBundle 3 (some .long), Cond.methodLink RL 65 yX6_bound, Cond.instanceMethod yX6_bound, Cond.selects RX6 yX6_bound yX6_bound, Cond.code yX6_bound cX6_bound 3 (some .long), Cond.methodLink RL 66 yX5_fold, Cond.instanceMethod yX5_fold, Cond.selects RX5 yX5_fold yX5_fold, Cond.code yX5_fold cX5_fold 5 (some .long), Cond.methodLink RX5 150 yX5_foldedBits, Cond.instanceMethod yX5_foldedBits, Cond.selects RX5 yX5_foldedBits yX5_foldedBits]
def wsL_law_r21 : List Cond := [Cond.code yX5_foldedBits cX5_foldedBits 9 (some .long), Cond.methodLink RL 70 yX6_fold, Cond.instanceMethod yX6_fold, Cond.selects RX6 yX6_fold yX6_fold, Cond.code yX6_fold cX6_fold 5 (some .long), Cond.methodLink RX6 163 yX6_foldOf, Cond.instanceMethod yX6_foldOf, Cond.selects RX6 yX6_foldOf yX6_foldOf, Cond.code yX6_foldOf cX6_foldOf 8 (some .long), Cond.methodLink RL 71 yX5_spread, Cond.instanceMethod yX5_spread, Cond.selects RX5 yX5_spread yX5_spread, Cond.code yX5_spread cX5_spread 6 (some .int), Cond.methodLink RX5 154 yX5_spreadOut, Cond.instanceMethod yX5_spreadOut, Cond.selects RX5 yX5_spreadOut yX5_spreadOut, Cond.code yX5_spreadOut cX5_spreadOut 8 none, Cond.fieldLink RX5 225 "FoldedWays$Flow" "foldBits" "I", Cond.methodLink RX5 212 yX5_matchingLinks, Cond.instanceMethod yX5_matchingLinks, Cond.selects RX5 yX5_matchingLinks yX5_matchingLinks, Cond.code yX5_matchingLinks cX5_matchingLinks 6 (some .int), Cond.constantLong RX5 210 (-1), Cond.methodLink RX5 216 yX1_run]
def wsL_law_r22 : List Cond := [Cond.instanceMethod yX1_run, Cond.selects RX1 yX1_run yX1_run, Cond.code yX1_run cX1_run 7 none, Cond.fieldLink RX1 9 "FoldedWays$Flow" "passages" "I", Cond.fieldLink RX1 15 "FoldedWays$Flow" "astray" "I", Cond.fieldLink RX1 18 "FoldedWays$Flow" "loops" "I", Cond.fieldLink RX1 21 "FoldedWays$Flow" "steps" "I", Cond.fieldLink RX1 24 "FoldedWays$Flow" "reached" "I", Cond.fieldLink RX1 33 "FoldedWays$Flow" "matchingAside" "I", Cond.methodLink RX1 27 yJ6_bitCount_0f7a4, Cond.methodLink RX1 36 yX1_sendOn, Cond.instanceMethod yX1_sendOn, Cond.selects RX1 yX1_sendOn yX1_sendOn, Cond.code yX1_sendOn cX1_sendOn 9 (some .int), Cond.methodLink RX1 40 yX2_linkCount, Cond.methodLink RX1 46 yX2_startOf, Cond.methodLink RX1 49 yX2_endOf, Cond.methodLink RX5 220 yJ13_bitCount_95d88, Cond.static yJ13_bitCount_95d88, Cond.initialized RJ13, Cond.code yJ13_bitCount_95d88 cJ13_bitCount_95d88 2 (some .int), Cond.constantLong RJ13 314 (6148914691236517205), Cond.constantLong RJ13 316 (3689348814741910323), Cond.constantLong RJ13 318 (1085102592571150095)]
def wsL_law_r23 : List Cond := [Cond.methodLink RX5 158 yX5_spreadFact, Cond.instanceMethod yX5_spreadFact, Cond.selects RX5 yX5_spreadFact yX5_spreadFact, Cond.code yX5_spreadFact cX5_spreadFact 2 (some .int), Cond.fieldLink RX5 171 "FoldedWays$Flow" "passages" "I", Cond.fieldLink RX5 177 "FoldedWays$Flow" "astray" "I", Cond.fieldLink RX5 183 "FoldedWays$Flow" "loops" "I", Cond.fieldLink RX5 228 "FoldedWays$Flow" "steps" "I", Cond.fieldLink RX5 231 "FoldedWays$Flow" "reached" "I", Cond.fieldLink RX5 240 "FoldedWays$Flow" "matchingAside" "I", Cond.methodLink RX5 234 yX3_oddsAbove, Cond.instanceMethod yX3_oddsAbove, Cond.selects RX3 yX3_oddsAbove yX3_oddsAbove, Cond.code yX3_oddsAbove cX3_oddsAbove 2 (some .int), Cond.methodLink RX3 52 yX3_reduced, Cond.instanceMethod yX3_reduced, Cond.selects RX3 yX3_reduced yX3_reduced, Cond.code yX3_reduced cX3_reduced 4 (some .int), Cond.methodLink RX3 56 yX3_power, Cond.instanceMethod yX3_power, Cond.selects RX3 yX3_power yX3_power, Cond.code yX3_power cX3_power 4 (some .int), Cond.methodLink RX5 237 yX3_oddsBelow, Cond.instanceMethod yX3_oddsBelow]
def wsL_law_r24 : List Cond := [Cond.selects RX3 yX3_oddsBelow yX3_oddsBelow, Cond.code yX3_oddsBelow cX3_oddsBelow 2 (some .int), Cond.methodLink RL 75 yX6_spread, Cond.instanceMethod yX6_spread, Cond.selects RX6 yX6_spread yX6_spread, Cond.code yX6_spread cX6_spread 6 (some .int), Cond.methodLink RX6 204 yX6_laySpread, Cond.instanceMethod yX6_laySpread, Cond.selects RX6 yX6_laySpread yX6_laySpread, Cond.code yX6_laySpread cX6_laySpread 6 none, Cond.fieldLink RX6 169 "FoldedWaysModel" "bitsNow" "J", Cond.fieldLink RX6 172 "FoldedWaysModel" "passages" "I", Cond.fieldLink RX6 175 "FoldedWaysModel" "astray" "I", Cond.fieldLink RX6 178 "FoldedWaysModel" "loops" "I", Cond.fieldLink RX6 181 "FoldedWaysModel" "steps" "I", Cond.fieldLink RX6 184 "FoldedWaysModel" "others" "I", Cond.fieldLink RX6 191 "FoldedWaysModel" "reached" "I", Cond.methodLink RX6 187 yX6_matches, Cond.instanceMethod yX6_matches, Cond.selects RX6 yX6_matches yX6_matches, Cond.code yX6_matches cX6_matches 7 (some .boolean), Cond.constantLong RX6 167 (-1), Cond.methodLink RX6 194 yX6_goStep, Cond.instanceMethod yX6_goStep]
def wsL_law_r25 : List Cond := [Cond.selects RX6 yX6_goStep yX6_goStep, Cond.code yX6_goStep cX6_goStep 7 (some .int), Cond.methodLink RX6 208 yX6_spreadNow, Cond.instanceMethod yX6_spreadNow, Cond.selects RX6 yX6_spreadNow yX6_spreadNow, Cond.code yX6_spreadNow cX6_spreadNow 2 (some .int), Cond.methodLink RX6 201 yX6_odds, Cond.instanceMethod yX6_odds, Cond.selects RX6 yX6_odds yX6_odds, Cond.code yX6_odds cX6_odds 5 (some .int), Cond.methodLink RX6 198 yX6_common, Cond.static yX6_common, Cond.code yX6_common cX6_common 5 (some .int), Cond.methodLink RL 76 yX5_best, Cond.instanceMethod yX5_best, Cond.selects RX5 yX5_best yX5_best, Cond.code yX5_best cX5_best 4 (some .int), Cond.methodLink RX5 161 yX5_bestVariant, Cond.instanceMethod yX5_bestVariant, Cond.selects RX5 yX5_bestVariant yX5_bestVariant, Cond.code yX5_bestVariant cX5_bestVariant 9 (some .int), Cond.methodLink RL 80 yX6_best, Cond.instanceMethod yX6_best, Cond.selects RX6 yX6_best yX6_best]
def wsL_law_r26 : List Cond := [Cond.code yX6_best cX6_best 4 (some .int), Cond.methodLink RX6 211 yX6_bestOf, Cond.instanceMethod yX6_bestOf, Cond.selects RX6 yX6_bestOf yX6_bestOf, Cond.code yX6_bestOf cX6_bestOf 8 (some .int), Cond.methodLink RL 81 yX5_send, Cond.instanceMethod yX5_send, Cond.selects RX5 yX5_send yX5_send, Cond.code yX5_send cX5_send 4 (some .int), Cond.fieldLink RX5 165 "FoldedWays" "timesSent" "I", Cond.fieldLink RX5 168 "FoldedWays" "passagesSent" "I", Cond.fieldLink RX5 174 "FoldedWays" "astraySent" "I", Cond.fieldLink RX5 180 "FoldedWays" "loopsSent" "I", Cond.methodLink RL 84 yX6_send, Cond.instanceMethod yX6_send, Cond.selects RX6 yX6_send yX6_send, Cond.code yX6_send cX6_send 4 (some .int), Cond.methodLink RX6 227 yX6_sendNow, Cond.instanceMethod yX6_sendNow, Cond.selects RX6 yX6_sendNow yX6_sendNow, Cond.code yX6_sendNow cX6_sendNow 4 (some .int), Cond.fieldLink RX6 215 "FoldedWaysModel" "sent" "I", Cond.fieldLink RX6 218 "FoldedWaysModel" "passagesEver" "I", Cond.fieldLink RX6 221 "FoldedWaysModel" "astrayEver" "I"]
def wsL_law_r27 : List Cond := [Cond.fieldLink RX6 224 "FoldedWaysModel" "loopsEver" "I", Cond.methodLink RL 85 yX5_count, Cond.instanceMethod yX5_count, Cond.selects RX5 yX5_count yX5_count, Cond.code yX5_count cX5_count 2 (some .int), Cond.methodLink RX5 186 yX2_nodeCount, Cond.instanceMethod yX2_nodeCount, Cond.selects RX2 yX2_nodeCount yX2_nodeCount, Cond.code yX2_nodeCount cX2_nodeCount 1 (some .int), Cond.methodLink RX5 189 yX0_howMany, Cond.instanceMethod yX0_howMany, Cond.selects RX0 yX0_howMany yX0_howMany, Cond.code yX0_howMany cX0_howMany 3 (some .int), Cond.methodLink RX0 23 yX0_isThere, Cond.methodLink RL 88 yX6_count, Cond.instanceMethod yX6_count, Cond.selects RX6 yX6_count yX6_count, Cond.code yX6_count cX6_count 2 (some .int), Cond.methodLink RX6 233 yX6_howMany, Cond.instanceMethod yX6_howMany, Cond.selects RX6 yX6_howMany yX6_howMany, Cond.code yX6_howMany cX6_howMany 2 (some .int), Cond.methodLink RX6 230 yX6_bundlesMany, Cond.instanceMethod yX6_bundlesMany]
def wsL_law_r28 : List Cond := [Cond.selects RX6 yX6_bundlesMany yX6_bundlesMany, Cond.code yX6_bundlesMany cX6_bundlesMany 3 (some .int), Cond.methodLink RL 89 yX5_digest, Cond.instanceMethod yX5_digest, Cond.selects RX5 yX5_digest yX5_digest, Cond.code yX5_digest cX5_digest 3 (some .long), Cond.constantLong RX5 192 (1693), Cond.methodLink RX5 194 yX5_withLinks, Cond.instanceMethod yX5_withLinks, Cond.selects RX5 yX5_withLinks yX5_withLinks, Cond.code yX5_withLinks cX5_withLinks 7 (some .long), Cond.methodLink RX5 245 yX5_with, Cond.static yX5_with, Cond.code yX5_with cX5_with 4 (some .long), Cond.constantLong RX5 243 (31), Cond.methodLink RX5 198 yX5_withBundles, Cond.instanceMethod yX5_withBundles, Cond.selects RX5 yX5_withBundles yX5_withBundles, Cond.code yX5_withBundles cX5_withBundles 7 (some .long), Cond.methodLink RX5 201 yX5_withNodes, Cond.instanceMethod yX5_withNodes, Cond.selects RX5 yX5_withNodes yX5_withNodes, Cond.code yX5_withNodes cX5_withNodes 9 (some .long), Cond.methodLink RX5 249 yX2_allNodes]
def wsL_law_r29 : List Cond := [Cond.methodLink RX5 204 yX5_withPage, Cond.instanceMethod yX5_withPage, Cond.selects RX5 yX5_withPage yX5_withPage, Cond.code yX5_withPage cX5_withPage 6 (some .long), Cond.methodLink RX5 252 yX4_codeAt, Cond.methodLink RX5 207 yX5_withCounts, Cond.instanceMethod yX5_withCounts, Cond.selects RX5 yX5_withCounts yX5_withCounts, Cond.code yX5_withCounts cX5_withCounts 6 (some .long), Cond.methodLink RX5 255 yX5_count, Cond.methodLink RL 93 yX6_digest, Cond.instanceMethod yX6_digest, Cond.selects RX6 yX6_digest yX6_digest, Cond.code yX6_digest cX6_digest 3 (some .long), Cond.constantLong RX6 245 (1693), Cond.fieldLink RX6 238 "FoldedWaysModel" "h" "J", Cond.methodLink RX6 241 yX6_mix, Cond.instanceMethod yX6_mix, Cond.selects RX6 yX6_mix yX6_mix, Cond.code yX6_mix cX6_mix 3 none, Cond.constantLong RX6 236 (31), Cond.methodLink RX6 247 yX6_mixNode, Cond.instanceMethod yX6_mixNode, Cond.selects RX6 yX6_mixNode yX6_mixNode]
def wsL_law_r30 : List Cond := [Cond.code yX6_mixNode cX6_mixNode 5 none]
def wsL_law : List Cond := (wsL_law_r1 ++ (wsL_law_r2 ++ (wsL_law_r3 ++ (wsL_law_r4 ++ (wsL_law_r5 ++ (wsL_law_r6 ++ (wsL_law_r7 ++ (wsL_law_r8 ++ (wsL_law_r9 ++ (wsL_law_r10 ++ (wsL_law_r11 ++ (wsL_law_r12 ++ (wsL_law_r13 ++ (wsL_law_r14 ++ (wsL_law_r15 ++ (wsL_law_r16 ++ (wsL_law_r17 ++ (wsL_law_r18 ++ (wsL_law_r19 ++ (wsL_law_r20 ++ (wsL_law_r21 ++ (wsL_law_r22 ++ (wsL_law_r23 ++ (wsL_law_r24 ++ (wsL_law_r25 ++ (wsL_law_r26 ++ (wsL_law_r27 ++ (wsL_law_r28 ++ (wsL_law_r29 ++ wsL_law_r30))))))))))))))))))))))))))))) ++ wsX50 ++ wsX60 ++ wsX40 ++ wsX20 ++ wsX30 ++ wsX00 ++ wsX10 ++ ([] : List Cond)
end
section
theorem wl_pl {big ws : List Cond} (ps : List Nat) (h : ws = ps.filterMap (fun i => big[i]?)) : ∀ w ∈ ws, w ∈ big := by
  intro w hw
  rw [h] at hw
  obtain ⟨i, -, hi⟩ := List.mem_filterMap.mp hw
  exact List.mem_of_getElem? hi
theorem wl_app {big a b : List Cond} (ha : ∀ w ∈ a, w ∈ big) (hb : ∀ w ∈ b, w ∈ big) : ∀ w ∈ a ++ b, w ∈ big := fun w h => (List.mem_append.mp h).elim (ha w) (hb w)
set_option maxRecDepth 20000 in
theorem in_wsL_law_r1 : ∀ w ∈ wsL_law_r1, w ∈ lw_tbl := wl_pl [61, 62, 51, 573, 574, 57, 63, 64, 65, 66, 67, 68, 69, 70, 52, 181, 83, 84, 53, 182, 114, 115, 54, 183] (by decide +kernel)
set_option maxRecDepth 20000 in
theorem in_wsL_law_r2 : ∀ w ∈ wsL_law_r2, w ∈ lw_tbl := wl_pl [137, 138, 55, 184, 147, 148, 56, 185, 71, 72, 73, 74, 82, 75, 85, 86, 87, 88, 91, 92, 93, 94, 95, 96] (by decide +kernel)
set_option maxRecDepth 20000 in
theorem in_wsL_law_r3 : ∀ w ∈ wsL_law_r3, w ∈ lw_tbl := wl_pl [116, 117, 118, 119, 120, 121, 122, 136, 124, 139, 140, 141, 142, 143, 150, 151, 152, 575, 576, 577, 578, 580, 583, 584] (by decide +kernel)
set_option maxRecDepth 20000 in
theorem in_wsL_law_r4 : ∀ w ∈ wsL_law_r4, w ∈ lw_tbl := wl_pl [585, 586, 587, 588, 598, 599, 600, 602, 604, 212, 213, 214, 215, 216, 217, 218, 219, 76, 220, 221, 222, 223, 224, 225] (by decide +kernel)
set_option maxRecDepth 20000 in
theorem in_wsL_law_r5 : ∀ w ∈ wsL_law_r5, w ∈ lw_tbl := wl_pl [226, 227, 682, 683, 684, 685, 579, 686, 687, 688, 228, 229, 230, 231, 232, 233, 234, 235, 689, 690, 691, 692, 236, 237] (by decide +kernel)
set_option maxRecDepth 20000 in
theorem in_wsL_law_r6 : ∀ w ∈ wsL_law_r6, w ∈ lw_tbl := wl_pl [238, 239, 240, 241, 242, 243, 244, 246, 0, 247, 248, 249, 250, 251, 252, 253, 254, 255, 256, 258, 1, 259, 260, 262] (by decide +kernel)
set_option maxRecDepth 20000 in
theorem in_wsL_law_r7 : ∀ w ∈ wsL_law_r7, w ∈ lw_tbl := wl_pl [2, 263, 264, 265, 266, 267, 268, 269, 270, 271, 693, 694, 695, 696, 697, 699, 22, 700, 594, 595, 596, 701, 703, 23] (by decide +kernel)
set_option maxRecDepth 20000 in
theorem in_wsL_law_r8 : ∀ w ∈ wsL_law_r8, w ∈ lw_tbl := wl_pl [704, 705, 707, 24, 708, 597, 709, 711, 25, 712, 272, 273, 274, 275, 186, 276, 277, 278, 279, 280, 281, 282, 283, 284] (by decide +kernel)
set_option maxRecDepth 20000 in
theorem in_wsL_law_r9 : ∀ w ∈ wsL_law_r9, w ∈ lw_tbl := wl_pl [293, 294, 58, 295, 89, 285, 287, 3, 288, 90, 289, 290, 291, 292, 296, 297, 298, 299, 300, 301, 302, 304, 4, 305] (by decide +kernel)
set_option maxRecDepth 20000 in
theorem in_wsL_law_r10 : ∀ w ∈ wsL_law_r10, w ∈ lw_tbl := wl_pl [306, 307, 308, 309, 310, 312, 5, 313, 314, 316, 6, 317, 318, 319, 320, 321, 322, 323, 324, 325, 326, 327, 328, 329] (by decide +kernel)
set_option maxRecDepth 20000 in
theorem in_wsL_law_r11 : ∀ w ∈ wsL_law_r11, w ∈ lw_tbl := wl_pl [123, 330, 332, 7, 333, 334, 336, 8, 337, 338, 339, 340, 341, 713, 714, 715, 716, 581, 582, 589, 717, 719, 26, 720] (by decide +kernel)
set_option maxRecDepth 20000 in
theorem in_wsL_law_r12 : ∀ w ∈ wsL_law_r12, w ∈ lw_tbl := wl_pl [601, 721, 723, 27, 724, 725, 726, 727, 728, 342, 343, 344, 345, 346, 347, 348, 349, 350, 351, 352, 353, 354, 355, 356] (by decide +kernel)
set_option maxRecDepth 20000 in
theorem in_wsL_law_r13 : ∀ w ∈ wsL_law_r13, w ∈ lw_tbl := wl_pl [357, 729, 730, 731, 732, 358, 359, 360, 361, 366, 370, 362, 363, 364, 365, 367, 368, 369, 371, 372, 373, 374, 733, 734] (by decide +kernel)
set_option maxRecDepth 20000 in
theorem in_wsL_law_r14 : ∀ w ∈ wsL_law_r14, w ∈ lw_tbl := wl_pl [735, 736, 741, 745, 737, 739, 28, 740, 742, 743, 744, 376, 377, 378, 379, 380, 381, 382, 383, 384, 385, 386, 387, 388] (by decide +kernel)
set_option maxRecDepth 20000 in
theorem in_wsL_law_r15 : ∀ w ∈ wsL_law_r15, w ∈ lw_tbl := wl_pl [389, 390, 391, 746, 747, 748, 749, 750, 752, 29, 753, 754, 756, 30, 757, 758, 759, 760, 392, 393, 394, 395, 396, 397] (by decide +kernel)
set_option maxRecDepth 20000 in
theorem in_wsL_law_r16 : ∀ w ∈ wsL_law_r16, w ∈ lw_tbl := wl_pl [398, 399, 400, 761, 762, 763, 764, 603, 765, 767, 31, 768, 769, 771, 32, 772, 773, 775, 33, 776, 777, 779, 34, 780] (by decide +kernel)
set_option maxRecDepth 20000 in
theorem in_wsL_law_r17 : ∀ w ∈ wsL_law_r17, w ∈ lw_tbl := wl_pl [401, 402, 403, 404, 405, 406, 407, 408, 409, 410, 411, 412, 413, 414, 415, 416, 781, 782, 783, 784, 785, 787, 35, 788] (by decide +kernel)
set_option maxRecDepth 20000 in
theorem in_wsL_law_r18 : ∀ w ∈ wsL_law_r18, w ∈ lw_tbl := wl_pl [789, 791, 36, 792, 793, 795, 37, 796, 417, 418, 419, 420, 421, 422, 423, 424, 425, 426, 427, 428, 429, 430, 431, 433] (by decide +kernel)
set_option maxRecDepth 20000 in
theorem in_wsL_law_r19 : ∀ w ∈ wsL_law_r19, w ∈ lw_tbl := wl_pl [434, 435, 436, 437, 438, 59, 439, 440, 441, 442, 797, 798, 799, 800, 801, 802, 803, 804, 805, 806, 443, 444, 445, 446] (by decide +kernel)
set_option maxRecDepth 20000 in
theorem in_wsL_law_r20 : ∀ w ∈ wsL_law_r20, w ∈ lw_tbl := wl_pl [447, 807, 808, 809, 810, 448, 449, 450, 451, 452, 453, 454, 455, 811, 812, 813, 814, 457, 458, 459, 460, 461, 463, 9] (by decide +kernel)
set_option maxRecDepth 20000 in
theorem in_wsL_law_r21 : ∀ w ∈ wsL_law_r21, w ∈ lw_tbl := wl_pl [464, 815, 816, 817, 818, 819, 821, 38, 822, 465, 466, 467, 468, 469, 471, 10, 472, 153, 473, 475, 11, 476, 477, 478] (by decide +kernel)
set_option maxRecDepth 20000 in
theorem in_wsL_law_r22 : ∀ w ∈ wsL_law_r22, w ∈ lw_tbl := wl_pl [479, 480, 481, 154, 156, 158, 160, 162, 164, 482, 483, 485, 12, 486, 487, 488, 489, 490, 491, 60, 492, 493, 494, 495] (by decide +kernel)
set_option maxRecDepth 20000 in
theorem in_wsL_law_r23 : ∀ w ∈ wsL_law_r23, w ∈ lw_tbl := wl_pl [496, 498, 13, 499, 155, 157, 159, 161, 163, 165, 500, 501, 502, 503, 504, 506, 14, 507, 508, 510, 15, 511, 512, 513] (by decide +kernel)
set_option maxRecDepth 20000 in
theorem in_wsL_law_r24 : ∀ w ∈ wsL_law_r24, w ∈ lw_tbl := wl_pl [514, 515, 823, 824, 825, 826, 827, 829, 39, 830, 605, 606, 607, 608, 609, 611, 610, 831, 833, 40, 834, 835, 836, 838] (by decide +kernel)
set_option maxRecDepth 20000 in
theorem in_wsL_law_r25 : ∀ w ∈ wsL_law_r25, w ∈ lw_tbl := wl_pl [41, 839, 840, 842, 42, 843, 844, 846, 43, 847, 848, 849, 850, 516, 517, 518, 519, 520, 522, 16, 523, 851, 852, 853] (by decide +kernel)
set_option maxRecDepth 20000 in
theorem in_wsL_law_r26 : ∀ w ∈ wsL_law_r26, w ∈ lw_tbl := wl_pl [854, 855, 857, 44, 858, 524, 525, 526, 527, 187, 188, 189, 190, 859, 860, 861, 862, 863, 865, 45, 866, 590, 591, 592] (by decide +kernel)
set_option maxRecDepth 20000 in
theorem in_wsL_law_r27 : ∀ w ∈ wsL_law_r27, w ∈ lw_tbl := wl_pl [593, 528, 529, 530, 531, 532, 533, 534, 535, 536, 537, 538, 539, 540, 867, 868, 869, 870, 871, 873, 46, 874, 875, 877] (by decide +kernel)
set_option maxRecDepth 20000 in
theorem in_wsL_law_r28 : ∀ w ∈ wsL_law_r28, w ∈ lw_tbl := wl_pl [47, 878, 541, 542, 543, 544, 545, 546, 548, 17, 549, 550, 551, 552, 553, 554, 556, 18, 557, 558, 560, 19, 561, 562] (by decide +kernel)
set_option maxRecDepth 20000 in
theorem in_wsL_law_r29 : ∀ w ∈ wsL_law_r29, w ∈ lw_tbl := wl_pl [563, 565, 20, 566, 567, 568, 570, 21, 571, 572, 879, 880, 881, 882, 883, 612, 884, 886, 48, 887, 888, 889, 891, 49] (by decide +kernel)
set_option maxRecDepth 20000 in
theorem in_wsL_law_r30 : ∀ w ∈ wsL_law_r30, w ∈ lw_tbl := wl_pl [892] (by decide +kernel)
set_option maxRecDepth 20000 in
theorem in_wsX00 : ∀ w ∈ wsX00, w ∈ lw_tbl := wl_pl [144] (by decide +kernel)
set_option maxRecDepth 20000 in
theorem in_wsX10 : ∀ w ∈ wsX10, w ∈ lw_tbl := wl_pl [166, 168, 170, 172, 174, 176, 178] (by decide +kernel)
set_option maxRecDepth 20000 in
theorem in_wsX20 : ∀ w ∈ wsX20, w ∈ lw_tbl := wl_pl [97, 99, 101, 103, 105, 107, 109, 111] (by decide +kernel)
set_option maxRecDepth 20000 in
theorem in_wsX30 : ∀ w ∈ wsX30, w ∈ lw_tbl := wl_pl [125, 127, 129, 131, 133] (by decide +kernel)
set_option maxRecDepth 20000 in
theorem in_wsX40 : ∀ w ∈ wsX40, w ∈ lw_tbl := wl_pl [77, 79] (by decide +kernel)
set_option maxRecDepth 20000 in
theorem in_wsX50 : ∀ w ∈ wsX50, w ∈ lw_tbl := wl_pl [191, 193, 195, 197, 199, 201, 203, 205, 207, 209] (by decide +kernel)
set_option maxRecDepth 20000 in
theorem in_wsX60 : ∀ w ∈ wsX60, w ∈ lw_tbl := wl_pl [613, 615, 617, 619, 621, 623, 625, 627, 629, 631, 633, 635, 637, 639, 641, 643, 645, 647, 649, 651, 653, 655, 657, 659, 661, 663, 665, 667, 669, 671, 673, 675, 677, 679] (by decide +kernel)
theorem wsL_law_in : ∀ w ∈ wsL_law, w ∈ lw_tbl := wl_app (wl_app (wl_app (wl_app (wl_app (wl_app (wl_app (wl_app (wl_app in_wsL_law_r1 (wl_app in_wsL_law_r2 (wl_app in_wsL_law_r3 (wl_app in_wsL_law_r4 (wl_app in_wsL_law_r5 (wl_app in_wsL_law_r6 (wl_app in_wsL_law_r7 (wl_app in_wsL_law_r8 (wl_app in_wsL_law_r9 (wl_app in_wsL_law_r10 (wl_app in_wsL_law_r11 (wl_app in_wsL_law_r12 (wl_app in_wsL_law_r13 (wl_app in_wsL_law_r14 (wl_app in_wsL_law_r15 (wl_app in_wsL_law_r16 (wl_app in_wsL_law_r17 (wl_app in_wsL_law_r18 (wl_app in_wsL_law_r19 (wl_app in_wsL_law_r20 (wl_app in_wsL_law_r21 (wl_app in_wsL_law_r22 (wl_app in_wsL_law_r23 (wl_app in_wsL_law_r24 (wl_app in_wsL_law_r25 (wl_app in_wsL_law_r26 (wl_app in_wsL_law_r27 (wl_app in_wsL_law_r28 (wl_app in_wsL_law_r29 (in_wsL_law_r30)))))))))))))))))))))))))))))) in_wsX50) in_wsX60) in_wsX40) in_wsX20) in_wsX30) in_wsX00) in_wsX10) (fun _ h => absurd h List.not_mem_nil)
end
section
theorem inlX0 : ∀ w ∈ wsX00, w ∈ wsL_law := fun _ h => List.mem_append_left _ (List.mem_append_left _ (List.mem_append_right _ h))
theorem inX0 : ∀ w ∈ wsX00, w ∈ lw_tbl := fun w h => wsL_law_in w (inlX0 w h)
theorem inlX1 : ∀ w ∈ wsX10, w ∈ wsL_law := fun _ h => List.mem_append_left _ (List.mem_append_right _ h)
theorem inX1 : ∀ w ∈ wsX10, w ∈ lw_tbl := fun w h => wsL_law_in w (inlX1 w h)
theorem inlX2 : ∀ w ∈ wsX20, w ∈ wsL_law := fun _ h => List.mem_append_left _ (List.mem_append_left _ (List.mem_append_left _ (List.mem_append_left _ (List.mem_append_right _ h))))
theorem inX2 : ∀ w ∈ wsX20, w ∈ lw_tbl := fun w h => wsL_law_in w (inlX2 w h)
theorem inlX3 : ∀ w ∈ wsX30, w ∈ wsL_law := fun _ h => List.mem_append_left _ (List.mem_append_left _ (List.mem_append_left _ (List.mem_append_right _ h)))
theorem inX3 : ∀ w ∈ wsX30, w ∈ lw_tbl := fun w h => wsL_law_in w (inlX3 w h)
theorem inlX4 : ∀ w ∈ wsX40, w ∈ wsL_law := fun _ h => List.mem_append_left _ (List.mem_append_left _ (List.mem_append_left _ (List.mem_append_left _ (List.mem_append_left _ (List.mem_append_right _ h)))))
theorem inX4 : ∀ w ∈ wsX40, w ∈ lw_tbl := fun w h => wsL_law_in w (inlX4 w h)
theorem inlX5 : ∀ w ∈ wsX50, w ∈ wsL_law := fun _ h => List.mem_append_left _ (List.mem_append_left _ (List.mem_append_left _ (List.mem_append_left _ (List.mem_append_left _ (List.mem_append_left _ (List.mem_append_left _ (List.mem_append_right _ h)))))))
theorem inX5 : ∀ w ∈ wsX50, w ∈ lw_tbl := fun w h => wsL_law_in w (inlX5 w h)
theorem inlX6 : ∀ w ∈ wsX60, w ∈ wsL_law := fun _ h => List.mem_append_left _ (List.mem_append_left _ (List.mem_append_left _ (List.mem_append_left _ (List.mem_append_left _ (List.mem_append_left _ (List.mem_append_right _ h))))))
theorem inX6 : ∀ w ∈ wsX60, w ∈ lw_tbl := fun w h => wsL_law_in w (inlX6 w h)
theorem inJ6 : ∀ w ∈ wsJ60, w ∈ lw_tbl := by decide +kernel
theorem inJ13 : ∀ w ∈ wsJ130, w ∈ lw_tbl := by decide +kernel
theorem inJ9 : ∀ w ∈ wsJ90, w ∈ lw_tbl := by decide +kernel
theorem dX0_init_0 : decode cX0_init 0 = .ok (.aload_n 0, 1) := by decide +kernel
theorem dX0_init_1 : decode cX0_init 1 = .ok (.invokespecial 3, 3) := by decide +kernel
theorem dX0_init_4 : decode cX0_init 4 = .ok (.aload_n 0, 1) := by decide +kernel
theorem dX0_init_5 : decode cX0_init 5 = .ok (.iconst 4, 1) := by decide +kernel
theorem dX0_init_6 : decode cX0_init 6 = .ok (.newarray .int, 2) := by decide +kernel
theorem dX0_init_8 : decode cX0_init 8 = .ok (.putfield 9, 3) := by decide +kernel
theorem dX0_init_11 : decode cX0_init 11 = .ok (.return_, 1) := by decide +kernel
set_option maxRecDepth 20000 in
theorem ggX0_linksAt_X5_isPlace : GoodIn wsX0_linksAt wsX5_isPlace := goodIn_r _ [4] (by decide +kernel) (by decide +kernel)
set_option maxRecDepth 20000 in
theorem gX0_linksAt_X5_isPlace_n15 : GoodIn wsX0_linksAt (wsX5_isPlace) := ggX0_linksAt_X5_isPlace
theorem dX0_linksAt_0 : decode cX0_linksAt 0 = .ok (.iload_n 1, 1) := by decide +kernel
theorem dX0_linksAt_1 : decode cX0_linksAt 1 = .ok (.invokestatic 15, 3) := by decide +kernel
theorem dX0_linksAt_4 : decode cX0_linksAt 4 = .ok (.ifCond .eq 12, 3) := by decide +kernel
theorem dX0_linksAt_7 : decode cX0_linksAt 7 = .ok (.aload_n 0, 1) := by decide +kernel
theorem dX0_linksAt_8 : decode cX0_linksAt 8 = .ok (.getfield 9, 3) := by decide +kernel
theorem dX0_linksAt_11 : decode cX0_linksAt 11 = .ok (.iload_n 1, 1) := by decide +kernel
theorem dX0_linksAt_12 : decode cX0_linksAt 12 = .ok (.iaload, 1) := by decide +kernel
theorem dX0_linksAt_13 : decode cX0_linksAt 13 = .ok (.goto 4, 3) := by decide +kernel
theorem dX0_linksAt_16 : decode cX0_linksAt 16 = .ok (.iconst 0, 1) := by decide +kernel
theorem dX0_linksAt_17 : decode cX0_linksAt 17 = .ok (.ireturn, 1) := by decide +kernel
set_option maxRecDepth 20000 in
theorem ggX0_isThere_X0_linksAt : GoodIn wsX0_isThere wsX0_linksAt := goodIn_r _ [5, 6, 7, 8, 9, 10] (by decide +kernel) (by decide +kernel)
set_option maxRecDepth 20000 in
theorem gX0_isThere_X0_linksAt : GoodIn wsX0_isThere (wsV RX0 19 RX0 yX0_linksAt wsX0_linksAt) := goodIn_app (goodIn_of _ (by decide +kernel)) ggX0_isThere_X0_linksAt
theorem dX0_isThere_0 : decode cX0_isThere 0 = .ok (.aload_n 0, 1) := by decide +kernel
theorem dX0_isThere_1 : decode cX0_isThere 1 = .ok (.iload_n 1, 1) := by decide +kernel
theorem dX0_isThere_2 : decode cX0_isThere 2 = .ok (.invokevirtual 19, 3) := by decide +kernel
theorem dX0_isThere_5 : decode cX0_isThere 5 = .ok (.ifCond .eq 7, 3) := by decide +kernel
theorem dX0_isThere_8 : decode cX0_isThere 8 = .ok (.iconst 1, 1) := by decide +kernel
theorem dX0_isThere_9 : decode cX0_isThere 9 = .ok (.goto 4, 3) := by decide +kernel
theorem dX0_isThere_12 : decode cX0_isThere 12 = .ok (.iconst 0, 1) := by decide +kernel
theorem dX0_isThere_13 : decode cX0_isThere 13 = .ok (.ireturn, 1) := by decide +kernel
set_option maxRecDepth 20000 in
theorem ggX0_put_X5_isPlace : GoodIn wsX0_put wsX5_isPlace := goodIn_r _ [4] (by decide +kernel) (by decide +kernel)
set_option maxRecDepth 20000 in
theorem gX0_put_X5_isPlace_n15 : GoodIn wsX0_put (wsX5_isPlace) := ggX0_put_X5_isPlace
theorem dX0_put_0 : decode cX0_put 0 = .ok (.iload_n 1, 1) := by decide +kernel
theorem dX0_put_1 : decode cX0_put 1 = .ok (.invokestatic 15, 3) := by decide +kernel
theorem dX0_put_4 : decode cX0_put 4 = .ok (.ifCond .eq 10, 3) := by decide +kernel
theorem dX0_put_7 : decode cX0_put 7 = .ok (.aload_n 0, 1) := by decide +kernel
theorem dX0_put_8 : decode cX0_put 8 = .ok (.getfield 9, 3) := by decide +kernel
theorem dX0_put_11 : decode cX0_put 11 = .ok (.iload_n 1, 1) := by decide +kernel
theorem dX0_put_12 : decode cX0_put 12 = .ok (.iload_n 2, 1) := by decide +kernel
theorem dX0_put_13 : decode cX0_put 13 = .ok (.iastore, 1) := by decide +kernel
theorem dX0_put_14 : decode cX0_put 14 = .ok (.return_, 1) := by decide +kernel
theorem dX0_clear_0 : decode cX0_clear 0 = .ok (.iconst 0, 1) := by decide +kernel
theorem dX0_clear_1 : decode cX0_clear 1 = .ok (.istore_n 1, 1) := by decide +kernel
theorem dX0_clear_2 : decode cX0_clear 2 = .ok (.iload_n 1, 1) := by decide +kernel
theorem dX0_clear_3 : decode cX0_clear 3 = .ok (.iconst 4, 1) := by decide +kernel
theorem dX0_clear_4 : decode cX0_clear 4 = .ok (.if_icmp .ge 16, 3) := by decide +kernel
theorem dX0_clear_7 : decode cX0_clear 7 = .ok (.aload_n 0, 1) := by decide +kernel
theorem dX0_clear_8 : decode cX0_clear 8 = .ok (.getfield 9, 3) := by decide +kernel
theorem dX0_clear_11 : decode cX0_clear 11 = .ok (.iload_n 1, 1) := by decide +kernel
theorem dX0_clear_12 : decode cX0_clear 12 = .ok (.iconst 0, 1) := by decide +kernel
theorem dX0_clear_13 : decode cX0_clear 13 = .ok (.iastore, 1) := by decide +kernel
theorem dX0_clear_14 : decode cX0_clear 14 = .ok (.iinc 1 1, 3) := by decide +kernel
theorem dX0_clear_17 : decode cX0_clear 17 = .ok (.goto (-15), 3) := by decide +kernel
theorem dX0_clear_20 : decode cX0_clear 20 = .ok (.return_, 1) := by decide +kernel
set_option maxRecDepth 20000 in
theorem ggX0_howMany_X0_isThere : GoodIn wsX0_howMany wsX0_isThere := goodIn_r _ [5, 6, 7, 8, 4, 9, 10, 11, 12, 13, 14] (by decide +kernel) (by decide +kernel)
set_option maxRecDepth 20000 in
theorem gX0_howMany_X0_isThere : GoodIn wsX0_howMany (wsV RX0 23 RX0 yX0_isThere wsX0_isThere) := goodIn_app (goodIn_of _ (by decide +kernel)) ggX0_howMany_X0_isThere
theorem dX0_howMany_0 : decode cX0_howMany 0 = .ok (.iconst 0, 1) := by decide +kernel
theorem dX0_howMany_1 : decode cX0_howMany 1 = .ok (.istore_n 1, 1) := by decide +kernel
theorem dX0_howMany_2 : decode cX0_howMany 2 = .ok (.iconst 0, 1) := by decide +kernel
theorem dX0_howMany_3 : decode cX0_howMany 3 = .ok (.istore_n 2, 1) := by decide +kernel
theorem dX0_howMany_4 : decode cX0_howMany 4 = .ok (.iload_n 2, 1) := by decide +kernel
theorem dX0_howMany_5 : decode cX0_howMany 5 = .ok (.iconst 4, 1) := by decide +kernel
theorem dX0_howMany_6 : decode cX0_howMany 6 = .ok (.if_icmp .ge 20, 3) := by decide +kernel
theorem dX0_howMany_9 : decode cX0_howMany 9 = .ok (.aload_n 0, 1) := by decide +kernel
theorem dX0_howMany_10 : decode cX0_howMany 10 = .ok (.iload_n 2, 1) := by decide +kernel
theorem dX0_howMany_11 : decode cX0_howMany 11 = .ok (.invokevirtual 23, 3) := by decide +kernel
theorem dX0_howMany_14 : decode cX0_howMany 14 = .ok (.ifCond .eq 6, 3) := by decide +kernel
theorem dX0_howMany_17 : decode cX0_howMany 17 = .ok (.iinc 1 1, 3) := by decide +kernel
theorem dX0_howMany_20 : decode cX0_howMany 20 = .ok (.iinc 2 1, 3) := by decide +kernel
theorem dX0_howMany_23 : decode cX0_howMany 23 = .ok (.goto (-19), 3) := by decide +kernel
theorem dX0_howMany_26 : decode cX0_howMany 26 = .ok (.iload_n 1, 1) := by decide +kernel
theorem dX0_howMany_27 : decode cX0_howMany 27 = .ok (.ireturn, 1) := by decide +kernel
theorem dX0_placesWith_0 : decode cX0_placesWith 0 = .ok (.iconst 0, 1) := by decide +kernel
theorem dX0_placesWith_1 : decode cX0_placesWith 1 = .ok (.istore_n 2, 1) := by decide +kernel
theorem dX0_placesWith_2 : decode cX0_placesWith 2 = .ok (.iconst 0, 1) := by decide +kernel
theorem dX0_placesWith_3 : decode cX0_placesWith 3 = .ok (.istore_n 3, 1) := by decide +kernel
theorem dX0_placesWith_4 : decode cX0_placesWith 4 = .ok (.iload_n 3, 1) := by decide +kernel
theorem dX0_placesWith_5 : decode cX0_placesWith 5 = .ok (.iconst 4, 1) := by decide +kernel
theorem dX0_placesWith_6 : decode cX0_placesWith 6 = .ok (.if_icmp .ge 24, 3) := by decide +kernel
theorem dX0_placesWith_9 : decode cX0_placesWith 9 = .ok (.iload_n 2, 1) := by decide +kernel
theorem dX0_placesWith_10 : decode cX0_placesWith 10 = .ok (.aload_n 0, 1) := by decide +kernel
theorem dX0_placesWith_11 : decode cX0_placesWith 11 = .ok (.getfield 9, 3) := by decide +kernel
theorem dX0_placesWith_14 : decode cX0_placesWith 14 = .ok (.iload_n 3, 1) := by decide +kernel
theorem dX0_placesWith_15 : decode cX0_placesWith 15 = .ok (.iaload, 1) := by decide +kernel
theorem dX0_placesWith_16 : decode cX0_placesWith 16 = .ok (.iload_n 1, 1) := by decide +kernel
theorem dX0_placesWith_17 : decode cX0_placesWith 17 = .ok (.ishr, 1) := by decide +kernel
theorem dX0_placesWith_18 : decode cX0_placesWith 18 = .ok (.iconst 1, 1) := by decide +kernel
theorem dX0_placesWith_19 : decode cX0_placesWith 19 = .ok (.iand, 1) := by decide +kernel
theorem dX0_placesWith_20 : decode cX0_placesWith 20 = .ok (.iload_n 3, 1) := by decide +kernel
theorem dX0_placesWith_21 : decode cX0_placesWith 21 = .ok (.ishl, 1) := by decide +kernel
theorem dX0_placesWith_22 : decode cX0_placesWith 22 = .ok (.ior, 1) := by decide +kernel
theorem dX0_placesWith_23 : decode cX0_placesWith 23 = .ok (.istore_n 2, 1) := by decide +kernel
theorem dX0_placesWith_24 : decode cX0_placesWith 24 = .ok (.iinc 3 1, 3) := by decide +kernel
theorem dX0_placesWith_27 : decode cX0_placesWith 27 = .ok (.goto (-23), 3) := by decide +kernel
theorem dX0_placesWith_30 : decode cX0_placesWith 30 = .ok (.iload_n 2, 1) := by decide +kernel
theorem dX0_placesWith_31 : decode cX0_placesWith 31 = .ok (.ireturn, 1) := by decide +kernel
theorem dX1_init_0 : decode cX1_init 0 = .ok (.aload_n 0, 1) := by decide +kernel
theorem dX1_init_1 : decode cX1_init 1 = .ok (.invokespecial 3, 3) := by decide +kernel
theorem dX1_init_4 : decode cX1_init 4 = .ok (.return_, 1) := by decide +kernel
set_option maxRecDepth 20000 in
theorem ggX1_run_J6_bitCount_0f7a4 : GoodIn wsX1_run wsJ6_bitCount_0f7a4 := goodIn_r _ [10, 11, 12, 13] (by decide +kernel) (by decide +kernel)
set_option maxRecDepth 20000 in
theorem gX1_run_J6_bitCount_0f7a4 : GoodIn wsX1_run (va_wsS RX1 27 yJ6_bitCount_0f7a4 wsJ6_bitCount_0f7a4) := goodIn_app (goodIn_of _ (by decide +kernel)) ggX1_run_J6_bitCount_0f7a4
set_option maxRecDepth 20000 in
theorem ggX1_run_X1_sendOn : GoodIn wsX1_run wsX1_sendOn := goodIn_r _ [18, 5, 1, 2, 3, 19, 20, 21, 22, 23, 24, 25, 26, 27, 28, 29, 30, 31, 32, 33, 34, 35, 36, 37, 38, 39, 40, 41, 42, 43, 44, 45, 46, 47, 48, 49] (by decide +kernel) (by decide +kernel)
set_option maxRecDepth 20000 in
theorem gX1_run_X1_sendOn : GoodIn wsX1_run (wsV RX1 36 RX1 yX1_sendOn wsX1_sendOn) := goodIn_app (goodIn_of _ (by decide +kernel)) ggX1_run_X1_sendOn
theorem dX1_run_0 : decode cX1_run 0 = .ok (.aload_n 0, 1) := by decide +kernel
theorem dX1_run_1 : decode cX1_run 1 = .ok (.iconst 0, 1) := by decide +kernel
theorem dX1_run_2 : decode cX1_run 2 = .ok (.putfield 9, 3) := by decide +kernel
theorem dX1_run_5 : decode cX1_run 5 = .ok (.aload_n 0, 1) := by decide +kernel
theorem dX1_run_6 : decode cX1_run 6 = .ok (.iconst 0, 1) := by decide +kernel
theorem dX1_run_7 : decode cX1_run 7 = .ok (.putfield 15, 3) := by decide +kernel
theorem dX1_run_10 : decode cX1_run 10 = .ok (.aload_n 0, 1) := by decide +kernel
theorem dX1_run_11 : decode cX1_run 11 = .ok (.iconst 0, 1) := by decide +kernel
theorem dX1_run_12 : decode cX1_run 12 = .ok (.putfield 18, 3) := by decide +kernel
theorem dX1_run_15 : decode cX1_run 15 = .ok (.aload_n 0, 1) := by decide +kernel
theorem dX1_run_16 : decode cX1_run 16 = .ok (.iconst 0, 1) := by decide +kernel
theorem dX1_run_17 : decode cX1_run 17 = .ok (.putfield 21, 3) := by decide +kernel
theorem dX1_run_20 : decode cX1_run 20 = .ok (.aload_n 0, 1) := by decide +kernel
theorem dX1_run_21 : decode cX1_run 21 = .ok (.iconst 1, 1) := by decide +kernel
theorem dX1_run_22 : decode cX1_run 22 = .ok (.iload_n 2, 1) := by decide +kernel
theorem dX1_run_23 : decode cX1_run 23 = .ok (.ishl, 1) := by decide +kernel
theorem dX1_run_24 : decode cX1_run 24 = .ok (.putfield 24, 3) := by decide +kernel
theorem dX1_run_27 : decode cX1_run 27 = .ok (.aload_n 0, 1) := by decide +kernel
theorem dX1_run_28 : decode cX1_run 28 = .ok (.iload 4, 2) := by decide +kernel
theorem dX1_run_30 : decode cX1_run 30 = .ok (.iload_n 3, 1) := by decide +kernel
theorem dX1_run_31 : decode cX1_run 31 = .ok (.iconst (-1), 1) := by decide +kernel
theorem dX1_run_32 : decode cX1_run 32 = .ok (.ixor, 1) := by decide +kernel
theorem dX1_run_33 : decode cX1_run 33 = .ok (.iand, 1) := by decide +kernel
theorem dX1_run_34 : decode cX1_run 34 = .ok (.invokestatic 27, 3) := by decide +kernel
theorem dX1_run_37 : decode cX1_run 37 = .ok (.putfield 33, 3) := by decide +kernel
theorem dX1_run_40 : decode cX1_run 40 = .ok (.aload_n 0, 1) := by decide +kernel
theorem dX1_run_41 : decode cX1_run 41 = .ok (.getfield 24, 3) := by decide +kernel
theorem dX1_run_44 : decode cX1_run 44 = .ok (.istore 5, 2) := by decide +kernel
theorem dX1_run_46 : decode cX1_run 46 = .ok (.iconst 0, 1) := by decide +kernel
theorem dX1_run_47 : decode cX1_run 47 = .ok (.istore 6, 2) := by decide +kernel
theorem dX1_run_49 : decode cX1_run 49 = .ok (.iload 6, 2) := by decide +kernel
theorem dX1_run_51 : decode cX1_run 51 = .ok (.bipush 6, 2) := by decide +kernel
theorem dX1_run_53 : decode cX1_run 53 = .ok (.if_icmp .ge 36, 3) := by decide +kernel
theorem dX1_run_56 : decode cX1_run 56 = .ok (.iload 5, 2) := by decide +kernel
theorem dX1_run_58 : decode cX1_run 58 = .ok (.ifCond .eq 31, 3) := by decide +kernel
theorem dX1_run_61 : decode cX1_run 61 = .ok (.aload_n 0, 1) := by decide +kernel
theorem dX1_run_62 : decode cX1_run 62 = .ok (.aload_n 1, 1) := by decide +kernel
theorem dX1_run_63 : decode cX1_run 63 = .ok (.iload 5, 2) := by decide +kernel
theorem dX1_run_65 : decode cX1_run 65 = .ok (.iload_n 3, 1) := by decide +kernel
theorem dX1_run_66 : decode cX1_run 66 = .ok (.iload 4, 2) := by decide +kernel
theorem dX1_run_68 : decode cX1_run 68 = .ok (.invokevirtual 36, 3) := by decide +kernel
theorem dX1_run_71 : decode cX1_run 71 = .ok (.istore 5, 2) := by decide +kernel
theorem dX1_run_73 : decode cX1_run 73 = .ok (.aload_n 0, 1) := by decide +kernel
theorem dX1_run_74 : decode cX1_run 74 = .ok (.dup, 1) := by decide +kernel
theorem dX1_run_75 : decode cX1_run 75 = .ok (.getfield 21, 3) := by decide +kernel
theorem dX1_run_78 : decode cX1_run 78 = .ok (.iconst 1, 1) := by decide +kernel
theorem dX1_run_79 : decode cX1_run 79 = .ok (.iadd, 1) := by decide +kernel
theorem dX1_run_80 : decode cX1_run 80 = .ok (.putfield 21, 3) := by decide +kernel
theorem dX1_run_83 : decode cX1_run 83 = .ok (.iinc 6 1, 3) := by decide +kernel
theorem dX1_run_86 : decode cX1_run 86 = .ok (.goto (-37), 3) := by decide +kernel
theorem dX1_run_89 : decode cX1_run 89 = .ok (.return_, 1) := by decide +kernel
set_option maxRecDepth 20000 in
theorem ggX1_sendOn_X2_linkCount : GoodIn wsX1_sendOn wsX2_linkCount := goodIn_r _ [9, 10, 28, 29, 30, 31, 32, 33, 34, 35] (by decide +kernel) (by decide +kernel)
set_option maxRecDepth 20000 in
theorem gX1_sendOn_X2_linkCount : GoodIn wsX1_sendOn (wsV RX1 40 RX2 yX2_linkCount wsX2_linkCount) := goodIn_app (goodIn_of _ (by decide +kernel)) ggX1_sendOn_X2_linkCount
set_option maxRecDepth 20000 in
theorem ggX1_sendOn_X2_startOf : GoodIn wsX1_sendOn wsX2_startOf := goodIn_r _ [14, 15, 28, 29, 30, 31, 32, 33, 34, 35] (by decide +kernel) (by decide +kernel)
set_option maxRecDepth 20000 in
theorem gX1_sendOn_X2_startOf : GoodIn wsX1_sendOn (wsV RX1 46 RX2 yX2_startOf wsX2_startOf) := goodIn_app (goodIn_of _ (by decide +kernel)) ggX1_sendOn_X2_startOf
set_option maxRecDepth 20000 in
theorem ggX1_sendOn_X2_endOf : GoodIn wsX1_sendOn wsX2_endOf := goodIn_r _ [19, 20, 28, 29, 30, 31, 32, 33, 34, 35] (by decide +kernel) (by decide +kernel)
set_option maxRecDepth 20000 in
theorem gX1_sendOn_X2_endOf : GoodIn wsX1_sendOn (wsV RX1 49 RX2 yX2_endOf wsX2_endOf) := goodIn_app (goodIn_of _ (by decide +kernel)) ggX1_sendOn_X2_endOf
theorem dX1_sendOn_0 : decode cX1_sendOn 0 = .ok (.aload_n 0, 1) := by decide +kernel
theorem dX1_sendOn_1 : decode cX1_sendOn 1 = .ok (.getfield 24, 3) := by decide +kernel
theorem dX1_sendOn_4 : decode cX1_sendOn 4 = .ok (.istore 5, 2) := by decide +kernel
theorem dX1_sendOn_6 : decode cX1_sendOn 6 = .ok (.iconst 0, 1) := by decide +kernel
theorem dX1_sendOn_7 : decode cX1_sendOn 7 = .ok (.istore 6, 2) := by decide +kernel
theorem dX1_sendOn_9 : decode cX1_sendOn 9 = .ok (.iload 6, 2) := by decide +kernel
theorem dX1_sendOn_11 : decode cX1_sendOn 11 = .ok (.aload_n 1, 1) := by decide +kernel
theorem dX1_sendOn_12 : decode cX1_sendOn 12 = .ok (.invokevirtual 40, 3) := by decide +kernel
theorem dX1_sendOn_15 : decode cX1_sendOn 15 = .ok (.if_icmp .ge 116, 3) := by decide +kernel
theorem dX1_sendOn_18 : decode cX1_sendOn 18 = .ok (.iload 4, 2) := by decide +kernel
theorem dX1_sendOn_20 : decode cX1_sendOn 20 = .ok (.iload 6, 2) := by decide +kernel
theorem dX1_sendOn_22 : decode cX1_sendOn 22 = .ok (.ishr, 1) := by decide +kernel
theorem dX1_sendOn_23 : decode cX1_sendOn 23 = .ok (.iconst 1, 1) := by decide +kernel
theorem dX1_sendOn_24 : decode cX1_sendOn 24 = .ok (.iand, 1) := by decide +kernel
theorem dX1_sendOn_25 : decode cX1_sendOn 25 = .ok (.ifCond .eq 20, 3) := by decide +kernel
theorem dX1_sendOn_28 : decode cX1_sendOn 28 = .ok (.iload_n 2, 1) := by decide +kernel
theorem dX1_sendOn_29 : decode cX1_sendOn 29 = .ok (.aload_n 1, 1) := by decide +kernel
theorem dX1_sendOn_30 : decode cX1_sendOn 30 = .ok (.iload 6, 2) := by decide +kernel
theorem dX1_sendOn_32 : decode cX1_sendOn 32 = .ok (.invokevirtual 46, 3) := by decide +kernel
theorem dX1_sendOn_35 : decode cX1_sendOn 35 = .ok (.ishr, 1) := by decide +kernel
theorem dX1_sendOn_36 : decode cX1_sendOn 36 = .ok (.iconst 1, 1) := by decide +kernel
theorem dX1_sendOn_37 : decode cX1_sendOn 37 = .ok (.iand, 1) := by decide +kernel
theorem dX1_sendOn_38 : decode cX1_sendOn 38 = .ok (.ifCond .eq 7, 3) := by decide +kernel
theorem dX1_sendOn_41 : decode cX1_sendOn 41 = .ok (.iconst 1, 1) := by decide +kernel
theorem dX1_sendOn_42 : decode cX1_sendOn 42 = .ok (.goto 4, 3) := by decide +kernel
theorem dX1_sendOn_45 : decode cX1_sendOn 45 = .ok (.iconst 0, 1) := by decide +kernel
theorem dX1_sendOn_46 : decode cX1_sendOn 46 = .ok (.istore 7, 2) := by decide +kernel
theorem dX1_sendOn_48 : decode cX1_sendOn 48 = .ok (.iload 7, 2) := by decide +kernel
theorem dX1_sendOn_50 : decode cX1_sendOn 50 = .ok (.ifCond .eq 75, 3) := by decide +kernel
theorem dX1_sendOn_53 : decode cX1_sendOn 53 = .ok (.aload_n 0, 1) := by decide +kernel
theorem dX1_sendOn_54 : decode cX1_sendOn 54 = .ok (.dup, 1) := by decide +kernel
theorem dX1_sendOn_55 : decode cX1_sendOn 55 = .ok (.getfield 9, 3) := by decide +kernel
theorem dX1_sendOn_58 : decode cX1_sendOn 58 = .ok (.iconst 1, 1) := by decide +kernel
theorem dX1_sendOn_59 : decode cX1_sendOn 59 = .ok (.iadd, 1) := by decide +kernel
theorem dX1_sendOn_60 : decode cX1_sendOn 60 = .ok (.putfield 9, 3) := by decide +kernel
theorem dX1_sendOn_63 : decode cX1_sendOn 63 = .ok (.aload_n 0, 1) := by decide +kernel
theorem dX1_sendOn_64 : decode cX1_sendOn 64 = .ok (.dup, 1) := by decide +kernel
theorem dX1_sendOn_65 : decode cX1_sendOn 65 = .ok (.getfield 15, 3) := by decide +kernel
theorem dX1_sendOn_68 : decode cX1_sendOn 68 = .ok (.iconst 1, 1) := by decide +kernel
theorem dX1_sendOn_69 : decode cX1_sendOn 69 = .ok (.iload_n 3, 1) := by decide +kernel
theorem dX1_sendOn_70 : decode cX1_sendOn 70 = .ok (.iload 6, 2) := by decide +kernel
theorem dX1_sendOn_72 : decode cX1_sendOn 72 = .ok (.ishr, 1) := by decide +kernel
theorem dX1_sendOn_73 : decode cX1_sendOn 73 = .ok (.iconst 1, 1) := by decide +kernel
theorem dX1_sendOn_74 : decode cX1_sendOn 74 = .ok (.iand, 1) := by decide +kernel
theorem dX1_sendOn_75 : decode cX1_sendOn 75 = .ok (.isub, 1) := by decide +kernel
theorem dX1_sendOn_76 : decode cX1_sendOn 76 = .ok (.iadd, 1) := by decide +kernel
theorem dX1_sendOn_77 : decode cX1_sendOn 77 = .ok (.putfield 15, 3) := by decide +kernel
theorem dX1_sendOn_80 : decode cX1_sendOn 80 = .ok (.iconst 1, 1) := by decide +kernel
theorem dX1_sendOn_81 : decode cX1_sendOn 81 = .ok (.aload_n 1, 1) := by decide +kernel
theorem dX1_sendOn_82 : decode cX1_sendOn 82 = .ok (.iload 6, 2) := by decide +kernel
theorem dX1_sendOn_84 : decode cX1_sendOn 84 = .ok (.invokevirtual 49, 3) := by decide +kernel
theorem dX1_sendOn_87 : decode cX1_sendOn 87 = .ok (.ishl, 1) := by decide +kernel
theorem dX1_sendOn_88 : decode cX1_sendOn 88 = .ok (.istore 8, 2) := by decide +kernel
theorem dX1_sendOn_90 : decode cX1_sendOn 90 = .ok (.aload_n 0, 1) := by decide +kernel
theorem dX1_sendOn_91 : decode cX1_sendOn 91 = .ok (.dup, 1) := by decide +kernel
theorem dX1_sendOn_92 : decode cX1_sendOn 92 = .ok (.getfield 18, 3) := by decide +kernel
theorem dX1_sendOn_95 : decode cX1_sendOn 95 = .ok (.aload_n 0, 1) := by decide +kernel
theorem dX1_sendOn_96 : decode cX1_sendOn 96 = .ok (.getfield 24, 3) := by decide +kernel
theorem dX1_sendOn_99 : decode cX1_sendOn 99 = .ok (.iload 8, 2) := by decide +kernel
theorem dX1_sendOn_101 : decode cX1_sendOn 101 = .ok (.iand, 1) := by decide +kernel
theorem dX1_sendOn_102 : decode cX1_sendOn 102 = .ok (.ifCond .eq 7, 3) := by decide +kernel
theorem dX1_sendOn_105 : decode cX1_sendOn 105 = .ok (.iconst 1, 1) := by decide +kernel
theorem dX1_sendOn_106 : decode cX1_sendOn 106 = .ok (.goto 4, 3) := by decide +kernel
theorem dX1_sendOn_109 : decode cX1_sendOn 109 = .ok (.iconst 0, 1) := by decide +kernel
theorem dX1_sendOn_110 : decode cX1_sendOn 110 = .ok (.iadd, 1) := by decide +kernel
theorem dX1_sendOn_111 : decode cX1_sendOn 111 = .ok (.putfield 18, 3) := by decide +kernel
theorem dX1_sendOn_114 : decode cX1_sendOn 114 = .ok (.aload_n 0, 1) := by decide +kernel
theorem dX1_sendOn_115 : decode cX1_sendOn 115 = .ok (.dup, 1) := by decide +kernel
theorem dX1_sendOn_116 : decode cX1_sendOn 116 = .ok (.getfield 24, 3) := by decide +kernel
theorem dX1_sendOn_119 : decode cX1_sendOn 119 = .ok (.iload 8, 2) := by decide +kernel
theorem dX1_sendOn_121 : decode cX1_sendOn 121 = .ok (.ior, 1) := by decide +kernel
theorem dX1_sendOn_122 : decode cX1_sendOn 122 = .ok (.putfield 24, 3) := by decide +kernel
theorem dX1_sendOn_125 : decode cX1_sendOn 125 = .ok (.iinc 6 1, 3) := by decide +kernel
theorem dX1_sendOn_128 : decode cX1_sendOn 128 = .ok (.goto (-119), 3) := by decide +kernel
theorem dX1_sendOn_131 : decode cX1_sendOn 131 = .ok (.aload_n 0, 1) := by decide +kernel
theorem dX1_sendOn_132 : decode cX1_sendOn 132 = .ok (.getfield 24, 3) := by decide +kernel
theorem dX1_sendOn_135 : decode cX1_sendOn 135 = .ok (.iload 5, 2) := by decide +kernel
theorem dX1_sendOn_137 : decode cX1_sendOn 137 = .ok (.iconst (-1), 1) := by decide +kernel
theorem dX1_sendOn_138 : decode cX1_sendOn 138 = .ok (.ixor, 1) := by decide +kernel
theorem dX1_sendOn_139 : decode cX1_sendOn 139 = .ok (.iand, 1) := by decide +kernel
theorem dX1_sendOn_140 : decode cX1_sendOn 140 = .ok (.ireturn, 1) := by decide +kernel
theorem dX2_init_0 : decode cX2_init 0 = .ok (.aload_n 0, 1) := by decide +kernel
theorem dX2_init_1 : decode cX2_init 1 = .ok (.invokespecial 3, 3) := by decide +kernel
theorem dX2_init_4 : decode cX2_init 4 = .ok (.aload_n 0, 1) := by decide +kernel
theorem dX2_init_5 : decode cX2_init 5 = .ok (.bipush 16, 2) := by decide +kernel
theorem dX2_init_7 : decode cX2_init 7 = .ok (.newarray .int, 2) := by decide +kernel
theorem dX2_init_9 : decode cX2_init 9 = .ok (.putfield 9, 3) := by decide +kernel
theorem dX2_init_12 : decode cX2_init 12 = .ok (.aload_n 0, 1) := by decide +kernel
theorem dX2_init_13 : decode cX2_init 13 = .ok (.bipush 16, 2) := by decide +kernel
theorem dX2_init_15 : decode cX2_init 15 = .ok (.newarray .int, 2) := by decide +kernel
theorem dX2_init_17 : decode cX2_init 17 = .ok (.putfield 15, 3) := by decide +kernel
theorem dX2_init_20 : decode cX2_init 20 = .ok (.aload_n 0, 1) := by decide +kernel
theorem dX2_init_21 : decode cX2_init 21 = .ok (.bipush 36, 2) := by decide +kernel
theorem dX2_init_23 : decode cX2_init 23 = .ok (.newarray .int, 2) := by decide +kernel
theorem dX2_init_25 : decode cX2_init 25 = .ok (.putfield 18, 3) := by decide +kernel
theorem dX2_init_28 : decode cX2_init 28 = .ok (.aload_n 0, 1) := by decide +kernel
theorem dX2_init_29 : decode cX2_init 29 = .ok (.bipush 36, 2) := by decide +kernel
theorem dX2_init_31 : decode cX2_init 31 = .ok (.newarray .int, 2) := by decide +kernel
theorem dX2_init_33 : decode cX2_init 33 = .ok (.putfield 21, 3) := by decide +kernel
theorem dX2_init_36 : decode cX2_init 36 = .ok (.aload_n 0, 1) := by decide +kernel
theorem dX2_init_37 : decode cX2_init 37 = .ok (.bipush 36, 2) := by decide +kernel
theorem dX2_init_39 : decode cX2_init 39 = .ok (.newarray .int, 2) := by decide +kernel
theorem dX2_init_41 : decode cX2_init 41 = .ok (.putfield 24, 3) := by decide +kernel
theorem dX2_init_44 : decode cX2_init 44 = .ok (.aload_n 0, 1) := by decide +kernel
theorem dX2_init_45 : decode cX2_init 45 = .ok (.bipush 36, 2) := by decide +kernel
theorem dX2_init_47 : decode cX2_init 47 = .ok (.newarray .int, 2) := by decide +kernel
theorem dX2_init_49 : decode cX2_init 49 = .ok (.putfield 27, 3) := by decide +kernel
theorem dX2_init_52 : decode cX2_init 52 = .ok (.return_, 1) := by decide +kernel
theorem dX2_nodeCount_0 : decode cX2_nodeCount 0 = .ok (.aload_n 0, 1) := by decide +kernel
theorem dX2_nodeCount_1 : decode cX2_nodeCount 1 = .ok (.getfield 30, 3) := by decide +kernel
theorem dX2_nodeCount_4 : decode cX2_nodeCount 4 = .ok (.ireturn, 1) := by decide +kernel
theorem dX2_linkCount_0 : decode cX2_linkCount 0 = .ok (.aload_n 0, 1) := by decide +kernel
theorem dX2_linkCount_1 : decode cX2_linkCount 1 = .ok (.getfield 34, 3) := by decide +kernel
theorem dX2_linkCount_4 : decode cX2_linkCount 4 = .ok (.ireturn, 1) := by decide +kernel
theorem dX2_hasNode_0 : decode cX2_hasNode 0 = .ok (.iload_n 1, 1) := by decide +kernel
theorem dX2_hasNode_1 : decode cX2_hasNode 1 = .ok (.ifCond .lt 15, 3) := by decide +kernel
theorem dX2_hasNode_4 : decode cX2_hasNode 4 = .ok (.iload_n 1, 1) := by decide +kernel
theorem dX2_hasNode_5 : decode cX2_hasNode 5 = .ok (.aload_n 0, 1) := by decide +kernel
theorem dX2_hasNode_6 : decode cX2_hasNode 6 = .ok (.getfield 30, 3) := by decide +kernel
theorem dX2_hasNode_9 : decode cX2_hasNode 9 = .ok (.if_icmp .ge 7, 3) := by decide +kernel
theorem dX2_hasNode_12 : decode cX2_hasNode 12 = .ok (.iconst 1, 1) := by decide +kernel
theorem dX2_hasNode_13 : decode cX2_hasNode 13 = .ok (.goto 4, 3) := by decide +kernel
theorem dX2_hasNode_16 : decode cX2_hasNode 16 = .ok (.iconst 0, 1) := by decide +kernel
theorem dX2_hasNode_17 : decode cX2_hasNode 17 = .ok (.ireturn, 1) := by decide +kernel
theorem dX2_hasLink_0 : decode cX2_hasLink 0 = .ok (.iload_n 1, 1) := by decide +kernel
theorem dX2_hasLink_1 : decode cX2_hasLink 1 = .ok (.ifCond .lt 15, 3) := by decide +kernel
theorem dX2_hasLink_4 : decode cX2_hasLink 4 = .ok (.iload_n 1, 1) := by decide +kernel
theorem dX2_hasLink_5 : decode cX2_hasLink 5 = .ok (.aload_n 0, 1) := by decide +kernel
theorem dX2_hasLink_6 : decode cX2_hasLink 6 = .ok (.getfield 34, 3) := by decide +kernel
theorem dX2_hasLink_9 : decode cX2_hasLink 9 = .ok (.if_icmp .ge 7, 3) := by decide +kernel
theorem dX2_hasLink_12 : decode cX2_hasLink 12 = .ok (.iconst 1, 1) := by decide +kernel
theorem dX2_hasLink_13 : decode cX2_hasLink 13 = .ok (.goto 4, 3) := by decide +kernel
theorem dX2_hasLink_16 : decode cX2_hasLink 16 = .ok (.iconst 0, 1) := by decide +kernel
theorem dX2_hasLink_17 : decode cX2_hasLink 17 = .ok (.ireturn, 1) := by decide +kernel
theorem dX2_allNodes_0 : decode cX2_allNodes 0 = .ok (.iconst 1, 1) := by decide +kernel
theorem dX2_allNodes_1 : decode cX2_allNodes 1 = .ok (.aload_n 0, 1) := by decide +kernel
theorem dX2_allNodes_2 : decode cX2_allNodes 2 = .ok (.getfield 30, 3) := by decide +kernel
theorem dX2_allNodes_5 : decode cX2_allNodes 5 = .ok (.ishl, 1) := by decide +kernel
theorem dX2_allNodes_6 : decode cX2_allNodes 6 = .ok (.iconst 1, 1) := by decide +kernel
theorem dX2_allNodes_7 : decode cX2_allNodes 7 = .ok (.isub, 1) := by decide +kernel
theorem dX2_allNodes_8 : decode cX2_allNodes 8 = .ok (.ireturn, 1) := by decide +kernel
set_option maxRecDepth 20000 in
theorem ggX2_hasNodes_X2_allNodes : GoodIn wsX2_hasNodes wsX2_allNodes := goodIn_r _ [5, 6, 7, 8, 9, 10, 11, 12, 13, 14] (by decide +kernel) (by decide +kernel)
set_option maxRecDepth 20000 in
theorem gX2_hasNodes_X2_allNodes : GoodIn wsX2_hasNodes (wsV RX2 37 RX2 yX2_allNodes wsX2_allNodes) := goodIn_app (goodIn_of _ (by decide +kernel)) ggX2_hasNodes_X2_allNodes
theorem dX2_hasNodes_0 : decode cX2_hasNodes 0 = .ok (.iload_n 1, 1) := by decide +kernel
theorem dX2_hasNodes_1 : decode cX2_hasNodes 1 = .ok (.aload_n 0, 1) := by decide +kernel
theorem dX2_hasNodes_2 : decode cX2_hasNodes 2 = .ok (.invokevirtual 37, 3) := by decide +kernel
theorem dX2_hasNodes_5 : decode cX2_hasNodes 5 = .ok (.iconst (-1), 1) := by decide +kernel
theorem dX2_hasNodes_6 : decode cX2_hasNodes 6 = .ok (.ixor, 1) := by decide +kernel
theorem dX2_hasNodes_7 : decode cX2_hasNodes 7 = .ok (.iand, 1) := by decide +kernel
theorem dX2_hasNodes_8 : decode cX2_hasNodes 8 = .ok (.ifCond .ne 7, 3) := by decide +kernel
theorem dX2_hasNodes_11 : decode cX2_hasNodes 11 = .ok (.iconst 1, 1) := by decide +kernel
theorem dX2_hasNodes_12 : decode cX2_hasNodes 12 = .ok (.goto 4, 3) := by decide +kernel
theorem dX2_hasNodes_15 : decode cX2_hasNodes 15 = .ok (.iconst 0, 1) := by decide +kernel
theorem dX2_hasNodes_16 : decode cX2_hasNodes 16 = .ok (.ireturn, 1) := by decide +kernel
theorem dX2_startOf_0 : decode cX2_startOf 0 = .ok (.iload_n 1, 1) := by decide +kernel
theorem dX2_startOf_1 : decode cX2_startOf 1 = .ok (.ifCond .lt 18, 3) := by decide +kernel
theorem dX2_startOf_4 : decode cX2_startOf 4 = .ok (.iload_n 1, 1) := by decide +kernel
theorem dX2_startOf_5 : decode cX2_startOf 5 = .ok (.bipush 16, 2) := by decide +kernel
theorem dX2_startOf_7 : decode cX2_startOf 7 = .ok (.if_icmp .ge 12, 3) := by decide +kernel
theorem dX2_startOf_10 : decode cX2_startOf 10 = .ok (.aload_n 0, 1) := by decide +kernel
theorem dX2_startOf_11 : decode cX2_startOf 11 = .ok (.getfield 9, 3) := by decide +kernel
theorem dX2_startOf_14 : decode cX2_startOf 14 = .ok (.iload_n 1, 1) := by decide +kernel
theorem dX2_startOf_15 : decode cX2_startOf 15 = .ok (.iaload, 1) := by decide +kernel
theorem dX2_startOf_16 : decode cX2_startOf 16 = .ok (.goto 4, 3) := by decide +kernel
theorem dX2_startOf_19 : decode cX2_startOf 19 = .ok (.iconst (-1), 1) := by decide +kernel
theorem dX2_startOf_20 : decode cX2_startOf 20 = .ok (.ireturn, 1) := by decide +kernel
theorem dX2_endOf_0 : decode cX2_endOf 0 = .ok (.iload_n 1, 1) := by decide +kernel
theorem dX2_endOf_1 : decode cX2_endOf 1 = .ok (.ifCond .lt 18, 3) := by decide +kernel
theorem dX2_endOf_4 : decode cX2_endOf 4 = .ok (.iload_n 1, 1) := by decide +kernel
theorem dX2_endOf_5 : decode cX2_endOf 5 = .ok (.bipush 16, 2) := by decide +kernel
theorem dX2_endOf_7 : decode cX2_endOf 7 = .ok (.if_icmp .ge 12, 3) := by decide +kernel
theorem dX2_endOf_10 : decode cX2_endOf 10 = .ok (.aload_n 0, 1) := by decide +kernel
theorem dX2_endOf_11 : decode cX2_endOf 11 = .ok (.getfield 15, 3) := by decide +kernel
theorem dX2_endOf_14 : decode cX2_endOf 14 = .ok (.iload_n 1, 1) := by decide +kernel
theorem dX2_endOf_15 : decode cX2_endOf 15 = .ok (.iaload, 1) := by decide +kernel
theorem dX2_endOf_16 : decode cX2_endOf 16 = .ok (.goto 4, 3) := by decide +kernel
theorem dX2_endOf_19 : decode cX2_endOf 19 = .ok (.iconst (-1), 1) := by decide +kernel
theorem dX2_endOf_20 : decode cX2_endOf 20 = .ok (.ireturn, 1) := by decide +kernel
theorem dX2_at_0 : decode cX2_at 0 = .ok (.bipush 6, 2) := by decide +kernel
theorem dX2_at_2 : decode cX2_at 2 = .ok (.iload_n 0, 1) := by decide +kernel
theorem dX2_at_3 : decode cX2_at 3 = .ok (.imul, 1) := by decide +kernel
theorem dX2_at_4 : decode cX2_at 4 = .ok (.iload_n 1, 1) := by decide +kernel
theorem dX2_at_5 : decode cX2_at 5 = .ok (.iadd, 1) := by decide +kernel
theorem dX2_at_6 : decode cX2_at 6 = .ok (.ireturn, 1) := by decide +kernel
set_option maxRecDepth 20000 in
theorem ggX2_read_X2_forget : GoodIn wsX2_read wsX2_forget := goodIn_r _ [10, 5, 11, 12, 13, 14, 15, 16, 17, 9, 18, 61, 62, 63, 64, 65, 66, 67, 68] (by decide +kernel) (by decide +kernel)
set_option maxRecDepth 20000 in
theorem gX2_read_X2_forget : GoodIn wsX2_read (wsV RX2 41 RX2 yX2_forget wsX2_forget) := goodIn_app (goodIn_of _ (by decide +kernel)) ggX2_read_X2_forget
set_option maxRecDepth 20000 in
theorem ggX2_read_X4_digitAt : GoodIn wsX2_read wsX4_digitAt := goodIn_r _ [23, 24, 25, 26, 22, 27, 28, 29, 69, 70] (by decide +kernel) (by decide +kernel)
set_option maxRecDepth 20000 in
theorem gX2_read_X4_digitAt : GoodIn wsX2_read (wsV RX2 44 RX4 yX4_digitAt wsX4_digitAt) := goodIn_app (goodIn_of _ (by decide +kernel)) ggX2_read_X4_digitAt
set_option maxRecDepth 20000 in
theorem ggX2_read_X4_pairCount : GoodIn wsX2_read wsX4_pairCount := goodIn_r _ [33, 28, 69, 70] (by decide +kernel) (by decide +kernel)
set_option maxRecDepth 20000 in
theorem gX2_read_X4_pairCount : GoodIn wsX2_read (wsV RX2 56 RX4 yX4_pairCount wsX4_pairCount) := goodIn_app (goodIn_of _ (by decide +kernel)) ggX2_read_X4_pairCount
set_option maxRecDepth 20000 in
theorem ggX2_read_X4_firstOfPair : GoodIn wsX2_read wsX4_firstOfPair := goodIn_r _ [37, 38, 20, 21, 22, 23, 24, 25, 26, 27, 28, 29, 69, 70] (by decide +kernel) (by decide +kernel)
set_option maxRecDepth 20000 in
theorem gX2_read_X4_firstOfPair : GoodIn wsX2_read (wsV RX2 59 RX4 yX4_firstOfPair wsX4_firstOfPair) := goodIn_app (goodIn_of _ (by decide +kernel)) ggX2_read_X4_firstOfPair
set_option maxRecDepth 20000 in
theorem ggX2_read_X4_secondOfPair : GoodIn wsX2_read wsX4_secondOfPair := goodIn_r _ [42, 38, 20, 21, 22, 23, 24, 25, 26, 27, 28, 29, 69, 70] (by decide +kernel) (by decide +kernel)
set_option maxRecDepth 20000 in
theorem gX2_read_X4_secondOfPair : GoodIn wsX2_read (wsV RX2 62 RX4 yX4_secondOfPair wsX4_secondOfPair) := goodIn_app (goodIn_of _ (by decide +kernel)) ggX2_read_X4_secondOfPair
set_option maxRecDepth 20000 in
theorem ggX2_read_X2_addLink : GoodIn wsX2_read wsX2_addLink := goodIn_r _ [46, 11, 47, 48, 12, 49, 50, 51, 9, 52, 5, 16, 17, 18, 61, 62, 63, 64, 65, 66, 67, 68] (by decide +kernel) (by decide +kernel)
set_option maxRecDepth 20000 in
theorem gX2_read_X2_addLink : GoodIn wsX2_read (wsV RX2 65 RX2 yX2_addLink wsX2_addLink) := goodIn_app (goodIn_of _ (by decide +kernel)) ggX2_read_X2_addLink
set_option maxRecDepth 20000 in
theorem ggX2_read_X2_findWays : GoodIn wsX2_read wsX2_findWays := goodIn_r _ [56, 5, 13, 16, 17, 9, 18, 57, 58, 59, 60, 12, 14, 15, 61, 62, 63, 64, 65, 66, 67, 68] (by decide +kernel) (by decide +kernel)
set_option maxRecDepth 20000 in
theorem gX2_read_X2_findWays : GoodIn wsX2_read (wsV RX2 69 RX2 yX2_findWays wsX2_findWays) := goodIn_app (goodIn_of _ (by decide +kernel)) ggX2_read_X2_findWays
theorem dX2_read_0 : decode cX2_read 0 = .ok (.aload_n 0, 1) := by decide +kernel
theorem dX2_read_1 : decode cX2_read 1 = .ok (.invokevirtual 41, 3) := by decide +kernel
theorem dX2_read_4 : decode cX2_read 4 = .ok (.aload_n 0, 1) := by decide +kernel
theorem dX2_read_5 : decode cX2_read 5 = .ok (.aload_n 1, 1) := by decide +kernel
theorem dX2_read_6 : decode cX2_read 6 = .ok (.iconst 0, 1) := by decide +kernel
theorem dX2_read_7 : decode cX2_read 7 = .ok (.invokevirtual 44, 3) := by decide +kernel
theorem dX2_read_10 : decode cX2_read 10 = .ok (.bipush 6, 2) := by decide +kernel
theorem dX2_read_12 : decode cX2_read 12 = .ok (.invokestatic 50, 3) := by decide +kernel
theorem dX2_read_15 : decode cX2_read 15 = .ok (.putfield 30, 3) := by decide +kernel
theorem dX2_read_18 : decode cX2_read 18 = .ok (.iconst 0, 1) := by decide +kernel
theorem dX2_read_19 : decode cX2_read 19 = .ok (.istore_n 2, 1) := by decide +kernel
theorem dX2_read_20 : decode cX2_read 20 = .ok (.iload_n 2, 1) := by decide +kernel
theorem dX2_read_21 : decode cX2_read 21 = .ok (.aload_n 1, 1) := by decide +kernel
theorem dX2_read_22 : decode cX2_read 22 = .ok (.invokevirtual 56, 3) := by decide +kernel
theorem dX2_read_25 : decode cX2_read 25 = .ok (.if_icmp .ge 36, 3) := by decide +kernel
theorem dX2_read_28 : decode cX2_read 28 = .ok (.aload_n 1, 1) := by decide +kernel
theorem dX2_read_29 : decode cX2_read 29 = .ok (.iload_n 2, 1) := by decide +kernel
theorem dX2_read_30 : decode cX2_read 30 = .ok (.invokevirtual 59, 3) := by decide +kernel
theorem dX2_read_33 : decode cX2_read 33 = .ok (.istore_n 3, 1) := by decide +kernel
theorem dX2_read_34 : decode cX2_read 34 = .ok (.aload_n 1, 1) := by decide +kernel
theorem dX2_read_35 : decode cX2_read 35 = .ok (.iload_n 2, 1) := by decide +kernel
theorem dX2_read_36 : decode cX2_read 36 = .ok (.invokevirtual 62, 3) := by decide +kernel
theorem dX2_read_39 : decode cX2_read 39 = .ok (.istore 4, 2) := by decide +kernel
theorem dX2_read_41 : decode cX2_read 41 = .ok (.aload_n 0, 1) := by decide +kernel
theorem dX2_read_42 : decode cX2_read 42 = .ok (.iload_n 3, 1) := by decide +kernel
theorem dX2_read_43 : decode cX2_read 43 = .ok (.iload 4, 2) := by decide +kernel
theorem dX2_read_45 : decode cX2_read 45 = .ok (.invokevirtual 65, 3) := by decide +kernel
theorem dX2_read_48 : decode cX2_read 48 = .ok (.aload_n 0, 1) := by decide +kernel
theorem dX2_read_49 : decode cX2_read 49 = .ok (.iload 4, 2) := by decide +kernel
theorem dX2_read_51 : decode cX2_read 51 = .ok (.iload_n 3, 1) := by decide +kernel
theorem dX2_read_52 : decode cX2_read 52 = .ok (.invokevirtual 65, 3) := by decide +kernel
theorem dX2_read_55 : decode cX2_read 55 = .ok (.iinc 2 1, 3) := by decide +kernel
theorem dX2_read_58 : decode cX2_read 58 = .ok (.goto (-38), 3) := by decide +kernel
theorem dX2_read_61 : decode cX2_read 61 = .ok (.iconst 1, 1) := by decide +kernel
theorem dX2_read_62 : decode cX2_read 62 = .ok (.istore_n 2, 1) := by decide +kernel
theorem dX2_read_63 : decode cX2_read 63 = .ok (.iload_n 2, 1) := by decide +kernel
theorem dX2_read_64 : decode cX2_read 64 = .ok (.aload_n 0, 1) := by decide +kernel
theorem dX2_read_65 : decode cX2_read 65 = .ok (.getfield 30, 3) := by decide +kernel
theorem dX2_read_68 : decode cX2_read 68 = .ok (.if_icmp .ge 14, 3) := by decide +kernel
theorem dX2_read_71 : decode cX2_read 71 = .ok (.aload_n 0, 1) := by decide +kernel
theorem dX2_read_72 : decode cX2_read 72 = .ok (.iload_n 2, 1) := by decide +kernel
theorem dX2_read_73 : decode cX2_read 73 = .ok (.invokevirtual 69, 3) := by decide +kernel
theorem dX2_read_76 : decode cX2_read 76 = .ok (.iinc 2 1, 3) := by decide +kernel
theorem dX2_read_79 : decode cX2_read 79 = .ok (.goto (-16), 3) := by decide +kernel
theorem dX2_read_82 : decode cX2_read 82 = .ok (.return_, 1) := by decide +kernel
set_option maxRecDepth 20000 in
theorem ggX2_forget_X2_at : GoodIn wsX2_forget wsX2_at := goodIn_r _ [10] (by decide +kernel) (by decide +kernel)
set_option maxRecDepth 20000 in
theorem gX2_forget_X2_at : GoodIn wsX2_forget (va_wsS RX2 73 yX2_at wsX2_at) := goodIn_app (goodIn_of _ (by decide +kernel)) ggX2_forget_X2_at
theorem dX2_forget_0 : decode cX2_forget 0 = .ok (.aload_n 0, 1) := by decide +kernel
theorem dX2_forget_1 : decode cX2_forget 1 = .ok (.iconst 0, 1) := by decide +kernel
theorem dX2_forget_2 : decode cX2_forget 2 = .ok (.putfield 30, 3) := by decide +kernel
theorem dX2_forget_5 : decode cX2_forget 5 = .ok (.aload_n 0, 1) := by decide +kernel
theorem dX2_forget_6 : decode cX2_forget 6 = .ok (.iconst 0, 1) := by decide +kernel
theorem dX2_forget_7 : decode cX2_forget 7 = .ok (.putfield 34, 3) := by decide +kernel
theorem dX2_forget_10 : decode cX2_forget 10 = .ok (.iconst 0, 1) := by decide +kernel
theorem dX2_forget_11 : decode cX2_forget 11 = .ok (.istore_n 1, 1) := by decide +kernel
theorem dX2_forget_12 : decode cX2_forget 12 = .ok (.iload_n 1, 1) := by decide +kernel
theorem dX2_forget_13 : decode cX2_forget 13 = .ok (.bipush 6, 2) := by decide +kernel
theorem dX2_forget_15 : decode cX2_forget 15 = .ok (.if_icmp .ge 76, 3) := by decide +kernel
theorem dX2_forget_18 : decode cX2_forget 18 = .ok (.iconst 0, 1) := by decide +kernel
theorem dX2_forget_19 : decode cX2_forget 19 = .ok (.istore_n 2, 1) := by decide +kernel
theorem dX2_forget_20 : decode cX2_forget 20 = .ok (.iload_n 2, 1) := by decide +kernel
theorem dX2_forget_21 : decode cX2_forget 21 = .ok (.bipush 6, 2) := by decide +kernel
theorem dX2_forget_23 : decode cX2_forget 23 = .ok (.if_icmp .ge 62, 3) := by decide +kernel
theorem dX2_forget_26 : decode cX2_forget 26 = .ok (.aload_n 0, 1) := by decide +kernel
theorem dX2_forget_27 : decode cX2_forget 27 = .ok (.getfield 18, 3) := by decide +kernel
theorem dX2_forget_30 : decode cX2_forget 30 = .ok (.iload_n 1, 1) := by decide +kernel
theorem dX2_forget_31 : decode cX2_forget 31 = .ok (.iload_n 2, 1) := by decide +kernel
theorem dX2_forget_32 : decode cX2_forget 32 = .ok (.invokestatic 73, 3) := by decide +kernel
theorem dX2_forget_35 : decode cX2_forget 35 = .ok (.iconst (-1), 1) := by decide +kernel
theorem dX2_forget_36 : decode cX2_forget 36 = .ok (.iastore, 1) := by decide +kernel
theorem dX2_forget_37 : decode cX2_forget 37 = .ok (.aload_n 0, 1) := by decide +kernel
theorem dX2_forget_38 : decode cX2_forget 38 = .ok (.getfield 21, 3) := by decide +kernel
theorem dX2_forget_41 : decode cX2_forget 41 = .ok (.iload_n 1, 1) := by decide +kernel
theorem dX2_forget_42 : decode cX2_forget 42 = .ok (.iload_n 2, 1) := by decide +kernel
theorem dX2_forget_43 : decode cX2_forget 43 = .ok (.invokestatic 73, 3) := by decide +kernel
theorem dX2_forget_46 : decode cX2_forget 46 = .ok (.iload_n 1, 1) := by decide +kernel
theorem dX2_forget_47 : decode cX2_forget 47 = .ok (.iload_n 2, 1) := by decide +kernel
theorem dX2_forget_48 : decode cX2_forget 48 = .ok (.if_icmp .ne 7, 3) := by decide +kernel
theorem dX2_forget_51 : decode cX2_forget 51 = .ok (.iconst 0, 1) := by decide +kernel
theorem dX2_forget_52 : decode cX2_forget 52 = .ok (.goto 4, 3) := by decide +kernel
theorem dX2_forget_55 : decode cX2_forget 55 = .ok (.iconst (-1), 1) := by decide +kernel
theorem dX2_forget_56 : decode cX2_forget 56 = .ok (.iastore, 1) := by decide +kernel
theorem dX2_forget_57 : decode cX2_forget 57 = .ok (.aload_n 0, 1) := by decide +kernel
theorem dX2_forget_58 : decode cX2_forget 58 = .ok (.getfield 24, 3) := by decide +kernel
theorem dX2_forget_61 : decode cX2_forget 61 = .ok (.iload_n 1, 1) := by decide +kernel
theorem dX2_forget_62 : decode cX2_forget 62 = .ok (.iload_n 2, 1) := by decide +kernel
theorem dX2_forget_63 : decode cX2_forget 63 = .ok (.invokestatic 73, 3) := by decide +kernel
theorem dX2_forget_66 : decode cX2_forget 66 = .ok (.iconst (-1), 1) := by decide +kernel
theorem dX2_forget_67 : decode cX2_forget 67 = .ok (.iastore, 1) := by decide +kernel
theorem dX2_forget_68 : decode cX2_forget 68 = .ok (.aload_n 0, 1) := by decide +kernel
theorem dX2_forget_69 : decode cX2_forget 69 = .ok (.getfield 27, 3) := by decide +kernel
theorem dX2_forget_72 : decode cX2_forget 72 = .ok (.iload_n 1, 1) := by decide +kernel
theorem dX2_forget_73 : decode cX2_forget 73 = .ok (.iload_n 2, 1) := by decide +kernel
theorem dX2_forget_74 : decode cX2_forget 74 = .ok (.invokestatic 73, 3) := by decide +kernel
theorem dX2_forget_77 : decode cX2_forget 77 = .ok (.iconst 0, 1) := by decide +kernel
theorem dX2_forget_78 : decode cX2_forget 78 = .ok (.iastore, 1) := by decide +kernel
theorem dX2_forget_79 : decode cX2_forget 79 = .ok (.iinc 2 1, 3) := by decide +kernel
theorem dX2_forget_82 : decode cX2_forget 82 = .ok (.goto (-62), 3) := by decide +kernel
theorem dX2_forget_85 : decode cX2_forget 85 = .ok (.iinc 1 1, 3) := by decide +kernel
theorem dX2_forget_88 : decode cX2_forget 88 = .ok (.goto (-76), 3) := by decide +kernel
theorem dX2_forget_91 : decode cX2_forget 91 = .ok (.return_, 1) := by decide +kernel
set_option maxRecDepth 20000 in
theorem ggX2_addLink_X2_hasNode : GoodIn wsX2_addLink wsX2_hasNode := goodIn_r _ [9, 10, 14, 15, 16, 17, 18, 19, 20, 21] (by decide +kernel) (by decide +kernel)
set_option maxRecDepth 20000 in
theorem gX2_addLink_X2_hasNode : GoodIn wsX2_addLink (wsV RX2 76 RX2 yX2_hasNode wsX2_hasNode) := goodIn_app (goodIn_of _ (by decide +kernel)) ggX2_addLink_X2_hasNode
set_option maxRecDepth 20000 in
theorem ggX2_addLink_X2_at : GoodIn wsX2_addLink wsX2_at := goodIn_r _ [13] (by decide +kernel) (by decide +kernel)
set_option maxRecDepth 20000 in
theorem gX2_addLink_X2_at : GoodIn wsX2_addLink (va_wsS RX2 73 yX2_at wsX2_at) := goodIn_app (goodIn_of _ (by decide +kernel)) ggX2_addLink_X2_at
theorem dX2_addLink_0 : decode cX2_addLink 0 = .ok (.aload_n 0, 1) := by decide +kernel
theorem dX2_addLink_1 : decode cX2_addLink 1 = .ok (.getfield 34, 3) := by decide +kernel
theorem dX2_addLink_4 : decode cX2_addLink 4 = .ok (.bipush 16, 2) := by decide +kernel
theorem dX2_addLink_6 : decode cX2_addLink 6 = .ok (.if_icmp .ge 63, 3) := by decide +kernel
theorem dX2_addLink_9 : decode cX2_addLink 9 = .ok (.aload_n 0, 1) := by decide +kernel
theorem dX2_addLink_10 : decode cX2_addLink 10 = .ok (.iload_n 1, 1) := by decide +kernel
theorem dX2_addLink_11 : decode cX2_addLink 11 = .ok (.invokevirtual 76, 3) := by decide +kernel
theorem dX2_addLink_14 : decode cX2_addLink 14 = .ok (.ifCond .eq 55, 3) := by decide +kernel
theorem dX2_addLink_17 : decode cX2_addLink 17 = .ok (.aload_n 0, 1) := by decide +kernel
theorem dX2_addLink_18 : decode cX2_addLink 18 = .ok (.iload_n 2, 1) := by decide +kernel
theorem dX2_addLink_19 : decode cX2_addLink 19 = .ok (.invokevirtual 76, 3) := by decide +kernel
theorem dX2_addLink_22 : decode cX2_addLink 22 = .ok (.ifCond .eq 47, 3) := by decide +kernel
theorem dX2_addLink_25 : decode cX2_addLink 25 = .ok (.aload_n 0, 1) := by decide +kernel
theorem dX2_addLink_26 : decode cX2_addLink 26 = .ok (.getfield 9, 3) := by decide +kernel
theorem dX2_addLink_29 : decode cX2_addLink 29 = .ok (.aload_n 0, 1) := by decide +kernel
theorem dX2_addLink_30 : decode cX2_addLink 30 = .ok (.getfield 34, 3) := by decide +kernel
theorem dX2_addLink_33 : decode cX2_addLink 33 = .ok (.iload_n 1, 1) := by decide +kernel
theorem dX2_addLink_34 : decode cX2_addLink 34 = .ok (.iastore, 1) := by decide +kernel
theorem dX2_addLink_35 : decode cX2_addLink 35 = .ok (.aload_n 0, 1) := by decide +kernel
theorem dX2_addLink_36 : decode cX2_addLink 36 = .ok (.getfield 15, 3) := by decide +kernel
theorem dX2_addLink_39 : decode cX2_addLink 39 = .ok (.aload_n 0, 1) := by decide +kernel
theorem dX2_addLink_40 : decode cX2_addLink 40 = .ok (.getfield 34, 3) := by decide +kernel
theorem dX2_addLink_43 : decode cX2_addLink 43 = .ok (.iload_n 2, 1) := by decide +kernel
theorem dX2_addLink_44 : decode cX2_addLink 44 = .ok (.iastore, 1) := by decide +kernel
theorem dX2_addLink_45 : decode cX2_addLink 45 = .ok (.aload_n 0, 1) := by decide +kernel
theorem dX2_addLink_46 : decode cX2_addLink 46 = .ok (.getfield 18, 3) := by decide +kernel
theorem dX2_addLink_49 : decode cX2_addLink 49 = .ok (.iload_n 1, 1) := by decide +kernel
theorem dX2_addLink_50 : decode cX2_addLink 50 = .ok (.iload_n 2, 1) := by decide +kernel
theorem dX2_addLink_51 : decode cX2_addLink 51 = .ok (.invokestatic 73, 3) := by decide +kernel
theorem dX2_addLink_54 : decode cX2_addLink 54 = .ok (.aload_n 0, 1) := by decide +kernel
theorem dX2_addLink_55 : decode cX2_addLink 55 = .ok (.getfield 34, 3) := by decide +kernel
theorem dX2_addLink_58 : decode cX2_addLink 58 = .ok (.iastore, 1) := by decide +kernel
theorem dX2_addLink_59 : decode cX2_addLink 59 = .ok (.aload_n 0, 1) := by decide +kernel
theorem dX2_addLink_60 : decode cX2_addLink 60 = .ok (.dup, 1) := by decide +kernel
theorem dX2_addLink_61 : decode cX2_addLink 61 = .ok (.getfield 34, 3) := by decide +kernel
theorem dX2_addLink_64 : decode cX2_addLink 64 = .ok (.iconst 1, 1) := by decide +kernel
theorem dX2_addLink_65 : decode cX2_addLink 65 = .ok (.iadd, 1) := by decide +kernel
theorem dX2_addLink_66 : decode cX2_addLink 66 = .ok (.putfield 34, 3) := by decide +kernel
theorem dX2_addLink_69 : decode cX2_addLink 69 = .ok (.return_, 1) := by decide +kernel
set_option maxRecDepth 20000 in
theorem ggX2_findWays_X2_at : GoodIn wsX2_findWays wsX2_at := goodIn_r _ [6] (by decide +kernel) (by decide +kernel)
set_option maxRecDepth 20000 in
theorem gX2_findWays_X2_at : GoodIn wsX2_findWays (va_wsS RX2 73 yX2_at wsX2_at) := goodIn_app (goodIn_of _ (by decide +kernel)) ggX2_findWays_X2_at
set_option maxRecDepth 20000 in
theorem ggX2_findWays_X2_findWay : GoodIn wsX2_findWays wsX2_findWay := goodIn_r _ [10, 1, 11, 2, 12, 13, 3, 4, 5, 6, 14, 15, 16, 17, 18, 19, 20, 21] (by decide +kernel) (by decide +kernel)
set_option maxRecDepth 20000 in
theorem gX2_findWays_X2_findWay : GoodIn wsX2_findWays (wsV RX2 80 RX2 yX2_findWay wsX2_findWay) := goodIn_app (goodIn_of _ (by decide +kernel)) ggX2_findWays_X2_findWay
theorem dX2_findWays_0 : decode cX2_findWays 0 = .ok (.iconst 0, 1) := by decide +kernel
theorem dX2_findWays_1 : decode cX2_findWays 1 = .ok (.istore_n 2, 1) := by decide +kernel
theorem dX2_findWays_2 : decode cX2_findWays 2 = .ok (.iload_n 2, 1) := by decide +kernel
theorem dX2_findWays_3 : decode cX2_findWays 3 = .ok (.aload_n 0, 1) := by decide +kernel
theorem dX2_findWays_4 : decode cX2_findWays 4 = .ok (.getfield 30, 3) := by decide +kernel
theorem dX2_findWays_7 : decode cX2_findWays 7 = .ok (.if_icmp .ge 46, 3) := by decide +kernel
theorem dX2_findWays_10 : decode cX2_findWays 10 = .ok (.iconst 0, 1) := by decide +kernel
theorem dX2_findWays_11 : decode cX2_findWays 11 = .ok (.istore_n 3, 1) := by decide +kernel
theorem dX2_findWays_12 : decode cX2_findWays 12 = .ok (.iload_n 3, 1) := by decide +kernel
theorem dX2_findWays_13 : decode cX2_findWays 13 = .ok (.aload_n 0, 1) := by decide +kernel
theorem dX2_findWays_14 : decode cX2_findWays 14 = .ok (.getfield 30, 3) := by decide +kernel
theorem dX2_findWays_17 : decode cX2_findWays 17 = .ok (.if_icmp .ge 30, 3) := by decide +kernel
theorem dX2_findWays_20 : decode cX2_findWays 20 = .ok (.aload_n 0, 1) := by decide +kernel
theorem dX2_findWays_21 : decode cX2_findWays 21 = .ok (.getfield 21, 3) := by decide +kernel
theorem dX2_findWays_24 : decode cX2_findWays 24 = .ok (.iload_n 2, 1) := by decide +kernel
theorem dX2_findWays_25 : decode cX2_findWays 25 = .ok (.iload_n 3, 1) := by decide +kernel
theorem dX2_findWays_26 : decode cX2_findWays 26 = .ok (.invokestatic 73, 3) := by decide +kernel
theorem dX2_findWays_29 : decode cX2_findWays 29 = .ok (.iaload, 1) := by decide +kernel
theorem dX2_findWays_30 : decode cX2_findWays 30 = .ok (.iconst (-1), 1) := by decide +kernel
theorem dX2_findWays_31 : decode cX2_findWays 31 = .ok (.if_icmp .ne 10, 3) := by decide +kernel
theorem dX2_findWays_34 : decode cX2_findWays 34 = .ok (.aload_n 0, 1) := by decide +kernel
theorem dX2_findWays_35 : decode cX2_findWays 35 = .ok (.iload_n 2, 1) := by decide +kernel
theorem dX2_findWays_36 : decode cX2_findWays 36 = .ok (.iload_n 3, 1) := by decide +kernel
theorem dX2_findWays_37 : decode cX2_findWays 37 = .ok (.iload_n 1, 1) := by decide +kernel
theorem dX2_findWays_38 : decode cX2_findWays 38 = .ok (.invokevirtual 80, 3) := by decide +kernel
theorem dX2_findWays_41 : decode cX2_findWays 41 = .ok (.iinc 3 1, 3) := by decide +kernel
theorem dX2_findWays_44 : decode cX2_findWays 44 = .ok (.goto (-32), 3) := by decide +kernel
theorem dX2_findWays_47 : decode cX2_findWays 47 = .ok (.iinc 2 1, 3) := by decide +kernel
theorem dX2_findWays_50 : decode cX2_findWays 50 = .ok (.goto (-48), 3) := by decide +kernel
theorem dX2_findWays_53 : decode cX2_findWays 53 = .ok (.return_, 1) := by decide +kernel
set_option maxRecDepth 20000 in
theorem ggX2_findWay_X2_at : GoodIn wsX2_findWay wsX2_at := goodIn_r _ [9] (by decide +kernel) (by decide +kernel)
set_option maxRecDepth 20000 in
theorem gX2_findWay_X2_at : GoodIn wsX2_findWay (va_wsS RX2 73 yX2_at wsX2_at) := goodIn_app (goodIn_of _ (by decide +kernel)) ggX2_findWay_X2_at
theorem dX2_findWay_0 : decode cX2_findWay 0 = .ok (.iconst 0, 1) := by decide +kernel
theorem dX2_findWay_1 : decode cX2_findWay 1 = .ok (.istore 4, 2) := by decide +kernel
theorem dX2_findWay_3 : decode cX2_findWay 3 = .ok (.iload 4, 2) := by decide +kernel
theorem dX2_findWay_5 : decode cX2_findWay 5 = .ok (.aload_n 0, 1) := by decide +kernel
theorem dX2_findWay_6 : decode cX2_findWay 6 = .ok (.getfield 30, 3) := by decide +kernel
theorem dX2_findWay_9 : decode cX2_findWay 9 = .ok (.if_icmp .ge 95, 3) := by decide +kernel
theorem dX2_findWay_12 : decode cX2_findWay 12 = .ok (.aload_n 0, 1) := by decide +kernel
theorem dX2_findWay_13 : decode cX2_findWay 13 = .ok (.getfield 18, 3) := by decide +kernel
theorem dX2_findWay_16 : decode cX2_findWay 16 = .ok (.iload_n 1, 1) := by decide +kernel
theorem dX2_findWay_17 : decode cX2_findWay 17 = .ok (.iload 4, 2) := by decide +kernel
theorem dX2_findWay_19 : decode cX2_findWay 19 = .ok (.invokestatic 73, 3) := by decide +kernel
theorem dX2_findWay_22 : decode cX2_findWay 22 = .ok (.iaload, 1) := by decide +kernel
theorem dX2_findWay_23 : decode cX2_findWay 23 = .ok (.istore 5, 2) := by decide +kernel
theorem dX2_findWay_25 : decode cX2_findWay 25 = .ok (.iload 5, 2) := by decide +kernel
theorem dX2_findWay_27 : decode cX2_findWay 27 = .ok (.iconst (-1), 1) := by decide +kernel
theorem dX2_findWay_28 : decode cX2_findWay 28 = .ok (.if_icmp .eq 70, 3) := by decide +kernel
theorem dX2_findWay_31 : decode cX2_findWay 31 = .ok (.aload_n 0, 1) := by decide +kernel
theorem dX2_findWay_32 : decode cX2_findWay 32 = .ok (.getfield 21, 3) := by decide +kernel
theorem dX2_findWay_35 : decode cX2_findWay 35 = .ok (.iload 4, 2) := by decide +kernel
theorem dX2_findWay_37 : decode cX2_findWay 37 = .ok (.iload_n 2, 1) := by decide +kernel
theorem dX2_findWay_38 : decode cX2_findWay 38 = .ok (.invokestatic 73, 3) := by decide +kernel
theorem dX2_findWay_41 : decode cX2_findWay 41 = .ok (.iaload, 1) := by decide +kernel
theorem dX2_findWay_42 : decode cX2_findWay 42 = .ok (.iload_n 3, 1) := by decide +kernel
theorem dX2_findWay_43 : decode cX2_findWay 43 = .ok (.iconst 1, 1) := by decide +kernel
theorem dX2_findWay_44 : decode cX2_findWay 44 = .ok (.isub, 1) := by decide +kernel
theorem dX2_findWay_45 : decode cX2_findWay 45 = .ok (.if_icmp .ne 53, 3) := by decide +kernel
theorem dX2_findWay_48 : decode cX2_findWay 48 = .ok (.aload_n 0, 1) := by decide +kernel
theorem dX2_findWay_49 : decode cX2_findWay 49 = .ok (.getfield 21, 3) := by decide +kernel
theorem dX2_findWay_52 : decode cX2_findWay 52 = .ok (.iload_n 1, 1) := by decide +kernel
theorem dX2_findWay_53 : decode cX2_findWay 53 = .ok (.iload_n 2, 1) := by decide +kernel
theorem dX2_findWay_54 : decode cX2_findWay 54 = .ok (.invokestatic 73, 3) := by decide +kernel
theorem dX2_findWay_57 : decode cX2_findWay 57 = .ok (.iload_n 3, 1) := by decide +kernel
theorem dX2_findWay_58 : decode cX2_findWay 58 = .ok (.iastore, 1) := by decide +kernel
theorem dX2_findWay_59 : decode cX2_findWay 59 = .ok (.aload_n 0, 1) := by decide +kernel
theorem dX2_findWay_60 : decode cX2_findWay 60 = .ok (.getfield 24, 3) := by decide +kernel
theorem dX2_findWay_63 : decode cX2_findWay 63 = .ok (.iload_n 1, 1) := by decide +kernel
theorem dX2_findWay_64 : decode cX2_findWay 64 = .ok (.iload_n 2, 1) := by decide +kernel
theorem dX2_findWay_65 : decode cX2_findWay 65 = .ok (.invokestatic 73, 3) := by decide +kernel
theorem dX2_findWay_68 : decode cX2_findWay 68 = .ok (.iload 4, 2) := by decide +kernel
theorem dX2_findWay_70 : decode cX2_findWay 70 = .ok (.iastore, 1) := by decide +kernel
theorem dX2_findWay_71 : decode cX2_findWay 71 = .ok (.aload_n 0, 1) := by decide +kernel
theorem dX2_findWay_72 : decode cX2_findWay 72 = .ok (.getfield 27, 3) := by decide +kernel
theorem dX2_findWay_75 : decode cX2_findWay 75 = .ok (.iload_n 1, 1) := by decide +kernel
theorem dX2_findWay_76 : decode cX2_findWay 76 = .ok (.iload_n 2, 1) := by decide +kernel
theorem dX2_findWay_77 : decode cX2_findWay 77 = .ok (.invokestatic 73, 3) := by decide +kernel
theorem dX2_findWay_80 : decode cX2_findWay 80 = .ok (.aload_n 0, 1) := by decide +kernel
theorem dX2_findWay_81 : decode cX2_findWay 81 = .ok (.getfield 27, 3) := by decide +kernel
theorem dX2_findWay_84 : decode cX2_findWay 84 = .ok (.iload 4, 2) := by decide +kernel
theorem dX2_findWay_86 : decode cX2_findWay 86 = .ok (.iload_n 2, 1) := by decide +kernel
theorem dX2_findWay_87 : decode cX2_findWay 87 = .ok (.invokestatic 73, 3) := by decide +kernel
theorem dX2_findWay_90 : decode cX2_findWay 90 = .ok (.iaload, 1) := by decide +kernel
theorem dX2_findWay_91 : decode cX2_findWay 91 = .ok (.iconst 1, 1) := by decide +kernel
theorem dX2_findWay_92 : decode cX2_findWay 92 = .ok (.iload 5, 2) := by decide +kernel
theorem dX2_findWay_94 : decode cX2_findWay 94 = .ok (.ishl, 1) := by decide +kernel
theorem dX2_findWay_95 : decode cX2_findWay 95 = .ok (.ior, 1) := by decide +kernel
theorem dX2_findWay_96 : decode cX2_findWay 96 = .ok (.iastore, 1) := by decide +kernel
theorem dX2_findWay_97 : decode cX2_findWay 97 = .ok (.return_, 1) := by decide +kernel
theorem dX2_findWay_98 : decode cX2_findWay 98 = .ok (.iinc 4 1, 3) := by decide +kernel
theorem dX2_findWay_101 : decode cX2_findWay 101 = .ok (.goto (-98), 3) := by decide +kernel
theorem dX2_findWay_104 : decode cX2_findWay 104 = .ok (.return_, 1) := by decide +kernel
set_option maxRecDepth 20000 in
theorem ggX2_nodeOnWay_X2_hasNode : GoodIn wsX2_nodeOnWay wsX2_hasNode := goodIn_r _ [7, 8, 12, 13, 14, 15, 16, 17, 18, 19] (by decide +kernel) (by decide +kernel)
set_option maxRecDepth 20000 in
theorem gX2_nodeOnWay_X2_hasNode : GoodIn wsX2_nodeOnWay (wsV RX2 76 RX2 yX2_hasNode wsX2_hasNode) := goodIn_app (goodIn_of _ (by decide +kernel)) ggX2_nodeOnWay_X2_hasNode
set_option maxRecDepth 20000 in
theorem ggX2_nodeOnWay_X2_at : GoodIn wsX2_nodeOnWay wsX2_at := goodIn_r _ [11] (by decide +kernel) (by decide +kernel)
set_option maxRecDepth 20000 in
theorem gX2_nodeOnWay_X2_at : GoodIn wsX2_nodeOnWay (va_wsS RX2 73 yX2_at wsX2_at) := goodIn_app (goodIn_of _ (by decide +kernel)) ggX2_nodeOnWay_X2_at
theorem dX2_nodeOnWay_0 : decode cX2_nodeOnWay 0 = .ok (.aload_n 0, 1) := by decide +kernel
theorem dX2_nodeOnWay_1 : decode cX2_nodeOnWay 1 = .ok (.iload_n 1, 1) := by decide +kernel
theorem dX2_nodeOnWay_2 : decode cX2_nodeOnWay 2 = .ok (.invokevirtual 76, 3) := by decide +kernel
theorem dX2_nodeOnWay_5 : decode cX2_nodeOnWay 5 = .ok (.ifCond .eq 11, 3) := by decide +kernel
theorem dX2_nodeOnWay_8 : decode cX2_nodeOnWay 8 = .ok (.aload_n 0, 1) := by decide +kernel
theorem dX2_nodeOnWay_9 : decode cX2_nodeOnWay 9 = .ok (.iload_n 2, 1) := by decide +kernel
theorem dX2_nodeOnWay_10 : decode cX2_nodeOnWay 10 = .ok (.invokevirtual 76, 3) := by decide +kernel
theorem dX2_nodeOnWay_13 : decode cX2_nodeOnWay 13 = .ok (.ifCond .ne 5, 3) := by decide +kernel
theorem dX2_nodeOnWay_16 : decode cX2_nodeOnWay 16 = .ok (.iconst (-1), 1) := by decide +kernel
theorem dX2_nodeOnWay_17 : decode cX2_nodeOnWay 17 = .ok (.ireturn, 1) := by decide +kernel
theorem dX2_nodeOnWay_18 : decode cX2_nodeOnWay 18 = .ok (.iload_n 3, 1) := by decide +kernel
theorem dX2_nodeOnWay_19 : decode cX2_nodeOnWay 19 = .ok (.ifCond .lt 17, 3) := by decide +kernel
theorem dX2_nodeOnWay_22 : decode cX2_nodeOnWay 22 = .ok (.iload_n 3, 1) := by decide +kernel
theorem dX2_nodeOnWay_23 : decode cX2_nodeOnWay 23 = .ok (.aload_n 0, 1) := by decide +kernel
theorem dX2_nodeOnWay_24 : decode cX2_nodeOnWay 24 = .ok (.getfield 21, 3) := by decide +kernel
theorem dX2_nodeOnWay_27 : decode cX2_nodeOnWay 27 = .ok (.iload_n 1, 1) := by decide +kernel
theorem dX2_nodeOnWay_28 : decode cX2_nodeOnWay 28 = .ok (.iload_n 2, 1) := by decide +kernel
theorem dX2_nodeOnWay_29 : decode cX2_nodeOnWay 29 = .ok (.invokestatic 73, 3) := by decide +kernel
theorem dX2_nodeOnWay_32 : decode cX2_nodeOnWay 32 = .ok (.iaload, 1) := by decide +kernel
theorem dX2_nodeOnWay_33 : decode cX2_nodeOnWay 33 = .ok (.if_icmp .le 5, 3) := by decide +kernel
theorem dX2_nodeOnWay_36 : decode cX2_nodeOnWay 36 = .ok (.iconst (-1), 1) := by decide +kernel
theorem dX2_nodeOnWay_37 : decode cX2_nodeOnWay 37 = .ok (.ireturn, 1) := by decide +kernel
theorem dX2_nodeOnWay_38 : decode cX2_nodeOnWay 38 = .ok (.iload_n 1, 1) := by decide +kernel
theorem dX2_nodeOnWay_39 : decode cX2_nodeOnWay 39 = .ok (.istore 4, 2) := by decide +kernel
theorem dX2_nodeOnWay_41 : decode cX2_nodeOnWay 41 = .ok (.iconst 0, 1) := by decide +kernel
theorem dX2_nodeOnWay_42 : decode cX2_nodeOnWay 42 = .ok (.istore 5, 2) := by decide +kernel
theorem dX2_nodeOnWay_44 : decode cX2_nodeOnWay 44 = .ok (.iload 5, 2) := by decide +kernel
theorem dX2_nodeOnWay_46 : decode cX2_nodeOnWay 46 = .ok (.iload_n 3, 1) := by decide +kernel
theorem dX2_nodeOnWay_47 : decode cX2_nodeOnWay 47 = .ok (.if_icmp .ge 31, 3) := by decide +kernel
theorem dX2_nodeOnWay_50 : decode cX2_nodeOnWay 50 = .ok (.aload_n 0, 1) := by decide +kernel
theorem dX2_nodeOnWay_51 : decode cX2_nodeOnWay 51 = .ok (.iload 4, 2) := by decide +kernel
theorem dX2_nodeOnWay_53 : decode cX2_nodeOnWay 53 = .ok (.invokevirtual 76, 3) := by decide +kernel
theorem dX2_nodeOnWay_56 : decode cX2_nodeOnWay 56 = .ok (.ifCond .eq 22, 3) := by decide +kernel
theorem dX2_nodeOnWay_59 : decode cX2_nodeOnWay 59 = .ok (.aload_n 0, 1) := by decide +kernel
theorem dX2_nodeOnWay_60 : decode cX2_nodeOnWay 60 = .ok (.getfield 24, 3) := by decide +kernel
theorem dX2_nodeOnWay_63 : decode cX2_nodeOnWay 63 = .ok (.iload 4, 2) := by decide +kernel
theorem dX2_nodeOnWay_65 : decode cX2_nodeOnWay 65 = .ok (.iload_n 2, 1) := by decide +kernel
theorem dX2_nodeOnWay_66 : decode cX2_nodeOnWay 66 = .ok (.invokestatic 73, 3) := by decide +kernel
theorem dX2_nodeOnWay_69 : decode cX2_nodeOnWay 69 = .ok (.iaload, 1) := by decide +kernel
theorem dX2_nodeOnWay_70 : decode cX2_nodeOnWay 70 = .ok (.istore 4, 2) := by decide +kernel
theorem dX2_nodeOnWay_72 : decode cX2_nodeOnWay 72 = .ok (.iinc 5 1, 3) := by decide +kernel
theorem dX2_nodeOnWay_75 : decode cX2_nodeOnWay 75 = .ok (.goto (-31), 3) := by decide +kernel
theorem dX2_nodeOnWay_78 : decode cX2_nodeOnWay 78 = .ok (.iload 4, 2) := by decide +kernel
theorem dX2_nodeOnWay_80 : decode cX2_nodeOnWay 80 = .ok (.ireturn, 1) := by decide +kernel
set_option maxRecDepth 20000 in
theorem ggX2_treeLinks_X2_hasNode : GoodIn wsX2_treeLinks wsX2_hasNode := goodIn_r _ [7, 1, 11, 12, 13, 14, 15, 16, 17, 18] (by decide +kernel) (by decide +kernel)
set_option maxRecDepth 20000 in
theorem gX2_treeLinks_X2_hasNode : GoodIn wsX2_treeLinks (wsV RX2 76 RX2 yX2_hasNode wsX2_hasNode) := goodIn_app (goodIn_of _ (by decide +kernel)) ggX2_treeLinks_X2_hasNode
set_option maxRecDepth 20000 in
theorem ggX2_treeLinks_X2_at : GoodIn wsX2_treeLinks wsX2_at := goodIn_r _ [10] (by decide +kernel) (by decide +kernel)
set_option maxRecDepth 20000 in
theorem gX2_treeLinks_X2_at : GoodIn wsX2_treeLinks (va_wsS RX2 73 yX2_at wsX2_at) := goodIn_app (goodIn_of _ (by decide +kernel)) ggX2_treeLinks_X2_at
theorem dX2_treeLinks_0 : decode cX2_treeLinks 0 = .ok (.aload_n 0, 1) := by decide +kernel
theorem dX2_treeLinks_1 : decode cX2_treeLinks 1 = .ok (.iload_n 1, 1) := by decide +kernel
theorem dX2_treeLinks_2 : decode cX2_treeLinks 2 = .ok (.invokevirtual 76, 3) := by decide +kernel
theorem dX2_treeLinks_5 : decode cX2_treeLinks 5 = .ok (.ifCond .ne 5, 3) := by decide +kernel
theorem dX2_treeLinks_8 : decode cX2_treeLinks 8 = .ok (.iconst 0, 1) := by decide +kernel
theorem dX2_treeLinks_9 : decode cX2_treeLinks 9 = .ok (.ireturn, 1) := by decide +kernel
theorem dX2_treeLinks_10 : decode cX2_treeLinks 10 = .ok (.iconst 0, 1) := by decide +kernel
theorem dX2_treeLinks_11 : decode cX2_treeLinks 11 = .ok (.istore_n 3, 1) := by decide +kernel
theorem dX2_treeLinks_12 : decode cX2_treeLinks 12 = .ok (.iconst 0, 1) := by decide +kernel
theorem dX2_treeLinks_13 : decode cX2_treeLinks 13 = .ok (.istore 4, 2) := by decide +kernel
theorem dX2_treeLinks_15 : decode cX2_treeLinks 15 = .ok (.iload 4, 2) := by decide +kernel
theorem dX2_treeLinks_17 : decode cX2_treeLinks 17 = .ok (.aload_n 0, 1) := by decide +kernel
theorem dX2_treeLinks_18 : decode cX2_treeLinks 18 = .ok (.getfield 30, 3) := by decide +kernel
theorem dX2_treeLinks_21 : decode cX2_treeLinks 21 = .ok (.if_icmp .ge 32, 3) := by decide +kernel
theorem dX2_treeLinks_24 : decode cX2_treeLinks 24 = .ok (.iload_n 2, 1) := by decide +kernel
theorem dX2_treeLinks_25 : decode cX2_treeLinks 25 = .ok (.iload 4, 2) := by decide +kernel
theorem dX2_treeLinks_27 : decode cX2_treeLinks 27 = .ok (.ishr, 1) := by decide +kernel
theorem dX2_treeLinks_28 : decode cX2_treeLinks 28 = .ok (.iconst 1, 1) := by decide +kernel
theorem dX2_treeLinks_29 : decode cX2_treeLinks 29 = .ok (.iand, 1) := by decide +kernel
theorem dX2_treeLinks_30 : decode cX2_treeLinks 30 = .ok (.ifCond .eq 17, 3) := by decide +kernel
theorem dX2_treeLinks_33 : decode cX2_treeLinks 33 = .ok (.iload_n 3, 1) := by decide +kernel
theorem dX2_treeLinks_34 : decode cX2_treeLinks 34 = .ok (.aload_n 0, 1) := by decide +kernel
theorem dX2_treeLinks_35 : decode cX2_treeLinks 35 = .ok (.getfield 27, 3) := by decide +kernel
theorem dX2_treeLinks_38 : decode cX2_treeLinks 38 = .ok (.iload_n 1, 1) := by decide +kernel
theorem dX2_treeLinks_39 : decode cX2_treeLinks 39 = .ok (.iload 4, 2) := by decide +kernel
theorem dX2_treeLinks_41 : decode cX2_treeLinks 41 = .ok (.invokestatic 73, 3) := by decide +kernel
theorem dX2_treeLinks_44 : decode cX2_treeLinks 44 = .ok (.iaload, 1) := by decide +kernel
theorem dX2_treeLinks_45 : decode cX2_treeLinks 45 = .ok (.ior, 1) := by decide +kernel
theorem dX2_treeLinks_46 : decode cX2_treeLinks 46 = .ok (.istore_n 3, 1) := by decide +kernel
theorem dX2_treeLinks_47 : decode cX2_treeLinks 47 = .ok (.iinc 4 1, 3) := by decide +kernel
theorem dX2_treeLinks_50 : decode cX2_treeLinks 50 = .ok (.goto (-35), 3) := by decide +kernel
theorem dX2_treeLinks_53 : decode cX2_treeLinks 53 = .ok (.iload_n 3, 1) := by decide +kernel
theorem dX2_treeLinks_54 : decode cX2_treeLinks 54 = .ok (.ireturn, 1) := by decide +kernel
theorem dX3_init_0 : decode cX3_init 0 = .ok (.aload_n 0, 1) := by decide +kernel
theorem dX3_init_1 : decode cX3_init 1 = .ok (.invokespecial 3, 3) := by decide +kernel
theorem dX3_init_4 : decode cX3_init 4 = .ok (.aload_n 0, 1) := by decide +kernel
theorem dX3_init_5 : decode cX3_init 5 = .ok (.bipush 16, 2) := by decide +kernel
theorem dX3_init_7 : decode cX3_init 7 = .ok (.putfield 9, 3) := by decide +kernel
theorem dX3_init_10 : decode cX3_init 10 = .ok (.aload_n 0, 1) := by decide +kernel
theorem dX3_init_11 : decode cX3_init 11 = .ok (.iconst 3, 1) := by decide +kernel
theorem dX3_init_12 : decode cX3_init 12 = .ok (.putfield 15, 3) := by decide +kernel
theorem dX3_init_15 : decode cX3_init 15 = .ok (.aload_n 0, 1) := by decide +kernel
theorem dX3_init_16 : decode cX3_init 16 = .ok (.iconst 1, 1) := by decide +kernel
theorem dX3_init_17 : decode cX3_init 17 = .ok (.putfield 18, 3) := by decide +kernel
theorem dX3_init_20 : decode cX3_init 20 = .ok (.aload_n 0, 1) := by decide +kernel
theorem dX3_init_21 : decode cX3_init 21 = .ok (.bipush 60, 2) := by decide +kernel
theorem dX3_init_23 : decode cX3_init 23 = .ok (.newarray .long, 2) := by decide +kernel
theorem dX3_init_25 : decode cX3_init 25 = .ok (.putfield 21, 3) := by decide +kernel
theorem dX3_init_28 : decode cX3_init 28 = .ok (.return_, 1) := by decide +kernel
theorem dX3_allows_0 : decode cX3_allows 0 = .ok (.iload_n 1, 1) := by decide +kernel
theorem dX3_allows_1 : decode cX3_allows 1 = .ok (.tableswitch 71 0 2 #[27, 45, 61], 27) := by decide +kernel
theorem dX3_allows_28 : decode cX3_allows 28 = .ok (.iload_n 2, 1) := by decide +kernel
theorem dX3_allows_29 : decode cX3_allows 29 = .ok (.bipush 8, 2) := by decide +kernel
theorem dX3_allows_31 : decode cX3_allows 31 = .ok (.if_icmp .lt 13, 3) := by decide +kernel
theorem dX3_allows_34 : decode cX3_allows 34 = .ok (.iload_n 2, 1) := by decide +kernel
theorem dX3_allows_35 : decode cX3_allows 35 = .ok (.bipush 40, 2) := by decide +kernel
theorem dX3_allows_37 : decode cX3_allows 37 = .ok (.if_icmp .gt 7, 3) := by decide +kernel
theorem dX3_allows_40 : decode cX3_allows 40 = .ok (.iconst 1, 1) := by decide +kernel
theorem dX3_allows_41 : decode cX3_allows 41 = .ok (.goto 4, 3) := by decide +kernel
theorem dX3_allows_44 : decode cX3_allows 44 = .ok (.iconst 0, 1) := by decide +kernel
theorem dX3_allows_45 : decode cX3_allows 45 = .ok (.ireturn, 1) := by decide +kernel
theorem dX3_allows_46 : decode cX3_allows 46 = .ok (.iload_n 2, 1) := by decide +kernel
theorem dX3_allows_47 : decode cX3_allows 47 = .ok (.iconst 1, 1) := by decide +kernel
theorem dX3_allows_48 : decode cX3_allows 48 = .ok (.if_icmp .lt 12, 3) := by decide +kernel
theorem dX3_allows_51 : decode cX3_allows 51 = .ok (.iload_n 2, 1) := by decide +kernel
theorem dX3_allows_52 : decode cX3_allows 52 = .ok (.iconst 4, 1) := by decide +kernel
theorem dX3_allows_53 : decode cX3_allows 53 = .ok (.if_icmp .gt 7, 3) := by decide +kernel
theorem dX3_allows_56 : decode cX3_allows 56 = .ok (.iconst 1, 1) := by decide +kernel
theorem dX3_allows_57 : decode cX3_allows 57 = .ok (.goto 4, 3) := by decide +kernel
theorem dX3_allows_60 : decode cX3_allows 60 = .ok (.iconst 0, 1) := by decide +kernel
theorem dX3_allows_61 : decode cX3_allows 61 = .ok (.ireturn, 1) := by decide +kernel
theorem dX3_allows_62 : decode cX3_allows 62 = .ok (.iload_n 2, 1) := by decide +kernel
theorem dX3_allows_63 : decode cX3_allows 63 = .ok (.ifCond .lt 7, 3) := by decide +kernel
theorem dX3_allows_66 : decode cX3_allows 66 = .ok (.iconst 1, 1) := by decide +kernel
theorem dX3_allows_67 : decode cX3_allows 67 = .ok (.goto 4, 3) := by decide +kernel
theorem dX3_allows_70 : decode cX3_allows 70 = .ok (.iconst 0, 1) := by decide +kernel
theorem dX3_allows_71 : decode cX3_allows 71 = .ok (.ireturn, 1) := by decide +kernel
theorem dX3_allows_72 : decode cX3_allows 72 = .ok (.iconst 0, 1) := by decide +kernel
theorem dX3_allows_73 : decode cX3_allows 73 = .ok (.ireturn, 1) := by decide +kernel
theorem dX3_setting_0 : decode cX3_setting 0 = .ok (.iload_n 1, 1) := by decide +kernel
theorem dX3_setting_1 : decode cX3_setting 1 = .ok (.ifCond .ne 10, 3) := by decide +kernel
theorem dX3_setting_4 : decode cX3_setting 4 = .ok (.aload_n 0, 1) := by decide +kernel
theorem dX3_setting_5 : decode cX3_setting 5 = .ok (.getfield 9, 3) := by decide +kernel
theorem dX3_setting_8 : decode cX3_setting 8 = .ok (.goto 19, 3) := by decide +kernel
theorem dX3_setting_11 : decode cX3_setting 11 = .ok (.iload_n 1, 1) := by decide +kernel
theorem dX3_setting_12 : decode cX3_setting 12 = .ok (.iconst 1, 1) := by decide +kernel
theorem dX3_setting_13 : decode cX3_setting 13 = .ok (.if_icmp .ne 10, 3) := by decide +kernel
theorem dX3_setting_16 : decode cX3_setting 16 = .ok (.aload_n 0, 1) := by decide +kernel
theorem dX3_setting_17 : decode cX3_setting 17 = .ok (.getfield 15, 3) := by decide +kernel
theorem dX3_setting_20 : decode cX3_setting 20 = .ok (.goto 7, 3) := by decide +kernel
theorem dX3_setting_23 : decode cX3_setting 23 = .ok (.aload_n 0, 1) := by decide +kernel
theorem dX3_setting_24 : decode cX3_setting 24 = .ok (.getfield 18, 3) := by decide +kernel
theorem dX3_setting_27 : decode cX3_setting 27 = .ok (.ireturn, 1) := by decide +kernel
theorem dX3_change_0 : decode cX3_change 0 = .ok (.iload_n 1, 1) := by decide +kernel
theorem dX3_change_1 : decode cX3_change 1 = .ok (.ifCond .ne 11, 3) := by decide +kernel
theorem dX3_change_4 : decode cX3_change 4 = .ok (.aload_n 0, 1) := by decide +kernel
theorem dX3_change_5 : decode cX3_change 5 = .ok (.iload_n 2, 1) := by decide +kernel
theorem dX3_change_6 : decode cX3_change 6 = .ok (.putfield 9, 3) := by decide +kernel
theorem dX3_change_9 : decode cX3_change 9 = .ok (.goto 21, 3) := by decide +kernel
theorem dX3_change_12 : decode cX3_change 12 = .ok (.iload_n 1, 1) := by decide +kernel
theorem dX3_change_13 : decode cX3_change 13 = .ok (.iconst 1, 1) := by decide +kernel
theorem dX3_change_14 : decode cX3_change 14 = .ok (.if_icmp .ne 11, 3) := by decide +kernel
theorem dX3_change_17 : decode cX3_change 17 = .ok (.aload_n 0, 1) := by decide +kernel
theorem dX3_change_18 : decode cX3_change 18 = .ok (.iload_n 2, 1) := by decide +kernel
theorem dX3_change_19 : decode cX3_change 19 = .ok (.putfield 15, 3) := by decide +kernel
theorem dX3_change_22 : decode cX3_change 22 = .ok (.goto 8, 3) := by decide +kernel
theorem dX3_change_25 : decode cX3_change 25 = .ok (.aload_n 0, 1) := by decide +kernel
theorem dX3_change_26 : decode cX3_change 26 = .ok (.iload_n 2, 1) := by decide +kernel
theorem dX3_change_27 : decode cX3_change 27 = .ok (.putfield 18, 3) := by decide +kernel
theorem dX3_change_30 : decode cX3_change 30 = .ok (.return_, 1) := by decide +kernel
set_option maxRecDepth 20000 in
theorem ggX3_ofLink_X5_isVariant : GoodIn wsX3_ofLink wsX5_isVariant := goodIn_r _ [4] (by decide +kernel) (by decide +kernel)
set_option maxRecDepth 20000 in
theorem gX3_ofLink_X5_isVariant_n25 : GoodIn wsX3_ofLink (wsX5_isVariant) := ggX3_ofLink_X5_isVariant
theorem dX3_ofLink_0 : decode cX3_ofLink 0 = .ok (.iload_n 2, 1) := by decide +kernel
theorem dX3_ofLink_1 : decode cX3_ofLink 1 = .ok (.invokestatic 25, 3) := by decide +kernel
theorem dX3_ofLink_4 : decode cX3_ofLink 4 = .ok (.ifCond .eq 27, 3) := by decide +kernel
theorem dX3_ofLink_7 : decode cX3_ofLink 7 = .ok (.iload_n 1, 1) := by decide +kernel
theorem dX3_ofLink_8 : decode cX3_ofLink 8 = .ok (.ifCond .lt 23, 3) := by decide +kernel
theorem dX3_ofLink_11 : decode cX3_ofLink 11 = .ok (.iload_n 1, 1) := by decide +kernel
theorem dX3_ofLink_12 : decode cX3_ofLink 12 = .ok (.bipush 16, 2) := by decide +kernel
theorem dX3_ofLink_14 : decode cX3_ofLink 14 = .ok (.if_icmp .ge 17, 3) := by decide +kernel
theorem dX3_ofLink_17 : decode cX3_ofLink 17 = .ok (.aload_n 0, 1) := by decide +kernel
theorem dX3_ofLink_18 : decode cX3_ofLink 18 = .ok (.getfield 21, 3) := by decide +kernel
theorem dX3_ofLink_21 : decode cX3_ofLink 21 = .ok (.bipush 20, 2) := by decide +kernel
theorem dX3_ofLink_23 : decode cX3_ofLink 23 = .ok (.iload_n 2, 1) := by decide +kernel
theorem dX3_ofLink_24 : decode cX3_ofLink 24 = .ok (.imul, 1) := by decide +kernel
theorem dX3_ofLink_25 : decode cX3_ofLink 25 = .ok (.iload_n 1, 1) := by decide +kernel
theorem dX3_ofLink_26 : decode cX3_ofLink 26 = .ok (.iadd, 1) := by decide +kernel
theorem dX3_ofLink_27 : decode cX3_ofLink 27 = .ok (.laload, 1) := by decide +kernel
theorem dX3_ofLink_28 : decode cX3_ofLink 28 = .ok (.goto 4, 3) := by decide +kernel
theorem dX3_ofLink_31 : decode cX3_ofLink 31 = .ok (.lconst 0, 1) := by decide +kernel
theorem dX3_ofLink_32 : decode cX3_ofLink 32 = .ok (.lreturn, 1) := by decide +kernel
set_option maxRecDepth 20000 in
theorem ggX3_ofBundle_X5_isVariant : GoodIn wsX3_ofBundle wsX5_isVariant := goodIn_r _ [4] (by decide +kernel) (by decide +kernel)
set_option maxRecDepth 20000 in
theorem gX3_ofBundle_X5_isVariant_n25 : GoodIn wsX3_ofBundle (wsX5_isVariant) := ggX3_ofBundle_X5_isVariant
set_option maxRecDepth 20000 in
theorem ggX3_ofBundle_X5_isPlace : GoodIn wsX3_ofBundle wsX5_isPlace := goodIn_r _ [6] (by decide +kernel) (by decide +kernel)
set_option maxRecDepth 20000 in
theorem gX3_ofBundle_X5_isPlace_n29 : GoodIn wsX3_ofBundle (wsX5_isPlace) := ggX3_ofBundle_X5_isPlace
theorem dX3_ofBundle_0 : decode cX3_ofBundle 0 = .ok (.iload_n 2, 1) := by decide +kernel
theorem dX3_ofBundle_1 : decode cX3_ofBundle 1 = .ok (.invokestatic 25, 3) := by decide +kernel
theorem dX3_ofBundle_4 : decode cX3_ofBundle 4 = .ok (.ifCond .eq 27, 3) := by decide +kernel
theorem dX3_ofBundle_7 : decode cX3_ofBundle 7 = .ok (.iload_n 1, 1) := by decide +kernel
theorem dX3_ofBundle_8 : decode cX3_ofBundle 8 = .ok (.invokestatic 29, 3) := by decide +kernel
theorem dX3_ofBundle_11 : decode cX3_ofBundle 11 = .ok (.ifCond .eq 20, 3) := by decide +kernel
theorem dX3_ofBundle_14 : decode cX3_ofBundle 14 = .ok (.aload_n 0, 1) := by decide +kernel
theorem dX3_ofBundle_15 : decode cX3_ofBundle 15 = .ok (.getfield 21, 3) := by decide +kernel
theorem dX3_ofBundle_18 : decode cX3_ofBundle 18 = .ok (.bipush 20, 2) := by decide +kernel
theorem dX3_ofBundle_20 : decode cX3_ofBundle 20 = .ok (.iload_n 2, 1) := by decide +kernel
theorem dX3_ofBundle_21 : decode cX3_ofBundle 21 = .ok (.imul, 1) := by decide +kernel
theorem dX3_ofBundle_22 : decode cX3_ofBundle 22 = .ok (.bipush 16, 2) := by decide +kernel
theorem dX3_ofBundle_24 : decode cX3_ofBundle 24 = .ok (.iadd, 1) := by decide +kernel
theorem dX3_ofBundle_25 : decode cX3_ofBundle 25 = .ok (.iload_n 1, 1) := by decide +kernel
theorem dX3_ofBundle_26 : decode cX3_ofBundle 26 = .ok (.iadd, 1) := by decide +kernel
theorem dX3_ofBundle_27 : decode cX3_ofBundle 27 = .ok (.laload, 1) := by decide +kernel
theorem dX3_ofBundle_28 : decode cX3_ofBundle 28 = .ok (.goto 4, 3) := by decide +kernel
theorem dX3_ofBundle_31 : decode cX3_ofBundle 31 = .ok (.lconst 0, 1) := by decide +kernel
theorem dX3_ofBundle_32 : decode cX3_ofBundle 32 = .ok (.lreturn, 1) := by decide +kernel
set_option maxRecDepth 20000 in
theorem ggX3_drawAll_X3_drawMark : GoodIn wsX3_drawAll wsX3_drawMark := goodIn_r _ [8, 9, 10, 11, 12, 7, 13, 14, 2, 15, 16, 17, 18, 19, 20, 21, 22, 23] (by decide +kernel) (by decide +kernel)
set_option maxRecDepth 20000 in
theorem gX3_drawAll_X3_drawMark : GoodIn wsX3_drawAll (wsV RX3 36 RX3 yX3_drawMark wsX3_drawMark) := goodIn_app (goodIn_of _ (by decide +kernel)) ggX3_drawAll_X3_drawMark
theorem dX3_drawAll_0 : decode cX3_drawAll 0 = .ok (.aload_n 0, 1) := by decide +kernel
theorem dX3_drawAll_1 : decode cX3_drawAll 1 = .ok (.aload_n 0, 1) := by decide +kernel
theorem dX3_drawAll_2 : decode cX3_drawAll 2 = .ok (.getfield 18, 3) := by decide +kernel
theorem dX3_drawAll_5 : decode cX3_drawAll 5 = .ok (.i2l, 1) := by decide +kernel
theorem dX3_drawAll_6 : decode cX3_drawAll 6 = .ok (.putfield 32, 3) := by decide +kernel
theorem dX3_drawAll_9 : decode cX3_drawAll 9 = .ok (.iconst 0, 1) := by decide +kernel
theorem dX3_drawAll_10 : decode cX3_drawAll 10 = .ok (.istore_n 2, 1) := by decide +kernel
theorem dX3_drawAll_11 : decode cX3_drawAll 11 = .ok (.iload_n 2, 1) := by decide +kernel
theorem dX3_drawAll_12 : decode cX3_drawAll 12 = .ok (.iconst 3, 1) := by decide +kernel
theorem dX3_drawAll_13 : decode cX3_drawAll 13 = .ok (.if_icmp .ge 74, 3) := by decide +kernel
theorem dX3_drawAll_16 : decode cX3_drawAll 16 = .ok (.iconst 0, 1) := by decide +kernel
theorem dX3_drawAll_17 : decode cX3_drawAll 17 = .ok (.istore_n 3, 1) := by decide +kernel
theorem dX3_drawAll_18 : decode cX3_drawAll 18 = .ok (.iload_n 3, 1) := by decide +kernel
theorem dX3_drawAll_19 : decode cX3_drawAll 19 = .ok (.iload_n 1, 1) := by decide +kernel
end
section
theorem dX3_drawAll_20 : decode cX3_drawAll 20 = .ok (.if_icmp .ge 30, 3) := by decide +kernel
theorem dX3_drawAll_23 : decode cX3_drawAll 23 = .ok (.iload_n 3, 1) := by decide +kernel
theorem dX3_drawAll_24 : decode cX3_drawAll 24 = .ok (.bipush 16, 2) := by decide +kernel
theorem dX3_drawAll_26 : decode cX3_drawAll 26 = .ok (.if_icmp .ge 24, 3) := by decide +kernel
theorem dX3_drawAll_29 : decode cX3_drawAll 29 = .ok (.aload_n 0, 1) := by decide +kernel
theorem dX3_drawAll_30 : decode cX3_drawAll 30 = .ok (.getfield 21, 3) := by decide +kernel
theorem dX3_drawAll_33 : decode cX3_drawAll 33 = .ok (.bipush 20, 2) := by decide +kernel
theorem dX3_drawAll_35 : decode cX3_drawAll 35 = .ok (.iload_n 2, 1) := by decide +kernel
theorem dX3_drawAll_36 : decode cX3_drawAll 36 = .ok (.imul, 1) := by decide +kernel
theorem dX3_drawAll_37 : decode cX3_drawAll 37 = .ok (.iload_n 3, 1) := by decide +kernel
theorem dX3_drawAll_38 : decode cX3_drawAll 38 = .ok (.iadd, 1) := by decide +kernel
theorem dX3_drawAll_39 : decode cX3_drawAll 39 = .ok (.aload_n 0, 1) := by decide +kernel
theorem dX3_drawAll_40 : decode cX3_drawAll 40 = .ok (.invokevirtual 36, 3) := by decide +kernel
theorem dX3_drawAll_43 : decode cX3_drawAll 43 = .ok (.lastore, 1) := by decide +kernel
theorem dX3_drawAll_44 : decode cX3_drawAll 44 = .ok (.iinc 3 1, 3) := by decide +kernel
theorem dX3_drawAll_47 : decode cX3_drawAll 47 = .ok (.goto (-29), 3) := by decide +kernel
theorem dX3_drawAll_50 : decode cX3_drawAll 50 = .ok (.iconst 0, 1) := by decide +kernel
theorem dX3_drawAll_51 : decode cX3_drawAll 51 = .ok (.istore_n 3, 1) := by decide +kernel
theorem dX3_drawAll_52 : decode cX3_drawAll 52 = .ok (.iload_n 3, 1) := by decide +kernel
theorem dX3_drawAll_53 : decode cX3_drawAll 53 = .ok (.iconst 4, 1) := by decide +kernel
theorem dX3_drawAll_54 : decode cX3_drawAll 54 = .ok (.if_icmp .ge 27, 3) := by decide +kernel
theorem dX3_drawAll_57 : decode cX3_drawAll 57 = .ok (.aload_n 0, 1) := by decide +kernel
theorem dX3_drawAll_58 : decode cX3_drawAll 58 = .ok (.getfield 21, 3) := by decide +kernel
theorem dX3_drawAll_61 : decode cX3_drawAll 61 = .ok (.bipush 20, 2) := by decide +kernel
theorem dX3_drawAll_63 : decode cX3_drawAll 63 = .ok (.iload_n 2, 1) := by decide +kernel
theorem dX3_drawAll_64 : decode cX3_drawAll 64 = .ok (.imul, 1) := by decide +kernel
theorem dX3_drawAll_65 : decode cX3_drawAll 65 = .ok (.bipush 16, 2) := by decide +kernel
theorem dX3_drawAll_67 : decode cX3_drawAll 67 = .ok (.iadd, 1) := by decide +kernel
theorem dX3_drawAll_68 : decode cX3_drawAll 68 = .ok (.iload_n 3, 1) := by decide +kernel
theorem dX3_drawAll_69 : decode cX3_drawAll 69 = .ok (.iadd, 1) := by decide +kernel
theorem dX3_drawAll_70 : decode cX3_drawAll 70 = .ok (.aload_n 0, 1) := by decide +kernel
theorem dX3_drawAll_71 : decode cX3_drawAll 71 = .ok (.invokevirtual 36, 3) := by decide +kernel
theorem dX3_drawAll_74 : decode cX3_drawAll 74 = .ok (.lastore, 1) := by decide +kernel
theorem dX3_drawAll_75 : decode cX3_drawAll 75 = .ok (.iinc 3 1, 3) := by decide +kernel
theorem dX3_drawAll_78 : decode cX3_drawAll 78 = .ok (.goto (-26), 3) := by decide +kernel
theorem dX3_drawAll_81 : decode cX3_drawAll 81 = .ok (.iinc 2 1, 3) := by decide +kernel
theorem dX3_drawAll_84 : decode cX3_drawAll 84 = .ok (.goto (-73), 3) := by decide +kernel
theorem dX3_drawAll_87 : decode cX3_drawAll 87 = .ok (.return_, 1) := by decide +kernel
set_option maxRecDepth 20000 in
theorem ggX3_drawMark_X3_drawBit : GoodIn wsX3_drawMark wsX3_drawBit := goodIn_r _ [6, 7, 8, 9, 10, 11, 12, 13, 14, 15, 16, 17] (by decide +kernel) (by decide +kernel)
set_option maxRecDepth 20000 in
theorem gX3_drawMark_X3_drawBit : GoodIn wsX3_drawMark (wsV RX3 40 RX3 yX3_drawBit wsX3_drawBit) := goodIn_app (goodIn_of _ (by decide +kernel)) ggX3_drawMark_X3_drawBit
theorem dX3_drawMark_0 : decode cX3_drawMark 0 = .ok (.lconst 0, 1) := by decide +kernel
theorem dX3_drawMark_1 : decode cX3_drawMark 1 = .ok (.lstore_n 1, 1) := by decide +kernel
theorem dX3_drawMark_2 : decode cX3_drawMark 2 = .ok (.iconst 0, 1) := by decide +kernel
theorem dX3_drawMark_3 : decode cX3_drawMark 3 = .ok (.istore_n 3, 1) := by decide +kernel
theorem dX3_drawMark_4 : decode cX3_drawMark 4 = .ok (.iload_n 3, 1) := by decide +kernel
theorem dX3_drawMark_5 : decode cX3_drawMark 5 = .ok (.aload_n 0, 1) := by decide +kernel
theorem dX3_drawMark_6 : decode cX3_drawMark 6 = .ok (.getfield 15, 3) := by decide +kernel
theorem dX3_drawMark_9 : decode cX3_drawMark 9 = .ok (.if_icmp .ge 18, 3) := by decide +kernel
theorem dX3_drawMark_12 : decode cX3_drawMark 12 = .ok (.lload_n 1, 1) := by decide +kernel
theorem dX3_drawMark_13 : decode cX3_drawMark 13 = .ok (.lconst 1, 1) := by decide +kernel
theorem dX3_drawMark_14 : decode cX3_drawMark 14 = .ok (.aload_n 0, 1) := by decide +kernel
theorem dX3_drawMark_15 : decode cX3_drawMark 15 = .ok (.invokevirtual 40, 3) := by decide +kernel
theorem dX3_drawMark_18 : decode cX3_drawMark 18 = .ok (.lshl, 1) := by decide +kernel
theorem dX3_drawMark_19 : decode cX3_drawMark 19 = .ok (.lor, 1) := by decide +kernel
theorem dX3_drawMark_20 : decode cX3_drawMark 20 = .ok (.lstore_n 1, 1) := by decide +kernel
theorem dX3_drawMark_21 : decode cX3_drawMark 21 = .ok (.iinc 3 1, 3) := by decide +kernel
theorem dX3_drawMark_24 : decode cX3_drawMark 24 = .ok (.goto (-20), 3) := by decide +kernel
theorem dX3_drawMark_27 : decode cX3_drawMark 27 = .ok (.lload_n 1, 1) := by decide +kernel
theorem dX3_drawMark_28 : decode cX3_drawMark 28 = .ok (.lreturn, 1) := by decide +kernel
theorem dX3_drawBit_0 : decode cX3_drawBit 0 = .ok (.aload_n 0, 1) := by decide +kernel
theorem dX3_drawBit_1 : decode cX3_drawBit 1 = .ok (.ldc2_w 44, 3) := by decide +kernel
theorem dX3_drawBit_4 : decode cX3_drawBit 4 = .ok (.aload_n 0, 1) := by decide +kernel
theorem dX3_drawBit_5 : decode cX3_drawBit 5 = .ok (.getfield 32, 3) := by decide +kernel
theorem dX3_drawBit_8 : decode cX3_drawBit 8 = .ok (.lmul, 1) := by decide +kernel
theorem dX3_drawBit_9 : decode cX3_drawBit 9 = .ok (.ldc2_w 46, 3) := by decide +kernel
theorem dX3_drawBit_12 : decode cX3_drawBit 12 = .ok (.ladd, 1) := by decide +kernel
theorem dX3_drawBit_13 : decode cX3_drawBit 13 = .ok (.ldc2_w 48, 3) := by decide +kernel
theorem dX3_drawBit_16 : decode cX3_drawBit 16 = .ok (.lrem, 1) := by decide +kernel
theorem dX3_drawBit_17 : decode cX3_drawBit 17 = .ok (.putfield 32, 3) := by decide +kernel
theorem dX3_drawBit_20 : decode cX3_drawBit 20 = .ok (.aload_n 0, 1) := by decide +kernel
theorem dX3_drawBit_21 : decode cX3_drawBit 21 = .ok (.getfield 9, 3) := by decide +kernel
theorem dX3_drawBit_24 : decode cX3_drawBit 24 = .ok (.ifCond .le 21, 3) := by decide +kernel
theorem dX3_drawBit_27 : decode cX3_drawBit 27 = .ok (.aload_n 0, 1) := by decide +kernel
theorem dX3_drawBit_28 : decode cX3_drawBit 28 = .ok (.getfield 32, 3) := by decide +kernel
theorem dX3_drawBit_31 : decode cX3_drawBit 31 = .ok (.ldc2_w 50, 3) := by decide +kernel
theorem dX3_drawBit_34 : decode cX3_drawBit 34 = .ok (.ldiv, 1) := by decide +kernel
theorem dX3_drawBit_35 : decode cX3_drawBit 35 = .ok (.aload_n 0, 1) := by decide +kernel
theorem dX3_drawBit_36 : decode cX3_drawBit 36 = .ok (.getfield 9, 3) := by decide +kernel
theorem dX3_drawBit_39 : decode cX3_drawBit 39 = .ok (.i2l, 1) := by decide +kernel
theorem dX3_drawBit_40 : decode cX3_drawBit 40 = .ok (.lrem, 1) := by decide +kernel
theorem dX3_drawBit_41 : decode cX3_drawBit 41 = .ok (.l2i, 1) := by decide +kernel
theorem dX3_drawBit_42 : decode cX3_drawBit 42 = .ok (.goto 4, 3) := by decide +kernel
theorem dX3_drawBit_45 : decode cX3_drawBit 45 = .ok (.iconst 0, 1) := by decide +kernel
theorem dX3_drawBit_46 : decode cX3_drawBit 46 = .ok (.ireturn, 1) := by decide +kernel
set_option maxRecDepth 20000 in
theorem ggX3_oddsAbove_X3_reduced : GoodIn wsX3_oddsAbove wsX3_reduced := goodIn_r _ [5, 6, 12, 13, 14, 15, 16] (by decide +kernel) (by decide +kernel)
set_option maxRecDepth 20000 in
theorem gX3_oddsAbove_X3_reduced : GoodIn wsX3_oddsAbove (wsV RX3 52 RX3 yX3_reduced wsX3_reduced) := goodIn_app (goodIn_of _ (by decide +kernel)) ggX3_oddsAbove_X3_reduced
set_option maxRecDepth 20000 in
theorem ggX3_oddsAbove_X3_power : GoodIn wsX3_oddsAbove wsX3_power := goodIn_r _ [10, 11, 12, 13, 14, 15, 16] (by decide +kernel) (by decide +kernel)
set_option maxRecDepth 20000 in
theorem gX3_oddsAbove_X3_power : GoodIn wsX3_oddsAbove (wsV RX3 56 RX3 yX3_power wsX3_power) := goodIn_app (goodIn_of _ (by decide +kernel)) ggX3_oddsAbove_X3_power
theorem dX3_oddsAbove_0 : decode cX3_oddsAbove 0 = .ok (.aload_n 0, 1) := by decide +kernel
theorem dX3_oddsAbove_1 : decode cX3_oddsAbove 1 = .ok (.aload_n 0, 1) := by decide +kernel
theorem dX3_oddsAbove_2 : decode cX3_oddsAbove 2 = .ok (.iload_n 1, 1) := by decide +kernel
theorem dX3_oddsAbove_3 : decode cX3_oddsAbove 3 = .ok (.iload_n 1, 1) := by decide +kernel
theorem dX3_oddsAbove_4 : decode cX3_oddsAbove 4 = .ok (.invokevirtual 52, 3) := by decide +kernel
theorem dX3_oddsAbove_7 : decode cX3_oddsAbove 7 = .ok (.invokevirtual 56, 3) := by decide +kernel
theorem dX3_oddsAbove_10 : decode cX3_oddsAbove 10 = .ok (.ireturn, 1) := by decide +kernel
set_option maxRecDepth 20000 in
theorem ggX3_oddsBelow_X3_reduced : GoodIn wsX3_oddsBelow wsX3_reduced := goodIn_r _ [6, 1, 12, 13, 14, 15, 16] (by decide +kernel) (by decide +kernel)
set_option maxRecDepth 20000 in
theorem gX3_oddsBelow_X3_reduced : GoodIn wsX3_oddsBelow (wsV RX3 52 RX3 yX3_reduced wsX3_reduced) := goodIn_app (goodIn_of _ (by decide +kernel)) ggX3_oddsBelow_X3_reduced
set_option maxRecDepth 20000 in
theorem ggX3_oddsBelow_X3_power : GoodIn wsX3_oddsBelow wsX3_power := goodIn_r _ [10, 11, 12, 13, 14, 15, 16] (by decide +kernel) (by decide +kernel)
set_option maxRecDepth 20000 in
theorem gX3_oddsBelow_X3_power : GoodIn wsX3_oddsBelow (wsV RX3 56 RX3 yX3_power wsX3_power) := goodIn_app (goodIn_of _ (by decide +kernel)) ggX3_oddsBelow_X3_power
theorem dX3_oddsBelow_0 : decode cX3_oddsBelow 0 = .ok (.aload_n 0, 1) := by decide +kernel
theorem dX3_oddsBelow_1 : decode cX3_oddsBelow 1 = .ok (.aload_n 0, 1) := by decide +kernel
theorem dX3_oddsBelow_2 : decode cX3_oddsBelow 2 = .ok (.aload_n 0, 1) := by decide +kernel
theorem dX3_oddsBelow_3 : decode cX3_oddsBelow 3 = .ok (.getfield 9, 3) := by decide +kernel
theorem dX3_oddsBelow_6 : decode cX3_oddsBelow 6 = .ok (.iload_n 1, 1) := by decide +kernel
theorem dX3_oddsBelow_7 : decode cX3_oddsBelow 7 = .ok (.invokevirtual 52, 3) := by decide +kernel
theorem dX3_oddsBelow_10 : decode cX3_oddsBelow 10 = .ok (.invokevirtual 56, 3) := by decide +kernel
theorem dX3_oddsBelow_13 : decode cX3_oddsBelow 13 = .ok (.ireturn, 1) := by decide +kernel
theorem dX3_reduced_0 : decode cX3_reduced 0 = .ok (.aload_n 0, 1) := by decide +kernel
theorem dX3_reduced_1 : decode cX3_reduced 1 = .ok (.getfield 9, 3) := by decide +kernel
theorem dX3_reduced_4 : decode cX3_reduced 4 = .ok (.istore_n 3, 1) := by decide +kernel
theorem dX3_reduced_5 : decode cX3_reduced 5 = .ok (.iload_n 3, 1) := by decide +kernel
theorem dX3_reduced_6 : decode cX3_reduced 6 = .ok (.iconst 1, 1) := by decide +kernel
theorem dX3_reduced_7 : decode cX3_reduced 7 = .ok (.if_icmp .le 28, 3) := by decide +kernel
theorem dX3_reduced_10 : decode cX3_reduced 10 = .ok (.iload_n 2, 1) := by decide +kernel
theorem dX3_reduced_11 : decode cX3_reduced 11 = .ok (.iload_n 3, 1) := by decide +kernel
theorem dX3_reduced_12 : decode cX3_reduced 12 = .ok (.irem, 1) := by decide +kernel
theorem dX3_reduced_13 : decode cX3_reduced 13 = .ok (.ifCond .ne 16, 3) := by decide +kernel
theorem dX3_reduced_16 : decode cX3_reduced 16 = .ok (.aload_n 0, 1) := by decide +kernel
theorem dX3_reduced_17 : decode cX3_reduced 17 = .ok (.getfield 9, 3) := by decide +kernel
theorem dX3_reduced_20 : decode cX3_reduced 20 = .ok (.iload_n 3, 1) := by decide +kernel
theorem dX3_reduced_21 : decode cX3_reduced 21 = .ok (.irem, 1) := by decide +kernel
theorem dX3_reduced_22 : decode cX3_reduced 22 = .ok (.ifCond .ne 7, 3) := by decide +kernel
theorem dX3_reduced_25 : decode cX3_reduced 25 = .ok (.iload_n 1, 1) := by decide +kernel
theorem dX3_reduced_26 : decode cX3_reduced 26 = .ok (.iload_n 3, 1) := by decide +kernel
theorem dX3_reduced_27 : decode cX3_reduced 27 = .ok (.idiv, 1) := by decide +kernel
theorem dX3_reduced_28 : decode cX3_reduced 28 = .ok (.ireturn, 1) := by decide +kernel
theorem dX3_reduced_29 : decode cX3_reduced 29 = .ok (.iinc 3 (-1), 3) := by decide +kernel
theorem dX3_reduced_32 : decode cX3_reduced 32 = .ok (.goto (-27), 3) := by decide +kernel
theorem dX3_reduced_35 : decode cX3_reduced 35 = .ok (.iload_n 1, 1) := by decide +kernel
theorem dX3_reduced_36 : decode cX3_reduced 36 = .ok (.ireturn, 1) := by decide +kernel
theorem dX3_power_0 : decode cX3_power 0 = .ok (.iconst 1, 1) := by decide +kernel
theorem dX3_power_1 : decode cX3_power 1 = .ok (.istore_n 2, 1) := by decide +kernel
theorem dX3_power_2 : decode cX3_power 2 = .ok (.iconst 0, 1) := by decide +kernel
theorem dX3_power_3 : decode cX3_power 3 = .ok (.istore_n 3, 1) := by decide +kernel
theorem dX3_power_4 : decode cX3_power 4 = .ok (.iload_n 3, 1) := by decide +kernel
theorem dX3_power_5 : decode cX3_power 5 = .ok (.aload_n 0, 1) := by decide +kernel
theorem dX3_power_6 : decode cX3_power 6 = .ok (.getfield 15, 3) := by decide +kernel
theorem dX3_power_9 : decode cX3_power 9 = .ok (.if_icmp .ge 13, 3) := by decide +kernel
theorem dX3_power_12 : decode cX3_power 12 = .ok (.iload_n 2, 1) := by decide +kernel
theorem dX3_power_13 : decode cX3_power 13 = .ok (.iload_n 1, 1) := by decide +kernel
theorem dX3_power_14 : decode cX3_power 14 = .ok (.imul, 1) := by decide +kernel
theorem dX3_power_15 : decode cX3_power 15 = .ok (.istore_n 2, 1) := by decide +kernel
theorem dX3_power_16 : decode cX3_power 16 = .ok (.iinc 3 1, 3) := by decide +kernel
theorem dX3_power_19 : decode cX3_power 19 = .ok (.goto (-15), 3) := by decide +kernel
theorem dX3_power_22 : decode cX3_power 22 = .ok (.iload_n 2, 1) := by decide +kernel
theorem dX3_power_23 : decode cX3_power 23 = .ok (.ireturn, 1) := by decide +kernel
theorem dX4_init_0 : decode cX4_init 0 = .ok (.aload_n 0, 1) := by decide +kernel
theorem dX4_init_1 : decode cX4_init 1 = .ok (.invokespecial 3, 3) := by decide +kernel
theorem dX4_init_4 : decode cX4_init 4 = .ok (.aload_n 0, 1) := by decide +kernel
theorem dX4_init_5 : decode cX4_init 5 = .ok (.bipush 25, 2) := by decide +kernel
theorem dX4_init_7 : decode cX4_init 7 = .ok (.newarray .int, 2) := by decide +kernel
theorem dX4_init_9 : decode cX4_init 9 = .ok (.putfield 11, 3) := by decide +kernel
theorem dX4_init_12 : decode cX4_init 12 = .ok (.return_, 1) := by decide +kernel
theorem dX4_size_0 : decode cX4_size 0 = .ok (.aload_n 0, 1) := by decide +kernel
theorem dX4_size_1 : decode cX4_size 1 = .ok (.getfield 15, 3) := by decide +kernel
theorem dX4_size_4 : decode cX4_size 4 = .ok (.ireturn, 1) := by decide +kernel
theorem dX4_isFull_0 : decode cX4_isFull 0 = .ok (.aload_n 0, 1) := by decide +kernel
theorem dX4_isFull_1 : decode cX4_isFull 1 = .ok (.getfield 15, 3) := by decide +kernel
theorem dX4_isFull_4 : decode cX4_isFull 4 = .ok (.bipush 25, 2) := by decide +kernel
theorem dX4_isFull_6 : decode cX4_isFull 6 = .ok (.if_icmp .lt 7, 3) := by decide +kernel
theorem dX4_isFull_9 : decode cX4_isFull 9 = .ok (.iconst 1, 1) := by decide +kernel
theorem dX4_isFull_10 : decode cX4_isFull 10 = .ok (.goto 4, 3) := by decide +kernel
theorem dX4_isFull_13 : decode cX4_isFull 13 = .ok (.iconst 0, 1) := by decide +kernel
theorem dX4_isFull_14 : decode cX4_isFull 14 = .ok (.ireturn, 1) := by decide +kernel
theorem dX4_append_0 : decode cX4_append 0 = .ok (.aload_n 0, 1) := by decide +kernel
theorem dX4_append_1 : decode cX4_append 1 = .ok (.getfield 15, 3) := by decide +kernel
theorem dX4_append_4 : decode cX4_append 4 = .ok (.bipush 25, 2) := by decide +kernel
theorem dX4_append_6 : decode cX4_append 6 = .ok (.if_icmp .ge 23, 3) := by decide +kernel
theorem dX4_append_9 : decode cX4_append 9 = .ok (.aload_n 0, 1) := by decide +kernel
theorem dX4_append_10 : decode cX4_append 10 = .ok (.getfield 11, 3) := by decide +kernel
theorem dX4_append_13 : decode cX4_append 13 = .ok (.aload_n 0, 1) := by decide +kernel
theorem dX4_append_14 : decode cX4_append 14 = .ok (.getfield 15, 3) := by decide +kernel
theorem dX4_append_17 : decode cX4_append 17 = .ok (.iload_n 1, 1) := by decide +kernel
theorem dX4_append_18 : decode cX4_append 18 = .ok (.iastore, 1) := by decide +kernel
theorem dX4_append_19 : decode cX4_append 19 = .ok (.aload_n 0, 1) := by decide +kernel
theorem dX4_append_20 : decode cX4_append 20 = .ok (.dup, 1) := by decide +kernel
theorem dX4_append_21 : decode cX4_append 21 = .ok (.getfield 15, 3) := by decide +kernel
theorem dX4_append_24 : decode cX4_append 24 = .ok (.iconst 1, 1) := by decide +kernel
theorem dX4_append_25 : decode cX4_append 25 = .ok (.iadd, 1) := by decide +kernel
theorem dX4_append_26 : decode cX4_append 26 = .ok (.putfield 15, 3) := by decide +kernel
theorem dX4_append_29 : decode cX4_append 29 = .ok (.return_, 1) := by decide +kernel
theorem dX4_clear_0 : decode cX4_clear 0 = .ok (.aload_n 0, 1) := by decide +kernel
theorem dX4_clear_1 : decode cX4_clear 1 = .ok (.iconst 0, 1) := by decide +kernel
theorem dX4_clear_2 : decode cX4_clear 2 = .ok (.putfield 15, 3) := by decide +kernel
theorem dX4_clear_5 : decode cX4_clear 5 = .ok (.return_, 1) := by decide +kernel
theorem dX4_codeAt_0 : decode cX4_codeAt 0 = .ok (.iload_n 1, 1) := by decide +kernel
theorem dX4_codeAt_1 : decode cX4_codeAt 1 = .ok (.ifCond .lt 20, 3) := by decide +kernel
theorem dX4_codeAt_4 : decode cX4_codeAt 4 = .ok (.iload_n 1, 1) := by decide +kernel
theorem dX4_codeAt_5 : decode cX4_codeAt 5 = .ok (.aload_n 0, 1) := by decide +kernel
theorem dX4_codeAt_6 : decode cX4_codeAt 6 = .ok (.getfield 15, 3) := by decide +kernel
theorem dX4_codeAt_9 : decode cX4_codeAt 9 = .ok (.if_icmp .ge 12, 3) := by decide +kernel
theorem dX4_codeAt_12 : decode cX4_codeAt 12 = .ok (.aload_n 0, 1) := by decide +kernel
theorem dX4_codeAt_13 : decode cX4_codeAt 13 = .ok (.getfield 11, 3) := by decide +kernel
theorem dX4_codeAt_16 : decode cX4_codeAt 16 = .ok (.iload_n 1, 1) := by decide +kernel
theorem dX4_codeAt_17 : decode cX4_codeAt 17 = .ok (.iaload, 1) := by decide +kernel
theorem dX4_codeAt_18 : decode cX4_codeAt 18 = .ok (.goto 4, 3) := by decide +kernel
theorem dX4_codeAt_21 : decode cX4_codeAt 21 = .ok (.iconst 0, 1) := by decide +kernel
theorem dX4_codeAt_22 : decode cX4_codeAt 22 = .ok (.ireturn, 1) := by decide +kernel
set_option maxRecDepth 20000 in
theorem ggX4_digitAt_X4_codeAt : GoodIn wsX4_digitAt wsX4_codeAt := goodIn_r _ [5, 6, 7, 8, 9] (by decide +kernel) (by decide +kernel)
set_option maxRecDepth 20000 in
theorem gX4_digitAt_X4_codeAt : GoodIn wsX4_digitAt (wsV RX4 19 RX4 yX4_codeAt wsX4_codeAt) := goodIn_app (goodIn_of _ (by decide +kernel)) ggX4_digitAt_X4_codeAt
theorem dX4_digitAt_0 : decode cX4_digitAt 0 = .ok (.aload_n 0, 1) := by decide +kernel
theorem dX4_digitAt_1 : decode cX4_digitAt 1 = .ok (.iload_n 1, 1) := by decide +kernel
theorem dX4_digitAt_2 : decode cX4_digitAt 2 = .ok (.invokevirtual 19, 3) := by decide +kernel
theorem dX4_digitAt_5 : decode cX4_digitAt 5 = .ok (.bipush 48, 2) := by decide +kernel
theorem dX4_digitAt_7 : decode cX4_digitAt 7 = .ok (.isub, 1) := by decide +kernel
theorem dX4_digitAt_8 : decode cX4_digitAt 8 = .ok (.ireturn, 1) := by decide +kernel
theorem dX4_pairCount_0 : decode cX4_pairCount 0 = .ok (.aload_n 0, 1) := by decide +kernel
theorem dX4_pairCount_1 : decode cX4_pairCount 1 = .ok (.getfield 15, 3) := by decide +kernel
theorem dX4_pairCount_4 : decode cX4_pairCount 4 = .ok (.iconst 1, 1) := by decide +kernel
theorem dX4_pairCount_5 : decode cX4_pairCount 5 = .ok (.isub, 1) := by decide +kernel
theorem dX4_pairCount_6 : decode cX4_pairCount 6 = .ok (.iconst 3, 1) := by decide +kernel
theorem dX4_pairCount_7 : decode cX4_pairCount 7 = .ok (.idiv, 1) := by decide +kernel
theorem dX4_pairCount_8 : decode cX4_pairCount 8 = .ok (.ireturn, 1) := by decide +kernel
set_option maxRecDepth 20000 in
theorem ggX4_firstOfPair_X4_digitAt : GoodIn wsX4_firstOfPair wsX4_digitAt := goodIn_r _ [5, 6, 7, 8, 4, 9, 10, 11, 12, 13] (by decide +kernel) (by decide +kernel)
set_option maxRecDepth 20000 in
theorem gX4_firstOfPair_X4_digitAt : GoodIn wsX4_firstOfPair (wsV RX4 23 RX4 yX4_digitAt wsX4_digitAt) := goodIn_app (goodIn_of _ (by decide +kernel)) ggX4_firstOfPair_X4_digitAt
theorem dX4_firstOfPair_0 : decode cX4_firstOfPair 0 = .ok (.aload_n 0, 1) := by decide +kernel
theorem dX4_firstOfPair_1 : decode cX4_firstOfPair 1 = .ok (.iconst 3, 1) := by decide +kernel
theorem dX4_firstOfPair_2 : decode cX4_firstOfPair 2 = .ok (.iload_n 1, 1) := by decide +kernel
theorem dX4_firstOfPair_3 : decode cX4_firstOfPair 3 = .ok (.imul, 1) := by decide +kernel
theorem dX4_firstOfPair_4 : decode cX4_firstOfPair 4 = .ok (.iconst 2, 1) := by decide +kernel
theorem dX4_firstOfPair_5 : decode cX4_firstOfPair 5 = .ok (.iadd, 1) := by decide +kernel
theorem dX4_firstOfPair_6 : decode cX4_firstOfPair 6 = .ok (.invokevirtual 23, 3) := by decide +kernel
theorem dX4_firstOfPair_9 : decode cX4_firstOfPair 9 = .ok (.ireturn, 1) := by decide +kernel
set_option maxRecDepth 20000 in
theorem ggX4_secondOfPair_X4_digitAt : GoodIn wsX4_secondOfPair wsX4_digitAt := goodIn_r _ [5, 6, 7, 8, 4, 9, 10, 11, 12, 13] (by decide +kernel) (by decide +kernel)
set_option maxRecDepth 20000 in
theorem gX4_secondOfPair_X4_digitAt : GoodIn wsX4_secondOfPair (wsV RX4 23 RX4 yX4_digitAt wsX4_digitAt) := goodIn_app (goodIn_of _ (by decide +kernel)) ggX4_secondOfPair_X4_digitAt
theorem dX4_secondOfPair_0 : decode cX4_secondOfPair 0 = .ok (.aload_n 0, 1) := by decide +kernel
theorem dX4_secondOfPair_1 : decode cX4_secondOfPair 1 = .ok (.iconst 3, 1) := by decide +kernel
theorem dX4_secondOfPair_2 : decode cX4_secondOfPair 2 = .ok (.iload_n 1, 1) := by decide +kernel
theorem dX4_secondOfPair_3 : decode cX4_secondOfPair 3 = .ok (.imul, 1) := by decide +kernel
theorem dX4_secondOfPair_4 : decode cX4_secondOfPair 4 = .ok (.iconst 3, 1) := by decide +kernel
theorem dX4_secondOfPair_5 : decode cX4_secondOfPair 5 = .ok (.iadd, 1) := by decide +kernel
theorem dX4_secondOfPair_6 : decode cX4_secondOfPair 6 = .ok (.invokevirtual 23, 3) := by decide +kernel
theorem dX4_secondOfPair_9 : decode cX4_secondOfPair 9 = .ok (.ireturn, 1) := by decide +kernel
set_option maxRecDepth 20000 in
theorem ggX4_isWhole_X4_firstWrong : GoodIn wsX4_isWhole wsX4_firstWrong := goodIn_r _ [6, 1, 7, 8, 9, 5, 10, 11, 12, 13, 14, 15, 16, 17, 18, 19, 20, 21, 22, 23, 24, 25, 26, 27, 28, 29, 30, 31, 32, 33, 34, 35, 36, 37] (by decide +kernel) (by decide +kernel)
set_option maxRecDepth 20000 in
theorem gX4_isWhole_X4_firstWrong : GoodIn wsX4_isWhole (wsV RX4 26 RX4 yX4_firstWrong wsX4_firstWrong) := goodIn_app (goodIn_of _ (by decide +kernel)) ggX4_isWhole_X4_firstWrong
theorem dX4_isWhole_0 : decode cX4_isWhole 0 = .ok (.aload_n 0, 1) := by decide +kernel
theorem dX4_isWhole_1 : decode cX4_isWhole 1 = .ok (.getfield 15, 3) := by decide +kernel
theorem dX4_isWhole_4 : decode cX4_isWhole 4 = .ok (.iconst 3, 1) := by decide +kernel
theorem dX4_isWhole_5 : decode cX4_isWhole 5 = .ok (.if_icmp .le 28, 3) := by decide +kernel
theorem dX4_isWhole_8 : decode cX4_isWhole 8 = .ok (.aload_n 0, 1) := by decide +kernel
theorem dX4_isWhole_9 : decode cX4_isWhole 9 = .ok (.getfield 15, 3) := by decide +kernel
theorem dX4_isWhole_12 : decode cX4_isWhole 12 = .ok (.iconst 3, 1) := by decide +kernel
theorem dX4_isWhole_13 : decode cX4_isWhole 13 = .ok (.irem, 1) := by decide +kernel
theorem dX4_isWhole_14 : decode cX4_isWhole 14 = .ok (.iconst 1, 1) := by decide +kernel
theorem dX4_isWhole_15 : decode cX4_isWhole 15 = .ok (.if_icmp .ne 18, 3) := by decide +kernel
theorem dX4_isWhole_18 : decode cX4_isWhole 18 = .ok (.aload_n 0, 1) := by decide +kernel
theorem dX4_isWhole_19 : decode cX4_isWhole 19 = .ok (.invokevirtual 26, 3) := by decide +kernel
theorem dX4_isWhole_22 : decode cX4_isWhole 22 = .ok (.aload_n 0, 1) := by decide +kernel
theorem dX4_isWhole_23 : decode cX4_isWhole 23 = .ok (.getfield 15, 3) := by decide +kernel
theorem dX4_isWhole_26 : decode cX4_isWhole 26 = .ok (.if_icmp .ne 7, 3) := by decide +kernel
theorem dX4_isWhole_29 : decode cX4_isWhole 29 = .ok (.iconst 1, 1) := by decide +kernel
theorem dX4_isWhole_30 : decode cX4_isWhole 30 = .ok (.goto 4, 3) := by decide +kernel
theorem dX4_isWhole_33 : decode cX4_isWhole 33 = .ok (.iconst 0, 1) := by decide +kernel
theorem dX4_isWhole_34 : decode cX4_isWhole 34 = .ok (.ireturn, 1) := by decide +kernel
set_option maxRecDepth 20000 in
theorem ggX4_firstWrong_X4_fits : GoodIn wsX4_firstWrong wsX4_fits := goodIn_r _ [6, 7, 8, 9, 5, 10, 11, 12, 13, 14, 1, 15, 16, 17, 18, 19, 20, 21, 22, 23, 24, 25, 26, 27, 28, 29, 30, 31, 32, 33] (by decide +kernel) (by decide +kernel)
set_option maxRecDepth 20000 in
theorem gX4_firstWrong_X4_fits : GoodIn wsX4_firstWrong (wsV RX4 30 RX4 yX4_fits wsX4_fits) := goodIn_app (goodIn_of _ (by decide +kernel)) ggX4_firstWrong_X4_fits
theorem dX4_firstWrong_0 : decode cX4_firstWrong 0 = .ok (.iconst 0, 1) := by decide +kernel
theorem dX4_firstWrong_1 : decode cX4_firstWrong 1 = .ok (.istore_n 1, 1) := by decide +kernel
theorem dX4_firstWrong_2 : decode cX4_firstWrong 2 = .ok (.iload_n 1, 1) := by decide +kernel
theorem dX4_firstWrong_3 : decode cX4_firstWrong 3 = .ok (.aload_n 0, 1) := by decide +kernel
theorem dX4_firstWrong_4 : decode cX4_firstWrong 4 = .ok (.getfield 15, 3) := by decide +kernel
theorem dX4_firstWrong_7 : decode cX4_firstWrong 7 = .ok (.if_icmp .ge 19, 3) := by decide +kernel
theorem dX4_firstWrong_10 : decode cX4_firstWrong 10 = .ok (.aload_n 0, 1) := by decide +kernel
theorem dX4_firstWrong_11 : decode cX4_firstWrong 11 = .ok (.iload_n 1, 1) := by decide +kernel
theorem dX4_firstWrong_12 : decode cX4_firstWrong 12 = .ok (.invokevirtual 30, 3) := by decide +kernel
theorem dX4_firstWrong_15 : decode cX4_firstWrong 15 = .ok (.ifCond .ne 5, 3) := by decide +kernel
theorem dX4_firstWrong_18 : decode cX4_firstWrong 18 = .ok (.iload_n 1, 1) := by decide +kernel
theorem dX4_firstWrong_19 : decode cX4_firstWrong 19 = .ok (.ireturn, 1) := by decide +kernel
theorem dX4_firstWrong_20 : decode cX4_firstWrong 20 = .ok (.iinc 1 1, 3) := by decide +kernel
theorem dX4_firstWrong_23 : decode cX4_firstWrong 23 = .ok (.goto (-21), 3) := by decide +kernel
theorem dX4_firstWrong_26 : decode cX4_firstWrong 26 = .ok (.aload_n 0, 1) := by decide +kernel
theorem dX4_firstWrong_27 : decode cX4_firstWrong 27 = .ok (.getfield 15, 3) := by decide +kernel
theorem dX4_firstWrong_30 : decode cX4_firstWrong 30 = .ok (.ireturn, 1) := by decide +kernel
set_option maxRecDepth 20000 in
theorem ggX4_fits_X4_digitAt : GoodIn wsX4_fits wsX4_digitAt := goodIn_r _ [5, 6, 7, 8, 4, 9, 10, 11, 28, 29] (by decide +kernel) (by decide +kernel)
set_option maxRecDepth 20000 in
theorem gX4_fits_X4_digitAt : GoodIn wsX4_fits (wsV RX4 23 RX4 yX4_digitAt wsX4_digitAt) := goodIn_app (goodIn_of _ (by decide +kernel)) ggX4_fits_X4_digitAt
set_option maxRecDepth 20000 in
theorem ggX4_fits_X4_codeAt : GoodIn wsX4_fits wsX4_codeAt := goodIn_r _ [9, 10, 11, 28, 29] (by decide +kernel) (by decide +kernel)
set_option maxRecDepth 20000 in
theorem gX4_fits_X4_codeAt : GoodIn wsX4_fits (wsV RX4 19 RX4 yX4_codeAt wsX4_codeAt) := goodIn_app (goodIn_of _ (by decide +kernel)) ggX4_fits_X4_codeAt
set_option maxRecDepth 20000 in
theorem ggX4_fits_X4_isNodeAt : GoodIn wsX4_fits wsX4_isNodeAt := goodIn_r _ [15, 1, 2, 3, 4, 5, 6, 7, 8, 9, 10, 11, 28, 29] (by decide +kernel) (by decide +kernel)
set_option maxRecDepth 20000 in
theorem gX4_fits_X4_isNodeAt : GoodIn wsX4_fits (wsV RX4 34 RX4 yX4_isNodeAt wsX4_isNodeAt) := goodIn_app (goodIn_of _ (by decide +kernel)) ggX4_fits_X4_isNodeAt
set_option maxRecDepth 20000 in
theorem ggX4_fits_X4_endsNewPair : GoodIn wsX4_fits wsX4_endsNewPair := goodIn_r _ [19, 1, 2, 3, 4, 5, 6, 7, 8, 9, 10, 11, 20, 21, 22, 23, 24, 25, 26, 27, 28, 29] (by decide +kernel) (by decide +kernel)
set_option maxRecDepth 20000 in
theorem gX4_fits_X4_endsNewPair : GoodIn wsX4_fits (wsV RX4 37 RX4 yX4_endsNewPair wsX4_endsNewPair) := goodIn_app (goodIn_of _ (by decide +kernel)) ggX4_fits_X4_endsNewPair
theorem dX4_fits_0 : decode cX4_fits 0 = .ok (.iload_n 1, 1) := by decide +kernel
theorem dX4_fits_1 : decode cX4_fits 1 = .ok (.ifCond .ne 28, 3) := by decide +kernel
theorem dX4_fits_4 : decode cX4_fits 4 = .ok (.aload_n 0, 1) := by decide +kernel
theorem dX4_fits_5 : decode cX4_fits 5 = .ok (.iconst 0, 1) := by decide +kernel
theorem dX4_fits_6 : decode cX4_fits 6 = .ok (.invokevirtual 23, 3) := by decide +kernel
theorem dX4_fits_9 : decode cX4_fits 9 = .ok (.iconst 2, 1) := by decide +kernel
theorem dX4_fits_10 : decode cX4_fits 10 = .ok (.if_icmp .lt 17, 3) := by decide +kernel
theorem dX4_fits_13 : decode cX4_fits 13 = .ok (.aload_n 0, 1) := by decide +kernel
theorem dX4_fits_14 : decode cX4_fits 14 = .ok (.iconst 0, 1) := by decide +kernel
theorem dX4_fits_15 : decode cX4_fits 15 = .ok (.invokevirtual 23, 3) := by decide +kernel
theorem dX4_fits_18 : decode cX4_fits 18 = .ok (.bipush 6, 2) := by decide +kernel
theorem dX4_fits_20 : decode cX4_fits 20 = .ok (.if_icmp .gt 7, 3) := by decide +kernel
theorem dX4_fits_23 : decode cX4_fits 23 = .ok (.iconst 1, 1) := by decide +kernel
theorem dX4_fits_24 : decode cX4_fits 24 = .ok (.goto 4, 3) := by decide +kernel
theorem dX4_fits_27 : decode cX4_fits 27 = .ok (.iconst 0, 1) := by decide +kernel
theorem dX4_fits_28 : decode cX4_fits 28 = .ok (.ireturn, 1) := by decide +kernel
theorem dX4_fits_29 : decode cX4_fits 29 = .ok (.iload_n 1, 1) := by decide +kernel
theorem dX4_fits_30 : decode cX4_fits 30 = .ok (.iconst 3, 1) := by decide +kernel
theorem dX4_fits_31 : decode cX4_fits 31 = .ok (.irem, 1) := by decide +kernel
theorem dX4_fits_32 : decode cX4_fits 32 = .ok (.lookupswitch 50 #[(1, 28), (2, 44)], 28) := by decide +kernel
theorem dX4_fits_60 : decode cX4_fits 60 = .ok (.aload_n 0, 1) := by decide +kernel
theorem dX4_fits_61 : decode cX4_fits 61 = .ok (.iload_n 1, 1) := by decide +kernel
theorem dX4_fits_62 : decode cX4_fits 62 = .ok (.invokevirtual 19, 3) := by decide +kernel
theorem dX4_fits_65 : decode cX4_fits 65 = .ok (.bipush 44, 2) := by decide +kernel
theorem dX4_fits_67 : decode cX4_fits 67 = .ok (.if_icmp .ne 7, 3) := by decide +kernel
theorem dX4_fits_70 : decode cX4_fits 70 = .ok (.iconst 1, 1) := by decide +kernel
theorem dX4_fits_71 : decode cX4_fits 71 = .ok (.goto 4, 3) := by decide +kernel
theorem dX4_fits_74 : decode cX4_fits 74 = .ok (.iconst 0, 1) := by decide +kernel
theorem dX4_fits_75 : decode cX4_fits 75 = .ok (.ireturn, 1) := by decide +kernel
theorem dX4_fits_76 : decode cX4_fits 76 = .ok (.aload_n 0, 1) := by decide +kernel
theorem dX4_fits_77 : decode cX4_fits 77 = .ok (.iload_n 1, 1) := by decide +kernel
theorem dX4_fits_78 : decode cX4_fits 78 = .ok (.invokevirtual 34, 3) := by decide +kernel
theorem dX4_fits_81 : decode cX4_fits 81 = .ok (.ireturn, 1) := by decide +kernel
theorem dX4_fits_82 : decode cX4_fits 82 = .ok (.aload_n 0, 1) := by decide +kernel
theorem dX4_fits_83 : decode cX4_fits 83 = .ok (.iload_n 1, 1) := by decide +kernel
theorem dX4_fits_84 : decode cX4_fits 84 = .ok (.invokevirtual 34, 3) := by decide +kernel
theorem dX4_fits_87 : decode cX4_fits 87 = .ok (.ifCond .eq 15, 3) := by decide +kernel
theorem dX4_fits_90 : decode cX4_fits 90 = .ok (.aload_n 0, 1) := by decide +kernel
theorem dX4_fits_91 : decode cX4_fits 91 = .ok (.iload_n 1, 1) := by decide +kernel
theorem dX4_fits_92 : decode cX4_fits 92 = .ok (.invokevirtual 37, 3) := by decide +kernel
theorem dX4_fits_95 : decode cX4_fits 95 = .ok (.ifCond .eq 7, 3) := by decide +kernel
theorem dX4_fits_98 : decode cX4_fits 98 = .ok (.iconst 1, 1) := by decide +kernel
theorem dX4_fits_99 : decode cX4_fits 99 = .ok (.goto 4, 3) := by decide +kernel
theorem dX4_fits_102 : decode cX4_fits 102 = .ok (.iconst 0, 1) := by decide +kernel
theorem dX4_fits_103 : decode cX4_fits 103 = .ok (.ireturn, 1) := by decide +kernel
set_option maxRecDepth 20000 in
theorem ggX4_isNodeAt_X4_digitAt : GoodIn wsX4_isNodeAt wsX4_digitAt := goodIn_r _ [5, 6, 7, 8, 4, 9, 10, 11, 12, 13] (by decide +kernel) (by decide +kernel)
set_option maxRecDepth 20000 in
theorem gX4_isNodeAt_X4_digitAt : GoodIn wsX4_isNodeAt (wsV RX4 23 RX4 yX4_digitAt wsX4_digitAt) := goodIn_app (goodIn_of _ (by decide +kernel)) ggX4_isNodeAt_X4_digitAt
theorem dX4_isNodeAt_0 : decode cX4_isNodeAt 0 = .ok (.aload_n 0, 1) := by decide +kernel
theorem dX4_isNodeAt_1 : decode cX4_isNodeAt 1 = .ok (.iload_n 1, 1) := by decide +kernel
theorem dX4_isNodeAt_2 : decode cX4_isNodeAt 2 = .ok (.invokevirtual 23, 3) := by decide +kernel
theorem dX4_isNodeAt_5 : decode cX4_isNodeAt 5 = .ok (.ifCond .lt 20, 3) := by decide +kernel
theorem dX4_isNodeAt_8 : decode cX4_isNodeAt 8 = .ok (.aload_n 0, 1) := by decide +kernel
theorem dX4_isNodeAt_9 : decode cX4_isNodeAt 9 = .ok (.iload_n 1, 1) := by decide +kernel
theorem dX4_isNodeAt_10 : decode cX4_isNodeAt 10 = .ok (.invokevirtual 23, 3) := by decide +kernel
theorem dX4_isNodeAt_13 : decode cX4_isNodeAt 13 = .ok (.aload_n 0, 1) := by decide +kernel
theorem dX4_isNodeAt_14 : decode cX4_isNodeAt 14 = .ok (.iconst 0, 1) := by decide +kernel
theorem dX4_isNodeAt_15 : decode cX4_isNodeAt 15 = .ok (.invokevirtual 23, 3) := by decide +kernel
theorem dX4_isNodeAt_18 : decode cX4_isNodeAt 18 = .ok (.if_icmp .ge 7, 3) := by decide +kernel
theorem dX4_isNodeAt_21 : decode cX4_isNodeAt 21 = .ok (.iconst 1, 1) := by decide +kernel
theorem dX4_isNodeAt_22 : decode cX4_isNodeAt 22 = .ok (.goto 4, 3) := by decide +kernel
theorem dX4_isNodeAt_25 : decode cX4_isNodeAt 25 = .ok (.iconst 0, 1) := by decide +kernel
theorem dX4_isNodeAt_26 : decode cX4_isNodeAt 26 = .ok (.ireturn, 1) := by decide +kernel
set_option maxRecDepth 20000 in
theorem ggX4_endsNewPair_X4_digitAt : GoodIn wsX4_endsNewPair wsX4_digitAt := goodIn_r _ [5, 6, 7, 8, 4, 9, 10, 11, 20, 21] (by decide +kernel) (by decide +kernel)
set_option maxRecDepth 20000 in
theorem gX4_endsNewPair_X4_digitAt : GoodIn wsX4_endsNewPair (wsV RX4 23 RX4 yX4_digitAt wsX4_digitAt) := goodIn_app (goodIn_of _ (by decide +kernel)) ggX4_endsNewPair_X4_digitAt
set_option maxRecDepth 20000 in
theorem ggX4_endsNewPair_X4_firstOfPair : GoodIn wsX4_endsNewPair wsX4_firstOfPair := goodIn_r _ [15, 1, 2, 3, 4, 5, 6, 7, 8, 9, 10, 11, 20, 21] (by decide +kernel) (by decide +kernel)
set_option maxRecDepth 20000 in
theorem gX4_endsNewPair_X4_firstOfPair : GoodIn wsX4_endsNewPair (wsV RX4 40 RX4 yX4_firstOfPair wsX4_firstOfPair) := goodIn_app (goodIn_of _ (by decide +kernel)) ggX4_endsNewPair_X4_firstOfPair
set_option maxRecDepth 20000 in
theorem ggX4_endsNewPair_X4_secondOfPair : GoodIn wsX4_endsNewPair wsX4_secondOfPair := goodIn_r _ [19, 1, 2, 3, 4, 5, 6, 7, 8, 9, 10, 11, 20, 21] (by decide +kernel) (by decide +kernel)
set_option maxRecDepth 20000 in
theorem gX4_endsNewPair_X4_secondOfPair : GoodIn wsX4_endsNewPair (wsV RX4 43 RX4 yX4_secondOfPair wsX4_secondOfPair) := goodIn_app (goodIn_of _ (by decide +kernel)) ggX4_endsNewPair_X4_secondOfPair
theorem dX4_endsNewPair_0 : decode cX4_endsNewPair 0 = .ok (.aload_n 0, 1) := by decide +kernel
theorem dX4_endsNewPair_1 : decode cX4_endsNewPair 1 = .ok (.iload_n 1, 1) := by decide +kernel
theorem dX4_endsNewPair_2 : decode cX4_endsNewPair 2 = .ok (.iconst 1, 1) := by decide +kernel
theorem dX4_endsNewPair_3 : decode cX4_endsNewPair 3 = .ok (.isub, 1) := by decide +kernel
theorem dX4_endsNewPair_4 : decode cX4_endsNewPair 4 = .ok (.invokevirtual 23, 3) := by decide +kernel
theorem dX4_endsNewPair_7 : decode cX4_endsNewPair 7 = .ok (.istore_n 2, 1) := by decide +kernel
theorem dX4_endsNewPair_8 : decode cX4_endsNewPair 8 = .ok (.aload_n 0, 1) := by decide +kernel
theorem dX4_endsNewPair_9 : decode cX4_endsNewPair 9 = .ok (.iload_n 1, 1) := by decide +kernel
theorem dX4_endsNewPair_10 : decode cX4_endsNewPair 10 = .ok (.invokevirtual 23, 3) := by decide +kernel
theorem dX4_endsNewPair_13 : decode cX4_endsNewPair 13 = .ok (.istore_n 3, 1) := by decide +kernel
theorem dX4_endsNewPair_14 : decode cX4_endsNewPair 14 = .ok (.iload_n 2, 1) := by decide +kernel
theorem dX4_endsNewPair_15 : decode cX4_endsNewPair 15 = .ok (.iload_n 3, 1) := by decide +kernel
theorem dX4_endsNewPair_16 : decode cX4_endsNewPair 16 = .ok (.if_icmp .ne 5, 3) := by decide +kernel
theorem dX4_endsNewPair_19 : decode cX4_endsNewPair 19 = .ok (.iconst 0, 1) := by decide +kernel
theorem dX4_endsNewPair_20 : decode cX4_endsNewPair 20 = .ok (.ireturn, 1) := by decide +kernel
theorem dX4_endsNewPair_21 : decode cX4_endsNewPair 21 = .ok (.iload_n 1, 1) := by decide +kernel
theorem dX4_endsNewPair_22 : decode cX4_endsNewPair 22 = .ok (.iconst 3, 1) := by decide +kernel
theorem dX4_endsNewPair_23 : decode cX4_endsNewPair 23 = .ok (.idiv, 1) := by decide +kernel
theorem dX4_endsNewPair_24 : decode cX4_endsNewPair 24 = .ok (.iconst 1, 1) := by decide +kernel
theorem dX4_endsNewPair_25 : decode cX4_endsNewPair 25 = .ok (.isub, 1) := by decide +kernel
theorem dX4_endsNewPair_26 : decode cX4_endsNewPair 26 = .ok (.istore 4, 2) := by decide +kernel
theorem dX4_endsNewPair_28 : decode cX4_endsNewPair 28 = .ok (.iconst 0, 1) := by decide +kernel
theorem dX4_endsNewPair_29 : decode cX4_endsNewPair 29 = .ok (.istore 5, 2) := by decide +kernel
theorem dX4_endsNewPair_31 : decode cX4_endsNewPair 31 = .ok (.iload 5, 2) := by decide +kernel
theorem dX4_endsNewPair_33 : decode cX4_endsNewPair 33 = .ok (.iload 4, 2) := by decide +kernel
theorem dX4_endsNewPair_35 : decode cX4_endsNewPair 35 = .ok (.if_icmp .ge 51, 3) := by decide +kernel
theorem dX4_endsNewPair_38 : decode cX4_endsNewPair 38 = .ok (.aload_n 0, 1) := by decide +kernel
theorem dX4_endsNewPair_39 : decode cX4_endsNewPair 39 = .ok (.iload 5, 2) := by decide +kernel
theorem dX4_endsNewPair_41 : decode cX4_endsNewPair 41 = .ok (.invokevirtual 40, 3) := by decide +kernel
theorem dX4_endsNewPair_44 : decode cX4_endsNewPair 44 = .ok (.istore 6, 2) := by decide +kernel
theorem dX4_endsNewPair_46 : decode cX4_endsNewPair 46 = .ok (.aload_n 0, 1) := by decide +kernel
theorem dX4_endsNewPair_47 : decode cX4_endsNewPair 47 = .ok (.iload 5, 2) := by decide +kernel
theorem dX4_endsNewPair_49 : decode cX4_endsNewPair 49 = .ok (.invokevirtual 43, 3) := by decide +kernel
theorem dX4_endsNewPair_52 : decode cX4_endsNewPair 52 = .ok (.istore 7, 2) := by decide +kernel
theorem dX4_endsNewPair_54 : decode cX4_endsNewPair 54 = .ok (.iload 6, 2) := by decide +kernel
theorem dX4_endsNewPair_56 : decode cX4_endsNewPair 56 = .ok (.iload_n 2, 1) := by decide +kernel
theorem dX4_endsNewPair_57 : decode cX4_endsNewPair 57 = .ok (.if_icmp .ne 9, 3) := by decide +kernel
theorem dX4_endsNewPair_60 : decode cX4_endsNewPair 60 = .ok (.iload 7, 2) := by decide +kernel
theorem dX4_endsNewPair_62 : decode cX4_endsNewPair 62 = .ok (.iload_n 3, 1) := by decide +kernel
theorem dX4_endsNewPair_63 : decode cX4_endsNewPair 63 = .ok (.if_icmp .eq 15, 3) := by decide +kernel
theorem dX4_endsNewPair_66 : decode cX4_endsNewPair 66 = .ok (.iload 6, 2) := by decide +kernel
theorem dX4_endsNewPair_68 : decode cX4_endsNewPair 68 = .ok (.iload_n 3, 1) := by decide +kernel
theorem dX4_endsNewPair_69 : decode cX4_endsNewPair 69 = .ok (.if_icmp .ne 11, 3) := by decide +kernel
theorem dX4_endsNewPair_72 : decode cX4_endsNewPair 72 = .ok (.iload 7, 2) := by decide +kernel
theorem dX4_endsNewPair_74 : decode cX4_endsNewPair 74 = .ok (.iload_n 2, 1) := by decide +kernel
theorem dX4_endsNewPair_75 : decode cX4_endsNewPair 75 = .ok (.if_icmp .ne 5, 3) := by decide +kernel
theorem dX4_endsNewPair_78 : decode cX4_endsNewPair 78 = .ok (.iconst 0, 1) := by decide +kernel
theorem dX4_endsNewPair_79 : decode cX4_endsNewPair 79 = .ok (.ireturn, 1) := by decide +kernel
theorem dX4_endsNewPair_80 : decode cX4_endsNewPair 80 = .ok (.iinc 5 1, 3) := by decide +kernel
theorem dX4_endsNewPair_83 : decode cX4_endsNewPair 83 = .ok (.goto (-52), 3) := by decide +kernel
theorem dX4_endsNewPair_86 : decode cX4_endsNewPair 86 = .ok (.iconst 1, 1) := by decide +kernel
theorem dX4_endsNewPair_87 : decode cX4_endsNewPair 87 = .ok (.ireturn, 1) := by decide +kernel
set_option maxRecDepth 20000 in
theorem ggX5_init_X4_init : GoodIn wsX5_init wsX4_init := goodIn_r _ [26, 27, 2, 3, 28, 29, 57, 58] (by decide +kernel) (by decide +kernel)
set_option maxRecDepth 20000 in
theorem gX5_init_X4_init : GoodIn wsX5_init (wsX4_init) := ggX5_init_X4_init
set_option maxRecDepth 20000 in
theorem ggX5_init_X2_init : GoodIn wsX5_init wsX2_init := goodIn_r _ [32, 33, 2, 3, 28, 34, 35, 36, 37, 38, 39, 69, 70, 71, 72, 73, 74, 75, 76] (by decide +kernel) (by decide +kernel)
set_option maxRecDepth 20000 in
theorem gX5_init_X2_init : GoodIn wsX5_init (wsX2_init) := ggX5_init_X2_init
set_option maxRecDepth 20000 in
theorem ggX5_init_X3_init : GoodIn wsX5_init wsX3_init := goodIn_r _ [42, 43, 2, 3, 44, 45, 46, 47, 48, 77, 78, 79, 80, 81] (by decide +kernel) (by decide +kernel)
set_option maxRecDepth 20000 in
theorem gX5_init_X3_init : GoodIn wsX5_init (wsX3_init) := ggX5_init_X3_init
set_option maxRecDepth 20000 in
theorem ggX5_init_X0_init : GoodIn wsX5_init wsX0_init := goodIn_r _ [51, 52, 2, 3, 28, 53, 82] (by decide +kernel) (by decide +kernel)
set_option maxRecDepth 20000 in
theorem gX5_init_X0_init : GoodIn wsX5_init (wsX0_init) := ggX5_init_X0_init
set_option maxRecDepth 20000 in
theorem ggX5_init_X1_init : GoodIn wsX5_init wsX1_init := goodIn_r _ [55, 56, 2, 3] (by decide +kernel) (by decide +kernel)
set_option maxRecDepth 20000 in
theorem gX5_init_X1_init_n39 : GoodIn wsX5_init (wsX1_init) := ggX5_init_X1_init
theorem dX5_init_0 : decode cX5_init 0 = .ok (.aload_n 0, 1) := by decide +kernel
theorem dX5_init_1 : decode cX5_init 1 = .ok (.invokespecial 1, 3) := by decide +kernel
theorem dX5_init_4 : decode cX5_init 4 = .ok (.aload_n 0, 1) := by decide +kernel
theorem dX5_init_5 : decode cX5_init 5 = .ok (.new 7, 3) := by decide +kernel
theorem dX5_init_8 : decode cX5_init 8 = .ok (.dup, 1) := by decide +kernel
theorem dX5_init_9 : decode cX5_init 9 = .ok (.invokespecial 9, 3) := by decide +kernel
theorem dX5_init_12 : decode cX5_init 12 = .ok (.putfield 10, 3) := by decide +kernel
theorem dX5_init_15 : decode cX5_init 15 = .ok (.aload_n 0, 1) := by decide +kernel
theorem dX5_init_16 : decode cX5_init 16 = .ok (.new 16, 3) := by decide +kernel
theorem dX5_init_19 : decode cX5_init 19 = .ok (.dup, 1) := by decide +kernel
theorem dX5_init_20 : decode cX5_init 20 = .ok (.invokespecial 18, 3) := by decide +kernel
theorem dX5_init_23 : decode cX5_init 23 = .ok (.putfield 19, 3) := by decide +kernel
theorem dX5_init_26 : decode cX5_init 26 = .ok (.aload_n 0, 1) := by decide +kernel
theorem dX5_init_27 : decode cX5_init 27 = .ok (.new 23, 3) := by decide +kernel
theorem dX5_init_30 : decode cX5_init 30 = .ok (.dup, 1) := by decide +kernel
theorem dX5_init_31 : decode cX5_init 31 = .ok (.invokespecial 25, 3) := by decide +kernel
theorem dX5_init_34 : decode cX5_init 34 = .ok (.putfield 26, 3) := by decide +kernel
theorem dX5_init_37 : decode cX5_init 37 = .ok (.aload_n 0, 1) := by decide +kernel
theorem dX5_init_38 : decode cX5_init 38 = .ok (.new 30, 3) := by decide +kernel
theorem dX5_init_41 : decode cX5_init 41 = .ok (.dup, 1) := by decide +kernel
theorem dX5_init_42 : decode cX5_init 42 = .ok (.invokespecial 32, 3) := by decide +kernel
theorem dX5_init_45 : decode cX5_init 45 = .ok (.putfield 33, 3) := by decide +kernel
theorem dX5_init_48 : decode cX5_init 48 = .ok (.aload_n 0, 1) := by decide +kernel
theorem dX5_init_49 : decode cX5_init 49 = .ok (.new 37, 3) := by decide +kernel
theorem dX5_init_52 : decode cX5_init 52 = .ok (.dup, 1) := by decide +kernel
theorem dX5_init_53 : decode cX5_init 53 = .ok (.invokespecial 39, 3) := by decide +kernel
theorem dX5_init_56 : decode cX5_init 56 = .ok (.putfield 40, 3) := by decide +kernel
theorem dX5_init_59 : decode cX5_init 59 = .ok (.return_, 1) := by decide +kernel
set_option maxRecDepth 20000 in
theorem ggX5_letter_X4_isFull : GoodIn wsX5_letter wsX4_isFull := goodIn_r _ [6, 7, 27, 28] (by decide +kernel) (by decide +kernel)
set_option maxRecDepth 20000 in
theorem gX5_letter_X4_isFull : GoodIn wsX5_letter (wsV RX5 44 RX4 yX4_isFull wsX4_isFull) := goodIn_app (goodIn_of _ (by decide +kernel)) ggX5_letter_X4_isFull
set_option maxRecDepth 20000 in
theorem ggX5_letter_X4_append : GoodIn wsX5_letter wsX4_append := goodIn_r _ [11, 7, 12, 27, 28] (by decide +kernel) (by decide +kernel)
set_option maxRecDepth 20000 in
theorem gX5_letter_X4_append : GoodIn wsX5_letter (wsV RX5 48 RX4 yX4_append wsX4_append) := goodIn_app (goodIn_of _ (by decide +kernel)) ggX5_letter_X4_append
set_option maxRecDepth 20000 in
theorem ggX5_letter_X4_size : GoodIn wsX5_letter wsX4_size := goodIn_r _ [16, 7, 27, 28] (by decide +kernel) (by decide +kernel)
set_option maxRecDepth 20000 in
theorem gX5_letter_X4_size : GoodIn wsX5_letter (wsV RX5 52 RX4 yX4_size wsX4_size) := goodIn_app (goodIn_of _ (by decide +kernel)) ggX5_letter_X4_size
theorem dX5_letter_0 : decode cX5_letter 0 = .ok (.iload_n 1, 1) := by decide +kernel
theorem dX5_letter_1 : decode cX5_letter 1 = .ok (.bipush 32, 2) := by decide +kernel
theorem dX5_letter_3 : decode cX5_letter 3 = .ok (.if_icmp .lt 9, 3) := by decide +kernel
theorem dX5_letter_6 : decode cX5_letter 6 = .ok (.iload_n 1, 1) := by decide +kernel
theorem dX5_letter_7 : decode cX5_letter 7 = .ok (.bipush 126, 2) := by decide +kernel
theorem dX5_letter_9 : decode cX5_letter 9 = .ok (.if_icmp .le 7, 3) := by decide +kernel
theorem dX5_letter_12 : decode cX5_letter 12 = .ok (.sipush (-1002), 3) := by decide +kernel
theorem dX5_letter_15 : decode cX5_letter 15 = .ok (.ireturn, 1) := by decide +kernel
theorem dX5_letter_16 : decode cX5_letter 16 = .ok (.aload_n 0, 1) := by decide +kernel
theorem dX5_letter_17 : decode cX5_letter 17 = .ok (.getfield 10, 3) := by decide +kernel
theorem dX5_letter_20 : decode cX5_letter 20 = .ok (.invokevirtual 44, 3) := by decide +kernel
theorem dX5_letter_23 : decode cX5_letter 23 = .ok (.ifCond .eq 7, 3) := by decide +kernel
theorem dX5_letter_26 : decode cX5_letter 26 = .ok (.sipush (-1004), 3) := by decide +kernel
theorem dX5_letter_29 : decode cX5_letter 29 = .ok (.ireturn, 1) := by decide +kernel
theorem dX5_letter_30 : decode cX5_letter 30 = .ok (.aload_n 0, 1) := by decide +kernel
theorem dX5_letter_31 : decode cX5_letter 31 = .ok (.getfield 10, 3) := by decide +kernel
theorem dX5_letter_34 : decode cX5_letter 34 = .ok (.iload_n 1, 1) := by decide +kernel
theorem dX5_letter_35 : decode cX5_letter 35 = .ok (.invokevirtual 48, 3) := by decide +kernel
theorem dX5_letter_38 : decode cX5_letter 38 = .ok (.aload_n 0, 1) := by decide +kernel
theorem dX5_letter_39 : decode cX5_letter 39 = .ok (.getfield 10, 3) := by decide +kernel
theorem dX5_letter_42 : decode cX5_letter 42 = .ok (.invokevirtual 52, 3) := by decide +kernel
theorem dX5_letter_45 : decode cX5_letter 45 = .ok (.ireturn, 1) := by decide +kernel
set_option maxRecDepth 20000 in
theorem ggX5_blank_X4_size : GoodIn wsX5_blank wsX4_size := goodIn_r _ [6, 7, 22, 23] (by decide +kernel) (by decide +kernel)
set_option maxRecDepth 20000 in
theorem gX5_blank_X4_size : GoodIn wsX5_blank (wsV RX5 52 RX4 yX4_size wsX4_size) := goodIn_app (goodIn_of _ (by decide +kernel)) ggX5_blank_X4_size
set_option maxRecDepth 20000 in
theorem ggX5_blank_X4_clear : GoodIn wsX5_blank wsX4_clear := goodIn_r _ [11, 7, 22, 23] (by decide +kernel) (by decide +kernel)
set_option maxRecDepth 20000 in
theorem gX5_blank_X4_clear : GoodIn wsX5_blank (wsV RX5 56 RX4 yX4_clear wsX4_clear) := goodIn_app (goodIn_of _ (by decide +kernel)) ggX5_blank_X4_clear
theorem dX5_blank_0 : decode cX5_blank 0 = .ok (.aload_n 0, 1) := by decide +kernel
theorem dX5_blank_1 : decode cX5_blank 1 = .ok (.getfield 10, 3) := by decide +kernel
theorem dX5_blank_4 : decode cX5_blank 4 = .ok (.invokevirtual 52, 3) := by decide +kernel
theorem dX5_blank_7 : decode cX5_blank 7 = .ok (.istore_n 1, 1) := by decide +kernel
theorem dX5_blank_8 : decode cX5_blank 8 = .ok (.aload_n 0, 1) := by decide +kernel
theorem dX5_blank_9 : decode cX5_blank 9 = .ok (.getfield 10, 3) := by decide +kernel
theorem dX5_blank_12 : decode cX5_blank 12 = .ok (.invokevirtual 56, 3) := by decide +kernel
theorem dX5_blank_15 : decode cX5_blank 15 = .ok (.iload_n 1, 1) := by decide +kernel
theorem dX5_blank_16 : decode cX5_blank 16 = .ok (.ireturn, 1) := by decide +kernel
set_option maxRecDepth 20000 in
theorem ggX5_fault_X4_firstWrong : GoodIn wsX5_fault wsX4_firstWrong := goodIn_r _ [6, 7, 8, 9, 10, 5, 11, 12, 13, 14, 15, 16, 17, 18, 19, 20, 21, 22, 23, 24, 25, 26, 27, 28, 29, 30, 31, 32, 33, 34, 35, 36, 47, 48] (by decide +kernel) (by decide +kernel)
set_option maxRecDepth 20000 in
theorem gX5_fault_X4_firstWrong : GoodIn wsX5_fault (wsV RX5 59 RX4 yX4_firstWrong wsX4_firstWrong) := goodIn_app (goodIn_of _ (by decide +kernel)) ggX5_fault_X4_firstWrong
theorem dX5_fault_0 : decode cX5_fault 0 = .ok (.aload_n 0, 1) := by decide +kernel
theorem dX5_fault_1 : decode cX5_fault 1 = .ok (.getfield 10, 3) := by decide +kernel
theorem dX5_fault_4 : decode cX5_fault 4 = .ok (.invokevirtual 59, 3) := by decide +kernel
theorem dX5_fault_7 : decode cX5_fault 7 = .ok (.ireturn, 1) := by decide +kernel
set_option maxRecDepth 20000 in
theorem ggX5_net_X4_isWhole : GoodIn wsX5_net wsX4_isWhole := goodIn_r _ [10, 11, 12, 13, 14, 9, 15, 16, 17, 18, 19, 20, 21, 22, 23, 24, 25, 26, 27, 28, 29, 30, 31, 32, 33, 34, 35, 36, 37, 38, 39, 40, 41, 42, 43, 44, 138, 139] (by decide +kernel) (by decide +kernel)
set_option maxRecDepth 20000 in
theorem gX5_net_X4_isWhole : GoodIn wsX5_net (wsV RX5 62 RX4 yX4_isWhole wsX4_isWhole) := goodIn_app (goodIn_of _ (by decide +kernel)) ggX5_net_X4_isWhole
set_option maxRecDepth 20000 in
theorem ggX5_net_X2_read : GoodIn wsX5_net wsX2_read := goodIn_r _ [49, 50, 51, 52, 53, 54, 55, 56, 57, 48, 58, 59, 60, 61, 62, 63, 64, 65, 66, 67, 21, 22, 9, 23, 24, 25, 26, 27, 11, 28, 68, 69, 70, 71, 72, 38, 39, 40, 20, 73, 42, 43, 44, 74, 75, 76, 77, 78, 79, 80, 81, 82, 83, 84, 85, 86, 87, 88, 89, 90, 91, 140, 141, 142, 143, 144, 145, 146, 147, 138, 139] (by decide +kernel) (by decide +kernel)
set_option maxRecDepth 20000 in
theorem gX5_net_X2_read : GoodIn wsX5_net (wsV RX5 65 RX2 yX2_read wsX2_read) := goodIn_app (goodIn_of _ (by decide +kernel)) ggX5_net_X2_read
set_option maxRecDepth 20000 in
theorem ggX5_net_X4_clear : GoodIn wsX5_net wsX4_clear := goodIn_r _ [95, 11, 138, 139] (by decide +kernel) (by decide +kernel)
set_option maxRecDepth 20000 in
theorem gX5_net_X4_clear : GoodIn wsX5_net (wsV RX5 56 RX4 yX4_clear wsX4_clear) := goodIn_app (goodIn_of _ (by decide +kernel)) ggX5_net_X4_clear
set_option maxRecDepth 20000 in
theorem ggX5_net_X0_clear : GoodIn wsX5_net wsX0_clear := goodIn_r _ [100, 101, 148] (by decide +kernel) (by decide +kernel)
set_option maxRecDepth 20000 in
theorem gX5_net_X0_clear : GoodIn wsX5_net (wsV RX5 69 RX0 yX0_clear wsX0_clear) := goodIn_app (goodIn_of _ (by decide +kernel)) ggX5_net_X0_clear
set_option maxRecDepth 20000 in
theorem ggX5_net_X2_linkCount : GoodIn wsX5_net wsX2_linkCount := goodIn_r _ [105, 59, 140, 141, 142, 143, 144, 145, 146, 147] (by decide +kernel) (by decide +kernel)
set_option maxRecDepth 20000 in
theorem gX5_net_X2_linkCount : GoodIn wsX5_net (wsV RX5 70 RX2 yX2_linkCount wsX2_linkCount) := goodIn_app (goodIn_of _ (by decide +kernel)) ggX5_net_X2_linkCount
set_option maxRecDepth 20000 in
theorem ggX5_net_X3_drawAll : GoodIn wsX5_net wsX3_drawAll := goodIn_r _ [110, 111, 112, 113, 114, 115, 116, 109, 117, 118, 119, 120, 121, 122, 123, 124, 125, 126, 127, 149, 150, 151, 152, 153] (by decide +kernel) (by decide +kernel)
set_option maxRecDepth 20000 in
theorem gX5_net_X3_drawAll : GoodIn wsX5_net (wsV RX5 73 RX3 yX3_drawAll wsX3_drawAll) := goodIn_app (goodIn_of _ (by decide +kernel)) ggX5_net_X3_drawAll
theorem dX5_net_0 : decode cX5_net 0 = .ok (.aload_n 0, 1) := by decide +kernel
theorem dX5_net_1 : decode cX5_net 1 = .ok (.getfield 10, 3) := by decide +kernel
theorem dX5_net_4 : decode cX5_net 4 = .ok (.invokevirtual 62, 3) := by decide +kernel
theorem dX5_net_7 : decode cX5_net 7 = .ok (.ifCond .ne 7, 3) := by decide +kernel
theorem dX5_net_10 : decode cX5_net 10 = .ok (.sipush (-1003), 3) := by decide +kernel
theorem dX5_net_13 : decode cX5_net 13 = .ok (.ireturn, 1) := by decide +kernel
theorem dX5_net_14 : decode cX5_net 14 = .ok (.aload_n 0, 1) := by decide +kernel
theorem dX5_net_15 : decode cX5_net 15 = .ok (.getfield 19, 3) := by decide +kernel
theorem dX5_net_18 : decode cX5_net 18 = .ok (.aload_n 0, 1) := by decide +kernel
theorem dX5_net_19 : decode cX5_net 19 = .ok (.getfield 10, 3) := by decide +kernel
theorem dX5_net_22 : decode cX5_net 22 = .ok (.invokevirtual 65, 3) := by decide +kernel
theorem dX5_net_25 : decode cX5_net 25 = .ok (.aload_n 0, 1) := by decide +kernel
theorem dX5_net_26 : decode cX5_net 26 = .ok (.getfield 10, 3) := by decide +kernel
theorem dX5_net_29 : decode cX5_net 29 = .ok (.invokevirtual 56, 3) := by decide +kernel
theorem dX5_net_32 : decode cX5_net 32 = .ok (.aload_n 0, 1) := by decide +kernel
theorem dX5_net_33 : decode cX5_net 33 = .ok (.getfield 33, 3) := by decide +kernel
theorem dX5_net_36 : decode cX5_net 36 = .ok (.invokevirtual 69, 3) := by decide +kernel
theorem dX5_net_39 : decode cX5_net 39 = .ok (.aload_n 0, 1) := by decide +kernel
theorem dX5_net_40 : decode cX5_net 40 = .ok (.getfield 26, 3) := by decide +kernel
theorem dX5_net_43 : decode cX5_net 43 = .ok (.aload_n 0, 1) := by decide +kernel
theorem dX5_net_44 : decode cX5_net 44 = .ok (.getfield 19, 3) := by decide +kernel
theorem dX5_net_47 : decode cX5_net 47 = .ok (.invokevirtual 70, 3) := by decide +kernel
theorem dX5_net_50 : decode cX5_net 50 = .ok (.invokevirtual 73, 3) := by decide +kernel
theorem dX5_net_53 : decode cX5_net 53 = .ok (.aload_n 0, 1) := by decide +kernel
theorem dX5_net_54 : decode cX5_net 54 = .ok (.dup, 1) := by decide +kernel
theorem dX5_net_55 : decode cX5_net 55 = .ok (.getfield 76, 3) := by decide +kernel
theorem dX5_net_58 : decode cX5_net 58 = .ok (.iconst 1, 1) := by decide +kernel
theorem dX5_net_59 : decode cX5_net 59 = .ok (.iadd, 1) := by decide +kernel
theorem dX5_net_60 : decode cX5_net 60 = .ok (.putfield 76, 3) := by decide +kernel
theorem dX5_net_63 : decode cX5_net 63 = .ok (.aload_n 0, 1) := by decide +kernel
theorem dX5_net_64 : decode cX5_net 64 = .ok (.getfield 19, 3) := by decide +kernel
theorem dX5_net_67 : decode cX5_net 67 = .ok (.invokevirtual 70, 3) := by decide +kernel
theorem dX5_net_70 : decode cX5_net 70 = .ok (.ireturn, 1) := by decide +kernel
set_option maxRecDepth 20000 in
theorem ggX5_set_X3_allows : GoodIn wsX5_set wsX3_allows := goodIn_r _ [7] (by decide +kernel) (by decide +kernel)
set_option maxRecDepth 20000 in
theorem gX5_set_X3_allows : GoodIn wsX5_set (wsV RX5 80 RX3 yX3_allows wsX3_allows) := goodIn_app (goodIn_of _ (by decide +kernel)) ggX5_set_X3_allows
set_option maxRecDepth 20000 in
theorem ggX5_set_X3_setting : GoodIn wsX5_set wsX3_setting := goodIn_r _ [11, 12, 13, 14, 53, 54, 55, 56, 57] (by decide +kernel) (by decide +kernel)
set_option maxRecDepth 20000 in
theorem gX5_set_X3_setting : GoodIn wsX5_set (wsV RX5 84 RX3 yX3_setting wsX3_setting) := goodIn_app (goodIn_of _ (by decide +kernel)) ggX5_set_X3_setting
set_option maxRecDepth 20000 in
theorem ggX5_set_X3_change : GoodIn wsX5_set wsX3_change := goodIn_r _ [18, 12, 13, 14, 53, 54, 55, 56, 57] (by decide +kernel) (by decide +kernel)
set_option maxRecDepth 20000 in
theorem gX5_set_X3_change : GoodIn wsX5_set (wsV RX5 88 RX3 yX3_change wsX3_change) := goodIn_app (goodIn_of _ (by decide +kernel)) ggX5_set_X3_change
set_option maxRecDepth 20000 in
theorem ggX5_set_X2_linkCount : GoodIn wsX5_set wsX2_linkCount := goodIn_r _ [23, 24, 58, 59, 60, 61, 62, 63, 64, 65] (by decide +kernel) (by decide +kernel)
set_option maxRecDepth 20000 in
theorem gX5_set_X2_linkCount : GoodIn wsX5_set (wsV RX5 70 RX2 yX2_linkCount wsX2_linkCount) := goodIn_app (goodIn_of _ (by decide +kernel)) ggX5_set_X2_linkCount
set_option maxRecDepth 20000 in
theorem ggX5_set_X3_drawAll : GoodIn wsX5_set wsX3_drawAll := goodIn_r _ [28, 14, 29, 30, 31, 32, 33, 6, 34, 13, 35, 36, 37, 38, 39, 40, 41, 12, 42, 53, 54, 55, 56, 57] (by decide +kernel) (by decide +kernel)
set_option maxRecDepth 20000 in
theorem gX5_set_X3_drawAll : GoodIn wsX5_set (wsV RX5 73 RX3 yX3_drawAll wsX3_drawAll) := goodIn_app (goodIn_of _ (by decide +kernel)) ggX5_set_X3_drawAll
theorem dX5_set_0 : decode cX5_set 0 = .ok (.aload_n 0, 1) := by decide +kernel
theorem dX5_set_1 : decode cX5_set 1 = .ok (.getfield 26, 3) := by decide +kernel
theorem dX5_set_4 : decode cX5_set 4 = .ok (.iload_n 1, 1) := by decide +kernel
theorem dX5_set_5 : decode cX5_set 5 = .ok (.iload_n 2, 1) := by decide +kernel
theorem dX5_set_6 : decode cX5_set 6 = .ok (.invokevirtual 80, 3) := by decide +kernel
theorem dX5_set_9 : decode cX5_set 9 = .ok (.ifCond .ne 7, 3) := by decide +kernel
theorem dX5_set_12 : decode cX5_set 12 = .ok (.sipush (-1002), 3) := by decide +kernel
theorem dX5_set_15 : decode cX5_set 15 = .ok (.ireturn, 1) := by decide +kernel
theorem dX5_set_16 : decode cX5_set 16 = .ok (.aload_n 0, 1) := by decide +kernel
theorem dX5_set_17 : decode cX5_set 17 = .ok (.getfield 26, 3) := by decide +kernel
theorem dX5_set_20 : decode cX5_set 20 = .ok (.iload_n 1, 1) := by decide +kernel
theorem dX5_set_21 : decode cX5_set 21 = .ok (.invokevirtual 84, 3) := by decide +kernel
theorem dX5_set_24 : decode cX5_set 24 = .ok (.istore_n 3, 1) := by decide +kernel
theorem dX5_set_25 : decode cX5_set 25 = .ok (.aload_n 0, 1) := by decide +kernel
theorem dX5_set_26 : decode cX5_set 26 = .ok (.getfield 26, 3) := by decide +kernel
theorem dX5_set_29 : decode cX5_set 29 = .ok (.iload_n 1, 1) := by decide +kernel
theorem dX5_set_30 : decode cX5_set 30 = .ok (.iload_n 2, 1) := by decide +kernel
theorem dX5_set_31 : decode cX5_set 31 = .ok (.invokevirtual 88, 3) := by decide +kernel
theorem dX5_set_34 : decode cX5_set 34 = .ok (.aload_n 0, 1) := by decide +kernel
theorem dX5_set_35 : decode cX5_set 35 = .ok (.getfield 26, 3) := by decide +kernel
theorem dX5_set_38 : decode cX5_set 38 = .ok (.aload_n 0, 1) := by decide +kernel
theorem dX5_set_39 : decode cX5_set 39 = .ok (.getfield 19, 3) := by decide +kernel
theorem dX5_set_42 : decode cX5_set 42 = .ok (.invokevirtual 70, 3) := by decide +kernel
theorem dX5_set_45 : decode cX5_set 45 = .ok (.invokevirtual 73, 3) := by decide +kernel
theorem dX5_set_48 : decode cX5_set 48 = .ok (.iload_n 3, 1) := by decide +kernel
theorem dX5_set_49 : decode cX5_set 49 = .ok (.ireturn, 1) := by decide +kernel
set_option maxRecDepth 20000 in
theorem ggX5_mark_X2_hasLink : GoodIn wsX5_mark wsX2_hasLink := goodIn_r _ [9, 10, 31, 32, 33, 34, 35, 36, 37, 38] (by decide +kernel) (by decide +kernel)
set_option maxRecDepth 20000 in
theorem gX5_mark_X2_hasLink : GoodIn wsX5_mark (wsV RX5 92 RX2 yX2_hasLink wsX2_hasLink) := goodIn_app (goodIn_of _ (by decide +kernel)) ggX5_mark_X2_hasLink
set_option maxRecDepth 20000 in
theorem ggX5_mark_X5_isVariant : GoodIn wsX5_mark wsX5_isVariant := goodIn_r _ [14] (by decide +kernel) (by decide +kernel)
set_option maxRecDepth 20000 in
theorem gX5_mark_X5_isVariant : GoodIn wsX5_mark (va_wsS RX5 98 yX5_isVariant wsX5_isVariant) := goodIn_app (goodIn_of _ (by decide +kernel)) ggX5_mark_X5_isVariant
set_option maxRecDepth 20000 in
theorem ggX5_mark_X3_ofLink : GoodIn wsX5_mark wsX3_ofLink := goodIn_r _ [19, 20, 12, 13, 14, 39, 40, 41, 42, 43] (by decide +kernel) (by decide +kernel)
set_option maxRecDepth 20000 in
theorem gX5_mark_X3_ofLink : GoodIn wsX5_mark (wsV RX5 103 RX3 yX3_ofLink wsX3_ofLink) := goodIn_app (goodIn_of _ (by decide +kernel)) ggX5_mark_X3_ofLink
theorem dX5_mark_0 : decode cX5_mark 0 = .ok (.aload_n 0, 1) := by decide +kernel
theorem dX5_mark_1 : decode cX5_mark 1 = .ok (.getfield 19, 3) := by decide +kernel
theorem dX5_mark_4 : decode cX5_mark 4 = .ok (.iload_n 1, 1) := by decide +kernel
theorem dX5_mark_5 : decode cX5_mark 5 = .ok (.invokevirtual 92, 3) := by decide +kernel
theorem dX5_mark_8 : decode cX5_mark 8 = .ok (.ifCond .ne 7, 3) := by decide +kernel
theorem dX5_mark_11 : decode cX5_mark 11 = .ok (.ldc2_w 96, 3) := by decide +kernel
theorem dX5_mark_14 : decode cX5_mark 14 = .ok (.lreturn, 1) := by decide +kernel
theorem dX5_mark_15 : decode cX5_mark 15 = .ok (.iload_n 2, 1) := by decide +kernel
theorem dX5_mark_16 : decode cX5_mark 16 = .ok (.invokestatic 98, 3) := by decide +kernel
theorem dX5_mark_19 : decode cX5_mark 19 = .ok (.ifCond .ne 7, 3) := by decide +kernel
theorem dX5_mark_22 : decode cX5_mark 22 = .ok (.ldc2_w 101, 3) := by decide +kernel
theorem dX5_mark_25 : decode cX5_mark 25 = .ok (.lreturn, 1) := by decide +kernel
theorem dX5_mark_26 : decode cX5_mark 26 = .ok (.aload_n 0, 1) := by decide +kernel
theorem dX5_mark_27 : decode cX5_mark 27 = .ok (.getfield 26, 3) := by decide +kernel
theorem dX5_mark_30 : decode cX5_mark 30 = .ok (.iload_n 1, 1) := by decide +kernel
theorem dX5_mark_31 : decode cX5_mark 31 = .ok (.iload_n 2, 1) := by decide +kernel
theorem dX5_mark_32 : decode cX5_mark 32 = .ok (.invokevirtual 103, 3) := by decide +kernel
theorem dX5_mark_35 : decode cX5_mark 35 = .ok (.lreturn, 1) := by decide +kernel
set_option maxRecDepth 20000 in
theorem ggX5_link_X2_hasLink : GoodIn wsX5_link wsX2_hasLink := goodIn_r _ [7, 8, 35, 36, 37, 38, 39, 40, 41, 42] (by decide +kernel) (by decide +kernel)
set_option maxRecDepth 20000 in
theorem gX5_link_X2_hasLink : GoodIn wsX5_link (wsV RX5 92 RX2 yX2_hasLink wsX2_hasLink) := goodIn_app (goodIn_of _ (by decide +kernel)) ggX5_link_X2_hasLink
set_option maxRecDepth 20000 in
theorem ggX5_link_X2_startOf : GoodIn wsX5_link wsX2_startOf := goodIn_r _ [12, 13, 35, 36, 37, 38, 39, 40, 41, 42] (by decide +kernel) (by decide +kernel)
set_option maxRecDepth 20000 in
theorem gX5_link_X2_startOf : GoodIn wsX5_link (wsV RX5 107 RX2 yX2_startOf wsX2_startOf) := goodIn_app (goodIn_of _ (by decide +kernel)) ggX5_link_X2_startOf
set_option maxRecDepth 20000 in
theorem ggX5_link_X2_endOf : GoodIn wsX5_link wsX2_endOf := goodIn_r _ [17, 18, 35, 36, 37, 38, 39, 40, 41, 42] (by decide +kernel) (by decide +kernel)
set_option maxRecDepth 20000 in
theorem gX5_link_X2_endOf : GoodIn wsX5_link (wsV RX5 110 RX2 yX2_endOf wsX2_endOf) := goodIn_app (goodIn_of _ (by decide +kernel)) ggX5_link_X2_endOf
set_option maxRecDepth 20000 in
theorem ggX5_link_X0_placesWith : GoodIn wsX5_link wsX0_placesWith := goodIn_r _ [23, 24, 43] (by decide +kernel) (by decide +kernel)
set_option maxRecDepth 20000 in
theorem gX5_link_X0_placesWith : GoodIn wsX5_link (wsV RX5 113 RX0 yX0_placesWith wsX0_placesWith) := goodIn_app (goodIn_of _ (by decide +kernel)) ggX5_link_X0_placesWith
theorem dX5_link_0 : decode cX5_link 0 = .ok (.aload_n 0, 1) := by decide +kernel
theorem dX5_link_1 : decode cX5_link 1 = .ok (.getfield 19, 3) := by decide +kernel
theorem dX5_link_4 : decode cX5_link 4 = .ok (.iload_n 1, 1) := by decide +kernel
theorem dX5_link_5 : decode cX5_link 5 = .ok (.invokevirtual 92, 3) := by decide +kernel
theorem dX5_link_8 : decode cX5_link 8 = .ok (.ifCond .ne 7, 3) := by decide +kernel
theorem dX5_link_11 : decode cX5_link 11 = .ok (.sipush (-1001), 3) := by decide +kernel
theorem dX5_link_14 : decode cX5_link 14 = .ok (.ireturn, 1) := by decide +kernel
theorem dX5_link_15 : decode cX5_link 15 = .ok (.iload_n 2, 1) := by decide +kernel
theorem dX5_link_16 : decode cX5_link 16 = .ok (.tableswitch 55 0 2 #[28, 37, 46], 28) := by decide +kernel
theorem dX5_link_44 : decode cX5_link 44 = .ok (.aload_n 0, 1) := by decide +kernel
theorem dX5_link_45 : decode cX5_link 45 = .ok (.getfield 19, 3) := by decide +kernel
theorem dX5_link_48 : decode cX5_link 48 = .ok (.iload_n 1, 1) := by decide +kernel
theorem dX5_link_49 : decode cX5_link 49 = .ok (.invokevirtual 107, 3) := by decide +kernel
theorem dX5_link_52 : decode cX5_link 52 = .ok (.ireturn, 1) := by decide +kernel
theorem dX5_link_53 : decode cX5_link 53 = .ok (.aload_n 0, 1) := by decide +kernel
theorem dX5_link_54 : decode cX5_link 54 = .ok (.getfield 19, 3) := by decide +kernel
theorem dX5_link_57 : decode cX5_link 57 = .ok (.iload_n 1, 1) := by decide +kernel
theorem dX5_link_58 : decode cX5_link 58 = .ok (.invokevirtual 110, 3) := by decide +kernel
theorem dX5_link_61 : decode cX5_link 61 = .ok (.ireturn, 1) := by decide +kernel
theorem dX5_link_62 : decode cX5_link 62 = .ok (.aload_n 0, 1) := by decide +kernel
theorem dX5_link_63 : decode cX5_link 63 = .ok (.getfield 33, 3) := by decide +kernel
theorem dX5_link_66 : decode cX5_link 66 = .ok (.iload_n 1, 1) := by decide +kernel
theorem dX5_link_67 : decode cX5_link 67 = .ok (.invokevirtual 113, 3) := by decide +kernel
theorem dX5_link_70 : decode cX5_link 70 = .ok (.ireturn, 1) := by decide +kernel
theorem dX5_link_71 : decode cX5_link 71 = .ok (.sipush (-1002), 3) := by decide +kernel
theorem dX5_link_74 : decode cX5_link 74 = .ok (.ireturn, 1) := by decide +kernel
set_option maxRecDepth 20000 in
theorem ggX5_way_X2_hasNode : GoodIn wsX5_way wsX2_hasNode := goodIn_r _ [6, 7, 28, 29, 30, 31, 32, 33, 34, 35] (by decide +kernel) (by decide +kernel)
set_option maxRecDepth 20000 in
theorem gX5_way_X2_hasNode : GoodIn wsX5_way (wsV RX5 116 RX2 yX2_hasNode wsX2_hasNode) := goodIn_app (goodIn_of _ (by decide +kernel)) ggX5_way_X2_hasNode
set_option maxRecDepth 20000 in
theorem ggX5_way_X2_nodeOnWay : GoodIn wsX5_way wsX2_nodeOnWay := goodIn_r _ [11, 12, 13, 14, 3, 4, 5, 6, 7, 15, 16, 17, 28, 29, 30, 31, 32, 33, 34, 35] (by decide +kernel) (by decide +kernel)
set_option maxRecDepth 20000 in
theorem gX5_way_X2_nodeOnWay : GoodIn wsX5_way (wsV RX5 119 RX2 yX2_nodeOnWay wsX2_nodeOnWay) := goodIn_app (goodIn_of _ (by decide +kernel)) ggX5_way_X2_nodeOnWay
theorem dX5_way_0 : decode cX5_way 0 = .ok (.aload_n 0, 1) := by decide +kernel
theorem dX5_way_1 : decode cX5_way 1 = .ok (.getfield 19, 3) := by decide +kernel
theorem dX5_way_4 : decode cX5_way 4 = .ok (.iload_n 1, 1) := by decide +kernel
theorem dX5_way_5 : decode cX5_way 5 = .ok (.invokevirtual 116, 3) := by decide +kernel
theorem dX5_way_8 : decode cX5_way 8 = .ok (.ifCond .eq 14, 3) := by decide +kernel
theorem dX5_way_11 : decode cX5_way 11 = .ok (.aload_n 0, 1) := by decide +kernel
theorem dX5_way_12 : decode cX5_way 12 = .ok (.getfield 19, 3) := by decide +kernel
theorem dX5_way_15 : decode cX5_way 15 = .ok (.iload_n 2, 1) := by decide +kernel
theorem dX5_way_16 : decode cX5_way 16 = .ok (.invokevirtual 116, 3) := by decide +kernel
theorem dX5_way_19 : decode cX5_way 19 = .ok (.ifCond .ne 7, 3) := by decide +kernel
theorem dX5_way_22 : decode cX5_way 22 = .ok (.sipush (-1001), 3) := by decide +kernel
theorem dX5_way_25 : decode cX5_way 25 = .ok (.ireturn, 1) := by decide +kernel
theorem dX5_way_26 : decode cX5_way 26 = .ok (.aload_n 0, 1) := by decide +kernel
theorem dX5_way_27 : decode cX5_way 27 = .ok (.getfield 19, 3) := by decide +kernel
theorem dX5_way_30 : decode cX5_way 30 = .ok (.iload_n 1, 1) := by decide +kernel
theorem dX5_way_31 : decode cX5_way 31 = .ok (.iload_n 2, 1) := by decide +kernel
theorem dX5_way_32 : decode cX5_way 32 = .ok (.iload_n 3, 1) := by decide +kernel
theorem dX5_way_33 : decode cX5_way 33 = .ok (.invokevirtual 119, 3) := by decide +kernel
theorem dX5_way_36 : decode cX5_way 36 = .ok (.ireturn, 1) := by decide +kernel
set_option maxRecDepth 20000 in
theorem ggX5_tree_X2_hasNode : GoodIn wsX5_tree wsX2_hasNode := goodIn_r _ [6, 7, 35, 36, 37, 38, 39, 40, 41, 42] (by decide +kernel) (by decide +kernel)
set_option maxRecDepth 20000 in
theorem gX5_tree_X2_hasNode : GoodIn wsX5_tree (wsV RX5 116 RX2 yX2_hasNode wsX2_hasNode) := goodIn_app (goodIn_of _ (by decide +kernel)) ggX5_tree_X2_hasNode
set_option maxRecDepth 20000 in
theorem ggX5_tree_X2_hasNodes : GoodIn wsX5_tree wsX2_hasNodes := goodIn_r _ [11, 12, 13, 14, 5, 15, 7, 35, 36, 37, 38, 39, 40, 41, 42] (by decide +kernel) (by decide +kernel)
set_option maxRecDepth 20000 in
theorem gX5_tree_X2_hasNodes : GoodIn wsX5_tree (wsV RX5 123 RX2 yX2_hasNodes wsX2_hasNodes) := goodIn_app (goodIn_of _ (by decide +kernel)) ggX5_tree_X2_hasNodes
set_option maxRecDepth 20000 in
theorem ggX5_tree_X2_treeLinks : GoodIn wsX5_tree wsX2_treeLinks := goodIn_r _ [19, 7, 20, 21, 3, 4, 5, 6, 22, 23, 24, 35, 36, 37, 38, 39, 40, 41, 42] (by decide +kernel) (by decide +kernel)
set_option maxRecDepth 20000 in
theorem gX5_tree_X2_treeLinks : GoodIn wsX5_tree (wsV RX5 126 RX2 yX2_treeLinks wsX2_treeLinks) := goodIn_app (goodIn_of _ (by decide +kernel)) ggX5_tree_X2_treeLinks
theorem dX5_tree_0 : decode cX5_tree 0 = .ok (.aload_n 0, 1) := by decide +kernel
theorem dX5_tree_1 : decode cX5_tree 1 = .ok (.getfield 19, 3) := by decide +kernel
theorem dX5_tree_4 : decode cX5_tree 4 = .ok (.iload_n 1, 1) := by decide +kernel
theorem dX5_tree_5 : decode cX5_tree 5 = .ok (.invokevirtual 116, 3) := by decide +kernel
theorem dX5_tree_8 : decode cX5_tree 8 = .ok (.ifCond .ne 7, 3) := by decide +kernel
theorem dX5_tree_11 : decode cX5_tree 11 = .ok (.sipush (-1001), 3) := by decide +kernel
theorem dX5_tree_14 : decode cX5_tree 14 = .ok (.ireturn, 1) := by decide +kernel
theorem dX5_tree_15 : decode cX5_tree 15 = .ok (.aload_n 0, 1) := by decide +kernel
theorem dX5_tree_16 : decode cX5_tree 16 = .ok (.getfield 19, 3) := by decide +kernel
theorem dX5_tree_19 : decode cX5_tree 19 = .ok (.iload_n 2, 1) := by decide +kernel
theorem dX5_tree_20 : decode cX5_tree 20 = .ok (.invokevirtual 123, 3) := by decide +kernel
theorem dX5_tree_23 : decode cX5_tree 23 = .ok (.ifCond .ne 7, 3) := by decide +kernel
theorem dX5_tree_26 : decode cX5_tree 26 = .ok (.sipush (-1002), 3) := by decide +kernel
theorem dX5_tree_29 : decode cX5_tree 29 = .ok (.ireturn, 1) := by decide +kernel
theorem dX5_tree_30 : decode cX5_tree 30 = .ok (.aload_n 0, 1) := by decide +kernel
theorem dX5_tree_31 : decode cX5_tree 31 = .ok (.getfield 19, 3) := by decide +kernel
theorem dX5_tree_34 : decode cX5_tree 34 = .ok (.iload_n 1, 1) := by decide +kernel
theorem dX5_tree_35 : decode cX5_tree 35 = .ok (.iload_n 2, 1) := by decide +kernel
theorem dX5_tree_36 : decode cX5_tree 36 = .ok (.invokevirtual 126, 3) := by decide +kernel
theorem dX5_tree_39 : decode cX5_tree 39 = .ok (.ireturn, 1) := by decide +kernel
set_option maxRecDepth 20000 in
theorem ggX5_bind_X5_isPlace : GoodIn wsX5_bind wsX5_isPlace := goodIn_r _ [6] (by decide +kernel) (by decide +kernel)
set_option maxRecDepth 20000 in
theorem gX5_bind_X5_isPlace : GoodIn wsX5_bind (va_wsS RX5 130 yX5_isPlace wsX5_isPlace) := goodIn_app (goodIn_of _ (by decide +kernel)) ggX5_bind_X5_isPlace
set_option maxRecDepth 20000 in
theorem ggX5_bind_X2_hasNode : GoodIn wsX5_bind wsX2_hasNode := goodIn_r _ [11, 12, 61, 62, 63, 64, 65, 66, 67, 68] (by decide +kernel) (by decide +kernel)
set_option maxRecDepth 20000 in
theorem gX5_bind_X2_hasNode : GoodIn wsX5_bind (wsV RX5 116 RX2 yX2_hasNode wsX2_hasNode) := goodIn_app (goodIn_of _ (by decide +kernel)) ggX5_bind_X2_hasNode
set_option maxRecDepth 20000 in
theorem ggX5_bind_X2_hasNodes : GoodIn wsX5_bind wsX2_hasNodes := goodIn_r _ [16, 17, 18, 19, 10, 20, 12, 61, 62, 63, 64, 65, 66, 67, 68] (by decide +kernel) (by decide +kernel)
set_option maxRecDepth 20000 in
theorem gX5_bind_X2_hasNodes : GoodIn wsX5_bind (wsV RX5 123 RX2 yX2_hasNodes wsX2_hasNodes) := goodIn_app (goodIn_of _ (by decide +kernel)) ggX5_bind_X2_hasNodes
set_option maxRecDepth 20000 in
theorem ggX5_bind_X2_treeLinks : GoodIn wsX5_bind wsX2_treeLinks := goodIn_r _ [24, 12, 25, 26, 8, 9, 10, 11, 27, 28, 29, 61, 62, 63, 64, 65, 66, 67, 68] (by decide +kernel) (by decide +kernel)
set_option maxRecDepth 20000 in
theorem gX5_bind_X2_treeLinks : GoodIn wsX5_bind (wsV RX5 126 RX2 yX2_treeLinks wsX2_treeLinks) := goodIn_app (goodIn_of _ (by decide +kernel)) ggX5_bind_X2_treeLinks
set_option maxRecDepth 20000 in
theorem ggX5_bind_X0_isThere : GoodIn wsX5_bind wsX0_isThere := goodIn_r _ [34, 35, 36, 37, 33, 38, 39, 4, 5, 6, 69] (by decide +kernel) (by decide +kernel)
set_option maxRecDepth 20000 in
theorem gX5_bind_X0_isThere : GoodIn wsX5_bind (wsV RX5 133 RX0 yX0_isThere wsX0_isThere) := goodIn_app (goodIn_of _ (by decide +kernel)) ggX5_bind_X0_isThere
set_option maxRecDepth 20000 in
theorem ggX5_bind_X0_put : GoodIn wsX5_bind wsX0_put := goodIn_r _ [43, 39, 4, 5, 6, 69] (by decide +kernel) (by decide +kernel)
set_option maxRecDepth 20000 in
theorem gX5_bind_X0_put : GoodIn wsX5_bind (wsV RX5 136 RX0 yX0_put wsX0_put) := goodIn_app (goodIn_of _ (by decide +kernel)) ggX5_bind_X0_put
set_option maxRecDepth 20000 in
theorem ggX5_bind_J6_bitCount_0f7a4 : GoodIn wsX5_bind wsJ6_bitCount_0f7a4 := goodIn_r _ [47, 48, 49, 50] (by decide +kernel) (by decide +kernel)
set_option maxRecDepth 20000 in
theorem gX5_bind_J6_bitCount_0f7a4 : GoodIn wsX5_bind (va_wsS RX5 139 yJ6_bitCount_0f7a4 wsJ6_bitCount_0f7a4) := goodIn_app (goodIn_of _ (by decide +kernel)) ggX5_bind_J6_bitCount_0f7a4
theorem dX5_bind_0 : decode cX5_bind 0 = .ok (.iload_n 1, 1) := by decide +kernel
theorem dX5_bind_1 : decode cX5_bind 1 = .ok (.invokestatic 130, 3) := by decide +kernel
theorem dX5_bind_4 : decode cX5_bind 4 = .ok (.ifCond .eq 14, 3) := by decide +kernel
theorem dX5_bind_7 : decode cX5_bind 7 = .ok (.aload_n 0, 1) := by decide +kernel
theorem dX5_bind_8 : decode cX5_bind 8 = .ok (.getfield 19, 3) := by decide +kernel
theorem dX5_bind_11 : decode cX5_bind 11 = .ok (.iload_n 2, 1) := by decide +kernel
theorem dX5_bind_12 : decode cX5_bind 12 = .ok (.invokevirtual 116, 3) := by decide +kernel
theorem dX5_bind_15 : decode cX5_bind 15 = .ok (.ifCond .ne 7, 3) := by decide +kernel
theorem dX5_bind_18 : decode cX5_bind 18 = .ok (.sipush (-1001), 3) := by decide +kernel
theorem dX5_bind_21 : decode cX5_bind 21 = .ok (.ireturn, 1) := by decide +kernel
theorem dX5_bind_22 : decode cX5_bind 22 = .ok (.aload_n 0, 1) := by decide +kernel
theorem dX5_bind_23 : decode cX5_bind 23 = .ok (.getfield 19, 3) := by decide +kernel
theorem dX5_bind_26 : decode cX5_bind 26 = .ok (.iload_n 3, 1) := by decide +kernel
theorem dX5_bind_27 : decode cX5_bind 27 = .ok (.invokevirtual 123, 3) := by decide +kernel
theorem dX5_bind_30 : decode cX5_bind 30 = .ok (.ifCond .ne 7, 3) := by decide +kernel
theorem dX5_bind_33 : decode cX5_bind 33 = .ok (.sipush (-1002), 3) := by decide +kernel
theorem dX5_bind_36 : decode cX5_bind 36 = .ok (.ireturn, 1) := by decide +kernel
theorem dX5_bind_37 : decode cX5_bind 37 = .ok (.aload_n 0, 1) := by decide +kernel
theorem dX5_bind_38 : decode cX5_bind 38 = .ok (.getfield 19, 3) := by decide +kernel
theorem dX5_bind_41 : decode cX5_bind 41 = .ok (.iload_n 2, 1) := by decide +kernel
theorem dX5_bind_42 : decode cX5_bind 42 = .ok (.iload_n 3, 1) := by decide +kernel
theorem dX5_bind_43 : decode cX5_bind 43 = .ok (.invokevirtual 126, 3) := by decide +kernel
theorem dX5_bind_46 : decode cX5_bind 46 = .ok (.istore 4, 2) := by decide +kernel
theorem dX5_bind_48 : decode cX5_bind 48 = .ok (.iload 4, 2) := by decide +kernel
theorem dX5_bind_50 : decode cX5_bind 50 = .ok (.ifCond .ne 7, 3) := by decide +kernel
theorem dX5_bind_53 : decode cX5_bind 53 = .ok (.sipush (-1003), 3) := by decide +kernel
theorem dX5_bind_56 : decode cX5_bind 56 = .ok (.ireturn, 1) := by decide +kernel
theorem dX5_bind_57 : decode cX5_bind 57 = .ok (.aload_n 0, 1) := by decide +kernel
theorem dX5_bind_58 : decode cX5_bind 58 = .ok (.getfield 33, 3) := by decide +kernel
theorem dX5_bind_61 : decode cX5_bind 61 = .ok (.iload_n 1, 1) := by decide +kernel
theorem dX5_bind_62 : decode cX5_bind 62 = .ok (.invokevirtual 133, 3) := by decide +kernel
theorem dX5_bind_65 : decode cX5_bind 65 = .ok (.ifCond .eq 7, 3) := by decide +kernel
theorem dX5_bind_68 : decode cX5_bind 68 = .ok (.sipush (-1004), 3) := by decide +kernel
theorem dX5_bind_71 : decode cX5_bind 71 = .ok (.ireturn, 1) := by decide +kernel
theorem dX5_bind_72 : decode cX5_bind 72 = .ok (.aload_n 0, 1) := by decide +kernel
theorem dX5_bind_73 : decode cX5_bind 73 = .ok (.getfield 33, 3) := by decide +kernel
theorem dX5_bind_76 : decode cX5_bind 76 = .ok (.iload_n 1, 1) := by decide +kernel
theorem dX5_bind_77 : decode cX5_bind 77 = .ok (.iload 4, 2) := by decide +kernel
theorem dX5_bind_79 : decode cX5_bind 79 = .ok (.invokevirtual 136, 3) := by decide +kernel
theorem dX5_bind_82 : decode cX5_bind 82 = .ok (.iload 4, 2) := by decide +kernel
theorem dX5_bind_84 : decode cX5_bind 84 = .ok (.invokestatic 139, 3) := by decide +kernel
theorem dX5_bind_87 : decode cX5_bind 87 = .ok (.ireturn, 1) := by decide +kernel
set_option maxRecDepth 20000 in
theorem ggX5_loosen_X5_isPlace : GoodIn wsX5_loosen wsX5_isPlace := goodIn_r _ [5] (by decide +kernel) (by decide +kernel)
set_option maxRecDepth 20000 in
theorem gX5_loosen_X5_isPlace : GoodIn wsX5_loosen (va_wsS RX5 130 yX5_isPlace wsX5_isPlace) := goodIn_app (goodIn_of _ (by decide +kernel)) ggX5_loosen_X5_isPlace
set_option maxRecDepth 20000 in
theorem ggX5_loosen_X0_isThere : GoodIn wsX5_loosen wsX0_isThere := goodIn_r _ [10, 11, 12, 13, 9, 14, 15, 3, 4, 5, 31] (by decide +kernel) (by decide +kernel)
set_option maxRecDepth 20000 in
theorem gX5_loosen_X0_isThere : GoodIn wsX5_loosen (wsV RX5 133 RX0 yX0_isThere wsX0_isThere) := goodIn_app (goodIn_of _ (by decide +kernel)) ggX5_loosen_X0_isThere
set_option maxRecDepth 20000 in
theorem ggX5_loosen_X0_linksAt : GoodIn wsX5_loosen wsX0_linksAt := goodIn_r _ [14, 15, 3, 4, 5, 31] (by decide +kernel) (by decide +kernel)
set_option maxRecDepth 20000 in
theorem gX5_loosen_X0_linksAt : GoodIn wsX5_loosen (wsV RX5 144 RX0 yX0_linksAt wsX0_linksAt) := goodIn_app (goodIn_of _ (by decide +kernel)) ggX5_loosen_X0_linksAt
set_option maxRecDepth 20000 in
theorem ggX5_loosen_X0_put : GoodIn wsX5_loosen wsX0_put := goodIn_r _ [20, 15, 3, 4, 5, 31] (by decide +kernel) (by decide +kernel)
set_option maxRecDepth 20000 in
theorem gX5_loosen_X0_put : GoodIn wsX5_loosen (wsV RX5 136 RX0 yX0_put wsX0_put) := goodIn_app (goodIn_of _ (by decide +kernel)) ggX5_loosen_X0_put
theorem dX5_loosen_0 : decode cX5_loosen 0 = .ok (.iload_n 1, 1) := by decide +kernel
theorem dX5_loosen_1 : decode cX5_loosen 1 = .ok (.invokestatic 130, 3) := by decide +kernel
theorem dX5_loosen_4 : decode cX5_loosen 4 = .ok (.ifCond .ne 7, 3) := by decide +kernel
theorem dX5_loosen_7 : decode cX5_loosen 7 = .ok (.sipush (-1001), 3) := by decide +kernel
theorem dX5_loosen_10 : decode cX5_loosen 10 = .ok (.ireturn, 1) := by decide +kernel
theorem dX5_loosen_11 : decode cX5_loosen 11 = .ok (.aload_n 0, 1) := by decide +kernel
theorem dX5_loosen_12 : decode cX5_loosen 12 = .ok (.getfield 33, 3) := by decide +kernel
theorem dX5_loosen_15 : decode cX5_loosen 15 = .ok (.iload_n 1, 1) := by decide +kernel
theorem dX5_loosen_16 : decode cX5_loosen 16 = .ok (.invokevirtual 133, 3) := by decide +kernel
theorem dX5_loosen_19 : decode cX5_loosen 19 = .ok (.ifCond .ne 7, 3) := by decide +kernel
theorem dX5_loosen_22 : decode cX5_loosen 22 = .ok (.sipush (-1003), 3) := by decide +kernel
theorem dX5_loosen_25 : decode cX5_loosen 25 = .ok (.ireturn, 1) := by decide +kernel
theorem dX5_loosen_26 : decode cX5_loosen 26 = .ok (.aload_n 0, 1) := by decide +kernel
theorem dX5_loosen_27 : decode cX5_loosen 27 = .ok (.getfield 33, 3) := by decide +kernel
theorem dX5_loosen_30 : decode cX5_loosen 30 = .ok (.iload_n 1, 1) := by decide +kernel
theorem dX5_loosen_31 : decode cX5_loosen 31 = .ok (.invokevirtual 144, 3) := by decide +kernel
theorem dX5_loosen_34 : decode cX5_loosen 34 = .ok (.istore_n 2, 1) := by decide +kernel
theorem dX5_loosen_35 : decode cX5_loosen 35 = .ok (.aload_n 0, 1) := by decide +kernel
theorem dX5_loosen_36 : decode cX5_loosen 36 = .ok (.getfield 33, 3) := by decide +kernel
theorem dX5_loosen_39 : decode cX5_loosen 39 = .ok (.iload_n 1, 1) := by decide +kernel
theorem dX5_loosen_40 : decode cX5_loosen 40 = .ok (.iconst 0, 1) := by decide +kernel
theorem dX5_loosen_41 : decode cX5_loosen 41 = .ok (.invokevirtual 136, 3) := by decide +kernel
theorem dX5_loosen_44 : decode cX5_loosen 44 = .ok (.iload_n 2, 1) := by decide +kernel
theorem dX5_loosen_45 : decode cX5_loosen 45 = .ok (.ireturn, 1) := by decide +kernel
set_option maxRecDepth 20000 in
theorem ggX5_bound_X5_isPlace : GoodIn wsX5_bound wsX5_isPlace := goodIn_r _ [8] (by decide +kernel) (by decide +kernel)
set_option maxRecDepth 20000 in
theorem gX5_bound_X5_isPlace : GoodIn wsX5_bound (va_wsS RX5 130 yX5_isPlace wsX5_isPlace) := goodIn_app (goodIn_of _ (by decide +kernel)) ggX5_bound_X5_isPlace
set_option maxRecDepth 20000 in
theorem ggX5_bound_X0_isThere : GoodIn wsX5_bound wsX0_isThere := goodIn_r _ [13, 14, 15, 16, 12, 17, 18, 6, 7, 8, 38] (by decide +kernel) (by decide +kernel)
set_option maxRecDepth 20000 in
theorem gX5_bound_X0_isThere : GoodIn wsX5_bound (wsV RX5 133 RX0 yX0_isThere wsX0_isThere) := goodIn_app (goodIn_of _ (by decide +kernel)) ggX5_bound_X0_isThere
set_option maxRecDepth 20000 in
theorem ggX5_bound_X5_isVariant : GoodIn wsX5_bound wsX5_isVariant := goodIn_r _ [21] (by decide +kernel) (by decide +kernel)
set_option maxRecDepth 20000 in
theorem gX5_bound_X5_isVariant : GoodIn wsX5_bound (va_wsS RX5 98 yX5_isVariant wsX5_isVariant) := goodIn_app (goodIn_of _ (by decide +kernel)) ggX5_bound_X5_isVariant
end
section
set_option maxRecDepth 20000 in
theorem ggX5_bound_X3_ofBundle : GoodIn wsX5_bound wsX3_ofBundle := goodIn_r _ [26, 27, 20, 7, 21, 6, 8, 39, 40, 41, 42, 43] (by decide +kernel) (by decide +kernel)
set_option maxRecDepth 20000 in
theorem gX5_bound_X3_ofBundle : GoodIn wsX5_bound (wsV RX5 147 RX3 yX3_ofBundle wsX3_ofBundle) := goodIn_app (goodIn_of _ (by decide +kernel)) ggX5_bound_X3_ofBundle
theorem dX5_bound_0 : decode cX5_bound 0 = .ok (.iload_n 1, 1) := by decide +kernel
theorem dX5_bound_1 : decode cX5_bound 1 = .ok (.invokestatic 130, 3) := by decide +kernel
theorem dX5_bound_4 : decode cX5_bound 4 = .ok (.ifCond .eq 14, 3) := by decide +kernel
theorem dX5_bound_7 : decode cX5_bound 7 = .ok (.aload_n 0, 1) := by decide +kernel
theorem dX5_bound_8 : decode cX5_bound 8 = .ok (.getfield 33, 3) := by decide +kernel
theorem dX5_bound_11 : decode cX5_bound 11 = .ok (.iload_n 1, 1) := by decide +kernel
theorem dX5_bound_12 : decode cX5_bound 12 = .ok (.invokevirtual 133, 3) := by decide +kernel
theorem dX5_bound_15 : decode cX5_bound 15 = .ok (.ifCond .ne 7, 3) := by decide +kernel
theorem dX5_bound_18 : decode cX5_bound 18 = .ok (.ldc2_w 96, 3) := by decide +kernel
theorem dX5_bound_21 : decode cX5_bound 21 = .ok (.lreturn, 1) := by decide +kernel
theorem dX5_bound_22 : decode cX5_bound 22 = .ok (.iload_n 2, 1) := by decide +kernel
theorem dX5_bound_23 : decode cX5_bound 23 = .ok (.invokestatic 98, 3) := by decide +kernel
theorem dX5_bound_26 : decode cX5_bound 26 = .ok (.ifCond .ne 7, 3) := by decide +kernel
theorem dX5_bound_29 : decode cX5_bound 29 = .ok (.ldc2_w 101, 3) := by decide +kernel
theorem dX5_bound_32 : decode cX5_bound 32 = .ok (.lreturn, 1) := by decide +kernel
theorem dX5_bound_33 : decode cX5_bound 33 = .ok (.aload_n 0, 1) := by decide +kernel
theorem dX5_bound_34 : decode cX5_bound 34 = .ok (.getfield 26, 3) := by decide +kernel
theorem dX5_bound_37 : decode cX5_bound 37 = .ok (.iload_n 1, 1) := by decide +kernel
theorem dX5_bound_38 : decode cX5_bound 38 = .ok (.iload_n 2, 1) := by decide +kernel
theorem dX5_bound_39 : decode cX5_bound 39 = .ok (.invokevirtual 147, 3) := by decide +kernel
theorem dX5_bound_42 : decode cX5_bound 42 = .ok (.lreturn, 1) := by decide +kernel
set_option maxRecDepth 20000 in
theorem ggX5_fold_X2_hasNode : GoodIn wsX5_fold wsX2_hasNode := goodIn_r _ [8, 9, 70, 71, 72, 73, 74, 75, 76, 77] (by decide +kernel) (by decide +kernel)
set_option maxRecDepth 20000 in
theorem gX5_fold_X2_hasNode : GoodIn wsX5_fold (wsV RX5 116 RX2 yX2_hasNode wsX2_hasNode) := goodIn_app (goodIn_of _ (by decide +kernel)) ggX5_fold_X2_hasNode
set_option maxRecDepth 20000 in
theorem ggX5_fold_X2_hasNodes : GoodIn wsX5_fold wsX2_hasNodes := goodIn_r _ [13, 14, 15, 16, 7, 17, 9, 70, 71, 72, 73, 74, 75, 76, 77] (by decide +kernel) (by decide +kernel)
set_option maxRecDepth 20000 in
theorem gX5_fold_X2_hasNodes : GoodIn wsX5_fold (wsV RX5 123 RX2 yX2_hasNodes wsX2_hasNodes) := goodIn_app (goodIn_of _ (by decide +kernel)) ggX5_fold_X2_hasNodes
set_option maxRecDepth 20000 in
theorem ggX5_fold_X5_isVariant : GoodIn wsX5_fold wsX5_isVariant := goodIn_r _ [21] (by decide +kernel) (by decide +kernel)
set_option maxRecDepth 20000 in
theorem gX5_fold_X5_isVariant : GoodIn wsX5_fold (va_wsS RX5 98 yX5_isVariant wsX5_isVariant) := goodIn_app (goodIn_of _ (by decide +kernel)) ggX5_fold_X5_isVariant
set_option maxRecDepth 20000 in
theorem ggX5_fold_X2_treeLinks : GoodIn wsX5_fold wsX2_treeLinks := goodIn_r _ [25, 9, 26, 27, 5, 6, 7, 8, 28, 29, 30, 70, 71, 72, 73, 74, 75, 76, 77] (by decide +kernel) (by decide +kernel)
set_option maxRecDepth 20000 in
theorem gX5_fold_X2_treeLinks : GoodIn wsX5_fold (wsV RX5 126 RX2 yX2_treeLinks wsX2_treeLinks) := goodIn_app (goodIn_of _ (by decide +kernel)) ggX5_fold_X2_treeLinks
set_option maxRecDepth 20000 in
theorem ggX5_fold_X5_foldedBits : GoodIn wsX5_fold wsX5_foldedBits := goodIn_r _ [34, 35, 36, 1, 37, 38, 39, 40, 41, 42, 43, 20, 44, 45, 46, 47, 48, 49, 50, 19, 21, 51, 52, 53, 7, 54, 55, 56, 57, 58, 59, 60, 61, 62, 63, 64, 65, 66, 67, 68, 69, 78, 79, 80, 81, 82, 83, 70, 71, 72, 73, 74, 75, 76, 77] (by decide +kernel) (by decide +kernel)
set_option maxRecDepth 20000 in
theorem gX5_fold_X5_foldedBits : GoodIn wsX5_fold (wsV RX5 150 RX5 yX5_foldedBits wsX5_foldedBits) := goodIn_app (goodIn_of _ (by decide +kernel)) ggX5_fold_X5_foldedBits
theorem dX5_fold_0 : decode cX5_fold 0 = .ok (.aload_n 0, 1) := by decide +kernel
theorem dX5_fold_1 : decode cX5_fold 1 = .ok (.getfield 19, 3) := by decide +kernel
theorem dX5_fold_4 : decode cX5_fold 4 = .ok (.iload_n 1, 1) := by decide +kernel
theorem dX5_fold_5 : decode cX5_fold 5 = .ok (.invokevirtual 116, 3) := by decide +kernel
theorem dX5_fold_8 : decode cX5_fold 8 = .ok (.ifCond .ne 7, 3) := by decide +kernel
theorem dX5_fold_11 : decode cX5_fold 11 = .ok (.ldc2_w 96, 3) := by decide +kernel
theorem dX5_fold_14 : decode cX5_fold 14 = .ok (.lreturn, 1) := by decide +kernel
theorem dX5_fold_15 : decode cX5_fold 15 = .ok (.aload_n 0, 1) := by decide +kernel
theorem dX5_fold_16 : decode cX5_fold 16 = .ok (.getfield 19, 3) := by decide +kernel
theorem dX5_fold_19 : decode cX5_fold 19 = .ok (.iload_n 2, 1) := by decide +kernel
theorem dX5_fold_20 : decode cX5_fold 20 = .ok (.invokevirtual 123, 3) := by decide +kernel
theorem dX5_fold_23 : decode cX5_fold 23 = .ok (.ifCond .eq 10, 3) := by decide +kernel
theorem dX5_fold_26 : decode cX5_fold 26 = .ok (.iload_n 3, 1) := by decide +kernel
theorem dX5_fold_27 : decode cX5_fold 27 = .ok (.invokestatic 98, 3) := by decide +kernel
theorem dX5_fold_30 : decode cX5_fold 30 = .ok (.ifCond .ne 7, 3) := by decide +kernel
theorem dX5_fold_33 : decode cX5_fold 33 = .ok (.ldc2_w 101, 3) := by decide +kernel
theorem dX5_fold_36 : decode cX5_fold 36 = .ok (.lreturn, 1) := by decide +kernel
theorem dX5_fold_37 : decode cX5_fold 37 = .ok (.aload_n 0, 1) := by decide +kernel
theorem dX5_fold_38 : decode cX5_fold 38 = .ok (.aload_n 0, 1) := by decide +kernel
theorem dX5_fold_39 : decode cX5_fold 39 = .ok (.getfield 19, 3) := by decide +kernel
theorem dX5_fold_42 : decode cX5_fold 42 = .ok (.iload_n 1, 1) := by decide +kernel
theorem dX5_fold_43 : decode cX5_fold 43 = .ok (.iload_n 2, 1) := by decide +kernel
theorem dX5_fold_44 : decode cX5_fold 44 = .ok (.invokevirtual 126, 3) := by decide +kernel
theorem dX5_fold_47 : decode cX5_fold 47 = .ok (.iload_n 3, 1) := by decide +kernel
theorem dX5_fold_48 : decode cX5_fold 48 = .ok (.iload 4, 2) := by decide +kernel
theorem dX5_fold_50 : decode cX5_fold 50 = .ok (.invokevirtual 150, 3) := by decide +kernel
theorem dX5_fold_53 : decode cX5_fold 53 = .ok (.lreturn, 1) := by decide +kernel
set_option maxRecDepth 20000 in
theorem ggX5_spread_X2_hasNode : GoodIn wsX5_spread wsX2_hasNode := goodIn_r _ [6, 7, 147, 148, 149, 150, 151, 152, 153, 154] (by decide +kernel) (by decide +kernel)
set_option maxRecDepth 20000 in
theorem gX5_spread_X2_hasNode : GoodIn wsX5_spread (wsV RX5 116 RX2 yX2_hasNode wsX2_hasNode) := goodIn_app (goodIn_of _ (by decide +kernel)) ggX5_spread_X2_hasNode
set_option maxRecDepth 20000 in
theorem ggX5_spread_X2_hasNodes : GoodIn wsX5_spread wsX2_hasNodes := goodIn_r _ [11, 12, 13, 14, 5, 15, 7, 147, 148, 149, 150, 151, 152, 153, 154] (by decide +kernel) (by decide +kernel)
set_option maxRecDepth 20000 in
theorem gX5_spread_X2_hasNodes : GoodIn wsX5_spread (wsV RX5 123 RX2 yX2_hasNodes wsX2_hasNodes) := goodIn_app (goodIn_of _ (by decide +kernel)) ggX5_spread_X2_hasNodes
set_option maxRecDepth 20000 in
theorem ggX5_spread_X5_isVariant : GoodIn wsX5_spread wsX5_isVariant := goodIn_r _ [19] (by decide +kernel) (by decide +kernel)
set_option maxRecDepth 20000 in
theorem gX5_spread_X5_isVariant : GoodIn wsX5_spread (va_wsS RX5 98 yX5_isVariant wsX5_isVariant) := goodIn_app (goodIn_of _ (by decide +kernel)) ggX5_spread_X5_isVariant
set_option maxRecDepth 20000 in
theorem ggX5_spread_X5_spreadOut : GoodIn wsX5_spread wsX5_spreadOut := goodIn_r _ [23, 1, 24, 25, 26, 27, 28, 5, 29, 7, 30, 31, 3, 4, 6, 32, 33, 34, 35, 36, 37, 18, 38, 39, 40, 41, 42, 43, 44, 45, 46, 47, 48, 49, 50, 51, 52, 53, 54, 17, 19, 55, 56, 57, 58, 59, 60, 61, 62, 63, 64, 65, 66, 67, 68, 69, 70, 71, 72, 73, 74, 75, 76, 77, 78, 79, 80, 81, 82, 83, 84, 85, 86, 87, 88, 89, 90, 91, 92, 93, 94, 95, 96, 97, 98, 99, 100, 101, 102, 103, 104, 105, 106, 107, 108, 137, 138, 139, 140, 141, 142, 143, 144, 145, 146, 155, 156, 157, 158, 159, 160, 161, 147, 148, 149, 150, 151, 152, 153, 154, 162, 163, 164, 165, 166, 167] (by decide +kernel) (by decide +kernel)
set_option maxRecDepth 20000 in
theorem gX5_spread_X5_spreadOut : GoodIn wsX5_spread (wsV RX5 154 RX5 yX5_spreadOut wsX5_spreadOut) := goodIn_app (goodIn_of _ (by decide +kernel)) ggX5_spread_X5_spreadOut
set_option maxRecDepth 20000 in
theorem ggX5_spread_X5_spreadFact : GoodIn wsX5_spread wsX5_spreadFact := goodIn_r _ [112, 24, 25, 113, 114, 115, 116, 117, 40, 118, 119, 120, 121, 52, 122, 123, 124, 125, 126, 127, 128, 129, 130, 131, 132, 133, 134, 135, 136, 137, 138, 139, 140, 141, 142, 143, 144, 145, 146, 155, 156, 157, 158, 159, 160, 161, 163, 164, 165, 166, 167] (by decide +kernel) (by decide +kernel)
set_option maxRecDepth 20000 in
theorem gX5_spread_X5_spreadFact : GoodIn wsX5_spread (wsV RX5 158 RX5 yX5_spreadFact wsX5_spreadFact) := goodIn_app (goodIn_of _ (by decide +kernel)) ggX5_spread_X5_spreadFact
theorem dX5_spread_0 : decode cX5_spread 0 = .ok (.aload_n 0, 1) := by decide +kernel
theorem dX5_spread_1 : decode cX5_spread 1 = .ok (.getfield 19, 3) := by decide +kernel
theorem dX5_spread_4 : decode cX5_spread 4 = .ok (.iload_n 1, 1) := by decide +kernel
theorem dX5_spread_5 : decode cX5_spread 5 = .ok (.invokevirtual 116, 3) := by decide +kernel
theorem dX5_spread_8 : decode cX5_spread 8 = .ok (.ifCond .ne 7, 3) := by decide +kernel
theorem dX5_spread_11 : decode cX5_spread 11 = .ok (.sipush (-1001), 3) := by decide +kernel
theorem dX5_spread_14 : decode cX5_spread 14 = .ok (.ireturn, 1) := by decide +kernel
theorem dX5_spread_15 : decode cX5_spread 15 = .ok (.aload_n 0, 1) := by decide +kernel
theorem dX5_spread_16 : decode cX5_spread 16 = .ok (.getfield 19, 3) := by decide +kernel
theorem dX5_spread_19 : decode cX5_spread 19 = .ok (.iload_n 2, 1) := by decide +kernel
theorem dX5_spread_20 : decode cX5_spread 20 = .ok (.invokevirtual 123, 3) := by decide +kernel
theorem dX5_spread_23 : decode cX5_spread 23 = .ok (.ifCond .eq 22, 3) := by decide +kernel
theorem dX5_spread_26 : decode cX5_spread 26 = .ok (.iload_n 3, 1) := by decide +kernel
theorem dX5_spread_27 : decode cX5_spread 27 = .ok (.invokestatic 98, 3) := by decide +kernel
theorem dX5_spread_30 : decode cX5_spread 30 = .ok (.ifCond .eq 15, 3) := by decide +kernel
theorem dX5_spread_33 : decode cX5_spread 33 = .ok (.iload 5, 2) := by decide +kernel
theorem dX5_spread_35 : decode cX5_spread 35 = .ok (.ifCond .lt 10, 3) := by decide +kernel
theorem dX5_spread_38 : decode cX5_spread 38 = .ok (.iload 5, 2) := by decide +kernel
theorem dX5_spread_40 : decode cX5_spread 40 = .ok (.bipush 9, 2) := by decide +kernel
theorem dX5_spread_42 : decode cX5_spread 42 = .ok (.if_icmp .lt 7, 3) := by decide +kernel
theorem dX5_spread_45 : decode cX5_spread 45 = .ok (.sipush (-1002), 3) := by decide +kernel
theorem dX5_spread_48 : decode cX5_spread 48 = .ok (.ireturn, 1) := by decide +kernel
theorem dX5_spread_49 : decode cX5_spread 49 = .ok (.aload_n 0, 1) := by decide +kernel
theorem dX5_spread_50 : decode cX5_spread 50 = .ok (.iload_n 1, 1) := by decide +kernel
theorem dX5_spread_51 : decode cX5_spread 51 = .ok (.iload_n 2, 1) := by decide +kernel
theorem dX5_spread_52 : decode cX5_spread 52 = .ok (.iload_n 3, 1) := by decide +kernel
theorem dX5_spread_53 : decode cX5_spread 53 = .ok (.iload 4, 2) := by decide +kernel
theorem dX5_spread_55 : decode cX5_spread 55 = .ok (.invokevirtual 154, 3) := by decide +kernel
theorem dX5_spread_58 : decode cX5_spread 58 = .ok (.aload_n 0, 1) := by decide +kernel
theorem dX5_spread_59 : decode cX5_spread 59 = .ok (.iload 5, 2) := by decide +kernel
theorem dX5_spread_61 : decode cX5_spread 61 = .ok (.invokevirtual 158, 3) := by decide +kernel
theorem dX5_spread_64 : decode cX5_spread 64 = .ok (.ireturn, 1) := by decide +kernel
set_option maxRecDepth 20000 in
theorem ggX5_best_X2_hasNode : GoodIn wsX5_best wsX2_hasNode := goodIn_r _ [6, 7, 123, 124, 125, 126, 127, 128, 129, 130] (by decide +kernel) (by decide +kernel)
set_option maxRecDepth 20000 in
theorem gX5_best_X2_hasNode : GoodIn wsX5_best (wsV RX5 116 RX2 yX2_hasNode wsX2_hasNode) := goodIn_app (goodIn_of _ (by decide +kernel)) ggX5_best_X2_hasNode
set_option maxRecDepth 20000 in
theorem ggX5_best_X2_hasNodes : GoodIn wsX5_best wsX2_hasNodes := goodIn_r _ [11, 12, 13, 14, 5, 15, 7, 123, 124, 125, 126, 127, 128, 129, 130] (by decide +kernel) (by decide +kernel)
set_option maxRecDepth 20000 in
theorem gX5_best_X2_hasNodes : GoodIn wsX5_best (wsV RX5 123 RX2 yX2_hasNodes wsX2_hasNodes) := goodIn_app (goodIn_of _ (by decide +kernel)) ggX5_best_X2_hasNodes
set_option maxRecDepth 20000 in
theorem ggX5_best_X5_bestVariant : GoodIn wsX5_best wsX5_bestVariant := goodIn_r _ [20, 21, 22, 23, 24, 25, 26, 19, 27, 1, 28, 29, 30, 5, 31, 7, 32, 33, 3, 4, 6, 34, 35, 36, 37, 38, 39, 40, 41, 42, 43, 44, 45, 46, 47, 48, 49, 50, 51, 52, 53, 54, 55, 56, 57, 58, 59, 60, 61, 62, 63, 64, 65, 66, 67, 68, 69, 70, 71, 72, 73, 74, 75, 76, 77, 78, 79, 80, 81, 82, 83, 84, 85, 86, 87, 88, 89, 90, 91, 92, 93, 94, 95, 96, 97, 98, 99, 100, 101, 102, 103, 104, 105, 106, 107, 108, 109, 110, 111, 112, 113, 114, 115, 116, 117, 118, 119, 120, 121, 122, 131, 132, 133, 134, 135, 136, 137, 123, 124, 125, 126, 127, 128, 129, 130, 138, 139, 140, 141, 142, 143] (by decide +kernel) (by decide +kernel)
set_option maxRecDepth 20000 in
theorem gX5_best_X5_bestVariant : GoodIn wsX5_best (wsV RX5 161 RX5 yX5_bestVariant wsX5_bestVariant) := goodIn_app (goodIn_of _ (by decide +kernel)) ggX5_best_X5_bestVariant
theorem dX5_best_0 : decode cX5_best 0 = .ok (.aload_n 0, 1) := by decide +kernel
theorem dX5_best_1 : decode cX5_best 1 = .ok (.getfield 19, 3) := by decide +kernel
theorem dX5_best_4 : decode cX5_best 4 = .ok (.iload_n 1, 1) := by decide +kernel
theorem dX5_best_5 : decode cX5_best 5 = .ok (.invokevirtual 116, 3) := by decide +kernel
theorem dX5_best_8 : decode cX5_best 8 = .ok (.ifCond .ne 7, 3) := by decide +kernel
theorem dX5_best_11 : decode cX5_best 11 = .ok (.sipush (-1001), 3) := by decide +kernel
theorem dX5_best_14 : decode cX5_best 14 = .ok (.ireturn, 1) := by decide +kernel
theorem dX5_best_15 : decode cX5_best 15 = .ok (.aload_n 0, 1) := by decide +kernel
theorem dX5_best_16 : decode cX5_best 16 = .ok (.getfield 19, 3) := by decide +kernel
theorem dX5_best_19 : decode cX5_best 19 = .ok (.iload_n 2, 1) := by decide +kernel
theorem dX5_best_20 : decode cX5_best 20 = .ok (.invokevirtual 123, 3) := by decide +kernel
theorem dX5_best_23 : decode cX5_best 23 = .ok (.ifCond .ne 7, 3) := by decide +kernel
theorem dX5_best_26 : decode cX5_best 26 = .ok (.sipush (-1002), 3) := by decide +kernel
theorem dX5_best_29 : decode cX5_best 29 = .ok (.ireturn, 1) := by decide +kernel
theorem dX5_best_30 : decode cX5_best 30 = .ok (.aload_n 0, 1) := by decide +kernel
theorem dX5_best_31 : decode cX5_best 31 = .ok (.iload_n 1, 1) := by decide +kernel
theorem dX5_best_32 : decode cX5_best 32 = .ok (.iload_n 2, 1) := by decide +kernel
theorem dX5_best_33 : decode cX5_best 33 = .ok (.iload_n 3, 1) := by decide +kernel
theorem dX5_best_34 : decode cX5_best 34 = .ok (.invokevirtual 161, 3) := by decide +kernel
theorem dX5_best_37 : decode cX5_best 37 = .ok (.ireturn, 1) := by decide +kernel
set_option maxRecDepth 20000 in
theorem ggX5_send_X2_hasNode : GoodIn wsX5_send wsX2_hasNode := goodIn_r _ [14, 15, 136, 137, 138, 139, 140, 141, 142, 143] (by decide +kernel) (by decide +kernel)
set_option maxRecDepth 20000 in
theorem gX5_send_X2_hasNode : GoodIn wsX5_send (wsV RX5 116 RX2 yX2_hasNode wsX2_hasNode) := goodIn_app (goodIn_of _ (by decide +kernel)) ggX5_send_X2_hasNode
set_option maxRecDepth 20000 in
theorem ggX5_send_X2_hasNodes : GoodIn wsX5_send wsX2_hasNodes := goodIn_r _ [19, 20, 21, 22, 13, 23, 15, 136, 137, 138, 139, 140, 141, 142, 143] (by decide +kernel) (by decide +kernel)
set_option maxRecDepth 20000 in
theorem gX5_send_X2_hasNodes : GoodIn wsX5_send (wsV RX5 123 RX2 yX2_hasNodes wsX2_hasNodes) := goodIn_app (goodIn_of _ (by decide +kernel)) ggX5_send_X2_hasNodes
set_option maxRecDepth 20000 in
theorem ggX5_send_X5_bestVariant : GoodIn wsX5_send wsX5_bestVariant := goodIn_r _ [28, 4, 7, 29, 30, 31, 32, 27, 33, 1, 34, 35, 36, 13, 37, 15, 38, 39, 11, 12, 14, 40, 41, 42, 43, 44, 45, 46, 47, 48, 49, 50, 51, 52, 53, 54, 55, 56, 57, 58, 59, 60, 61, 62, 63, 64, 65, 66, 67, 68, 69, 70, 71, 72, 73, 74, 75, 76, 77, 78, 79, 80, 81, 82, 83, 84, 85, 86, 87, 88, 89, 90, 91, 92, 93, 94, 95, 96, 97, 98, 99, 100, 101, 102, 103, 104, 105, 106, 107, 108, 109, 110, 111, 112, 113, 114, 115, 116, 117, 118, 119, 120, 121, 122, 123, 124, 125, 126, 127, 128, 129, 130, 131, 132, 133, 134, 135, 136, 137, 138, 139, 140, 141, 142, 143, 144, 145, 146, 147, 148, 149] (by decide +kernel) (by decide +kernel)
set_option maxRecDepth 20000 in
theorem gX5_send_X5_bestVariant : GoodIn wsX5_send (wsV RX5 161 RX5 yX5_bestVariant wsX5_bestVariant) := goodIn_app (goodIn_of _ (by decide +kernel)) ggX5_send_X5_bestVariant
set_option maxRecDepth 20000 in
theorem ggX5_send_X5_spreadOut : GoodIn wsX5_send wsX5_spreadOut := goodIn_r _ [33, 1, 4, 29, 34, 35, 36, 13, 37, 15, 38, 39, 11, 12, 14, 40, 41, 42, 43, 44, 45, 27, 46, 47, 48, 49, 50, 51, 52, 53, 54, 55, 56, 57, 58, 59, 60, 61, 62, 63, 64, 65, 66, 67, 68, 69, 70, 71, 72, 73, 74, 75, 76, 77, 78, 79, 80, 81, 82, 83, 84, 85, 86, 87, 88, 89, 90, 91, 92, 93, 94, 95, 96, 97, 98, 99, 100, 101, 102, 103, 104, 105, 106, 107, 108, 109, 110, 111, 112, 113, 114, 115, 116, 117, 118, 119, 120, 121, 122, 123, 124, 125, 126, 127, 128, 129, 130, 131, 132, 133, 134, 135, 136, 137, 138, 139, 140, 141, 142, 143, 144, 145, 146, 147, 148, 149] (by decide +kernel) (by decide +kernel)
set_option maxRecDepth 20000 in
theorem gX5_send_X5_spreadOut : GoodIn wsX5_send (wsV RX5 154 RX5 yX5_spreadOut wsX5_spreadOut) := goodIn_app (goodIn_of _ (by decide +kernel)) ggX5_send_X5_spreadOut
theorem dX5_send_0 : decode cX5_send 0 = .ok (.aload_n 0, 1) := by decide +kernel
theorem dX5_send_1 : decode cX5_send 1 = .ok (.getfield 19, 3) := by decide +kernel
theorem dX5_send_4 : decode cX5_send 4 = .ok (.iload_n 1, 1) := by decide +kernel
theorem dX5_send_5 : decode cX5_send 5 = .ok (.invokevirtual 116, 3) := by decide +kernel
theorem dX5_send_8 : decode cX5_send 8 = .ok (.ifCond .ne 7, 3) := by decide +kernel
theorem dX5_send_11 : decode cX5_send 11 = .ok (.sipush (-1001), 3) := by decide +kernel
theorem dX5_send_14 : decode cX5_send 14 = .ok (.ireturn, 1) := by decide +kernel
theorem dX5_send_15 : decode cX5_send 15 = .ok (.aload_n 0, 1) := by decide +kernel
theorem dX5_send_16 : decode cX5_send 16 = .ok (.getfield 19, 3) := by decide +kernel
theorem dX5_send_19 : decode cX5_send 19 = .ok (.iload_n 2, 1) := by decide +kernel
theorem dX5_send_20 : decode cX5_send 20 = .ok (.invokevirtual 123, 3) := by decide +kernel
theorem dX5_send_23 : decode cX5_send 23 = .ok (.ifCond .ne 7, 3) := by decide +kernel
theorem dX5_send_26 : decode cX5_send 26 = .ok (.sipush (-1002), 3) := by decide +kernel
theorem dX5_send_29 : decode cX5_send 29 = .ok (.ireturn, 1) := by decide +kernel
theorem dX5_send_30 : decode cX5_send 30 = .ok (.aload_n 0, 1) := by decide +kernel
theorem dX5_send_31 : decode cX5_send 31 = .ok (.iload_n 1, 1) := by decide +kernel
theorem dX5_send_32 : decode cX5_send 32 = .ok (.iload_n 2, 1) := by decide +kernel
theorem dX5_send_33 : decode cX5_send 33 = .ok (.aload_n 0, 1) := by decide +kernel
theorem dX5_send_34 : decode cX5_send 34 = .ok (.iload_n 1, 1) := by decide +kernel
theorem dX5_send_35 : decode cX5_send 35 = .ok (.iload_n 2, 1) := by decide +kernel
theorem dX5_send_36 : decode cX5_send 36 = .ok (.iload_n 3, 1) := by decide +kernel
theorem dX5_send_37 : decode cX5_send 37 = .ok (.invokevirtual 161, 3) := by decide +kernel
theorem dX5_send_40 : decode cX5_send 40 = .ok (.iload_n 3, 1) := by decide +kernel
theorem dX5_send_41 : decode cX5_send 41 = .ok (.invokevirtual 154, 3) := by decide +kernel
theorem dX5_send_44 : decode cX5_send 44 = .ok (.aload_n 0, 1) := by decide +kernel
theorem dX5_send_45 : decode cX5_send 45 = .ok (.dup, 1) := by decide +kernel
theorem dX5_send_46 : decode cX5_send 46 = .ok (.getfield 165, 3) := by decide +kernel
theorem dX5_send_49 : decode cX5_send 49 = .ok (.iconst 1, 1) := by decide +kernel
theorem dX5_send_50 : decode cX5_send 50 = .ok (.iadd, 1) := by decide +kernel
theorem dX5_send_51 : decode cX5_send 51 = .ok (.putfield 165, 3) := by decide +kernel
theorem dX5_send_54 : decode cX5_send 54 = .ok (.aload_n 0, 1) := by decide +kernel
theorem dX5_send_55 : decode cX5_send 55 = .ok (.dup, 1) := by decide +kernel
theorem dX5_send_56 : decode cX5_send 56 = .ok (.getfield 168, 3) := by decide +kernel
theorem dX5_send_59 : decode cX5_send 59 = .ok (.aload_n 0, 1) := by decide +kernel
theorem dX5_send_60 : decode cX5_send 60 = .ok (.getfield 40, 3) := by decide +kernel
theorem dX5_send_63 : decode cX5_send 63 = .ok (.getfield 171, 3) := by decide +kernel
theorem dX5_send_66 : decode cX5_send 66 = .ok (.iadd, 1) := by decide +kernel
theorem dX5_send_67 : decode cX5_send 67 = .ok (.putfield 168, 3) := by decide +kernel
theorem dX5_send_70 : decode cX5_send 70 = .ok (.aload_n 0, 1) := by decide +kernel
theorem dX5_send_71 : decode cX5_send 71 = .ok (.dup, 1) := by decide +kernel
theorem dX5_send_72 : decode cX5_send 72 = .ok (.getfield 174, 3) := by decide +kernel
theorem dX5_send_75 : decode cX5_send 75 = .ok (.aload_n 0, 1) := by decide +kernel
theorem dX5_send_76 : decode cX5_send 76 = .ok (.getfield 40, 3) := by decide +kernel
theorem dX5_send_79 : decode cX5_send 79 = .ok (.getfield 177, 3) := by decide +kernel
theorem dX5_send_82 : decode cX5_send 82 = .ok (.iadd, 1) := by decide +kernel
theorem dX5_send_83 : decode cX5_send 83 = .ok (.putfield 174, 3) := by decide +kernel
theorem dX5_send_86 : decode cX5_send 86 = .ok (.aload_n 0, 1) := by decide +kernel
theorem dX5_send_87 : decode cX5_send 87 = .ok (.dup, 1) := by decide +kernel
theorem dX5_send_88 : decode cX5_send 88 = .ok (.getfield 180, 3) := by decide +kernel
theorem dX5_send_91 : decode cX5_send 91 = .ok (.aload_n 0, 1) := by decide +kernel
theorem dX5_send_92 : decode cX5_send 92 = .ok (.getfield 40, 3) := by decide +kernel
theorem dX5_send_95 : decode cX5_send 95 = .ok (.getfield 183, 3) := by decide +kernel
theorem dX5_send_98 : decode cX5_send 98 = .ok (.iadd, 1) := by decide +kernel
theorem dX5_send_99 : decode cX5_send 99 = .ok (.putfield 180, 3) := by decide +kernel
theorem dX5_send_102 : decode cX5_send 102 = .ok (.aload_n 0, 1) := by decide +kernel
theorem dX5_send_103 : decode cX5_send 103 = .ok (.getfield 40, 3) := by decide +kernel
theorem dX5_send_106 : decode cX5_send 106 = .ok (.getfield 177, 3) := by decide +kernel
theorem dX5_send_109 : decode cX5_send 109 = .ok (.ireturn, 1) := by decide +kernel
set_option maxRecDepth 20000 in
theorem ggX5_count_X2_nodeCount : GoodIn wsX5_count wsX2_nodeCount := goodIn_r _ [14, 15, 62, 63, 64, 65, 66, 67, 68, 69] (by decide +kernel) (by decide +kernel)
set_option maxRecDepth 20000 in
theorem gX5_count_X2_nodeCount : GoodIn wsX5_count (wsV RX5 186 RX2 yX2_nodeCount wsX2_nodeCount) := goodIn_app (goodIn_of _ (by decide +kernel)) ggX5_count_X2_nodeCount
set_option maxRecDepth 20000 in
theorem ggX5_count_X2_linkCount : GoodIn wsX5_count wsX2_linkCount := goodIn_r _ [19, 20, 62, 63, 64, 65, 66, 67, 68, 69] (by decide +kernel) (by decide +kernel)
set_option maxRecDepth 20000 in
theorem gX5_count_X2_linkCount : GoodIn wsX5_count (wsV RX5 70 RX2 yX2_linkCount wsX2_linkCount) := goodIn_app (goodIn_of _ (by decide +kernel)) ggX5_count_X2_linkCount
set_option maxRecDepth 20000 in
theorem ggX5_count_X4_size : GoodIn wsX5_count wsX4_size := goodIn_r _ [25, 26, 70, 71] (by decide +kernel) (by decide +kernel)
set_option maxRecDepth 20000 in
theorem gX5_count_X4_size : GoodIn wsX5_count (wsV RX5 52 RX4 yX4_size wsX4_size) := goodIn_app (goodIn_of _ (by decide +kernel)) ggX5_count_X4_size
set_option maxRecDepth 20000 in
theorem ggX5_count_X3_setting : GoodIn wsX5_count wsX3_setting := goodIn_r _ [31, 32, 33, 34, 72, 73, 74, 75, 76] (by decide +kernel) (by decide +kernel)
set_option maxRecDepth 20000 in
theorem gX5_count_X3_setting : GoodIn wsX5_count (wsV RX5 84 RX3 yX3_setting wsX3_setting) := goodIn_app (goodIn_of _ (by decide +kernel)) ggX5_count_X3_setting
set_option maxRecDepth 20000 in
theorem ggX5_count_X0_howMany : GoodIn wsX5_count wsX0_howMany := goodIn_r _ [39, 40, 41, 42, 38, 43, 44, 45, 46, 47, 48, 49, 50, 51, 77] (by decide +kernel) (by decide +kernel)
set_option maxRecDepth 20000 in
theorem gX5_count_X0_howMany : GoodIn wsX5_count (wsV RX5 189 RX0 yX0_howMany wsX0_howMany) := goodIn_app (goodIn_of _ (by decide +kernel)) ggX5_count_X0_howMany
theorem dX5_count_0 : decode cX5_count 0 = .ok (.iload_n 1, 1) := by decide +kernel
theorem dX5_count_1 : decode cX5_count 1 = .ok (.tableswitch 131 0 11 #[63, 71, 79, 87, 87, 87, 98, 106, 111, 116, 121, 126], 63) := by decide +kernel
theorem dX5_count_64 : decode cX5_count 64 = .ok (.aload_n 0, 1) := by decide +kernel
theorem dX5_count_65 : decode cX5_count 65 = .ok (.getfield 19, 3) := by decide +kernel
theorem dX5_count_68 : decode cX5_count 68 = .ok (.invokevirtual 186, 3) := by decide +kernel
theorem dX5_count_71 : decode cX5_count 71 = .ok (.ireturn, 1) := by decide +kernel
theorem dX5_count_72 : decode cX5_count 72 = .ok (.aload_n 0, 1) := by decide +kernel
theorem dX5_count_73 : decode cX5_count 73 = .ok (.getfield 19, 3) := by decide +kernel
theorem dX5_count_76 : decode cX5_count 76 = .ok (.invokevirtual 70, 3) := by decide +kernel
theorem dX5_count_79 : decode cX5_count 79 = .ok (.ireturn, 1) := by decide +kernel
theorem dX5_count_80 : decode cX5_count 80 = .ok (.aload_n 0, 1) := by decide +kernel
theorem dX5_count_81 : decode cX5_count 81 = .ok (.getfield 10, 3) := by decide +kernel
theorem dX5_count_84 : decode cX5_count 84 = .ok (.invokevirtual 52, 3) := by decide +kernel
theorem dX5_count_87 : decode cX5_count 87 = .ok (.ireturn, 1) := by decide +kernel
theorem dX5_count_88 : decode cX5_count 88 = .ok (.aload_n 0, 1) := by decide +kernel
theorem dX5_count_89 : decode cX5_count 89 = .ok (.getfield 26, 3) := by decide +kernel
theorem dX5_count_92 : decode cX5_count 92 = .ok (.iload_n 1, 1) := by decide +kernel
theorem dX5_count_93 : decode cX5_count 93 = .ok (.iconst 3, 1) := by decide +kernel
theorem dX5_count_94 : decode cX5_count 94 = .ok (.isub, 1) := by decide +kernel
theorem dX5_count_95 : decode cX5_count 95 = .ok (.invokevirtual 84, 3) := by decide +kernel
theorem dX5_count_98 : decode cX5_count 98 = .ok (.ireturn, 1) := by decide +kernel
theorem dX5_count_99 : decode cX5_count 99 = .ok (.aload_n 0, 1) := by decide +kernel
theorem dX5_count_100 : decode cX5_count 100 = .ok (.getfield 33, 3) := by decide +kernel
theorem dX5_count_103 : decode cX5_count 103 = .ok (.invokevirtual 189, 3) := by decide +kernel
theorem dX5_count_106 : decode cX5_count 106 = .ok (.ireturn, 1) := by decide +kernel
theorem dX5_count_107 : decode cX5_count 107 = .ok (.aload_n 0, 1) := by decide +kernel
theorem dX5_count_108 : decode cX5_count 108 = .ok (.getfield 76, 3) := by decide +kernel
theorem dX5_count_111 : decode cX5_count 111 = .ok (.ireturn, 1) := by decide +kernel
theorem dX5_count_112 : decode cX5_count 112 = .ok (.aload_n 0, 1) := by decide +kernel
theorem dX5_count_113 : decode cX5_count 113 = .ok (.getfield 165, 3) := by decide +kernel
theorem dX5_count_116 : decode cX5_count 116 = .ok (.ireturn, 1) := by decide +kernel
theorem dX5_count_117 : decode cX5_count 117 = .ok (.aload_n 0, 1) := by decide +kernel
theorem dX5_count_118 : decode cX5_count 118 = .ok (.getfield 168, 3) := by decide +kernel
theorem dX5_count_121 : decode cX5_count 121 = .ok (.ireturn, 1) := by decide +kernel
theorem dX5_count_122 : decode cX5_count 122 = .ok (.aload_n 0, 1) := by decide +kernel
theorem dX5_count_123 : decode cX5_count 123 = .ok (.getfield 174, 3) := by decide +kernel
theorem dX5_count_126 : decode cX5_count 126 = .ok (.ireturn, 1) := by decide +kernel
theorem dX5_count_127 : decode cX5_count 127 = .ok (.aload_n 0, 1) := by decide +kernel
theorem dX5_count_128 : decode cX5_count 128 = .ok (.getfield 180, 3) := by decide +kernel
theorem dX5_count_131 : decode cX5_count 131 = .ok (.ireturn, 1) := by decide +kernel
theorem dX5_count_132 : decode cX5_count 132 = .ok (.sipush (-1002), 3) := by decide +kernel
theorem dX5_count_135 : decode cX5_count 135 = .ok (.ireturn, 1) := by decide +kernel
set_option maxRecDepth 20000 in
theorem ggX5_digest_X5_withLinks : GoodIn wsX5_digest wsX5_withLinks := goodIn_r _ [6, 7, 8, 9, 10, 11, 12, 13, 14, 15, 16, 17, 18, 19, 20, 21, 22, 5, 23, 24, 25, 26, 27, 28, 29, 30, 31, 32, 33, 34, 35, 36, 37, 38, 39, 40, 41, 42, 43, 206, 207, 208, 209, 210, 211, 212, 213, 214, 215, 216, 217, 218, 219, 220, 221, 222, 223, 224, 225, 226, 227, 228, 229] (by decide +kernel) (by decide +kernel)
set_option maxRecDepth 20000 in
theorem gX5_digest_X5_withLinks : GoodIn wsX5_digest (wsV RX5 194 RX5 yX5_withLinks wsX5_withLinks) := goodIn_app (goodIn_of _ (by decide +kernel)) ggX5_digest_X5_withLinks
set_option maxRecDepth 20000 in
theorem ggX5_digest_X5_withBundles : GoodIn wsX5_digest wsX5_withBundles := goodIn_r _ [47, 8, 9, 48, 49, 50, 33, 51, 52, 53, 54, 55, 35, 56, 5, 57, 21, 22, 23, 24, 58, 59, 60, 39, 61, 41, 42, 43, 206, 207, 208, 209, 210, 211, 212, 213, 214, 215, 224, 225, 226, 227, 228, 229] (by decide +kernel) (by decide +kernel)
set_option maxRecDepth 20000 in
theorem gX5_digest_X5_withBundles : GoodIn wsX5_digest (wsV RX5 198 RX5 yX5_withBundles wsX5_withBundles) := goodIn_app (goodIn_of _ (by decide +kernel)) ggX5_digest_X5_withBundles
set_option maxRecDepth 20000 in
theorem ggX5_digest_X5_withNodes : GoodIn wsX5_digest wsX5_withNodes := goodIn_r _ [65, 7, 66, 67, 68, 13, 69, 70, 71, 72, 73, 74, 75, 76, 77, 78, 79, 80, 81, 82, 83, 84, 85, 86, 21, 22, 5, 23, 24, 87, 88, 89, 90, 91, 92, 93, 94, 95, 96, 8, 9, 97, 53, 54, 33, 55, 35, 56, 57, 58, 59, 60, 39, 61, 41, 42, 43, 10, 11, 12, 14, 15, 36, 37, 38, 40, 98, 99, 100, 101, 102, 103, 104, 105, 106, 107, 108, 109, 110, 111, 112, 113, 114, 115, 116, 117, 118, 119, 120, 121, 122, 123, 124, 125, 126, 17, 18, 19, 20, 127, 26, 27, 28, 29, 128, 129, 130, 131, 132, 133, 134, 135, 136, 137, 138, 139, 140, 141, 142, 143, 144, 145, 146, 147, 148, 149, 150, 151, 152, 153, 154, 155, 156, 157, 158, 159, 160, 161, 162, 163, 164, 165, 166, 206, 207, 208, 209, 210, 211, 212, 213, 214, 215, 216, 217, 218, 219, 220, 221, 222, 223, 230, 231, 232, 233, 234, 235, 236, 224, 225, 226, 227, 228, 229] (by decide +kernel) (by decide +kernel)
set_option maxRecDepth 20000 in
theorem gX5_digest_X5_withNodes : GoodIn wsX5_digest (wsV RX5 201 RX5 yX5_withNodes wsX5_withNodes) := goodIn_app (goodIn_of _ (by decide +kernel)) ggX5_digest_X5_withNodes
set_option maxRecDepth 20000 in
theorem ggX5_digest_X5_withPage : GoodIn wsX5_digest wsX5_withPage := goodIn_r _ [170, 171, 172, 173, 174, 175, 176, 177, 178, 179, 180, 181, 182, 21, 22, 5, 23, 24, 206, 207, 208, 209, 210, 211, 212, 213, 214, 215, 237, 238] (by decide +kernel) (by decide +kernel)
set_option maxRecDepth 20000 in
theorem gX5_digest_X5_withPage : GoodIn wsX5_digest (wsV RX5 204 RX5 yX5_withPage wsX5_withPage) := goodIn_app (goodIn_of _ (by decide +kernel)) ggX5_digest_X5_withPage
set_option maxRecDepth 20000 in
theorem ggX5_digest_X5_withCounts : GoodIn wsX5_digest wsX5_withCounts := goodIn_r _ [186, 187, 188, 189, 5, 190, 7, 171, 9, 8, 191, 192, 193, 194, 195, 71, 72, 73, 13, 74, 70, 10, 11, 12, 14, 15, 172, 173, 174, 175, 176, 177, 196, 197, 198, 39, 199, 153, 158, 200, 201, 202, 203, 33, 204, 205, 49, 50, 51, 52, 53, 54, 55, 35, 56, 57, 21, 22, 23, 24, 206, 207, 208, 209, 210, 211, 212, 213, 214, 215, 216, 217, 218, 219, 220, 221, 222, 223, 237, 238, 225, 226, 227, 228, 229, 224] (by decide +kernel) (by decide +kernel)
set_option maxRecDepth 20000 in
theorem gX5_digest_X5_withCounts : GoodIn wsX5_digest (wsV RX5 207 RX5 yX5_withCounts wsX5_withCounts) := goodIn_app (goodIn_of _ (by decide +kernel)) ggX5_digest_X5_withCounts
theorem dX5_digest_0 : decode cX5_digest 0 = .ok (.ldc2_w 192, 3) := by decide +kernel
theorem dX5_digest_3 : decode cX5_digest 3 = .ok (.lstore_n 1, 1) := by decide +kernel
theorem dX5_digest_4 : decode cX5_digest 4 = .ok (.aload_n 0, 1) := by decide +kernel
theorem dX5_digest_5 : decode cX5_digest 5 = .ok (.lload_n 1, 1) := by decide +kernel
theorem dX5_digest_6 : decode cX5_digest 6 = .ok (.invokevirtual 194, 3) := by decide +kernel
theorem dX5_digest_9 : decode cX5_digest 9 = .ok (.lstore_n 1, 1) := by decide +kernel
theorem dX5_digest_10 : decode cX5_digest 10 = .ok (.aload_n 0, 1) := by decide +kernel
theorem dX5_digest_11 : decode cX5_digest 11 = .ok (.lload_n 1, 1) := by decide +kernel
theorem dX5_digest_12 : decode cX5_digest 12 = .ok (.invokevirtual 198, 3) := by decide +kernel
theorem dX5_digest_15 : decode cX5_digest 15 = .ok (.lstore_n 1, 1) := by decide +kernel
theorem dX5_digest_16 : decode cX5_digest 16 = .ok (.aload_n 0, 1) := by decide +kernel
theorem dX5_digest_17 : decode cX5_digest 17 = .ok (.lload_n 1, 1) := by decide +kernel
theorem dX5_digest_18 : decode cX5_digest 18 = .ok (.invokevirtual 201, 3) := by decide +kernel
theorem dX5_digest_21 : decode cX5_digest 21 = .ok (.lstore_n 1, 1) := by decide +kernel
theorem dX5_digest_22 : decode cX5_digest 22 = .ok (.aload_n 0, 1) := by decide +kernel
theorem dX5_digest_23 : decode cX5_digest 23 = .ok (.lload_n 1, 1) := by decide +kernel
theorem dX5_digest_24 : decode cX5_digest 24 = .ok (.invokevirtual 204, 3) := by decide +kernel
theorem dX5_digest_27 : decode cX5_digest 27 = .ok (.lstore_n 1, 1) := by decide +kernel
theorem dX5_digest_28 : decode cX5_digest 28 = .ok (.aload_n 0, 1) := by decide +kernel
theorem dX5_digest_29 : decode cX5_digest 29 = .ok (.lload_n 1, 1) := by decide +kernel
theorem dX5_digest_30 : decode cX5_digest 30 = .ok (.invokevirtual 207, 3) := by decide +kernel
theorem dX5_digest_33 : decode cX5_digest 33 = .ok (.lreturn, 1) := by decide +kernel
theorem dX5_isVariant_0 : decode cX5_isVariant 0 = .ok (.iload_n 0, 1) := by decide +kernel
theorem dX5_isVariant_1 : decode cX5_isVariant 1 = .ok (.ifCond .lt 12, 3) := by decide +kernel
theorem dX5_isVariant_4 : decode cX5_isVariant 4 = .ok (.iload_n 0, 1) := by decide +kernel
theorem dX5_isVariant_5 : decode cX5_isVariant 5 = .ok (.iconst 3, 1) := by decide +kernel
theorem dX5_isVariant_6 : decode cX5_isVariant 6 = .ok (.if_icmp .ge 7, 3) := by decide +kernel
theorem dX5_isVariant_9 : decode cX5_isVariant 9 = .ok (.iconst 1, 1) := by decide +kernel
theorem dX5_isVariant_10 : decode cX5_isVariant 10 = .ok (.goto 4, 3) := by decide +kernel
theorem dX5_isVariant_13 : decode cX5_isVariant 13 = .ok (.iconst 0, 1) := by decide +kernel
theorem dX5_isVariant_14 : decode cX5_isVariant 14 = .ok (.ireturn, 1) := by decide +kernel
theorem dX5_isPlace_0 : decode cX5_isPlace 0 = .ok (.iload_n 0, 1) := by decide +kernel
theorem dX5_isPlace_1 : decode cX5_isPlace 1 = .ok (.ifCond .lt 12, 3) := by decide +kernel
theorem dX5_isPlace_4 : decode cX5_isPlace 4 = .ok (.iload_n 0, 1) := by decide +kernel
theorem dX5_isPlace_5 : decode cX5_isPlace 5 = .ok (.iconst 4, 1) := by decide +kernel
theorem dX5_isPlace_6 : decode cX5_isPlace 6 = .ok (.if_icmp .ge 7, 3) := by decide +kernel
theorem dX5_isPlace_9 : decode cX5_isPlace 9 = .ok (.iconst 1, 1) := by decide +kernel
theorem dX5_isPlace_10 : decode cX5_isPlace 10 = .ok (.goto 4, 3) := by decide +kernel
theorem dX5_isPlace_13 : decode cX5_isPlace 13 = .ok (.iconst 0, 1) := by decide +kernel
theorem dX5_isPlace_14 : decode cX5_isPlace 14 = .ok (.ireturn, 1) := by decide +kernel
set_option maxRecDepth 20000 in
theorem ggX5_foldedBits_X0_linksAt : GoodIn wsX5_foldedBits wsX0_linksAt := goodIn_r _ [8, 9, 10, 11, 12, 41] (by decide +kernel) (by decide +kernel)
set_option maxRecDepth 20000 in
theorem gX5_foldedBits_X0_linksAt : GoodIn wsX5_foldedBits (wsV RX5 144 RX0 yX0_linksAt wsX0_linksAt) := goodIn_app (goodIn_of _ (by decide +kernel)) ggX5_foldedBits_X0_linksAt
set_option maxRecDepth 20000 in
theorem ggX5_foldedBits_X3_ofBundle : GoodIn wsX5_foldedBits wsX3_ofBundle := goodIn_r _ [17, 18, 19, 11, 20, 10, 12, 42, 43, 44, 45, 46] (by decide +kernel) (by decide +kernel)
set_option maxRecDepth 20000 in
theorem gX5_foldedBits_X3_ofBundle : GoodIn wsX5_foldedBits (wsV RX5 147 RX3 yX3_ofBundle wsX3_ofBundle) := goodIn_app (goodIn_of _ (by decide +kernel)) ggX5_foldedBits_X3_ofBundle
set_option maxRecDepth 20000 in
theorem ggX5_foldedBits_X2_linkCount : GoodIn wsX5_foldedBits wsX2_linkCount := goodIn_r _ [25, 26, 47, 48, 49, 50, 51, 52, 53, 54] (by decide +kernel) (by decide +kernel)
set_option maxRecDepth 20000 in
theorem gX5_foldedBits_X2_linkCount : GoodIn wsX5_foldedBits (wsV RX5 70 RX2 yX2_linkCount wsX2_linkCount) := goodIn_app (goodIn_of _ (by decide +kernel)) ggX5_foldedBits_X2_linkCount
set_option maxRecDepth 20000 in
theorem ggX5_foldedBits_X3_ofLink : GoodIn wsX5_foldedBits wsX3_ofLink := goodIn_r _ [30, 18, 19, 11, 20, 42, 43, 44, 45, 46] (by decide +kernel) (by decide +kernel)
set_option maxRecDepth 20000 in
theorem gX5_foldedBits_X3_ofLink : GoodIn wsX5_foldedBits (wsV RX5 103 RX3 yX3_ofLink wsX3_ofLink) := goodIn_app (goodIn_of _ (by decide +kernel)) ggX5_foldedBits_X3_ofLink
theorem dX5_foldedBits_0 : decode cX5_foldedBits 0 = .ok (.lconst 0, 1) := by decide +kernel
theorem dX5_foldedBits_1 : decode cX5_foldedBits 1 = .ok (.lstore 4, 2) := by decide +kernel
theorem dX5_foldedBits_3 : decode cX5_foldedBits 3 = .ok (.iconst 0, 1) := by decide +kernel
theorem dX5_foldedBits_4 : decode cX5_foldedBits 4 = .ok (.istore 6, 2) := by decide +kernel
theorem dX5_foldedBits_6 : decode cX5_foldedBits 6 = .ok (.iload_n 3, 1) := by decide +kernel
theorem dX5_foldedBits_7 : decode cX5_foldedBits 7 = .ok (.ifCond .eq 65, 3) := by decide +kernel
theorem dX5_foldedBits_10 : decode cX5_foldedBits 10 = .ok (.iconst 0, 1) := by decide +kernel
theorem dX5_foldedBits_11 : decode cX5_foldedBits 11 = .ok (.istore 7, 2) := by decide +kernel
theorem dX5_foldedBits_13 : decode cX5_foldedBits 13 = .ok (.iload 7, 2) := by decide +kernel
theorem dX5_foldedBits_15 : decode cX5_foldedBits 15 = .ok (.iconst 4, 1) := by decide +kernel
theorem dX5_foldedBits_16 : decode cX5_foldedBits 16 = .ok (.if_icmp .ge 56, 3) := by decide +kernel
theorem dX5_foldedBits_19 : decode cX5_foldedBits 19 = .ok (.aload_n 0, 1) := by decide +kernel
theorem dX5_foldedBits_20 : decode cX5_foldedBits 20 = .ok (.getfield 33, 3) := by decide +kernel
theorem dX5_foldedBits_23 : decode cX5_foldedBits 23 = .ok (.iload 7, 2) := by decide +kernel
theorem dX5_foldedBits_25 : decode cX5_foldedBits 25 = .ok (.invokevirtual 144, 3) := by decide +kernel
theorem dX5_foldedBits_28 : decode cX5_foldedBits 28 = .ok (.istore 8, 2) := by decide +kernel
theorem dX5_foldedBits_30 : decode cX5_foldedBits 30 = .ok (.iload 8, 2) := by decide +kernel
theorem dX5_foldedBits_32 : decode cX5_foldedBits 32 = .ok (.ifCond .eq 34, 3) := by decide +kernel
theorem dX5_foldedBits_35 : decode cX5_foldedBits 35 = .ok (.iload 8, 2) := by decide +kernel
theorem dX5_foldedBits_37 : decode cX5_foldedBits 37 = .ok (.iload_n 1, 1) := by decide +kernel
theorem dX5_foldedBits_38 : decode cX5_foldedBits 38 = .ok (.iconst (-1), 1) := by decide +kernel
theorem dX5_foldedBits_39 : decode cX5_foldedBits 39 = .ok (.ixor, 1) := by decide +kernel
theorem dX5_foldedBits_40 : decode cX5_foldedBits 40 = .ok (.iand, 1) := by decide +kernel
theorem dX5_foldedBits_41 : decode cX5_foldedBits 41 = .ok (.ifCond .ne 25, 3) := by decide +kernel
theorem dX5_foldedBits_44 : decode cX5_foldedBits 44 = .ok (.lload 4, 2) := by decide +kernel
theorem dX5_foldedBits_46 : decode cX5_foldedBits 46 = .ok (.aload_n 0, 1) := by decide +kernel
theorem dX5_foldedBits_47 : decode cX5_foldedBits 47 = .ok (.getfield 26, 3) := by decide +kernel
theorem dX5_foldedBits_50 : decode cX5_foldedBits 50 = .ok (.iload 7, 2) := by decide +kernel
theorem dX5_foldedBits_52 : decode cX5_foldedBits 52 = .ok (.iload_n 2, 1) := by decide +kernel
theorem dX5_foldedBits_53 : decode cX5_foldedBits 53 = .ok (.invokevirtual 147, 3) := by decide +kernel
theorem dX5_foldedBits_56 : decode cX5_foldedBits 56 = .ok (.lor, 1) := by decide +kernel
theorem dX5_foldedBits_57 : decode cX5_foldedBits 57 = .ok (.lstore 4, 2) := by decide +kernel
theorem dX5_foldedBits_59 : decode cX5_foldedBits 59 = .ok (.iload 6, 2) := by decide +kernel
theorem dX5_foldedBits_61 : decode cX5_foldedBits 61 = .ok (.iload 8, 2) := by decide +kernel
theorem dX5_foldedBits_63 : decode cX5_foldedBits 63 = .ok (.ior, 1) := by decide +kernel
theorem dX5_foldedBits_64 : decode cX5_foldedBits 64 = .ok (.istore 6, 2) := by decide +kernel
theorem dX5_foldedBits_66 : decode cX5_foldedBits 66 = .ok (.iinc 7 1, 3) := by decide +kernel
theorem dX5_foldedBits_69 : decode cX5_foldedBits 69 = .ok (.goto (-56), 3) := by decide +kernel
theorem dX5_foldedBits_72 : decode cX5_foldedBits 72 = .ok (.iload_n 1, 1) := by decide +kernel
theorem dX5_foldedBits_73 : decode cX5_foldedBits 73 = .ok (.iload 6, 2) := by decide +kernel
theorem dX5_foldedBits_75 : decode cX5_foldedBits 75 = .ok (.iconst (-1), 1) := by decide +kernel
theorem dX5_foldedBits_76 : decode cX5_foldedBits 76 = .ok (.ixor, 1) := by decide +kernel
theorem dX5_foldedBits_77 : decode cX5_foldedBits 77 = .ok (.iand, 1) := by decide +kernel
theorem dX5_foldedBits_78 : decode cX5_foldedBits 78 = .ok (.istore 7, 2) := by decide +kernel
theorem dX5_foldedBits_80 : decode cX5_foldedBits 80 = .ok (.iconst 0, 1) := by decide +kernel
theorem dX5_foldedBits_81 : decode cX5_foldedBits 81 = .ok (.istore 8, 2) := by decide +kernel
theorem dX5_foldedBits_83 : decode cX5_foldedBits 83 = .ok (.iload 8, 2) := by decide +kernel
theorem dX5_foldedBits_85 : decode cX5_foldedBits 85 = .ok (.aload_n 0, 1) := by decide +kernel
theorem dX5_foldedBits_86 : decode cX5_foldedBits 86 = .ok (.getfield 19, 3) := by decide +kernel
theorem dX5_foldedBits_89 : decode cX5_foldedBits 89 = .ok (.invokevirtual 70, 3) := by decide +kernel
theorem dX5_foldedBits_92 : decode cX5_foldedBits 92 = .ok (.if_icmp .ge 34, 3) := by decide +kernel
theorem dX5_foldedBits_95 : decode cX5_foldedBits 95 = .ok (.iload 7, 2) := by decide +kernel
theorem dX5_foldedBits_97 : decode cX5_foldedBits 97 = .ok (.iload 8, 2) := by decide +kernel
theorem dX5_foldedBits_99 : decode cX5_foldedBits 99 = .ok (.ishr, 1) := by decide +kernel
theorem dX5_foldedBits_100 : decode cX5_foldedBits 100 = .ok (.iconst 1, 1) := by decide +kernel
theorem dX5_foldedBits_101 : decode cX5_foldedBits 101 = .ok (.iand, 1) := by decide +kernel
theorem dX5_foldedBits_102 : decode cX5_foldedBits 102 = .ok (.ifCond .eq 18, 3) := by decide +kernel
theorem dX5_foldedBits_105 : decode cX5_foldedBits 105 = .ok (.lload 4, 2) := by decide +kernel
theorem dX5_foldedBits_107 : decode cX5_foldedBits 107 = .ok (.aload_n 0, 1) := by decide +kernel
theorem dX5_foldedBits_108 : decode cX5_foldedBits 108 = .ok (.getfield 26, 3) := by decide +kernel
theorem dX5_foldedBits_111 : decode cX5_foldedBits 111 = .ok (.iload 8, 2) := by decide +kernel
theorem dX5_foldedBits_113 : decode cX5_foldedBits 113 = .ok (.iload_n 2, 1) := by decide +kernel
theorem dX5_foldedBits_114 : decode cX5_foldedBits 114 = .ok (.invokevirtual 103, 3) := by decide +kernel
theorem dX5_foldedBits_117 : decode cX5_foldedBits 117 = .ok (.lor, 1) := by decide +kernel
theorem dX5_foldedBits_118 : decode cX5_foldedBits 118 = .ok (.lstore 4, 2) := by decide +kernel
theorem dX5_foldedBits_120 : decode cX5_foldedBits 120 = .ok (.iinc 8 1, 3) := by decide +kernel
theorem dX5_foldedBits_123 : decode cX5_foldedBits 123 = .ok (.goto (-40), 3) := by decide +kernel
theorem dX5_foldedBits_126 : decode cX5_foldedBits 126 = .ok (.lload 4, 2) := by decide +kernel
theorem dX5_foldedBits_128 : decode cX5_foldedBits 128 = .ok (.lreturn, 1) := by decide +kernel
set_option maxRecDepth 20000 in
theorem ggX5_matchingLinks_X2_linkCount : GoodIn wsX5_matchingLinks wsX2_linkCount := goodIn_r _ [9, 10, 42, 43, 44, 45, 46, 47, 48, 49] (by decide +kernel) (by decide +kernel)
set_option maxRecDepth 20000 in
theorem gX5_matchingLinks_X2_linkCount : GoodIn wsX5_matchingLinks (wsV RX5 70 RX2 yX2_linkCount wsX2_linkCount) := goodIn_app (goodIn_of _ (by decide +kernel)) ggX5_matchingLinks_X2_linkCount
set_option maxRecDepth 20000 in
theorem ggX5_matchingLinks_X3_ofLink : GoodIn wsX5_matchingLinks wsX3_ofLink := goodIn_r _ [15, 16, 17, 18, 19, 50, 51, 52, 53, 54] (by decide +kernel) (by decide +kernel)
set_option maxRecDepth 20000 in
theorem gX5_matchingLinks_X3_ofLink : GoodIn wsX5_matchingLinks (wsV RX5 103 RX3 yX3_ofLink wsX3_ofLink) := goodIn_app (goodIn_of _ (by decide +kernel)) ggX5_matchingLinks_X3_ofLink
set_option maxRecDepth 20000 in
theorem ggX5_matchingLinks_X3_ofBundle : GoodIn wsX5_matchingLinks wsX3_ofBundle := goodIn_r _ [23, 16, 17, 18, 19, 24, 25, 50, 51, 52, 53, 54] (by decide +kernel) (by decide +kernel)
set_option maxRecDepth 20000 in
theorem gX5_matchingLinks_X3_ofBundle : GoodIn wsX5_matchingLinks (wsV RX5 147 RX3 yX3_ofBundle wsX3_ofBundle) := goodIn_app (goodIn_of _ (by decide +kernel)) ggX5_matchingLinks_X3_ofBundle
set_option maxRecDepth 20000 in
theorem ggX5_matchingLinks_X0_linksAt : GoodIn wsX5_matchingLinks wsX0_linksAt := goodIn_r _ [30, 31, 24, 18, 25, 55] (by decide +kernel) (by decide +kernel)
set_option maxRecDepth 20000 in
theorem gX5_matchingLinks_X0_linksAt : GoodIn wsX5_matchingLinks (wsV RX5 144 RX0 yX0_linksAt wsX0_linksAt) := goodIn_app (goodIn_of _ (by decide +kernel)) ggX5_matchingLinks_X0_linksAt
theorem dX5_matchingLinks_0 : decode cX5_matchingLinks 0 = .ok (.iconst 0, 1) := by decide +kernel
theorem dX5_matchingLinks_1 : decode cX5_matchingLinks 1 = .ok (.istore 4, 2) := by decide +kernel
theorem dX5_matchingLinks_3 : decode cX5_matchingLinks 3 = .ok (.iconst 0, 1) := by decide +kernel
theorem dX5_matchingLinks_4 : decode cX5_matchingLinks 4 = .ok (.istore 5, 2) := by decide +kernel
theorem dX5_matchingLinks_6 : decode cX5_matchingLinks 6 = .ok (.iload 5, 2) := by decide +kernel
theorem dX5_matchingLinks_8 : decode cX5_matchingLinks 8 = .ok (.aload_n 0, 1) := by decide +kernel
theorem dX5_matchingLinks_9 : decode cX5_matchingLinks 9 = .ok (.getfield 19, 3) := by decide +kernel
theorem dX5_matchingLinks_12 : decode cX5_matchingLinks 12 = .ok (.invokevirtual 70, 3) := by decide +kernel
theorem dX5_matchingLinks_15 : decode cX5_matchingLinks 15 = .ok (.if_icmp .ge 39, 3) := by decide +kernel
theorem dX5_matchingLinks_18 : decode cX5_matchingLinks 18 = .ok (.aload_n 0, 1) := by decide +kernel
theorem dX5_matchingLinks_19 : decode cX5_matchingLinks 19 = .ok (.getfield 26, 3) := by decide +kernel
theorem dX5_matchingLinks_22 : decode cX5_matchingLinks 22 = .ok (.iload 5, 2) := by decide +kernel
theorem dX5_matchingLinks_24 : decode cX5_matchingLinks 24 = .ok (.iload_n 3, 1) := by decide +kernel
theorem dX5_matchingLinks_25 : decode cX5_matchingLinks 25 = .ok (.invokevirtual 103, 3) := by decide +kernel
theorem dX5_matchingLinks_28 : decode cX5_matchingLinks 28 = .ok (.lload_n 1, 1) := by decide +kernel
theorem dX5_matchingLinks_29 : decode cX5_matchingLinks 29 = .ok (.ldc2_w 210, 3) := by decide +kernel
theorem dX5_matchingLinks_32 : decode cX5_matchingLinks 32 = .ok (.lxor, 1) := by decide +kernel
theorem dX5_matchingLinks_33 : decode cX5_matchingLinks 33 = .ok (.land, 1) := by decide +kernel
theorem dX5_matchingLinks_34 : decode cX5_matchingLinks 34 = .ok (.lconst 0, 1) := by decide +kernel
theorem dX5_matchingLinks_35 : decode cX5_matchingLinks 35 = .ok (.lcmp, 1) := by decide +kernel
theorem dX5_matchingLinks_36 : decode cX5_matchingLinks 36 = .ok (.ifCond .ne 12, 3) := by decide +kernel
theorem dX5_matchingLinks_39 : decode cX5_matchingLinks 39 = .ok (.iload 4, 2) := by decide +kernel
theorem dX5_matchingLinks_41 : decode cX5_matchingLinks 41 = .ok (.iconst 1, 1) := by decide +kernel
theorem dX5_matchingLinks_42 : decode cX5_matchingLinks 42 = .ok (.iload 5, 2) := by decide +kernel
theorem dX5_matchingLinks_44 : decode cX5_matchingLinks 44 = .ok (.ishl, 1) := by decide +kernel
theorem dX5_matchingLinks_45 : decode cX5_matchingLinks 45 = .ok (.ior, 1) := by decide +kernel
theorem dX5_matchingLinks_46 : decode cX5_matchingLinks 46 = .ok (.istore 4, 2) := by decide +kernel
theorem dX5_matchingLinks_48 : decode cX5_matchingLinks 48 = .ok (.iinc 5 1, 3) := by decide +kernel
theorem dX5_matchingLinks_51 : decode cX5_matchingLinks 51 = .ok (.goto (-45), 3) := by decide +kernel
theorem dX5_matchingLinks_54 : decode cX5_matchingLinks 54 = .ok (.iconst 0, 1) := by decide +kernel
theorem dX5_matchingLinks_55 : decode cX5_matchingLinks 55 = .ok (.istore 5, 2) := by decide +kernel
theorem dX5_matchingLinks_57 : decode cX5_matchingLinks 57 = .ok (.iload 5, 2) := by decide +kernel
theorem dX5_matchingLinks_59 : decode cX5_matchingLinks 59 = .ok (.iconst 4, 1) := by decide +kernel
theorem dX5_matchingLinks_60 : decode cX5_matchingLinks 60 = .ok (.if_icmp .ge 44, 3) := by decide +kernel
theorem dX5_matchingLinks_63 : decode cX5_matchingLinks 63 = .ok (.aload_n 0, 1) := by decide +kernel
theorem dX5_matchingLinks_64 : decode cX5_matchingLinks 64 = .ok (.getfield 26, 3) := by decide +kernel
theorem dX5_matchingLinks_67 : decode cX5_matchingLinks 67 = .ok (.iload 5, 2) := by decide +kernel
theorem dX5_matchingLinks_69 : decode cX5_matchingLinks 69 = .ok (.iload_n 3, 1) := by decide +kernel
theorem dX5_matchingLinks_70 : decode cX5_matchingLinks 70 = .ok (.invokevirtual 147, 3) := by decide +kernel
theorem dX5_matchingLinks_73 : decode cX5_matchingLinks 73 = .ok (.lload_n 1, 1) := by decide +kernel
theorem dX5_matchingLinks_74 : decode cX5_matchingLinks 74 = .ok (.ldc2_w 210, 3) := by decide +kernel
theorem dX5_matchingLinks_77 : decode cX5_matchingLinks 77 = .ok (.lxor, 1) := by decide +kernel
theorem dX5_matchingLinks_78 : decode cX5_matchingLinks 78 = .ok (.land, 1) := by decide +kernel
theorem dX5_matchingLinks_79 : decode cX5_matchingLinks 79 = .ok (.lconst 0, 1) := by decide +kernel
theorem dX5_matchingLinks_80 : decode cX5_matchingLinks 80 = .ok (.lcmp, 1) := by decide +kernel
theorem dX5_matchingLinks_81 : decode cX5_matchingLinks 81 = .ok (.ifCond .ne 17, 3) := by decide +kernel
theorem dX5_matchingLinks_84 : decode cX5_matchingLinks 84 = .ok (.iload 4, 2) := by decide +kernel
theorem dX5_matchingLinks_86 : decode cX5_matchingLinks 86 = .ok (.aload_n 0, 1) := by decide +kernel
theorem dX5_matchingLinks_87 : decode cX5_matchingLinks 87 = .ok (.getfield 33, 3) := by decide +kernel
theorem dX5_matchingLinks_90 : decode cX5_matchingLinks 90 = .ok (.iload 5, 2) := by decide +kernel
theorem dX5_matchingLinks_92 : decode cX5_matchingLinks 92 = .ok (.invokevirtual 144, 3) := by decide +kernel
theorem dX5_matchingLinks_95 : decode cX5_matchingLinks 95 = .ok (.ior, 1) := by decide +kernel
theorem dX5_matchingLinks_96 : decode cX5_matchingLinks 96 = .ok (.istore 4, 2) := by decide +kernel
theorem dX5_matchingLinks_98 : decode cX5_matchingLinks 98 = .ok (.iinc 5 1, 3) := by decide +kernel
theorem dX5_matchingLinks_101 : decode cX5_matchingLinks 101 = .ok (.goto (-44), 3) := by decide +kernel
theorem dX5_matchingLinks_104 : decode cX5_matchingLinks 104 = .ok (.iload 4, 2) := by decide +kernel
theorem dX5_matchingLinks_106 : decode cX5_matchingLinks 106 = .ok (.ireturn, 1) := by decide +kernel
set_option maxRecDepth 20000 in
theorem ggX5_spreadOut_X2_treeLinks : GoodIn wsX5_spreadOut wsX2_treeLinks := goodIn_r _ [8, 9, 10, 11, 12, 13, 7, 14, 15, 16, 17, 112, 113, 114, 115, 116, 117, 118, 119] (by decide +kernel) (by decide +kernel)
set_option maxRecDepth 20000 in
theorem gX5_spreadOut_X2_treeLinks : GoodIn wsX5_spreadOut (wsV RX5 126 RX2 yX2_treeLinks wsX2_treeLinks) := goodIn_app (goodIn_of _ (by decide +kernel)) ggX5_spreadOut_X2_treeLinks
set_option maxRecDepth 20000 in
theorem ggX5_spreadOut_X5_foldedBits : GoodIn wsX5_spreadOut wsX5_foldedBits := goodIn_r _ [22, 23, 24, 1, 25, 26, 27, 28, 29, 30, 31, 21, 32, 33, 34, 35, 36, 37, 38, 39, 40, 41, 42, 43, 7, 44, 45, 46, 47, 48, 49, 95, 96, 97, 98, 99, 100, 101, 102, 103, 104, 120, 121, 122, 123, 124, 125, 112, 113, 114, 115, 116, 117, 118, 119] (by decide +kernel) (by decide +kernel)
set_option maxRecDepth 20000 in
theorem gX5_spreadOut_X5_foldedBits : GoodIn wsX5_spreadOut (wsV RX5 150 RX5 yX5_foldedBits wsX5_foldedBits) := goodIn_app (goodIn_of _ (by decide +kernel)) ggX5_spreadOut_X5_foldedBits
set_option maxRecDepth 20000 in
theorem ggX5_spreadOut_X5_matchingLinks : GoodIn wsX5_spreadOut wsX5_matchingLinks := goodIn_r _ [53, 1, 24, 54, 23, 41, 42, 43, 7, 44, 45, 46, 47, 48, 36, 49, 38, 39, 21, 40, 33, 34, 35, 37, 31, 32, 25, 26, 27, 28, 29, 30, 95, 96, 97, 98, 99, 100, 101, 102, 103, 104, 112, 113, 114, 115, 116, 117, 118, 119, 121, 122, 123, 124, 125, 120] (by decide +kernel) (by decide +kernel)
set_option maxRecDepth 20000 in
theorem gX5_spreadOut_X5_matchingLinks : GoodIn wsX5_spreadOut (wsV RX5 212 RX5 yX5_matchingLinks wsX5_matchingLinks) := goodIn_app (goodIn_of _ (by decide +kernel)) ggX5_spreadOut_X5_matchingLinks
set_option maxRecDepth 20000 in
theorem ggX5_spreadOut_X1_run : GoodIn wsX5_spreadOut wsX1_run := goodIn_r _ [59, 60, 61, 62, 63, 64, 65, 66, 67, 68, 69, 70, 71, 72, 73, 74, 75, 58, 76, 77, 42, 43, 7, 44, 45, 78, 79, 80, 81, 82, 83, 84, 85, 86, 87, 105, 106, 107, 108, 109, 110, 111, 112, 113, 114, 115, 116, 117, 118, 119] (by decide +kernel) (by decide +kernel)
set_option maxRecDepth 20000 in
theorem gX5_spreadOut_X1_run : GoodIn wsX5_spreadOut (wsV RX5 216 RX1 yX1_run wsX1_run) := goodIn_app (goodIn_of _ (by decide +kernel)) ggX5_spreadOut_X1_run
set_option maxRecDepth 20000 in
theorem ggX5_spreadOut_J13_bitCount_95d88 : GoodIn wsX5_spreadOut wsJ13_bitCount_95d88 := goodIn_r _ [91, 92, 93, 94] (by decide +kernel) (by decide +kernel)
set_option maxRecDepth 20000 in
theorem gX5_spreadOut_J13_bitCount_95d88 : GoodIn wsX5_spreadOut (va_wsS RX5 220 yJ13_bitCount_95d88 wsJ13_bitCount_95d88) := goodIn_app (goodIn_of _ (by decide +kernel)) ggX5_spreadOut_J13_bitCount_95d88
theorem dX5_spreadOut_0 : decode cX5_spreadOut 0 = .ok (.aload_n 0, 1) := by decide +kernel
theorem dX5_spreadOut_1 : decode cX5_spreadOut 1 = .ok (.getfield 19, 3) := by decide +kernel
theorem dX5_spreadOut_4 : decode cX5_spreadOut 4 = .ok (.iload_n 1, 1) := by decide +kernel
theorem dX5_spreadOut_5 : decode cX5_spreadOut 5 = .ok (.iload_n 2, 1) := by decide +kernel
theorem dX5_spreadOut_6 : decode cX5_spreadOut 6 = .ok (.invokevirtual 126, 3) := by decide +kernel
theorem dX5_spreadOut_9 : decode cX5_spreadOut 9 = .ok (.istore 5, 2) := by decide +kernel
theorem dX5_spreadOut_11 : decode cX5_spreadOut 11 = .ok (.aload_n 0, 1) := by decide +kernel
theorem dX5_spreadOut_12 : decode cX5_spreadOut 12 = .ok (.iload 5, 2) := by decide +kernel
theorem dX5_spreadOut_14 : decode cX5_spreadOut 14 = .ok (.iload_n 3, 1) := by decide +kernel
theorem dX5_spreadOut_15 : decode cX5_spreadOut 15 = .ok (.iload 4, 2) := by decide +kernel
theorem dX5_spreadOut_17 : decode cX5_spreadOut 17 = .ok (.invokevirtual 150, 3) := by decide +kernel
theorem dX5_spreadOut_20 : decode cX5_spreadOut 20 = .ok (.lstore 6, 2) := by decide +kernel
theorem dX5_spreadOut_22 : decode cX5_spreadOut 22 = .ok (.aload_n 0, 1) := by decide +kernel
theorem dX5_spreadOut_23 : decode cX5_spreadOut 23 = .ok (.getfield 40, 3) := by decide +kernel
theorem dX5_spreadOut_26 : decode cX5_spreadOut 26 = .ok (.aload_n 0, 1) := by decide +kernel
theorem dX5_spreadOut_27 : decode cX5_spreadOut 27 = .ok (.getfield 19, 3) := by decide +kernel
theorem dX5_spreadOut_30 : decode cX5_spreadOut 30 = .ok (.iload_n 1, 1) := by decide +kernel
theorem dX5_spreadOut_31 : decode cX5_spreadOut 31 = .ok (.iload 5, 2) := by decide +kernel
theorem dX5_spreadOut_33 : decode cX5_spreadOut 33 = .ok (.aload_n 0, 1) := by decide +kernel
theorem dX5_spreadOut_34 : decode cX5_spreadOut 34 = .ok (.lload 6, 2) := by decide +kernel
theorem dX5_spreadOut_36 : decode cX5_spreadOut 36 = .ok (.iload_n 3, 1) := by decide +kernel
theorem dX5_spreadOut_37 : decode cX5_spreadOut 37 = .ok (.invokevirtual 212, 3) := by decide +kernel
theorem dX5_spreadOut_40 : decode cX5_spreadOut 40 = .ok (.invokevirtual 216, 3) := by decide +kernel
theorem dX5_spreadOut_43 : decode cX5_spreadOut 43 = .ok (.aload_n 0, 1) := by decide +kernel
theorem dX5_spreadOut_44 : decode cX5_spreadOut 44 = .ok (.getfield 40, 3) := by decide +kernel
theorem dX5_spreadOut_47 : decode cX5_spreadOut 47 = .ok (.lload 6, 2) := by decide +kernel
theorem dX5_spreadOut_49 : decode cX5_spreadOut 49 = .ok (.invokestatic 220, 3) := by decide +kernel
theorem dX5_spreadOut_52 : decode cX5_spreadOut 52 = .ok (.putfield 225, 3) := by decide +kernel
theorem dX5_spreadOut_55 : decode cX5_spreadOut 55 = .ok (.return_, 1) := by decide +kernel
set_option maxRecDepth 20000 in
theorem ggX5_spreadFact_X3_oddsAbove : GoodIn wsX5_spreadFact wsX3_oddsAbove := goodIn_r _ [14, 15, 16, 17, 13, 18, 19, 20, 21, 22, 23, 24, 46, 47, 48, 49, 50] (by decide +kernel) (by decide +kernel)
set_option maxRecDepth 20000 in
theorem gX5_spreadFact_X3_oddsAbove : GoodIn wsX5_spreadFact (wsV RX5 234 RX3 yX3_oddsAbove wsX3_oddsAbove) := goodIn_app (goodIn_of _ (by decide +kernel)) ggX5_spreadFact_X3_oddsAbove
set_option maxRecDepth 20000 in
theorem ggX5_spreadFact_X3_oddsBelow : GoodIn wsX5_spreadFact wsX3_oddsBelow := goodIn_r _ [28, 19, 15, 16, 17, 13, 18, 20, 21, 22, 23, 24, 46, 47, 48, 49, 50] (by decide +kernel) (by decide +kernel)
set_option maxRecDepth 20000 in
theorem gX5_spreadFact_X3_oddsBelow : GoodIn wsX5_spreadFact (wsV RX5 237 RX3 yX3_oddsBelow wsX3_oddsBelow) := goodIn_app (goodIn_of _ (by decide +kernel)) ggX5_spreadFact_X3_oddsBelow
theorem dX5_spreadFact_0 : decode cX5_spreadFact 0 = .ok (.iload_n 1, 1) := by decide +kernel
theorem dX5_spreadFact_1 : decode cX5_spreadFact 1 = .ok (.tableswitch 125 0 7 #[47, 55, 63, 71, 79, 87, 95, 110], 47) := by decide +kernel
theorem dX5_spreadFact_48 : decode cX5_spreadFact 48 = .ok (.aload_n 0, 1) := by decide +kernel
theorem dX5_spreadFact_49 : decode cX5_spreadFact 49 = .ok (.getfield 40, 3) := by decide +kernel
theorem dX5_spreadFact_52 : decode cX5_spreadFact 52 = .ok (.getfield 225, 3) := by decide +kernel
theorem dX5_spreadFact_55 : decode cX5_spreadFact 55 = .ok (.ireturn, 1) := by decide +kernel
theorem dX5_spreadFact_56 : decode cX5_spreadFact 56 = .ok (.aload_n 0, 1) := by decide +kernel
theorem dX5_spreadFact_57 : decode cX5_spreadFact 57 = .ok (.getfield 40, 3) := by decide +kernel
theorem dX5_spreadFact_60 : decode cX5_spreadFact 60 = .ok (.getfield 171, 3) := by decide +kernel
theorem dX5_spreadFact_63 : decode cX5_spreadFact 63 = .ok (.ireturn, 1) := by decide +kernel
theorem dX5_spreadFact_64 : decode cX5_spreadFact 64 = .ok (.aload_n 0, 1) := by decide +kernel
theorem dX5_spreadFact_65 : decode cX5_spreadFact 65 = .ok (.getfield 40, 3) := by decide +kernel
theorem dX5_spreadFact_68 : decode cX5_spreadFact 68 = .ok (.getfield 177, 3) := by decide +kernel
theorem dX5_spreadFact_71 : decode cX5_spreadFact 71 = .ok (.ireturn, 1) := by decide +kernel
theorem dX5_spreadFact_72 : decode cX5_spreadFact 72 = .ok (.aload_n 0, 1) := by decide +kernel
theorem dX5_spreadFact_73 : decode cX5_spreadFact 73 = .ok (.getfield 40, 3) := by decide +kernel
theorem dX5_spreadFact_76 : decode cX5_spreadFact 76 = .ok (.getfield 183, 3) := by decide +kernel
theorem dX5_spreadFact_79 : decode cX5_spreadFact 79 = .ok (.ireturn, 1) := by decide +kernel
theorem dX5_spreadFact_80 : decode cX5_spreadFact 80 = .ok (.aload_n 0, 1) := by decide +kernel
theorem dX5_spreadFact_81 : decode cX5_spreadFact 81 = .ok (.getfield 40, 3) := by decide +kernel
theorem dX5_spreadFact_84 : decode cX5_spreadFact 84 = .ok (.getfield 228, 3) := by decide +kernel
theorem dX5_spreadFact_87 : decode cX5_spreadFact 87 = .ok (.ireturn, 1) := by decide +kernel
theorem dX5_spreadFact_88 : decode cX5_spreadFact 88 = .ok (.aload_n 0, 1) := by decide +kernel
theorem dX5_spreadFact_89 : decode cX5_spreadFact 89 = .ok (.getfield 40, 3) := by decide +kernel
theorem dX5_spreadFact_92 : decode cX5_spreadFact 92 = .ok (.getfield 231, 3) := by decide +kernel
theorem dX5_spreadFact_95 : decode cX5_spreadFact 95 = .ok (.ireturn, 1) := by decide +kernel
theorem dX5_spreadFact_96 : decode cX5_spreadFact 96 = .ok (.aload_n 0, 1) := by decide +kernel
theorem dX5_spreadFact_97 : decode cX5_spreadFact 97 = .ok (.getfield 26, 3) := by decide +kernel
theorem dX5_spreadFact_100 : decode cX5_spreadFact 100 = .ok (.aload_n 0, 1) := by decide +kernel
theorem dX5_spreadFact_101 : decode cX5_spreadFact 101 = .ok (.getfield 40, 3) := by decide +kernel
theorem dX5_spreadFact_104 : decode cX5_spreadFact 104 = .ok (.getfield 225, 3) := by decide +kernel
theorem dX5_spreadFact_107 : decode cX5_spreadFact 107 = .ok (.invokevirtual 234, 3) := by decide +kernel
theorem dX5_spreadFact_110 : decode cX5_spreadFact 110 = .ok (.ireturn, 1) := by decide +kernel
theorem dX5_spreadFact_111 : decode cX5_spreadFact 111 = .ok (.aload_n 0, 1) := by decide +kernel
theorem dX5_spreadFact_112 : decode cX5_spreadFact 112 = .ok (.getfield 26, 3) := by decide +kernel
theorem dX5_spreadFact_115 : decode cX5_spreadFact 115 = .ok (.aload_n 0, 1) := by decide +kernel
theorem dX5_spreadFact_116 : decode cX5_spreadFact 116 = .ok (.getfield 40, 3) := by decide +kernel
theorem dX5_spreadFact_119 : decode cX5_spreadFact 119 = .ok (.getfield 225, 3) := by decide +kernel
theorem dX5_spreadFact_122 : decode cX5_spreadFact 122 = .ok (.invokevirtual 237, 3) := by decide +kernel
theorem dX5_spreadFact_125 : decode cX5_spreadFact 125 = .ok (.ireturn, 1) := by decide +kernel
theorem dX5_spreadFact_126 : decode cX5_spreadFact 126 = .ok (.aload_n 0, 1) := by decide +kernel
theorem dX5_spreadFact_127 : decode cX5_spreadFact 127 = .ok (.getfield 40, 3) := by decide +kernel
theorem dX5_spreadFact_130 : decode cX5_spreadFact 130 = .ok (.getfield 240, 3) := by decide +kernel
theorem dX5_spreadFact_133 : decode cX5_spreadFact 133 = .ok (.ireturn, 1) := by decide +kernel
set_option maxRecDepth 20000 in
theorem ggX5_bestVariant_X5_spreadOut : GoodIn wsX5_bestVariant wsX5_spreadOut := goodIn_r _ [8, 9, 1, 3, 10, 11, 12, 13, 14, 15, 16, 17, 18, 19, 20, 21, 22, 23, 24, 25, 26, 7, 27, 28, 29, 30, 31, 32, 33, 34, 35, 36, 37, 38, 39, 40, 41, 42, 43, 44, 45, 46, 47, 48, 49, 50, 51, 52, 53, 54, 55, 56, 57, 58, 59, 60, 61, 62, 63, 64, 65, 66, 67, 68, 69, 70, 71, 72, 73, 74, 75, 76, 77, 78, 79, 80, 81, 82, 83, 84, 85, 86, 87, 88, 89, 90, 91, 92, 93, 94, 95, 96, 97, 98, 99, 100, 101, 102, 103, 104, 105, 106, 107, 108, 109, 110, 111, 112, 113, 114, 115, 116, 117, 118, 119, 120, 121, 122, 123, 124, 125, 126, 127, 128, 129, 130] (by decide +kernel) (by decide +kernel)
set_option maxRecDepth 20000 in
theorem gX5_bestVariant_X5_spreadOut : GoodIn wsX5_bestVariant (wsV RX5 154 RX5 yX5_spreadOut wsX5_spreadOut) := goodIn_app (goodIn_of _ (by decide +kernel)) ggX5_bestVariant_X5_spreadOut
theorem dX5_bestVariant_0 : decode cX5_bestVariant 0 = .ok (.iconst 0, 1) := by decide +kernel
theorem dX5_bestVariant_1 : decode cX5_bestVariant 1 = .ok (.istore 4, 2) := by decide +kernel
theorem dX5_bestVariant_3 : decode cX5_bestVariant 3 = .ok (.iconst 0, 1) := by decide +kernel
theorem dX5_bestVariant_4 : decode cX5_bestVariant 4 = .ok (.istore 5, 2) := by decide +kernel
theorem dX5_bestVariant_6 : decode cX5_bestVariant 6 = .ok (.iconst 0, 1) := by decide +kernel
theorem dX5_bestVariant_7 : decode cX5_bestVariant 7 = .ok (.istore 6, 2) := by decide +kernel
theorem dX5_bestVariant_9 : decode cX5_bestVariant 9 = .ok (.iconst 0, 1) := by decide +kernel
theorem dX5_bestVariant_10 : decode cX5_bestVariant 10 = .ok (.istore 7, 2) := by decide +kernel
theorem dX5_bestVariant_12 : decode cX5_bestVariant 12 = .ok (.iload 7, 2) := by decide +kernel
theorem dX5_bestVariant_14 : decode cX5_bestVariant 14 = .ok (.iconst 3, 1) := by decide +kernel
theorem dX5_bestVariant_15 : decode cX5_bestVariant 15 = .ok (.if_icmp .ge 93, 3) := by decide +kernel
theorem dX5_bestVariant_18 : decode cX5_bestVariant 18 = .ok (.aload_n 0, 1) := by decide +kernel
theorem dX5_bestVariant_19 : decode cX5_bestVariant 19 = .ok (.iload_n 1, 1) := by decide +kernel
theorem dX5_bestVariant_20 : decode cX5_bestVariant 20 = .ok (.iload_n 2, 1) := by decide +kernel
theorem dX5_bestVariant_21 : decode cX5_bestVariant 21 = .ok (.iload 7, 2) := by decide +kernel
theorem dX5_bestVariant_23 : decode cX5_bestVariant 23 = .ok (.iload_n 3, 1) := by decide +kernel
theorem dX5_bestVariant_24 : decode cX5_bestVariant 24 = .ok (.invokevirtual 154, 3) := by decide +kernel
theorem dX5_bestVariant_27 : decode cX5_bestVariant 27 = .ok (.aload_n 0, 1) := by decide +kernel
theorem dX5_bestVariant_28 : decode cX5_bestVariant 28 = .ok (.getfield 40, 3) := by decide +kernel
theorem dX5_bestVariant_31 : decode cX5_bestVariant 31 = .ok (.getfield 177, 3) := by decide +kernel
theorem dX5_bestVariant_34 : decode cX5_bestVariant 34 = .ok (.iload 5, 2) := by decide +kernel
theorem dX5_bestVariant_36 : decode cX5_bestVariant 36 = .ok (.if_icmp .lt 27, 3) := by decide +kernel
theorem dX5_bestVariant_39 : decode cX5_bestVariant 39 = .ok (.aload_n 0, 1) := by decide +kernel
theorem dX5_bestVariant_40 : decode cX5_bestVariant 40 = .ok (.getfield 40, 3) := by decide +kernel
theorem dX5_bestVariant_43 : decode cX5_bestVariant 43 = .ok (.getfield 177, 3) := by decide +kernel
theorem dX5_bestVariant_46 : decode cX5_bestVariant 46 = .ok (.iload 5, 2) := by decide +kernel
theorem dX5_bestVariant_48 : decode cX5_bestVariant 48 = .ok (.if_icmp .ne 19, 3) := by decide +kernel
theorem dX5_bestVariant_51 : decode cX5_bestVariant 51 = .ok (.aload_n 0, 1) := by decide +kernel
theorem dX5_bestVariant_52 : decode cX5_bestVariant 52 = .ok (.getfield 40, 3) := by decide +kernel
theorem dX5_bestVariant_55 : decode cX5_bestVariant 55 = .ok (.getfield 225, 3) := by decide +kernel
theorem dX5_bestVariant_58 : decode cX5_bestVariant 58 = .ok (.iload 6, 2) := by decide +kernel
theorem dX5_bestVariant_60 : decode cX5_bestVariant 60 = .ok (.if_icmp .ge 7, 3) := by decide +kernel
theorem dX5_bestVariant_63 : decode cX5_bestVariant 63 = .ok (.iconst 1, 1) := by decide +kernel
theorem dX5_bestVariant_64 : decode cX5_bestVariant 64 = .ok (.goto 4, 3) := by decide +kernel
theorem dX5_bestVariant_67 : decode cX5_bestVariant 67 = .ok (.iconst 0, 1) := by decide +kernel
theorem dX5_bestVariant_68 : decode cX5_bestVariant 68 = .ok (.istore 8, 2) := by decide +kernel
theorem dX5_bestVariant_70 : decode cX5_bestVariant 70 = .ok (.iload 7, 2) := by decide +kernel
theorem dX5_bestVariant_72 : decode cX5_bestVariant 72 = .ok (.ifCond .eq 8, 3) := by decide +kernel
theorem dX5_bestVariant_75 : decode cX5_bestVariant 75 = .ok (.iload 8, 2) := by decide +kernel
theorem dX5_bestVariant_77 : decode cX5_bestVariant 77 = .ok (.ifCond .eq 25, 3) := by decide +kernel
theorem dX5_bestVariant_80 : decode cX5_bestVariant 80 = .ok (.iload 7, 2) := by decide +kernel
theorem dX5_bestVariant_82 : decode cX5_bestVariant 82 = .ok (.istore 4, 2) := by decide +kernel
theorem dX5_bestVariant_84 : decode cX5_bestVariant 84 = .ok (.aload_n 0, 1) := by decide +kernel
theorem dX5_bestVariant_85 : decode cX5_bestVariant 85 = .ok (.getfield 40, 3) := by decide +kernel
theorem dX5_bestVariant_88 : decode cX5_bestVariant 88 = .ok (.getfield 177, 3) := by decide +kernel
theorem dX5_bestVariant_91 : decode cX5_bestVariant 91 = .ok (.istore 5, 2) := by decide +kernel
theorem dX5_bestVariant_93 : decode cX5_bestVariant 93 = .ok (.aload_n 0, 1) := by decide +kernel
theorem dX5_bestVariant_94 : decode cX5_bestVariant 94 = .ok (.getfield 40, 3) := by decide +kernel
theorem dX5_bestVariant_97 : decode cX5_bestVariant 97 = .ok (.getfield 225, 3) := by decide +kernel
theorem dX5_bestVariant_100 : decode cX5_bestVariant 100 = .ok (.istore 6, 2) := by decide +kernel
theorem dX5_bestVariant_102 : decode cX5_bestVariant 102 = .ok (.iinc 7 1, 3) := by decide +kernel
theorem dX5_bestVariant_105 : decode cX5_bestVariant 105 = .ok (.goto (-93), 3) := by decide +kernel
theorem dX5_bestVariant_108 : decode cX5_bestVariant 108 = .ok (.iload 4, 2) := by decide +kernel
theorem dX5_bestVariant_110 : decode cX5_bestVariant 110 = .ok (.ireturn, 1) := by decide +kernel
theorem dX5_with_0 : decode cX5_with 0 = .ok (.ldc2_w 243, 3) := by decide +kernel
theorem dX5_with_3 : decode cX5_with 3 = .ok (.lload_n 0, 1) := by decide +kernel
theorem dX5_with_4 : decode cX5_with 4 = .ok (.lmul, 1) := by decide +kernel
theorem dX5_with_5 : decode cX5_with 5 = .ok (.lload_n 2, 1) := by decide +kernel
theorem dX5_with_6 : decode cX5_with 6 = .ok (.ladd, 1) := by decide +kernel
theorem dX5_with_7 : decode cX5_with 7 = .ok (.lreturn, 1) := by decide +kernel
set_option maxRecDepth 20000 in
theorem ggX5_withLinks_X2_linkCount : GoodIn wsX5_withLinks wsX2_linkCount := goodIn_r _ [8, 9, 49, 50, 51, 52, 53, 54, 55, 56] (by decide +kernel) (by decide +kernel)
set_option maxRecDepth 20000 in
theorem gX5_withLinks_X2_linkCount : GoodIn wsX5_withLinks (wsV RX5 70 RX2 yX2_linkCount wsX2_linkCount) := goodIn_app (goodIn_of _ (by decide +kernel)) ggX5_withLinks_X2_linkCount
set_option maxRecDepth 20000 in
theorem ggX5_withLinks_X2_startOf : GoodIn wsX5_withLinks wsX2_startOf := goodIn_r _ [13, 14, 49, 50, 51, 52, 53, 54, 55, 56] (by decide +kernel) (by decide +kernel)
set_option maxRecDepth 20000 in
theorem gX5_withLinks_X2_startOf : GoodIn wsX5_withLinks (wsV RX5 107 RX2 yX2_startOf wsX2_startOf) := goodIn_app (goodIn_of _ (by decide +kernel)) ggX5_withLinks_X2_startOf
set_option maxRecDepth 20000 in
theorem ggX5_withLinks_X5_with : GoodIn wsX5_withLinks wsX5_with := goodIn_r _ [18, 19] (by decide +kernel) (by decide +kernel)
set_option maxRecDepth 20000 in
theorem gX5_withLinks_X5_with : GoodIn wsX5_withLinks (va_wsS RX5 245 yX5_with wsX5_with) := goodIn_app (goodIn_of _ (by decide +kernel)) ggX5_withLinks_X5_with
set_option maxRecDepth 20000 in
theorem ggX5_withLinks_X2_endOf : GoodIn wsX5_withLinks wsX2_endOf := goodIn_r _ [23, 24, 49, 50, 51, 52, 53, 54, 55, 56] (by decide +kernel) (by decide +kernel)
set_option maxRecDepth 20000 in
theorem gX5_withLinks_X2_endOf : GoodIn wsX5_withLinks (wsV RX5 110 RX2 yX2_endOf wsX2_endOf) := goodIn_app (goodIn_of _ (by decide +kernel)) ggX5_withLinks_X2_endOf
set_option maxRecDepth 20000 in
theorem ggX5_withLinks_X0_placesWith : GoodIn wsX5_withLinks wsX0_placesWith := goodIn_r _ [29, 30, 57] (by decide +kernel) (by decide +kernel)
set_option maxRecDepth 20000 in
theorem gX5_withLinks_X0_placesWith : GoodIn wsX5_withLinks (wsV RX5 113 RX0 yX0_placesWith wsX0_placesWith) := goodIn_app (goodIn_of _ (by decide +kernel)) ggX5_withLinks_X0_placesWith
set_option maxRecDepth 20000 in
theorem ggX5_withLinks_X3_ofLink : GoodIn wsX5_withLinks wsX3_ofLink := goodIn_r _ [35, 36, 37, 17, 38, 58, 59, 60, 61, 62] (by decide +kernel) (by decide +kernel)
set_option maxRecDepth 20000 in
theorem gX5_withLinks_X3_ofLink : GoodIn wsX5_withLinks (wsV RX5 103 RX3 yX3_ofLink wsX3_ofLink) := goodIn_app (goodIn_of _ (by decide +kernel)) ggX5_withLinks_X3_ofLink
theorem dX5_withLinks_0 : decode cX5_withLinks 0 = .ok (.lload_n 1, 1) := by decide +kernel
theorem dX5_withLinks_1 : decode cX5_withLinks 1 = .ok (.lstore_n 3, 1) := by decide +kernel
theorem dX5_withLinks_2 : decode cX5_withLinks 2 = .ok (.iconst 0, 1) := by decide +kernel
theorem dX5_withLinks_3 : decode cX5_withLinks 3 = .ok (.istore 5, 2) := by decide +kernel
theorem dX5_withLinks_5 : decode cX5_withLinks 5 = .ok (.iload 5, 2) := by decide +kernel
theorem dX5_withLinks_7 : decode cX5_withLinks 7 = .ok (.aload_n 0, 1) := by decide +kernel
theorem dX5_withLinks_8 : decode cX5_withLinks 8 = .ok (.getfield 19, 3) := by decide +kernel
theorem dX5_withLinks_11 : decode cX5_withLinks 11 = .ok (.invokevirtual 70, 3) := by decide +kernel
theorem dX5_withLinks_14 : decode cX5_withLinks 14 = .ok (.if_icmp .ge 85, 3) := by decide +kernel
theorem dX5_withLinks_17 : decode cX5_withLinks 17 = .ok (.lload_n 3, 1) := by decide +kernel
theorem dX5_withLinks_18 : decode cX5_withLinks 18 = .ok (.aload_n 0, 1) := by decide +kernel
theorem dX5_withLinks_19 : decode cX5_withLinks 19 = .ok (.getfield 19, 3) := by decide +kernel
theorem dX5_withLinks_22 : decode cX5_withLinks 22 = .ok (.iload 5, 2) := by decide +kernel
theorem dX5_withLinks_24 : decode cX5_withLinks 24 = .ok (.invokevirtual 107, 3) := by decide +kernel
theorem dX5_withLinks_27 : decode cX5_withLinks 27 = .ok (.i2l, 1) := by decide +kernel
theorem dX5_withLinks_28 : decode cX5_withLinks 28 = .ok (.invokestatic 245, 3) := by decide +kernel
theorem dX5_withLinks_31 : decode cX5_withLinks 31 = .ok (.lstore_n 3, 1) := by decide +kernel
theorem dX5_withLinks_32 : decode cX5_withLinks 32 = .ok (.lload_n 3, 1) := by decide +kernel
theorem dX5_withLinks_33 : decode cX5_withLinks 33 = .ok (.aload_n 0, 1) := by decide +kernel
theorem dX5_withLinks_34 : decode cX5_withLinks 34 = .ok (.getfield 19, 3) := by decide +kernel
theorem dX5_withLinks_37 : decode cX5_withLinks 37 = .ok (.iload 5, 2) := by decide +kernel
theorem dX5_withLinks_39 : decode cX5_withLinks 39 = .ok (.invokevirtual 110, 3) := by decide +kernel
theorem dX5_withLinks_42 : decode cX5_withLinks 42 = .ok (.i2l, 1) := by decide +kernel
theorem dX5_withLinks_43 : decode cX5_withLinks 43 = .ok (.invokestatic 245, 3) := by decide +kernel
theorem dX5_withLinks_46 : decode cX5_withLinks 46 = .ok (.lstore_n 3, 1) := by decide +kernel
theorem dX5_withLinks_47 : decode cX5_withLinks 47 = .ok (.lload_n 3, 1) := by decide +kernel
theorem dX5_withLinks_48 : decode cX5_withLinks 48 = .ok (.aload_n 0, 1) := by decide +kernel
theorem dX5_withLinks_49 : decode cX5_withLinks 49 = .ok (.getfield 33, 3) := by decide +kernel
theorem dX5_withLinks_52 : decode cX5_withLinks 52 = .ok (.iload 5, 2) := by decide +kernel
theorem dX5_withLinks_54 : decode cX5_withLinks 54 = .ok (.invokevirtual 113, 3) := by decide +kernel
theorem dX5_withLinks_57 : decode cX5_withLinks 57 = .ok (.i2l, 1) := by decide +kernel
theorem dX5_withLinks_58 : decode cX5_withLinks 58 = .ok (.invokestatic 245, 3) := by decide +kernel
theorem dX5_withLinks_61 : decode cX5_withLinks 61 = .ok (.lstore_n 3, 1) := by decide +kernel
theorem dX5_withLinks_62 : decode cX5_withLinks 62 = .ok (.iconst 0, 1) := by decide +kernel
theorem dX5_withLinks_63 : decode cX5_withLinks 63 = .ok (.istore 6, 2) := by decide +kernel
theorem dX5_withLinks_65 : decode cX5_withLinks 65 = .ok (.iload 6, 2) := by decide +kernel
theorem dX5_withLinks_67 : decode cX5_withLinks 67 = .ok (.iconst 3, 1) := by decide +kernel
theorem dX5_withLinks_68 : decode cX5_withLinks 68 = .ok (.if_icmp .ge 25, 3) := by decide +kernel
theorem dX5_withLinks_71 : decode cX5_withLinks 71 = .ok (.lload_n 3, 1) := by decide +kernel
theorem dX5_withLinks_72 : decode cX5_withLinks 72 = .ok (.aload_n 0, 1) := by decide +kernel
theorem dX5_withLinks_73 : decode cX5_withLinks 73 = .ok (.getfield 26, 3) := by decide +kernel
theorem dX5_withLinks_76 : decode cX5_withLinks 76 = .ok (.iload 5, 2) := by decide +kernel
theorem dX5_withLinks_78 : decode cX5_withLinks 78 = .ok (.iload 6, 2) := by decide +kernel
theorem dX5_withLinks_80 : decode cX5_withLinks 80 = .ok (.invokevirtual 103, 3) := by decide +kernel
theorem dX5_withLinks_83 : decode cX5_withLinks 83 = .ok (.invokestatic 245, 3) := by decide +kernel
theorem dX5_withLinks_86 : decode cX5_withLinks 86 = .ok (.lstore_n 3, 1) := by decide +kernel
theorem dX5_withLinks_87 : decode cX5_withLinks 87 = .ok (.iinc 6 1, 3) := by decide +kernel
theorem dX5_withLinks_90 : decode cX5_withLinks 90 = .ok (.goto (-25), 3) := by decide +kernel
theorem dX5_withLinks_93 : decode cX5_withLinks 93 = .ok (.iinc 5 1, 3) := by decide +kernel
theorem dX5_withLinks_96 : decode cX5_withLinks 96 = .ok (.goto (-91), 3) := by decide +kernel
theorem dX5_withLinks_99 : decode cX5_withLinks 99 = .ok (.lload_n 3, 1) := by decide +kernel
theorem dX5_withLinks_100 : decode cX5_withLinks 100 = .ok (.lreturn, 1) := by decide +kernel
set_option maxRecDepth 20000 in
theorem ggX5_withBundles_X0_isThere : GoodIn wsX5_withBundles wsX0_isThere := goodIn_r _ [7, 8, 9, 10, 6, 11, 12, 13, 14, 15, 38] (by decide +kernel) (by decide +kernel)
set_option maxRecDepth 20000 in
theorem gX5_withBundles_X0_isThere : GoodIn wsX5_withBundles (wsV RX5 133 RX0 yX0_isThere wsX0_isThere) := goodIn_app (goodIn_of _ (by decide +kernel)) ggX5_withBundles_X0_isThere
set_option maxRecDepth 20000 in
theorem ggX5_withBundles_X5_with : GoodIn wsX5_withBundles wsX5_with := goodIn_r _ [18, 19] (by decide +kernel) (by decide +kernel)
set_option maxRecDepth 20000 in
theorem gX5_withBundles_X5_with : GoodIn wsX5_withBundles (va_wsS RX5 245 yX5_with wsX5_with) := goodIn_app (goodIn_of _ (by decide +kernel)) ggX5_withBundles_X5_with
set_option maxRecDepth 20000 in
theorem ggX5_withBundles_X3_ofBundle : GoodIn wsX5_withBundles wsX3_ofBundle := goodIn_r _ [24, 25, 26, 14, 27, 13, 15, 39, 40, 41, 42, 43] (by decide +kernel) (by decide +kernel)
set_option maxRecDepth 20000 in
theorem gX5_withBundles_X3_ofBundle : GoodIn wsX5_withBundles (wsV RX5 147 RX3 yX3_ofBundle wsX3_ofBundle) := goodIn_app (goodIn_of _ (by decide +kernel)) ggX5_withBundles_X3_ofBundle
theorem dX5_withBundles_0 : decode cX5_withBundles 0 = .ok (.lload_n 1, 1) := by decide +kernel
theorem dX5_withBundles_1 : decode cX5_withBundles 1 = .ok (.lstore_n 3, 1) := by decide +kernel
theorem dX5_withBundles_2 : decode cX5_withBundles 2 = .ok (.iconst 0, 1) := by decide +kernel
theorem dX5_withBundles_3 : decode cX5_withBundles 3 = .ok (.istore 5, 2) := by decide +kernel
theorem dX5_withBundles_5 : decode cX5_withBundles 5 = .ok (.iload 5, 2) := by decide +kernel
theorem dX5_withBundles_7 : decode cX5_withBundles 7 = .ok (.iconst 4, 1) := by decide +kernel
theorem dX5_withBundles_8 : decode cX5_withBundles 8 = .ok (.if_icmp .ge 60, 3) := by decide +kernel
theorem dX5_withBundles_11 : decode cX5_withBundles 11 = .ok (.aload_n 0, 1) := by decide +kernel
theorem dX5_withBundles_12 : decode cX5_withBundles 12 = .ok (.getfield 33, 3) := by decide +kernel
theorem dX5_withBundles_15 : decode cX5_withBundles 15 = .ok (.iload 5, 2) := by decide +kernel
theorem dX5_withBundles_17 : decode cX5_withBundles 17 = .ok (.invokevirtual 133, 3) := by decide +kernel
theorem dX5_withBundles_20 : decode cX5_withBundles 20 = .ok (.ifCond .eq 42, 3) := by decide +kernel
theorem dX5_withBundles_23 : decode cX5_withBundles 23 = .ok (.lload_n 3, 1) := by decide +kernel
theorem dX5_withBundles_24 : decode cX5_withBundles 24 = .ok (.iload 5, 2) := by decide +kernel
theorem dX5_withBundles_26 : decode cX5_withBundles 26 = .ok (.i2l, 1) := by decide +kernel
theorem dX5_withBundles_27 : decode cX5_withBundles 27 = .ok (.invokestatic 245, 3) := by decide +kernel
theorem dX5_withBundles_30 : decode cX5_withBundles 30 = .ok (.lstore_n 3, 1) := by decide +kernel
theorem dX5_withBundles_31 : decode cX5_withBundles 31 = .ok (.iconst 0, 1) := by decide +kernel
theorem dX5_withBundles_32 : decode cX5_withBundles 32 = .ok (.istore 6, 2) := by decide +kernel
theorem dX5_withBundles_34 : decode cX5_withBundles 34 = .ok (.iload 6, 2) := by decide +kernel
theorem dX5_withBundles_36 : decode cX5_withBundles 36 = .ok (.iconst 3, 1) := by decide +kernel
theorem dX5_withBundles_37 : decode cX5_withBundles 37 = .ok (.if_icmp .ge 25, 3) := by decide +kernel
theorem dX5_withBundles_40 : decode cX5_withBundles 40 = .ok (.lload_n 3, 1) := by decide +kernel
theorem dX5_withBundles_41 : decode cX5_withBundles 41 = .ok (.aload_n 0, 1) := by decide +kernel
theorem dX5_withBundles_42 : decode cX5_withBundles 42 = .ok (.getfield 26, 3) := by decide +kernel
theorem dX5_withBundles_45 : decode cX5_withBundles 45 = .ok (.iload 5, 2) := by decide +kernel
theorem dX5_withBundles_47 : decode cX5_withBundles 47 = .ok (.iload 6, 2) := by decide +kernel
theorem dX5_withBundles_49 : decode cX5_withBundles 49 = .ok (.invokevirtual 147, 3) := by decide +kernel
theorem dX5_withBundles_52 : decode cX5_withBundles 52 = .ok (.invokestatic 245, 3) := by decide +kernel
theorem dX5_withBundles_55 : decode cX5_withBundles 55 = .ok (.lstore_n 3, 1) := by decide +kernel
theorem dX5_withBundles_56 : decode cX5_withBundles 56 = .ok (.iinc 6 1, 3) := by decide +kernel
theorem dX5_withBundles_59 : decode cX5_withBundles 59 = .ok (.goto (-25), 3) := by decide +kernel
theorem dX5_withBundles_62 : decode cX5_withBundles 62 = .ok (.iinc 5 1, 3) := by decide +kernel
theorem dX5_withBundles_65 : decode cX5_withBundles 65 = .ok (.goto (-60), 3) := by decide +kernel
theorem dX5_withBundles_68 : decode cX5_withBundles 68 = .ok (.lload_n 3, 1) := by decide +kernel
theorem dX5_withBundles_69 : decode cX5_withBundles 69 = .ok (.lreturn, 1) := by decide +kernel
set_option maxRecDepth 20000 in
theorem ggX5_withNodes_X2_allNodes : GoodIn wsX5_withNodes wsX2_allNodes := goodIn_r _ [6, 7, 153, 154, 155, 156, 157, 158, 159, 160] (by decide +kernel) (by decide +kernel)
set_option maxRecDepth 20000 in
theorem gX5_withNodes_X2_allNodes : GoodIn wsX5_withNodes (wsV RX5 249 RX2 yX2_allNodes wsX2_allNodes) := goodIn_app (goodIn_of _ (by decide +kernel)) ggX5_withNodes_X2_allNodes
set_option maxRecDepth 20000 in
theorem ggX5_withNodes_X2_nodeCount : GoodIn wsX5_withNodes wsX2_nodeCount := goodIn_r _ [11, 7, 153, 154, 155, 156, 157, 158, 159, 160] (by decide +kernel) (by decide +kernel)
set_option maxRecDepth 20000 in
theorem gX5_withNodes_X2_nodeCount : GoodIn wsX5_withNodes (wsV RX5 186 RX2 yX2_nodeCount wsX2_nodeCount) := goodIn_app (goodIn_of _ (by decide +kernel)) ggX5_withNodes_X2_nodeCount
set_option maxRecDepth 20000 in
theorem ggX5_withNodes_X2_treeLinks : GoodIn wsX5_withNodes wsX2_treeLinks := goodIn_r _ [15, 7, 16, 17, 18, 19, 5, 20, 21, 22, 23, 153, 154, 155, 156, 157, 158, 159, 160] (by decide +kernel) (by decide +kernel)
set_option maxRecDepth 20000 in
theorem gX5_withNodes_X2_treeLinks : GoodIn wsX5_withNodes (wsV RX5 126 RX2 yX2_treeLinks wsX2_treeLinks) := goodIn_app (goodIn_of _ (by decide +kernel)) ggX5_withNodes_X2_treeLinks
set_option maxRecDepth 20000 in
theorem ggX5_withNodes_X5_with : GoodIn wsX5_withNodes wsX5_with := goodIn_r _ [27, 28] (by decide +kernel) (by decide +kernel)
set_option maxRecDepth 20000 in
theorem gX5_withNodes_X5_with : GoodIn wsX5_withNodes (va_wsS RX5 245 yX5_with wsX5_with) := goodIn_app (goodIn_of _ (by decide +kernel)) ggX5_withNodes_X5_with
set_option maxRecDepth 20000 in
theorem ggX5_withNodes_X5_spreadOut : GoodIn wsX5_withNodes wsX5_spreadOut := goodIn_r _ [32, 1, 33, 34, 12, 13, 14, 5, 15, 7, 16, 17, 18, 19, 20, 21, 22, 23, 35, 36, 37, 26, 38, 39, 40, 41, 42, 43, 44, 45, 46, 47, 48, 49, 50, 51, 52, 53, 54, 55, 56, 57, 58, 59, 60, 61, 62, 63, 64, 65, 66, 67, 68, 69, 70, 71, 72, 73, 74, 75, 76, 77, 78, 79, 80, 81, 82, 83, 84, 85, 86, 87, 88, 89, 90, 91, 92, 93, 94, 95, 96, 97, 98, 99, 100, 101, 102, 103, 104, 105, 106, 107, 108, 109, 110, 143, 144, 145, 146, 147, 148, 149, 150, 151, 152, 161, 162, 163, 164, 165, 166, 167, 153, 154, 155, 156, 157, 158, 159, 160, 168, 169, 170, 171, 172, 173] (by decide +kernel) (by decide +kernel)
set_option maxRecDepth 20000 in
theorem gX5_withNodes_X5_spreadOut : GoodIn wsX5_withNodes (wsV RX5 154 RX5 yX5_spreadOut wsX5_spreadOut) := goodIn_app (goodIn_of _ (by decide +kernel)) ggX5_withNodes_X5_spreadOut
set_option maxRecDepth 20000 in
theorem ggX5_withNodes_X5_spreadFact : GoodIn wsX5_withNodes wsX5_spreadFact := goodIn_r _ [114, 33, 34, 115, 116, 117, 118, 119, 40, 120, 121, 122, 123, 52, 124, 125, 126, 127, 128, 129, 130, 131, 132, 133, 134, 135, 136, 137, 138, 143, 144, 145, 146, 147, 148, 149, 150, 151, 152, 161, 162, 163, 164, 165, 166, 167, 169, 170, 171, 172, 173] (by decide +kernel) (by decide +kernel)
set_option maxRecDepth 20000 in
theorem gX5_withNodes_X5_spreadFact : GoodIn wsX5_withNodes (wsV RX5 158 RX5 yX5_spreadFact wsX5_spreadFact) := goodIn_app (goodIn_of _ (by decide +kernel)) ggX5_withNodes_X5_spreadFact
set_option maxRecDepth 20000 in
theorem ggX5_withNodes_X5_bestVariant : GoodIn wsX5_withNodes wsX5_bestVariant := goodIn_r _ [142, 33, 116, 34, 29, 30, 31, 26, 32, 1, 12, 13, 14, 5, 15, 7, 16, 17, 18, 19, 20, 21, 22, 23, 35, 36, 37, 38, 39, 40, 41, 42, 43, 44, 45, 46, 47, 48, 49, 50, 51, 52, 53, 54, 55, 56, 57, 58, 59, 60, 61, 62, 63, 64, 65, 66, 67, 68, 69, 70, 71, 72, 73, 74, 75, 76, 77, 78, 79, 80, 81, 82, 83, 84, 85, 86, 87, 88, 89, 90, 91, 92, 93, 94, 95, 96, 97, 98, 99, 100, 101, 102, 103, 104, 105, 106, 107, 108, 109, 110, 143, 144, 145, 146, 147, 148, 149, 150, 151, 152, 161, 162, 163, 164, 165, 166, 167, 153, 154, 155, 156, 157, 158, 159, 160, 168, 169, 170, 171, 172, 173] (by decide +kernel) (by decide +kernel)
set_option maxRecDepth 20000 in
theorem gX5_withNodes_X5_bestVariant : GoodIn wsX5_withNodes (wsV RX5 161 RX5 yX5_bestVariant wsX5_bestVariant) := goodIn_app (goodIn_of _ (by decide +kernel)) ggX5_withNodes_X5_bestVariant
theorem dX5_withNodes_0 : decode cX5_withNodes 0 = .ok (.lload_n 1, 1) := by decide +kernel
theorem dX5_withNodes_1 : decode cX5_withNodes 1 = .ok (.lstore_n 3, 1) := by decide +kernel
theorem dX5_withNodes_2 : decode cX5_withNodes 2 = .ok (.aload_n 0, 1) := by decide +kernel
theorem dX5_withNodes_3 : decode cX5_withNodes 3 = .ok (.getfield 19, 3) := by decide +kernel
theorem dX5_withNodes_6 : decode cX5_withNodes 6 = .ok (.invokevirtual 249, 3) := by decide +kernel
theorem dX5_withNodes_9 : decode cX5_withNodes 9 = .ok (.istore 5, 2) := by decide +kernel
theorem dX5_withNodes_11 : decode cX5_withNodes 11 = .ok (.iconst 0, 1) := by decide +kernel
theorem dX5_withNodes_12 : decode cX5_withNodes 12 = .ok (.istore 6, 2) := by decide +kernel
theorem dX5_withNodes_14 : decode cX5_withNodes 14 = .ok (.iload 6, 2) := by decide +kernel
theorem dX5_withNodes_16 : decode cX5_withNodes 16 = .ok (.aload_n 0, 1) := by decide +kernel
theorem dX5_withNodes_17 : decode cX5_withNodes 17 = .ok (.getfield 19, 3) := by decide +kernel
theorem dX5_withNodes_20 : decode cX5_withNodes 20 = .ok (.invokevirtual 186, 3) := by decide +kernel
theorem dX5_withNodes_23 : decode cX5_withNodes 23 = .ok (.if_icmp .ge 110, 3) := by decide +kernel
theorem dX5_withNodes_26 : decode cX5_withNodes 26 = .ok (.lload_n 3, 1) := by decide +kernel
theorem dX5_withNodes_27 : decode cX5_withNodes 27 = .ok (.aload_n 0, 1) := by decide +kernel
theorem dX5_withNodes_28 : decode cX5_withNodes 28 = .ok (.getfield 19, 3) := by decide +kernel
theorem dX5_withNodes_31 : decode cX5_withNodes 31 = .ok (.iload 6, 2) := by decide +kernel
theorem dX5_withNodes_33 : decode cX5_withNodes 33 = .ok (.iload 5, 2) := by decide +kernel
theorem dX5_withNodes_35 : decode cX5_withNodes 35 = .ok (.invokevirtual 126, 3) := by decide +kernel
theorem dX5_withNodes_38 : decode cX5_withNodes 38 = .ok (.i2l, 1) := by decide +kernel
theorem dX5_withNodes_39 : decode cX5_withNodes 39 = .ok (.invokestatic 245, 3) := by decide +kernel
theorem dX5_withNodes_42 : decode cX5_withNodes 42 = .ok (.lstore_n 3, 1) := by decide +kernel
theorem dX5_withNodes_43 : decode cX5_withNodes 43 = .ok (.iconst 0, 1) := by decide +kernel
theorem dX5_withNodes_44 : decode cX5_withNodes 44 = .ok (.istore 7, 2) := by decide +kernel
theorem dX5_withNodes_46 : decode cX5_withNodes 46 = .ok (.iload 7, 2) := by decide +kernel
theorem dX5_withNodes_48 : decode cX5_withNodes 48 = .ok (.iconst 3, 1) := by decide +kernel
theorem dX5_withNodes_49 : decode cX5_withNodes 49 = .ok (.if_icmp .ge 48, 3) := by decide +kernel
theorem dX5_withNodes_52 : decode cX5_withNodes 52 = .ok (.aload_n 0, 1) := by decide +kernel
theorem dX5_withNodes_53 : decode cX5_withNodes 53 = .ok (.iload 6, 2) := by decide +kernel
theorem dX5_withNodes_55 : decode cX5_withNodes 55 = .ok (.iload 5, 2) := by decide +kernel
theorem dX5_withNodes_57 : decode cX5_withNodes 57 = .ok (.iload 7, 2) := by decide +kernel
theorem dX5_withNodes_59 : decode cX5_withNodes 59 = .ok (.iconst 0, 1) := by decide +kernel
theorem dX5_withNodes_60 : decode cX5_withNodes 60 = .ok (.invokevirtual 154, 3) := by decide +kernel
theorem dX5_withNodes_63 : decode cX5_withNodes 63 = .ok (.iconst 0, 1) := by decide +kernel
theorem dX5_withNodes_64 : decode cX5_withNodes 64 = .ok (.istore 8, 2) := by decide +kernel
theorem dX5_withNodes_66 : decode cX5_withNodes 66 = .ok (.iload 8, 2) := by decide +kernel
theorem dX5_withNodes_68 : decode cX5_withNodes 68 = .ok (.bipush 9, 2) := by decide +kernel
theorem dX5_withNodes_70 : decode cX5_withNodes 70 = .ok (.if_icmp .ge 21, 3) := by decide +kernel
theorem dX5_withNodes_73 : decode cX5_withNodes 73 = .ok (.lload_n 3, 1) := by decide +kernel
theorem dX5_withNodes_74 : decode cX5_withNodes 74 = .ok (.aload_n 0, 1) := by decide +kernel
theorem dX5_withNodes_75 : decode cX5_withNodes 75 = .ok (.iload 8, 2) := by decide +kernel
theorem dX5_withNodes_77 : decode cX5_withNodes 77 = .ok (.invokevirtual 158, 3) := by decide +kernel
theorem dX5_withNodes_80 : decode cX5_withNodes 80 = .ok (.i2l, 1) := by decide +kernel
theorem dX5_withNodes_81 : decode cX5_withNodes 81 = .ok (.invokestatic 245, 3) := by decide +kernel
theorem dX5_withNodes_84 : decode cX5_withNodes 84 = .ok (.lstore_n 3, 1) := by decide +kernel
theorem dX5_withNodes_85 : decode cX5_withNodes 85 = .ok (.iinc 8 1, 3) := by decide +kernel
theorem dX5_withNodes_88 : decode cX5_withNodes 88 = .ok (.goto (-22), 3) := by decide +kernel
theorem dX5_withNodes_91 : decode cX5_withNodes 91 = .ok (.iinc 7 1, 3) := by decide +kernel
theorem dX5_withNodes_94 : decode cX5_withNodes 94 = .ok (.goto (-48), 3) := by decide +kernel
theorem dX5_withNodes_97 : decode cX5_withNodes 97 = .ok (.lload_n 3, 1) := by decide +kernel
theorem dX5_withNodes_98 : decode cX5_withNodes 98 = .ok (.aload_n 0, 1) := by decide +kernel
theorem dX5_withNodes_99 : decode cX5_withNodes 99 = .ok (.iload 6, 2) := by decide +kernel
theorem dX5_withNodes_101 : decode cX5_withNodes 101 = .ok (.iload 5, 2) := by decide +kernel
theorem dX5_withNodes_103 : decode cX5_withNodes 103 = .ok (.iconst 0, 1) := by decide +kernel
theorem dX5_withNodes_104 : decode cX5_withNodes 104 = .ok (.invokevirtual 161, 3) := by decide +kernel
theorem dX5_withNodes_107 : decode cX5_withNodes 107 = .ok (.i2l, 1) := by decide +kernel
theorem dX5_withNodes_108 : decode cX5_withNodes 108 = .ok (.invokestatic 245, 3) := by decide +kernel
theorem dX5_withNodes_111 : decode cX5_withNodes 111 = .ok (.lstore_n 3, 1) := by decide +kernel
theorem dX5_withNodes_112 : decode cX5_withNodes 112 = .ok (.lload_n 3, 1) := by decide +kernel
theorem dX5_withNodes_113 : decode cX5_withNodes 113 = .ok (.aload_n 0, 1) := by decide +kernel
theorem dX5_withNodes_114 : decode cX5_withNodes 114 = .ok (.iload 6, 2) := by decide +kernel
theorem dX5_withNodes_116 : decode cX5_withNodes 116 = .ok (.iload 5, 2) := by decide +kernel
theorem dX5_withNodes_118 : decode cX5_withNodes 118 = .ok (.iconst 1, 1) := by decide +kernel
theorem dX5_withNodes_119 : decode cX5_withNodes 119 = .ok (.invokevirtual 161, 3) := by decide +kernel
theorem dX5_withNodes_122 : decode cX5_withNodes 122 = .ok (.i2l, 1) := by decide +kernel
theorem dX5_withNodes_123 : decode cX5_withNodes 123 = .ok (.invokestatic 245, 3) := by decide +kernel
theorem dX5_withNodes_126 : decode cX5_withNodes 126 = .ok (.lstore_n 3, 1) := by decide +kernel
theorem dX5_withNodes_127 : decode cX5_withNodes 127 = .ok (.iinc 6 1, 3) := by decide +kernel
theorem dX5_withNodes_130 : decode cX5_withNodes 130 = .ok (.goto (-116), 3) := by decide +kernel
theorem dX5_withNodes_133 : decode cX5_withNodes 133 = .ok (.lload_n 3, 1) := by decide +kernel
theorem dX5_withNodes_134 : decode cX5_withNodes 134 = .ok (.lreturn, 1) := by decide +kernel
set_option maxRecDepth 20000 in
theorem ggX5_withPage_X4_size : GoodIn wsX5_withPage wsX4_size := goodIn_r _ [6, 7, 28, 29] (by decide +kernel) (by decide +kernel)
end
section
set_option maxRecDepth 20000 in
theorem gX5_withPage_X4_size : GoodIn wsX5_withPage (wsV RX5 52 RX4 yX4_size wsX4_size) := goodIn_app (goodIn_of _ (by decide +kernel)) ggX5_withPage_X4_size
set_option maxRecDepth 20000 in
theorem ggX5_withPage_X4_codeAt : GoodIn wsX5_withPage wsX4_codeAt := goodIn_r _ [11, 7, 12, 28, 29] (by decide +kernel) (by decide +kernel)
set_option maxRecDepth 20000 in
theorem gX5_withPage_X4_codeAt : GoodIn wsX5_withPage (wsV RX5 252 RX4 yX4_codeAt wsX4_codeAt) := goodIn_app (goodIn_of _ (by decide +kernel)) ggX5_withPage_X4_codeAt
set_option maxRecDepth 20000 in
theorem ggX5_withPage_X5_with : GoodIn wsX5_withPage wsX5_with := goodIn_r _ [16, 17] (by decide +kernel) (by decide +kernel)
set_option maxRecDepth 20000 in
theorem gX5_withPage_X5_with : GoodIn wsX5_withPage (va_wsS RX5 245 yX5_with wsX5_with) := goodIn_app (goodIn_of _ (by decide +kernel)) ggX5_withPage_X5_with
theorem dX5_withPage_0 : decode cX5_withPage 0 = .ok (.lload_n 1, 1) := by decide +kernel
theorem dX5_withPage_1 : decode cX5_withPage 1 = .ok (.lstore_n 3, 1) := by decide +kernel
theorem dX5_withPage_2 : decode cX5_withPage 2 = .ok (.iconst 0, 1) := by decide +kernel
theorem dX5_withPage_3 : decode cX5_withPage 3 = .ok (.istore 5, 2) := by decide +kernel
theorem dX5_withPage_5 : decode cX5_withPage 5 = .ok (.iload 5, 2) := by decide +kernel
theorem dX5_withPage_7 : decode cX5_withPage 7 = .ok (.aload_n 0, 1) := by decide +kernel
theorem dX5_withPage_8 : decode cX5_withPage 8 = .ok (.getfield 10, 3) := by decide +kernel
theorem dX5_withPage_11 : decode cX5_withPage 11 = .ok (.invokevirtual 52, 3) := by decide +kernel
theorem dX5_withPage_14 : decode cX5_withPage 14 = .ok (.if_icmp .ge 24, 3) := by decide +kernel
theorem dX5_withPage_17 : decode cX5_withPage 17 = .ok (.lload_n 3, 1) := by decide +kernel
theorem dX5_withPage_18 : decode cX5_withPage 18 = .ok (.aload_n 0, 1) := by decide +kernel
theorem dX5_withPage_19 : decode cX5_withPage 19 = .ok (.getfield 10, 3) := by decide +kernel
theorem dX5_withPage_22 : decode cX5_withPage 22 = .ok (.iload 5, 2) := by decide +kernel
theorem dX5_withPage_24 : decode cX5_withPage 24 = .ok (.invokevirtual 252, 3) := by decide +kernel
theorem dX5_withPage_27 : decode cX5_withPage 27 = .ok (.i2l, 1) := by decide +kernel
theorem dX5_withPage_28 : decode cX5_withPage 28 = .ok (.invokestatic 245, 3) := by decide +kernel
theorem dX5_withPage_31 : decode cX5_withPage 31 = .ok (.lstore_n 3, 1) := by decide +kernel
theorem dX5_withPage_32 : decode cX5_withPage 32 = .ok (.iinc 5 1, 3) := by decide +kernel
theorem dX5_withPage_35 : decode cX5_withPage 35 = .ok (.goto (-30), 3) := by decide +kernel
theorem dX5_withPage_38 : decode cX5_withPage 38 = .ok (.lload_n 3, 1) := by decide +kernel
theorem dX5_withPage_39 : decode cX5_withPage 39 = .ok (.lreturn, 1) := by decide +kernel
set_option maxRecDepth 20000 in
theorem ggX5_withCounts_X5_count : GoodIn wsX5_withCounts wsX5_count := goodIn_r _ [5, 6, 7, 8, 9, 10, 11, 12, 13, 14, 15, 16, 17, 18, 19, 20, 21, 22, 23, 24, 25, 26, 27, 28, 29, 30, 31, 32, 33, 34, 35, 36, 37, 38, 39, 40, 41, 42, 43, 44, 45, 46, 47, 48, 49, 50, 51, 52, 53, 54, 4, 55, 60, 61, 62, 63, 64, 65, 66, 67, 68, 69, 70, 71, 72, 73, 74, 75, 76, 77, 78, 79, 80, 81, 82, 83, 84, 85] (by decide +kernel) (by decide +kernel)
set_option maxRecDepth 20000 in
theorem gX5_withCounts_X5_count : GoodIn wsX5_withCounts (wsV RX5 255 RX5 yX5_count wsX5_count) := goodIn_app (goodIn_of _ (by decide +kernel)) ggX5_withCounts_X5_count
set_option maxRecDepth 20000 in
theorem ggX5_withCounts_X5_with : GoodIn wsX5_withCounts wsX5_with := goodIn_r _ [58, 59] (by decide +kernel) (by decide +kernel)
set_option maxRecDepth 20000 in
theorem gX5_withCounts_X5_with : GoodIn wsX5_withCounts (va_wsS RX5 245 yX5_with wsX5_with) := goodIn_app (goodIn_of _ (by decide +kernel)) ggX5_withCounts_X5_with
theorem dX5_withCounts_0 : decode cX5_withCounts 0 = .ok (.lload_n 1, 1) := by decide +kernel
theorem dX5_withCounts_1 : decode cX5_withCounts 1 = .ok (.lstore_n 3, 1) := by decide +kernel
theorem dX5_withCounts_2 : decode cX5_withCounts 2 = .ok (.iconst 0, 1) := by decide +kernel
theorem dX5_withCounts_3 : decode cX5_withCounts 3 = .ok (.istore 5, 2) := by decide +kernel
theorem dX5_withCounts_5 : decode cX5_withCounts 5 = .ok (.iload 5, 2) := by decide +kernel
theorem dX5_withCounts_7 : decode cX5_withCounts 7 = .ok (.bipush 12, 2) := by decide +kernel
theorem dX5_withCounts_9 : decode cX5_withCounts 9 = .ok (.if_icmp .ge 21, 3) := by decide +kernel
theorem dX5_withCounts_12 : decode cX5_withCounts 12 = .ok (.lload_n 3, 1) := by decide +kernel
theorem dX5_withCounts_13 : decode cX5_withCounts 13 = .ok (.aload_n 0, 1) := by decide +kernel
theorem dX5_withCounts_14 : decode cX5_withCounts 14 = .ok (.iload 5, 2) := by decide +kernel
theorem dX5_withCounts_16 : decode cX5_withCounts 16 = .ok (.invokevirtual 255, 3) := by decide +kernel
theorem dX5_withCounts_19 : decode cX5_withCounts 19 = .ok (.i2l, 1) := by decide +kernel
theorem dX5_withCounts_20 : decode cX5_withCounts 20 = .ok (.invokestatic 245, 3) := by decide +kernel
theorem dX5_withCounts_23 : decode cX5_withCounts 23 = .ok (.lstore_n 3, 1) := by decide +kernel
theorem dX5_withCounts_24 : decode cX5_withCounts 24 = .ok (.iinc 5 1, 3) := by decide +kernel
theorem dX5_withCounts_27 : decode cX5_withCounts 27 = .ok (.goto (-22), 3) := by decide +kernel
theorem dX5_withCounts_30 : decode cX5_withCounts 30 = .ok (.lload_n 3, 1) := by decide +kernel
theorem dX5_withCounts_31 : decode cX5_withCounts 31 = .ok (.lreturn, 1) := by decide +kernel
theorem dX6_init_0 : decode cX6_init 0 = .ok (.aload_n 0, 1) := by decide +kernel
theorem dX6_init_1 : decode cX6_init 1 = .ok (.invokespecial 1, 3) := by decide +kernel
theorem dX6_init_4 : decode cX6_init 4 = .ok (.aload_n 0, 1) := by decide +kernel
theorem dX6_init_5 : decode cX6_init 5 = .ok (.bipush 25, 2) := by decide +kernel
theorem dX6_init_7 : decode cX6_init 7 = .ok (.newarray .int, 2) := by decide +kernel
theorem dX6_init_9 : decode cX6_init 9 = .ok (.putfield 7, 3) := by decide +kernel
theorem dX6_init_12 : decode cX6_init 12 = .ok (.aload_n 0, 1) := by decide +kernel
theorem dX6_init_13 : decode cX6_init 13 = .ok (.bipush 16, 2) := by decide +kernel
theorem dX6_init_15 : decode cX6_init 15 = .ok (.newarray .int, 2) := by decide +kernel
theorem dX6_init_17 : decode cX6_init 17 = .ok (.putfield 13, 3) := by decide +kernel
theorem dX6_init_20 : decode cX6_init 20 = .ok (.aload_n 0, 1) := by decide +kernel
theorem dX6_init_21 : decode cX6_init 21 = .ok (.bipush 16, 2) := by decide +kernel
theorem dX6_init_23 : decode cX6_init 23 = .ok (.newarray .int, 2) := by decide +kernel
theorem dX6_init_25 : decode cX6_init 25 = .ok (.putfield 16, 3) := by decide +kernel
theorem dX6_init_28 : decode cX6_init 28 = .ok (.aload_n 0, 1) := by decide +kernel
theorem dX6_init_29 : decode cX6_init 29 = .ok (.bipush 16, 2) := by decide +kernel
theorem dX6_init_31 : decode cX6_init 31 = .ok (.putfield 19, 3) := by decide +kernel
theorem dX6_init_34 : decode cX6_init 34 = .ok (.aload_n 0, 1) := by decide +kernel
theorem dX6_init_35 : decode cX6_init 35 = .ok (.iconst 3, 1) := by decide +kernel
theorem dX6_init_36 : decode cX6_init 36 = .ok (.putfield 23, 3) := by decide +kernel
theorem dX6_init_39 : decode cX6_init 39 = .ok (.aload_n 0, 1) := by decide +kernel
theorem dX6_init_40 : decode cX6_init 40 = .ok (.iconst 1, 1) := by decide +kernel
theorem dX6_init_41 : decode cX6_init 41 = .ok (.putfield 26, 3) := by decide +kernel
theorem dX6_init_44 : decode cX6_init 44 = .ok (.aload_n 0, 1) := by decide +kernel
theorem dX6_init_45 : decode cX6_init 45 = .ok (.iconst 4, 1) := by decide +kernel
theorem dX6_init_46 : decode cX6_init 46 = .ok (.newarray .int, 2) := by decide +kernel
theorem dX6_init_48 : decode cX6_init 48 = .ok (.putfield 29, 3) := by decide +kernel
theorem dX6_init_51 : decode cX6_init 51 = .ok (.aload_n 0, 1) := by decide +kernel
theorem dX6_init_52 : decode cX6_init 52 = .ok (.bipush 8, 2) := by decide +kernel
theorem dX6_init_54 : decode cX6_init 54 = .ok (.newarray .int, 2) := by decide +kernel
theorem dX6_init_56 : decode cX6_init 56 = .ok (.putfield 32, 3) := by decide +kernel
theorem dX6_init_59 : decode cX6_init 59 = .ok (.aload_n 0, 1) := by decide +kernel
theorem dX6_init_60 : decode cX6_init 60 = .ok (.bipush 8, 2) := by decide +kernel
theorem dX6_init_62 : decode cX6_init 62 = .ok (.newarray .int, 2) := by decide +kernel
theorem dX6_init_64 : decode cX6_init 64 = .ok (.putfield 35, 3) := by decide +kernel
theorem dX6_init_67 : decode cX6_init 67 = .ok (.aload_n 0, 1) := by decide +kernel
theorem dX6_init_68 : decode cX6_init 68 = .ok (.bipush 60, 2) := by decide +kernel
theorem dX6_init_70 : decode cX6_init 70 = .ok (.newarray .long, 2) := by decide +kernel
theorem dX6_init_72 : decode cX6_init 72 = .ok (.putfield 38, 3) := by decide +kernel
theorem dX6_init_75 : decode cX6_init 75 = .ok (.aload_n 0, 1) := by decide +kernel
theorem dX6_init_76 : decode cX6_init 76 = .ok (.bipush 6, 2) := by decide +kernel
theorem dX6_init_78 : decode cX6_init 78 = .ok (.newarray .int, 2) := by decide +kernel
theorem dX6_init_80 : decode cX6_init 80 = .ok (.putfield 42, 3) := by decide +kernel
theorem dX6_init_83 : decode cX6_init 83 = .ok (.aload_n 0, 1) := by decide +kernel
theorem dX6_init_84 : decode cX6_init 84 = .ok (.bipush 6, 2) := by decide +kernel
theorem dX6_init_86 : decode cX6_init 86 = .ok (.newarray .int, 2) := by decide +kernel
theorem dX6_init_88 : decode cX6_init 88 = .ok (.putfield 45, 3) := by decide +kernel
theorem dX6_init_91 : decode cX6_init 91 = .ok (.return_, 1) := by decide +kernel
theorem dX6_within_0 : decode cX6_within 0 = .ok (.iload_n 0, 1) := by decide +kernel
theorem dX6_within_1 : decode cX6_within 1 = .ok (.iload_n 1, 1) := by decide +kernel
theorem dX6_within_2 : decode cX6_within 2 = .ok (.if_icmp .lt 12, 3) := by decide +kernel
theorem dX6_within_5 : decode cX6_within 5 = .ok (.iload_n 0, 1) := by decide +kernel
theorem dX6_within_6 : decode cX6_within 6 = .ok (.iload_n 2, 1) := by decide +kernel
theorem dX6_within_7 : decode cX6_within 7 = .ok (.if_icmp .gt 7, 3) := by decide +kernel
theorem dX6_within_10 : decode cX6_within 10 = .ok (.iconst 1, 1) := by decide +kernel
theorem dX6_within_11 : decode cX6_within 11 = .ok (.goto 4, 3) := by decide +kernel
theorem dX6_within_14 : decode cX6_within 14 = .ok (.iconst 0, 1) := by decide +kernel
theorem dX6_within_15 : decode cX6_within 15 = .ok (.ireturn, 1) := by decide +kernel
theorem dX6_has_0 : decode cX6_has 0 = .ok (.iload_n 0, 1) := by decide +kernel
theorem dX6_has_1 : decode cX6_has 1 = .ok (.iload_n 1, 1) := by decide +kernel
theorem dX6_has_2 : decode cX6_has 2 = .ok (.ishr, 1) := by decide +kernel
theorem dX6_has_3 : decode cX6_has 3 = .ok (.iconst 1, 1) := by decide +kernel
theorem dX6_has_4 : decode cX6_has 4 = .ok (.iand, 1) := by decide +kernel
theorem dX6_has_5 : decode cX6_has 5 = .ok (.iconst 1, 1) := by decide +kernel
theorem dX6_has_6 : decode cX6_has 6 = .ok (.if_icmp .ne 7, 3) := by decide +kernel
theorem dX6_has_9 : decode cX6_has 9 = .ok (.iconst 1, 1) := by decide +kernel
theorem dX6_has_10 : decode cX6_has 10 = .ok (.goto 4, 3) := by decide +kernel
theorem dX6_has_13 : decode cX6_has 13 = .ok (.iconst 0, 1) := by decide +kernel
theorem dX6_has_14 : decode cX6_has 14 = .ok (.ireturn, 1) := by decide +kernel
set_option maxRecDepth 20000 in
theorem ggX6_letter_X6_within : GoodIn wsX6_letter wsX6_within := goodIn_r _ [6] (by decide +kernel) (by decide +kernel)
set_option maxRecDepth 20000 in
theorem gX6_letter_X6_within : GoodIn wsX6_letter (va_wsS RX6 48 yX6_within wsX6_within) := goodIn_app (goodIn_of _ (by decide +kernel)) ggX6_letter_X6_within
theorem dX6_letter_0 : decode cX6_letter 0 = .ok (.iload_n 1, 1) := by decide +kernel
theorem dX6_letter_1 : decode cX6_letter 1 = .ok (.bipush 32, 2) := by decide +kernel
theorem dX6_letter_3 : decode cX6_letter 3 = .ok (.bipush 126, 2) := by decide +kernel
theorem dX6_letter_5 : decode cX6_letter 5 = .ok (.invokestatic 48, 3) := by decide +kernel
theorem dX6_letter_8 : decode cX6_letter 8 = .ok (.ifCond .ne 7, 3) := by decide +kernel
theorem dX6_letter_11 : decode cX6_letter 11 = .ok (.sipush (-1002), 3) := by decide +kernel
theorem dX6_letter_14 : decode cX6_letter 14 = .ok (.ireturn, 1) := by decide +kernel
theorem dX6_letter_15 : decode cX6_letter 15 = .ok (.aload_n 0, 1) := by decide +kernel
theorem dX6_letter_16 : decode cX6_letter 16 = .ok (.getfield 52, 3) := by decide +kernel
theorem dX6_letter_19 : decode cX6_letter 19 = .ok (.bipush 25, 2) := by decide +kernel
theorem dX6_letter_21 : decode cX6_letter 21 = .ok (.if_icmp .ne 7, 3) := by decide +kernel
theorem dX6_letter_24 : decode cX6_letter 24 = .ok (.sipush (-1004), 3) := by decide +kernel
theorem dX6_letter_27 : decode cX6_letter 27 = .ok (.ireturn, 1) := by decide +kernel
theorem dX6_letter_28 : decode cX6_letter 28 = .ok (.aload_n 0, 1) := by decide +kernel
theorem dX6_letter_29 : decode cX6_letter 29 = .ok (.getfield 7, 3) := by decide +kernel
theorem dX6_letter_32 : decode cX6_letter 32 = .ok (.aload_n 0, 1) := by decide +kernel
theorem dX6_letter_33 : decode cX6_letter 33 = .ok (.getfield 52, 3) := by decide +kernel
theorem dX6_letter_36 : decode cX6_letter 36 = .ok (.iload_n 1, 1) := by decide +kernel
theorem dX6_letter_37 : decode cX6_letter 37 = .ok (.iastore, 1) := by decide +kernel
theorem dX6_letter_38 : decode cX6_letter 38 = .ok (.aload_n 0, 1) := by decide +kernel
theorem dX6_letter_39 : decode cX6_letter 39 = .ok (.dup, 1) := by decide +kernel
theorem dX6_letter_40 : decode cX6_letter 40 = .ok (.getfield 52, 3) := by decide +kernel
theorem dX6_letter_43 : decode cX6_letter 43 = .ok (.iconst 1, 1) := by decide +kernel
theorem dX6_letter_44 : decode cX6_letter 44 = .ok (.iadd, 1) := by decide +kernel
theorem dX6_letter_45 : decode cX6_letter 45 = .ok (.putfield 52, 3) := by decide +kernel
theorem dX6_letter_48 : decode cX6_letter 48 = .ok (.aload_n 0, 1) := by decide +kernel
theorem dX6_letter_49 : decode cX6_letter 49 = .ok (.getfield 52, 3) := by decide +kernel
theorem dX6_letter_52 : decode cX6_letter 52 = .ok (.ireturn, 1) := by decide +kernel
theorem dX6_blank_0 : decode cX6_blank 0 = .ok (.aload_n 0, 1) := by decide +kernel
theorem dX6_blank_1 : decode cX6_blank 1 = .ok (.getfield 52, 3) := by decide +kernel
theorem dX6_blank_4 : decode cX6_blank 4 = .ok (.istore_n 1, 1) := by decide +kernel
theorem dX6_blank_5 : decode cX6_blank 5 = .ok (.aload_n 0, 1) := by decide +kernel
theorem dX6_blank_6 : decode cX6_blank 6 = .ok (.iconst 0, 1) := by decide +kernel
theorem dX6_blank_7 : decode cX6_blank 7 = .ok (.putfield 52, 3) := by decide +kernel
theorem dX6_blank_10 : decode cX6_blank 10 = .ok (.iload_n 1, 1) := by decide +kernel
theorem dX6_blank_11 : decode cX6_blank 11 = .ok (.ireturn, 1) := by decide +kernel
theorem dX6_isTold_0 : decode cX6_isTold 0 = .ok (.iconst 0, 1) := by decide +kernel
theorem dX6_isTold_1 : decode cX6_isTold 1 = .ok (.istore_n 3, 1) := by decide +kernel
theorem dX6_isTold_2 : decode cX6_isTold 2 = .ok (.iconst 0, 1) := by decide +kernel
theorem dX6_isTold_3 : decode cX6_isTold 3 = .ok (.istore 4, 2) := by decide +kernel
theorem dX6_isTold_5 : decode cX6_isTold 5 = .ok (.iload 4, 2) := by decide +kernel
theorem dX6_isTold_7 : decode cX6_isTold 7 = .ok (.aload_n 0, 1) := by decide +kernel
theorem dX6_isTold_8 : decode cX6_isTold 8 = .ok (.getfield 55, 3) := by decide +kernel
theorem dX6_isTold_11 : decode cX6_isTold 11 = .ok (.if_icmp .ge 63, 3) := by decide +kernel
theorem dX6_isTold_14 : decode cX6_isTold 14 = .ok (.iload_n 3, 1) := by decide +kernel
theorem dX6_isTold_15 : decode cX6_isTold 15 = .ok (.ifCond .ne 47, 3) := by decide +kernel
theorem dX6_isTold_18 : decode cX6_isTold 18 = .ok (.aload_n 0, 1) := by decide +kernel
theorem dX6_isTold_19 : decode cX6_isTold 19 = .ok (.getfield 32, 3) := by decide +kernel
theorem dX6_isTold_22 : decode cX6_isTold 22 = .ok (.iload 4, 2) := by decide +kernel
theorem dX6_isTold_24 : decode cX6_isTold 24 = .ok (.iaload, 1) := by decide +kernel
theorem dX6_isTold_25 : decode cX6_isTold 25 = .ok (.iload_n 1, 1) := by decide +kernel
theorem dX6_isTold_26 : decode cX6_isTold 26 = .ok (.if_icmp .ne 14, 3) := by decide +kernel
theorem dX6_isTold_29 : decode cX6_isTold 29 = .ok (.aload_n 0, 1) := by decide +kernel
theorem dX6_isTold_30 : decode cX6_isTold 30 = .ok (.getfield 35, 3) := by decide +kernel
theorem dX6_isTold_33 : decode cX6_isTold 33 = .ok (.iload 4, 2) := by decide +kernel
theorem dX6_isTold_35 : decode cX6_isTold 35 = .ok (.iaload, 1) := by decide +kernel
theorem dX6_isTold_36 : decode cX6_isTold 36 = .ok (.iload_n 2, 1) := by decide +kernel
theorem dX6_isTold_37 : decode cX6_isTold 37 = .ok (.if_icmp .eq 25, 3) := by decide +kernel
theorem dX6_isTold_40 : decode cX6_isTold 40 = .ok (.aload_n 0, 1) := by decide +kernel
theorem dX6_isTold_41 : decode cX6_isTold 41 = .ok (.getfield 32, 3) := by decide +kernel
theorem dX6_isTold_44 : decode cX6_isTold 44 = .ok (.iload 4, 2) := by decide +kernel
theorem dX6_isTold_46 : decode cX6_isTold 46 = .ok (.iaload, 1) := by decide +kernel
theorem dX6_isTold_47 : decode cX6_isTold 47 = .ok (.iload_n 2, 1) := by decide +kernel
theorem dX6_isTold_48 : decode cX6_isTold 48 = .ok (.if_icmp .ne 18, 3) := by decide +kernel
theorem dX6_isTold_51 : decode cX6_isTold 51 = .ok (.aload_n 0, 1) := by decide +kernel
theorem dX6_isTold_52 : decode cX6_isTold 52 = .ok (.getfield 35, 3) := by decide +kernel
theorem dX6_isTold_55 : decode cX6_isTold 55 = .ok (.iload 4, 2) := by decide +kernel
theorem dX6_isTold_57 : decode cX6_isTold 57 = .ok (.iaload, 1) := by decide +kernel
theorem dX6_isTold_58 : decode cX6_isTold 58 = .ok (.iload_n 1, 1) := by decide +kernel
theorem dX6_isTold_59 : decode cX6_isTold 59 = .ok (.if_icmp .ne 7, 3) := by decide +kernel
theorem dX6_isTold_62 : decode cX6_isTold 62 = .ok (.iconst 1, 1) := by decide +kernel
theorem dX6_isTold_63 : decode cX6_isTold 63 = .ok (.goto 4, 3) := by decide +kernel
theorem dX6_isTold_66 : decode cX6_isTold 66 = .ok (.iconst 0, 1) := by decide +kernel
theorem dX6_isTold_67 : decode cX6_isTold 67 = .ok (.istore_n 3, 1) := by decide +kernel
theorem dX6_isTold_68 : decode cX6_isTold 68 = .ok (.iinc 4 1, 3) := by decide +kernel
theorem dX6_isTold_71 : decode cX6_isTold 71 = .ok (.goto (-66), 3) := by decide +kernel
theorem dX6_isTold_74 : decode cX6_isTold 74 = .ok (.iload_n 3, 1) := by decide +kernel
theorem dX6_isTold_75 : decode cX6_isTold 75 = .ok (.ireturn, 1) := by decide +kernel
set_option maxRecDepth 20000 in
theorem ggX6_takesNode_X6_within : GoodIn wsX6_takesNode wsX6_within := goodIn_r _ [10] (by decide +kernel) (by decide +kernel)
set_option maxRecDepth 20000 in
theorem gX6_takesNode_X6_within : GoodIn wsX6_takesNode (va_wsS RX6 48 yX6_within wsX6_within) := goodIn_app (goodIn_of _ (by decide +kernel)) ggX6_takesNode_X6_within
set_option maxRecDepth 20000 in
theorem ggX6_takesNode_X6_isTold : GoodIn wsX6_takesNode wsX6_isTold := goodIn_r _ [14, 5, 4, 6, 15, 16, 17, 18, 19, 20, 21, 22, 23, 24, 25, 26, 27, 28, 29, 30, 31, 32, 33, 34, 35, 36, 37, 38, 39, 40, 41, 42, 43, 44, 45, 46, 47, 48] (by decide +kernel) (by decide +kernel)
set_option maxRecDepth 20000 in
theorem gX6_takesNode_X6_isTold : GoodIn wsX6_takesNode (wsV RX6 67 RX6 yX6_isTold wsX6_isTold) := goodIn_app (goodIn_of _ (by decide +kernel)) ggX6_takesNode_X6_isTold
theorem dX6_takesNode_0 : decode cX6_takesNode 0 = .ok (.iload_n 1, 1) := by decide +kernel
theorem dX6_takesNode_1 : decode cX6_takesNode 1 = .ok (.iconst 0, 1) := by decide +kernel
theorem dX6_takesNode_2 : decode cX6_takesNode 2 = .ok (.aload_n 0, 1) := by decide +kernel
theorem dX6_takesNode_3 : decode cX6_takesNode 3 = .ok (.getfield 58, 3) := by decide +kernel
theorem dX6_takesNode_6 : decode cX6_takesNode 6 = .ok (.iconst 1, 1) := by decide +kernel
theorem dX6_takesNode_7 : decode cX6_takesNode 7 = .ok (.isub, 1) := by decide +kernel
theorem dX6_takesNode_8 : decode cX6_takesNode 8 = .ok (.invokestatic 48, 3) := by decide +kernel
theorem dX6_takesNode_11 : decode cX6_takesNode 11 = .ok (.istore_n 2, 1) := by decide +kernel
theorem dX6_takesNode_12 : decode cX6_takesNode 12 = .ok (.aload_n 0, 1) := by decide +kernel
theorem dX6_takesNode_13 : decode cX6_takesNode 13 = .ok (.getfield 61, 3) := by decide +kernel
theorem dX6_takesNode_16 : decode cX6_takesNode 16 = .ok (.iconst 1, 1) := by decide +kernel
theorem dX6_takesNode_17 : decode cX6_takesNode 17 = .ok (.if_icmp .ne 15, 3) := by decide +kernel
theorem dX6_takesNode_20 : decode cX6_takesNode 20 = .ok (.aload_n 0, 1) := by decide +kernel
theorem dX6_takesNode_21 : decode cX6_takesNode 21 = .ok (.iload_n 1, 1) := by decide +kernel
theorem dX6_takesNode_22 : decode cX6_takesNode 22 = .ok (.putfield 64, 3) := by decide +kernel
theorem dX6_takesNode_25 : decode cX6_takesNode 25 = .ok (.aload_n 0, 1) := by decide +kernel
theorem dX6_takesNode_26 : decode cX6_takesNode 26 = .ok (.iconst 2, 1) := by decide +kernel
theorem dX6_takesNode_27 : decode cX6_takesNode 27 = .ok (.putfield 61, 3) := by decide +kernel
theorem dX6_takesNode_30 : decode cX6_takesNode 30 = .ok (.iload_n 2, 1) := by decide +kernel
theorem dX6_takesNode_31 : decode cX6_takesNode 31 = .ok (.ireturn, 1) := by decide +kernel
theorem dX6_takesNode_32 : decode cX6_takesNode 32 = .ok (.iload_n 2, 1) := by decide +kernel
theorem dX6_takesNode_33 : decode cX6_takesNode 33 = .ok (.ifCond .eq 27, 3) := by decide +kernel
theorem dX6_takesNode_36 : decode cX6_takesNode 36 = .ok (.iload_n 1, 1) := by decide +kernel
theorem dX6_takesNode_37 : decode cX6_takesNode 37 = .ok (.aload_n 0, 1) := by decide +kernel
theorem dX6_takesNode_38 : decode cX6_takesNode 38 = .ok (.getfield 64, 3) := by decide +kernel
theorem dX6_takesNode_41 : decode cX6_takesNode 41 = .ok (.if_icmp .eq 19, 3) := by decide +kernel
theorem dX6_takesNode_44 : decode cX6_takesNode 44 = .ok (.aload_n 0, 1) := by decide +kernel
theorem dX6_takesNode_45 : decode cX6_takesNode 45 = .ok (.aload_n 0, 1) := by decide +kernel
theorem dX6_takesNode_46 : decode cX6_takesNode 46 = .ok (.getfield 64, 3) := by decide +kernel
theorem dX6_takesNode_49 : decode cX6_takesNode 49 = .ok (.iload_n 1, 1) := by decide +kernel
theorem dX6_takesNode_50 : decode cX6_takesNode 50 = .ok (.invokevirtual 67, 3) := by decide +kernel
theorem dX6_takesNode_53 : decode cX6_takesNode 53 = .ok (.ifCond .ne 7, 3) := by decide +kernel
theorem dX6_takesNode_56 : decode cX6_takesNode 56 = .ok (.iconst 1, 1) := by decide +kernel
theorem dX6_takesNode_57 : decode cX6_takesNode 57 = .ok (.goto 4, 3) := by decide +kernel
theorem dX6_takesNode_60 : decode cX6_takesNode 60 = .ok (.iconst 0, 1) := by decide +kernel
theorem dX6_takesNode_61 : decode cX6_takesNode 61 = .ok (.istore_n 2, 1) := by decide +kernel
theorem dX6_takesNode_62 : decode cX6_takesNode 62 = .ok (.iload_n 2, 1) := by decide +kernel
theorem dX6_takesNode_63 : decode cX6_takesNode 63 = .ok (.ifCond .eq 41, 3) := by decide +kernel
theorem dX6_takesNode_66 : decode cX6_takesNode 66 = .ok (.aload_n 0, 1) := by decide +kernel
theorem dX6_takesNode_67 : decode cX6_takesNode 67 = .ok (.getfield 32, 3) := by decide +kernel
theorem dX6_takesNode_70 : decode cX6_takesNode 70 = .ok (.aload_n 0, 1) := by decide +kernel
theorem dX6_takesNode_71 : decode cX6_takesNode 71 = .ok (.getfield 55, 3) := by decide +kernel
theorem dX6_takesNode_74 : decode cX6_takesNode 74 = .ok (.aload_n 0, 1) := by decide +kernel
theorem dX6_takesNode_75 : decode cX6_takesNode 75 = .ok (.getfield 64, 3) := by decide +kernel
theorem dX6_takesNode_78 : decode cX6_takesNode 78 = .ok (.iastore, 1) := by decide +kernel
theorem dX6_takesNode_79 : decode cX6_takesNode 79 = .ok (.aload_n 0, 1) := by decide +kernel
theorem dX6_takesNode_80 : decode cX6_takesNode 80 = .ok (.getfield 35, 3) := by decide +kernel
theorem dX6_takesNode_83 : decode cX6_takesNode 83 = .ok (.aload_n 0, 1) := by decide +kernel
theorem dX6_takesNode_84 : decode cX6_takesNode 84 = .ok (.getfield 55, 3) := by decide +kernel
theorem dX6_takesNode_87 : decode cX6_takesNode 87 = .ok (.iload_n 1, 1) := by decide +kernel
theorem dX6_takesNode_88 : decode cX6_takesNode 88 = .ok (.iastore, 1) := by decide +kernel
theorem dX6_takesNode_89 : decode cX6_takesNode 89 = .ok (.aload_n 0, 1) := by decide +kernel
theorem dX6_takesNode_90 : decode cX6_takesNode 90 = .ok (.dup, 1) := by decide +kernel
theorem dX6_takesNode_91 : decode cX6_takesNode 91 = .ok (.getfield 55, 3) := by decide +kernel
theorem dX6_takesNode_94 : decode cX6_takesNode 94 = .ok (.iconst 1, 1) := by decide +kernel
theorem dX6_takesNode_95 : decode cX6_takesNode 95 = .ok (.iadd, 1) := by decide +kernel
theorem dX6_takesNode_96 : decode cX6_takesNode 96 = .ok (.putfield 55, 3) := by decide +kernel
theorem dX6_takesNode_99 : decode cX6_takesNode 99 = .ok (.aload_n 0, 1) := by decide +kernel
theorem dX6_takesNode_100 : decode cX6_takesNode 100 = .ok (.iconst 0, 1) := by decide +kernel
theorem dX6_takesNode_101 : decode cX6_takesNode 101 = .ok (.putfield 61, 3) := by decide +kernel
theorem dX6_takesNode_104 : decode cX6_takesNode 104 = .ok (.iload_n 2, 1) := by decide +kernel
theorem dX6_takesNode_105 : decode cX6_takesNode 105 = .ok (.ireturn, 1) := by decide +kernel
set_option maxRecDepth 20000 in
theorem ggX6_takes_X6_within : GoodIn wsX6_takes wsX6_within := goodIn_r _ [7] (by decide +kernel) (by decide +kernel)
set_option maxRecDepth 20000 in
theorem gX6_takes_X6_within : GoodIn wsX6_takes (va_wsS RX6 48 yX6_within wsX6_within) := goodIn_app (goodIn_of _ (by decide +kernel)) ggX6_takes_X6_within
set_option maxRecDepth 20000 in
theorem ggX6_takes_X6_takesNode : GoodIn wsX6_takes wsX6_takesNode := goodIn_r _ [11, 1, 2, 12, 13, 3, 14, 4, 5, 6, 7, 15, 16, 17, 18, 19, 20, 21, 22, 23, 24, 25, 26, 27, 28, 29, 30, 31, 32, 33, 34, 35, 36, 37, 38, 39, 40, 41, 42, 43, 44, 45, 46, 47, 48, 49, 50, 51, 52] (by decide +kernel) (by decide +kernel)
set_option maxRecDepth 20000 in
theorem gX6_takes_X6_takesNode : GoodIn wsX6_takes (wsV RX6 71 RX6 yX6_takesNode wsX6_takesNode) := goodIn_app (goodIn_of _ (by decide +kernel)) ggX6_takes_X6_takesNode
theorem dX6_takes_0 : decode cX6_takes 0 = .ok (.aload_n 0, 1) := by decide +kernel
theorem dX6_takes_1 : decode cX6_takes 1 = .ok (.getfield 58, 3) := by decide +kernel
theorem dX6_takes_4 : decode cX6_takes 4 = .ok (.ifCond .ne 39, 3) := by decide +kernel
theorem dX6_takes_7 : decode cX6_takes 7 = .ok (.aload_n 0, 1) := by decide +kernel
theorem dX6_takes_8 : decode cX6_takes 8 = .ok (.iload_n 1, 1) := by decide +kernel
theorem dX6_takes_9 : decode cX6_takes 9 = .ok (.bipush 50, 2) := by decide +kernel
theorem dX6_takes_11 : decode cX6_takes 11 = .ok (.bipush 54, 2) := by decide +kernel
theorem dX6_takes_13 : decode cX6_takes 13 = .ok (.invokestatic 48, 3) := by decide +kernel
theorem dX6_takes_16 : decode cX6_takes 16 = .ok (.ifCond .eq 10, 3) := by decide +kernel
theorem dX6_takes_19 : decode cX6_takes 19 = .ok (.iload_n 1, 1) := by decide +kernel
theorem dX6_takes_20 : decode cX6_takes 20 = .ok (.bipush 48, 2) := by decide +kernel
theorem dX6_takes_22 : decode cX6_takes 22 = .ok (.isub, 1) := by decide +kernel
theorem dX6_takes_23 : decode cX6_takes 23 = .ok (.goto 4, 3) := by decide +kernel
theorem dX6_takes_26 : decode cX6_takes 26 = .ok (.iconst 0, 1) := by decide +kernel
theorem dX6_takes_27 : decode cX6_takes 27 = .ok (.putfield 58, 3) := by decide +kernel
theorem dX6_takes_30 : decode cX6_takes 30 = .ok (.aload_n 0, 1) := by decide +kernel
theorem dX6_takes_31 : decode cX6_takes 31 = .ok (.getfield 58, 3) := by decide +kernel
theorem dX6_takes_34 : decode cX6_takes 34 = .ok (.ifCond .le 7, 3) := by decide +kernel
theorem dX6_takes_37 : decode cX6_takes 37 = .ok (.iconst 1, 1) := by decide +kernel
theorem dX6_takes_38 : decode cX6_takes 38 = .ok (.goto 4, 3) := by decide +kernel
theorem dX6_takes_41 : decode cX6_takes 41 = .ok (.iconst 0, 1) := by decide +kernel
theorem dX6_takes_42 : decode cX6_takes 42 = .ok (.ireturn, 1) := by decide +kernel
theorem dX6_takes_43 : decode cX6_takes 43 = .ok (.aload_n 0, 1) := by decide +kernel
theorem dX6_takes_44 : decode cX6_takes 44 = .ok (.getfield 61, 3) := by decide +kernel
theorem dX6_takes_47 : decode cX6_takes 47 = .ok (.ifCond .ne 39, 3) := by decide +kernel
theorem dX6_takes_50 : decode cX6_takes 50 = .ok (.iload_n 1, 1) := by decide +kernel
theorem dX6_takes_51 : decode cX6_takes 51 = .ok (.bipush 44, 2) := by decide +kernel
theorem dX6_takes_53 : decode cX6_takes 53 = .ok (.if_icmp .ne 16, 3) := by decide +kernel
theorem dX6_takes_56 : decode cX6_takes 56 = .ok (.aload_n 0, 1) := by decide +kernel
theorem dX6_takes_57 : decode cX6_takes 57 = .ok (.getfield 55, 3) := by decide +kernel
theorem dX6_takes_60 : decode cX6_takes 60 = .ok (.bipush 8, 2) := by decide +kernel
theorem dX6_takes_62 : decode cX6_takes 62 = .ok (.if_icmp .ge 7, 3) := by decide +kernel
theorem dX6_takes_65 : decode cX6_takes 65 = .ok (.iconst 1, 1) := by decide +kernel
theorem dX6_takes_66 : decode cX6_takes 66 = .ok (.goto 4, 3) := by decide +kernel
theorem dX6_takes_69 : decode cX6_takes 69 = .ok (.iconst 0, 1) := by decide +kernel
theorem dX6_takes_70 : decode cX6_takes 70 = .ok (.istore_n 2, 1) := by decide +kernel
theorem dX6_takes_71 : decode cX6_takes 71 = .ok (.aload_n 0, 1) := by decide +kernel
theorem dX6_takes_72 : decode cX6_takes 72 = .ok (.iload_n 2, 1) := by decide +kernel
theorem dX6_takes_73 : decode cX6_takes 73 = .ok (.ifCond .eq 7, 3) := by decide +kernel
theorem dX6_takes_76 : decode cX6_takes 76 = .ok (.iconst 1, 1) := by decide +kernel
theorem dX6_takes_77 : decode cX6_takes 77 = .ok (.goto 4, 3) := by decide +kernel
theorem dX6_takes_80 : decode cX6_takes 80 = .ok (.iconst 0, 1) := by decide +kernel
theorem dX6_takes_81 : decode cX6_takes 81 = .ok (.putfield 61, 3) := by decide +kernel
theorem dX6_takes_84 : decode cX6_takes 84 = .ok (.iload_n 2, 1) := by decide +kernel
theorem dX6_takes_85 : decode cX6_takes 85 = .ok (.ireturn, 1) := by decide +kernel
theorem dX6_takes_86 : decode cX6_takes 86 = .ok (.aload_n 0, 1) := by decide +kernel
theorem dX6_takes_87 : decode cX6_takes 87 = .ok (.iload_n 1, 1) := by decide +kernel
theorem dX6_takes_88 : decode cX6_takes 88 = .ok (.bipush 48, 2) := by decide +kernel
theorem dX6_takes_90 : decode cX6_takes 90 = .ok (.isub, 1) := by decide +kernel
theorem dX6_takes_91 : decode cX6_takes 91 = .ok (.invokevirtual 71, 3) := by decide +kernel
theorem dX6_takes_94 : decode cX6_takes 94 = .ok (.ireturn, 1) := by decide +kernel
set_option maxRecDepth 20000 in
theorem ggX6_goAlong_X6_takes : GoodIn wsX6_goAlong wsX6_takes := goodIn_r _ [10, 1, 3, 2, 11, 12, 9, 13, 14, 15, 16, 17, 18, 19, 20, 21, 22, 23, 24, 25, 26, 27, 28, 29, 30, 31, 32, 33, 34, 35, 36, 37, 38, 39, 40, 41, 42, 43, 44, 45, 46, 47, 48, 49, 50, 51, 52, 53, 54, 55, 56, 57, 58] (by decide +kernel) (by decide +kernel)
set_option maxRecDepth 20000 in
theorem gX6_goAlong_X6_takes : GoodIn wsX6_goAlong (wsV RX6 75 RX6 yX6_takes wsX6_takes) := goodIn_app (goodIn_of _ (by decide +kernel)) ggX6_goAlong_X6_takes
theorem dX6_goAlong_0 : decode cX6_goAlong 0 = .ok (.aload_n 0, 1) := by decide +kernel
theorem dX6_goAlong_1 : decode cX6_goAlong 1 = .ok (.iconst 0, 1) := by decide +kernel
theorem dX6_goAlong_2 : decode cX6_goAlong 2 = .ok (.putfield 58, 3) := by decide +kernel
theorem dX6_goAlong_5 : decode cX6_goAlong 5 = .ok (.aload_n 0, 1) := by decide +kernel
theorem dX6_goAlong_6 : decode cX6_goAlong 6 = .ok (.iconst 0, 1) := by decide +kernel
theorem dX6_goAlong_7 : decode cX6_goAlong 7 = .ok (.putfield 55, 3) := by decide +kernel
theorem dX6_goAlong_10 : decode cX6_goAlong 10 = .ok (.aload_n 0, 1) := by decide +kernel
theorem dX6_goAlong_11 : decode cX6_goAlong 11 = .ok (.iconst 0, 1) := by decide +kernel
theorem dX6_goAlong_12 : decode cX6_goAlong 12 = .ok (.putfield 61, 3) := by decide +kernel
theorem dX6_goAlong_15 : decode cX6_goAlong 15 = .ok (.iconst 0, 1) := by decide +kernel
theorem dX6_goAlong_16 : decode cX6_goAlong 16 = .ok (.istore_n 1, 1) := by decide +kernel
theorem dX6_goAlong_17 : decode cX6_goAlong 17 = .ok (.iload_n 1, 1) := by decide +kernel
theorem dX6_goAlong_18 : decode cX6_goAlong 18 = .ok (.aload_n 0, 1) := by decide +kernel
theorem dX6_goAlong_19 : decode cX6_goAlong 19 = .ok (.getfield 52, 3) := by decide +kernel
theorem dX6_goAlong_22 : decode cX6_goAlong 22 = .ok (.if_icmp .ge 22, 3) := by decide +kernel
theorem dX6_goAlong_25 : decode cX6_goAlong 25 = .ok (.aload_n 0, 1) := by decide +kernel
theorem dX6_goAlong_26 : decode cX6_goAlong 26 = .ok (.aload_n 0, 1) := by decide +kernel
theorem dX6_goAlong_27 : decode cX6_goAlong 27 = .ok (.getfield 7, 3) := by decide +kernel
theorem dX6_goAlong_30 : decode cX6_goAlong 30 = .ok (.iload_n 1, 1) := by decide +kernel
theorem dX6_goAlong_31 : decode cX6_goAlong 31 = .ok (.iaload, 1) := by decide +kernel
theorem dX6_goAlong_32 : decode cX6_goAlong 32 = .ok (.invokevirtual 75, 3) := by decide +kernel
theorem dX6_goAlong_35 : decode cX6_goAlong 35 = .ok (.ifCond .eq 9, 3) := by decide +kernel
theorem dX6_goAlong_38 : decode cX6_goAlong 38 = .ok (.iinc 1 1, 3) := by decide +kernel
theorem dX6_goAlong_41 : decode cX6_goAlong 41 = .ok (.goto (-24), 3) := by decide +kernel
theorem dX6_goAlong_44 : decode cX6_goAlong 44 = .ok (.iload_n 1, 1) := by decide +kernel
theorem dX6_goAlong_45 : decode cX6_goAlong 45 = .ok (.ireturn, 1) := by decide +kernel
set_option maxRecDepth 20000 in
theorem ggX6_fault_X6_goAlong : GoodIn wsX6_fault wsX6_goAlong := goodIn_r _ [5, 6, 7, 8, 9, 10, 11, 12, 13, 4, 14, 15, 16, 17, 18, 19, 20, 21, 22, 23, 24, 25, 26, 27, 28, 29, 30, 31, 32, 33, 34, 35, 36, 37, 38, 39, 40, 41, 42, 43, 44, 45, 46, 47, 48, 49, 50, 51, 52, 53, 54, 55, 56, 57, 58, 59, 60, 61, 62] (by decide +kernel) (by decide +kernel)
set_option maxRecDepth 20000 in
theorem gX6_fault_X6_goAlong : GoodIn wsX6_fault (wsV RX6 78 RX6 yX6_goAlong wsX6_goAlong) := goodIn_app (goodIn_of _ (by decide +kernel)) ggX6_fault_X6_goAlong
theorem dX6_fault_0 : decode cX6_fault 0 = .ok (.aload_n 0, 1) := by decide +kernel
theorem dX6_fault_1 : decode cX6_fault 1 = .ok (.invokevirtual 78, 3) := by decide +kernel
theorem dX6_fault_4 : decode cX6_fault 4 = .ok (.ireturn, 1) := by decide +kernel
set_option maxRecDepth 20000 in
theorem ggX6_net_X6_goAlong : GoodIn wsX6_net wsX6_goAlong := goodIn_r _ [17, 4, 2, 3, 1, 18, 19, 20, 21, 16, 22, 23, 24, 25, 26, 27, 28, 29, 30, 8, 10, 31, 32, 33, 34, 52, 53, 54, 55, 56, 57, 58, 59, 60, 61, 62, 63, 64, 65, 66, 67, 68, 69, 70, 71, 72, 73, 74, 75, 76, 77, 78, 79, 80, 81, 82, 83, 84, 85] (by decide +kernel) (by decide +kernel)
set_option maxRecDepth 20000 in
theorem gX6_net_X6_goAlong : GoodIn wsX6_net (wsV RX6 78 RX6 yX6_goAlong wsX6_goAlong) := goodIn_app (goodIn_of _ (by decide +kernel)) ggX6_net_X6_goAlong
set_option maxRecDepth 20000 in
theorem ggX6_net_X6_layMarks : GoodIn wsX6_net wsX6_layMarks := goodIn_r _ [38, 39, 40, 41, 6, 42, 43, 44, 45, 46, 16, 47, 48, 49, 50, 51, 52, 53, 54, 55, 56, 57, 58, 59, 60, 61, 62, 63, 64, 65, 66, 67, 68, 69, 70, 71, 72, 73, 74, 75, 76, 77, 78, 79, 80, 81, 82, 83, 84, 85] (by decide +kernel) (by decide +kernel)
set_option maxRecDepth 20000 in
theorem gX6_net_X6_layMarks : GoodIn wsX6_net (wsV RX6 91 RX6 yX6_layMarks wsX6_layMarks) := goodIn_app (goodIn_of _ (by decide +kernel)) ggX6_net_X6_layMarks
theorem dX6_net_0 : decode cX6_net 0 = .ok (.aload_n 0, 1) := by decide +kernel
theorem dX6_net_1 : decode cX6_net 1 = .ok (.invokevirtual 78, 3) := by decide +kernel
theorem dX6_net_4 : decode cX6_net 4 = .ok (.aload_n 0, 1) := by decide +kernel
theorem dX6_net_5 : decode cX6_net 5 = .ok (.getfield 52, 3) := by decide +kernel
theorem dX6_net_8 : decode cX6_net 8 = .ok (.if_icmp .lt 17, 3) := by decide +kernel
theorem dX6_net_11 : decode cX6_net 11 = .ok (.aload_n 0, 1) := by decide +kernel
theorem dX6_net_12 : decode cX6_net 12 = .ok (.getfield 55, 3) := by decide +kernel
theorem dX6_net_15 : decode cX6_net 15 = .ok (.ifCond .eq 10, 3) := by decide +kernel
theorem dX6_net_18 : decode cX6_net 18 = .ok (.aload_n 0, 1) := by decide +kernel
theorem dX6_net_19 : decode cX6_net 19 = .ok (.getfield 61, 3) := by decide +kernel
theorem dX6_net_22 : decode cX6_net 22 = .ok (.ifCond .eq 7, 3) := by decide +kernel
theorem dX6_net_25 : decode cX6_net 25 = .ok (.sipush (-1003), 3) := by decide +kernel
theorem dX6_net_28 : decode cX6_net 28 = .ok (.ireturn, 1) := by decide +kernel
theorem dX6_net_29 : decode cX6_net 29 = .ok (.aload_n 0, 1) := by decide +kernel
theorem dX6_net_30 : decode cX6_net 30 = .ok (.aload_n 0, 1) := by decide +kernel
theorem dX6_net_31 : decode cX6_net 31 = .ok (.getfield 58, 3) := by decide +kernel
theorem dX6_net_34 : decode cX6_net 34 = .ok (.putfield 82, 3) := by decide +kernel
theorem dX6_net_37 : decode cX6_net 37 = .ok (.aload_n 0, 1) := by decide +kernel
theorem dX6_net_38 : decode cX6_net 38 = .ok (.iconst 2, 1) := by decide +kernel
theorem dX6_net_39 : decode cX6_net 39 = .ok (.aload_n 0, 1) := by decide +kernel
theorem dX6_net_40 : decode cX6_net 40 = .ok (.getfield 55, 3) := by decide +kernel
theorem dX6_net_43 : decode cX6_net 43 = .ok (.imul, 1) := by decide +kernel
theorem dX6_net_44 : decode cX6_net 44 = .ok (.putfield 85, 3) := by decide +kernel
theorem dX6_net_47 : decode cX6_net 47 = .ok (.iconst 0, 1) := by decide +kernel
theorem dX6_net_48 : decode cX6_net 48 = .ok (.istore_n 1, 1) := by decide +kernel
theorem dX6_net_49 : decode cX6_net 49 = .ok (.iload_n 1, 1) := by decide +kernel
theorem dX6_net_50 : decode cX6_net 50 = .ok (.aload_n 0, 1) := by decide +kernel
theorem dX6_net_51 : decode cX6_net 51 = .ok (.getfield 55, 3) := by decide +kernel
theorem dX6_net_54 : decode cX6_net 54 = .ok (.if_icmp .ge 69, 3) := by decide +kernel
theorem dX6_net_57 : decode cX6_net 57 = .ok (.aload_n 0, 1) := by decide +kernel
theorem dX6_net_58 : decode cX6_net 58 = .ok (.getfield 13, 3) := by decide +kernel
theorem dX6_net_61 : decode cX6_net 61 = .ok (.iconst 2, 1) := by decide +kernel
theorem dX6_net_62 : decode cX6_net 62 = .ok (.iload_n 1, 1) := by decide +kernel
theorem dX6_net_63 : decode cX6_net 63 = .ok (.imul, 1) := by decide +kernel
theorem dX6_net_64 : decode cX6_net 64 = .ok (.aload_n 0, 1) := by decide +kernel
theorem dX6_net_65 : decode cX6_net 65 = .ok (.getfield 32, 3) := by decide +kernel
theorem dX6_net_68 : decode cX6_net 68 = .ok (.iload_n 1, 1) := by decide +kernel
theorem dX6_net_69 : decode cX6_net 69 = .ok (.iaload, 1) := by decide +kernel
theorem dX6_net_70 : decode cX6_net 70 = .ok (.iastore, 1) := by decide +kernel
theorem dX6_net_71 : decode cX6_net 71 = .ok (.aload_n 0, 1) := by decide +kernel
theorem dX6_net_72 : decode cX6_net 72 = .ok (.getfield 16, 3) := by decide +kernel
theorem dX6_net_75 : decode cX6_net 75 = .ok (.iconst 2, 1) := by decide +kernel
theorem dX6_net_76 : decode cX6_net 76 = .ok (.iload_n 1, 1) := by decide +kernel
theorem dX6_net_77 : decode cX6_net 77 = .ok (.imul, 1) := by decide +kernel
theorem dX6_net_78 : decode cX6_net 78 = .ok (.aload_n 0, 1) := by decide +kernel
theorem dX6_net_79 : decode cX6_net 79 = .ok (.getfield 35, 3) := by decide +kernel
theorem dX6_net_82 : decode cX6_net 82 = .ok (.iload_n 1, 1) := by decide +kernel
theorem dX6_net_83 : decode cX6_net 83 = .ok (.iaload, 1) := by decide +kernel
theorem dX6_net_84 : decode cX6_net 84 = .ok (.iastore, 1) := by decide +kernel
theorem dX6_net_85 : decode cX6_net 85 = .ok (.aload_n 0, 1) := by decide +kernel
theorem dX6_net_86 : decode cX6_net 86 = .ok (.getfield 13, 3) := by decide +kernel
theorem dX6_net_89 : decode cX6_net 89 = .ok (.iconst 2, 1) := by decide +kernel
theorem dX6_net_90 : decode cX6_net 90 = .ok (.iload_n 1, 1) := by decide +kernel
theorem dX6_net_91 : decode cX6_net 91 = .ok (.imul, 1) := by decide +kernel
theorem dX6_net_92 : decode cX6_net 92 = .ok (.iconst 1, 1) := by decide +kernel
theorem dX6_net_93 : decode cX6_net 93 = .ok (.iadd, 1) := by decide +kernel
theorem dX6_net_94 : decode cX6_net 94 = .ok (.aload_n 0, 1) := by decide +kernel
theorem dX6_net_95 : decode cX6_net 95 = .ok (.getfield 35, 3) := by decide +kernel
theorem dX6_net_98 : decode cX6_net 98 = .ok (.iload_n 1, 1) := by decide +kernel
theorem dX6_net_99 : decode cX6_net 99 = .ok (.iaload, 1) := by decide +kernel
theorem dX6_net_100 : decode cX6_net 100 = .ok (.iastore, 1) := by decide +kernel
theorem dX6_net_101 : decode cX6_net 101 = .ok (.aload_n 0, 1) := by decide +kernel
theorem dX6_net_102 : decode cX6_net 102 = .ok (.getfield 16, 3) := by decide +kernel
theorem dX6_net_105 : decode cX6_net 105 = .ok (.iconst 2, 1) := by decide +kernel
theorem dX6_net_106 : decode cX6_net 106 = .ok (.iload_n 1, 1) := by decide +kernel
theorem dX6_net_107 : decode cX6_net 107 = .ok (.imul, 1) := by decide +kernel
theorem dX6_net_108 : decode cX6_net 108 = .ok (.iconst 1, 1) := by decide +kernel
theorem dX6_net_109 : decode cX6_net 109 = .ok (.iadd, 1) := by decide +kernel
theorem dX6_net_110 : decode cX6_net 110 = .ok (.aload_n 0, 1) := by decide +kernel
theorem dX6_net_111 : decode cX6_net 111 = .ok (.getfield 32, 3) := by decide +kernel
theorem dX6_net_114 : decode cX6_net 114 = .ok (.iload_n 1, 1) := by decide +kernel
theorem dX6_net_115 : decode cX6_net 115 = .ok (.iaload, 1) := by decide +kernel
theorem dX6_net_116 : decode cX6_net 116 = .ok (.iastore, 1) := by decide +kernel
theorem dX6_net_117 : decode cX6_net 117 = .ok (.iinc 1 1, 3) := by decide +kernel
theorem dX6_net_120 : decode cX6_net 120 = .ok (.goto (-71), 3) := by decide +kernel
theorem dX6_net_123 : decode cX6_net 123 = .ok (.iconst 0, 1) := by decide +kernel
theorem dX6_net_124 : decode cX6_net 124 = .ok (.istore_n 1, 1) := by decide +kernel
theorem dX6_net_125 : decode cX6_net 125 = .ok (.iload_n 1, 1) := by decide +kernel
theorem dX6_net_126 : decode cX6_net 126 = .ok (.iconst 4, 1) := by decide +kernel
theorem dX6_net_127 : decode cX6_net 127 = .ok (.if_icmp .ge 16, 3) := by decide +kernel
theorem dX6_net_130 : decode cX6_net 130 = .ok (.aload_n 0, 1) := by decide +kernel
theorem dX6_net_131 : decode cX6_net 131 = .ok (.getfield 29, 3) := by decide +kernel
theorem dX6_net_134 : decode cX6_net 134 = .ok (.iload_n 1, 1) := by decide +kernel
theorem dX6_net_135 : decode cX6_net 135 = .ok (.iconst 0, 1) := by decide +kernel
theorem dX6_net_136 : decode cX6_net 136 = .ok (.iastore, 1) := by decide +kernel
theorem dX6_net_137 : decode cX6_net 137 = .ok (.iinc 1 1, 3) := by decide +kernel
theorem dX6_net_140 : decode cX6_net 140 = .ok (.goto (-15), 3) := by decide +kernel
theorem dX6_net_143 : decode cX6_net 143 = .ok (.aload_n 0, 1) := by decide +kernel
theorem dX6_net_144 : decode cX6_net 144 = .ok (.dup, 1) := by decide +kernel
theorem dX6_net_145 : decode cX6_net 145 = .ok (.getfield 88, 3) := by decide +kernel
theorem dX6_net_148 : decode cX6_net 148 = .ok (.iconst 1, 1) := by decide +kernel
theorem dX6_net_149 : decode cX6_net 149 = .ok (.iadd, 1) := by decide +kernel
theorem dX6_net_150 : decode cX6_net 150 = .ok (.putfield 88, 3) := by decide +kernel
theorem dX6_net_153 : decode cX6_net 153 = .ok (.aload_n 0, 1) := by decide +kernel
theorem dX6_net_154 : decode cX6_net 154 = .ok (.iconst 0, 1) := by decide +kernel
theorem dX6_net_155 : decode cX6_net 155 = .ok (.putfield 52, 3) := by decide +kernel
theorem dX6_net_158 : decode cX6_net 158 = .ok (.aload_n 0, 1) := by decide +kernel
theorem dX6_net_159 : decode cX6_net 159 = .ok (.invokevirtual 91, 3) := by decide +kernel
theorem dX6_net_162 : decode cX6_net 162 = .ok (.aload_n 0, 1) := by decide +kernel
theorem dX6_net_163 : decode cX6_net 163 = .ok (.getfield 85, 3) := by decide +kernel
theorem dX6_net_166 : decode cX6_net 166 = .ok (.ireturn, 1) := by decide +kernel
theorem dX6_draw_0 : decode cX6_draw 0 = .ok (.aload_n 0, 1) := by decide +kernel
theorem dX6_draw_1 : decode cX6_draw 1 = .ok (.ldc2_w 94, 3) := by decide +kernel
theorem dX6_draw_4 : decode cX6_draw 4 = .ok (.aload_n 0, 1) := by decide +kernel
theorem dX6_draw_5 : decode cX6_draw 5 = .ok (.getfield 96, 3) := by decide +kernel
theorem dX6_draw_8 : decode cX6_draw 8 = .ok (.lmul, 1) := by decide +kernel
theorem dX6_draw_9 : decode cX6_draw 9 = .ok (.ldc2_w 100, 3) := by decide +kernel
theorem dX6_draw_12 : decode cX6_draw 12 = .ok (.ladd, 1) := by decide +kernel
theorem dX6_draw_13 : decode cX6_draw 13 = .ok (.ldc2_w 102, 3) := by decide +kernel
theorem dX6_draw_16 : decode cX6_draw 16 = .ok (.lrem, 1) := by decide +kernel
theorem dX6_draw_17 : decode cX6_draw 17 = .ok (.putfield 96, 3) := by decide +kernel
theorem dX6_draw_20 : decode cX6_draw 20 = .ok (.aload_n 0, 1) := by decide +kernel
theorem dX6_draw_21 : decode cX6_draw 21 = .ok (.getfield 96, 3) := by decide +kernel
theorem dX6_draw_24 : decode cX6_draw 24 = .ok (.ldc2_w 104, 3) := by decide +kernel
theorem dX6_draw_27 : decode cX6_draw 27 = .ok (.ldiv, 1) := by decide +kernel
theorem dX6_draw_28 : decode cX6_draw 28 = .ok (.iload_n 1, 1) := by decide +kernel
theorem dX6_draw_29 : decode cX6_draw 29 = .ok (.i2l, 1) := by decide +kernel
theorem dX6_draw_30 : decode cX6_draw 30 = .ok (.lrem, 1) := by decide +kernel
theorem dX6_draw_31 : decode cX6_draw 31 = .ok (.l2i, 1) := by decide +kernel
theorem dX6_draw_32 : decode cX6_draw 32 = .ok (.ireturn, 1) := by decide +kernel
set_option maxRecDepth 20000 in
theorem ggX6_layMarks_X6_draw : GoodIn wsX6_layMarks wsX6_draw := goodIn_r _ [11, 12, 2, 13, 14, 15, 16, 17, 18, 19, 20, 21, 22, 23, 24, 25, 26, 27, 28, 29, 30, 31, 32, 33, 34, 35, 36, 37, 38, 39, 40, 41, 42, 43, 44, 45, 46, 47, 48, 49] (by decide +kernel) (by decide +kernel)
set_option maxRecDepth 20000 in
theorem gX6_layMarks_X6_draw : GoodIn wsX6_layMarks (wsV RX6 106 RX6 yX6_draw wsX6_draw) := goodIn_app (goodIn_of _ (by decide +kernel)) ggX6_layMarks_X6_draw
theorem dX6_layMarks_0 : decode cX6_layMarks 0 = .ok (.aload_n 0, 1) := by decide +kernel
theorem dX6_layMarks_1 : decode cX6_layMarks 1 = .ok (.aload_n 0, 1) := by decide +kernel
theorem dX6_layMarks_2 : decode cX6_layMarks 2 = .ok (.getfield 26, 3) := by decide +kernel
theorem dX6_layMarks_5 : decode cX6_layMarks 5 = .ok (.i2l, 1) := by decide +kernel
theorem dX6_layMarks_6 : decode cX6_layMarks 6 = .ok (.putfield 96, 3) := by decide +kernel
theorem dX6_layMarks_9 : decode cX6_layMarks 9 = .ok (.iconst 0, 1) := by decide +kernel
theorem dX6_layMarks_10 : decode cX6_layMarks 10 = .ok (.istore_n 1, 1) := by decide +kernel
theorem dX6_layMarks_11 : decode cX6_layMarks 11 = .ok (.iload_n 1, 1) := by decide +kernel
theorem dX6_layMarks_12 : decode cX6_layMarks 12 = .ok (.iconst 3, 1) := by decide +kernel
theorem dX6_layMarks_13 : decode cX6_layMarks 13 = .ok (.if_icmp .ge 82, 3) := by decide +kernel
theorem dX6_layMarks_16 : decode cX6_layMarks 16 = .ok (.iconst 0, 1) := by decide +kernel
theorem dX6_layMarks_17 : decode cX6_layMarks 17 = .ok (.istore_n 2, 1) := by decide +kernel
theorem dX6_layMarks_18 : decode cX6_layMarks 18 = .ok (.iload_n 2, 1) := by decide +kernel
theorem dX6_layMarks_19 : decode cX6_layMarks 19 = .ok (.bipush 20, 2) := by decide +kernel
theorem dX6_layMarks_21 : decode cX6_layMarks 21 = .ok (.if_icmp .ge 68, 3) := by decide +kernel
theorem dX6_layMarks_24 : decode cX6_layMarks 24 = .ok (.lconst 0, 1) := by decide +kernel
theorem dX6_layMarks_25 : decode cX6_layMarks 25 = .ok (.lstore_n 3, 1) := by decide +kernel
theorem dX6_layMarks_26 : decode cX6_layMarks 26 = .ok (.iconst 0, 1) := by decide +kernel
theorem dX6_layMarks_27 : decode cX6_layMarks 27 = .ok (.istore 5, 2) := by decide +kernel
theorem dX6_layMarks_29 : decode cX6_layMarks 29 = .ok (.iload 5, 2) := by decide +kernel
theorem dX6_layMarks_31 : decode cX6_layMarks 31 = .ok (.aload_n 0, 1) := by decide +kernel
theorem dX6_layMarks_32 : decode cX6_layMarks 32 = .ok (.getfield 23, 3) := by decide +kernel
theorem dX6_layMarks_35 : decode cX6_layMarks 35 = .ok (.if_icmp .ge 36, 3) := by decide +kernel
theorem dX6_layMarks_38 : decode cX6_layMarks 38 = .ok (.iload_n 2, 1) := by decide +kernel
theorem dX6_layMarks_39 : decode cX6_layMarks 39 = .ok (.aload_n 0, 1) := by decide +kernel
theorem dX6_layMarks_40 : decode cX6_layMarks 40 = .ok (.getfield 85, 3) := by decide +kernel
theorem dX6_layMarks_43 : decode cX6_layMarks 43 = .ok (.if_icmp .lt 9, 3) := by decide +kernel
theorem dX6_layMarks_46 : decode cX6_layMarks 46 = .ok (.iload_n 2, 1) := by decide +kernel
theorem dX6_layMarks_47 : decode cX6_layMarks 47 = .ok (.bipush 16, 2) := by decide +kernel
theorem dX6_layMarks_49 : decode cX6_layMarks 49 = .ok (.if_icmp .lt 22, 3) := by decide +kernel
theorem dX6_layMarks_52 : decode cX6_layMarks 52 = .ok (.lload_n 3, 1) := by decide +kernel
theorem dX6_layMarks_53 : decode cX6_layMarks 53 = .ok (.lconst 1, 1) := by decide +kernel
theorem dX6_layMarks_54 : decode cX6_layMarks 54 = .ok (.aload_n 0, 1) := by decide +kernel
theorem dX6_layMarks_55 : decode cX6_layMarks 55 = .ok (.aload_n 0, 1) := by decide +kernel
theorem dX6_layMarks_56 : decode cX6_layMarks 56 = .ok (.getfield 19, 3) := by decide +kernel
theorem dX6_layMarks_59 : decode cX6_layMarks 59 = .ok (.invokevirtual 106, 3) := by decide +kernel
theorem dX6_layMarks_62 : decode cX6_layMarks 62 = .ok (.lshl, 1) := by decide +kernel
theorem dX6_layMarks_63 : decode cX6_layMarks 63 = .ok (.lor, 1) := by decide +kernel
theorem dX6_layMarks_64 : decode cX6_layMarks 64 = .ok (.lstore_n 3, 1) := by decide +kernel
theorem dX6_layMarks_65 : decode cX6_layMarks 65 = .ok (.iinc 5 1, 3) := by decide +kernel
theorem dX6_layMarks_68 : decode cX6_layMarks 68 = .ok (.goto (-39), 3) := by decide +kernel
theorem dX6_layMarks_71 : decode cX6_layMarks 71 = .ok (.aload_n 0, 1) := by decide +kernel
theorem dX6_layMarks_72 : decode cX6_layMarks 72 = .ok (.getfield 38, 3) := by decide +kernel
theorem dX6_layMarks_75 : decode cX6_layMarks 75 = .ok (.bipush 20, 2) := by decide +kernel
theorem dX6_layMarks_77 : decode cX6_layMarks 77 = .ok (.iload_n 1, 1) := by decide +kernel
theorem dX6_layMarks_78 : decode cX6_layMarks 78 = .ok (.imul, 1) := by decide +kernel
theorem dX6_layMarks_79 : decode cX6_layMarks 79 = .ok (.iload_n 2, 1) := by decide +kernel
theorem dX6_layMarks_80 : decode cX6_layMarks 80 = .ok (.iadd, 1) := by decide +kernel
theorem dX6_layMarks_81 : decode cX6_layMarks 81 = .ok (.lload_n 3, 1) := by decide +kernel
theorem dX6_layMarks_82 : decode cX6_layMarks 82 = .ok (.lastore, 1) := by decide +kernel
theorem dX6_layMarks_83 : decode cX6_layMarks 83 = .ok (.iinc 2 1, 3) := by decide +kernel
theorem dX6_layMarks_86 : decode cX6_layMarks 86 = .ok (.goto (-68), 3) := by decide +kernel
theorem dX6_layMarks_89 : decode cX6_layMarks 89 = .ok (.iinc 1 1, 3) := by decide +kernel
theorem dX6_layMarks_92 : decode cX6_layMarks 92 = .ok (.goto (-81), 3) := by decide +kernel
theorem dX6_layMarks_95 : decode cX6_layMarks 95 = .ok (.return_, 1) := by decide +kernel
set_option maxRecDepth 20000 in
theorem ggX6_set_X6_within : GoodIn wsX6_set wsX6_within := goodIn_r _ [7] (by decide +kernel) (by decide +kernel)
set_option maxRecDepth 20000 in
theorem gX6_set_X6_within : GoodIn wsX6_set (va_wsS RX6 48 yX6_within wsX6_within) := goodIn_app (goodIn_of _ (by decide +kernel)) ggX6_set_X6_within
set_option maxRecDepth 20000 in
theorem ggX6_set_X6_layMarks : GoodIn wsX6_set wsX6_layMarks := goodIn_r _ [11, 3, 12, 2, 13, 1, 14, 15, 16, 17, 6, 18, 19, 20, 21, 22, 23, 24, 25, 26, 27, 28, 29, 30, 31, 32, 33, 34, 35, 36, 37, 38, 39, 40, 41, 42, 43, 44, 45, 46, 47, 48, 49, 50, 51, 52, 53, 54, 55, 56] (by decide +kernel) (by decide +kernel)
set_option maxRecDepth 20000 in
theorem gX6_set_X6_layMarks : GoodIn wsX6_set (wsV RX6 91 RX6 yX6_layMarks wsX6_layMarks) := goodIn_app (goodIn_of _ (by decide +kernel)) ggX6_set_X6_layMarks
theorem dX6_set_0 : decode cX6_set 0 = .ok (.iload_n 1, 1) := by decide +kernel
theorem dX6_set_1 : decode cX6_set 1 = .ok (.ifCond .ne 14, 3) := by decide +kernel
theorem dX6_set_4 : decode cX6_set 4 = .ok (.iload_n 2, 1) := by decide +kernel
theorem dX6_set_5 : decode cX6_set 5 = .ok (.bipush 8, 2) := by decide +kernel
theorem dX6_set_7 : decode cX6_set 7 = .ok (.bipush 40, 2) := by decide +kernel
theorem dX6_set_9 : decode cX6_set 9 = .ok (.invokestatic 48, 3) := by decide +kernel
theorem dX6_set_12 : decode cX6_set 12 = .ok (.goto 31, 3) := by decide +kernel
theorem dX6_set_15 : decode cX6_set 15 = .ok (.iload_n 1, 1) := by decide +kernel
theorem dX6_set_16 : decode cX6_set 16 = .ok (.iconst 1, 1) := by decide +kernel
theorem dX6_set_17 : decode cX6_set 17 = .ok (.if_icmp .ne 12, 3) := by decide +kernel
theorem dX6_set_20 : decode cX6_set 20 = .ok (.iload_n 2, 1) := by decide +kernel
theorem dX6_set_21 : decode cX6_set 21 = .ok (.iconst 1, 1) := by decide +kernel
theorem dX6_set_22 : decode cX6_set 22 = .ok (.iconst 4, 1) := by decide +kernel
theorem dX6_set_23 : decode cX6_set 23 = .ok (.invokestatic 48, 3) := by decide +kernel
theorem dX6_set_26 : decode cX6_set 26 = .ok (.goto 17, 3) := by decide +kernel
theorem dX6_set_29 : decode cX6_set 29 = .ok (.iload_n 1, 1) := by decide +kernel
theorem dX6_set_30 : decode cX6_set 30 = .ok (.iconst 2, 1) := by decide +kernel
theorem dX6_set_31 : decode cX6_set 31 = .ok (.if_icmp .ne 11, 3) := by decide +kernel
theorem dX6_set_34 : decode cX6_set 34 = .ok (.iload_n 2, 1) := by decide +kernel
theorem dX6_set_35 : decode cX6_set 35 = .ok (.ifCond .lt 7, 3) := by decide +kernel
theorem dX6_set_38 : decode cX6_set 38 = .ok (.iconst 1, 1) := by decide +kernel
theorem dX6_set_39 : decode cX6_set 39 = .ok (.goto 4, 3) := by decide +kernel
theorem dX6_set_42 : decode cX6_set 42 = .ok (.iconst 0, 1) := by decide +kernel
theorem dX6_set_43 : decode cX6_set 43 = .ok (.istore_n 3, 1) := by decide +kernel
theorem dX6_set_44 : decode cX6_set 44 = .ok (.iload_n 3, 1) := by decide +kernel
theorem dX6_set_45 : decode cX6_set 45 = .ok (.ifCond .ne 7, 3) := by decide +kernel
theorem dX6_set_48 : decode cX6_set 48 = .ok (.sipush (-1002), 3) := by decide +kernel
theorem dX6_set_51 : decode cX6_set 51 = .ok (.ireturn, 1) := by decide +kernel
theorem dX6_set_52 : decode cX6_set 52 = .ok (.iload_n 1, 1) := by decide +kernel
theorem dX6_set_53 : decode cX6_set 53 = .ok (.ifCond .ne 10, 3) := by decide +kernel
theorem dX6_set_56 : decode cX6_set 56 = .ok (.aload_n 0, 1) := by decide +kernel
theorem dX6_set_57 : decode cX6_set 57 = .ok (.getfield 19, 3) := by decide +kernel
theorem dX6_set_60 : decode cX6_set 60 = .ok (.goto 19, 3) := by decide +kernel
theorem dX6_set_63 : decode cX6_set 63 = .ok (.iload_n 1, 1) := by decide +kernel
theorem dX6_set_64 : decode cX6_set 64 = .ok (.iconst 1, 1) := by decide +kernel
theorem dX6_set_65 : decode cX6_set 65 = .ok (.if_icmp .ne 10, 3) := by decide +kernel
theorem dX6_set_68 : decode cX6_set 68 = .ok (.aload_n 0, 1) := by decide +kernel
theorem dX6_set_69 : decode cX6_set 69 = .ok (.getfield 23, 3) := by decide +kernel
theorem dX6_set_72 : decode cX6_set 72 = .ok (.goto 7, 3) := by decide +kernel
theorem dX6_set_75 : decode cX6_set 75 = .ok (.aload_n 0, 1) := by decide +kernel
theorem dX6_set_76 : decode cX6_set 76 = .ok (.getfield 26, 3) := by decide +kernel
theorem dX6_set_79 : decode cX6_set 79 = .ok (.istore 4, 2) := by decide +kernel
theorem dX6_set_81 : decode cX6_set 81 = .ok (.aload_n 0, 1) := by decide +kernel
theorem dX6_set_82 : decode cX6_set 82 = .ok (.iload_n 1, 1) := by decide +kernel
theorem dX6_set_83 : decode cX6_set 83 = .ok (.ifCond .ne 7, 3) := by decide +kernel
theorem dX6_set_86 : decode cX6_set 86 = .ok (.iload_n 2, 1) := by decide +kernel
theorem dX6_set_87 : decode cX6_set 87 = .ok (.goto 7, 3) := by decide +kernel
theorem dX6_set_90 : decode cX6_set 90 = .ok (.aload_n 0, 1) := by decide +kernel
theorem dX6_set_91 : decode cX6_set 91 = .ok (.getfield 19, 3) := by decide +kernel
theorem dX6_set_94 : decode cX6_set 94 = .ok (.putfield 19, 3) := by decide +kernel
theorem dX6_set_97 : decode cX6_set 97 = .ok (.aload_n 0, 1) := by decide +kernel
theorem dX6_set_98 : decode cX6_set 98 = .ok (.iload_n 1, 1) := by decide +kernel
theorem dX6_set_99 : decode cX6_set 99 = .ok (.iconst 1, 1) := by decide +kernel
theorem dX6_set_100 : decode cX6_set 100 = .ok (.if_icmp .ne 7, 3) := by decide +kernel
theorem dX6_set_103 : decode cX6_set 103 = .ok (.iload_n 2, 1) := by decide +kernel
theorem dX6_set_104 : decode cX6_set 104 = .ok (.goto 7, 3) := by decide +kernel
theorem dX6_set_107 : decode cX6_set 107 = .ok (.aload_n 0, 1) := by decide +kernel
theorem dX6_set_108 : decode cX6_set 108 = .ok (.getfield 23, 3) := by decide +kernel
theorem dX6_set_111 : decode cX6_set 111 = .ok (.putfield 23, 3) := by decide +kernel
theorem dX6_set_114 : decode cX6_set 114 = .ok (.aload_n 0, 1) := by decide +kernel
theorem dX6_set_115 : decode cX6_set 115 = .ok (.iload_n 1, 1) := by decide +kernel
theorem dX6_set_116 : decode cX6_set 116 = .ok (.iconst 2, 1) := by decide +kernel
theorem dX6_set_117 : decode cX6_set 117 = .ok (.if_icmp .ne 7, 3) := by decide +kernel
theorem dX6_set_120 : decode cX6_set 120 = .ok (.iload_n 2, 1) := by decide +kernel
theorem dX6_set_121 : decode cX6_set 121 = .ok (.goto 7, 3) := by decide +kernel
theorem dX6_set_124 : decode cX6_set 124 = .ok (.aload_n 0, 1) := by decide +kernel
theorem dX6_set_125 : decode cX6_set 125 = .ok (.getfield 26, 3) := by decide +kernel
theorem dX6_set_128 : decode cX6_set 128 = .ok (.putfield 26, 3) := by decide +kernel
theorem dX6_set_131 : decode cX6_set 131 = .ok (.aload_n 0, 1) := by decide +kernel
theorem dX6_set_132 : decode cX6_set 132 = .ok (.invokevirtual 91, 3) := by decide +kernel
theorem dX6_set_135 : decode cX6_set 135 = .ok (.iload 4, 2) := by decide +kernel
theorem dX6_set_137 : decode cX6_set 137 = .ok (.ireturn, 1) := by decide +kernel
set_option maxRecDepth 20000 in
theorem ggX6_isLink_X6_within : GoodIn wsX6_isLink wsX6_within := goodIn_r _ [5] (by decide +kernel) (by decide +kernel)
set_option maxRecDepth 20000 in
theorem gX6_isLink_X6_within : GoodIn wsX6_isLink (va_wsS RX6 48 yX6_within wsX6_within) := goodIn_app (goodIn_of _ (by decide +kernel)) ggX6_isLink_X6_within
theorem dX6_isLink_0 : decode cX6_isLink 0 = .ok (.iload_n 1, 1) := by decide +kernel
theorem dX6_isLink_1 : decode cX6_isLink 1 = .ok (.iconst 0, 1) := by decide +kernel
theorem dX6_isLink_2 : decode cX6_isLink 2 = .ok (.aload_n 0, 1) := by decide +kernel
theorem dX6_isLink_3 : decode cX6_isLink 3 = .ok (.getfield 85, 3) := by decide +kernel
theorem dX6_isLink_6 : decode cX6_isLink 6 = .ok (.iconst 1, 1) := by decide +kernel
theorem dX6_isLink_7 : decode cX6_isLink 7 = .ok (.isub, 1) := by decide +kernel
theorem dX6_isLink_8 : decode cX6_isLink 8 = .ok (.invokestatic 48, 3) := by decide +kernel
theorem dX6_isLink_11 : decode cX6_isLink 11 = .ok (.ireturn, 1) := by decide +kernel
set_option maxRecDepth 20000 in
theorem ggX6_isVariant_X6_within : GoodIn wsX6_isVariant wsX6_within := goodIn_r _ [4] (by decide +kernel) (by decide +kernel)
set_option maxRecDepth 20000 in
theorem gX6_isVariant_X6_within : GoodIn wsX6_isVariant (va_wsS RX6 48 yX6_within wsX6_within) := goodIn_app (goodIn_of _ (by decide +kernel)) ggX6_isVariant_X6_within
theorem dX6_isVariant_0 : decode cX6_isVariant 0 = .ok (.iload_n 0, 1) := by decide +kernel
theorem dX6_isVariant_1 : decode cX6_isVariant 1 = .ok (.iconst 0, 1) := by decide +kernel
theorem dX6_isVariant_2 : decode cX6_isVariant 2 = .ok (.iconst 2, 1) := by decide +kernel
theorem dX6_isVariant_3 : decode cX6_isVariant 3 = .ok (.invokestatic 48, 3) := by decide +kernel
theorem dX6_isVariant_6 : decode cX6_isVariant 6 = .ok (.ireturn, 1) := by decide +kernel
set_option maxRecDepth 20000 in
theorem ggX6_mark_X6_isLink : GoodIn wsX6_mark wsX6_isLink := goodIn_r _ [8, 9, 10, 11, 7, 12, 16, 17, 18, 19, 20, 21, 22, 23, 24, 25, 26, 27, 28, 29, 30, 31, 32, 33, 34, 35, 36, 37, 38, 39, 40, 41, 42, 43, 44, 45, 46, 47, 48, 49] (by decide +kernel) (by decide +kernel)
set_option maxRecDepth 20000 in
theorem gX6_mark_X6_isLink : GoodIn wsX6_mark (wsV RX6 110 RX6 yX6_isLink wsX6_isLink) := goodIn_app (goodIn_of _ (by decide +kernel)) ggX6_mark_X6_isLink
set_option maxRecDepth 20000 in
theorem ggX6_mark_X6_isVariant : GoodIn wsX6_mark wsX6_isVariant := goodIn_r _ [15, 10, 11, 7, 12] (by decide +kernel) (by decide +kernel)
set_option maxRecDepth 20000 in
theorem gX6_mark_X6_isVariant : GoodIn wsX6_mark (va_wsS RX6 115 yX6_isVariant wsX6_isVariant) := goodIn_app (goodIn_of _ (by decide +kernel)) ggX6_mark_X6_isVariant
theorem dX6_mark_0 : decode cX6_mark 0 = .ok (.aload_n 0, 1) := by decide +kernel
theorem dX6_mark_1 : decode cX6_mark 1 = .ok (.iload_n 1, 1) := by decide +kernel
theorem dX6_mark_2 : decode cX6_mark 2 = .ok (.invokevirtual 110, 3) := by decide +kernel
theorem dX6_mark_5 : decode cX6_mark 5 = .ok (.ifCond .ne 7, 3) := by decide +kernel
theorem dX6_mark_8 : decode cX6_mark 8 = .ok (.ldc2_w 113, 3) := by decide +kernel
theorem dX6_mark_11 : decode cX6_mark 11 = .ok (.lreturn, 1) := by decide +kernel
theorem dX6_mark_12 : decode cX6_mark 12 = .ok (.iload_n 2, 1) := by decide +kernel
theorem dX6_mark_13 : decode cX6_mark 13 = .ok (.invokestatic 115, 3) := by decide +kernel
theorem dX6_mark_16 : decode cX6_mark 16 = .ok (.ifCond .eq 17, 3) := by decide +kernel
theorem dX6_mark_19 : decode cX6_mark 19 = .ok (.aload_n 0, 1) := by decide +kernel
theorem dX6_mark_20 : decode cX6_mark 20 = .ok (.getfield 38, 3) := by decide +kernel
theorem dX6_mark_23 : decode cX6_mark 23 = .ok (.bipush 20, 2) := by decide +kernel
theorem dX6_mark_25 : decode cX6_mark 25 = .ok (.iload_n 2, 1) := by decide +kernel
theorem dX6_mark_26 : decode cX6_mark 26 = .ok (.imul, 1) := by decide +kernel
theorem dX6_mark_27 : decode cX6_mark 27 = .ok (.iload_n 1, 1) := by decide +kernel
theorem dX6_mark_28 : decode cX6_mark 28 = .ok (.iadd, 1) := by decide +kernel
theorem dX6_mark_29 : decode cX6_mark 29 = .ok (.laload, 1) := by decide +kernel
theorem dX6_mark_30 : decode cX6_mark 30 = .ok (.goto 6, 3) := by decide +kernel
theorem dX6_mark_33 : decode cX6_mark 33 = .ok (.ldc2_w 118, 3) := by decide +kernel
theorem dX6_mark_36 : decode cX6_mark 36 = .ok (.lreturn, 1) := by decide +kernel
set_option maxRecDepth 20000 in
theorem ggX6_bundlesOf_X6_has : GoodIn wsX6_bundlesOf wsX6_has := goodIn_r _ [5] (by decide +kernel) (by decide +kernel)
set_option maxRecDepth 20000 in
theorem gX6_bundlesOf_X6_has : GoodIn wsX6_bundlesOf (va_wsS RX6 120 yX6_has wsX6_has) := goodIn_app (goodIn_of _ (by decide +kernel)) ggX6_bundlesOf_X6_has
theorem dX6_bundlesOf_0 : decode cX6_bundlesOf 0 = .ok (.iconst 0, 1) := by decide +kernel
theorem dX6_bundlesOf_1 : decode cX6_bundlesOf 1 = .ok (.istore_n 2, 1) := by decide +kernel
theorem dX6_bundlesOf_2 : decode cX6_bundlesOf 2 = .ok (.iconst 0, 1) := by decide +kernel
theorem dX6_bundlesOf_3 : decode cX6_bundlesOf 3 = .ok (.istore_n 3, 1) := by decide +kernel
theorem dX6_bundlesOf_4 : decode cX6_bundlesOf 4 = .ok (.iload_n 3, 1) := by decide +kernel
theorem dX6_bundlesOf_5 : decode cX6_bundlesOf 5 = .ok (.iconst 4, 1) := by decide +kernel
theorem dX6_bundlesOf_6 : decode cX6_bundlesOf 6 = .ok (.if_icmp .ge 32, 3) := by decide +kernel
theorem dX6_bundlesOf_9 : decode cX6_bundlesOf 9 = .ok (.iload_n 2, 1) := by decide +kernel
theorem dX6_bundlesOf_10 : decode cX6_bundlesOf 10 = .ok (.aload_n 0, 1) := by decide +kernel
theorem dX6_bundlesOf_11 : decode cX6_bundlesOf 11 = .ok (.getfield 29, 3) := by decide +kernel
theorem dX6_bundlesOf_14 : decode cX6_bundlesOf 14 = .ok (.iload_n 3, 1) := by decide +kernel
theorem dX6_bundlesOf_15 : decode cX6_bundlesOf 15 = .ok (.iaload, 1) := by decide +kernel
theorem dX6_bundlesOf_16 : decode cX6_bundlesOf 16 = .ok (.iload_n 1, 1) := by decide +kernel
theorem dX6_bundlesOf_17 : decode cX6_bundlesOf 17 = .ok (.invokestatic 120, 3) := by decide +kernel
theorem dX6_bundlesOf_20 : decode cX6_bundlesOf 20 = .ok (.ifCond .eq 9, 3) := by decide +kernel
theorem dX6_bundlesOf_23 : decode cX6_bundlesOf 23 = .ok (.iconst 1, 1) := by decide +kernel
theorem dX6_bundlesOf_24 : decode cX6_bundlesOf 24 = .ok (.iload_n 3, 1) := by decide +kernel
theorem dX6_bundlesOf_25 : decode cX6_bundlesOf 25 = .ok (.ishl, 1) := by decide +kernel
theorem dX6_bundlesOf_26 : decode cX6_bundlesOf 26 = .ok (.goto 4, 3) := by decide +kernel
theorem dX6_bundlesOf_29 : decode cX6_bundlesOf 29 = .ok (.iconst 0, 1) := by decide +kernel
theorem dX6_bundlesOf_30 : decode cX6_bundlesOf 30 = .ok (.ior, 1) := by decide +kernel
theorem dX6_bundlesOf_31 : decode cX6_bundlesOf 31 = .ok (.istore_n 2, 1) := by decide +kernel
theorem dX6_bundlesOf_32 : decode cX6_bundlesOf 32 = .ok (.iinc 3 1, 3) := by decide +kernel
theorem dX6_bundlesOf_35 : decode cX6_bundlesOf 35 = .ok (.goto (-31), 3) := by decide +kernel
theorem dX6_bundlesOf_38 : decode cX6_bundlesOf 38 = .ok (.iload_n 2, 1) := by decide +kernel
theorem dX6_bundlesOf_39 : decode cX6_bundlesOf 39 = .ok (.ireturn, 1) := by decide +kernel
set_option maxRecDepth 20000 in
theorem ggX6_linkNow_X6_bundlesOf : GoodIn wsX6_linkNow wsX6_bundlesOf := goodIn_r _ [7, 8, 9, 10, 6, 11, 12, 13, 14, 15, 16, 17, 18, 19, 20, 21, 22, 23, 24, 25, 26, 27, 28, 29, 30, 31, 32, 33, 34, 35, 36, 37, 38, 39, 40, 41, 42, 43, 44, 45] (by decide +kernel) (by decide +kernel)
set_option maxRecDepth 20000 in
theorem gX6_linkNow_X6_bundlesOf : GoodIn wsX6_linkNow (wsV RX6 123 RX6 yX6_bundlesOf wsX6_bundlesOf) := goodIn_app (goodIn_of _ (by decide +kernel)) ggX6_linkNow_X6_bundlesOf
theorem dX6_linkNow_0 : decode cX6_linkNow 0 = .ok (.iload_n 2, 1) := by decide +kernel
theorem dX6_linkNow_1 : decode cX6_linkNow 1 = .ok (.ifCond .ne 12, 3) := by decide +kernel
theorem dX6_linkNow_4 : decode cX6_linkNow 4 = .ok (.aload_n 0, 1) := by decide +kernel
theorem dX6_linkNow_5 : decode cX6_linkNow 5 = .ok (.getfield 13, 3) := by decide +kernel
theorem dX6_linkNow_8 : decode cX6_linkNow 8 = .ok (.iload_n 1, 1) := by decide +kernel
theorem dX6_linkNow_9 : decode cX6_linkNow 9 = .ok (.iaload, 1) := by decide +kernel
theorem dX6_linkNow_10 : decode cX6_linkNow 10 = .ok (.goto 22, 3) := by decide +kernel
theorem dX6_linkNow_13 : decode cX6_linkNow 13 = .ok (.iload_n 2, 1) := by decide +kernel
theorem dX6_linkNow_14 : decode cX6_linkNow 14 = .ok (.iconst 1, 1) := by decide +kernel
theorem dX6_linkNow_15 : decode cX6_linkNow 15 = .ok (.if_icmp .ne 12, 3) := by decide +kernel
theorem dX6_linkNow_18 : decode cX6_linkNow 18 = .ok (.aload_n 0, 1) := by decide +kernel
theorem dX6_linkNow_19 : decode cX6_linkNow 19 = .ok (.getfield 16, 3) := by decide +kernel
theorem dX6_linkNow_22 : decode cX6_linkNow 22 = .ok (.iload_n 1, 1) := by decide +kernel
theorem dX6_linkNow_23 : decode cX6_linkNow 23 = .ok (.iaload, 1) := by decide +kernel
theorem dX6_linkNow_24 : decode cX6_linkNow 24 = .ok (.goto 8, 3) := by decide +kernel
theorem dX6_linkNow_27 : decode cX6_linkNow 27 = .ok (.aload_n 0, 1) := by decide +kernel
theorem dX6_linkNow_28 : decode cX6_linkNow 28 = .ok (.iload_n 1, 1) := by decide +kernel
theorem dX6_linkNow_29 : decode cX6_linkNow 29 = .ok (.invokevirtual 123, 3) := by decide +kernel
theorem dX6_linkNow_32 : decode cX6_linkNow 32 = .ok (.ireturn, 1) := by decide +kernel
set_option maxRecDepth 20000 in
theorem ggX6_link_X6_isLink : GoodIn wsX6_link wsX6_isLink := goodIn_r _ [5, 6, 7, 8, 4, 9, 24, 25, 26, 27, 28, 29, 30, 31, 32, 33, 34, 35, 36, 37, 38, 39, 40, 41, 42, 43, 44, 45, 46, 47, 48, 49, 50, 51, 52, 53, 54, 55, 56, 57] (by decide +kernel) (by decide +kernel)
set_option maxRecDepth 20000 in
theorem gX6_link_X6_isLink : GoodIn wsX6_link (wsV RX6 110 RX6 yX6_isLink wsX6_isLink) := goodIn_app (goodIn_of _ (by decide +kernel)) ggX6_link_X6_isLink
set_option maxRecDepth 20000 in
theorem ggX6_link_X6_within : GoodIn wsX6_link wsX6_within := goodIn_r _ [9] (by decide +kernel) (by decide +kernel)
set_option maxRecDepth 20000 in
theorem gX6_link_X6_within : GoodIn wsX6_link (va_wsS RX6 48 yX6_within wsX6_within) := goodIn_app (goodIn_of _ (by decide +kernel)) ggX6_link_X6_within
set_option maxRecDepth 20000 in
theorem ggX6_link_X6_linkNow : GoodIn wsX6_link wsX6_linkNow := goodIn_r _ [13, 14, 15, 16, 17, 18, 4, 19, 20, 21, 22, 23, 24, 25, 26, 27, 28, 29, 30, 31, 32, 33, 34, 35, 36, 37, 38, 39, 40, 41, 42, 43, 44, 45, 46, 47, 48, 49, 50, 51, 52, 53, 54, 55, 56, 57] (by decide +kernel) (by decide +kernel)
set_option maxRecDepth 20000 in
theorem gX6_link_X6_linkNow : GoodIn wsX6_link (wsV RX6 126 RX6 yX6_linkNow wsX6_linkNow) := goodIn_app (goodIn_of _ (by decide +kernel)) ggX6_link_X6_linkNow
theorem dX6_link_0 : decode cX6_link 0 = .ok (.aload_n 0, 1) := by decide +kernel
theorem dX6_link_1 : decode cX6_link 1 = .ok (.iload_n 1, 1) := by decide +kernel
theorem dX6_link_2 : decode cX6_link 2 = .ok (.invokevirtual 110, 3) := by decide +kernel
theorem dX6_link_5 : decode cX6_link 5 = .ok (.ifCond .ne 7, 3) := by decide +kernel
theorem dX6_link_8 : decode cX6_link 8 = .ok (.sipush (-1001), 3) := by decide +kernel
theorem dX6_link_11 : decode cX6_link 11 = .ok (.ireturn, 1) := by decide +kernel
theorem dX6_link_12 : decode cX6_link 12 = .ok (.iload_n 2, 1) := by decide +kernel
theorem dX6_link_13 : decode cX6_link 13 = .ok (.iconst 0, 1) := by decide +kernel
theorem dX6_link_14 : decode cX6_link 14 = .ok (.iconst 2, 1) := by decide +kernel
theorem dX6_link_15 : decode cX6_link 15 = .ok (.invokestatic 48, 3) := by decide +kernel
theorem dX6_link_18 : decode cX6_link 18 = .ok (.ifCond .eq 12, 3) := by decide +kernel
theorem dX6_link_21 : decode cX6_link 21 = .ok (.aload_n 0, 1) := by decide +kernel
theorem dX6_link_22 : decode cX6_link 22 = .ok (.iload_n 1, 1) := by decide +kernel
theorem dX6_link_23 : decode cX6_link 23 = .ok (.iload_n 2, 1) := by decide +kernel
theorem dX6_link_24 : decode cX6_link 24 = .ok (.invokevirtual 126, 3) := by decide +kernel
theorem dX6_link_27 : decode cX6_link 27 = .ok (.goto 6, 3) := by decide +kernel
theorem dX6_link_30 : decode cX6_link 30 = .ok (.sipush (-1002), 3) := by decide +kernel
theorem dX6_link_33 : decode cX6_link 33 = .ok (.ireturn, 1) := by decide +kernel
set_option maxRecDepth 20000 in
theorem ggX6_isNode_X6_within : GoodIn wsX6_isNode wsX6_within := goodIn_r _ [5] (by decide +kernel) (by decide +kernel)
set_option maxRecDepth 20000 in
theorem gX6_isNode_X6_within : GoodIn wsX6_isNode (va_wsS RX6 48 yX6_within wsX6_within) := goodIn_app (goodIn_of _ (by decide +kernel)) ggX6_isNode_X6_within
theorem dX6_isNode_0 : decode cX6_isNode 0 = .ok (.iload_n 1, 1) := by decide +kernel
theorem dX6_isNode_1 : decode cX6_isNode 1 = .ok (.iconst 0, 1) := by decide +kernel
theorem dX6_isNode_2 : decode cX6_isNode 2 = .ok (.aload_n 0, 1) := by decide +kernel
theorem dX6_isNode_3 : decode cX6_isNode 3 = .ok (.getfield 82, 3) := by decide +kernel
theorem dX6_isNode_6 : decode cX6_isNode 6 = .ok (.iconst 1, 1) := by decide +kernel
theorem dX6_isNode_7 : decode cX6_isNode 7 = .ok (.isub, 1) := by decide +kernel
theorem dX6_isNode_8 : decode cX6_isNode 8 = .ok (.invokestatic 48, 3) := by decide +kernel
theorem dX6_isNode_11 : decode cX6_isNode 11 = .ok (.ireturn, 1) := by decide +kernel
theorem dX6_layLeft_0 : decode cX6_layLeft 0 = .ok (.iconst 0, 1) := by decide +kernel
theorem dX6_layLeft_1 : decode cX6_layLeft 1 = .ok (.istore_n 2, 1) := by decide +kernel
theorem dX6_layLeft_2 : decode cX6_layLeft 2 = .ok (.iload_n 2, 1) := by decide +kernel
theorem dX6_layLeft_3 : decode cX6_layLeft 3 = .ok (.aload_n 0, 1) := by decide +kernel
theorem dX6_layLeft_4 : decode cX6_layLeft 4 = .ok (.getfield 82, 3) := by decide +kernel
theorem dX6_layLeft_7 : decode cX6_layLeft 7 = .ok (.if_icmp .ge 26, 3) := by decide +kernel
theorem dX6_layLeft_10 : decode cX6_layLeft 10 = .ok (.aload_n 0, 1) := by decide +kernel
theorem dX6_layLeft_11 : decode cX6_layLeft 11 = .ok (.getfield 42, 3) := by decide +kernel
theorem dX6_layLeft_14 : decode cX6_layLeft 14 = .ok (.iload_n 2, 1) := by decide +kernel
theorem dX6_layLeft_15 : decode cX6_layLeft 15 = .ok (.iload_n 2, 1) := by decide +kernel
theorem dX6_layLeft_16 : decode cX6_layLeft 16 = .ok (.iload_n 1, 1) := by decide +kernel
theorem dX6_layLeft_17 : decode cX6_layLeft 17 = .ok (.if_icmp .ne 7, 3) := by decide +kernel
theorem dX6_layLeft_20 : decode cX6_layLeft 20 = .ok (.iconst 0, 1) := by decide +kernel
theorem dX6_layLeft_21 : decode cX6_layLeft 21 = .ok (.goto 5, 3) := by decide +kernel
theorem dX6_layLeft_24 : decode cX6_layLeft 24 = .ok (.bipush 6, 2) := by decide +kernel
theorem dX6_layLeft_26 : decode cX6_layLeft 26 = .ok (.iastore, 1) := by decide +kernel
theorem dX6_layLeft_27 : decode cX6_layLeft 27 = .ok (.iinc 2 1, 3) := by decide +kernel
theorem dX6_layLeft_30 : decode cX6_layLeft 30 = .ok (.goto (-28), 3) := by decide +kernel
theorem dX6_layLeft_33 : decode cX6_layLeft 33 = .ok (.iconst 0, 1) := by decide +kernel
theorem dX6_layLeft_34 : decode cX6_layLeft 34 = .ok (.istore_n 2, 1) := by decide +kernel
theorem dX6_layLeft_35 : decode cX6_layLeft 35 = .ok (.iload_n 2, 1) := by decide +kernel
theorem dX6_layLeft_36 : decode cX6_layLeft 36 = .ok (.aload_n 0, 1) := by decide +kernel
theorem dX6_layLeft_37 : decode cX6_layLeft 37 = .ok (.getfield 82, 3) := by decide +kernel
theorem dX6_layLeft_40 : decode cX6_layLeft 40 = .ok (.if_icmp .ge 83, 3) := by decide +kernel
theorem dX6_layLeft_43 : decode cX6_layLeft 43 = .ok (.iconst 0, 1) := by decide +kernel
theorem dX6_layLeft_44 : decode cX6_layLeft 44 = .ok (.istore_n 3, 1) := by decide +kernel
theorem dX6_layLeft_45 : decode cX6_layLeft 45 = .ok (.iload_n 3, 1) := by decide +kernel
theorem dX6_layLeft_46 : decode cX6_layLeft 46 = .ok (.aload_n 0, 1) := by decide +kernel
theorem dX6_layLeft_47 : decode cX6_layLeft 47 = .ok (.getfield 85, 3) := by decide +kernel
theorem dX6_layLeft_50 : decode cX6_layLeft 50 = .ok (.if_icmp .ge 67, 3) := by decide +kernel
theorem dX6_layLeft_53 : decode cX6_layLeft 53 = .ok (.aload_n 0, 1) := by decide +kernel
theorem dX6_layLeft_54 : decode cX6_layLeft 54 = .ok (.getfield 42, 3) := by decide +kernel
theorem dX6_layLeft_57 : decode cX6_layLeft 57 = .ok (.aload_n 0, 1) := by decide +kernel
theorem dX6_layLeft_58 : decode cX6_layLeft 58 = .ok (.getfield 16, 3) := by decide +kernel
theorem dX6_layLeft_61 : decode cX6_layLeft 61 = .ok (.iload_n 3, 1) := by decide +kernel
theorem dX6_layLeft_62 : decode cX6_layLeft 62 = .ok (.iaload, 1) := by decide +kernel
theorem dX6_layLeft_63 : decode cX6_layLeft 63 = .ok (.iaload, 1) := by decide +kernel
theorem dX6_layLeft_64 : decode cX6_layLeft 64 = .ok (.iconst 1, 1) := by decide +kernel
theorem dX6_layLeft_65 : decode cX6_layLeft 65 = .ok (.iadd, 1) := by decide +kernel
theorem dX6_layLeft_66 : decode cX6_layLeft 66 = .ok (.istore 4, 2) := by decide +kernel
theorem dX6_layLeft_68 : decode cX6_layLeft 68 = .ok (.aload_n 0, 1) := by decide +kernel
theorem dX6_layLeft_69 : decode cX6_layLeft 69 = .ok (.getfield 42, 3) := by decide +kernel
theorem dX6_layLeft_72 : decode cX6_layLeft 72 = .ok (.aload_n 0, 1) := by decide +kernel
theorem dX6_layLeft_73 : decode cX6_layLeft 73 = .ok (.getfield 13, 3) := by decide +kernel
theorem dX6_layLeft_76 : decode cX6_layLeft 76 = .ok (.iload_n 3, 1) := by decide +kernel
theorem dX6_layLeft_77 : decode cX6_layLeft 77 = .ok (.iaload, 1) := by decide +kernel
theorem dX6_layLeft_78 : decode cX6_layLeft 78 = .ok (.iload 4, 2) := by decide +kernel
theorem dX6_layLeft_80 : decode cX6_layLeft 80 = .ok (.aload_n 0, 1) := by decide +kernel
theorem dX6_layLeft_81 : decode cX6_layLeft 81 = .ok (.getfield 42, 3) := by decide +kernel
theorem dX6_layLeft_84 : decode cX6_layLeft 84 = .ok (.aload_n 0, 1) := by decide +kernel
theorem dX6_layLeft_85 : decode cX6_layLeft 85 = .ok (.getfield 13, 3) := by decide +kernel
theorem dX6_layLeft_88 : decode cX6_layLeft 88 = .ok (.iload_n 3, 1) := by decide +kernel
theorem dX6_layLeft_89 : decode cX6_layLeft 89 = .ok (.iaload, 1) := by decide +kernel
theorem dX6_layLeft_90 : decode cX6_layLeft 90 = .ok (.iaload, 1) := by decide +kernel
theorem dX6_layLeft_91 : decode cX6_layLeft 91 = .ok (.if_icmp .ge 8, 3) := by decide +kernel
theorem dX6_layLeft_94 : decode cX6_layLeft 94 = .ok (.iload 4, 2) := by decide +kernel
theorem dX6_layLeft_96 : decode cX6_layLeft 96 = .ok (.goto 14, 3) := by decide +kernel
theorem dX6_layLeft_99 : decode cX6_layLeft 99 = .ok (.aload_n 0, 1) := by decide +kernel
theorem dX6_layLeft_100 : decode cX6_layLeft 100 = .ok (.getfield 42, 3) := by decide +kernel
theorem dX6_layLeft_103 : decode cX6_layLeft 103 = .ok (.aload_n 0, 1) := by decide +kernel
theorem dX6_layLeft_104 : decode cX6_layLeft 104 = .ok (.getfield 13, 3) := by decide +kernel
theorem dX6_layLeft_107 : decode cX6_layLeft 107 = .ok (.iload_n 3, 1) := by decide +kernel
theorem dX6_layLeft_108 : decode cX6_layLeft 108 = .ok (.iaload, 1) := by decide +kernel
theorem dX6_layLeft_109 : decode cX6_layLeft 109 = .ok (.iaload, 1) := by decide +kernel
theorem dX6_layLeft_110 : decode cX6_layLeft 110 = .ok (.iastore, 1) := by decide +kernel
theorem dX6_layLeft_111 : decode cX6_layLeft 111 = .ok (.iinc 3 1, 3) := by decide +kernel
theorem dX6_layLeft_114 : decode cX6_layLeft 114 = .ok (.goto (-69), 3) := by decide +kernel
theorem dX6_layLeft_117 : decode cX6_layLeft 117 = .ok (.iinc 2 1, 3) := by decide +kernel
theorem dX6_layLeft_120 : decode cX6_layLeft 120 = .ok (.goto (-85), 3) := by decide +kernel
theorem dX6_layLeft_123 : decode cX6_layLeft 123 = .ok (.return_, 1) := by decide +kernel
theorem dX6_nextNode_0 : decode cX6_nextNode 0 = .ok (.bipush 6, 2) := by decide +kernel
theorem dX6_nextNode_2 : decode cX6_nextNode 2 = .ok (.istore_n 2, 1) := by decide +kernel
theorem dX6_nextNode_3 : decode cX6_nextNode 3 = .ok (.iconst 0, 1) := by decide +kernel
theorem dX6_nextNode_4 : decode cX6_nextNode 4 = .ok (.istore_n 3, 1) := by decide +kernel
theorem dX6_nextNode_5 : decode cX6_nextNode 5 = .ok (.iload_n 3, 1) := by decide +kernel
theorem dX6_nextNode_6 : decode cX6_nextNode 6 = .ok (.aload_n 0, 1) := by decide +kernel
theorem dX6_nextNode_7 : decode cX6_nextNode 7 = .ok (.getfield 85, 3) := by decide +kernel
theorem dX6_nextNode_10 : decode cX6_nextNode 10 = .ok (.if_icmp .ge 74, 3) := by decide +kernel
theorem dX6_nextNode_13 : decode cX6_nextNode 13 = .ok (.aload_n 0, 1) := by decide +kernel
theorem dX6_nextNode_14 : decode cX6_nextNode 14 = .ok (.getfield 13, 3) := by decide +kernel
theorem dX6_nextNode_17 : decode cX6_nextNode 17 = .ok (.iload_n 3, 1) := by decide +kernel
theorem dX6_nextNode_18 : decode cX6_nextNode 18 = .ok (.iaload, 1) := by decide +kernel
theorem dX6_nextNode_19 : decode cX6_nextNode 19 = .ok (.iload_n 1, 1) := by decide +kernel
theorem dX6_nextNode_20 : decode cX6_nextNode 20 = .ok (.if_icmp .ne 29, 3) := by decide +kernel
theorem dX6_nextNode_23 : decode cX6_nextNode 23 = .ok (.aload_n 0, 1) := by decide +kernel
theorem dX6_nextNode_24 : decode cX6_nextNode 24 = .ok (.getfield 42, 3) := by decide +kernel
theorem dX6_nextNode_27 : decode cX6_nextNode 27 = .ok (.aload_n 0, 1) := by decide +kernel
theorem dX6_nextNode_28 : decode cX6_nextNode 28 = .ok (.getfield 16, 3) := by decide +kernel
theorem dX6_nextNode_31 : decode cX6_nextNode 31 = .ok (.iload_n 3, 1) := by decide +kernel
theorem dX6_nextNode_32 : decode cX6_nextNode 32 = .ok (.iaload, 1) := by decide +kernel
theorem dX6_nextNode_33 : decode cX6_nextNode 33 = .ok (.iaload, 1) := by decide +kernel
theorem dX6_nextNode_34 : decode cX6_nextNode 34 = .ok (.iconst 1, 1) := by decide +kernel
theorem dX6_nextNode_35 : decode cX6_nextNode 35 = .ok (.iadd, 1) := by decide +kernel
theorem dX6_nextNode_36 : decode cX6_nextNode 36 = .ok (.aload_n 0, 1) := by decide +kernel
theorem dX6_nextNode_37 : decode cX6_nextNode 37 = .ok (.getfield 42, 3) := by decide +kernel
theorem dX6_nextNode_40 : decode cX6_nextNode 40 = .ok (.iload_n 1, 1) := by decide +kernel
theorem dX6_nextNode_41 : decode cX6_nextNode 41 = .ok (.iaload, 1) := by decide +kernel
theorem dX6_nextNode_42 : decode cX6_nextNode 42 = .ok (.if_icmp .ne 7, 3) := by decide +kernel
theorem dX6_nextNode_45 : decode cX6_nextNode 45 = .ok (.iconst 1, 1) := by decide +kernel
theorem dX6_nextNode_46 : decode cX6_nextNode 46 = .ok (.goto 4, 3) := by decide +kernel
theorem dX6_nextNode_49 : decode cX6_nextNode 49 = .ok (.iconst 0, 1) := by decide +kernel
theorem dX6_nextNode_50 : decode cX6_nextNode 50 = .ok (.istore 4, 2) := by decide +kernel
theorem dX6_nextNode_52 : decode cX6_nextNode 52 = .ok (.iload 4, 2) := by decide +kernel
theorem dX6_nextNode_54 : decode cX6_nextNode 54 = .ok (.ifCond .eq 22, 3) := by decide +kernel
theorem dX6_nextNode_57 : decode cX6_nextNode 57 = .ok (.aload_n 0, 1) := by decide +kernel
theorem dX6_nextNode_58 : decode cX6_nextNode 58 = .ok (.getfield 16, 3) := by decide +kernel
theorem dX6_nextNode_61 : decode cX6_nextNode 61 = .ok (.iload_n 3, 1) := by decide +kernel
theorem dX6_nextNode_62 : decode cX6_nextNode 62 = .ok (.iaload, 1) := by decide +kernel
theorem dX6_nextNode_63 : decode cX6_nextNode 63 = .ok (.iload_n 2, 1) := by decide +kernel
theorem dX6_nextNode_64 : decode cX6_nextNode 64 = .ok (.if_icmp .ge 12, 3) := by decide +kernel
theorem dX6_nextNode_67 : decode cX6_nextNode 67 = .ok (.aload_n 0, 1) := by decide +kernel
theorem dX6_nextNode_68 : decode cX6_nextNode 68 = .ok (.getfield 16, 3) := by decide +kernel
theorem dX6_nextNode_71 : decode cX6_nextNode 71 = .ok (.iload_n 3, 1) := by decide +kernel
theorem dX6_nextNode_72 : decode cX6_nextNode 72 = .ok (.iaload, 1) := by decide +kernel
theorem dX6_nextNode_73 : decode cX6_nextNode 73 = .ok (.goto 4, 3) := by decide +kernel
end
section
theorem dX6_nextNode_76 : decode cX6_nextNode 76 = .ok (.iload_n 2, 1) := by decide +kernel
theorem dX6_nextNode_77 : decode cX6_nextNode 77 = .ok (.istore_n 2, 1) := by decide +kernel
theorem dX6_nextNode_78 : decode cX6_nextNode 78 = .ok (.iinc 3 1, 3) := by decide +kernel
theorem dX6_nextNode_81 : decode cX6_nextNode 81 = .ok (.goto (-76), 3) := by decide +kernel
theorem dX6_nextNode_84 : decode cX6_nextNode 84 = .ok (.iload_n 2, 1) := by decide +kernel
theorem dX6_nextNode_85 : decode cX6_nextNode 85 = .ok (.ireturn, 1) := by decide +kernel
set_option maxRecDepth 20000 in
theorem ggX6_layWay_X6_layLeft : GoodIn wsX6_layWay wsX6_layLeft := goodIn_r _ [8, 9, 2, 10, 11, 12, 17, 18, 19, 20, 21, 22, 23, 24, 25, 26, 27, 28, 29, 30, 31, 32, 33, 34, 35, 36, 37, 38, 39, 40, 41, 42, 43, 44, 45, 46, 47, 48, 49, 50] (by decide +kernel) (by decide +kernel)
set_option maxRecDepth 20000 in
theorem gX6_layWay_X6_layLeft : GoodIn wsX6_layWay (wsV RX6 130 RX6 yX6_layLeft wsX6_layLeft) := goodIn_app (goodIn_of _ (by decide +kernel)) ggX6_layWay_X6_layLeft
set_option maxRecDepth 20000 in
theorem ggX6_layWay_X6_nextNode : GoodIn wsX6_layWay wsX6_nextNode := goodIn_r _ [16, 10, 12, 2, 11, 17, 18, 19, 20, 21, 22, 23, 24, 25, 26, 27, 28, 29, 30, 31, 32, 33, 34, 35, 36, 37, 38, 39, 40, 41, 42, 43, 44, 45, 46, 47, 48, 49, 50] (by decide +kernel) (by decide +kernel)
set_option maxRecDepth 20000 in
theorem gX6_layWay_X6_nextNode : GoodIn wsX6_layWay (wsV RX6 137 RX6 yX6_nextNode wsX6_nextNode) := goodIn_app (goodIn_of _ (by decide +kernel)) ggX6_layWay_X6_nextNode
theorem dX6_layWay_0 : decode cX6_layWay 0 = .ok (.aload_n 0, 1) := by decide +kernel
theorem dX6_layWay_1 : decode cX6_layWay 1 = .ok (.iload_n 2, 1) := by decide +kernel
theorem dX6_layWay_2 : decode cX6_layWay 2 = .ok (.invokevirtual 130, 3) := by decide +kernel
theorem dX6_layWay_5 : decode cX6_layWay 5 = .ok (.aload_n 0, 1) := by decide +kernel
theorem dX6_layWay_6 : decode cX6_layWay 6 = .ok (.iconst 0, 1) := by decide +kernel
theorem dX6_layWay_7 : decode cX6_layWay 7 = .ok (.putfield 134, 3) := by decide +kernel
theorem dX6_layWay_10 : decode cX6_layWay 10 = .ok (.iload_n 1, 1) := by decide +kernel
theorem dX6_layWay_11 : decode cX6_layWay 11 = .ok (.istore_n 3, 1) := by decide +kernel
theorem dX6_layWay_12 : decode cX6_layWay 12 = .ok (.aload_n 0, 1) := by decide +kernel
theorem dX6_layWay_13 : decode cX6_layWay 13 = .ok (.getfield 42, 3) := by decide +kernel
theorem dX6_layWay_16 : decode cX6_layWay 16 = .ok (.iload_n 1, 1) := by decide +kernel
theorem dX6_layWay_17 : decode cX6_layWay 17 = .ok (.iaload, 1) := by decide +kernel
theorem dX6_layWay_18 : decode cX6_layWay 18 = .ok (.bipush 6, 2) := by decide +kernel
theorem dX6_layWay_20 : decode cX6_layWay 20 = .ok (.if_icmp .ge 7, 3) := by decide +kernel
theorem dX6_layWay_23 : decode cX6_layWay 23 = .ok (.iconst 1, 1) := by decide +kernel
theorem dX6_layWay_24 : decode cX6_layWay 24 = .ok (.goto 4, 3) := by decide +kernel
theorem dX6_layWay_27 : decode cX6_layWay 27 = .ok (.iconst 0, 1) := by decide +kernel
theorem dX6_layWay_28 : decode cX6_layWay 28 = .ok (.istore 4, 2) := by decide +kernel
theorem dX6_layWay_30 : decode cX6_layWay 30 = .ok (.iload 4, 2) := by decide +kernel
theorem dX6_layWay_32 : decode cX6_layWay 32 = .ok (.ifCond .eq 53, 3) := by decide +kernel
theorem dX6_layWay_35 : decode cX6_layWay 35 = .ok (.aload_n 0, 1) := by decide +kernel
theorem dX6_layWay_36 : decode cX6_layWay 36 = .ok (.getfield 45, 3) := by decide +kernel
theorem dX6_layWay_39 : decode cX6_layWay 39 = .ok (.aload_n 0, 1) := by decide +kernel
theorem dX6_layWay_40 : decode cX6_layWay 40 = .ok (.getfield 134, 3) := by decide +kernel
theorem dX6_layWay_43 : decode cX6_layWay 43 = .ok (.iload_n 3, 1) := by decide +kernel
theorem dX6_layWay_44 : decode cX6_layWay 44 = .ok (.iastore, 1) := by decide +kernel
theorem dX6_layWay_45 : decode cX6_layWay 45 = .ok (.aload_n 0, 1) := by decide +kernel
theorem dX6_layWay_46 : decode cX6_layWay 46 = .ok (.dup, 1) := by decide +kernel
theorem dX6_layWay_47 : decode cX6_layWay 47 = .ok (.getfield 134, 3) := by decide +kernel
theorem dX6_layWay_50 : decode cX6_layWay 50 = .ok (.iconst 1, 1) := by decide +kernel
theorem dX6_layWay_51 : decode cX6_layWay 51 = .ok (.iadd, 1) := by decide +kernel
theorem dX6_layWay_52 : decode cX6_layWay 52 = .ok (.putfield 134, 3) := by decide +kernel
theorem dX6_layWay_55 : decode cX6_layWay 55 = .ok (.iload_n 3, 1) := by decide +kernel
theorem dX6_layWay_56 : decode cX6_layWay 56 = .ok (.iload_n 2, 1) := by decide +kernel
theorem dX6_layWay_57 : decode cX6_layWay 57 = .ok (.if_icmp .eq 7, 3) := by decide +kernel
theorem dX6_layWay_60 : decode cX6_layWay 60 = .ok (.iconst 1, 1) := by decide +kernel
theorem dX6_layWay_61 : decode cX6_layWay 61 = .ok (.goto 4, 3) := by decide +kernel
theorem dX6_layWay_64 : decode cX6_layWay 64 = .ok (.iconst 0, 1) := by decide +kernel
theorem dX6_layWay_65 : decode cX6_layWay 65 = .ok (.istore 4, 2) := by decide +kernel
theorem dX6_layWay_67 : decode cX6_layWay 67 = .ok (.iload 4, 2) := by decide +kernel
theorem dX6_layWay_69 : decode cX6_layWay 69 = .ok (.ifCond .eq 11, 3) := by decide +kernel
theorem dX6_layWay_72 : decode cX6_layWay 72 = .ok (.aload_n 0, 1) := by decide +kernel
theorem dX6_layWay_73 : decode cX6_layWay 73 = .ok (.iload_n 3, 1) := by decide +kernel
theorem dX6_layWay_74 : decode cX6_layWay 74 = .ok (.invokevirtual 137, 3) := by decide +kernel
theorem dX6_layWay_77 : decode cX6_layWay 77 = .ok (.goto 4, 3) := by decide +kernel
theorem dX6_layWay_80 : decode cX6_layWay 80 = .ok (.iload_n 3, 1) := by decide +kernel
theorem dX6_layWay_81 : decode cX6_layWay 81 = .ok (.istore_n 3, 1) := by decide +kernel
theorem dX6_layWay_82 : decode cX6_layWay 82 = .ok (.goto (-52), 3) := by decide +kernel
theorem dX6_layWay_85 : decode cX6_layWay 85 = .ok (.return_, 1) := by decide +kernel
set_option maxRecDepth 20000 in
theorem ggX6_way_X6_isNode : GoodIn wsX6_way wsX6_isNode := goodIn_r _ [7, 8, 9, 10, 6, 11, 28, 29, 30, 31, 32, 33, 34, 35, 36, 37, 38, 39, 40, 41, 42, 43, 44, 45, 46, 47, 48, 49, 50, 51, 52, 53, 54, 55, 56, 57, 58, 59, 60, 61] (by decide +kernel) (by decide +kernel)
set_option maxRecDepth 20000 in
theorem gX6_way_X6_isNode : GoodIn wsX6_way (wsV RX6 140 RX6 yX6_isNode wsX6_isNode) := goodIn_app (goodIn_of _ (by decide +kernel)) ggX6_way_X6_isNode
set_option maxRecDepth 20000 in
theorem ggX6_way_X6_layWay : GoodIn wsX6_way wsX6_layWay := goodIn_r _ [15, 1, 16, 2, 17, 18, 19, 6, 20, 8, 21, 22, 23, 24, 25, 26, 27, 28, 29, 30, 31, 32, 33, 34, 35, 36, 37, 38, 39, 40, 41, 42, 43, 44, 45, 46, 47, 48, 49, 50, 51, 52, 53, 54, 55, 56, 57, 58, 59, 60, 61] (by decide +kernel) (by decide +kernel)
set_option maxRecDepth 20000 in
theorem gX6_way_X6_layWay : GoodIn wsX6_way (wsV RX6 143 RX6 yX6_layWay wsX6_layWay) := goodIn_app (goodIn_of _ (by decide +kernel)) ggX6_way_X6_layWay
set_option maxRecDepth 20000 in
theorem ggX6_way_X6_within : GoodIn wsX6_way wsX6_within := goodIn_r _ [11] (by decide +kernel) (by decide +kernel)
set_option maxRecDepth 20000 in
theorem gX6_way_X6_within : GoodIn wsX6_way (va_wsS RX6 48 yX6_within wsX6_within) := goodIn_app (goodIn_of _ (by decide +kernel)) ggX6_way_X6_within
theorem dX6_way_0 : decode cX6_way 0 = .ok (.aload_n 0, 1) := by decide +kernel
theorem dX6_way_1 : decode cX6_way 1 = .ok (.iload_n 1, 1) := by decide +kernel
theorem dX6_way_2 : decode cX6_way 2 = .ok (.invokevirtual 140, 3) := by decide +kernel
theorem dX6_way_5 : decode cX6_way 5 = .ok (.ifCond .eq 11, 3) := by decide +kernel
theorem dX6_way_8 : decode cX6_way 8 = .ok (.aload_n 0, 1) := by decide +kernel
theorem dX6_way_9 : decode cX6_way 9 = .ok (.iload_n 2, 1) := by decide +kernel
theorem dX6_way_10 : decode cX6_way 10 = .ok (.invokevirtual 140, 3) := by decide +kernel
theorem dX6_way_13 : decode cX6_way 13 = .ok (.ifCond .ne 7, 3) := by decide +kernel
theorem dX6_way_16 : decode cX6_way 16 = .ok (.sipush (-1001), 3) := by decide +kernel
theorem dX6_way_19 : decode cX6_way 19 = .ok (.ireturn, 1) := by decide +kernel
theorem dX6_way_20 : decode cX6_way 20 = .ok (.aload_n 0, 1) := by decide +kernel
theorem dX6_way_21 : decode cX6_way 21 = .ok (.iload_n 1, 1) := by decide +kernel
theorem dX6_way_22 : decode cX6_way 22 = .ok (.iload_n 2, 1) := by decide +kernel
theorem dX6_way_23 : decode cX6_way 23 = .ok (.invokevirtual 143, 3) := by decide +kernel
theorem dX6_way_26 : decode cX6_way 26 = .ok (.iload_n 3, 1) := by decide +kernel
theorem dX6_way_27 : decode cX6_way 27 = .ok (.iconst 0, 1) := by decide +kernel
theorem dX6_way_28 : decode cX6_way 28 = .ok (.aload_n 0, 1) := by decide +kernel
theorem dX6_way_29 : decode cX6_way 29 = .ok (.getfield 134, 3) := by decide +kernel
theorem dX6_way_32 : decode cX6_way 32 = .ok (.iconst 1, 1) := by decide +kernel
theorem dX6_way_33 : decode cX6_way 33 = .ok (.isub, 1) := by decide +kernel
theorem dX6_way_34 : decode cX6_way 34 = .ok (.invokestatic 48, 3) := by decide +kernel
theorem dX6_way_37 : decode cX6_way 37 = .ok (.ifCond .eq 12, 3) := by decide +kernel
theorem dX6_way_40 : decode cX6_way 40 = .ok (.aload_n 0, 1) := by decide +kernel
theorem dX6_way_41 : decode cX6_way 41 = .ok (.getfield 45, 3) := by decide +kernel
theorem dX6_way_44 : decode cX6_way 44 = .ok (.iload_n 3, 1) := by decide +kernel
theorem dX6_way_45 : decode cX6_way 45 = .ok (.iaload, 1) := by decide +kernel
theorem dX6_way_46 : decode cX6_way 46 = .ok (.goto 4, 3) := by decide +kernel
theorem dX6_way_49 : decode cX6_way 49 = .ok (.iconst (-1), 1) := by decide +kernel
theorem dX6_way_50 : decode cX6_way 50 = .ok (.ireturn, 1) := by decide +kernel
theorem dX6_linkFrom_0 : decode cX6_linkFrom 0 = .ok (.iconst (-1), 1) := by decide +kernel
theorem dX6_linkFrom_1 : decode cX6_linkFrom 1 = .ok (.istore_n 3, 1) := by decide +kernel
theorem dX6_linkFrom_2 : decode cX6_linkFrom 2 = .ok (.iconst 0, 1) := by decide +kernel
theorem dX6_linkFrom_3 : decode cX6_linkFrom 3 = .ok (.istore 4, 2) := by decide +kernel
theorem dX6_linkFrom_5 : decode cX6_linkFrom 5 = .ok (.iload 4, 2) := by decide +kernel
theorem dX6_linkFrom_7 : decode cX6_linkFrom 7 = .ok (.aload_n 0, 1) := by decide +kernel
theorem dX6_linkFrom_8 : decode cX6_linkFrom 8 = .ok (.getfield 85, 3) := by decide +kernel
theorem dX6_linkFrom_11 : decode cX6_linkFrom 11 = .ok (.if_icmp .ge 38, 3) := by decide +kernel
theorem dX6_linkFrom_14 : decode cX6_linkFrom 14 = .ok (.aload_n 0, 1) := by decide +kernel
theorem dX6_linkFrom_15 : decode cX6_linkFrom 15 = .ok (.getfield 13, 3) := by decide +kernel
theorem dX6_linkFrom_18 : decode cX6_linkFrom 18 = .ok (.iload 4, 2) := by decide +kernel
theorem dX6_linkFrom_20 : decode cX6_linkFrom 20 = .ok (.iaload, 1) := by decide +kernel
theorem dX6_linkFrom_21 : decode cX6_linkFrom 21 = .ok (.iload_n 1, 1) := by decide +kernel
theorem dX6_linkFrom_22 : decode cX6_linkFrom 22 = .ok (.if_icmp .ne 19, 3) := by decide +kernel
theorem dX6_linkFrom_25 : decode cX6_linkFrom 25 = .ok (.aload_n 0, 1) := by decide +kernel
theorem dX6_linkFrom_26 : decode cX6_linkFrom 26 = .ok (.getfield 16, 3) := by decide +kernel
theorem dX6_linkFrom_29 : decode cX6_linkFrom 29 = .ok (.iload 4, 2) := by decide +kernel
theorem dX6_linkFrom_31 : decode cX6_linkFrom 31 = .ok (.iaload, 1) := by decide +kernel
theorem dX6_linkFrom_32 : decode cX6_linkFrom 32 = .ok (.iload_n 2, 1) := by decide +kernel
theorem dX6_linkFrom_33 : decode cX6_linkFrom 33 = .ok (.if_icmp .ne 8, 3) := by decide +kernel
theorem dX6_linkFrom_36 : decode cX6_linkFrom 36 = .ok (.iload 4, 2) := by decide +kernel
theorem dX6_linkFrom_38 : decode cX6_linkFrom 38 = .ok (.goto 4, 3) := by decide +kernel
theorem dX6_linkFrom_41 : decode cX6_linkFrom 41 = .ok (.iload_n 3, 1) := by decide +kernel
theorem dX6_linkFrom_42 : decode cX6_linkFrom 42 = .ok (.istore_n 3, 1) := by decide +kernel
theorem dX6_linkFrom_43 : decode cX6_linkFrom 43 = .ok (.iinc 4 1, 3) := by decide +kernel
theorem dX6_linkFrom_46 : decode cX6_linkFrom 46 = .ok (.goto (-41), 3) := by decide +kernel
theorem dX6_linkFrom_49 : decode cX6_linkFrom 49 = .ok (.iload_n 3, 1) := by decide +kernel
theorem dX6_linkFrom_50 : decode cX6_linkFrom 50 = .ok (.ireturn, 1) := by decide +kernel
set_option maxRecDepth 20000 in
theorem ggX6_treeOf_X6_has : GoodIn wsX6_treeOf wsX6_has := goodIn_r _ [7] (by decide +kernel) (by decide +kernel)
set_option maxRecDepth 20000 in
theorem gX6_treeOf_X6_has : GoodIn wsX6_treeOf (va_wsS RX6 120 yX6_has wsX6_has) := goodIn_app (goodIn_of _ (by decide +kernel)) ggX6_treeOf_X6_has
set_option maxRecDepth 20000 in
theorem ggX6_treeOf_X6_layWay : GoodIn wsX6_treeOf wsX6_layWay := goodIn_r _ [11, 2, 12, 3, 13, 14, 15, 6, 16, 1, 17, 18, 19, 20, 21, 22, 23, 28, 29, 30, 31, 32, 33, 34, 35, 36, 37, 38, 39, 40, 41, 42, 43, 44, 45, 46, 47, 48, 49, 50, 51, 52, 53, 54, 55, 56, 57, 58, 59, 60, 61] (by decide +kernel) (by decide +kernel)
set_option maxRecDepth 20000 in
theorem gX6_treeOf_X6_layWay : GoodIn wsX6_treeOf (wsV RX6 143 RX6 yX6_layWay wsX6_layWay) := goodIn_app (goodIn_of _ (by decide +kernel)) ggX6_treeOf_X6_layWay
set_option maxRecDepth 20000 in
theorem ggX6_treeOf_X6_linkFrom : GoodIn wsX6_treeOf wsX6_linkFrom := goodIn_r _ [27, 17, 19, 18, 28, 29, 30, 31, 32, 33, 34, 35, 36, 37, 38, 39, 40, 41, 42, 43, 44, 45, 46, 47, 48, 49, 50, 51, 52, 53, 54, 55, 56, 57, 58, 59, 60, 61] (by decide +kernel) (by decide +kernel)
set_option maxRecDepth 20000 in
theorem gX6_treeOf_X6_linkFrom : GoodIn wsX6_treeOf (wsV RX6 147 RX6 yX6_linkFrom wsX6_linkFrom) := goodIn_app (goodIn_of _ (by decide +kernel)) ggX6_treeOf_X6_linkFrom
theorem dX6_treeOf_0 : decode cX6_treeOf 0 = .ok (.iconst 0, 1) := by decide +kernel
theorem dX6_treeOf_1 : decode cX6_treeOf 1 = .ok (.istore_n 3, 1) := by decide +kernel
theorem dX6_treeOf_2 : decode cX6_treeOf 2 = .ok (.iconst 0, 1) := by decide +kernel
theorem dX6_treeOf_3 : decode cX6_treeOf 3 = .ok (.istore 4, 2) := by decide +kernel
theorem dX6_treeOf_5 : decode cX6_treeOf 5 = .ok (.iload 4, 2) := by decide +kernel
theorem dX6_treeOf_7 : decode cX6_treeOf 7 = .ok (.aload_n 0, 1) := by decide +kernel
theorem dX6_treeOf_8 : decode cX6_treeOf 8 = .ok (.getfield 82, 3) := by decide +kernel
theorem dX6_treeOf_11 : decode cX6_treeOf 11 = .ok (.if_icmp .ge 68, 3) := by decide +kernel
theorem dX6_treeOf_14 : decode cX6_treeOf 14 = .ok (.iload_n 2, 1) := by decide +kernel
theorem dX6_treeOf_15 : decode cX6_treeOf 15 = .ok (.iload 4, 2) := by decide +kernel
theorem dX6_treeOf_17 : decode cX6_treeOf 17 = .ok (.invokestatic 120, 3) := by decide +kernel
theorem dX6_treeOf_20 : decode cX6_treeOf 20 = .ok (.ifCond .eq 53, 3) := by decide +kernel
theorem dX6_treeOf_23 : decode cX6_treeOf 23 = .ok (.aload_n 0, 1) := by decide +kernel
theorem dX6_treeOf_24 : decode cX6_treeOf 24 = .ok (.iload_n 1, 1) := by decide +kernel
theorem dX6_treeOf_25 : decode cX6_treeOf 25 = .ok (.iload 4, 2) := by decide +kernel
theorem dX6_treeOf_27 : decode cX6_treeOf 27 = .ok (.invokevirtual 143, 3) := by decide +kernel
theorem dX6_treeOf_30 : decode cX6_treeOf 30 = .ok (.iconst 1, 1) := by decide +kernel
theorem dX6_treeOf_31 : decode cX6_treeOf 31 = .ok (.istore 5, 2) := by decide +kernel
theorem dX6_treeOf_33 : decode cX6_treeOf 33 = .ok (.iload 5, 2) := by decide +kernel
theorem dX6_treeOf_35 : decode cX6_treeOf 35 = .ok (.aload_n 0, 1) := by decide +kernel
theorem dX6_treeOf_36 : decode cX6_treeOf 36 = .ok (.getfield 134, 3) := by decide +kernel
theorem dX6_treeOf_39 : decode cX6_treeOf 39 = .ok (.if_icmp .ge 34, 3) := by decide +kernel
theorem dX6_treeOf_42 : decode cX6_treeOf 42 = .ok (.iload_n 3, 1) := by decide +kernel
theorem dX6_treeOf_43 : decode cX6_treeOf 43 = .ok (.iconst 1, 1) := by decide +kernel
theorem dX6_treeOf_44 : decode cX6_treeOf 44 = .ok (.aload_n 0, 1) := by decide +kernel
theorem dX6_treeOf_45 : decode cX6_treeOf 45 = .ok (.aload_n 0, 1) := by decide +kernel
theorem dX6_treeOf_46 : decode cX6_treeOf 46 = .ok (.getfield 45, 3) := by decide +kernel
theorem dX6_treeOf_49 : decode cX6_treeOf 49 = .ok (.iload 5, 2) := by decide +kernel
theorem dX6_treeOf_51 : decode cX6_treeOf 51 = .ok (.iconst 1, 1) := by decide +kernel
theorem dX6_treeOf_52 : decode cX6_treeOf 52 = .ok (.isub, 1) := by decide +kernel
theorem dX6_treeOf_53 : decode cX6_treeOf 53 = .ok (.iaload, 1) := by decide +kernel
theorem dX6_treeOf_54 : decode cX6_treeOf 54 = .ok (.aload_n 0, 1) := by decide +kernel
theorem dX6_treeOf_55 : decode cX6_treeOf 55 = .ok (.getfield 45, 3) := by decide +kernel
theorem dX6_treeOf_58 : decode cX6_treeOf 58 = .ok (.iload 5, 2) := by decide +kernel
theorem dX6_treeOf_60 : decode cX6_treeOf 60 = .ok (.iaload, 1) := by decide +kernel
theorem dX6_treeOf_61 : decode cX6_treeOf 61 = .ok (.invokevirtual 147, 3) := by decide +kernel
theorem dX6_treeOf_64 : decode cX6_treeOf 64 = .ok (.ishl, 1) := by decide +kernel
theorem dX6_treeOf_65 : decode cX6_treeOf 65 = .ok (.ior, 1) := by decide +kernel
theorem dX6_treeOf_66 : decode cX6_treeOf 66 = .ok (.istore_n 3, 1) := by decide +kernel
theorem dX6_treeOf_67 : decode cX6_treeOf 67 = .ok (.iinc 5 1, 3) := by decide +kernel
theorem dX6_treeOf_70 : decode cX6_treeOf 70 = .ok (.goto (-37), 3) := by decide +kernel
theorem dX6_treeOf_73 : decode cX6_treeOf 73 = .ok (.iinc 4 1, 3) := by decide +kernel
theorem dX6_treeOf_76 : decode cX6_treeOf 76 = .ok (.goto (-71), 3) := by decide +kernel
theorem dX6_treeOf_79 : decode cX6_treeOf 79 = .ok (.iload_n 3, 1) := by decide +kernel
theorem dX6_treeOf_80 : decode cX6_treeOf 80 = .ok (.ireturn, 1) := by decide +kernel
set_option maxRecDepth 20000 in
theorem ggX6_isSet_X6_within : GoodIn wsX6_isSet wsX6_within := goodIn_r _ [5] (by decide +kernel) (by decide +kernel)
set_option maxRecDepth 20000 in
theorem gX6_isSet_X6_within : GoodIn wsX6_isSet (va_wsS RX6 48 yX6_within wsX6_within) := goodIn_app (goodIn_of _ (by decide +kernel)) ggX6_isSet_X6_within
theorem dX6_isSet_0 : decode cX6_isSet 0 = .ok (.iload_n 1, 1) := by decide +kernel
theorem dX6_isSet_1 : decode cX6_isSet 1 = .ok (.iconst 0, 1) := by decide +kernel
theorem dX6_isSet_2 : decode cX6_isSet 2 = .ok (.iconst 1, 1) := by decide +kernel
theorem dX6_isSet_3 : decode cX6_isSet 3 = .ok (.aload_n 0, 1) := by decide +kernel
theorem dX6_isSet_4 : decode cX6_isSet 4 = .ok (.getfield 82, 3) := by decide +kernel
theorem dX6_isSet_7 : decode cX6_isSet 7 = .ok (.ishl, 1) := by decide +kernel
theorem dX6_isSet_8 : decode cX6_isSet 8 = .ok (.iconst 1, 1) := by decide +kernel
theorem dX6_isSet_9 : decode cX6_isSet 9 = .ok (.isub, 1) := by decide +kernel
theorem dX6_isSet_10 : decode cX6_isSet 10 = .ok (.invokestatic 48, 3) := by decide +kernel
theorem dX6_isSet_13 : decode cX6_isSet 13 = .ok (.ireturn, 1) := by decide +kernel
set_option maxRecDepth 20000 in
theorem ggX6_tree_X6_isNode : GoodIn wsX6_tree wsX6_isNode := goodIn_r _ [5, 6, 7, 8, 4, 9, 43, 44, 45, 46, 47, 48, 49, 50, 51, 52, 53, 54, 55, 56, 57, 58, 59, 60, 61, 62, 63, 64, 65, 66, 67, 68, 69, 70, 71, 72, 73, 74, 75, 76] (by decide +kernel) (by decide +kernel)
set_option maxRecDepth 20000 in
theorem gX6_tree_X6_isNode : GoodIn wsX6_tree (wsV RX6 140 RX6 yX6_isNode wsX6_isNode) := goodIn_app (goodIn_of _ (by decide +kernel)) ggX6_tree_X6_isNode
set_option maxRecDepth 20000 in
theorem ggX6_tree_X6_isSet : GoodIn wsX6_tree wsX6_isSet := goodIn_r _ [13, 6, 7, 8, 4, 9, 43, 44, 45, 46, 47, 48, 49, 50, 51, 52, 53, 54, 55, 56, 57, 58, 59, 60, 61, 62, 63, 64, 65, 66, 67, 68, 69, 70, 71, 72, 73, 74, 75, 76] (by decide +kernel) (by decide +kernel)
set_option maxRecDepth 20000 in
theorem gX6_tree_X6_isSet : GoodIn wsX6_tree (wsV RX6 150 RX6 yX6_isSet wsX6_isSet) := goodIn_app (goodIn_of _ (by decide +kernel)) ggX6_tree_X6_isSet
set_option maxRecDepth 20000 in
theorem ggX6_tree_X6_treeOf : GoodIn wsX6_tree wsX6_treeOf := goodIn_r _ [17, 6, 18, 19, 20, 21, 4, 22, 23, 24, 25, 26, 27, 28, 29, 30, 31, 32, 33, 34, 35, 36, 37, 38, 39, 40, 41, 42, 43, 44, 45, 46, 47, 48, 49, 50, 51, 52, 53, 54, 55, 56, 57, 58, 59, 60, 61, 62, 63, 64, 65, 66, 67, 68, 69, 70, 71, 72, 73, 74, 75, 76] (by decide +kernel) (by decide +kernel)
set_option maxRecDepth 20000 in
theorem gX6_tree_X6_treeOf : GoodIn wsX6_tree (wsV RX6 153 RX6 yX6_treeOf wsX6_treeOf) := goodIn_app (goodIn_of _ (by decide +kernel)) ggX6_tree_X6_treeOf
theorem dX6_tree_0 : decode cX6_tree 0 = .ok (.aload_n 0, 1) := by decide +kernel
theorem dX6_tree_1 : decode cX6_tree 1 = .ok (.iload_n 1, 1) := by decide +kernel
theorem dX6_tree_2 : decode cX6_tree 2 = .ok (.invokevirtual 140, 3) := by decide +kernel
theorem dX6_tree_5 : decode cX6_tree 5 = .ok (.ifCond .ne 7, 3) := by decide +kernel
theorem dX6_tree_8 : decode cX6_tree 8 = .ok (.sipush (-1001), 3) := by decide +kernel
theorem dX6_tree_11 : decode cX6_tree 11 = .ok (.ireturn, 1) := by decide +kernel
theorem dX6_tree_12 : decode cX6_tree 12 = .ok (.aload_n 0, 1) := by decide +kernel
theorem dX6_tree_13 : decode cX6_tree 13 = .ok (.iload_n 2, 1) := by decide +kernel
theorem dX6_tree_14 : decode cX6_tree 14 = .ok (.invokevirtual 150, 3) := by decide +kernel
theorem dX6_tree_17 : decode cX6_tree 17 = .ok (.ifCond .eq 12, 3) := by decide +kernel
theorem dX6_tree_20 : decode cX6_tree 20 = .ok (.aload_n 0, 1) := by decide +kernel
theorem dX6_tree_21 : decode cX6_tree 21 = .ok (.iload_n 1, 1) := by decide +kernel
theorem dX6_tree_22 : decode cX6_tree 22 = .ok (.iload_n 2, 1) := by decide +kernel
theorem dX6_tree_23 : decode cX6_tree 23 = .ok (.invokevirtual 153, 3) := by decide +kernel
theorem dX6_tree_26 : decode cX6_tree 26 = .ok (.goto 6, 3) := by decide +kernel
theorem dX6_tree_29 : decode cX6_tree 29 = .ok (.sipush (-1002), 3) := by decide +kernel
theorem dX6_tree_32 : decode cX6_tree 32 = .ok (.ireturn, 1) := by decide +kernel
theorem dX6_ones_0 : decode cX6_ones 0 = .ok (.iconst 0, 1) := by decide +kernel
theorem dX6_ones_1 : decode cX6_ones 1 = .ok (.istore_n 2, 1) := by decide +kernel
theorem dX6_ones_2 : decode cX6_ones 2 = .ok (.iconst 0, 1) := by decide +kernel
theorem dX6_ones_3 : decode cX6_ones 3 = .ok (.istore_n 3, 1) := by decide +kernel
theorem dX6_ones_4 : decode cX6_ones 4 = .ok (.iload_n 3, 1) := by decide +kernel
theorem dX6_ones_5 : decode cX6_ones 5 = .ok (.bipush 40, 2) := by decide +kernel
theorem dX6_ones_7 : decode cX6_ones 7 = .ok (.if_icmp .ge 18, 3) := by decide +kernel
theorem dX6_ones_10 : decode cX6_ones 10 = .ok (.iload_n 2, 1) := by decide +kernel
theorem dX6_ones_11 : decode cX6_ones 11 = .ok (.lload_n 0, 1) := by decide +kernel
theorem dX6_ones_12 : decode cX6_ones 12 = .ok (.iload_n 3, 1) := by decide +kernel
theorem dX6_ones_13 : decode cX6_ones 13 = .ok (.lshr, 1) := by decide +kernel
theorem dX6_ones_14 : decode cX6_ones 14 = .ok (.lconst 1, 1) := by decide +kernel
theorem dX6_ones_15 : decode cX6_ones 15 = .ok (.land, 1) := by decide +kernel
theorem dX6_ones_16 : decode cX6_ones 16 = .ok (.l2i, 1) := by decide +kernel
theorem dX6_ones_17 : decode cX6_ones 17 = .ok (.iadd, 1) := by decide +kernel
theorem dX6_ones_18 : decode cX6_ones 18 = .ok (.istore_n 2, 1) := by decide +kernel
theorem dX6_ones_19 : decode cX6_ones 19 = .ok (.iinc 3 1, 3) := by decide +kernel
theorem dX6_ones_22 : decode cX6_ones 22 = .ok (.goto (-18), 3) := by decide +kernel
theorem dX6_ones_25 : decode cX6_ones 25 = .ok (.iload_n 2, 1) := by decide +kernel
theorem dX6_ones_26 : decode cX6_ones 26 = .ok (.ireturn, 1) := by decide +kernel
set_option maxRecDepth 20000 in
theorem ggX6_isPlace_X6_within : GoodIn wsX6_isPlace wsX6_within := goodIn_r _ [4] (by decide +kernel) (by decide +kernel)
set_option maxRecDepth 20000 in
theorem gX6_isPlace_X6_within : GoodIn wsX6_isPlace (va_wsS RX6 48 yX6_within wsX6_within) := goodIn_app (goodIn_of _ (by decide +kernel)) ggX6_isPlace_X6_within
theorem dX6_isPlace_0 : decode cX6_isPlace 0 = .ok (.iload_n 0, 1) := by decide +kernel
theorem dX6_isPlace_1 : decode cX6_isPlace 1 = .ok (.iconst 0, 1) := by decide +kernel
theorem dX6_isPlace_2 : decode cX6_isPlace 2 = .ok (.iconst 3, 1) := by decide +kernel
theorem dX6_isPlace_3 : decode cX6_isPlace 3 = .ok (.invokestatic 48, 3) := by decide +kernel
theorem dX6_isPlace_6 : decode cX6_isPlace 6 = .ok (.ireturn, 1) := by decide +kernel
set_option maxRecDepth 20000 in
theorem ggX6_bind_X6_isPlace : GoodIn wsX6_bind wsX6_isPlace := goodIn_r _ [5, 6, 7, 4, 8] (by decide +kernel) (by decide +kernel)
set_option maxRecDepth 20000 in
theorem gX6_bind_X6_isPlace : GoodIn wsX6_bind (va_wsS RX6 156 yX6_isPlace wsX6_isPlace) := goodIn_app (goodIn_of _ (by decide +kernel)) ggX6_bind_X6_isPlace
set_option maxRecDepth 20000 in
theorem ggX6_bind_X6_isNode : GoodIn wsX6_bind wsX6_isNode := goodIn_r _ [12, 13, 6, 7, 4, 8, 50, 51, 52, 53, 54, 55, 56, 57, 58, 59, 60, 61, 62, 63, 64, 65, 66, 67, 68, 69, 70, 71, 72, 73, 74, 75, 76, 77, 78, 79, 80, 81, 82, 83] (by decide +kernel) (by decide +kernel)
set_option maxRecDepth 20000 in
theorem gX6_bind_X6_isNode : GoodIn wsX6_bind (wsV RX6 140 RX6 yX6_isNode wsX6_isNode) := goodIn_app (goodIn_of _ (by decide +kernel)) ggX6_bind_X6_isNode
set_option maxRecDepth 20000 in
theorem ggX6_bind_X6_isSet : GoodIn wsX6_bind wsX6_isSet := goodIn_r _ [17, 13, 6, 7, 4, 8, 50, 51, 52, 53, 54, 55, 56, 57, 58, 59, 60, 61, 62, 63, 64, 65, 66, 67, 68, 69, 70, 71, 72, 73, 74, 75, 76, 77, 78, 79, 80, 81, 82, 83] (by decide +kernel) (by decide +kernel)
set_option maxRecDepth 20000 in
theorem gX6_bind_X6_isSet : GoodIn wsX6_bind (wsV RX6 150 RX6 yX6_isSet wsX6_isSet) := goodIn_app (goodIn_of _ (by decide +kernel)) ggX6_bind_X6_isSet
set_option maxRecDepth 20000 in
theorem ggX6_bind_X6_treeOf : GoodIn wsX6_bind wsX6_treeOf := goodIn_r _ [21, 13, 22, 23, 24, 25, 4, 26, 27, 28, 29, 30, 31, 32, 33, 34, 35, 36, 37, 38, 39, 40, 41, 42, 43, 44, 45, 46, 50, 51, 52, 53, 54, 55, 56, 57, 58, 59, 60, 61, 62, 63, 64, 65, 66, 67, 68, 69, 70, 71, 72, 73, 74, 75, 76, 77, 78, 79, 80, 81, 82, 83] (by decide +kernel) (by decide +kernel)
set_option maxRecDepth 20000 in
theorem gX6_bind_X6_treeOf : GoodIn wsX6_bind (wsV RX6 153 RX6 yX6_treeOf wsX6_treeOf) := goodIn_app (goodIn_of _ (by decide +kernel)) ggX6_bind_X6_treeOf
set_option maxRecDepth 20000 in
theorem ggX6_bind_X6_ones : GoodIn wsX6_bind wsX6_ones := goodIn_r _ [49] (by decide +kernel) (by decide +kernel)
set_option maxRecDepth 20000 in
theorem gX6_bind_X6_ones : GoodIn wsX6_bind (va_wsS RX6 159 yX6_ones wsX6_ones) := goodIn_app (goodIn_of _ (by decide +kernel)) ggX6_bind_X6_ones
theorem dX6_bind_0 : decode cX6_bind 0 = .ok (.iload_n 1, 1) := by decide +kernel
theorem dX6_bind_1 : decode cX6_bind 1 = .ok (.invokestatic 156, 3) := by decide +kernel
theorem dX6_bind_4 : decode cX6_bind 4 = .ok (.ifCond .eq 11, 3) := by decide +kernel
theorem dX6_bind_7 : decode cX6_bind 7 = .ok (.aload_n 0, 1) := by decide +kernel
theorem dX6_bind_8 : decode cX6_bind 8 = .ok (.iload_n 2, 1) := by decide +kernel
theorem dX6_bind_9 : decode cX6_bind 9 = .ok (.invokevirtual 140, 3) := by decide +kernel
theorem dX6_bind_12 : decode cX6_bind 12 = .ok (.ifCond .ne 7, 3) := by decide +kernel
theorem dX6_bind_15 : decode cX6_bind 15 = .ok (.sipush (-1001), 3) := by decide +kernel
theorem dX6_bind_18 : decode cX6_bind 18 = .ok (.ireturn, 1) := by decide +kernel
theorem dX6_bind_19 : decode cX6_bind 19 = .ok (.aload_n 0, 1) := by decide +kernel
theorem dX6_bind_20 : decode cX6_bind 20 = .ok (.iload_n 3, 1) := by decide +kernel
theorem dX6_bind_21 : decode cX6_bind 21 = .ok (.invokevirtual 150, 3) := by decide +kernel
theorem dX6_bind_24 : decode cX6_bind 24 = .ok (.ifCond .ne 7, 3) := by decide +kernel
theorem dX6_bind_27 : decode cX6_bind 27 = .ok (.sipush (-1002), 3) := by decide +kernel
theorem dX6_bind_30 : decode cX6_bind 30 = .ok (.ireturn, 1) := by decide +kernel
theorem dX6_bind_31 : decode cX6_bind 31 = .ok (.aload_n 0, 1) := by decide +kernel
theorem dX6_bind_32 : decode cX6_bind 32 = .ok (.iload_n 2, 1) := by decide +kernel
theorem dX6_bind_33 : decode cX6_bind 33 = .ok (.iload_n 3, 1) := by decide +kernel
theorem dX6_bind_34 : decode cX6_bind 34 = .ok (.invokevirtual 153, 3) := by decide +kernel
theorem dX6_bind_37 : decode cX6_bind 37 = .ok (.istore 4, 2) := by decide +kernel
theorem dX6_bind_39 : decode cX6_bind 39 = .ok (.iload 4, 2) := by decide +kernel
theorem dX6_bind_41 : decode cX6_bind 41 = .ok (.ifCond .ne 7, 3) := by decide +kernel
theorem dX6_bind_44 : decode cX6_bind 44 = .ok (.sipush (-1003), 3) := by decide +kernel
theorem dX6_bind_47 : decode cX6_bind 47 = .ok (.ireturn, 1) := by decide +kernel
theorem dX6_bind_48 : decode cX6_bind 48 = .ok (.aload_n 0, 1) := by decide +kernel
theorem dX6_bind_49 : decode cX6_bind 49 = .ok (.getfield 29, 3) := by decide +kernel
theorem dX6_bind_52 : decode cX6_bind 52 = .ok (.iload_n 1, 1) := by decide +kernel
theorem dX6_bind_53 : decode cX6_bind 53 = .ok (.iaload, 1) := by decide +kernel
theorem dX6_bind_54 : decode cX6_bind 54 = .ok (.ifCond .eq 7, 3) := by decide +kernel
theorem dX6_bind_57 : decode cX6_bind 57 = .ok (.sipush (-1004), 3) := by decide +kernel
theorem dX6_bind_60 : decode cX6_bind 60 = .ok (.ireturn, 1) := by decide +kernel
theorem dX6_bind_61 : decode cX6_bind 61 = .ok (.aload_n 0, 1) := by decide +kernel
theorem dX6_bind_62 : decode cX6_bind 62 = .ok (.getfield 29, 3) := by decide +kernel
theorem dX6_bind_65 : decode cX6_bind 65 = .ok (.iload_n 1, 1) := by decide +kernel
theorem dX6_bind_66 : decode cX6_bind 66 = .ok (.iload 4, 2) := by decide +kernel
theorem dX6_bind_68 : decode cX6_bind 68 = .ok (.iastore, 1) := by decide +kernel
theorem dX6_bind_69 : decode cX6_bind 69 = .ok (.iload 4, 2) := by decide +kernel
theorem dX6_bind_71 : decode cX6_bind 71 = .ok (.i2l, 1) := by decide +kernel
theorem dX6_bind_72 : decode cX6_bind 72 = .ok (.invokestatic 159, 3) := by decide +kernel
theorem dX6_bind_75 : decode cX6_bind 75 = .ok (.ireturn, 1) := by decide +kernel
set_option maxRecDepth 20000 in
theorem ggX6_loosen_X6_isPlace : GoodIn wsX6_loosen wsX6_isPlace := goodIn_r _ [5, 6, 7, 4, 8] (by decide +kernel) (by decide +kernel)
set_option maxRecDepth 20000 in
theorem gX6_loosen_X6_isPlace : GoodIn wsX6_loosen (va_wsS RX6 156 yX6_isPlace wsX6_isPlace) := goodIn_app (goodIn_of _ (by decide +kernel)) ggX6_loosen_X6_isPlace
theorem dX6_loosen_0 : decode cX6_loosen 0 = .ok (.iload_n 1, 1) := by decide +kernel
theorem dX6_loosen_1 : decode cX6_loosen 1 = .ok (.invokestatic 156, 3) := by decide +kernel
theorem dX6_loosen_4 : decode cX6_loosen 4 = .ok (.ifCond .ne 7, 3) := by decide +kernel
theorem dX6_loosen_7 : decode cX6_loosen 7 = .ok (.sipush (-1001), 3) := by decide +kernel
theorem dX6_loosen_10 : decode cX6_loosen 10 = .ok (.ireturn, 1) := by decide +kernel
theorem dX6_loosen_11 : decode cX6_loosen 11 = .ok (.aload_n 0, 1) := by decide +kernel
theorem dX6_loosen_12 : decode cX6_loosen 12 = .ok (.getfield 29, 3) := by decide +kernel
theorem dX6_loosen_15 : decode cX6_loosen 15 = .ok (.iload_n 1, 1) := by decide +kernel
theorem dX6_loosen_16 : decode cX6_loosen 16 = .ok (.iaload, 1) := by decide +kernel
theorem dX6_loosen_17 : decode cX6_loosen 17 = .ok (.ifCond .ne 7, 3) := by decide +kernel
theorem dX6_loosen_20 : decode cX6_loosen 20 = .ok (.sipush (-1003), 3) := by decide +kernel
theorem dX6_loosen_23 : decode cX6_loosen 23 = .ok (.ireturn, 1) := by decide +kernel
theorem dX6_loosen_24 : decode cX6_loosen 24 = .ok (.aload_n 0, 1) := by decide +kernel
theorem dX6_loosen_25 : decode cX6_loosen 25 = .ok (.getfield 29, 3) := by decide +kernel
theorem dX6_loosen_28 : decode cX6_loosen 28 = .ok (.iload_n 1, 1) := by decide +kernel
theorem dX6_loosen_29 : decode cX6_loosen 29 = .ok (.iaload, 1) := by decide +kernel
theorem dX6_loosen_30 : decode cX6_loosen 30 = .ok (.istore_n 2, 1) := by decide +kernel
theorem dX6_loosen_31 : decode cX6_loosen 31 = .ok (.aload_n 0, 1) := by decide +kernel
theorem dX6_loosen_32 : decode cX6_loosen 32 = .ok (.getfield 29, 3) := by decide +kernel
theorem dX6_loosen_35 : decode cX6_loosen 35 = .ok (.iload_n 1, 1) := by decide +kernel
theorem dX6_loosen_36 : decode cX6_loosen 36 = .ok (.iconst 0, 1) := by decide +kernel
theorem dX6_loosen_37 : decode cX6_loosen 37 = .ok (.iastore, 1) := by decide +kernel
theorem dX6_loosen_38 : decode cX6_loosen 38 = .ok (.iload_n 2, 1) := by decide +kernel
theorem dX6_loosen_39 : decode cX6_loosen 39 = .ok (.ireturn, 1) := by decide +kernel
set_option maxRecDepth 20000 in
theorem ggX6_bound_X6_isPlace : GoodIn wsX6_bound wsX6_isPlace := goodIn_r _ [8, 9, 10, 7, 11] (by decide +kernel) (by decide +kernel)
set_option maxRecDepth 20000 in
theorem gX6_bound_X6_isPlace : GoodIn wsX6_bound (va_wsS RX6 156 yX6_isPlace wsX6_isPlace) := goodIn_app (goodIn_of _ (by decide +kernel)) ggX6_bound_X6_isPlace
set_option maxRecDepth 20000 in
theorem ggX6_bound_X6_isVariant : GoodIn wsX6_bound wsX6_isVariant := goodIn_r _ [14, 9, 10, 7, 11] (by decide +kernel) (by decide +kernel)
set_option maxRecDepth 20000 in
theorem gX6_bound_X6_isVariant : GoodIn wsX6_bound (va_wsS RX6 115 yX6_isVariant wsX6_isVariant) := goodIn_app (goodIn_of _ (by decide +kernel)) ggX6_bound_X6_isVariant
theorem dX6_bound_0 : decode cX6_bound 0 = .ok (.iload_n 1, 1) := by decide +kernel
theorem dX6_bound_1 : decode cX6_bound 1 = .ok (.invokestatic 156, 3) := by decide +kernel
theorem dX6_bound_4 : decode cX6_bound 4 = .ok (.ifCond .eq 12, 3) := by decide +kernel
theorem dX6_bound_7 : decode cX6_bound 7 = .ok (.aload_n 0, 1) := by decide +kernel
theorem dX6_bound_8 : decode cX6_bound 8 = .ok (.getfield 29, 3) := by decide +kernel
theorem dX6_bound_11 : decode cX6_bound 11 = .ok (.iload_n 1, 1) := by decide +kernel
theorem dX6_bound_12 : decode cX6_bound 12 = .ok (.iaload, 1) := by decide +kernel
theorem dX6_bound_13 : decode cX6_bound 13 = .ok (.ifCond .ne 7, 3) := by decide +kernel
theorem dX6_bound_16 : decode cX6_bound 16 = .ok (.ldc2_w 113, 3) := by decide +kernel
theorem dX6_bound_19 : decode cX6_bound 19 = .ok (.lreturn, 1) := by decide +kernel
theorem dX6_bound_20 : decode cX6_bound 20 = .ok (.iload_n 2, 1) := by decide +kernel
theorem dX6_bound_21 : decode cX6_bound 21 = .ok (.invokestatic 115, 3) := by decide +kernel
theorem dX6_bound_24 : decode cX6_bound 24 = .ok (.ifCond .eq 20, 3) := by decide +kernel
theorem dX6_bound_27 : decode cX6_bound 27 = .ok (.aload_n 0, 1) := by decide +kernel
theorem dX6_bound_28 : decode cX6_bound 28 = .ok (.getfield 38, 3) := by decide +kernel
theorem dX6_bound_31 : decode cX6_bound 31 = .ok (.bipush 20, 2) := by decide +kernel
theorem dX6_bound_33 : decode cX6_bound 33 = .ok (.iload_n 2, 1) := by decide +kernel
theorem dX6_bound_34 : decode cX6_bound 34 = .ok (.imul, 1) := by decide +kernel
theorem dX6_bound_35 : decode cX6_bound 35 = .ok (.bipush 16, 2) := by decide +kernel
theorem dX6_bound_37 : decode cX6_bound 37 = .ok (.iadd, 1) := by decide +kernel
theorem dX6_bound_38 : decode cX6_bound 38 = .ok (.iload_n 1, 1) := by decide +kernel
theorem dX6_bound_39 : decode cX6_bound 39 = .ok (.iadd, 1) := by decide +kernel
theorem dX6_bound_40 : decode cX6_bound 40 = .ok (.laload, 1) := by decide +kernel
theorem dX6_bound_41 : decode cX6_bound 41 = .ok (.goto 6, 3) := by decide +kernel
theorem dX6_bound_44 : decode cX6_bound 44 = .ok (.ldc2_w 118, 3) := by decide +kernel
theorem dX6_bound_47 : decode cX6_bound 47 = .ok (.lreturn, 1) := by decide +kernel
set_option maxRecDepth 20000 in
theorem ggX6_foldOf_X6_has : GoodIn wsX6_foldOf wsX6_has := goodIn_r _ [7] (by decide +kernel) (by decide +kernel)
set_option maxRecDepth 20000 in
theorem gX6_foldOf_X6_has : GoodIn wsX6_foldOf (va_wsS RX6 120 yX6_has wsX6_has) := goodIn_app (goodIn_of _ (by decide +kernel)) ggX6_foldOf_X6_has
theorem dX6_foldOf_0 : decode cX6_foldOf 0 = .ok (.lconst 0, 1) := by decide +kernel
theorem dX6_foldOf_1 : decode cX6_foldOf 1 = .ok (.lstore 4, 2) := by decide +kernel
theorem dX6_foldOf_3 : decode cX6_foldOf 3 = .ok (.iload_n 1, 1) := by decide +kernel
theorem dX6_foldOf_4 : decode cX6_foldOf 4 = .ok (.istore 6, 2) := by decide +kernel
theorem dX6_foldOf_6 : decode cX6_foldOf 6 = .ok (.iconst 0, 1) := by decide +kernel
theorem dX6_foldOf_7 : decode cX6_foldOf 7 = .ok (.istore 7, 2) := by decide +kernel
theorem dX6_foldOf_9 : decode cX6_foldOf 9 = .ok (.iload 7, 2) := by decide +kernel
theorem dX6_foldOf_11 : decode cX6_foldOf 11 = .ok (.iconst 4, 1) := by decide +kernel
theorem dX6_foldOf_12 : decode cX6_foldOf 12 = .ok (.if_icmp .ge 71, 3) := by decide +kernel
theorem dX6_foldOf_15 : decode cX6_foldOf 15 = .ok (.iload_n 3, 1) := by decide +kernel
theorem dX6_foldOf_16 : decode cX6_foldOf 16 = .ok (.ifCond .eq 67, 3) := by decide +kernel
theorem dX6_foldOf_19 : decode cX6_foldOf 19 = .ok (.aload_n 0, 1) := by decide +kernel
theorem dX6_foldOf_20 : decode cX6_foldOf 20 = .ok (.getfield 29, 3) := by decide +kernel
theorem dX6_foldOf_23 : decode cX6_foldOf 23 = .ok (.iload 7, 2) := by decide +kernel
theorem dX6_foldOf_25 : decode cX6_foldOf 25 = .ok (.iaload, 1) := by decide +kernel
theorem dX6_foldOf_26 : decode cX6_foldOf 26 = .ok (.ifCond .eq 51, 3) := by decide +kernel
theorem dX6_foldOf_29 : decode cX6_foldOf 29 = .ok (.aload_n 0, 1) := by decide +kernel
theorem dX6_foldOf_30 : decode cX6_foldOf 30 = .ok (.getfield 29, 3) := by decide +kernel
theorem dX6_foldOf_33 : decode cX6_foldOf 33 = .ok (.iload 7, 2) := by decide +kernel
theorem dX6_foldOf_35 : decode cX6_foldOf 35 = .ok (.iaload, 1) := by decide +kernel
theorem dX6_foldOf_36 : decode cX6_foldOf 36 = .ok (.iload_n 1, 1) := by decide +kernel
theorem dX6_foldOf_37 : decode cX6_foldOf 37 = .ok (.iconst (-1), 1) := by decide +kernel
theorem dX6_foldOf_38 : decode cX6_foldOf 38 = .ok (.ixor, 1) := by decide +kernel
theorem dX6_foldOf_39 : decode cX6_foldOf 39 = .ok (.iand, 1) := by decide +kernel
theorem dX6_foldOf_40 : decode cX6_foldOf 40 = .ok (.ifCond .ne 37, 3) := by decide +kernel
theorem dX6_foldOf_43 : decode cX6_foldOf 43 = .ok (.lload 4, 2) := by decide +kernel
theorem dX6_foldOf_45 : decode cX6_foldOf 45 = .ok (.aload_n 0, 1) := by decide +kernel
theorem dX6_foldOf_46 : decode cX6_foldOf 46 = .ok (.getfield 38, 3) := by decide +kernel
theorem dX6_foldOf_49 : decode cX6_foldOf 49 = .ok (.bipush 20, 2) := by decide +kernel
theorem dX6_foldOf_51 : decode cX6_foldOf 51 = .ok (.iload_n 2, 1) := by decide +kernel
theorem dX6_foldOf_52 : decode cX6_foldOf 52 = .ok (.imul, 1) := by decide +kernel
theorem dX6_foldOf_53 : decode cX6_foldOf 53 = .ok (.bipush 16, 2) := by decide +kernel
theorem dX6_foldOf_55 : decode cX6_foldOf 55 = .ok (.iadd, 1) := by decide +kernel
theorem dX6_foldOf_56 : decode cX6_foldOf 56 = .ok (.iload 7, 2) := by decide +kernel
theorem dX6_foldOf_58 : decode cX6_foldOf 58 = .ok (.iadd, 1) := by decide +kernel
theorem dX6_foldOf_59 : decode cX6_foldOf 59 = .ok (.laload, 1) := by decide +kernel
theorem dX6_foldOf_60 : decode cX6_foldOf 60 = .ok (.lor, 1) := by decide +kernel
theorem dX6_foldOf_61 : decode cX6_foldOf 61 = .ok (.lstore 4, 2) := by decide +kernel
theorem dX6_foldOf_63 : decode cX6_foldOf 63 = .ok (.iload 6, 2) := by decide +kernel
theorem dX6_foldOf_65 : decode cX6_foldOf 65 = .ok (.aload_n 0, 1) := by decide +kernel
theorem dX6_foldOf_66 : decode cX6_foldOf 66 = .ok (.getfield 29, 3) := by decide +kernel
theorem dX6_foldOf_69 : decode cX6_foldOf 69 = .ok (.iload 7, 2) := by decide +kernel
theorem dX6_foldOf_71 : decode cX6_foldOf 71 = .ok (.iaload, 1) := by decide +kernel
theorem dX6_foldOf_72 : decode cX6_foldOf 72 = .ok (.iconst (-1), 1) := by decide +kernel
theorem dX6_foldOf_73 : decode cX6_foldOf 73 = .ok (.ixor, 1) := by decide +kernel
theorem dX6_foldOf_74 : decode cX6_foldOf 74 = .ok (.iand, 1) := by decide +kernel
theorem dX6_foldOf_75 : decode cX6_foldOf 75 = .ok (.istore 6, 2) := by decide +kernel
theorem dX6_foldOf_77 : decode cX6_foldOf 77 = .ok (.iinc 7 1, 3) := by decide +kernel
theorem dX6_foldOf_80 : decode cX6_foldOf 80 = .ok (.goto (-71), 3) := by decide +kernel
theorem dX6_foldOf_83 : decode cX6_foldOf 83 = .ok (.iconst 0, 1) := by decide +kernel
theorem dX6_foldOf_84 : decode cX6_foldOf 84 = .ok (.istore 7, 2) := by decide +kernel
theorem dX6_foldOf_86 : decode cX6_foldOf 86 = .ok (.iload 7, 2) := by decide +kernel
theorem dX6_foldOf_88 : decode cX6_foldOf 88 = .ok (.aload_n 0, 1) := by decide +kernel
theorem dX6_foldOf_89 : decode cX6_foldOf 89 = .ok (.getfield 85, 3) := by decide +kernel
theorem dX6_foldOf_92 : decode cX6_foldOf 92 = .ok (.if_icmp .ge 40, 3) := by decide +kernel
theorem dX6_foldOf_95 : decode cX6_foldOf 95 = .ok (.lload 4, 2) := by decide +kernel
theorem dX6_foldOf_97 : decode cX6_foldOf 97 = .ok (.iload 6, 2) := by decide +kernel
theorem dX6_foldOf_99 : decode cX6_foldOf 99 = .ok (.iload 7, 2) := by decide +kernel
theorem dX6_foldOf_101 : decode cX6_foldOf 101 = .ok (.invokestatic 120, 3) := by decide +kernel
theorem dX6_foldOf_104 : decode cX6_foldOf 104 = .ok (.ifCond .eq 18, 3) := by decide +kernel
theorem dX6_foldOf_107 : decode cX6_foldOf 107 = .ok (.aload_n 0, 1) := by decide +kernel
theorem dX6_foldOf_108 : decode cX6_foldOf 108 = .ok (.getfield 38, 3) := by decide +kernel
theorem dX6_foldOf_111 : decode cX6_foldOf 111 = .ok (.bipush 20, 2) := by decide +kernel
theorem dX6_foldOf_113 : decode cX6_foldOf 113 = .ok (.iload_n 2, 1) := by decide +kernel
theorem dX6_foldOf_114 : decode cX6_foldOf 114 = .ok (.imul, 1) := by decide +kernel
theorem dX6_foldOf_115 : decode cX6_foldOf 115 = .ok (.iload 7, 2) := by decide +kernel
theorem dX6_foldOf_117 : decode cX6_foldOf 117 = .ok (.iadd, 1) := by decide +kernel
theorem dX6_foldOf_118 : decode cX6_foldOf 118 = .ok (.laload, 1) := by decide +kernel
theorem dX6_foldOf_119 : decode cX6_foldOf 119 = .ok (.goto 4, 3) := by decide +kernel
theorem dX6_foldOf_122 : decode cX6_foldOf 122 = .ok (.lconst 0, 1) := by decide +kernel
theorem dX6_foldOf_123 : decode cX6_foldOf 123 = .ok (.lor, 1) := by decide +kernel
theorem dX6_foldOf_124 : decode cX6_foldOf 124 = .ok (.lstore 4, 2) := by decide +kernel
theorem dX6_foldOf_126 : decode cX6_foldOf 126 = .ok (.iinc 7 1, 3) := by decide +kernel
theorem dX6_foldOf_129 : decode cX6_foldOf 129 = .ok (.goto (-43), 3) := by decide +kernel
theorem dX6_foldOf_132 : decode cX6_foldOf 132 = .ok (.lload 4, 2) := by decide +kernel
theorem dX6_foldOf_134 : decode cX6_foldOf 134 = .ok (.lreturn, 1) := by decide +kernel
set_option maxRecDepth 20000 in
theorem ggX6_fold_X6_isNode : GoodIn wsX6_fold wsX6_isNode := goodIn_r _ [7, 8, 9, 10, 6, 11, 54, 55, 56, 57, 58, 59, 60, 61, 62, 63, 64, 65, 66, 67, 68, 69, 70, 71, 72, 73, 74, 75, 76, 77, 78, 79, 80, 81, 82, 83, 84, 85, 86, 87] (by decide +kernel) (by decide +kernel)
set_option maxRecDepth 20000 in
theorem gX6_fold_X6_isNode : GoodIn wsX6_fold (wsV RX6 140 RX6 yX6_isNode wsX6_isNode) := goodIn_app (goodIn_of _ (by decide +kernel)) ggX6_fold_X6_isNode
set_option maxRecDepth 20000 in
theorem ggX6_fold_X6_isSet : GoodIn wsX6_fold wsX6_isSet := goodIn_r _ [15, 8, 9, 10, 6, 11, 54, 55, 56, 57, 58, 59, 60, 61, 62, 63, 64, 65, 66, 67, 68, 69, 70, 71, 72, 73, 74, 75, 76, 77, 78, 79, 80, 81, 82, 83, 84, 85, 86, 87] (by decide +kernel) (by decide +kernel)
set_option maxRecDepth 20000 in
theorem gX6_fold_X6_isSet : GoodIn wsX6_fold (wsV RX6 150 RX6 yX6_isSet wsX6_isSet) := goodIn_app (goodIn_of _ (by decide +kernel)) ggX6_fold_X6_isSet
set_option maxRecDepth 20000 in
theorem ggX6_fold_X6_isVariant : GoodIn wsX6_fold wsX6_isVariant := goodIn_r _ [18, 9, 10, 6, 11] (by decide +kernel) (by decide +kernel)
set_option maxRecDepth 20000 in
theorem gX6_fold_X6_isVariant : GoodIn wsX6_fold (va_wsS RX6 115 yX6_isVariant wsX6_isVariant) := goodIn_app (goodIn_of _ (by decide +kernel)) ggX6_fold_X6_isVariant
set_option maxRecDepth 20000 in
theorem ggX6_fold_X6_treeOf : GoodIn wsX6_fold wsX6_treeOf := goodIn_r _ [22, 8, 23, 24, 25, 26, 6, 27, 28, 29, 30, 31, 32, 33, 34, 35, 36, 37, 38, 39, 40, 41, 42, 43, 44, 45, 46, 47, 54, 55, 56, 57, 58, 59, 60, 61, 62, 63, 64, 65, 66, 67, 68, 69, 70, 71, 72, 73, 74, 75, 76, 77, 78, 79, 80, 81, 82, 83, 84, 85, 86, 87] (by decide +kernel) (by decide +kernel)
set_option maxRecDepth 20000 in
theorem gX6_fold_X6_treeOf : GoodIn wsX6_fold (wsV RX6 153 RX6 yX6_treeOf wsX6_treeOf) := goodIn_app (goodIn_of _ (by decide +kernel)) ggX6_fold_X6_treeOf
set_option maxRecDepth 20000 in
theorem ggX6_fold_X6_foldOf : GoodIn wsX6_fold wsX6_foldOf := goodIn_r _ [51, 52, 53, 37, 25, 26, 6, 27, 54, 55, 56, 57, 58, 59, 60, 61, 62, 63, 64, 65, 66, 67, 68, 69, 70, 71, 72, 73, 74, 75, 76, 77, 78, 79, 80, 81, 82, 83, 84, 85, 86, 87] (by decide +kernel) (by decide +kernel)
set_option maxRecDepth 20000 in
theorem gX6_fold_X6_foldOf : GoodIn wsX6_fold (wsV RX6 163 RX6 yX6_foldOf wsX6_foldOf) := goodIn_app (goodIn_of _ (by decide +kernel)) ggX6_fold_X6_foldOf
theorem dX6_fold_0 : decode cX6_fold 0 = .ok (.aload_n 0, 1) := by decide +kernel
theorem dX6_fold_1 : decode cX6_fold 1 = .ok (.iload_n 1, 1) := by decide +kernel
theorem dX6_fold_2 : decode cX6_fold 2 = .ok (.invokevirtual 140, 3) := by decide +kernel
theorem dX6_fold_5 : decode cX6_fold 5 = .ok (.ifCond .ne 7, 3) := by decide +kernel
theorem dX6_fold_8 : decode cX6_fold 8 = .ok (.ldc2_w 113, 3) := by decide +kernel
theorem dX6_fold_11 : decode cX6_fold 11 = .ok (.lreturn, 1) := by decide +kernel
theorem dX6_fold_12 : decode cX6_fold 12 = .ok (.aload_n 0, 1) := by decide +kernel
theorem dX6_fold_13 : decode cX6_fold 13 = .ok (.iload_n 2, 1) := by decide +kernel
theorem dX6_fold_14 : decode cX6_fold 14 = .ok (.invokevirtual 150, 3) := by decide +kernel
theorem dX6_fold_17 : decode cX6_fold 17 = .ok (.ifCond .eq 26, 3) := by decide +kernel
theorem dX6_fold_20 : decode cX6_fold 20 = .ok (.iload_n 3, 1) := by decide +kernel
theorem dX6_fold_21 : decode cX6_fold 21 = .ok (.invokestatic 115, 3) := by decide +kernel
theorem dX6_fold_24 : decode cX6_fold 24 = .ok (.ifCond .eq 19, 3) := by decide +kernel
theorem dX6_fold_27 : decode cX6_fold 27 = .ok (.aload_n 0, 1) := by decide +kernel
theorem dX6_fold_28 : decode cX6_fold 28 = .ok (.aload_n 0, 1) := by decide +kernel
theorem dX6_fold_29 : decode cX6_fold 29 = .ok (.iload_n 1, 1) := by decide +kernel
theorem dX6_fold_30 : decode cX6_fold 30 = .ok (.iload_n 2, 1) := by decide +kernel
theorem dX6_fold_31 : decode cX6_fold 31 = .ok (.invokevirtual 153, 3) := by decide +kernel
theorem dX6_fold_34 : decode cX6_fold 34 = .ok (.iload_n 3, 1) := by decide +kernel
theorem dX6_fold_35 : decode cX6_fold 35 = .ok (.iload 4, 2) := by decide +kernel
theorem dX6_fold_37 : decode cX6_fold 37 = .ok (.invokevirtual 163, 3) := by decide +kernel
theorem dX6_fold_40 : decode cX6_fold 40 = .ok (.goto 6, 3) := by decide +kernel
theorem dX6_fold_43 : decode cX6_fold 43 = .ok (.ldc2_w 118, 3) := by decide +kernel
theorem dX6_fold_46 : decode cX6_fold 46 = .ok (.lreturn, 1) := by decide +kernel
set_option maxRecDepth 20000 in
theorem ggX6_matches_X6_has : GoodIn wsX6_matches wsX6_has := goodIn_r _ [7] (by decide +kernel) (by decide +kernel)
set_option maxRecDepth 20000 in
theorem gX6_matches_X6_has : GoodIn wsX6_matches (va_wsS RX6 120 yX6_has wsX6_has) := goodIn_app (goodIn_of _ (by decide +kernel)) ggX6_matches_X6_has
theorem dX6_matches_0 : decode cX6_matches 0 = .ok (.aload_n 0, 1) := by decide +kernel
theorem dX6_matches_1 : decode cX6_matches 1 = .ok (.getfield 38, 3) := by decide +kernel
theorem dX6_matches_4 : decode cX6_matches 4 = .ok (.bipush 20, 2) := by decide +kernel
theorem dX6_matches_6 : decode cX6_matches 6 = .ok (.iload 4, 2) := by decide +kernel
theorem dX6_matches_8 : decode cX6_matches 8 = .ok (.imul, 1) := by decide +kernel
theorem dX6_matches_9 : decode cX6_matches 9 = .ok (.iload_n 1, 1) := by decide +kernel
theorem dX6_matches_10 : decode cX6_matches 10 = .ok (.iadd, 1) := by decide +kernel
theorem dX6_matches_11 : decode cX6_matches 11 = .ok (.laload, 1) := by decide +kernel
theorem dX6_matches_12 : decode cX6_matches 12 = .ok (.lload_n 2, 1) := by decide +kernel
theorem dX6_matches_13 : decode cX6_matches 13 = .ok (.ldc2_w 167, 3) := by decide +kernel
theorem dX6_matches_16 : decode cX6_matches 16 = .ok (.lxor, 1) := by decide +kernel
theorem dX6_matches_17 : decode cX6_matches 17 = .ok (.land, 1) := by decide +kernel
theorem dX6_matches_18 : decode cX6_matches 18 = .ok (.lconst 0, 1) := by decide +kernel
theorem dX6_matches_19 : decode cX6_matches 19 = .ok (.lcmp, 1) := by decide +kernel
theorem dX6_matches_20 : decode cX6_matches 20 = .ok (.ifCond .ne 7, 3) := by decide +kernel
theorem dX6_matches_23 : decode cX6_matches 23 = .ok (.iconst 1, 1) := by decide +kernel
theorem dX6_matches_24 : decode cX6_matches 24 = .ok (.goto 4, 3) := by decide +kernel
theorem dX6_matches_27 : decode cX6_matches 27 = .ok (.iconst 0, 1) := by decide +kernel
theorem dX6_matches_28 : decode cX6_matches 28 = .ok (.istore 5, 2) := by decide +kernel
theorem dX6_matches_30 : decode cX6_matches 30 = .ok (.iconst 0, 1) := by decide +kernel
theorem dX6_matches_31 : decode cX6_matches 31 = .ok (.istore 6, 2) := by decide +kernel
theorem dX6_matches_33 : decode cX6_matches 33 = .ok (.iload 6, 2) := by decide +kernel
theorem dX6_matches_35 : decode cX6_matches 35 = .ok (.iconst 4, 1) := by decide +kernel
theorem dX6_matches_36 : decode cX6_matches 36 = .ok (.if_icmp .ge 62, 3) := by decide +kernel
theorem dX6_matches_39 : decode cX6_matches 39 = .ok (.iload 5, 2) := by decide +kernel
theorem dX6_matches_41 : decode cX6_matches 41 = .ok (.ifCond .ne 44, 3) := by decide +kernel
theorem dX6_matches_44 : decode cX6_matches 44 = .ok (.aload_n 0, 1) := by decide +kernel
theorem dX6_matches_45 : decode cX6_matches 45 = .ok (.getfield 29, 3) := by decide +kernel
theorem dX6_matches_48 : decode cX6_matches 48 = .ok (.iload 6, 2) := by decide +kernel
theorem dX6_matches_50 : decode cX6_matches 50 = .ok (.iaload, 1) := by decide +kernel
theorem dX6_matches_51 : decode cX6_matches 51 = .ok (.iload_n 1, 1) := by decide +kernel
theorem dX6_matches_52 : decode cX6_matches 52 = .ok (.invokestatic 120, 3) := by decide +kernel
theorem dX6_matches_55 : decode cX6_matches 55 = .ok (.ifCond .eq 34, 3) := by decide +kernel
theorem dX6_matches_58 : decode cX6_matches 58 = .ok (.aload_n 0, 1) := by decide +kernel
theorem dX6_matches_59 : decode cX6_matches 59 = .ok (.getfield 38, 3) := by decide +kernel
theorem dX6_matches_62 : decode cX6_matches 62 = .ok (.bipush 20, 2) := by decide +kernel
theorem dX6_matches_64 : decode cX6_matches 64 = .ok (.iload 4, 2) := by decide +kernel
theorem dX6_matches_66 : decode cX6_matches 66 = .ok (.imul, 1) := by decide +kernel
theorem dX6_matches_67 : decode cX6_matches 67 = .ok (.bipush 16, 2) := by decide +kernel
theorem dX6_matches_69 : decode cX6_matches 69 = .ok (.iadd, 1) := by decide +kernel
theorem dX6_matches_70 : decode cX6_matches 70 = .ok (.iload 6, 2) := by decide +kernel
theorem dX6_matches_72 : decode cX6_matches 72 = .ok (.iadd, 1) := by decide +kernel
theorem dX6_matches_73 : decode cX6_matches 73 = .ok (.laload, 1) := by decide +kernel
theorem dX6_matches_74 : decode cX6_matches 74 = .ok (.lload_n 2, 1) := by decide +kernel
theorem dX6_matches_75 : decode cX6_matches 75 = .ok (.ldc2_w 167, 3) := by decide +kernel
theorem dX6_matches_78 : decode cX6_matches 78 = .ok (.lxor, 1) := by decide +kernel
theorem dX6_matches_79 : decode cX6_matches 79 = .ok (.land, 1) := by decide +kernel
theorem dX6_matches_80 : decode cX6_matches 80 = .ok (.lconst 0, 1) := by decide +kernel
theorem dX6_matches_81 : decode cX6_matches 81 = .ok (.lcmp, 1) := by decide +kernel
theorem dX6_matches_82 : decode cX6_matches 82 = .ok (.ifCond .ne 7, 3) := by decide +kernel
theorem dX6_matches_85 : decode cX6_matches 85 = .ok (.iconst 1, 1) := by decide +kernel
theorem dX6_matches_86 : decode cX6_matches 86 = .ok (.goto 4, 3) := by decide +kernel
theorem dX6_matches_89 : decode cX6_matches 89 = .ok (.iconst 0, 1) := by decide +kernel
theorem dX6_matches_90 : decode cX6_matches 90 = .ok (.istore 5, 2) := by decide +kernel
theorem dX6_matches_92 : decode cX6_matches 92 = .ok (.iinc 6 1, 3) := by decide +kernel
theorem dX6_matches_95 : decode cX6_matches 95 = .ok (.goto (-62), 3) := by decide +kernel
theorem dX6_matches_98 : decode cX6_matches 98 = .ok (.iload 5, 2) := by decide +kernel
theorem dX6_matches_100 : decode cX6_matches 100 = .ok (.ireturn, 1) := by decide +kernel
set_option maxRecDepth 20000 in
theorem ggX6_laySpread_X6_foldOf : GoodIn wsX6_laySpread wsX6_foldOf := goodIn_r _ [13, 14, 15, 7, 16, 17, 12, 18, 30, 31, 32, 33, 34, 35, 36, 37, 38, 39, 40, 41, 42, 43, 44, 45, 46, 47, 48, 49, 50, 51, 52, 53, 54, 55, 56, 57, 58, 59, 60, 61, 62, 63] (by decide +kernel) (by decide +kernel)
set_option maxRecDepth 20000 in
theorem gX6_laySpread_X6_foldOf : GoodIn wsX6_laySpread (wsV RX6 163 RX6 yX6_foldOf wsX6_foldOf) := goodIn_app (goodIn_of _ (by decide +kernel)) ggX6_laySpread_X6_foldOf
set_option maxRecDepth 20000 in
theorem ggX6_laySpread_X6_has : GoodIn wsX6_laySpread wsX6_has := goodIn_r _ [18] (by decide +kernel) (by decide +kernel)
set_option maxRecDepth 20000 in
theorem gX6_laySpread_X6_has : GoodIn wsX6_laySpread (va_wsS RX6 120 yX6_has wsX6_has) := goodIn_app (goodIn_of _ (by decide +kernel)) ggX6_laySpread_X6_has
set_option maxRecDepth 20000 in
theorem ggX6_laySpread_X6_matches : GoodIn wsX6_laySpread wsX6_matches := goodIn_r _ [22, 15, 23, 14, 16, 17, 12, 18, 30, 31, 32, 33, 34, 35, 36, 37, 38, 39, 40, 41, 42, 43, 44, 45, 46, 47, 48, 49, 50, 51, 52, 53, 54, 55, 56, 57, 58, 59, 60, 61, 62, 63] (by decide +kernel) (by decide +kernel)
set_option maxRecDepth 20000 in
theorem gX6_laySpread_X6_matches : GoodIn wsX6_laySpread (wsV RX6 187 RX6 yX6_matches wsX6_matches) := goodIn_app (goodIn_of _ (by decide +kernel)) ggX6_laySpread_X6_matches
set_option maxRecDepth 20000 in
theorem ggX6_laySpread_X6_goStep : GoodIn wsX6_laySpread wsX6_goStep := goodIn_r _ [27, 7, 28, 1, 2, 3, 8, 29, 4, 16, 17, 12, 18, 19, 20, 21, 22, 15, 23, 14, 30, 31, 32, 33, 34, 35, 36, 37, 38, 39, 40, 41, 42, 43, 44, 45, 46, 47, 48, 49, 50, 51, 52, 53, 54, 55, 56, 57, 58, 59, 60, 61, 62, 63] (by decide +kernel) (by decide +kernel)
set_option maxRecDepth 20000 in
theorem gX6_laySpread_X6_goStep : GoodIn wsX6_laySpread (wsV RX6 194 RX6 yX6_goStep wsX6_goStep) := goodIn_app (goodIn_of _ (by decide +kernel)) ggX6_laySpread_X6_goStep
theorem dX6_laySpread_0 : decode cX6_laySpread 0 = .ok (.aload_n 0, 1) := by decide +kernel
theorem dX6_laySpread_1 : decode cX6_laySpread 1 = .ok (.aload_n 0, 1) := by decide +kernel
theorem dX6_laySpread_2 : decode cX6_laySpread 2 = .ok (.iload_n 2, 1) := by decide +kernel
theorem dX6_laySpread_3 : decode cX6_laySpread 3 = .ok (.iload_n 3, 1) := by decide +kernel
theorem dX6_laySpread_4 : decode cX6_laySpread 4 = .ok (.iload 4, 2) := by decide +kernel
theorem dX6_laySpread_6 : decode cX6_laySpread 6 = .ok (.invokevirtual 163, 3) := by decide +kernel
theorem dX6_laySpread_9 : decode cX6_laySpread 9 = .ok (.putfield 169, 3) := by decide +kernel
theorem dX6_laySpread_12 : decode cX6_laySpread 12 = .ok (.aload_n 0, 1) := by decide +kernel
theorem dX6_laySpread_13 : decode cX6_laySpread 13 = .ok (.iconst 0, 1) := by decide +kernel
theorem dX6_laySpread_14 : decode cX6_laySpread 14 = .ok (.putfield 172, 3) := by decide +kernel
theorem dX6_laySpread_17 : decode cX6_laySpread 17 = .ok (.aload_n 0, 1) := by decide +kernel
theorem dX6_laySpread_18 : decode cX6_laySpread 18 = .ok (.iconst 0, 1) := by decide +kernel
theorem dX6_laySpread_19 : decode cX6_laySpread 19 = .ok (.putfield 175, 3) := by decide +kernel
theorem dX6_laySpread_22 : decode cX6_laySpread 22 = .ok (.aload_n 0, 1) := by decide +kernel
theorem dX6_laySpread_23 : decode cX6_laySpread 23 = .ok (.iconst 0, 1) := by decide +kernel
theorem dX6_laySpread_24 : decode cX6_laySpread 24 = .ok (.putfield 178, 3) := by decide +kernel
theorem dX6_laySpread_27 : decode cX6_laySpread 27 = .ok (.aload_n 0, 1) := by decide +kernel
theorem dX6_laySpread_28 : decode cX6_laySpread 28 = .ok (.iconst 0, 1) := by decide +kernel
theorem dX6_laySpread_29 : decode cX6_laySpread 29 = .ok (.putfield 181, 3) := by decide +kernel
theorem dX6_laySpread_32 : decode cX6_laySpread 32 = .ok (.aload_n 0, 1) := by decide +kernel
theorem dX6_laySpread_33 : decode cX6_laySpread 33 = .ok (.iconst 0, 1) := by decide +kernel
theorem dX6_laySpread_34 : decode cX6_laySpread 34 = .ok (.putfield 184, 3) := by decide +kernel
theorem dX6_laySpread_37 : decode cX6_laySpread 37 = .ok (.iconst 0, 1) := by decide +kernel
theorem dX6_laySpread_38 : decode cX6_laySpread 38 = .ok (.istore 5, 2) := by decide +kernel
theorem dX6_laySpread_40 : decode cX6_laySpread 40 = .ok (.iload 5, 2) := by decide +kernel
theorem dX6_laySpread_42 : decode cX6_laySpread 42 = .ok (.aload_n 0, 1) := by decide +kernel
theorem dX6_laySpread_43 : decode cX6_laySpread 43 = .ok (.getfield 85, 3) := by decide +kernel
theorem dX6_laySpread_46 : decode cX6_laySpread 46 = .ok (.if_icmp .ge 46, 3) := by decide +kernel
theorem dX6_laySpread_49 : decode cX6_laySpread 49 = .ok (.aload_n 0, 1) := by decide +kernel
theorem dX6_laySpread_50 : decode cX6_laySpread 50 = .ok (.dup, 1) := by decide +kernel
theorem dX6_laySpread_51 : decode cX6_laySpread 51 = .ok (.getfield 184, 3) := by decide +kernel
theorem dX6_laySpread_54 : decode cX6_laySpread 54 = .ok (.iload_n 2, 1) := by decide +kernel
theorem dX6_laySpread_55 : decode cX6_laySpread 55 = .ok (.iload 5, 2) := by decide +kernel
theorem dX6_laySpread_57 : decode cX6_laySpread 57 = .ok (.invokestatic 120, 3) := by decide +kernel
theorem dX6_laySpread_60 : decode cX6_laySpread 60 = .ok (.ifCond .ne 21, 3) := by decide +kernel
theorem dX6_laySpread_63 : decode cX6_laySpread 63 = .ok (.aload_n 0, 1) := by decide +kernel
theorem dX6_laySpread_64 : decode cX6_laySpread 64 = .ok (.iload 5, 2) := by decide +kernel
theorem dX6_laySpread_66 : decode cX6_laySpread 66 = .ok (.aload_n 0, 1) := by decide +kernel
theorem dX6_laySpread_67 : decode cX6_laySpread 67 = .ok (.getfield 169, 3) := by decide +kernel
theorem dX6_laySpread_70 : decode cX6_laySpread 70 = .ok (.iload_n 3, 1) := by decide +kernel
theorem dX6_laySpread_71 : decode cX6_laySpread 71 = .ok (.invokevirtual 187, 3) := by decide +kernel
theorem dX6_laySpread_74 : decode cX6_laySpread 74 = .ok (.ifCond .eq 7, 3) := by decide +kernel
theorem dX6_laySpread_77 : decode cX6_laySpread 77 = .ok (.iconst 1, 1) := by decide +kernel
theorem dX6_laySpread_78 : decode cX6_laySpread 78 = .ok (.goto 4, 3) := by decide +kernel
theorem dX6_laySpread_81 : decode cX6_laySpread 81 = .ok (.iconst 0, 1) := by decide +kernel
theorem dX6_laySpread_82 : decode cX6_laySpread 82 = .ok (.iadd, 1) := by decide +kernel
theorem dX6_laySpread_83 : decode cX6_laySpread 83 = .ok (.putfield 184, 3) := by decide +kernel
theorem dX6_laySpread_86 : decode cX6_laySpread 86 = .ok (.iinc 5 1, 3) := by decide +kernel
theorem dX6_laySpread_89 : decode cX6_laySpread 89 = .ok (.goto (-49), 3) := by decide +kernel
theorem dX6_laySpread_92 : decode cX6_laySpread 92 = .ok (.aload_n 0, 1) := by decide +kernel
theorem dX6_laySpread_93 : decode cX6_laySpread 93 = .ok (.iconst 1, 1) := by decide +kernel
theorem dX6_laySpread_94 : decode cX6_laySpread 94 = .ok (.iload_n 1, 1) := by decide +kernel
theorem dX6_laySpread_95 : decode cX6_laySpread 95 = .ok (.ishl, 1) := by decide +kernel
theorem dX6_laySpread_96 : decode cX6_laySpread 96 = .ok (.putfield 191, 3) := by decide +kernel
theorem dX6_laySpread_99 : decode cX6_laySpread 99 = .ok (.aload_n 0, 1) := by decide +kernel
theorem dX6_laySpread_100 : decode cX6_laySpread 100 = .ok (.getfield 191, 3) := by decide +kernel
theorem dX6_laySpread_103 : decode cX6_laySpread 103 = .ok (.istore 5, 2) := by decide +kernel
theorem dX6_laySpread_105 : decode cX6_laySpread 105 = .ok (.iload 5, 2) := by decide +kernel
theorem dX6_laySpread_107 : decode cX6_laySpread 107 = .ok (.ifCond .eq 26, 3) := by decide +kernel
theorem dX6_laySpread_110 : decode cX6_laySpread 110 = .ok (.aload_n 0, 1) := by decide +kernel
theorem dX6_laySpread_111 : decode cX6_laySpread 111 = .ok (.iload 5, 2) := by decide +kernel
theorem dX6_laySpread_113 : decode cX6_laySpread 113 = .ok (.iload_n 2, 1) := by decide +kernel
theorem dX6_laySpread_114 : decode cX6_laySpread 114 = .ok (.iload_n 3, 1) := by decide +kernel
theorem dX6_laySpread_115 : decode cX6_laySpread 115 = .ok (.invokevirtual 194, 3) := by decide +kernel
theorem dX6_laySpread_118 : decode cX6_laySpread 118 = .ok (.istore 5, 2) := by decide +kernel
theorem dX6_laySpread_120 : decode cX6_laySpread 120 = .ok (.aload_n 0, 1) := by decide +kernel
theorem dX6_laySpread_121 : decode cX6_laySpread 121 = .ok (.dup, 1) := by decide +kernel
theorem dX6_laySpread_122 : decode cX6_laySpread 122 = .ok (.getfield 181, 3) := by decide +kernel
theorem dX6_laySpread_125 : decode cX6_laySpread 125 = .ok (.iconst 1, 1) := by decide +kernel
theorem dX6_laySpread_126 : decode cX6_laySpread 126 = .ok (.iadd, 1) := by decide +kernel
theorem dX6_laySpread_127 : decode cX6_laySpread 127 = .ok (.putfield 181, 3) := by decide +kernel
theorem dX6_laySpread_130 : decode cX6_laySpread 130 = .ok (.goto (-25), 3) := by decide +kernel
theorem dX6_laySpread_133 : decode cX6_laySpread 133 = .ok (.return_, 1) := by decide +kernel
set_option maxRecDepth 20000 in
theorem ggX6_goStep_X6_has : GoodIn wsX6_goStep wsX6_has := goodIn_r _ [12] (by decide +kernel) (by decide +kernel)
set_option maxRecDepth 20000 in
theorem gX6_goStep_X6_has : GoodIn wsX6_goStep (va_wsS RX6 120 yX6_has wsX6_has) := goodIn_app (goodIn_of _ (by decide +kernel)) ggX6_goStep_X6_has
set_option maxRecDepth 20000 in
theorem ggX6_goStep_X6_matches : GoodIn wsX6_goStep wsX6_matches := goodIn_r _ [16, 17, 18, 19, 9, 10, 11, 12, 20, 21, 22, 23, 24, 25, 26, 27, 28, 29, 30, 31, 32, 33, 34, 35, 36, 37, 38, 39, 40, 41, 42, 43, 44, 45, 46, 47, 48, 49, 50, 51, 52, 53] (by decide +kernel) (by decide +kernel)
set_option maxRecDepth 20000 in
theorem gX6_goStep_X6_matches : GoodIn wsX6_goStep (wsV RX6 187 RX6 yX6_matches wsX6_matches) := goodIn_app (goodIn_of _ (by decide +kernel)) ggX6_goStep_X6_matches
theorem dX6_goStep_0 : decode cX6_goStep 0 = .ok (.iconst 0, 1) := by decide +kernel
theorem dX6_goStep_1 : decode cX6_goStep 1 = .ok (.istore 4, 2) := by decide +kernel
theorem dX6_goStep_3 : decode cX6_goStep 3 = .ok (.iconst 0, 1) := by decide +kernel
theorem dX6_goStep_4 : decode cX6_goStep 4 = .ok (.istore 5, 2) := by decide +kernel
theorem dX6_goStep_6 : decode cX6_goStep 6 = .ok (.iload 5, 2) := by decide +kernel
theorem dX6_goStep_8 : decode cX6_goStep 8 = .ok (.aload_n 0, 1) := by decide +kernel
theorem dX6_goStep_9 : decode cX6_goStep 9 = .ok (.getfield 85, 3) := by decide +kernel
theorem dX6_goStep_12 : decode cX6_goStep 12 = .ok (.if_icmp .ge 139, 3) := by decide +kernel
theorem dX6_goStep_15 : decode cX6_goStep 15 = .ok (.iload_n 1, 1) := by decide +kernel
theorem dX6_goStep_16 : decode cX6_goStep 16 = .ok (.aload_n 0, 1) := by decide +kernel
theorem dX6_goStep_17 : decode cX6_goStep 17 = .ok (.getfield 13, 3) := by decide +kernel
theorem dX6_goStep_20 : decode cX6_goStep 20 = .ok (.iload 5, 2) := by decide +kernel
theorem dX6_goStep_22 : decode cX6_goStep 22 = .ok (.iaload, 1) := by decide +kernel
theorem dX6_goStep_23 : decode cX6_goStep 23 = .ok (.invokestatic 120, 3) := by decide +kernel
theorem dX6_goStep_26 : decode cX6_goStep 26 = .ok (.ifCond .eq 119, 3) := by decide +kernel
theorem dX6_goStep_29 : decode cX6_goStep 29 = .ok (.aload_n 0, 1) := by decide +kernel
theorem dX6_goStep_30 : decode cX6_goStep 30 = .ok (.iload 5, 2) := by decide +kernel
theorem dX6_goStep_32 : decode cX6_goStep 32 = .ok (.aload_n 0, 1) := by decide +kernel
theorem dX6_goStep_33 : decode cX6_goStep 33 = .ok (.getfield 169, 3) := by decide +kernel
theorem dX6_goStep_36 : decode cX6_goStep 36 = .ok (.iload_n 3, 1) := by decide +kernel
theorem dX6_goStep_37 : decode cX6_goStep 37 = .ok (.invokevirtual 187, 3) := by decide +kernel
theorem dX6_goStep_40 : decode cX6_goStep 40 = .ok (.ifCond .eq 105, 3) := by decide +kernel
theorem dX6_goStep_43 : decode cX6_goStep 43 = .ok (.aload_n 0, 1) := by decide +kernel
theorem dX6_goStep_44 : decode cX6_goStep 44 = .ok (.dup, 1) := by decide +kernel
theorem dX6_goStep_45 : decode cX6_goStep 45 = .ok (.getfield 172, 3) := by decide +kernel
theorem dX6_goStep_48 : decode cX6_goStep 48 = .ok (.iconst 1, 1) := by decide +kernel
theorem dX6_goStep_49 : decode cX6_goStep 49 = .ok (.iadd, 1) := by decide +kernel
theorem dX6_goStep_50 : decode cX6_goStep 50 = .ok (.putfield 172, 3) := by decide +kernel
theorem dX6_goStep_53 : decode cX6_goStep 53 = .ok (.aload_n 0, 1) := by decide +kernel
theorem dX6_goStep_54 : decode cX6_goStep 54 = .ok (.dup, 1) := by decide +kernel
theorem dX6_goStep_55 : decode cX6_goStep 55 = .ok (.getfield 175, 3) := by decide +kernel
theorem dX6_goStep_58 : decode cX6_goStep 58 = .ok (.iload_n 2, 1) := by decide +kernel
theorem dX6_goStep_59 : decode cX6_goStep 59 = .ok (.iload 5, 2) := by decide +kernel
theorem dX6_goStep_61 : decode cX6_goStep 61 = .ok (.invokestatic 120, 3) := by decide +kernel
theorem dX6_goStep_64 : decode cX6_goStep 64 = .ok (.ifCond .eq 7, 3) := by decide +kernel
theorem dX6_goStep_67 : decode cX6_goStep 67 = .ok (.iconst 0, 1) := by decide +kernel
theorem dX6_goStep_68 : decode cX6_goStep 68 = .ok (.goto 4, 3) := by decide +kernel
theorem dX6_goStep_71 : decode cX6_goStep 71 = .ok (.iconst 1, 1) := by decide +kernel
theorem dX6_goStep_72 : decode cX6_goStep 72 = .ok (.iadd, 1) := by decide +kernel
theorem dX6_goStep_73 : decode cX6_goStep 73 = .ok (.putfield 175, 3) := by decide +kernel
theorem dX6_goStep_76 : decode cX6_goStep 76 = .ok (.aload_n 0, 1) := by decide +kernel
theorem dX6_goStep_77 : decode cX6_goStep 77 = .ok (.getfield 191, 3) := by decide +kernel
theorem dX6_goStep_80 : decode cX6_goStep 80 = .ok (.iload 4, 2) := by decide +kernel
theorem dX6_goStep_82 : decode cX6_goStep 82 = .ok (.ior, 1) := by decide +kernel
theorem dX6_goStep_83 : decode cX6_goStep 83 = .ok (.aload_n 0, 1) := by decide +kernel
theorem dX6_goStep_84 : decode cX6_goStep 84 = .ok (.getfield 16, 3) := by decide +kernel
theorem dX6_goStep_87 : decode cX6_goStep 87 = .ok (.iload 5, 2) := by decide +kernel
theorem dX6_goStep_89 : decode cX6_goStep 89 = .ok (.iaload, 1) := by decide +kernel
theorem dX6_goStep_90 : decode cX6_goStep 90 = .ok (.invokestatic 120, 3) := by decide +kernel
theorem dX6_goStep_93 : decode cX6_goStep 93 = .ok (.ifCond .ne 7, 3) := by decide +kernel
theorem dX6_goStep_96 : decode cX6_goStep 96 = .ok (.iconst 1, 1) := by decide +kernel
theorem dX6_goStep_97 : decode cX6_goStep 97 = .ok (.goto 4, 3) := by decide +kernel
theorem dX6_goStep_100 : decode cX6_goStep 100 = .ok (.iconst 0, 1) := by decide +kernel
theorem dX6_goStep_101 : decode cX6_goStep 101 = .ok (.istore 6, 2) := by decide +kernel
theorem dX6_goStep_103 : decode cX6_goStep 103 = .ok (.iload 4, 2) := by decide +kernel
theorem dX6_goStep_105 : decode cX6_goStep 105 = .ok (.iload 6, 2) := by decide +kernel
theorem dX6_goStep_107 : decode cX6_goStep 107 = .ok (.ifCond .eq 15, 3) := by decide +kernel
theorem dX6_goStep_110 : decode cX6_goStep 110 = .ok (.iconst 1, 1) := by decide +kernel
theorem dX6_goStep_111 : decode cX6_goStep 111 = .ok (.aload_n 0, 1) := by decide +kernel
theorem dX6_goStep_112 : decode cX6_goStep 112 = .ok (.getfield 16, 3) := by decide +kernel
theorem dX6_goStep_115 : decode cX6_goStep 115 = .ok (.iload 5, 2) := by decide +kernel
theorem dX6_goStep_117 : decode cX6_goStep 117 = .ok (.iaload, 1) := by decide +kernel
theorem dX6_goStep_118 : decode cX6_goStep 118 = .ok (.ishl, 1) := by decide +kernel
theorem dX6_goStep_119 : decode cX6_goStep 119 = .ok (.goto 4, 3) := by decide +kernel
theorem dX6_goStep_122 : decode cX6_goStep 122 = .ok (.iconst 0, 1) := by decide +kernel
theorem dX6_goStep_123 : decode cX6_goStep 123 = .ok (.ior, 1) := by decide +kernel
theorem dX6_goStep_124 : decode cX6_goStep 124 = .ok (.istore 4, 2) := by decide +kernel
theorem dX6_goStep_126 : decode cX6_goStep 126 = .ok (.aload_n 0, 1) := by decide +kernel
theorem dX6_goStep_127 : decode cX6_goStep 127 = .ok (.dup, 1) := by decide +kernel
theorem dX6_goStep_128 : decode cX6_goStep 128 = .ok (.getfield 178, 3) := by decide +kernel
theorem dX6_goStep_131 : decode cX6_goStep 131 = .ok (.iload 6, 2) := by decide +kernel
theorem dX6_goStep_133 : decode cX6_goStep 133 = .ok (.ifCond .eq 7, 3) := by decide +kernel
theorem dX6_goStep_136 : decode cX6_goStep 136 = .ok (.iconst 0, 1) := by decide +kernel
theorem dX6_goStep_137 : decode cX6_goStep 137 = .ok (.goto 4, 3) := by decide +kernel
theorem dX6_goStep_140 : decode cX6_goStep 140 = .ok (.iconst 1, 1) := by decide +kernel
theorem dX6_goStep_141 : decode cX6_goStep 141 = .ok (.iadd, 1) := by decide +kernel
theorem dX6_goStep_142 : decode cX6_goStep 142 = .ok (.putfield 178, 3) := by decide +kernel
theorem dX6_goStep_145 : decode cX6_goStep 145 = .ok (.iinc 5 1, 3) := by decide +kernel
theorem dX6_goStep_148 : decode cX6_goStep 148 = .ok (.goto (-142), 3) := by decide +kernel
theorem dX6_goStep_151 : decode cX6_goStep 151 = .ok (.aload_n 0, 1) := by decide +kernel
theorem dX6_goStep_152 : decode cX6_goStep 152 = .ok (.dup, 1) := by decide +kernel
theorem dX6_goStep_153 : decode cX6_goStep 153 = .ok (.getfield 191, 3) := by decide +kernel
theorem dX6_goStep_156 : decode cX6_goStep 156 = .ok (.iload 4, 2) := by decide +kernel
theorem dX6_goStep_158 : decode cX6_goStep 158 = .ok (.ior, 1) := by decide +kernel
theorem dX6_goStep_159 : decode cX6_goStep 159 = .ok (.putfield 191, 3) := by decide +kernel
theorem dX6_goStep_162 : decode cX6_goStep 162 = .ok (.iload 4, 2) := by decide +kernel
theorem dX6_goStep_164 : decode cX6_goStep 164 = .ok (.ireturn, 1) := by decide +kernel
theorem dX6_common_0 : decode cX6_common 0 = .ok (.iload_n 0, 1) := by decide +kernel
theorem dX6_common_1 : decode cX6_common 1 = .ok (.istore_n 2, 1) := by decide +kernel
theorem dX6_common_2 : decode cX6_common 2 = .ok (.iload_n 1, 1) := by decide +kernel
theorem dX6_common_3 : decode cX6_common 3 = .ok (.istore_n 3, 1) := by decide +kernel
theorem dX6_common_4 : decode cX6_common 4 = .ok (.iload_n 3, 1) := by decide +kernel
theorem dX6_common_5 : decode cX6_common 5 = .ok (.ifCond .eq 16, 3) := by decide +kernel
theorem dX6_common_8 : decode cX6_common 8 = .ok (.iload_n 2, 1) := by decide +kernel
theorem dX6_common_9 : decode cX6_common 9 = .ok (.iload_n 3, 1) := by decide +kernel
theorem dX6_common_10 : decode cX6_common 10 = .ok (.irem, 1) := by decide +kernel
theorem dX6_common_11 : decode cX6_common 11 = .ok (.istore 4, 2) := by decide +kernel
theorem dX6_common_13 : decode cX6_common 13 = .ok (.iload_n 3, 1) := by decide +kernel
theorem dX6_common_14 : decode cX6_common 14 = .ok (.istore_n 2, 1) := by decide +kernel
theorem dX6_common_15 : decode cX6_common 15 = .ok (.iload 4, 2) := by decide +kernel
theorem dX6_common_17 : decode cX6_common 17 = .ok (.istore_n 3, 1) := by decide +kernel
theorem dX6_common_18 : decode cX6_common 18 = .ok (.goto (-14), 3) := by decide +kernel
theorem dX6_common_21 : decode cX6_common 21 = .ok (.iload_n 2, 1) := by decide +kernel
theorem dX6_common_22 : decode cX6_common 22 = .ok (.ireturn, 1) := by decide +kernel
set_option maxRecDepth 20000 in
theorem ggX6_odds_X6_ones : GoodIn wsX6_odds wsX6_ones := goodIn_r _ [7] (by decide +kernel) (by decide +kernel)
set_option maxRecDepth 20000 in
theorem gX6_odds_X6_ones : GoodIn wsX6_odds (va_wsS RX6 159 yX6_ones wsX6_ones) := goodIn_app (goodIn_of _ (by decide +kernel)) ggX6_odds_X6_ones
set_option maxRecDepth 20000 in
theorem ggX6_odds_X6_common : GoodIn wsX6_odds wsX6_common := goodIn_r _ [10] (by decide +kernel) (by decide +kernel)
set_option maxRecDepth 20000 in
theorem gX6_odds_X6_common : GoodIn wsX6_odds (va_wsS RX6 198 yX6_common wsX6_common) := goodIn_app (goodIn_of _ (by decide +kernel)) ggX6_odds_X6_common
theorem dX6_odds_0 : decode cX6_odds 0 = .ok (.iconst 1, 1) := by decide +kernel
theorem dX6_odds_1 : decode cX6_odds 1 = .ok (.istore_n 2, 1) := by decide +kernel
theorem dX6_odds_2 : decode cX6_odds 2 = .ok (.iconst 1, 1) := by decide +kernel
theorem dX6_odds_3 : decode cX6_odds 3 = .ok (.istore_n 3, 1) := by decide +kernel
theorem dX6_odds_4 : decode cX6_odds 4 = .ok (.iconst 0, 1) := by decide +kernel
theorem dX6_odds_5 : decode cX6_odds 5 = .ok (.istore 4, 2) := by decide +kernel
theorem dX6_odds_7 : decode cX6_odds 7 = .ok (.iload 4, 2) := by decide +kernel
theorem dX6_odds_9 : decode cX6_odds 9 = .ok (.aload_n 0, 1) := by decide +kernel
theorem dX6_odds_10 : decode cX6_odds 10 = .ok (.getfield 23, 3) := by decide +kernel
theorem dX6_odds_13 : decode cX6_odds 13 = .ok (.if_icmp .ge 26, 3) := by decide +kernel
theorem dX6_odds_16 : decode cX6_odds 16 = .ok (.iload_n 2, 1) := by decide +kernel
theorem dX6_odds_17 : decode cX6_odds 17 = .ok (.aload_n 0, 1) := by decide +kernel
theorem dX6_odds_18 : decode cX6_odds 18 = .ok (.getfield 169, 3) := by decide +kernel
theorem dX6_odds_21 : decode cX6_odds 21 = .ok (.invokestatic 159, 3) := by decide +kernel
theorem dX6_odds_24 : decode cX6_odds 24 = .ok (.imul, 1) := by decide +kernel
theorem dX6_odds_25 : decode cX6_odds 25 = .ok (.istore_n 2, 1) := by decide +kernel
theorem dX6_odds_26 : decode cX6_odds 26 = .ok (.iload_n 3, 1) := by decide +kernel
theorem dX6_odds_27 : decode cX6_odds 27 = .ok (.aload_n 0, 1) := by decide +kernel
theorem dX6_odds_28 : decode cX6_odds 28 = .ok (.getfield 19, 3) := by decide +kernel
theorem dX6_odds_31 : decode cX6_odds 31 = .ok (.imul, 1) := by decide +kernel
theorem dX6_odds_32 : decode cX6_odds 32 = .ok (.istore_n 3, 1) := by decide +kernel
theorem dX6_odds_33 : decode cX6_odds 33 = .ok (.iinc 4 1, 3) := by decide +kernel
theorem dX6_odds_36 : decode cX6_odds 36 = .ok (.goto (-29), 3) := by decide +kernel
theorem dX6_odds_39 : decode cX6_odds 39 = .ok (.iload_n 1, 1) := by decide +kernel
theorem dX6_odds_40 : decode cX6_odds 40 = .ok (.ifCond .ne 7, 3) := by decide +kernel
theorem dX6_odds_43 : decode cX6_odds 43 = .ok (.iload_n 2, 1) := by decide +kernel
theorem dX6_odds_44 : decode cX6_odds 44 = .ok (.goto 4, 3) := by decide +kernel
theorem dX6_odds_47 : decode cX6_odds 47 = .ok (.iload_n 3, 1) := by decide +kernel
theorem dX6_odds_48 : decode cX6_odds 48 = .ok (.iload_n 2, 1) := by decide +kernel
theorem dX6_odds_49 : decode cX6_odds 49 = .ok (.iload_n 3, 1) := by decide +kernel
theorem dX6_odds_50 : decode cX6_odds 50 = .ok (.invokestatic 198, 3) := by decide +kernel
theorem dX6_odds_53 : decode cX6_odds 53 = .ok (.idiv, 1) := by decide +kernel
theorem dX6_odds_54 : decode cX6_odds 54 = .ok (.ireturn, 1) := by decide +kernel
set_option maxRecDepth 20000 in
theorem ggX6_spreadNow_X6_ones : GoodIn wsX6_spreadNow wsX6_ones := goodIn_r _ [11] (by decide +kernel) (by decide +kernel)
set_option maxRecDepth 20000 in
theorem gX6_spreadNow_X6_ones : GoodIn wsX6_spreadNow (va_wsS RX6 159 yX6_ones wsX6_ones) := goodIn_app (goodIn_of _ (by decide +kernel)) ggX6_spreadNow_X6_ones
set_option maxRecDepth 20000 in
theorem ggX6_spreadNow_X6_odds : GoodIn wsX6_spreadNow wsX6_odds := goodIn_r _ [15, 16, 1, 17, 8, 9, 10, 11, 18, 19, 20, 21, 22, 23, 24, 25, 26, 27, 28, 29, 30, 31, 32, 33, 34, 35, 36, 37, 38, 39, 40, 41, 42, 43, 44, 45, 46, 47, 48, 49, 50, 51, 52, 53, 54] (by decide +kernel) (by decide +kernel)
set_option maxRecDepth 20000 in
theorem gX6_spreadNow_X6_odds : GoodIn wsX6_spreadNow (wsV RX6 201 RX6 yX6_odds wsX6_odds) := goodIn_app (goodIn_of _ (by decide +kernel)) ggX6_spreadNow_X6_odds
theorem dX6_spreadNow_0 : decode cX6_spreadNow 0 = .ok (.iload_n 1, 1) := by decide +kernel
theorem dX6_spreadNow_1 : decode cX6_spreadNow 1 = .ok (.tableswitch 89 0 7 #[47, 55, 60, 65, 70, 75, 80, 80], 47) := by decide +kernel
theorem dX6_spreadNow_48 : decode cX6_spreadNow 48 = .ok (.aload_n 0, 1) := by decide +kernel
theorem dX6_spreadNow_49 : decode cX6_spreadNow 49 = .ok (.getfield 169, 3) := by decide +kernel
theorem dX6_spreadNow_52 : decode cX6_spreadNow 52 = .ok (.invokestatic 159, 3) := by decide +kernel
theorem dX6_spreadNow_55 : decode cX6_spreadNow 55 = .ok (.ireturn, 1) := by decide +kernel
theorem dX6_spreadNow_56 : decode cX6_spreadNow 56 = .ok (.aload_n 0, 1) := by decide +kernel
theorem dX6_spreadNow_57 : decode cX6_spreadNow 57 = .ok (.getfield 172, 3) := by decide +kernel
theorem dX6_spreadNow_60 : decode cX6_spreadNow 60 = .ok (.ireturn, 1) := by decide +kernel
theorem dX6_spreadNow_61 : decode cX6_spreadNow 61 = .ok (.aload_n 0, 1) := by decide +kernel
theorem dX6_spreadNow_62 : decode cX6_spreadNow 62 = .ok (.getfield 175, 3) := by decide +kernel
theorem dX6_spreadNow_65 : decode cX6_spreadNow 65 = .ok (.ireturn, 1) := by decide +kernel
theorem dX6_spreadNow_66 : decode cX6_spreadNow 66 = .ok (.aload_n 0, 1) := by decide +kernel
theorem dX6_spreadNow_67 : decode cX6_spreadNow 67 = .ok (.getfield 178, 3) := by decide +kernel
theorem dX6_spreadNow_70 : decode cX6_spreadNow 70 = .ok (.ireturn, 1) := by decide +kernel
theorem dX6_spreadNow_71 : decode cX6_spreadNow 71 = .ok (.aload_n 0, 1) := by decide +kernel
theorem dX6_spreadNow_72 : decode cX6_spreadNow 72 = .ok (.getfield 181, 3) := by decide +kernel
theorem dX6_spreadNow_75 : decode cX6_spreadNow 75 = .ok (.ireturn, 1) := by decide +kernel
theorem dX6_spreadNow_76 : decode cX6_spreadNow 76 = .ok (.aload_n 0, 1) := by decide +kernel
theorem dX6_spreadNow_77 : decode cX6_spreadNow 77 = .ok (.getfield 191, 3) := by decide +kernel
theorem dX6_spreadNow_80 : decode cX6_spreadNow 80 = .ok (.ireturn, 1) := by decide +kernel
theorem dX6_spreadNow_81 : decode cX6_spreadNow 81 = .ok (.aload_n 0, 1) := by decide +kernel
theorem dX6_spreadNow_82 : decode cX6_spreadNow 82 = .ok (.iload_n 1, 1) := by decide +kernel
theorem dX6_spreadNow_83 : decode cX6_spreadNow 83 = .ok (.bipush 6, 2) := by decide +kernel
theorem dX6_spreadNow_85 : decode cX6_spreadNow 85 = .ok (.isub, 1) := by decide +kernel
theorem dX6_spreadNow_86 : decode cX6_spreadNow 86 = .ok (.invokevirtual 201, 3) := by decide +kernel
theorem dX6_spreadNow_89 : decode cX6_spreadNow 89 = .ok (.ireturn, 1) := by decide +kernel
theorem dX6_spreadNow_90 : decode cX6_spreadNow 90 = .ok (.aload_n 0, 1) := by decide +kernel
theorem dX6_spreadNow_91 : decode cX6_spreadNow 91 = .ok (.getfield 184, 3) := by decide +kernel
theorem dX6_spreadNow_94 : decode cX6_spreadNow 94 = .ok (.ireturn, 1) := by decide +kernel
set_option maxRecDepth 20000 in
theorem ggX6_spread_X6_isNode : GoodIn wsX6_spread wsX6_isNode := goodIn_r _ [5, 6, 7, 8, 4, 9, 88, 89, 90, 91, 92, 93, 94, 95, 96, 97, 98, 99, 100, 101, 102, 103, 104, 105, 106, 107, 108, 109, 110, 111, 112, 113, 114, 115, 116, 117, 118, 119, 120, 121] (by decide +kernel) (by decide +kernel)
set_option maxRecDepth 20000 in
theorem gX6_spread_X6_isNode : GoodIn wsX6_spread (wsV RX6 140 RX6 yX6_isNode wsX6_isNode) := goodIn_app (goodIn_of _ (by decide +kernel)) ggX6_spread_X6_isNode
set_option maxRecDepth 20000 in
theorem ggX6_spread_X6_isSet : GoodIn wsX6_spread wsX6_isSet := goodIn_r _ [13, 6, 7, 8, 4, 9, 88, 89, 90, 91, 92, 93, 94, 95, 96, 97, 98, 99, 100, 101, 102, 103, 104, 105, 106, 107, 108, 109, 110, 111, 112, 113, 114, 115, 116, 117, 118, 119, 120, 121] (by decide +kernel) (by decide +kernel)
set_option maxRecDepth 20000 in
theorem gX6_spread_X6_isSet : GoodIn wsX6_spread (wsV RX6 150 RX6 yX6_isSet wsX6_isSet) := goodIn_app (goodIn_of _ (by decide +kernel)) ggX6_spread_X6_isSet
set_option maxRecDepth 20000 in
theorem ggX6_spread_X6_isVariant : GoodIn wsX6_spread wsX6_isVariant := goodIn_r _ [16, 7, 8, 4, 9] (by decide +kernel) (by decide +kernel)
set_option maxRecDepth 20000 in
theorem gX6_spread_X6_isVariant : GoodIn wsX6_spread (va_wsS RX6 115 yX6_isVariant wsX6_isVariant) := goodIn_app (goodIn_of _ (by decide +kernel)) ggX6_spread_X6_isVariant
set_option maxRecDepth 20000 in
theorem ggX6_spread_X6_within : GoodIn wsX6_spread wsX6_within := goodIn_r _ [9] (by decide +kernel) (by decide +kernel)
set_option maxRecDepth 20000 in
theorem gX6_spread_X6_within : GoodIn wsX6_spread (va_wsS RX6 48 yX6_within wsX6_within) := goodIn_app (goodIn_of _ (by decide +kernel)) ggX6_spread_X6_within
set_option maxRecDepth 20000 in
theorem ggX6_spread_X6_treeOf : GoodIn wsX6_spread wsX6_treeOf := goodIn_r _ [20, 6, 21, 22, 23, 24, 4, 25, 26, 27, 28, 29, 30, 31, 32, 33, 34, 35, 36, 37, 38, 39, 40, 41, 42, 43, 44, 45, 88, 89, 90, 91, 92, 93, 94, 95, 96, 97, 98, 99, 100, 101, 102, 103, 104, 105, 106, 107, 108, 109, 110, 111, 112, 113, 114, 115, 116, 117, 118, 119, 120, 121] (by decide +kernel) (by decide +kernel)
set_option maxRecDepth 20000 in
theorem gX6_spread_X6_treeOf : GoodIn wsX6_spread (wsV RX6 153 RX6 yX6_treeOf wsX6_treeOf) := goodIn_app (goodIn_of _ (by decide +kernel)) ggX6_spread_X6_treeOf
set_option maxRecDepth 20000 in
theorem ggX6_spread_X6_laySpread : GoodIn wsX6_spread wsX6_laySpread := goodIn_r _ [49, 50, 51, 52, 53, 54, 55, 35, 56, 57, 58, 59, 4, 60, 61, 62, 23, 24, 25, 63, 64, 65, 66, 67, 68, 69, 70, 71, 37, 36, 88, 89, 90, 91, 92, 93, 94, 95, 96, 97, 98, 99, 100, 101, 102, 103, 104, 105, 106, 107, 108, 109, 110, 111, 112, 113, 114, 115, 116, 117, 118, 119, 120, 121] (by decide +kernel) (by decide +kernel)
set_option maxRecDepth 20000 in
theorem gX6_spread_X6_laySpread : GoodIn wsX6_spread (wsV RX6 204 RX6 yX6_laySpread wsX6_laySpread) := goodIn_app (goodIn_of _ (by decide +kernel)) ggX6_spread_X6_laySpread
set_option maxRecDepth 20000 in
theorem ggX6_spread_X6_spreadNow : GoodIn wsX6_spread wsX6_spreadNow := goodIn_r _ [75, 50, 51, 52, 53, 54, 56, 55, 76, 77, 4, 78, 79, 80, 81, 82, 83, 84, 85, 86, 87, 88, 89, 90, 91, 92, 93, 94, 95, 96, 97, 98, 99, 100, 101, 102, 103, 104, 105, 106, 107, 108, 109, 110, 111, 112, 113, 114, 115, 116, 117, 118, 119, 120, 121] (by decide +kernel) (by decide +kernel)
set_option maxRecDepth 20000 in
theorem gX6_spread_X6_spreadNow : GoodIn wsX6_spread (wsV RX6 208 RX6 yX6_spreadNow wsX6_spreadNow) := goodIn_app (goodIn_of _ (by decide +kernel)) ggX6_spread_X6_spreadNow
theorem dX6_spread_0 : decode cX6_spread 0 = .ok (.aload_n 0, 1) := by decide +kernel
theorem dX6_spread_1 : decode cX6_spread 1 = .ok (.iload_n 1, 1) := by decide +kernel
theorem dX6_spread_2 : decode cX6_spread 2 = .ok (.invokevirtual 140, 3) := by decide +kernel
theorem dX6_spread_5 : decode cX6_spread 5 = .ok (.ifCond .ne 7, 3) := by decide +kernel
theorem dX6_spread_8 : decode cX6_spread 8 = .ok (.sipush (-1001), 3) := by decide +kernel
theorem dX6_spread_11 : decode cX6_spread 11 = .ok (.ireturn, 1) := by decide +kernel
theorem dX6_spread_12 : decode cX6_spread 12 = .ok (.aload_n 0, 1) := by decide +kernel
theorem dX6_spread_13 : decode cX6_spread 13 = .ok (.iload_n 2, 1) := by decide +kernel
theorem dX6_spread_14 : decode cX6_spread 14 = .ok (.invokevirtual 150, 3) := by decide +kernel
theorem dX6_spread_17 : decode cX6_spread 17 = .ok (.ifCond .eq 21, 3) := by decide +kernel
theorem dX6_spread_20 : decode cX6_spread 20 = .ok (.iload_n 3, 1) := by decide +kernel
theorem dX6_spread_21 : decode cX6_spread 21 = .ok (.invokestatic 115, 3) := by decide +kernel
theorem dX6_spread_24 : decode cX6_spread 24 = .ok (.ifCond .eq 14, 3) := by decide +kernel
theorem dX6_spread_27 : decode cX6_spread 27 = .ok (.iload 5, 2) := by decide +kernel
theorem dX6_spread_29 : decode cX6_spread 29 = .ok (.iconst 0, 1) := by decide +kernel
theorem dX6_spread_30 : decode cX6_spread 30 = .ok (.bipush 8, 2) := by decide +kernel
theorem dX6_spread_32 : decode cX6_spread 32 = .ok (.invokestatic 48, 3) := by decide +kernel
theorem dX6_spread_35 : decode cX6_spread 35 = .ok (.ifCond .ne 7, 3) := by decide +kernel
theorem dX6_spread_38 : decode cX6_spread 38 = .ok (.sipush (-1002), 3) := by decide +kernel
theorem dX6_spread_41 : decode cX6_spread 41 = .ok (.ireturn, 1) := by decide +kernel
theorem dX6_spread_42 : decode cX6_spread 42 = .ok (.aload_n 0, 1) := by decide +kernel
theorem dX6_spread_43 : decode cX6_spread 43 = .ok (.iload_n 1, 1) := by decide +kernel
theorem dX6_spread_44 : decode cX6_spread 44 = .ok (.aload_n 0, 1) := by decide +kernel
end
section
theorem dX6_spread_45 : decode cX6_spread 45 = .ok (.iload_n 1, 1) := by decide +kernel
theorem dX6_spread_46 : decode cX6_spread 46 = .ok (.iload_n 2, 1) := by decide +kernel
theorem dX6_spread_47 : decode cX6_spread 47 = .ok (.invokevirtual 153, 3) := by decide +kernel
theorem dX6_spread_50 : decode cX6_spread 50 = .ok (.iload_n 3, 1) := by decide +kernel
theorem dX6_spread_51 : decode cX6_spread 51 = .ok (.iload 4, 2) := by decide +kernel
theorem dX6_spread_53 : decode cX6_spread 53 = .ok (.invokevirtual 204, 3) := by decide +kernel
theorem dX6_spread_56 : decode cX6_spread 56 = .ok (.aload_n 0, 1) := by decide +kernel
theorem dX6_spread_57 : decode cX6_spread 57 = .ok (.iload 5, 2) := by decide +kernel
theorem dX6_spread_59 : decode cX6_spread 59 = .ok (.invokevirtual 208, 3) := by decide +kernel
theorem dX6_spread_62 : decode cX6_spread 62 = .ok (.ireturn, 1) := by decide +kernel
set_option maxRecDepth 20000 in
theorem ggX6_bestOf_X6_laySpread : GoodIn wsX6_bestOf wsX6_laySpread := goodIn_r _ [7, 2, 8, 1, 9, 10, 11, 12, 13, 14, 15, 16, 6, 17, 18, 19, 20, 21, 22, 23, 24, 25, 26, 27, 28, 29, 30, 31, 32, 33, 37, 38, 39, 40, 41, 42, 43, 44, 45, 46, 47, 48, 49, 50, 51, 52, 53, 54, 55, 56, 57, 58, 59, 60, 61, 62, 63, 64, 65, 66, 67, 68, 69, 70] (by decide +kernel) (by decide +kernel)
set_option maxRecDepth 20000 in
theorem gX6_bestOf_X6_laySpread : GoodIn wsX6_bestOf (wsV RX6 204 RX6 yX6_laySpread wsX6_laySpread) := goodIn_app (goodIn_of _ (by decide +kernel)) ggX6_bestOf_X6_laySpread
set_option maxRecDepth 20000 in
theorem ggX6_bestOf_X6_ones : GoodIn wsX6_bestOf wsX6_ones := goodIn_r _ [36] (by decide +kernel) (by decide +kernel)
set_option maxRecDepth 20000 in
theorem gX6_bestOf_X6_ones : GoodIn wsX6_bestOf (va_wsS RX6 159 yX6_ones wsX6_ones) := goodIn_app (goodIn_of _ (by decide +kernel)) ggX6_bestOf_X6_ones
theorem dX6_bestOf_0 : decode cX6_bestOf 0 = .ok (.iconst (-1), 1) := by decide +kernel
theorem dX6_bestOf_1 : decode cX6_bestOf 1 = .ok (.istore 4, 2) := by decide +kernel
theorem dX6_bestOf_3 : decode cX6_bestOf 3 = .ok (.iconst 0, 1) := by decide +kernel
theorem dX6_bestOf_4 : decode cX6_bestOf 4 = .ok (.istore 5, 2) := by decide +kernel
theorem dX6_bestOf_6 : decode cX6_bestOf 6 = .ok (.iconst 0, 1) := by decide +kernel
theorem dX6_bestOf_7 : decode cX6_bestOf 7 = .ok (.istore 6, 2) := by decide +kernel
theorem dX6_bestOf_9 : decode cX6_bestOf 9 = .ok (.iload 6, 2) := by decide +kernel
theorem dX6_bestOf_11 : decode cX6_bestOf 11 = .ok (.iconst 3, 1) := by decide +kernel
theorem dX6_bestOf_12 : decode cX6_bestOf 12 = .ok (.if_icmp .ge 73, 3) := by decide +kernel
theorem dX6_bestOf_15 : decode cX6_bestOf 15 = .ok (.aload_n 0, 1) := by decide +kernel
theorem dX6_bestOf_16 : decode cX6_bestOf 16 = .ok (.iload_n 1, 1) := by decide +kernel
theorem dX6_bestOf_17 : decode cX6_bestOf 17 = .ok (.iload_n 2, 1) := by decide +kernel
theorem dX6_bestOf_18 : decode cX6_bestOf 18 = .ok (.iload 6, 2) := by decide +kernel
theorem dX6_bestOf_20 : decode cX6_bestOf 20 = .ok (.iload_n 3, 1) := by decide +kernel
theorem dX6_bestOf_21 : decode cX6_bestOf 21 = .ok (.invokevirtual 204, 3) := by decide +kernel
theorem dX6_bestOf_24 : decode cX6_bestOf 24 = .ok (.bipush 64, 2) := by decide +kernel
theorem dX6_bestOf_26 : decode cX6_bestOf 26 = .ok (.aload_n 0, 1) := by decide +kernel
theorem dX6_bestOf_27 : decode cX6_bestOf 27 = .ok (.getfield 175, 3) := by decide +kernel
theorem dX6_bestOf_30 : decode cX6_bestOf 30 = .ok (.imul, 1) := by decide +kernel
theorem dX6_bestOf_31 : decode cX6_bestOf 31 = .ok (.aload_n 0, 1) := by decide +kernel
theorem dX6_bestOf_32 : decode cX6_bestOf 32 = .ok (.getfield 169, 3) := by decide +kernel
theorem dX6_bestOf_35 : decode cX6_bestOf 35 = .ok (.invokestatic 159, 3) := by decide +kernel
theorem dX6_bestOf_38 : decode cX6_bestOf 38 = .ok (.iadd, 1) := by decide +kernel
theorem dX6_bestOf_39 : decode cX6_bestOf 39 = .ok (.istore 7, 2) := by decide +kernel
theorem dX6_bestOf_41 : decode cX6_bestOf 41 = .ok (.iload 4, 2) := by decide +kernel
theorem dX6_bestOf_43 : decode cX6_bestOf 43 = .ok (.iconst (-1), 1) := by decide +kernel
theorem dX6_bestOf_44 : decode cX6_bestOf 44 = .ok (.if_icmp .eq 10, 3) := by decide +kernel
theorem dX6_bestOf_47 : decode cX6_bestOf 47 = .ok (.iload 7, 2) := by decide +kernel
theorem dX6_bestOf_49 : decode cX6_bestOf 49 = .ok (.iload 5, 2) := by decide +kernel
theorem dX6_bestOf_51 : decode cX6_bestOf 51 = .ok (.if_icmp .ge 8, 3) := by decide +kernel
theorem dX6_bestOf_54 : decode cX6_bestOf 54 = .ok (.iload 6, 2) := by decide +kernel
theorem dX6_bestOf_56 : decode cX6_bestOf 56 = .ok (.goto 5, 3) := by decide +kernel
theorem dX6_bestOf_59 : decode cX6_bestOf 59 = .ok (.iload 4, 2) := by decide +kernel
theorem dX6_bestOf_61 : decode cX6_bestOf 61 = .ok (.istore 4, 2) := by decide +kernel
theorem dX6_bestOf_63 : decode cX6_bestOf 63 = .ok (.iload 4, 2) := by decide +kernel
theorem dX6_bestOf_65 : decode cX6_bestOf 65 = .ok (.iload 6, 2) := by decide +kernel
theorem dX6_bestOf_67 : decode cX6_bestOf 67 = .ok (.if_icmp .ne 8, 3) := by decide +kernel
theorem dX6_bestOf_70 : decode cX6_bestOf 70 = .ok (.iload 7, 2) := by decide +kernel
theorem dX6_bestOf_72 : decode cX6_bestOf 72 = .ok (.goto 5, 3) := by decide +kernel
theorem dX6_bestOf_75 : decode cX6_bestOf 75 = .ok (.iload 5, 2) := by decide +kernel
theorem dX6_bestOf_77 : decode cX6_bestOf 77 = .ok (.istore 5, 2) := by decide +kernel
theorem dX6_bestOf_79 : decode cX6_bestOf 79 = .ok (.iinc 6 1, 3) := by decide +kernel
theorem dX6_bestOf_82 : decode cX6_bestOf 82 = .ok (.goto (-73), 3) := by decide +kernel
theorem dX6_bestOf_85 : decode cX6_bestOf 85 = .ok (.iload 4, 2) := by decide +kernel
theorem dX6_bestOf_87 : decode cX6_bestOf 87 = .ok (.ireturn, 1) := by decide +kernel
set_option maxRecDepth 20000 in
theorem ggX6_best_X6_isNode : GoodIn wsX6_best wsX6_isNode := goodIn_r _ [5, 6, 7, 8, 4, 9, 76, 77, 78, 79, 80, 81, 82, 83, 84, 85, 86, 87, 88, 89, 90, 91, 92, 93, 94, 95, 96, 97, 98, 99, 100, 101, 102, 103, 104, 105, 106, 107, 108, 109] (by decide +kernel) (by decide +kernel)
set_option maxRecDepth 20000 in
theorem gX6_best_X6_isNode : GoodIn wsX6_best (wsV RX6 140 RX6 yX6_isNode wsX6_isNode) := goodIn_app (goodIn_of _ (by decide +kernel)) ggX6_best_X6_isNode
set_option maxRecDepth 20000 in
theorem ggX6_best_X6_isSet : GoodIn wsX6_best wsX6_isSet := goodIn_r _ [13, 6, 7, 8, 4, 9, 76, 77, 78, 79, 80, 81, 82, 83, 84, 85, 86, 87, 88, 89, 90, 91, 92, 93, 94, 95, 96, 97, 98, 99, 100, 101, 102, 103, 104, 105, 106, 107, 108, 109] (by decide +kernel) (by decide +kernel)
set_option maxRecDepth 20000 in
theorem gX6_best_X6_isSet : GoodIn wsX6_best (wsV RX6 150 RX6 yX6_isSet wsX6_isSet) := goodIn_app (goodIn_of _ (by decide +kernel)) ggX6_best_X6_isSet
set_option maxRecDepth 20000 in
theorem ggX6_best_X6_treeOf : GoodIn wsX6_best wsX6_treeOf := goodIn_r _ [17, 6, 18, 19, 20, 21, 4, 22, 23, 24, 25, 26, 27, 28, 29, 30, 31, 32, 33, 34, 35, 36, 37, 38, 39, 40, 41, 42, 76, 77, 78, 79, 80, 81, 82, 83, 84, 85, 86, 87, 88, 89, 90, 91, 92, 93, 94, 95, 96, 97, 98, 99, 100, 101, 102, 103, 104, 105, 106, 107, 108, 109] (by decide +kernel) (by decide +kernel)
set_option maxRecDepth 20000 in
theorem gX6_best_X6_treeOf : GoodIn wsX6_best (wsV RX6 153 RX6 yX6_treeOf wsX6_treeOf) := goodIn_app (goodIn_of _ (by decide +kernel)) ggX6_best_X6_treeOf
set_option maxRecDepth 20000 in
theorem ggX6_best_X6_bestOf : GoodIn wsX6_best wsX6_bestOf := goodIn_r _ [46, 47, 48, 49, 50, 51, 4, 52, 53, 54, 55, 56, 32, 57, 58, 59, 60, 61, 62, 63, 20, 21, 22, 64, 65, 66, 67, 68, 69, 70, 71, 72, 34, 33, 73, 74, 75, 76, 77, 78, 79, 80, 81, 82, 83, 84, 85, 86, 87, 88, 89, 90, 91, 92, 93, 94, 95, 96, 97, 98, 99, 100, 101, 102, 103, 104, 105, 106, 107, 108, 109] (by decide +kernel) (by decide +kernel)
set_option maxRecDepth 20000 in
theorem gX6_best_X6_bestOf : GoodIn wsX6_best (wsV RX6 211 RX6 yX6_bestOf wsX6_bestOf) := goodIn_app (goodIn_of _ (by decide +kernel)) ggX6_best_X6_bestOf
theorem dX6_best_0 : decode cX6_best 0 = .ok (.aload_n 0, 1) := by decide +kernel
theorem dX6_best_1 : decode cX6_best 1 = .ok (.iload_n 1, 1) := by decide +kernel
theorem dX6_best_2 : decode cX6_best 2 = .ok (.invokevirtual 140, 3) := by decide +kernel
theorem dX6_best_5 : decode cX6_best 5 = .ok (.ifCond .ne 7, 3) := by decide +kernel
theorem dX6_best_8 : decode cX6_best 8 = .ok (.sipush (-1001), 3) := by decide +kernel
theorem dX6_best_11 : decode cX6_best 11 = .ok (.ireturn, 1) := by decide +kernel
theorem dX6_best_12 : decode cX6_best 12 = .ok (.aload_n 0, 1) := by decide +kernel
theorem dX6_best_13 : decode cX6_best 13 = .ok (.iload_n 2, 1) := by decide +kernel
theorem dX6_best_14 : decode cX6_best 14 = .ok (.invokevirtual 150, 3) := by decide +kernel
theorem dX6_best_17 : decode cX6_best 17 = .ok (.ifCond .eq 18, 3) := by decide +kernel
theorem dX6_best_20 : decode cX6_best 20 = .ok (.aload_n 0, 1) := by decide +kernel
theorem dX6_best_21 : decode cX6_best 21 = .ok (.iload_n 1, 1) := by decide +kernel
theorem dX6_best_22 : decode cX6_best 22 = .ok (.aload_n 0, 1) := by decide +kernel
theorem dX6_best_23 : decode cX6_best 23 = .ok (.iload_n 1, 1) := by decide +kernel
theorem dX6_best_24 : decode cX6_best 24 = .ok (.iload_n 2, 1) := by decide +kernel
theorem dX6_best_25 : decode cX6_best 25 = .ok (.invokevirtual 153, 3) := by decide +kernel
theorem dX6_best_28 : decode cX6_best 28 = .ok (.iload_n 3, 1) := by decide +kernel
theorem dX6_best_29 : decode cX6_best 29 = .ok (.invokevirtual 211, 3) := by decide +kernel
theorem dX6_best_32 : decode cX6_best 32 = .ok (.goto 6, 3) := by decide +kernel
theorem dX6_best_35 : decode cX6_best 35 = .ok (.sipush (-1002), 3) := by decide +kernel
theorem dX6_best_38 : decode cX6_best 38 = .ok (.ireturn, 1) := by decide +kernel
set_option maxRecDepth 20000 in
theorem ggX6_sendNow_X6_bestOf : GoodIn wsX6_sendNow wsX6_bestOf := goodIn_r _ [12, 5, 13, 14, 15, 16, 11, 17, 3, 7, 18, 19, 20, 21, 22, 23, 24, 25, 26, 27, 28, 29, 30, 31, 32, 33, 34, 35, 36, 37, 38, 39, 40, 41, 42, 43, 44, 45, 46, 47, 48, 49, 50, 51, 52, 53, 54, 55, 56, 57, 58, 59, 60, 61, 62, 63, 64, 65, 66, 67, 68, 69, 70, 71, 72, 73, 74, 75, 76, 77, 78] (by decide +kernel) (by decide +kernel)
set_option maxRecDepth 20000 in
theorem gX6_sendNow_X6_bestOf : GoodIn wsX6_sendNow (wsV RX6 211 RX6 yX6_bestOf wsX6_bestOf) := goodIn_app (goodIn_of _ (by decide +kernel)) ggX6_sendNow_X6_bestOf
set_option maxRecDepth 20000 in
theorem ggX6_sendNow_X6_laySpread : GoodIn wsX6_sendNow wsX6_laySpread := goodIn_r _ [17, 13, 3, 5, 7, 18, 19, 20, 21, 22, 23, 24, 11, 25, 26, 27, 28, 29, 30, 31, 32, 33, 34, 35, 36, 37, 38, 39, 40, 41, 45, 46, 47, 48, 49, 50, 51, 52, 53, 54, 55, 56, 57, 58, 59, 60, 61, 62, 63, 64, 65, 66, 67, 68, 69, 70, 71, 72, 73, 74, 75, 76, 77, 78] (by decide +kernel) (by decide +kernel)
set_option maxRecDepth 20000 in
theorem gX6_sendNow_X6_laySpread : GoodIn wsX6_sendNow (wsV RX6 204 RX6 yX6_laySpread wsX6_laySpread) := goodIn_app (goodIn_of _ (by decide +kernel)) ggX6_sendNow_X6_laySpread
theorem dX6_sendNow_0 : decode cX6_sendNow 0 = .ok (.aload_n 0, 1) := by decide +kernel
theorem dX6_sendNow_1 : decode cX6_sendNow 1 = .ok (.iload_n 1, 1) := by decide +kernel
theorem dX6_sendNow_2 : decode cX6_sendNow 2 = .ok (.iload_n 2, 1) := by decide +kernel
theorem dX6_sendNow_3 : decode cX6_sendNow 3 = .ok (.aload_n 0, 1) := by decide +kernel
theorem dX6_sendNow_4 : decode cX6_sendNow 4 = .ok (.iload_n 1, 1) := by decide +kernel
theorem dX6_sendNow_5 : decode cX6_sendNow 5 = .ok (.iload_n 2, 1) := by decide +kernel
theorem dX6_sendNow_6 : decode cX6_sendNow 6 = .ok (.iload_n 3, 1) := by decide +kernel
theorem dX6_sendNow_7 : decode cX6_sendNow 7 = .ok (.invokevirtual 211, 3) := by decide +kernel
theorem dX6_sendNow_10 : decode cX6_sendNow 10 = .ok (.iload_n 3, 1) := by decide +kernel
theorem dX6_sendNow_11 : decode cX6_sendNow 11 = .ok (.invokevirtual 204, 3) := by decide +kernel
theorem dX6_sendNow_14 : decode cX6_sendNow 14 = .ok (.aload_n 0, 1) := by decide +kernel
theorem dX6_sendNow_15 : decode cX6_sendNow 15 = .ok (.dup, 1) := by decide +kernel
theorem dX6_sendNow_16 : decode cX6_sendNow 16 = .ok (.getfield 215, 3) := by decide +kernel
theorem dX6_sendNow_19 : decode cX6_sendNow 19 = .ok (.iconst 1, 1) := by decide +kernel
theorem dX6_sendNow_20 : decode cX6_sendNow 20 = .ok (.iadd, 1) := by decide +kernel
theorem dX6_sendNow_21 : decode cX6_sendNow 21 = .ok (.putfield 215, 3) := by decide +kernel
theorem dX6_sendNow_24 : decode cX6_sendNow 24 = .ok (.aload_n 0, 1) := by decide +kernel
theorem dX6_sendNow_25 : decode cX6_sendNow 25 = .ok (.dup, 1) := by decide +kernel
theorem dX6_sendNow_26 : decode cX6_sendNow 26 = .ok (.getfield 218, 3) := by decide +kernel
theorem dX6_sendNow_29 : decode cX6_sendNow 29 = .ok (.aload_n 0, 1) := by decide +kernel
theorem dX6_sendNow_30 : decode cX6_sendNow 30 = .ok (.getfield 172, 3) := by decide +kernel
theorem dX6_sendNow_33 : decode cX6_sendNow 33 = .ok (.iadd, 1) := by decide +kernel
theorem dX6_sendNow_34 : decode cX6_sendNow 34 = .ok (.putfield 218, 3) := by decide +kernel
theorem dX6_sendNow_37 : decode cX6_sendNow 37 = .ok (.aload_n 0, 1) := by decide +kernel
theorem dX6_sendNow_38 : decode cX6_sendNow 38 = .ok (.dup, 1) := by decide +kernel
theorem dX6_sendNow_39 : decode cX6_sendNow 39 = .ok (.getfield 221, 3) := by decide +kernel
theorem dX6_sendNow_42 : decode cX6_sendNow 42 = .ok (.aload_n 0, 1) := by decide +kernel
theorem dX6_sendNow_43 : decode cX6_sendNow 43 = .ok (.getfield 175, 3) := by decide +kernel
theorem dX6_sendNow_46 : decode cX6_sendNow 46 = .ok (.iadd, 1) := by decide +kernel
theorem dX6_sendNow_47 : decode cX6_sendNow 47 = .ok (.putfield 221, 3) := by decide +kernel
theorem dX6_sendNow_50 : decode cX6_sendNow 50 = .ok (.aload_n 0, 1) := by decide +kernel
theorem dX6_sendNow_51 : decode cX6_sendNow 51 = .ok (.dup, 1) := by decide +kernel
theorem dX6_sendNow_52 : decode cX6_sendNow 52 = .ok (.getfield 224, 3) := by decide +kernel
theorem dX6_sendNow_55 : decode cX6_sendNow 55 = .ok (.aload_n 0, 1) := by decide +kernel
theorem dX6_sendNow_56 : decode cX6_sendNow 56 = .ok (.getfield 178, 3) := by decide +kernel
theorem dX6_sendNow_59 : decode cX6_sendNow 59 = .ok (.iadd, 1) := by decide +kernel
theorem dX6_sendNow_60 : decode cX6_sendNow 60 = .ok (.putfield 224, 3) := by decide +kernel
theorem dX6_sendNow_63 : decode cX6_sendNow 63 = .ok (.aload_n 0, 1) := by decide +kernel
theorem dX6_sendNow_64 : decode cX6_sendNow 64 = .ok (.getfield 175, 3) := by decide +kernel
theorem dX6_sendNow_67 : decode cX6_sendNow 67 = .ok (.ireturn, 1) := by decide +kernel
set_option maxRecDepth 20000 in
theorem ggX6_send_X6_isNode : GoodIn wsX6_send wsX6_isNode := goodIn_r _ [5, 6, 7, 8, 4, 9, 84, 85, 86, 87, 88, 89, 90, 91, 92, 93, 94, 95, 96, 97, 98, 99, 100, 101, 102, 103, 104, 105, 106, 107, 108, 109, 110, 111, 112, 113, 114, 115, 116, 117] (by decide +kernel) (by decide +kernel)
set_option maxRecDepth 20000 in
theorem gX6_send_X6_isNode : GoodIn wsX6_send (wsV RX6 140 RX6 yX6_isNode wsX6_isNode) := goodIn_app (goodIn_of _ (by decide +kernel)) ggX6_send_X6_isNode
set_option maxRecDepth 20000 in
theorem ggX6_send_X6_isSet : GoodIn wsX6_send wsX6_isSet := goodIn_r _ [13, 6, 7, 8, 4, 9, 84, 85, 86, 87, 88, 89, 90, 91, 92, 93, 94, 95, 96, 97, 98, 99, 100, 101, 102, 103, 104, 105, 106, 107, 108, 109, 110, 111, 112, 113, 114, 115, 116, 117] (by decide +kernel) (by decide +kernel)
set_option maxRecDepth 20000 in
theorem gX6_send_X6_isSet : GoodIn wsX6_send (wsV RX6 150 RX6 yX6_isSet wsX6_isSet) := goodIn_app (goodIn_of _ (by decide +kernel)) ggX6_send_X6_isSet
set_option maxRecDepth 20000 in
theorem ggX6_send_X6_treeOf : GoodIn wsX6_send wsX6_treeOf := goodIn_r _ [17, 6, 18, 19, 20, 21, 4, 22, 23, 24, 25, 26, 27, 28, 29, 30, 31, 32, 33, 34, 35, 36, 37, 38, 39, 40, 41, 42, 84, 85, 86, 87, 88, 89, 90, 91, 92, 93, 94, 95, 96, 97, 98, 99, 100, 101, 102, 103, 104, 105, 106, 107, 108, 109, 110, 111, 112, 113, 114, 115, 116, 117] (by decide +kernel) (by decide +kernel)
set_option maxRecDepth 20000 in
theorem gX6_send_X6_treeOf : GoodIn wsX6_send (wsV RX6 153 RX6 yX6_treeOf wsX6_treeOf) := goodIn_app (goodIn_of _ (by decide +kernel)) ggX6_send_X6_treeOf
set_option maxRecDepth 20000 in
theorem ggX6_send_X6_sendNow : GoodIn wsX6_send wsX6_sendNow := goodIn_r _ [46, 47, 48, 49, 50, 51, 52, 53, 54, 55, 56, 4, 57, 58, 59, 60, 61, 62, 63, 64, 32, 65, 66, 67, 68, 69, 70, 71, 20, 21, 22, 72, 73, 74, 75, 76, 77, 78, 79, 80, 34, 33, 81, 82, 83, 84, 85, 86, 87, 88, 89, 90, 91, 92, 93, 94, 95, 96, 97, 98, 99, 100, 101, 102, 103, 104, 105, 106, 107, 108, 109, 110, 111, 112, 113, 114, 115, 116, 117] (by decide +kernel) (by decide +kernel)
set_option maxRecDepth 20000 in
theorem gX6_send_X6_sendNow : GoodIn wsX6_send (wsV RX6 227 RX6 yX6_sendNow wsX6_sendNow) := goodIn_app (goodIn_of _ (by decide +kernel)) ggX6_send_X6_sendNow
theorem dX6_send_0 : decode cX6_send 0 = .ok (.aload_n 0, 1) := by decide +kernel
theorem dX6_send_1 : decode cX6_send 1 = .ok (.iload_n 1, 1) := by decide +kernel
theorem dX6_send_2 : decode cX6_send 2 = .ok (.invokevirtual 140, 3) := by decide +kernel
theorem dX6_send_5 : decode cX6_send 5 = .ok (.ifCond .ne 7, 3) := by decide +kernel
theorem dX6_send_8 : decode cX6_send 8 = .ok (.sipush (-1001), 3) := by decide +kernel
theorem dX6_send_11 : decode cX6_send 11 = .ok (.ireturn, 1) := by decide +kernel
theorem dX6_send_12 : decode cX6_send 12 = .ok (.aload_n 0, 1) := by decide +kernel
theorem dX6_send_13 : decode cX6_send 13 = .ok (.iload_n 2, 1) := by decide +kernel
theorem dX6_send_14 : decode cX6_send 14 = .ok (.invokevirtual 150, 3) := by decide +kernel
theorem dX6_send_17 : decode cX6_send 17 = .ok (.ifCond .eq 18, 3) := by decide +kernel
theorem dX6_send_20 : decode cX6_send 20 = .ok (.aload_n 0, 1) := by decide +kernel
theorem dX6_send_21 : decode cX6_send 21 = .ok (.iload_n 1, 1) := by decide +kernel
theorem dX6_send_22 : decode cX6_send 22 = .ok (.aload_n 0, 1) := by decide +kernel
theorem dX6_send_23 : decode cX6_send 23 = .ok (.iload_n 1, 1) := by decide +kernel
theorem dX6_send_24 : decode cX6_send 24 = .ok (.iload_n 2, 1) := by decide +kernel
theorem dX6_send_25 : decode cX6_send 25 = .ok (.invokevirtual 153, 3) := by decide +kernel
theorem dX6_send_28 : decode cX6_send 28 = .ok (.iload_n 3, 1) := by decide +kernel
theorem dX6_send_29 : decode cX6_send 29 = .ok (.invokevirtual 227, 3) := by decide +kernel
theorem dX6_send_32 : decode cX6_send 32 = .ok (.goto 6, 3) := by decide +kernel
theorem dX6_send_35 : decode cX6_send 35 = .ok (.sipush (-1002), 3) := by decide +kernel
theorem dX6_send_38 : decode cX6_send 38 = .ok (.ireturn, 1) := by decide +kernel
theorem dX6_bundlesMany_0 : decode cX6_bundlesMany 0 = .ok (.iconst 0, 1) := by decide +kernel
theorem dX6_bundlesMany_1 : decode cX6_bundlesMany 1 = .ok (.istore_n 1, 1) := by decide +kernel
theorem dX6_bundlesMany_2 : decode cX6_bundlesMany 2 = .ok (.iconst 0, 1) := by decide +kernel
theorem dX6_bundlesMany_3 : decode cX6_bundlesMany 3 = .ok (.istore_n 2, 1) := by decide +kernel
theorem dX6_bundlesMany_4 : decode cX6_bundlesMany 4 = .ok (.iload_n 2, 1) := by decide +kernel
theorem dX6_bundlesMany_5 : decode cX6_bundlesMany 5 = .ok (.iconst 4, 1) := by decide +kernel
theorem dX6_bundlesMany_6 : decode cX6_bundlesMany 6 = .ok (.if_icmp .ge 26, 3) := by decide +kernel
theorem dX6_bundlesMany_9 : decode cX6_bundlesMany 9 = .ok (.iload_n 1, 1) := by decide +kernel
theorem dX6_bundlesMany_10 : decode cX6_bundlesMany 10 = .ok (.aload_n 0, 1) := by decide +kernel
theorem dX6_bundlesMany_11 : decode cX6_bundlesMany 11 = .ok (.getfield 29, 3) := by decide +kernel
theorem dX6_bundlesMany_14 : decode cX6_bundlesMany 14 = .ok (.iload_n 2, 1) := by decide +kernel
theorem dX6_bundlesMany_15 : decode cX6_bundlesMany 15 = .ok (.iaload, 1) := by decide +kernel
theorem dX6_bundlesMany_16 : decode cX6_bundlesMany 16 = .ok (.ifCond .eq 7, 3) := by decide +kernel
theorem dX6_bundlesMany_19 : decode cX6_bundlesMany 19 = .ok (.iconst 1, 1) := by decide +kernel
theorem dX6_bundlesMany_20 : decode cX6_bundlesMany 20 = .ok (.goto 4, 3) := by decide +kernel
theorem dX6_bundlesMany_23 : decode cX6_bundlesMany 23 = .ok (.iconst 0, 1) := by decide +kernel
theorem dX6_bundlesMany_24 : decode cX6_bundlesMany 24 = .ok (.iadd, 1) := by decide +kernel
theorem dX6_bundlesMany_25 : decode cX6_bundlesMany 25 = .ok (.istore_n 1, 1) := by decide +kernel
theorem dX6_bundlesMany_26 : decode cX6_bundlesMany 26 = .ok (.iinc 2 1, 3) := by decide +kernel
theorem dX6_bundlesMany_29 : decode cX6_bundlesMany 29 = .ok (.goto (-25), 3) := by decide +kernel
theorem dX6_bundlesMany_32 : decode cX6_bundlesMany 32 = .ok (.iload_n 1, 1) := by decide +kernel
theorem dX6_bundlesMany_33 : decode cX6_bundlesMany 33 = .ok (.ireturn, 1) := by decide +kernel
set_option maxRecDepth 20000 in
theorem ggX6_howMany_X6_bundlesMany : GoodIn wsX6_howMany wsX6_bundlesMany := goodIn_r _ [16, 17, 18, 19, 20, 21, 22, 23, 24, 25, 26, 27, 28, 29, 30, 31, 32, 33, 34, 35, 36, 37, 38, 39, 40, 41, 42, 43, 44, 45, 46, 47, 48, 49, 50, 51] (by decide +kernel) (by decide +kernel)
set_option maxRecDepth 20000 in
theorem gX6_howMany_X6_bundlesMany : GoodIn wsX6_howMany (wsV RX6 230 RX6 yX6_bundlesMany wsX6_bundlesMany) := goodIn_app (goodIn_of _ (by decide +kernel)) ggX6_howMany_X6_bundlesMany
theorem dX6_howMany_0 : decode cX6_howMany 0 = .ok (.iload_n 1, 1) := by decide +kernel
theorem dX6_howMany_1 : decode cX6_howMany 1 = .ok (.tableswitch 123 0 11 #[63, 68, 73, 78, 83, 88, 93, 98, 103, 108, 113, 118], 63) := by decide +kernel
theorem dX6_howMany_64 : decode cX6_howMany 64 = .ok (.aload_n 0, 1) := by decide +kernel
theorem dX6_howMany_65 : decode cX6_howMany 65 = .ok (.getfield 82, 3) := by decide +kernel
theorem dX6_howMany_68 : decode cX6_howMany 68 = .ok (.ireturn, 1) := by decide +kernel
theorem dX6_howMany_69 : decode cX6_howMany 69 = .ok (.aload_n 0, 1) := by decide +kernel
theorem dX6_howMany_70 : decode cX6_howMany 70 = .ok (.getfield 85, 3) := by decide +kernel
theorem dX6_howMany_73 : decode cX6_howMany 73 = .ok (.ireturn, 1) := by decide +kernel
theorem dX6_howMany_74 : decode cX6_howMany 74 = .ok (.aload_n 0, 1) := by decide +kernel
theorem dX6_howMany_75 : decode cX6_howMany 75 = .ok (.getfield 52, 3) := by decide +kernel
theorem dX6_howMany_78 : decode cX6_howMany 78 = .ok (.ireturn, 1) := by decide +kernel
theorem dX6_howMany_79 : decode cX6_howMany 79 = .ok (.aload_n 0, 1) := by decide +kernel
theorem dX6_howMany_80 : decode cX6_howMany 80 = .ok (.getfield 19, 3) := by decide +kernel
theorem dX6_howMany_83 : decode cX6_howMany 83 = .ok (.ireturn, 1) := by decide +kernel
theorem dX6_howMany_84 : decode cX6_howMany 84 = .ok (.aload_n 0, 1) := by decide +kernel
theorem dX6_howMany_85 : decode cX6_howMany 85 = .ok (.getfield 23, 3) := by decide +kernel
theorem dX6_howMany_88 : decode cX6_howMany 88 = .ok (.ireturn, 1) := by decide +kernel
theorem dX6_howMany_89 : decode cX6_howMany 89 = .ok (.aload_n 0, 1) := by decide +kernel
theorem dX6_howMany_90 : decode cX6_howMany 90 = .ok (.getfield 26, 3) := by decide +kernel
theorem dX6_howMany_93 : decode cX6_howMany 93 = .ok (.ireturn, 1) := by decide +kernel
theorem dX6_howMany_94 : decode cX6_howMany 94 = .ok (.aload_n 0, 1) := by decide +kernel
theorem dX6_howMany_95 : decode cX6_howMany 95 = .ok (.invokevirtual 230, 3) := by decide +kernel
theorem dX6_howMany_98 : decode cX6_howMany 98 = .ok (.ireturn, 1) := by decide +kernel
theorem dX6_howMany_99 : decode cX6_howMany 99 = .ok (.aload_n 0, 1) := by decide +kernel
theorem dX6_howMany_100 : decode cX6_howMany 100 = .ok (.getfield 88, 3) := by decide +kernel
theorem dX6_howMany_103 : decode cX6_howMany 103 = .ok (.ireturn, 1) := by decide +kernel
theorem dX6_howMany_104 : decode cX6_howMany 104 = .ok (.aload_n 0, 1) := by decide +kernel
theorem dX6_howMany_105 : decode cX6_howMany 105 = .ok (.getfield 215, 3) := by decide +kernel
theorem dX6_howMany_108 : decode cX6_howMany 108 = .ok (.ireturn, 1) := by decide +kernel
theorem dX6_howMany_109 : decode cX6_howMany 109 = .ok (.aload_n 0, 1) := by decide +kernel
theorem dX6_howMany_110 : decode cX6_howMany 110 = .ok (.getfield 218, 3) := by decide +kernel
theorem dX6_howMany_113 : decode cX6_howMany 113 = .ok (.ireturn, 1) := by decide +kernel
theorem dX6_howMany_114 : decode cX6_howMany 114 = .ok (.aload_n 0, 1) := by decide +kernel
theorem dX6_howMany_115 : decode cX6_howMany 115 = .ok (.getfield 221, 3) := by decide +kernel
theorem dX6_howMany_118 : decode cX6_howMany 118 = .ok (.ireturn, 1) := by decide +kernel
theorem dX6_howMany_119 : decode cX6_howMany 119 = .ok (.aload_n 0, 1) := by decide +kernel
theorem dX6_howMany_120 : decode cX6_howMany 120 = .ok (.getfield 224, 3) := by decide +kernel
theorem dX6_howMany_123 : decode cX6_howMany 123 = .ok (.ireturn, 1) := by decide +kernel
theorem dX6_howMany_124 : decode cX6_howMany 124 = .ok (.sipush (-1002), 3) := by decide +kernel
theorem dX6_howMany_127 : decode cX6_howMany 127 = .ok (.ireturn, 1) := by decide +kernel
set_option maxRecDepth 20000 in
theorem ggX6_count_X6_howMany : GoodIn wsX6_count wsX6_howMany := goodIn_r _ [5, 6, 7, 8, 9, 10, 11, 12, 13, 14, 15, 16, 17, 18, 19, 4, 20, 21, 22, 23, 24, 25, 26, 27, 28, 29, 30, 31, 32, 33, 34, 35, 36, 37, 38, 39, 40, 41, 42, 43, 44, 45, 46, 47, 48, 49, 50, 51, 52, 53, 54, 55] (by decide +kernel) (by decide +kernel)
set_option maxRecDepth 20000 in
theorem gX6_count_X6_howMany : GoodIn wsX6_count (wsV RX6 233 RX6 yX6_howMany wsX6_howMany) := goodIn_app (goodIn_of _ (by decide +kernel)) ggX6_count_X6_howMany
theorem dX6_count_0 : decode cX6_count 0 = .ok (.aload_n 0, 1) := by decide +kernel
theorem dX6_count_1 : decode cX6_count 1 = .ok (.iload_n 1, 1) := by decide +kernel
theorem dX6_count_2 : decode cX6_count 2 = .ok (.invokevirtual 233, 3) := by decide +kernel
theorem dX6_count_5 : decode cX6_count 5 = .ok (.ireturn, 1) := by decide +kernel
theorem dX6_mix_0 : decode cX6_mix 0 = .ok (.aload_n 0, 1) := by decide +kernel
theorem dX6_mix_1 : decode cX6_mix 1 = .ok (.ldc2_w 236, 3) := by decide +kernel
theorem dX6_mix_4 : decode cX6_mix 4 = .ok (.aload_n 0, 1) := by decide +kernel
theorem dX6_mix_5 : decode cX6_mix 5 = .ok (.getfield 238, 3) := by decide +kernel
theorem dX6_mix_8 : decode cX6_mix 8 = .ok (.lmul, 1) := by decide +kernel
theorem dX6_mix_9 : decode cX6_mix 9 = .ok (.lload_n 1, 1) := by decide +kernel
theorem dX6_mix_10 : decode cX6_mix 10 = .ok (.ladd, 1) := by decide +kernel
theorem dX6_mix_11 : decode cX6_mix 11 = .ok (.putfield 238, 3) := by decide +kernel
theorem dX6_mix_14 : decode cX6_mix 14 = .ok (.return_, 1) := by decide +kernel
set_option maxRecDepth 20000 in
theorem ggX6_mixNode_X6_treeOf : GoodIn wsX6_mixNode wsX6_treeOf := goodIn_r _ [6, 1, 7, 8, 9, 10, 5, 11, 12, 13, 14, 15, 16, 17, 18, 19, 20, 21, 22, 23, 24, 25, 26, 27, 28, 29, 30, 31, 84, 85, 86, 87, 88, 89, 90, 91, 92, 93, 94, 95, 96, 97, 98, 99, 100, 101, 102, 103, 104, 105, 106, 107, 108, 109, 110, 111, 112, 113, 114, 115, 116, 117] (by decide +kernel) (by decide +kernel)
set_option maxRecDepth 20000 in
theorem gX6_mixNode_X6_treeOf : GoodIn wsX6_mixNode (wsV RX6 153 RX6 yX6_treeOf wsX6_treeOf) := goodIn_app (goodIn_of _ (by decide +kernel)) ggX6_mixNode_X6_treeOf
set_option maxRecDepth 20000 in
theorem ggX6_mixNode_X6_mix : GoodIn wsX6_mixNode wsX6_mix := goodIn_r _ [35, 36, 37, 84, 85, 86, 87, 88, 89, 90, 91, 92, 93, 94, 95, 96, 97, 98, 99, 100, 101, 102, 103, 104, 105, 106, 107, 108, 109, 110, 111, 112, 113, 114, 115, 116, 117] (by decide +kernel) (by decide +kernel)
set_option maxRecDepth 20000 in
theorem gX6_mixNode_X6_mix : GoodIn wsX6_mixNode (wsV RX6 241 RX6 yX6_mix wsX6_mix) := goodIn_app (goodIn_of _ (by decide +kernel)) ggX6_mixNode_X6_mix
set_option maxRecDepth 20000 in
theorem ggX6_mixNode_X6_laySpread : GoodIn wsX6_mixNode wsX6_laySpread := goodIn_r _ [41, 42, 43, 44, 45, 46, 47, 21, 48, 49, 50, 51, 5, 52, 53, 54, 9, 10, 11, 55, 56, 57, 58, 59, 60, 61, 62, 63, 23, 22, 84, 85, 86, 87, 88, 89, 90, 91, 92, 93, 94, 95, 96, 97, 98, 99, 100, 101, 102, 103, 104, 105, 106, 107, 108, 109, 110, 111, 112, 113, 114, 115, 116, 117] (by decide +kernel) (by decide +kernel)
set_option maxRecDepth 20000 in
theorem gX6_mixNode_X6_laySpread : GoodIn wsX6_mixNode (wsV RX6 204 RX6 yX6_laySpread wsX6_laySpread) := goodIn_app (goodIn_of _ (by decide +kernel)) ggX6_mixNode_X6_laySpread
set_option maxRecDepth 20000 in
theorem ggX6_mixNode_X6_spreadNow : GoodIn wsX6_mixNode wsX6_spreadNow := goodIn_r _ [67, 42, 43, 44, 45, 46, 48, 47, 68, 69, 5, 70, 71, 72, 73, 74, 75, 76, 77, 78, 79, 84, 85, 86, 87, 88, 89, 90, 91, 92, 93, 94, 95, 96, 97, 98, 99, 100, 101, 102, 103, 104, 105, 106, 107, 108, 109, 110, 111, 112, 113, 114, 115, 116, 117] (by decide +kernel) (by decide +kernel)
set_option maxRecDepth 20000 in
theorem gX6_mixNode_X6_spreadNow : GoodIn wsX6_mixNode (wsV RX6 208 RX6 yX6_spreadNow wsX6_spreadNow) := goodIn_app (goodIn_of _ (by decide +kernel)) ggX6_mixNode_X6_spreadNow
set_option maxRecDepth 20000 in
theorem ggX6_mixNode_X6_bestOf : GoodIn wsX6_mixNode wsX6_bestOf := goodIn_r _ [83, 44, 42, 38, 39, 40, 5, 41, 43, 45, 46, 47, 21, 48, 49, 50, 51, 52, 53, 54, 9, 10, 11, 55, 56, 57, 58, 59, 60, 61, 62, 63, 23, 22, 68, 69, 70, 84, 85, 86, 87, 88, 89, 90, 91, 92, 93, 94, 95, 96, 97, 98, 99, 100, 101, 102, 103, 104, 105, 106, 107, 108, 109, 110, 111, 112, 113, 114, 115, 116, 117] (by decide +kernel) (by decide +kernel)
set_option maxRecDepth 20000 in
theorem gX6_mixNode_X6_bestOf : GoodIn wsX6_mixNode (wsV RX6 211 RX6 yX6_bestOf wsX6_bestOf) := goodIn_app (goodIn_of _ (by decide +kernel)) ggX6_mixNode_X6_bestOf
theorem dX6_mixNode_0 : decode cX6_mixNode 0 = .ok (.aload_n 0, 1) := by decide +kernel
theorem dX6_mixNode_1 : decode cX6_mixNode 1 = .ok (.iload_n 1, 1) := by decide +kernel
theorem dX6_mixNode_2 : decode cX6_mixNode 2 = .ok (.iconst 1, 1) := by decide +kernel
theorem dX6_mixNode_3 : decode cX6_mixNode 3 = .ok (.aload_n 0, 1) := by decide +kernel
theorem dX6_mixNode_4 : decode cX6_mixNode 4 = .ok (.getfield 82, 3) := by decide +kernel
theorem dX6_mixNode_7 : decode cX6_mixNode 7 = .ok (.ishl, 1) := by decide +kernel
theorem dX6_mixNode_8 : decode cX6_mixNode 8 = .ok (.iconst 1, 1) := by decide +kernel
theorem dX6_mixNode_9 : decode cX6_mixNode 9 = .ok (.isub, 1) := by decide +kernel
theorem dX6_mixNode_10 : decode cX6_mixNode 10 = .ok (.invokevirtual 153, 3) := by decide +kernel
theorem dX6_mixNode_13 : decode cX6_mixNode 13 = .ok (.istore_n 2, 1) := by decide +kernel
theorem dX6_mixNode_14 : decode cX6_mixNode 14 = .ok (.aload_n 0, 1) := by decide +kernel
theorem dX6_mixNode_15 : decode cX6_mixNode 15 = .ok (.iload_n 2, 1) := by decide +kernel
theorem dX6_mixNode_16 : decode cX6_mixNode 16 = .ok (.i2l, 1) := by decide +kernel
theorem dX6_mixNode_17 : decode cX6_mixNode 17 = .ok (.invokevirtual 241, 3) := by decide +kernel
theorem dX6_mixNode_20 : decode cX6_mixNode 20 = .ok (.iconst 0, 1) := by decide +kernel
theorem dX6_mixNode_21 : decode cX6_mixNode 21 = .ok (.istore_n 3, 1) := by decide +kernel
theorem dX6_mixNode_22 : decode cX6_mixNode 22 = .ok (.iload_n 3, 1) := by decide +kernel
theorem dX6_mixNode_23 : decode cX6_mixNode 23 = .ok (.iconst 3, 1) := by decide +kernel
theorem dX6_mixNode_24 : decode cX6_mixNode 24 = .ok (.if_icmp .ge 44, 3) := by decide +kernel
theorem dX6_mixNode_27 : decode cX6_mixNode 27 = .ok (.aload_n 0, 1) := by decide +kernel
theorem dX6_mixNode_28 : decode cX6_mixNode 28 = .ok (.iload_n 1, 1) := by decide +kernel
theorem dX6_mixNode_29 : decode cX6_mixNode 29 = .ok (.iload_n 2, 1) := by decide +kernel
theorem dX6_mixNode_30 : decode cX6_mixNode 30 = .ok (.iload_n 3, 1) := by decide +kernel
theorem dX6_mixNode_31 : decode cX6_mixNode 31 = .ok (.iconst 0, 1) := by decide +kernel
theorem dX6_mixNode_32 : decode cX6_mixNode 32 = .ok (.invokevirtual 204, 3) := by decide +kernel
theorem dX6_mixNode_35 : decode cX6_mixNode 35 = .ok (.iconst 0, 1) := by decide +kernel
theorem dX6_mixNode_36 : decode cX6_mixNode 36 = .ok (.istore 4, 2) := by decide +kernel
theorem dX6_mixNode_38 : decode cX6_mixNode 38 = .ok (.iload 4, 2) := by decide +kernel
theorem dX6_mixNode_40 : decode cX6_mixNode 40 = .ok (.bipush 9, 2) := by decide +kernel
theorem dX6_mixNode_42 : decode cX6_mixNode 42 = .ok (.if_icmp .ge 20, 3) := by decide +kernel
theorem dX6_mixNode_45 : decode cX6_mixNode 45 = .ok (.aload_n 0, 1) := by decide +kernel
theorem dX6_mixNode_46 : decode cX6_mixNode 46 = .ok (.aload_n 0, 1) := by decide +kernel
theorem dX6_mixNode_47 : decode cX6_mixNode 47 = .ok (.iload 4, 2) := by decide +kernel
theorem dX6_mixNode_49 : decode cX6_mixNode 49 = .ok (.invokevirtual 208, 3) := by decide +kernel
theorem dX6_mixNode_52 : decode cX6_mixNode 52 = .ok (.i2l, 1) := by decide +kernel
theorem dX6_mixNode_53 : decode cX6_mixNode 53 = .ok (.invokevirtual 241, 3) := by decide +kernel
theorem dX6_mixNode_56 : decode cX6_mixNode 56 = .ok (.iinc 4 1, 3) := by decide +kernel
theorem dX6_mixNode_59 : decode cX6_mixNode 59 = .ok (.goto (-21), 3) := by decide +kernel
theorem dX6_mixNode_62 : decode cX6_mixNode 62 = .ok (.iinc 3 1, 3) := by decide +kernel
theorem dX6_mixNode_65 : decode cX6_mixNode 65 = .ok (.goto (-43), 3) := by decide +kernel
theorem dX6_mixNode_68 : decode cX6_mixNode 68 = .ok (.aload_n 0, 1) := by decide +kernel
theorem dX6_mixNode_69 : decode cX6_mixNode 69 = .ok (.aload_n 0, 1) := by decide +kernel
theorem dX6_mixNode_70 : decode cX6_mixNode 70 = .ok (.iload_n 1, 1) := by decide +kernel
theorem dX6_mixNode_71 : decode cX6_mixNode 71 = .ok (.iload_n 2, 1) := by decide +kernel
theorem dX6_mixNode_72 : decode cX6_mixNode 72 = .ok (.iconst 0, 1) := by decide +kernel
theorem dX6_mixNode_73 : decode cX6_mixNode 73 = .ok (.invokevirtual 211, 3) := by decide +kernel
theorem dX6_mixNode_76 : decode cX6_mixNode 76 = .ok (.i2l, 1) := by decide +kernel
theorem dX6_mixNode_77 : decode cX6_mixNode 77 = .ok (.invokevirtual 241, 3) := by decide +kernel
theorem dX6_mixNode_80 : decode cX6_mixNode 80 = .ok (.aload_n 0, 1) := by decide +kernel
theorem dX6_mixNode_81 : decode cX6_mixNode 81 = .ok (.aload_n 0, 1) := by decide +kernel
theorem dX6_mixNode_82 : decode cX6_mixNode 82 = .ok (.iload_n 1, 1) := by decide +kernel
theorem dX6_mixNode_83 : decode cX6_mixNode 83 = .ok (.iload_n 2, 1) := by decide +kernel
theorem dX6_mixNode_84 : decode cX6_mixNode 84 = .ok (.iconst 1, 1) := by decide +kernel
theorem dX6_mixNode_85 : decode cX6_mixNode 85 = .ok (.invokevirtual 211, 3) := by decide +kernel
theorem dX6_mixNode_88 : decode cX6_mixNode 88 = .ok (.i2l, 1) := by decide +kernel
theorem dX6_mixNode_89 : decode cX6_mixNode 89 = .ok (.invokevirtual 241, 3) := by decide +kernel
theorem dX6_mixNode_92 : decode cX6_mixNode 92 = .ok (.return_, 1) := by decide +kernel
set_option maxRecDepth 20000 in
theorem ggX6_digest_X6_linkNow : GoodIn wsX6_digest wsX6_linkNow := goodIn_r _ [13, 14, 15, 16, 17, 18, 12, 19, 5, 20, 21, 22, 113, 114, 115, 116, 117, 118, 119, 120, 121, 122, 123, 124, 125, 126, 127, 128, 129, 130, 131, 132, 133, 134, 135, 136, 137, 138, 139, 140, 141, 142, 143, 144, 145, 146] (by decide +kernel) (by decide +kernel)
set_option maxRecDepth 20000 in
theorem gX6_digest_X6_linkNow : GoodIn wsX6_digest (wsV RX6 126 RX6 yX6_linkNow wsX6_linkNow) := goodIn_app (goodIn_of _ (by decide +kernel)) ggX6_digest_X6_linkNow
set_option maxRecDepth 20000 in
theorem ggX6_digest_X6_mix : GoodIn wsX6_digest wsX6_mix := goodIn_r _ [26, 27, 2, 113, 114, 115, 116, 117, 118, 119, 120, 121, 122, 123, 124, 125, 126, 127, 128, 129, 130, 131, 132, 133, 134, 135, 136, 137, 138, 139, 140, 141, 142, 143, 144, 145, 146] (by decide +kernel) (by decide +kernel)
set_option maxRecDepth 20000 in
theorem gX6_digest_X6_mix : GoodIn wsX6_digest (wsV RX6 241 RX6 yX6_mix wsX6_mix) := goodIn_app (goodIn_of _ (by decide +kernel)) ggX6_digest_X6_mix
set_option maxRecDepth 20000 in
theorem ggX6_digest_X6_mixNode : GoodIn wsX6_digest wsX6_mixNode := goodIn_r _ [31, 6, 32, 33, 34, 12, 35, 36, 37, 20, 21, 22, 38, 39, 40, 41, 42, 43, 44, 45, 46, 3, 15, 14, 47, 48, 49, 50, 51, 52, 53, 54, 23, 24, 25, 26, 27, 2, 55, 56, 57, 58, 59, 60, 61, 62, 63, 64, 65, 66, 67, 68, 69, 5, 4, 70, 71, 72, 73, 74, 75, 76, 77, 78, 79, 80, 81, 82, 83, 84, 85, 86, 87, 88, 89, 90, 91, 92, 93, 94, 95, 96, 97, 98, 113, 114, 115, 116, 117, 118, 119, 120, 121, 122, 123, 124, 125, 126, 127, 128, 129, 130, 131, 132, 133, 134, 135, 136, 137, 138, 139, 140, 141, 142, 143, 144, 145, 146] (by decide +kernel) (by decide +kernel)
set_option maxRecDepth 20000 in
theorem gX6_digest_X6_mixNode : GoodIn wsX6_digest (wsV RX6 247 RX6 yX6_mixNode wsX6_mixNode) := goodIn_app (goodIn_of _ (by decide +kernel)) ggX6_digest_X6_mixNode
set_option maxRecDepth 20000 in
theorem ggX6_digest_X6_howMany : GoodIn wsX6_digest wsX6_howMany := goodIn_r _ [102, 6, 3, 7, 91, 90, 103, 104, 105, 106, 107, 108, 109, 110, 111, 12, 112, 5, 113, 114, 115, 116, 117, 118, 119, 120, 121, 122, 123, 124, 125, 126, 127, 128, 129, 130, 131, 132, 133, 134, 135, 136, 137, 138, 139, 140, 141, 142, 143, 144, 145, 146] (by decide +kernel) (by decide +kernel)
set_option maxRecDepth 20000 in
theorem gX6_digest_X6_howMany : GoodIn wsX6_digest (wsV RX6 233 RX6 yX6_howMany wsX6_howMany) := goodIn_app (goodIn_of _ (by decide +kernel)) ggX6_digest_X6_howMany
theorem dX6_digest_0 : decode cX6_digest 0 = .ok (.aload_n 0, 1) := by decide +kernel
theorem dX6_digest_1 : decode cX6_digest 1 = .ok (.ldc2_w 245, 3) := by decide +kernel
theorem dX6_digest_4 : decode cX6_digest 4 = .ok (.putfield 238, 3) := by decide +kernel
theorem dX6_digest_7 : decode cX6_digest 7 = .ok (.iconst 0, 1) := by decide +kernel
theorem dX6_digest_8 : decode cX6_digest 8 = .ok (.istore_n 1, 1) := by decide +kernel
theorem dX6_digest_9 : decode cX6_digest 9 = .ok (.iload_n 1, 1) := by decide +kernel
theorem dX6_digest_10 : decode cX6_digest 10 = .ok (.aload_n 0, 1) := by decide +kernel
theorem dX6_digest_11 : decode cX6_digest 11 = .ok (.getfield 85, 3) := by decide +kernel
theorem dX6_digest_14 : decode cX6_digest 14 = .ok (.if_icmp .ge 61, 3) := by decide +kernel
theorem dX6_digest_17 : decode cX6_digest 17 = .ok (.iconst 0, 1) := by decide +kernel
theorem dX6_digest_18 : decode cX6_digest 18 = .ok (.istore_n 2, 1) := by decide +kernel
theorem dX6_digest_19 : decode cX6_digest 19 = .ok (.iload_n 2, 1) := by decide +kernel
theorem dX6_digest_20 : decode cX6_digest 20 = .ok (.iconst 3, 1) := by decide +kernel
theorem dX6_digest_21 : decode cX6_digest 21 = .ok (.if_icmp .ge 20, 3) := by decide +kernel
theorem dX6_digest_24 : decode cX6_digest 24 = .ok (.aload_n 0, 1) := by decide +kernel
theorem dX6_digest_25 : decode cX6_digest 25 = .ok (.aload_n 0, 1) := by decide +kernel
theorem dX6_digest_26 : decode cX6_digest 26 = .ok (.iload_n 1, 1) := by decide +kernel
theorem dX6_digest_27 : decode cX6_digest 27 = .ok (.iload_n 2, 1) := by decide +kernel
theorem dX6_digest_28 : decode cX6_digest 28 = .ok (.invokevirtual 126, 3) := by decide +kernel
theorem dX6_digest_31 : decode cX6_digest 31 = .ok (.i2l, 1) := by decide +kernel
theorem dX6_digest_32 : decode cX6_digest 32 = .ok (.invokevirtual 241, 3) := by decide +kernel
theorem dX6_digest_35 : decode cX6_digest 35 = .ok (.iinc 2 1, 3) := by decide +kernel
theorem dX6_digest_38 : decode cX6_digest 38 = .ok (.goto (-19), 3) := by decide +kernel
theorem dX6_digest_41 : decode cX6_digest 41 = .ok (.iconst 0, 1) := by decide +kernel
theorem dX6_digest_42 : decode cX6_digest 42 = .ok (.istore_n 2, 1) := by decide +kernel
theorem dX6_digest_43 : decode cX6_digest 43 = .ok (.iload_n 2, 1) := by decide +kernel
theorem dX6_digest_44 : decode cX6_digest 44 = .ok (.iconst 3, 1) := by decide +kernel
theorem dX6_digest_45 : decode cX6_digest 45 = .ok (.if_icmp .ge 24, 3) := by decide +kernel
theorem dX6_digest_48 : decode cX6_digest 48 = .ok (.aload_n 0, 1) := by decide +kernel
theorem dX6_digest_49 : decode cX6_digest 49 = .ok (.aload_n 0, 1) := by decide +kernel
theorem dX6_digest_50 : decode cX6_digest 50 = .ok (.getfield 38, 3) := by decide +kernel
theorem dX6_digest_53 : decode cX6_digest 53 = .ok (.bipush 20, 2) := by decide +kernel
theorem dX6_digest_55 : decode cX6_digest 55 = .ok (.iload_n 2, 1) := by decide +kernel
theorem dX6_digest_56 : decode cX6_digest 56 = .ok (.imul, 1) := by decide +kernel
theorem dX6_digest_57 : decode cX6_digest 57 = .ok (.iload_n 1, 1) := by decide +kernel
theorem dX6_digest_58 : decode cX6_digest 58 = .ok (.iadd, 1) := by decide +kernel
theorem dX6_digest_59 : decode cX6_digest 59 = .ok (.laload, 1) := by decide +kernel
theorem dX6_digest_60 : decode cX6_digest 60 = .ok (.invokevirtual 241, 3) := by decide +kernel
theorem dX6_digest_63 : decode cX6_digest 63 = .ok (.iinc 2 1, 3) := by decide +kernel
theorem dX6_digest_66 : decode cX6_digest 66 = .ok (.goto (-23), 3) := by decide +kernel
theorem dX6_digest_69 : decode cX6_digest 69 = .ok (.iinc 1 1, 3) := by decide +kernel
theorem dX6_digest_72 : decode cX6_digest 72 = .ok (.goto (-63), 3) := by decide +kernel
theorem dX6_digest_75 : decode cX6_digest 75 = .ok (.iconst 0, 1) := by decide +kernel
theorem dX6_digest_76 : decode cX6_digest 76 = .ok (.istore_n 1, 1) := by decide +kernel
theorem dX6_digest_77 : decode cX6_digest 77 = .ok (.iload_n 1, 1) := by decide +kernel
theorem dX6_digest_78 : decode cX6_digest 78 = .ok (.iconst 4, 1) := by decide +kernel
theorem dX6_digest_79 : decode cX6_digest 79 = .ok (.if_icmp .ge 55, 3) := by decide +kernel
theorem dX6_digest_82 : decode cX6_digest 82 = .ok (.aload_n 0, 1) := by decide +kernel
theorem dX6_digest_83 : decode cX6_digest 83 = .ok (.getfield 29, 3) := by decide +kernel
theorem dX6_digest_86 : decode cX6_digest 86 = .ok (.iload_n 1, 1) := by decide +kernel
theorem dX6_digest_87 : decode cX6_digest 87 = .ok (.iaload, 1) := by decide +kernel
theorem dX6_digest_88 : decode cX6_digest 88 = .ok (.ifCond .eq 40, 3) := by decide +kernel
theorem dX6_digest_91 : decode cX6_digest 91 = .ok (.aload_n 0, 1) := by decide +kernel
theorem dX6_digest_92 : decode cX6_digest 92 = .ok (.iload_n 1, 1) := by decide +kernel
theorem dX6_digest_93 : decode cX6_digest 93 = .ok (.i2l, 1) := by decide +kernel
theorem dX6_digest_94 : decode cX6_digest 94 = .ok (.invokevirtual 241, 3) := by decide +kernel
theorem dX6_digest_97 : decode cX6_digest 97 = .ok (.iconst 0, 1) := by decide +kernel
theorem dX6_digest_98 : decode cX6_digest 98 = .ok (.istore_n 2, 1) := by decide +kernel
theorem dX6_digest_99 : decode cX6_digest 99 = .ok (.iload_n 2, 1) := by decide +kernel
theorem dX6_digest_100 : decode cX6_digest 100 = .ok (.iconst 3, 1) := by decide +kernel
theorem dX6_digest_101 : decode cX6_digest 101 = .ok (.if_icmp .ge 27, 3) := by decide +kernel
theorem dX6_digest_104 : decode cX6_digest 104 = .ok (.aload_n 0, 1) := by decide +kernel
theorem dX6_digest_105 : decode cX6_digest 105 = .ok (.aload_n 0, 1) := by decide +kernel
theorem dX6_digest_106 : decode cX6_digest 106 = .ok (.getfield 38, 3) := by decide +kernel
theorem dX6_digest_109 : decode cX6_digest 109 = .ok (.bipush 20, 2) := by decide +kernel
theorem dX6_digest_111 : decode cX6_digest 111 = .ok (.iload_n 2, 1) := by decide +kernel
theorem dX6_digest_112 : decode cX6_digest 112 = .ok (.imul, 1) := by decide +kernel
theorem dX6_digest_113 : decode cX6_digest 113 = .ok (.bipush 16, 2) := by decide +kernel
theorem dX6_digest_115 : decode cX6_digest 115 = .ok (.iadd, 1) := by decide +kernel
theorem dX6_digest_116 : decode cX6_digest 116 = .ok (.iload_n 1, 1) := by decide +kernel
theorem dX6_digest_117 : decode cX6_digest 117 = .ok (.iadd, 1) := by decide +kernel
theorem dX6_digest_118 : decode cX6_digest 118 = .ok (.laload, 1) := by decide +kernel
theorem dX6_digest_119 : decode cX6_digest 119 = .ok (.invokevirtual 241, 3) := by decide +kernel
theorem dX6_digest_122 : decode cX6_digest 122 = .ok (.iinc 2 1, 3) := by decide +kernel
theorem dX6_digest_125 : decode cX6_digest 125 = .ok (.goto (-26), 3) := by decide +kernel
theorem dX6_digest_128 : decode cX6_digest 128 = .ok (.iinc 1 1, 3) := by decide +kernel
theorem dX6_digest_131 : decode cX6_digest 131 = .ok (.goto (-54), 3) := by decide +kernel
theorem dX6_digest_134 : decode cX6_digest 134 = .ok (.iconst 0, 1) := by decide +kernel
theorem dX6_digest_135 : decode cX6_digest 135 = .ok (.istore_n 1, 1) := by decide +kernel
theorem dX6_digest_136 : decode cX6_digest 136 = .ok (.iload_n 1, 1) := by decide +kernel
theorem dX6_digest_137 : decode cX6_digest 137 = .ok (.aload_n 0, 1) := by decide +kernel
theorem dX6_digest_138 : decode cX6_digest 138 = .ok (.getfield 82, 3) := by decide +kernel
theorem dX6_digest_141 : decode cX6_digest 141 = .ok (.if_icmp .ge 14, 3) := by decide +kernel
theorem dX6_digest_144 : decode cX6_digest 144 = .ok (.aload_n 0, 1) := by decide +kernel
theorem dX6_digest_145 : decode cX6_digest 145 = .ok (.iload_n 1, 1) := by decide +kernel
theorem dX6_digest_146 : decode cX6_digest 146 = .ok (.invokevirtual 247, 3) := by decide +kernel
theorem dX6_digest_149 : decode cX6_digest 149 = .ok (.iinc 1 1, 3) := by decide +kernel
theorem dX6_digest_152 : decode cX6_digest 152 = .ok (.goto (-16), 3) := by decide +kernel
theorem dX6_digest_155 : decode cX6_digest 155 = .ok (.iconst 0, 1) := by decide +kernel
theorem dX6_digest_156 : decode cX6_digest 156 = .ok (.istore_n 1, 1) := by decide +kernel
theorem dX6_digest_157 : decode cX6_digest 157 = .ok (.iload_n 1, 1) := by decide +kernel
theorem dX6_digest_158 : decode cX6_digest 158 = .ok (.aload_n 0, 1) := by decide +kernel
theorem dX6_digest_159 : decode cX6_digest 159 = .ok (.getfield 52, 3) := by decide +kernel
theorem dX6_digest_162 : decode cX6_digest 162 = .ok (.if_icmp .ge 20, 3) := by decide +kernel
theorem dX6_digest_165 : decode cX6_digest 165 = .ok (.aload_n 0, 1) := by decide +kernel
theorem dX6_digest_166 : decode cX6_digest 166 = .ok (.aload_n 0, 1) := by decide +kernel
theorem dX6_digest_167 : decode cX6_digest 167 = .ok (.getfield 7, 3) := by decide +kernel
theorem dX6_digest_170 : decode cX6_digest 170 = .ok (.iload_n 1, 1) := by decide +kernel
theorem dX6_digest_171 : decode cX6_digest 171 = .ok (.iaload, 1) := by decide +kernel
theorem dX6_digest_172 : decode cX6_digest 172 = .ok (.i2l, 1) := by decide +kernel
theorem dX6_digest_173 : decode cX6_digest 173 = .ok (.invokevirtual 241, 3) := by decide +kernel
theorem dX6_digest_176 : decode cX6_digest 176 = .ok (.iinc 1 1, 3) := by decide +kernel
theorem dX6_digest_179 : decode cX6_digest 179 = .ok (.goto (-22), 3) := by decide +kernel
theorem dX6_digest_182 : decode cX6_digest 182 = .ok (.iconst 0, 1) := by decide +kernel
theorem dX6_digest_183 : decode cX6_digest 183 = .ok (.istore_n 1, 1) := by decide +kernel
theorem dX6_digest_184 : decode cX6_digest 184 = .ok (.iload_n 1, 1) := by decide +kernel
theorem dX6_digest_185 : decode cX6_digest 185 = .ok (.bipush 12, 2) := by decide +kernel
theorem dX6_digest_187 : decode cX6_digest 187 = .ok (.if_icmp .ge 19, 3) := by decide +kernel
theorem dX6_digest_190 : decode cX6_digest 190 = .ok (.aload_n 0, 1) := by decide +kernel
theorem dX6_digest_191 : decode cX6_digest 191 = .ok (.aload_n 0, 1) := by decide +kernel
theorem dX6_digest_192 : decode cX6_digest 192 = .ok (.iload_n 1, 1) := by decide +kernel
theorem dX6_digest_193 : decode cX6_digest 193 = .ok (.invokevirtual 233, 3) := by decide +kernel
theorem dX6_digest_196 : decode cX6_digest 196 = .ok (.i2l, 1) := by decide +kernel
theorem dX6_digest_197 : decode cX6_digest 197 = .ok (.invokevirtual 241, 3) := by decide +kernel
theorem dX6_digest_200 : decode cX6_digest 200 = .ok (.iinc 1 1, 3) := by decide +kernel
theorem dX6_digest_203 : decode cX6_digest 203 = .ok (.goto (-19), 3) := by decide +kernel
theorem dX6_digest_206 : decode cX6_digest 206 = .ok (.aload_n 0, 1) := by decide +kernel
theorem dX6_digest_207 : decode cX6_digest 207 = .ok (.getfield 238, 3) := by decide +kernel
theorem dX6_digest_210 : decode cX6_digest 210 = .ok (.lreturn, 1) := by decide +kernel
theorem dJ6_bitCount_0f7a4_0 : decode cJ6_bitCount_0f7a4 0 = .ok (.iload_n 0, 1) := by decide +kernel
theorem dJ6_bitCount_0f7a4_1 : decode cJ6_bitCount_0f7a4 1 = .ok (.iload_n 0, 1) := by decide +kernel
theorem dJ6_bitCount_0f7a4_2 : decode cJ6_bitCount_0f7a4 2 = .ok (.iconst 1, 1) := by decide +kernel
theorem dJ6_bitCount_0f7a4_3 : decode cJ6_bitCount_0f7a4 3 = .ok (.iushr, 1) := by decide +kernel
theorem dJ6_bitCount_0f7a4_4 : decode cJ6_bitCount_0f7a4 4 = .ok (.ldc_w 265, 3) := by decide +kernel
theorem dJ6_bitCount_0f7a4_7 : decode cJ6_bitCount_0f7a4 7 = .ok (.iand, 1) := by decide +kernel
theorem dJ6_bitCount_0f7a4_8 : decode cJ6_bitCount_0f7a4 8 = .ok (.isub, 1) := by decide +kernel
theorem dJ6_bitCount_0f7a4_9 : decode cJ6_bitCount_0f7a4 9 = .ok (.istore_n 0, 1) := by decide +kernel
theorem dJ6_bitCount_0f7a4_10 : decode cJ6_bitCount_0f7a4 10 = .ok (.iload_n 0, 1) := by decide +kernel
theorem dJ6_bitCount_0f7a4_11 : decode cJ6_bitCount_0f7a4 11 = .ok (.ldc_w 266, 3) := by decide +kernel
theorem dJ6_bitCount_0f7a4_14 : decode cJ6_bitCount_0f7a4 14 = .ok (.iand, 1) := by decide +kernel
theorem dJ6_bitCount_0f7a4_15 : decode cJ6_bitCount_0f7a4 15 = .ok (.iload_n 0, 1) := by decide +kernel
theorem dJ6_bitCount_0f7a4_16 : decode cJ6_bitCount_0f7a4 16 = .ok (.iconst 2, 1) := by decide +kernel
theorem dJ6_bitCount_0f7a4_17 : decode cJ6_bitCount_0f7a4 17 = .ok (.iushr, 1) := by decide +kernel
theorem dJ6_bitCount_0f7a4_18 : decode cJ6_bitCount_0f7a4 18 = .ok (.ldc_w 266, 3) := by decide +kernel
theorem dJ6_bitCount_0f7a4_21 : decode cJ6_bitCount_0f7a4 21 = .ok (.iand, 1) := by decide +kernel
theorem dJ6_bitCount_0f7a4_22 : decode cJ6_bitCount_0f7a4 22 = .ok (.iadd, 1) := by decide +kernel
theorem dJ6_bitCount_0f7a4_23 : decode cJ6_bitCount_0f7a4 23 = .ok (.istore_n 0, 1) := by decide +kernel
theorem dJ6_bitCount_0f7a4_24 : decode cJ6_bitCount_0f7a4 24 = .ok (.iload_n 0, 1) := by decide +kernel
theorem dJ6_bitCount_0f7a4_25 : decode cJ6_bitCount_0f7a4 25 = .ok (.iload_n 0, 1) := by decide +kernel
theorem dJ6_bitCount_0f7a4_26 : decode cJ6_bitCount_0f7a4 26 = .ok (.iconst 4, 1) := by decide +kernel
theorem dJ6_bitCount_0f7a4_27 : decode cJ6_bitCount_0f7a4 27 = .ok (.iushr, 1) := by decide +kernel
theorem dJ6_bitCount_0f7a4_28 : decode cJ6_bitCount_0f7a4 28 = .ok (.iadd, 1) := by decide +kernel
theorem dJ6_bitCount_0f7a4_29 : decode cJ6_bitCount_0f7a4 29 = .ok (.ldc_w 267, 3) := by decide +kernel
theorem dJ6_bitCount_0f7a4_32 : decode cJ6_bitCount_0f7a4 32 = .ok (.iand, 1) := by decide +kernel
theorem dJ6_bitCount_0f7a4_33 : decode cJ6_bitCount_0f7a4 33 = .ok (.istore_n 0, 1) := by decide +kernel
theorem dJ6_bitCount_0f7a4_34 : decode cJ6_bitCount_0f7a4 34 = .ok (.iload_n 0, 1) := by decide +kernel
theorem dJ6_bitCount_0f7a4_35 : decode cJ6_bitCount_0f7a4 35 = .ok (.iload_n 0, 1) := by decide +kernel
theorem dJ6_bitCount_0f7a4_36 : decode cJ6_bitCount_0f7a4 36 = .ok (.bipush 8, 2) := by decide +kernel
theorem dJ6_bitCount_0f7a4_38 : decode cJ6_bitCount_0f7a4 38 = .ok (.iushr, 1) := by decide +kernel
theorem dJ6_bitCount_0f7a4_39 : decode cJ6_bitCount_0f7a4 39 = .ok (.iadd, 1) := by decide +kernel
theorem dJ6_bitCount_0f7a4_40 : decode cJ6_bitCount_0f7a4 40 = .ok (.istore_n 0, 1) := by decide +kernel
theorem dJ6_bitCount_0f7a4_41 : decode cJ6_bitCount_0f7a4 41 = .ok (.iload_n 0, 1) := by decide +kernel
theorem dJ6_bitCount_0f7a4_42 : decode cJ6_bitCount_0f7a4 42 = .ok (.iload_n 0, 1) := by decide +kernel
theorem dJ6_bitCount_0f7a4_43 : decode cJ6_bitCount_0f7a4 43 = .ok (.bipush 16, 2) := by decide +kernel
theorem dJ6_bitCount_0f7a4_45 : decode cJ6_bitCount_0f7a4 45 = .ok (.iushr, 1) := by decide +kernel
theorem dJ6_bitCount_0f7a4_46 : decode cJ6_bitCount_0f7a4 46 = .ok (.iadd, 1) := by decide +kernel
theorem dJ6_bitCount_0f7a4_47 : decode cJ6_bitCount_0f7a4 47 = .ok (.istore_n 0, 1) := by decide +kernel
theorem dJ6_bitCount_0f7a4_48 : decode cJ6_bitCount_0f7a4 48 = .ok (.iload_n 0, 1) := by decide +kernel
theorem dJ6_bitCount_0f7a4_49 : decode cJ6_bitCount_0f7a4 49 = .ok (.bipush 63, 2) := by decide +kernel
theorem dJ6_bitCount_0f7a4_51 : decode cJ6_bitCount_0f7a4 51 = .ok (.iand, 1) := by decide +kernel
theorem dJ6_bitCount_0f7a4_52 : decode cJ6_bitCount_0f7a4 52 = .ok (.ireturn, 1) := by decide +kernel
theorem dJ13_bitCount_95d88_0 : decode cJ13_bitCount_95d88 0 = .ok (.lload_n 0, 1) := by decide +kernel
theorem dJ13_bitCount_95d88_1 : decode cJ13_bitCount_95d88 1 = .ok (.lload_n 0, 1) := by decide +kernel
theorem dJ13_bitCount_95d88_2 : decode cJ13_bitCount_95d88 2 = .ok (.iconst 1, 1) := by decide +kernel
theorem dJ13_bitCount_95d88_3 : decode cJ13_bitCount_95d88 3 = .ok (.lushr, 1) := by decide +kernel
theorem dJ13_bitCount_95d88_4 : decode cJ13_bitCount_95d88 4 = .ok (.ldc2_w 314, 3) := by decide +kernel
theorem dJ13_bitCount_95d88_7 : decode cJ13_bitCount_95d88 7 = .ok (.land, 1) := by decide +kernel
theorem dJ13_bitCount_95d88_8 : decode cJ13_bitCount_95d88 8 = .ok (.lsub, 1) := by decide +kernel
theorem dJ13_bitCount_95d88_9 : decode cJ13_bitCount_95d88 9 = .ok (.lstore_n 0, 1) := by decide +kernel
theorem dJ13_bitCount_95d88_10 : decode cJ13_bitCount_95d88 10 = .ok (.lload_n 0, 1) := by decide +kernel
theorem dJ13_bitCount_95d88_11 : decode cJ13_bitCount_95d88 11 = .ok (.ldc2_w 316, 3) := by decide +kernel
theorem dJ13_bitCount_95d88_14 : decode cJ13_bitCount_95d88 14 = .ok (.land, 1) := by decide +kernel
theorem dJ13_bitCount_95d88_15 : decode cJ13_bitCount_95d88 15 = .ok (.lload_n 0, 1) := by decide +kernel
theorem dJ13_bitCount_95d88_16 : decode cJ13_bitCount_95d88 16 = .ok (.iconst 2, 1) := by decide +kernel
theorem dJ13_bitCount_95d88_17 : decode cJ13_bitCount_95d88 17 = .ok (.lushr, 1) := by decide +kernel
theorem dJ13_bitCount_95d88_18 : decode cJ13_bitCount_95d88 18 = .ok (.ldc2_w 316, 3) := by decide +kernel
theorem dJ13_bitCount_95d88_21 : decode cJ13_bitCount_95d88 21 = .ok (.land, 1) := by decide +kernel
theorem dJ13_bitCount_95d88_22 : decode cJ13_bitCount_95d88 22 = .ok (.ladd, 1) := by decide +kernel
theorem dJ13_bitCount_95d88_23 : decode cJ13_bitCount_95d88 23 = .ok (.lstore_n 0, 1) := by decide +kernel
theorem dJ13_bitCount_95d88_24 : decode cJ13_bitCount_95d88 24 = .ok (.lload_n 0, 1) := by decide +kernel
theorem dJ13_bitCount_95d88_25 : decode cJ13_bitCount_95d88 25 = .ok (.lload_n 0, 1) := by decide +kernel
theorem dJ13_bitCount_95d88_26 : decode cJ13_bitCount_95d88 26 = .ok (.iconst 4, 1) := by decide +kernel
theorem dJ13_bitCount_95d88_27 : decode cJ13_bitCount_95d88 27 = .ok (.lushr, 1) := by decide +kernel
theorem dJ13_bitCount_95d88_28 : decode cJ13_bitCount_95d88 28 = .ok (.ladd, 1) := by decide +kernel
theorem dJ13_bitCount_95d88_29 : decode cJ13_bitCount_95d88 29 = .ok (.ldc2_w 318, 3) := by decide +kernel
theorem dJ13_bitCount_95d88_32 : decode cJ13_bitCount_95d88 32 = .ok (.land, 1) := by decide +kernel
theorem dJ13_bitCount_95d88_33 : decode cJ13_bitCount_95d88 33 = .ok (.lstore_n 0, 1) := by decide +kernel
theorem dJ13_bitCount_95d88_34 : decode cJ13_bitCount_95d88 34 = .ok (.lload_n 0, 1) := by decide +kernel
theorem dJ13_bitCount_95d88_35 : decode cJ13_bitCount_95d88 35 = .ok (.lload_n 0, 1) := by decide +kernel
theorem dJ13_bitCount_95d88_36 : decode cJ13_bitCount_95d88 36 = .ok (.bipush 8, 2) := by decide +kernel
theorem dJ13_bitCount_95d88_38 : decode cJ13_bitCount_95d88 38 = .ok (.lushr, 1) := by decide +kernel
theorem dJ13_bitCount_95d88_39 : decode cJ13_bitCount_95d88 39 = .ok (.ladd, 1) := by decide +kernel
theorem dJ13_bitCount_95d88_40 : decode cJ13_bitCount_95d88 40 = .ok (.lstore_n 0, 1) := by decide +kernel
theorem dJ13_bitCount_95d88_41 : decode cJ13_bitCount_95d88 41 = .ok (.lload_n 0, 1) := by decide +kernel
theorem dJ13_bitCount_95d88_42 : decode cJ13_bitCount_95d88 42 = .ok (.lload_n 0, 1) := by decide +kernel
theorem dJ13_bitCount_95d88_43 : decode cJ13_bitCount_95d88 43 = .ok (.bipush 16, 2) := by decide +kernel
theorem dJ13_bitCount_95d88_45 : decode cJ13_bitCount_95d88 45 = .ok (.lushr, 1) := by decide +kernel
theorem dJ13_bitCount_95d88_46 : decode cJ13_bitCount_95d88 46 = .ok (.ladd, 1) := by decide +kernel
theorem dJ13_bitCount_95d88_47 : decode cJ13_bitCount_95d88 47 = .ok (.lstore_n 0, 1) := by decide +kernel
theorem dJ13_bitCount_95d88_48 : decode cJ13_bitCount_95d88 48 = .ok (.lload_n 0, 1) := by decide +kernel
theorem dJ13_bitCount_95d88_49 : decode cJ13_bitCount_95d88 49 = .ok (.lload_n 0, 1) := by decide +kernel
theorem dJ13_bitCount_95d88_50 : decode cJ13_bitCount_95d88 50 = .ok (.bipush 32, 2) := by decide +kernel
theorem dJ13_bitCount_95d88_52 : decode cJ13_bitCount_95d88 52 = .ok (.lushr, 1) := by decide +kernel
theorem dJ13_bitCount_95d88_53 : decode cJ13_bitCount_95d88 53 = .ok (.ladd, 1) := by decide +kernel
theorem dJ13_bitCount_95d88_54 : decode cJ13_bitCount_95d88 54 = .ok (.lstore_n 0, 1) := by decide +kernel
theorem dJ13_bitCount_95d88_55 : decode cJ13_bitCount_95d88 55 = .ok (.lload_n 0, 1) := by decide +kernel
theorem dJ13_bitCount_95d88_56 : decode cJ13_bitCount_95d88 56 = .ok (.l2i, 1) := by decide +kernel
theorem dJ13_bitCount_95d88_57 : decode cJ13_bitCount_95d88 57 = .ok (.bipush 127, 2) := by decide +kernel
theorem dJ13_bitCount_95d88_59 : decode cJ13_bitCount_95d88 59 = .ok (.iand, 1) := by decide +kernel
theorem dJ13_bitCount_95d88_60 : decode cJ13_bitCount_95d88 60 = .ok (.ireturn, 1) := by decide +kernel
theorem dJ9_min_7cf53_0 : decode cJ9_min_7cf53 0 = .ok (.iload_n 0, 1) := by decide +kernel
theorem dJ9_min_7cf53_1 : decode cJ9_min_7cf53 1 = .ok (.iload_n 1, 1) := by decide +kernel
theorem dJ9_min_7cf53_2 : decode cJ9_min_7cf53 2 = .ok (.if_icmp .gt 7, 3) := by decide +kernel
theorem dJ9_min_7cf53_5 : decode cJ9_min_7cf53 5 = .ok (.iload_n 0, 1) := by decide +kernel
theorem dJ9_min_7cf53_6 : decode cJ9_min_7cf53 6 = .ok (.goto 4, 3) := by decide +kernel
theorem dJ9_min_7cf53_9 : decode cJ9_min_7cf53 9 = .ok (.iload_n 1, 1) := by decide +kernel
theorem dJ9_min_7cf53_10 : decode cJ9_min_7cf53 10 = .ok (.ireturn, 1) := by decide +kernel
set_option maxRecDepth 20000 in
theorem ggL_law_X5_init : GoodIn wsL_law wsX5_init := goodIn_r _ [8, 9, 10, 11, 12, 13, 14, 15, 16, 17, 18, 19, 20, 21, 22, 23, 24, 25, 26, 27, 28, 29, 30, 31, 32, 33, 34, 35, 36, 37, 38, 39, 40, 41, 42, 43, 44, 45, 46, 47, 48, 49, 50, 51, 52, 53, 54, 55, 56, 57, 58, 59, 60, 61, 62, 63, 64, 741, 742, 697, 698, 699, 700, 701, 702, 703, 704, 705, 706, 743, 744, 745, 746, 747, 748, 749, 750, 751, 752, 753, 754, 755, 756, 757, 758, 759, 760, 761, 762, 763] (by decide +kernel) (by decide +kernel)
set_option maxRecDepth 20000 in
theorem gL_law_X5_init : GoodIn wsL_law (wsX5_init) := ggL_law_X5_init
set_option maxRecDepth 20000 in
theorem ggL_law_X6_init : GoodIn wsL_law wsX6_init := goodIn_r _ [67, 68, 10, 11, 36, 69, 70, 71, 72, 73, 74, 75, 76, 77, 55, 78, 79, 80, 707, 708, 709, 710, 711, 712, 713, 714, 715, 716, 717, 718, 719, 720, 721, 722, 723, 724, 725, 726, 727, 728, 729, 730, 731, 732, 733, 734, 735, 736, 737, 738, 739, 740] (by decide +kernel) (by decide +kernel)
set_option maxRecDepth 20000 in
theorem gL_law_X6_init : GoodIn wsL_law (wsX6_init) := ggL_law_X6_init
set_option maxRecDepth 20000 in
theorem ggL_law_X5_letter : GoodIn wsL_law wsX5_letter := goodIn_r _ [84, 15, 85, 86, 87, 14, 88, 89, 90, 91, 92, 93, 37, 94, 95, 96, 97, 697, 698, 699, 700, 701, 702, 703, 704, 705, 706, 741, 742] (by decide +kernel) (by decide +kernel)
set_option maxRecDepth 20000 in
theorem gL_law_X5_letter : GoodIn wsL_law (wsV RL 13 RX5 yX5_letter wsX5_letter) := goodIn_app (goodIn_of _ (by decide +kernel)) ggL_law_X5_letter
set_option maxRecDepth 20000 in
theorem ggL_law_X6_letter : GoodIn wsL_law wsX6_letter := goodIn_r _ [101, 102, 69, 103, 104, 5, 105, 707, 708, 709, 710, 711, 712, 713, 714, 715, 716, 717, 718, 719, 720, 721, 722, 723, 724, 725, 726, 727, 728, 729, 730, 731, 732, 733, 734, 735, 736, 737, 738, 739, 740] (by decide +kernel) (by decide +kernel)
set_option maxRecDepth 20000 in
theorem gL_law_X6_letter : GoodIn wsL_law (wsV RL 17 RX6 yX6_letter wsX6_letter) := goodIn_app (goodIn_of _ (by decide +kernel)) ggL_law_X6_letter
set_option maxRecDepth 20000 in
theorem ggL_law_X5_blank : GoodIn wsL_law wsX5_blank := goodIn_r _ [109, 15, 94, 95, 96, 14, 97, 89, 110, 111, 112, 113, 697, 698, 699, 700, 701, 702, 703, 704, 705, 706, 741, 742] (by decide +kernel) (by decide +kernel)
set_option maxRecDepth 20000 in
theorem gL_law_X5_blank : GoodIn wsL_law (wsV RL 18 RX5 yX5_blank wsX5_blank) := goodIn_app (goodIn_of _ (by decide +kernel)) ggL_law_X5_blank
set_option maxRecDepth 20000 in
theorem ggL_law_X6_blank : GoodIn wsL_law wsX6_blank := goodIn_r _ [117, 102, 707, 708, 709, 710, 711, 712, 713, 714, 715, 716, 717, 718, 719, 720, 721, 722, 723, 724, 725, 726, 727, 728, 729, 730, 731, 732, 733, 734, 735, 736, 737, 738, 739, 740] (by decide +kernel) (by decide +kernel)
set_option maxRecDepth 20000 in
theorem gL_law_X6_blank : GoodIn wsL_law (wsV RL 22 RX6 yX6_blank wsX6_blank) := goodIn_app (goodIn_of _ (by decide +kernel)) ggL_law_X6_blank
set_option maxRecDepth 20000 in
theorem ggL_law_X5_fault : GoodIn wsL_law wsX5_fault := goodIn_r _ [121, 15, 122, 123, 124, 14, 125, 89, 126, 127, 128, 129, 130, 131, 132, 133, 134, 135, 136, 137, 37, 138, 139, 140, 141, 142, 143, 144, 145, 146, 147, 148, 149, 150, 151, 152, 153, 697, 698, 699, 700, 701, 702, 703, 704, 705, 706, 741, 742] (by decide +kernel) (by decide +kernel)
set_option maxRecDepth 20000 in
theorem gL_law_X5_fault : GoodIn wsL_law (wsV RL 23 RX5 yX5_fault wsX5_fault) := goodIn_app (goodIn_of _ (by decide +kernel)) ggL_law_X5_fault
set_option maxRecDepth 20000 in
theorem ggL_law_X6_fault : GoodIn wsL_law wsX6_fault := goodIn_r _ [157, 158, 159, 160, 5, 161, 162, 163, 164, 102, 69, 165, 166, 167, 168, 103, 104, 105, 169, 170, 171, 172, 173, 76, 77, 174, 175, 176, 177, 707, 708, 709, 710, 711, 712, 713, 714, 715, 716, 717, 718, 719, 720, 721, 722, 723, 724, 725, 726, 727, 728, 729, 730, 731, 732, 733, 734, 735, 736, 737, 738, 739, 740] (by decide +kernel) (by decide +kernel)
set_option maxRecDepth 20000 in
theorem gL_law_X6_fault : GoodIn wsL_law (wsV RL 26 RX6 yX6_fault wsX6_fault) := goodIn_app (goodIn_of _ (by decide +kernel)) ggL_law_X6_fault
set_option maxRecDepth 20000 in
theorem ggL_law_X5_net : GoodIn wsL_law wsX5_net := goodIn_r _ [181, 15, 19, 27, 23, 182, 183, 184, 185, 14, 186, 89, 187, 123, 124, 125, 126, 127, 128, 129, 130, 131, 132, 133, 134, 135, 136, 137, 37, 138, 139, 140, 141, 142, 143, 144, 145, 146, 147, 148, 149, 150, 151, 152, 153, 188, 189, 190, 18, 191, 192, 193, 194, 195, 196, 197, 198, 199, 200, 201, 44, 45, 46, 47, 202, 203, 204, 205, 206, 207, 208, 209, 210, 211, 212, 213, 214, 215, 42, 43, 216, 217, 218, 219, 220, 221, 222, 223, 224, 225, 226, 227, 110, 111, 112, 113, 228, 229, 230, 26, 231, 61, 232, 233, 234, 235, 236, 237, 238, 22, 239, 54, 240, 56, 241, 242, 243, 244, 53, 245, 246, 247, 248, 249, 250, 251, 52, 252, 697, 698, 699, 700, 701, 702, 703, 704, 705, 706, 741, 742, 743, 744, 745, 746, 747, 748, 749, 750, 756, 751, 752, 753, 754, 755] (by decide +kernel) (by decide +kernel)
set_option maxRecDepth 20000 in
theorem gL_law_X5_net : GoodIn wsL_law (wsV RL 27 RX5 yX5_net wsX5_net) := goodIn_app (goodIn_of _ (by decide +kernel)) ggL_law_X5_net
set_option maxRecDepth 20000 in
theorem ggL_law_X6_net : GoodIn wsL_law wsX6_net := goodIn_r _ [256, 102, 163, 164, 162, 257, 258, 70, 76, 71, 77, 75, 259, 158, 159, 160, 5, 161, 69, 165, 166, 167, 168, 103, 104, 105, 169, 170, 171, 172, 173, 174, 175, 176, 177, 260, 261, 262, 263, 74, 264, 73, 72, 78, 265, 266, 267, 268, 269, 270, 271, 272, 707, 708, 709, 710, 711, 712, 713, 714, 715, 716, 717, 718, 719, 720, 721, 722, 723, 724, 725, 726, 727, 728, 729, 730, 731, 732, 733, 734, 735, 736, 737, 738, 739, 740] (by decide +kernel) (by decide +kernel)
set_option maxRecDepth 20000 in
theorem gL_law_X6_net : GoodIn wsL_law (wsV RL 30 RX6 yX6_net wsX6_net) := goodIn_app (goodIn_of _ (by decide +kernel)) ggL_law_X6_net
set_option maxRecDepth 20000 in
theorem ggL_law_X5_set : GoodIn wsL_law wsX5_set := goodIn_r _ [276, 23, 19, 277, 278, 279, 22, 280, 281, 282, 283, 284, 52, 53, 54, 285, 286, 287, 288, 232, 233, 234, 18, 235, 201, 236, 237, 238, 239, 240, 56, 241, 242, 243, 244, 245, 246, 247, 248, 249, 250, 251, 252, 697, 698, 699, 700, 701, 702, 703, 704, 705, 706, 751, 752, 753, 754, 755, 743, 744, 745, 746, 747, 748, 749, 750] (by decide +kernel) (by decide +kernel)
set_option maxRecDepth 20000 in
theorem gL_law_X5_set : GoodIn wsL_law (wsV RL 31 RX5 yX5_set wsX5_set) := goodIn_app (goodIn_of _ (by decide +kernel)) ggL_law_X5_set
set_option maxRecDepth 20000 in
theorem ggL_law_X6_set : GoodIn wsL_law wsX6_set := goodIn_r _ [292, 72, 73, 74, 103, 104, 5, 105, 260, 261, 262, 263, 264, 258, 78, 265, 266, 267, 268, 269, 270, 271, 272, 707, 708, 709, 710, 711, 712, 713, 714, 715, 716, 717, 718, 719, 720, 721, 722, 723, 724, 725, 726, 727, 728, 729, 730, 731, 732, 733, 734, 735, 736, 737, 738, 739, 740] (by decide +kernel) (by decide +kernel)
set_option maxRecDepth 20000 in
theorem gL_law_X6_set : GoodIn wsL_law (wsV RL 35 RX6 yX6_set wsX6_set) := goodIn_app (goodIn_of _ (by decide +kernel)) ggL_law_X6_set
set_option maxRecDepth 20000 in
theorem ggL_law_X5_mark : GoodIn wsL_law wsX5_mark := goodIn_r _ [296, 19, 297, 298, 23, 299, 300, 301, 18, 302, 201, 303, 304, 2, 305, 306, 307, 308, 22, 309, 56, 697, 698, 699, 700, 701, 702, 703, 704, 705, 706, 743, 744, 745, 746, 747, 748, 749, 750, 751, 752, 753, 754, 755] (by decide +kernel) (by decide +kernel)
set_option maxRecDepth 20000 in
theorem gL_law_X5_mark : GoodIn wsL_law (wsV RL 36 RX5 yX5_mark wsX5_mark) := goodIn_app (goodIn_of _ (by decide +kernel)) ggL_law_X5_mark
set_option maxRecDepth 20000 in
theorem ggL_law_X6_mark : GoodIn wsL_law wsX6_mark := goodIn_r _ [313, 314, 78, 315, 316, 317, 318, 5, 319, 258, 103, 104, 105, 320, 321, 322, 707, 708, 709, 710, 711, 712, 713, 714, 715, 716, 717, 718, 719, 720, 721, 722, 723, 724, 725, 726, 727, 728, 729, 730, 731, 732, 733, 734, 735, 736, 737, 738, 739, 740] (by decide +kernel) (by decide +kernel)
set_option maxRecDepth 20000 in
theorem gL_law_X6_mark : GoodIn wsL_law (wsV RL 40 RX6 yX6_mark wsX6_mark) := goodIn_app (goodIn_of _ (by decide +kernel)) ggL_law_X6_mark
set_option maxRecDepth 20000 in
theorem ggL_law_X5_link : GoodIn wsL_law wsX5_link := goodIn_r _ [326, 19, 27, 299, 300, 301, 18, 302, 201, 327, 328, 329, 330, 42, 331, 332, 333, 334, 43, 335, 336, 337, 26, 338, 61, 697, 698, 699, 700, 701, 702, 703, 704, 705, 706, 743, 744, 745, 746, 747, 748, 749, 750, 756] (by decide +kernel) (by decide +kernel)
set_option maxRecDepth 20000 in
theorem gL_law_X5_link : GoodIn wsL_law (wsV RL 41 RX5 yX5_link wsX5_link) := goodIn_app (goodIn_of _ (by decide +kernel)) ggL_law_X5_link
set_option maxRecDepth 20000 in
theorem ggL_law_X6_link : GoodIn wsL_law wsX6_link := goodIn_r _ [342, 316, 317, 318, 5, 319, 258, 103, 104, 105, 343, 344, 345, 346, 70, 71, 347, 348, 349, 350, 75, 351, 352, 353, 707, 708, 709, 710, 711, 712, 713, 714, 715, 716, 717, 718, 719, 720, 721, 722, 723, 724, 725, 726, 727, 728, 729, 730, 731, 732, 733, 734, 735, 736, 737, 738, 739, 740] (by decide +kernel) (by decide +kernel)
set_option maxRecDepth 20000 in
theorem gL_law_X6_link : GoodIn wsL_law (wsV RL 44 RX6 yX6_link wsX6_link) := goodIn_app (goodIn_of _ (by decide +kernel)) ggL_law_X6_link
set_option maxRecDepth 20000 in
theorem ggL_law_X5_way : GoodIn wsL_law wsX5_way := goodIn_r _ [357, 19, 358, 217, 218, 18, 219, 196, 359, 360, 361, 362, 45, 46, 216, 202, 203, 204, 697, 698, 699, 700, 701, 702, 703, 704, 705, 706, 743, 744, 745, 746, 747, 748, 749, 750] (by decide +kernel) (by decide +kernel)
set_option maxRecDepth 20000 in
theorem gL_law_X5_way : GoodIn wsL_law (wsV RL 45 RX5 yX5_way wsX5_way) := goodIn_app (goodIn_of _ (by decide +kernel)) ggL_law_X5_way
set_option maxRecDepth 20000 in
theorem ggL_law_X6_way : GoodIn wsL_law wsX6_way := goodIn_r _ [366, 367, 80, 368, 369, 370, 5, 371, 257, 103, 104, 105, 372, 373, 374, 375, 79, 376, 377, 378, 379, 258, 71, 70, 380, 381, 382, 383, 707, 708, 709, 710, 711, 712, 713, 714, 715, 716, 717, 718, 719, 720, 721, 722, 723, 724, 725, 726, 727, 728, 729, 730, 731, 732, 733, 734, 735, 736, 737, 738, 739, 740] (by decide +kernel) (by decide +kernel)
set_option maxRecDepth 20000 in
theorem gL_law_X6_way : GoodIn wsL_law (wsV RL 49 RX6 yX6_way wsX6_way) := goodIn_app (goodIn_of _ (by decide +kernel)) ggL_law_X6_way
set_option maxRecDepth 20000 in
theorem ggL_law_X5_tree : GoodIn wsL_law wsX5_tree := goodIn_r _ [387, 19, 358, 217, 218, 18, 219, 196, 388, 389, 390, 391, 392, 393, 394, 395, 396, 397, 398, 399, 47, 216, 202, 203, 204, 697, 698, 699, 700, 701, 702, 703, 704, 705, 706, 743, 744, 745, 746, 747, 748, 749, 750] (by decide +kernel) (by decide +kernel)
set_option maxRecDepth 20000 in
theorem gL_law_X5_tree : GoodIn wsL_law (wsV RL 50 RX5 yX5_tree wsX5_tree) := goodIn_app (goodIn_of _ (by decide +kernel)) ggL_law_X5_tree
set_option maxRecDepth 20000 in
theorem ggL_law_X6_tree : GoodIn wsL_law wsX6_tree := goodIn_r _ [403, 368, 369, 370, 5, 371, 257, 103, 104, 105, 404, 405, 406, 407, 408, 409, 410, 411, 367, 80, 351, 352, 353, 372, 373, 374, 375, 79, 376, 377, 378, 379, 258, 71, 70, 380, 381, 382, 383, 412, 413, 414, 415, 707, 708, 709, 710, 711, 712, 713, 714, 715, 716, 717, 718, 719, 720, 721, 722, 723, 724, 725, 726, 727, 728, 729, 730, 731, 732, 733, 734, 735, 736, 737, 738, 739, 740] (by decide +kernel) (by decide +kernel)
set_option maxRecDepth 20000 in
theorem gL_law_X6_tree : GoodIn wsL_law (wsV RL 53 RX6 yX6_tree wsX6_tree) := goodIn_app (goodIn_of _ (by decide +kernel)) ggL_law_X6_tree
set_option maxRecDepth 20000 in
theorem ggL_law_X5_bind : GoodIn wsL_law wsX5_bind := goodIn_r _ [419, 19, 27, 420, 421, 2, 422, 358, 217, 218, 18, 219, 196, 388, 389, 390, 391, 392, 393, 394, 395, 396, 397, 398, 399, 47, 216, 202, 203, 204, 423, 424, 425, 26, 426, 427, 428, 429, 430, 61, 431, 432, 433, 434, 435, 436, 437, 438, 439, 440, 441, 697, 698, 699, 700, 701, 702, 703, 704, 705, 706, 743, 744, 745, 746, 747, 748, 749, 750, 756] (by decide +kernel) (by decide +kernel)
set_option maxRecDepth 20000 in
theorem gL_law_X5_bind : GoodIn wsL_law (wsV RL 54 RX5 yX5_bind wsX5_bind) := goodIn_app (goodIn_of _ (by decide +kernel)) ggL_law_X5_bind
set_option maxRecDepth 20000 in
theorem ggL_law_X6_bind : GoodIn wsL_law wsX6_bind := goodIn_r _ [445, 75, 446, 447, 5, 448, 103, 104, 105, 368, 369, 370, 371, 257, 404, 405, 406, 407, 408, 409, 410, 411, 367, 80, 351, 352, 353, 372, 373, 374, 375, 79, 376, 377, 378, 379, 258, 71, 70, 380, 381, 382, 383, 412, 413, 414, 415, 449, 450, 451, 707, 708, 709, 710, 711, 712, 713, 714, 715, 716, 717, 718, 719, 720, 721, 722, 723, 724, 725, 726, 727, 728, 729, 730, 731, 732, 733, 734, 735, 736, 737, 738, 739, 740] (by decide +kernel) (by decide +kernel)
set_option maxRecDepth 20000 in
theorem gL_law_X6_bind : GoodIn wsL_law (wsV RL 57 RX6 yX6_bind wsX6_bind) := goodIn_app (goodIn_of _ (by decide +kernel)) ggL_law_X6_bind
set_option maxRecDepth 20000 in
theorem ggL_law_X5_loosen : GoodIn wsL_law wsX5_loosen := goodIn_r _ [455, 27, 420, 421, 2, 422, 423, 424, 425, 26, 426, 427, 428, 429, 430, 61, 456, 431, 432, 433, 434, 697, 698, 699, 700, 701, 702, 703, 704, 705, 706, 756] (by decide +kernel) (by decide +kernel)
set_option maxRecDepth 20000 in
theorem gL_law_X5_loosen : GoodIn wsL_law (wsV RL 58 RX5 yX5_loosen wsX5_loosen) := goodIn_app (goodIn_of _ (by decide +kernel)) ggL_law_X5_loosen
set_option maxRecDepth 20000 in
theorem ggL_law_X6_loosen : GoodIn wsL_law wsX6_loosen := goodIn_r _ [460, 75, 446, 447, 5, 448, 103, 104, 105, 707, 708, 709, 710, 711, 712, 713, 714, 715, 716, 717, 718, 719, 720, 721, 722, 723, 724, 725, 726, 727, 728, 729, 730, 731, 732, 733, 734, 735, 736, 737, 738, 739, 740] (by decide +kernel) (by decide +kernel)
set_option maxRecDepth 20000 in
theorem gL_law_X6_loosen : GoodIn wsL_law (wsV RL 61 RX6 yX6_loosen wsX6_loosen) := goodIn_app (goodIn_of _ (by decide +kernel)) ggL_law_X6_loosen
set_option maxRecDepth 20000 in
theorem ggL_law_X5_bound : GoodIn wsL_law wsX5_bound := goodIn_r _ [464, 27, 297, 298, 23, 420, 421, 2, 422, 423, 424, 425, 26, 426, 427, 428, 429, 430, 61, 303, 304, 305, 465, 466, 467, 22, 468, 56, 697, 698, 699, 700, 701, 702, 703, 704, 705, 706, 756, 751, 752, 753, 754, 755] (by decide +kernel) (by decide +kernel)
set_option maxRecDepth 20000 in
theorem gL_law_X5_bound : GoodIn wsL_law (wsV RL 62 RX5 yX5_bound wsX5_bound) := goodIn_app (goodIn_of _ (by decide +kernel)) ggL_law_X5_bound
set_option maxRecDepth 20000 in
theorem ggL_law_X6_bound : GoodIn wsL_law wsX6_bound := goodIn_r _ [472, 75, 314, 78, 315, 446, 447, 5, 448, 103, 104, 105, 320, 321, 322, 707, 708, 709, 710, 711, 712, 713, 714, 715, 716, 717, 718, 719, 720, 721, 722, 723, 724, 725, 726, 727, 728, 729, 730, 731, 732, 733, 734, 735, 736, 737, 738, 739, 740] (by decide +kernel) (by decide +kernel)
set_option maxRecDepth 20000 in
theorem gL_law_X6_bound : GoodIn wsL_law (wsV RL 65 RX6 yX6_bound wsX6_bound) := goodIn_app (goodIn_of _ (by decide +kernel)) ggL_law_X6_bound
set_option maxRecDepth 20000 in
theorem ggL_law_X5_fold : GoodIn wsL_law wsX5_fold := goodIn_r _ [476, 19, 297, 298, 358, 217, 218, 18, 219, 196, 388, 389, 390, 391, 392, 393, 394, 395, 303, 304, 2, 305, 396, 397, 398, 399, 47, 216, 202, 203, 204, 477, 478, 479, 480, 27, 23, 456, 428, 429, 26, 430, 61, 421, 422, 465, 466, 467, 22, 468, 56, 232, 233, 234, 235, 201, 306, 307, 308, 309, 697, 698, 699, 700, 701, 702, 703, 704, 705, 706, 743, 744, 745, 746, 747, 748, 749, 750, 756, 751, 752, 753, 754, 755] (by decide +kernel) (by decide +kernel)
set_option maxRecDepth 20000 in
theorem gL_law_X5_fold : GoodIn wsL_law (wsV RL 66 RX5 yX5_fold wsX5_fold) := goodIn_app (goodIn_of _ (by decide +kernel)) ggL_law_X5_fold
set_option maxRecDepth 20000 in
theorem ggL_law_X6_fold : GoodIn wsL_law wsX6_fold := goodIn_r _ [484, 314, 315, 368, 369, 370, 5, 371, 257, 103, 104, 105, 404, 405, 406, 407, 320, 321, 322, 408, 409, 410, 411, 367, 80, 351, 352, 353, 372, 373, 374, 375, 79, 376, 377, 378, 379, 258, 71, 70, 380, 381, 382, 383, 412, 413, 414, 415, 485, 486, 487, 488, 75, 78, 707, 708, 709, 710, 711, 712, 713, 714, 715, 716, 717, 718, 719, 720, 721, 722, 723, 724, 725, 726, 727, 728, 729, 730, 731, 732, 733, 734, 735, 736, 737, 738, 739, 740] (by decide +kernel) (by decide +kernel)
set_option maxRecDepth 20000 in
theorem gL_law_X6_fold : GoodIn wsL_law (wsV RL 70 RX6 yX6_fold wsX6_fold) := goodIn_app (goodIn_of _ (by decide +kernel)) ggL_law_X6_fold
set_option maxRecDepth 20000 in
theorem ggL_law_X5_spread : GoodIn wsL_law wsX5_spread := goodIn_r _ [492, 19, 358, 217, 218, 18, 219, 196, 388, 389, 390, 391, 392, 393, 394, 395, 303, 304, 2, 305, 493, 494, 495, 496, 31, 497, 396, 397, 398, 399, 47, 216, 202, 203, 204, 477, 478, 479, 480, 27, 23, 456, 428, 429, 26, 430, 61, 421, 422, 465, 466, 467, 22, 468, 56, 232, 233, 234, 235, 201, 306, 307, 308, 309, 498, 499, 500, 501, 502, 503, 504, 505, 30, 506, 507, 508, 509, 510, 511, 512, 513, 436, 437, 438, 439, 440, 441, 514, 515, 516, 517, 518, 519, 328, 329, 330, 42, 520, 332, 333, 334, 43, 521, 522, 523, 524, 525, 526, 527, 528, 529, 530, 531, 532, 533, 534, 535, 536, 537, 538, 539, 540, 541, 542, 543, 544, 545, 52, 546, 547, 548, 549, 53, 550, 551, 552, 553, 697, 698, 699, 700, 701, 702, 703, 704, 705, 706, 743, 744, 745, 746, 747, 748, 749, 750, 757, 758, 759, 760, 761, 762, 763, 756, 751, 752, 753, 754, 755] (by decide +kernel) (by decide +kernel)
set_option maxRecDepth 20000 in
theorem gL_law_X5_spread : GoodIn wsL_law (wsV RL 71 RX5 yX5_spread wsX5_spread) := goodIn_app (goodIn_of _ (by decide +kernel)) ggL_law_X5_spread
set_option maxRecDepth 20000 in
theorem ggL_law_X6_spread : GoodIn wsL_law wsX6_spread := goodIn_r _ [557, 368, 369, 370, 5, 371, 257, 103, 104, 105, 404, 405, 406, 407, 320, 321, 322, 408, 409, 410, 411, 367, 80, 351, 352, 353, 372, 373, 374, 375, 79, 376, 377, 378, 379, 258, 71, 70, 380, 381, 382, 383, 412, 413, 414, 415, 558, 559, 560, 561, 562, 563, 564, 565, 566, 567, 568, 485, 486, 487, 488, 75, 78, 569, 570, 571, 572, 573, 574, 575, 576, 577, 578, 579, 580, 581, 449, 450, 451, 582, 583, 584, 585, 73, 72, 586, 587, 588, 707, 708, 709, 710, 711, 712, 713, 714, 715, 716, 717, 718, 719, 720, 721, 722, 723, 724, 725, 726, 727, 728, 729, 730, 731, 732, 733, 734, 735, 736, 737, 738, 739, 740] (by decide +kernel) (by decide +kernel)
set_option maxRecDepth 20000 in
theorem gL_law_X6_spread : GoodIn wsL_law (wsV RL 75 RX6 yX6_spread wsX6_spread) := goodIn_app (goodIn_of _ (by decide +kernel)) ggL_law_X6_spread
set_option maxRecDepth 20000 in
theorem ggL_law_X5_best : GoodIn wsL_law wsX5_best := goodIn_r _ [592, 19, 358, 217, 218, 18, 219, 196, 388, 389, 390, 391, 392, 393, 394, 395, 593, 594, 595, 2, 596, 31, 533, 497, 493, 494, 495, 496, 396, 397, 398, 399, 47, 216, 202, 203, 204, 477, 478, 479, 480, 27, 23, 456, 428, 429, 26, 430, 61, 421, 422, 465, 466, 467, 22, 468, 56, 304, 305, 232, 233, 234, 235, 201, 306, 307, 308, 309, 498, 499, 500, 501, 502, 503, 504, 505, 30, 506, 507, 508, 509, 510, 511, 512, 513, 436, 437, 438, 439, 440, 441, 514, 515, 516, 517, 518, 519, 328, 329, 330, 42, 520, 332, 333, 334, 43, 521, 522, 523, 524, 525, 526, 527, 697, 698, 699, 700, 701, 702, 703, 704, 705, 706, 743, 744, 745, 746, 747, 748, 749, 750, 757, 758, 759, 760, 761, 762, 763, 756, 751, 752, 753, 754, 755] (by decide +kernel) (by decide +kernel)
set_option maxRecDepth 20000 in
theorem gL_law_X5_best : GoodIn wsL_law (wsV RL 76 RX5 yX5_best wsX5_best) := goodIn_app (goodIn_of _ (by decide +kernel)) ggL_law_X5_best
set_option maxRecDepth 20000 in
theorem ggL_law_X6_best : GoodIn wsL_law wsX6_best := goodIn_r _ [600, 368, 369, 370, 5, 371, 257, 103, 104, 105, 404, 405, 406, 407, 408, 409, 410, 411, 367, 80, 351, 352, 353, 372, 373, 374, 375, 79, 376, 377, 378, 379, 258, 71, 70, 380, 381, 382, 383, 412, 413, 414, 415, 601, 602, 603, 604, 564, 562, 558, 559, 560, 561, 563, 565, 566, 567, 568, 485, 486, 487, 488, 75, 78, 569, 570, 571, 572, 573, 574, 575, 576, 577, 449, 450, 451, 707, 708, 709, 710, 711, 712, 713, 714, 715, 716, 717, 718, 719, 720, 721, 722, 723, 724, 725, 726, 727, 728, 729, 730, 731, 732, 733, 734, 735, 736, 737, 738, 739, 740] (by decide +kernel) (by decide +kernel)
set_option maxRecDepth 20000 in
theorem gL_law_X6_best : GoodIn wsL_law (wsV RL 80 RX6 yX6_best wsX6_best) := goodIn_app (goodIn_of _ (by decide +kernel)) ggL_law_X6_best
set_option maxRecDepth 20000 in
theorem ggL_law_X5_send : GoodIn wsL_law wsX5_send := goodIn_r _ [608, 19, 609, 610, 31, 532, 611, 533, 612, 534, 358, 217, 218, 18, 219, 196, 388, 389, 390, 391, 392, 393, 394, 395, 593, 594, 595, 2, 596, 497, 493, 494, 495, 496, 396, 397, 398, 399, 47, 216, 202, 203, 204, 477, 478, 479, 480, 27, 23, 456, 428, 429, 26, 430, 61, 421, 422, 465, 466, 467, 22, 468, 56, 304, 305, 232, 233, 234, 235, 201, 306, 307, 308, 309, 498, 499, 500, 501, 502, 503, 504, 505, 30, 506, 507, 508, 509, 510, 511, 512, 513, 436, 437, 438, 439, 440, 441, 514, 515, 516, 517, 518, 519, 328, 329, 330, 42, 520, 332, 333, 334, 43, 521, 522, 523, 524, 525, 526, 527, 697, 698, 699, 700, 701, 702, 703, 704, 705, 706, 757, 758, 759, 760, 761, 762, 763, 743, 744, 745, 746, 747, 748, 749, 750, 756, 751, 752, 753, 754, 755] (by decide +kernel) (by decide +kernel)
set_option maxRecDepth 20000 in
theorem gL_law_X5_send : GoodIn wsL_law (wsV RL 81 RX5 yX5_send wsX5_send) := goodIn_app (goodIn_of _ (by decide +kernel)) ggL_law_X5_send
set_option maxRecDepth 20000 in
theorem ggL_law_X6_send : GoodIn wsL_law wsX6_send := goodIn_r _ [616, 368, 369, 370, 5, 371, 257, 103, 104, 105, 404, 405, 406, 407, 408, 409, 410, 411, 367, 80, 351, 352, 353, 372, 373, 374, 375, 79, 376, 377, 378, 379, 258, 71, 70, 380, 381, 382, 383, 412, 413, 414, 415, 617, 618, 619, 620, 621, 622, 563, 623, 564, 624, 565, 601, 602, 603, 604, 562, 558, 559, 560, 561, 566, 567, 568, 485, 486, 487, 488, 75, 78, 569, 570, 571, 572, 573, 574, 575, 576, 577, 449, 450, 451, 707, 708, 709, 710, 711, 712, 713, 714, 715, 716, 717, 718, 719, 720, 721, 722, 723, 724, 725, 726, 727, 728, 729, 730, 731, 732, 733, 734, 735, 736, 737, 738, 739, 740] (by decide +kernel) (by decide +kernel)
set_option maxRecDepth 20000 in
theorem gL_law_X6_send : GoodIn wsL_law (wsV RL 84 RX6 yX6_send wsX6_send) := goodIn_app (goodIn_of _ (by decide +kernel)) ggL_law_X6_send
set_option maxRecDepth 20000 in
theorem ggL_law_X5_count : GoodIn wsL_law wsX5_count := goodIn_r _ [628, 19, 15, 23, 27, 182, 609, 610, 611, 612, 629, 630, 631, 18, 632, 196, 232, 233, 234, 235, 201, 94, 95, 96, 14, 97, 89, 281, 282, 283, 22, 284, 52, 53, 54, 633, 634, 635, 26, 636, 637, 424, 425, 426, 427, 428, 429, 430, 61, 421, 2, 422, 697, 698, 699, 700, 701, 702, 703, 704, 705, 706, 743, 744, 745, 746, 747, 748, 749, 750, 741, 742, 751, 752, 753, 754, 755, 756] (by decide +kernel) (by decide +kernel)
set_option maxRecDepth 20000 in
theorem gL_law_X5_count : GoodIn wsL_law (wsV RL 85 RX5 yX5_count wsX5_count) := goodIn_app (goodIn_of _ (by decide +kernel)) ggL_law_X5_count
set_option maxRecDepth 20000 in
theorem ggL_law_X6_count : GoodIn wsL_law wsX6_count := goodIn_r _ [641, 642, 643, 644, 5, 645, 257, 258, 102, 72, 73, 74, 259, 621, 622, 623, 624, 646, 647, 648, 649, 75, 707, 708, 709, 710, 711, 712, 713, 714, 715, 716, 717, 718, 719, 720, 721, 722, 723, 724, 725, 726, 727, 728, 729, 730, 731, 732, 733, 734, 735, 736, 737, 738, 739, 740] (by decide +kernel) (by decide +kernel)
set_option maxRecDepth 20000 in
theorem gL_law_X6_count : GoodIn wsL_law (wsV RL 88 RX6 yX6_count wsX6_count) := goodIn_app (goodIn_of _ (by decide +kernel)) ggL_law_X6_count
set_option maxRecDepth 20000 in
theorem ggL_law_X5_digest : GoodIn wsL_law wsX5_digest := goodIn_r _ [653, 654, 655, 656, 657, 2, 658, 19, 27, 23, 232, 233, 234, 18, 235, 201, 327, 328, 329, 330, 42, 659, 660, 661, 662, 331, 332, 333, 334, 43, 335, 336, 337, 26, 338, 61, 306, 307, 308, 22, 309, 56, 304, 305, 663, 664, 665, 666, 423, 424, 425, 426, 427, 428, 429, 430, 421, 422, 465, 466, 467, 468, 667, 668, 669, 670, 671, 393, 394, 395, 196, 629, 630, 631, 632, 396, 397, 398, 399, 47, 216, 217, 218, 219, 202, 203, 204, 493, 494, 495, 496, 31, 497, 477, 478, 479, 480, 456, 498, 499, 500, 501, 502, 503, 504, 505, 30, 506, 507, 508, 509, 510, 511, 512, 513, 436, 437, 438, 439, 440, 441, 514, 515, 516, 517, 518, 519, 520, 521, 522, 523, 524, 525, 526, 527, 528, 529, 530, 531, 532, 533, 534, 535, 536, 537, 538, 539, 540, 541, 542, 543, 544, 545, 52, 546, 547, 548, 549, 53, 550, 551, 552, 553, 593, 594, 595, 596, 672, 673, 674, 675, 15, 94, 95, 96, 14, 97, 89, 676, 135, 136, 137, 37, 677, 678, 679, 680, 681, 626, 627, 628, 182, 609, 610, 611, 612, 281, 282, 283, 284, 54, 633, 634, 635, 636, 637, 697, 698, 699, 700, 701, 702, 703, 704, 705, 706, 743, 744, 745, 746, 747, 748, 749, 750, 756, 751, 752, 753, 754, 755, 757, 758, 759, 760, 761, 762, 763, 741, 742] (by decide +kernel) (by decide +kernel)
set_option maxRecDepth 20000 in
theorem gL_law_X5_digest : GoodIn wsL_law (wsV RL 89 RX5 yX5_digest wsX5_digest) := goodIn_app (goodIn_of _ (by decide +kernel)) ggL_law_X5_digest
set_option maxRecDepth 20000 in
theorem ggL_law_X6_digest : GoodIn wsL_law wsX6_digest := goodIn_r _ [685, 686, 687, 258, 78, 75, 257, 102, 69, 343, 344, 345, 5, 346, 70, 71, 347, 348, 349, 350, 351, 352, 353, 688, 689, 690, 691, 692, 693, 694, 695, 696, 408, 409, 410, 411, 367, 80, 372, 373, 374, 375, 79, 376, 377, 378, 379, 380, 381, 382, 383, 412, 413, 414, 415, 558, 559, 560, 561, 562, 563, 564, 565, 566, 567, 568, 485, 486, 487, 488, 569, 570, 571, 572, 573, 574, 575, 576, 577, 578, 579, 580, 581, 449, 450, 451, 582, 583, 584, 585, 73, 72, 586, 587, 588, 601, 602, 603, 604, 642, 643, 644, 645, 74, 259, 621, 622, 623, 624, 646, 647, 648, 649, 707, 708, 709, 710, 711, 712, 713, 714, 715, 716, 717, 718, 719, 720, 721, 722, 723, 724, 725, 726, 727, 728, 729, 730, 731, 732, 733, 734, 735, 736, 737, 738, 739, 740] (by decide +kernel) (by decide +kernel)
set_option maxRecDepth 20000 in
theorem gL_law_X6_digest : GoodIn wsL_law (wsV RL 93 RX6 yX6_digest wsX6_digest) := goodIn_app (goodIn_of _ (by decide +kernel)) ggL_law_X6_digest
theorem dL_law_0 : decode cL_law 0 = .ok (.new 7, 3) := by decide +kernel
theorem dL_law_3 : decode cL_law 3 = .ok (.dup, 1) := by decide +kernel
theorem dL_law_4 : decode cL_law 4 = .ok (.invokespecial 9, 3) := by decide +kernel
theorem dL_law_7 : decode cL_law 7 = .ok (.astore_n 1, 1) := by decide +kernel
theorem dL_law_8 : decode cL_law 8 = .ok (.new 10, 3) := by decide +kernel
theorem dL_law_11 : decode cL_law 11 = .ok (.dup, 1) := by decide +kernel
theorem dL_law_12 : decode cL_law 12 = .ok (.invokespecial 12, 3) := by decide +kernel
theorem dL_law_15 : decode cL_law 15 = .ok (.astore_n 2, 1) := by decide +kernel
theorem dL_law_16 : decode cL_law 16 = .ok (.iconst 0, 1) := by decide +kernel
theorem dL_law_17 : decode cL_law 17 = .ok (.istore_n 3, 1) := by decide +kernel
theorem dL_law_18 : decode cL_law 18 = .ok (.iload_n 3, 1) := by decide +kernel
theorem dL_law_19 : decode cL_law 19 = .ok (.aload_n 0, 1) := by decide +kernel
theorem dL_law_20 : decode cL_law 20 = .ok (.arraylength, 1) := by decide +kernel
theorem dL_law_21 : decode cL_law 21 = .ok (.bipush 6, 2) := by decide +kernel
theorem dL_law_23 : decode cL_law 23 = .ok (.isub, 1) := by decide +kernel
theorem dL_law_24 : decode cL_law 24 = .ok (.if_icmp .gt 744, 3) := by decide +kernel
theorem dL_law_27 : decode cL_law 27 = .ok (.aload_n 0, 1) := by decide +kernel
theorem dL_law_28 : decode cL_law 28 = .ok (.iload_n 3, 1) := by decide +kernel
theorem dL_law_29 : decode cL_law 29 = .ok (.iaload, 1) := by decide +kernel
theorem dL_law_30 : decode cL_law 30 = .ok (.bipush 31, 2) := by decide +kernel
theorem dL_law_32 : decode cL_law 32 = .ok (.iand, 1) := by decide +kernel
theorem dL_law_33 : decode cL_law 33 = .ok (.tableswitch 729 0 17 #[87, 110, 123, 136, 149, 182, 216, 249, 292, 325, 368, 391, 425, 495, 574, 633, 692, 715], 87) := by decide +kernel
theorem dL_law_120 : decode cL_law 120 = .ok (.aload_n 1, 1) := by decide +kernel
theorem dL_law_121 : decode cL_law 121 = .ok (.aload_n 0, 1) := by decide +kernel
theorem dL_law_122 : decode cL_law 122 = .ok (.iload_n 3, 1) := by decide +kernel
theorem dL_law_123 : decode cL_law 123 = .ok (.iconst 1, 1) := by decide +kernel
theorem dL_law_124 : decode cL_law 124 = .ok (.iadd, 1) := by decide +kernel
theorem dL_law_125 : decode cL_law 125 = .ok (.iaload, 1) := by decide +kernel
theorem dL_law_126 : decode cL_law 126 = .ok (.invokevirtual 13, 3) := by decide +kernel
theorem dL_law_129 : decode cL_law 129 = .ok (.aload_n 2, 1) := by decide +kernel
theorem dL_law_130 : decode cL_law 130 = .ok (.aload_n 0, 1) := by decide +kernel
theorem dL_law_131 : decode cL_law 131 = .ok (.iload_n 3, 1) := by decide +kernel
theorem dL_law_132 : decode cL_law 132 = .ok (.iconst 1, 1) := by decide +kernel
theorem dL_law_133 : decode cL_law 133 = .ok (.iadd, 1) := by decide +kernel
theorem dL_law_134 : decode cL_law 134 = .ok (.iaload, 1) := by decide +kernel
theorem dL_law_135 : decode cL_law 135 = .ok (.invokevirtual 17, 3) := by decide +kernel
theorem dL_law_138 : decode cL_law 138 = .ok (.if_icmp .eq 624, 3) := by decide +kernel
theorem dL_law_141 : decode cL_law 141 = .ok (.iconst 0, 1) := by decide +kernel
theorem dL_law_142 : decode cL_law 142 = .ok (.ireturn, 1) := by decide +kernel
theorem dL_law_143 : decode cL_law 143 = .ok (.aload_n 1, 1) := by decide +kernel
theorem dL_law_144 : decode cL_law 144 = .ok (.invokevirtual 18, 3) := by decide +kernel
theorem dL_law_147 : decode cL_law 147 = .ok (.aload_n 2, 1) := by decide +kernel
theorem dL_law_148 : decode cL_law 148 = .ok (.invokevirtual 22, 3) := by decide +kernel
theorem dL_law_151 : decode cL_law 151 = .ok (.if_icmp .eq 611, 3) := by decide +kernel
theorem dL_law_154 : decode cL_law 154 = .ok (.iconst 0, 1) := by decide +kernel
theorem dL_law_155 : decode cL_law 155 = .ok (.ireturn, 1) := by decide +kernel
theorem dL_law_156 : decode cL_law 156 = .ok (.aload_n 1, 1) := by decide +kernel
theorem dL_law_157 : decode cL_law 157 = .ok (.invokevirtual 23, 3) := by decide +kernel
theorem dL_law_160 : decode cL_law 160 = .ok (.aload_n 2, 1) := by decide +kernel
theorem dL_law_161 : decode cL_law 161 = .ok (.invokevirtual 26, 3) := by decide +kernel
theorem dL_law_164 : decode cL_law 164 = .ok (.if_icmp .eq 598, 3) := by decide +kernel
theorem dL_law_167 : decode cL_law 167 = .ok (.iconst 0, 1) := by decide +kernel
theorem dL_law_168 : decode cL_law 168 = .ok (.ireturn, 1) := by decide +kernel
theorem dL_law_169 : decode cL_law 169 = .ok (.aload_n 1, 1) := by decide +kernel
theorem dL_law_170 : decode cL_law 170 = .ok (.invokevirtual 27, 3) := by decide +kernel
theorem dL_law_173 : decode cL_law 173 = .ok (.aload_n 2, 1) := by decide +kernel
theorem dL_law_174 : decode cL_law 174 = .ok (.invokevirtual 30, 3) := by decide +kernel
theorem dL_law_177 : decode cL_law 177 = .ok (.if_icmp .eq 585, 3) := by decide +kernel
theorem dL_law_180 : decode cL_law 180 = .ok (.iconst 0, 1) := by decide +kernel
theorem dL_law_181 : decode cL_law 181 = .ok (.ireturn, 1) := by decide +kernel
theorem dL_law_182 : decode cL_law 182 = .ok (.aload_n 1, 1) := by decide +kernel
theorem dL_law_183 : decode cL_law 183 = .ok (.aload_n 0, 1) := by decide +kernel
theorem dL_law_184 : decode cL_law 184 = .ok (.iload_n 3, 1) := by decide +kernel
theorem dL_law_185 : decode cL_law 185 = .ok (.iconst 1, 1) := by decide +kernel
theorem dL_law_186 : decode cL_law 186 = .ok (.iadd, 1) := by decide +kernel
theorem dL_law_187 : decode cL_law 187 = .ok (.iaload, 1) := by decide +kernel
theorem dL_law_188 : decode cL_law 188 = .ok (.aload_n 0, 1) := by decide +kernel
theorem dL_law_189 : decode cL_law 189 = .ok (.iload_n 3, 1) := by decide +kernel
theorem dL_law_190 : decode cL_law 190 = .ok (.iconst 2, 1) := by decide +kernel
theorem dL_law_191 : decode cL_law 191 = .ok (.iadd, 1) := by decide +kernel
theorem dL_law_192 : decode cL_law 192 = .ok (.iaload, 1) := by decide +kernel
theorem dL_law_193 : decode cL_law 193 = .ok (.invokevirtual 31, 3) := by decide +kernel
theorem dL_law_196 : decode cL_law 196 = .ok (.aload_n 2, 1) := by decide +kernel
theorem dL_law_197 : decode cL_law 197 = .ok (.aload_n 0, 1) := by decide +kernel
theorem dL_law_198 : decode cL_law 198 = .ok (.iload_n 3, 1) := by decide +kernel
theorem dL_law_199 : decode cL_law 199 = .ok (.iconst 1, 1) := by decide +kernel
theorem dL_law_200 : decode cL_law 200 = .ok (.iadd, 1) := by decide +kernel
theorem dL_law_201 : decode cL_law 201 = .ok (.iaload, 1) := by decide +kernel
theorem dL_law_202 : decode cL_law 202 = .ok (.aload_n 0, 1) := by decide +kernel
theorem dL_law_203 : decode cL_law 203 = .ok (.iload_n 3, 1) := by decide +kernel
theorem dL_law_204 : decode cL_law 204 = .ok (.iconst 2, 1) := by decide +kernel
theorem dL_law_205 : decode cL_law 205 = .ok (.iadd, 1) := by decide +kernel
theorem dL_law_206 : decode cL_law 206 = .ok (.iaload, 1) := by decide +kernel
theorem dL_law_207 : decode cL_law 207 = .ok (.invokevirtual 35, 3) := by decide +kernel
theorem dL_law_210 : decode cL_law 210 = .ok (.if_icmp .eq 552, 3) := by decide +kernel
theorem dL_law_213 : decode cL_law 213 = .ok (.iconst 0, 1) := by decide +kernel
theorem dL_law_214 : decode cL_law 214 = .ok (.ireturn, 1) := by decide +kernel
theorem dL_law_215 : decode cL_law 215 = .ok (.aload_n 1, 1) := by decide +kernel
theorem dL_law_216 : decode cL_law 216 = .ok (.aload_n 0, 1) := by decide +kernel
theorem dL_law_217 : decode cL_law 217 = .ok (.iload_n 3, 1) := by decide +kernel
theorem dL_law_218 : decode cL_law 218 = .ok (.iconst 1, 1) := by decide +kernel
theorem dL_law_219 : decode cL_law 219 = .ok (.iadd, 1) := by decide +kernel
theorem dL_law_220 : decode cL_law 220 = .ok (.iaload, 1) := by decide +kernel
theorem dL_law_221 : decode cL_law 221 = .ok (.aload_n 0, 1) := by decide +kernel
theorem dL_law_222 : decode cL_law 222 = .ok (.iload_n 3, 1) := by decide +kernel
theorem dL_law_223 : decode cL_law 223 = .ok (.iconst 2, 1) := by decide +kernel
theorem dL_law_224 : decode cL_law 224 = .ok (.iadd, 1) := by decide +kernel
theorem dL_law_225 : decode cL_law 225 = .ok (.iaload, 1) := by decide +kernel
theorem dL_law_226 : decode cL_law 226 = .ok (.invokevirtual 36, 3) := by decide +kernel
theorem dL_law_229 : decode cL_law 229 = .ok (.aload_n 2, 1) := by decide +kernel
theorem dL_law_230 : decode cL_law 230 = .ok (.aload_n 0, 1) := by decide +kernel
theorem dL_law_231 : decode cL_law 231 = .ok (.iload_n 3, 1) := by decide +kernel
theorem dL_law_232 : decode cL_law 232 = .ok (.iconst 1, 1) := by decide +kernel
theorem dL_law_233 : decode cL_law 233 = .ok (.iadd, 1) := by decide +kernel
theorem dL_law_234 : decode cL_law 234 = .ok (.iaload, 1) := by decide +kernel
theorem dL_law_235 : decode cL_law 235 = .ok (.aload_n 0, 1) := by decide +kernel
theorem dL_law_236 : decode cL_law 236 = .ok (.iload_n 3, 1) := by decide +kernel
theorem dL_law_237 : decode cL_law 237 = .ok (.iconst 2, 1) := by decide +kernel
theorem dL_law_238 : decode cL_law 238 = .ok (.iadd, 1) := by decide +kernel
theorem dL_law_239 : decode cL_law 239 = .ok (.iaload, 1) := by decide +kernel
theorem dL_law_240 : decode cL_law 240 = .ok (.invokevirtual 40, 3) := by decide +kernel
theorem dL_law_243 : decode cL_law 243 = .ok (.lcmp, 1) := by decide +kernel
theorem dL_law_244 : decode cL_law 244 = .ok (.ifCond .eq 518, 3) := by decide +kernel
theorem dL_law_247 : decode cL_law 247 = .ok (.iconst 0, 1) := by decide +kernel
theorem dL_law_248 : decode cL_law 248 = .ok (.ireturn, 1) := by decide +kernel
theorem dL_law_249 : decode cL_law 249 = .ok (.aload_n 1, 1) := by decide +kernel
theorem dL_law_250 : decode cL_law 250 = .ok (.aload_n 0, 1) := by decide +kernel
theorem dL_law_251 : decode cL_law 251 = .ok (.iload_n 3, 1) := by decide +kernel
theorem dL_law_252 : decode cL_law 252 = .ok (.iconst 1, 1) := by decide +kernel
theorem dL_law_253 : decode cL_law 253 = .ok (.iadd, 1) := by decide +kernel
theorem dL_law_254 : decode cL_law 254 = .ok (.iaload, 1) := by decide +kernel
theorem dL_law_255 : decode cL_law 255 = .ok (.aload_n 0, 1) := by decide +kernel
theorem dL_law_256 : decode cL_law 256 = .ok (.iload_n 3, 1) := by decide +kernel
theorem dL_law_257 : decode cL_law 257 = .ok (.iconst 2, 1) := by decide +kernel
theorem dL_law_258 : decode cL_law 258 = .ok (.iadd, 1) := by decide +kernel
theorem dL_law_259 : decode cL_law 259 = .ok (.iaload, 1) := by decide +kernel
theorem dL_law_260 : decode cL_law 260 = .ok (.invokevirtual 41, 3) := by decide +kernel
theorem dL_law_263 : decode cL_law 263 = .ok (.aload_n 2, 1) := by decide +kernel
theorem dL_law_264 : decode cL_law 264 = .ok (.aload_n 0, 1) := by decide +kernel
theorem dL_law_265 : decode cL_law 265 = .ok (.iload_n 3, 1) := by decide +kernel
theorem dL_law_266 : decode cL_law 266 = .ok (.iconst 1, 1) := by decide +kernel
theorem dL_law_267 : decode cL_law 267 = .ok (.iadd, 1) := by decide +kernel
theorem dL_law_268 : decode cL_law 268 = .ok (.iaload, 1) := by decide +kernel
theorem dL_law_269 : decode cL_law 269 = .ok (.aload_n 0, 1) := by decide +kernel
theorem dL_law_270 : decode cL_law 270 = .ok (.iload_n 3, 1) := by decide +kernel
theorem dL_law_271 : decode cL_law 271 = .ok (.iconst 2, 1) := by decide +kernel
theorem dL_law_272 : decode cL_law 272 = .ok (.iadd, 1) := by decide +kernel
theorem dL_law_273 : decode cL_law 273 = .ok (.iaload, 1) := by decide +kernel
theorem dL_law_274 : decode cL_law 274 = .ok (.invokevirtual 44, 3) := by decide +kernel
theorem dL_law_277 : decode cL_law 277 = .ok (.if_icmp .eq 485, 3) := by decide +kernel
theorem dL_law_280 : decode cL_law 280 = .ok (.iconst 0, 1) := by decide +kernel
theorem dL_law_281 : decode cL_law 281 = .ok (.ireturn, 1) := by decide +kernel
theorem dL_law_282 : decode cL_law 282 = .ok (.aload_n 1, 1) := by decide +kernel
theorem dL_law_283 : decode cL_law 283 = .ok (.aload_n 0, 1) := by decide +kernel
theorem dL_law_284 : decode cL_law 284 = .ok (.iload_n 3, 1) := by decide +kernel
theorem dL_law_285 : decode cL_law 285 = .ok (.iconst 1, 1) := by decide +kernel
theorem dL_law_286 : decode cL_law 286 = .ok (.iadd, 1) := by decide +kernel
theorem dL_law_287 : decode cL_law 287 = .ok (.iaload, 1) := by decide +kernel
theorem dL_law_288 : decode cL_law 288 = .ok (.aload_n 0, 1) := by decide +kernel
theorem dL_law_289 : decode cL_law 289 = .ok (.iload_n 3, 1) := by decide +kernel
theorem dL_law_290 : decode cL_law 290 = .ok (.iconst 2, 1) := by decide +kernel
theorem dL_law_291 : decode cL_law 291 = .ok (.iadd, 1) := by decide +kernel
theorem dL_law_292 : decode cL_law 292 = .ok (.iaload, 1) := by decide +kernel
theorem dL_law_293 : decode cL_law 293 = .ok (.aload_n 0, 1) := by decide +kernel
theorem dL_law_294 : decode cL_law 294 = .ok (.iload_n 3, 1) := by decide +kernel
theorem dL_law_295 : decode cL_law 295 = .ok (.iconst 3, 1) := by decide +kernel
theorem dL_law_296 : decode cL_law 296 = .ok (.iadd, 1) := by decide +kernel
theorem dL_law_297 : decode cL_law 297 = .ok (.iaload, 1) := by decide +kernel
theorem dL_law_298 : decode cL_law 298 = .ok (.invokevirtual 45, 3) := by decide +kernel
theorem dL_law_301 : decode cL_law 301 = .ok (.aload_n 2, 1) := by decide +kernel
theorem dL_law_302 : decode cL_law 302 = .ok (.aload_n 0, 1) := by decide +kernel
theorem dL_law_303 : decode cL_law 303 = .ok (.iload_n 3, 1) := by decide +kernel
theorem dL_law_304 : decode cL_law 304 = .ok (.iconst 1, 1) := by decide +kernel
theorem dL_law_305 : decode cL_law 305 = .ok (.iadd, 1) := by decide +kernel
theorem dL_law_306 : decode cL_law 306 = .ok (.iaload, 1) := by decide +kernel
theorem dL_law_307 : decode cL_law 307 = .ok (.aload_n 0, 1) := by decide +kernel
theorem dL_law_308 : decode cL_law 308 = .ok (.iload_n 3, 1) := by decide +kernel
theorem dL_law_309 : decode cL_law 309 = .ok (.iconst 2, 1) := by decide +kernel
theorem dL_law_310 : decode cL_law 310 = .ok (.iadd, 1) := by decide +kernel
theorem dL_law_311 : decode cL_law 311 = .ok (.iaload, 1) := by decide +kernel
end
section
theorem dL_law_312 : decode cL_law 312 = .ok (.aload_n 0, 1) := by decide +kernel
theorem dL_law_313 : decode cL_law 313 = .ok (.iload_n 3, 1) := by decide +kernel
theorem dL_law_314 : decode cL_law 314 = .ok (.iconst 3, 1) := by decide +kernel
theorem dL_law_315 : decode cL_law 315 = .ok (.iadd, 1) := by decide +kernel
theorem dL_law_316 : decode cL_law 316 = .ok (.iaload, 1) := by decide +kernel
theorem dL_law_317 : decode cL_law 317 = .ok (.invokevirtual 49, 3) := by decide +kernel
theorem dL_law_320 : decode cL_law 320 = .ok (.if_icmp .eq 442, 3) := by decide +kernel
theorem dL_law_323 : decode cL_law 323 = .ok (.iconst 0, 1) := by decide +kernel
theorem dL_law_324 : decode cL_law 324 = .ok (.ireturn, 1) := by decide +kernel
theorem dL_law_325 : decode cL_law 325 = .ok (.aload_n 1, 1) := by decide +kernel
theorem dL_law_326 : decode cL_law 326 = .ok (.aload_n 0, 1) := by decide +kernel
theorem dL_law_327 : decode cL_law 327 = .ok (.iload_n 3, 1) := by decide +kernel
theorem dL_law_328 : decode cL_law 328 = .ok (.iconst 1, 1) := by decide +kernel
theorem dL_law_329 : decode cL_law 329 = .ok (.iadd, 1) := by decide +kernel
theorem dL_law_330 : decode cL_law 330 = .ok (.iaload, 1) := by decide +kernel
theorem dL_law_331 : decode cL_law 331 = .ok (.aload_n 0, 1) := by decide +kernel
theorem dL_law_332 : decode cL_law 332 = .ok (.iload_n 3, 1) := by decide +kernel
theorem dL_law_333 : decode cL_law 333 = .ok (.iconst 2, 1) := by decide +kernel
theorem dL_law_334 : decode cL_law 334 = .ok (.iadd, 1) := by decide +kernel
theorem dL_law_335 : decode cL_law 335 = .ok (.iaload, 1) := by decide +kernel
theorem dL_law_336 : decode cL_law 336 = .ok (.invokevirtual 50, 3) := by decide +kernel
theorem dL_law_339 : decode cL_law 339 = .ok (.aload_n 2, 1) := by decide +kernel
theorem dL_law_340 : decode cL_law 340 = .ok (.aload_n 0, 1) := by decide +kernel
theorem dL_law_341 : decode cL_law 341 = .ok (.iload_n 3, 1) := by decide +kernel
theorem dL_law_342 : decode cL_law 342 = .ok (.iconst 1, 1) := by decide +kernel
theorem dL_law_343 : decode cL_law 343 = .ok (.iadd, 1) := by decide +kernel
theorem dL_law_344 : decode cL_law 344 = .ok (.iaload, 1) := by decide +kernel
theorem dL_law_345 : decode cL_law 345 = .ok (.aload_n 0, 1) := by decide +kernel
theorem dL_law_346 : decode cL_law 346 = .ok (.iload_n 3, 1) := by decide +kernel
theorem dL_law_347 : decode cL_law 347 = .ok (.iconst 2, 1) := by decide +kernel
theorem dL_law_348 : decode cL_law 348 = .ok (.iadd, 1) := by decide +kernel
theorem dL_law_349 : decode cL_law 349 = .ok (.iaload, 1) := by decide +kernel
theorem dL_law_350 : decode cL_law 350 = .ok (.invokevirtual 53, 3) := by decide +kernel
theorem dL_law_353 : decode cL_law 353 = .ok (.if_icmp .eq 409, 3) := by decide +kernel
theorem dL_law_356 : decode cL_law 356 = .ok (.iconst 0, 1) := by decide +kernel
theorem dL_law_357 : decode cL_law 357 = .ok (.ireturn, 1) := by decide +kernel
theorem dL_law_358 : decode cL_law 358 = .ok (.aload_n 1, 1) := by decide +kernel
theorem dL_law_359 : decode cL_law 359 = .ok (.aload_n 0, 1) := by decide +kernel
theorem dL_law_360 : decode cL_law 360 = .ok (.iload_n 3, 1) := by decide +kernel
theorem dL_law_361 : decode cL_law 361 = .ok (.iconst 1, 1) := by decide +kernel
theorem dL_law_362 : decode cL_law 362 = .ok (.iadd, 1) := by decide +kernel
theorem dL_law_363 : decode cL_law 363 = .ok (.iaload, 1) := by decide +kernel
theorem dL_law_364 : decode cL_law 364 = .ok (.aload_n 0, 1) := by decide +kernel
theorem dL_law_365 : decode cL_law 365 = .ok (.iload_n 3, 1) := by decide +kernel
theorem dL_law_366 : decode cL_law 366 = .ok (.iconst 2, 1) := by decide +kernel
theorem dL_law_367 : decode cL_law 367 = .ok (.iadd, 1) := by decide +kernel
theorem dL_law_368 : decode cL_law 368 = .ok (.iaload, 1) := by decide +kernel
theorem dL_law_369 : decode cL_law 369 = .ok (.aload_n 0, 1) := by decide +kernel
theorem dL_law_370 : decode cL_law 370 = .ok (.iload_n 3, 1) := by decide +kernel
theorem dL_law_371 : decode cL_law 371 = .ok (.iconst 3, 1) := by decide +kernel
theorem dL_law_372 : decode cL_law 372 = .ok (.iadd, 1) := by decide +kernel
theorem dL_law_373 : decode cL_law 373 = .ok (.iaload, 1) := by decide +kernel
theorem dL_law_374 : decode cL_law 374 = .ok (.invokevirtual 54, 3) := by decide +kernel
theorem dL_law_377 : decode cL_law 377 = .ok (.aload_n 2, 1) := by decide +kernel
theorem dL_law_378 : decode cL_law 378 = .ok (.aload_n 0, 1) := by decide +kernel
theorem dL_law_379 : decode cL_law 379 = .ok (.iload_n 3, 1) := by decide +kernel
theorem dL_law_380 : decode cL_law 380 = .ok (.iconst 1, 1) := by decide +kernel
theorem dL_law_381 : decode cL_law 381 = .ok (.iadd, 1) := by decide +kernel
theorem dL_law_382 : decode cL_law 382 = .ok (.iaload, 1) := by decide +kernel
theorem dL_law_383 : decode cL_law 383 = .ok (.aload_n 0, 1) := by decide +kernel
theorem dL_law_384 : decode cL_law 384 = .ok (.iload_n 3, 1) := by decide +kernel
theorem dL_law_385 : decode cL_law 385 = .ok (.iconst 2, 1) := by decide +kernel
theorem dL_law_386 : decode cL_law 386 = .ok (.iadd, 1) := by decide +kernel
theorem dL_law_387 : decode cL_law 387 = .ok (.iaload, 1) := by decide +kernel
theorem dL_law_388 : decode cL_law 388 = .ok (.aload_n 0, 1) := by decide +kernel
theorem dL_law_389 : decode cL_law 389 = .ok (.iload_n 3, 1) := by decide +kernel
theorem dL_law_390 : decode cL_law 390 = .ok (.iconst 3, 1) := by decide +kernel
theorem dL_law_391 : decode cL_law 391 = .ok (.iadd, 1) := by decide +kernel
theorem dL_law_392 : decode cL_law 392 = .ok (.iaload, 1) := by decide +kernel
theorem dL_law_393 : decode cL_law 393 = .ok (.invokevirtual 57, 3) := by decide +kernel
theorem dL_law_396 : decode cL_law 396 = .ok (.if_icmp .eq 366, 3) := by decide +kernel
theorem dL_law_399 : decode cL_law 399 = .ok (.iconst 0, 1) := by decide +kernel
theorem dL_law_400 : decode cL_law 400 = .ok (.ireturn, 1) := by decide +kernel
theorem dL_law_401 : decode cL_law 401 = .ok (.aload_n 1, 1) := by decide +kernel
theorem dL_law_402 : decode cL_law 402 = .ok (.aload_n 0, 1) := by decide +kernel
theorem dL_law_403 : decode cL_law 403 = .ok (.iload_n 3, 1) := by decide +kernel
theorem dL_law_404 : decode cL_law 404 = .ok (.iconst 1, 1) := by decide +kernel
theorem dL_law_405 : decode cL_law 405 = .ok (.iadd, 1) := by decide +kernel
theorem dL_law_406 : decode cL_law 406 = .ok (.iaload, 1) := by decide +kernel
theorem dL_law_407 : decode cL_law 407 = .ok (.invokevirtual 58, 3) := by decide +kernel
theorem dL_law_410 : decode cL_law 410 = .ok (.aload_n 2, 1) := by decide +kernel
theorem dL_law_411 : decode cL_law 411 = .ok (.aload_n 0, 1) := by decide +kernel
theorem dL_law_412 : decode cL_law 412 = .ok (.iload_n 3, 1) := by decide +kernel
theorem dL_law_413 : decode cL_law 413 = .ok (.iconst 1, 1) := by decide +kernel
theorem dL_law_414 : decode cL_law 414 = .ok (.iadd, 1) := by decide +kernel
theorem dL_law_415 : decode cL_law 415 = .ok (.iaload, 1) := by decide +kernel
theorem dL_law_416 : decode cL_law 416 = .ok (.invokevirtual 61, 3) := by decide +kernel
theorem dL_law_419 : decode cL_law 419 = .ok (.if_icmp .eq 343, 3) := by decide +kernel
theorem dL_law_422 : decode cL_law 422 = .ok (.iconst 0, 1) := by decide +kernel
theorem dL_law_423 : decode cL_law 423 = .ok (.ireturn, 1) := by decide +kernel
theorem dL_law_424 : decode cL_law 424 = .ok (.aload_n 1, 1) := by decide +kernel
theorem dL_law_425 : decode cL_law 425 = .ok (.aload_n 0, 1) := by decide +kernel
theorem dL_law_426 : decode cL_law 426 = .ok (.iload_n 3, 1) := by decide +kernel
theorem dL_law_427 : decode cL_law 427 = .ok (.iconst 1, 1) := by decide +kernel
theorem dL_law_428 : decode cL_law 428 = .ok (.iadd, 1) := by decide +kernel
theorem dL_law_429 : decode cL_law 429 = .ok (.iaload, 1) := by decide +kernel
theorem dL_law_430 : decode cL_law 430 = .ok (.aload_n 0, 1) := by decide +kernel
theorem dL_law_431 : decode cL_law 431 = .ok (.iload_n 3, 1) := by decide +kernel
theorem dL_law_432 : decode cL_law 432 = .ok (.iconst 2, 1) := by decide +kernel
theorem dL_law_433 : decode cL_law 433 = .ok (.iadd, 1) := by decide +kernel
theorem dL_law_434 : decode cL_law 434 = .ok (.iaload, 1) := by decide +kernel
theorem dL_law_435 : decode cL_law 435 = .ok (.invokevirtual 62, 3) := by decide +kernel
theorem dL_law_438 : decode cL_law 438 = .ok (.aload_n 2, 1) := by decide +kernel
theorem dL_law_439 : decode cL_law 439 = .ok (.aload_n 0, 1) := by decide +kernel
theorem dL_law_440 : decode cL_law 440 = .ok (.iload_n 3, 1) := by decide +kernel
theorem dL_law_441 : decode cL_law 441 = .ok (.iconst 1, 1) := by decide +kernel
theorem dL_law_442 : decode cL_law 442 = .ok (.iadd, 1) := by decide +kernel
theorem dL_law_443 : decode cL_law 443 = .ok (.iaload, 1) := by decide +kernel
theorem dL_law_444 : decode cL_law 444 = .ok (.aload_n 0, 1) := by decide +kernel
theorem dL_law_445 : decode cL_law 445 = .ok (.iload_n 3, 1) := by decide +kernel
theorem dL_law_446 : decode cL_law 446 = .ok (.iconst 2, 1) := by decide +kernel
theorem dL_law_447 : decode cL_law 447 = .ok (.iadd, 1) := by decide +kernel
theorem dL_law_448 : decode cL_law 448 = .ok (.iaload, 1) := by decide +kernel
theorem dL_law_449 : decode cL_law 449 = .ok (.invokevirtual 65, 3) := by decide +kernel
theorem dL_law_452 : decode cL_law 452 = .ok (.lcmp, 1) := by decide +kernel
theorem dL_law_453 : decode cL_law 453 = .ok (.ifCond .eq 309, 3) := by decide +kernel
theorem dL_law_456 : decode cL_law 456 = .ok (.iconst 0, 1) := by decide +kernel
theorem dL_law_457 : decode cL_law 457 = .ok (.ireturn, 1) := by decide +kernel
theorem dL_law_458 : decode cL_law 458 = .ok (.aload_n 1, 1) := by decide +kernel
theorem dL_law_459 : decode cL_law 459 = .ok (.aload_n 0, 1) := by decide +kernel
theorem dL_law_460 : decode cL_law 460 = .ok (.iload_n 3, 1) := by decide +kernel
theorem dL_law_461 : decode cL_law 461 = .ok (.iconst 1, 1) := by decide +kernel
theorem dL_law_462 : decode cL_law 462 = .ok (.iadd, 1) := by decide +kernel
theorem dL_law_463 : decode cL_law 463 = .ok (.iaload, 1) := by decide +kernel
theorem dL_law_464 : decode cL_law 464 = .ok (.aload_n 0, 1) := by decide +kernel
theorem dL_law_465 : decode cL_law 465 = .ok (.iload_n 3, 1) := by decide +kernel
theorem dL_law_466 : decode cL_law 466 = .ok (.iconst 2, 1) := by decide +kernel
theorem dL_law_467 : decode cL_law 467 = .ok (.iadd, 1) := by decide +kernel
theorem dL_law_468 : decode cL_law 468 = .ok (.iaload, 1) := by decide +kernel
theorem dL_law_469 : decode cL_law 469 = .ok (.aload_n 0, 1) := by decide +kernel
theorem dL_law_470 : decode cL_law 470 = .ok (.iload_n 3, 1) := by decide +kernel
theorem dL_law_471 : decode cL_law 471 = .ok (.iconst 3, 1) := by decide +kernel
theorem dL_law_472 : decode cL_law 472 = .ok (.iadd, 1) := by decide +kernel
theorem dL_law_473 : decode cL_law 473 = .ok (.iaload, 1) := by decide +kernel
theorem dL_law_474 : decode cL_law 474 = .ok (.aload_n 0, 1) := by decide +kernel
theorem dL_law_475 : decode cL_law 475 = .ok (.iload_n 3, 1) := by decide +kernel
theorem dL_law_476 : decode cL_law 476 = .ok (.iconst 4, 1) := by decide +kernel
theorem dL_law_477 : decode cL_law 477 = .ok (.iadd, 1) := by decide +kernel
theorem dL_law_478 : decode cL_law 478 = .ok (.iaload, 1) := by decide +kernel
theorem dL_law_479 : decode cL_law 479 = .ok (.ifCond .eq 7, 3) := by decide +kernel
theorem dL_law_482 : decode cL_law 482 = .ok (.iconst 1, 1) := by decide +kernel
theorem dL_law_483 : decode cL_law 483 = .ok (.goto 4, 3) := by decide +kernel
theorem dL_law_486 : decode cL_law 486 = .ok (.iconst 0, 1) := by decide +kernel
theorem dL_law_487 : decode cL_law 487 = .ok (.invokevirtual 66, 3) := by decide +kernel
theorem dL_law_490 : decode cL_law 490 = .ok (.aload_n 2, 1) := by decide +kernel
theorem dL_law_491 : decode cL_law 491 = .ok (.aload_n 0, 1) := by decide +kernel
theorem dL_law_492 : decode cL_law 492 = .ok (.iload_n 3, 1) := by decide +kernel
theorem dL_law_493 : decode cL_law 493 = .ok (.iconst 1, 1) := by decide +kernel
theorem dL_law_494 : decode cL_law 494 = .ok (.iadd, 1) := by decide +kernel
theorem dL_law_495 : decode cL_law 495 = .ok (.iaload, 1) := by decide +kernel
theorem dL_law_496 : decode cL_law 496 = .ok (.aload_n 0, 1) := by decide +kernel
theorem dL_law_497 : decode cL_law 497 = .ok (.iload_n 3, 1) := by decide +kernel
theorem dL_law_498 : decode cL_law 498 = .ok (.iconst 2, 1) := by decide +kernel
theorem dL_law_499 : decode cL_law 499 = .ok (.iadd, 1) := by decide +kernel
theorem dL_law_500 : decode cL_law 500 = .ok (.iaload, 1) := by decide +kernel
theorem dL_law_501 : decode cL_law 501 = .ok (.aload_n 0, 1) := by decide +kernel
theorem dL_law_502 : decode cL_law 502 = .ok (.iload_n 3, 1) := by decide +kernel
theorem dL_law_503 : decode cL_law 503 = .ok (.iconst 3, 1) := by decide +kernel
theorem dL_law_504 : decode cL_law 504 = .ok (.iadd, 1) := by decide +kernel
theorem dL_law_505 : decode cL_law 505 = .ok (.iaload, 1) := by decide +kernel
theorem dL_law_506 : decode cL_law 506 = .ok (.aload_n 0, 1) := by decide +kernel
theorem dL_law_507 : decode cL_law 507 = .ok (.iload_n 3, 1) := by decide +kernel
theorem dL_law_508 : decode cL_law 508 = .ok (.iconst 4, 1) := by decide +kernel
theorem dL_law_509 : decode cL_law 509 = .ok (.iadd, 1) := by decide +kernel
theorem dL_law_510 : decode cL_law 510 = .ok (.iaload, 1) := by decide +kernel
theorem dL_law_511 : decode cL_law 511 = .ok (.ifCond .eq 7, 3) := by decide +kernel
theorem dL_law_514 : decode cL_law 514 = .ok (.iconst 1, 1) := by decide +kernel
theorem dL_law_515 : decode cL_law 515 = .ok (.goto 4, 3) := by decide +kernel
theorem dL_law_518 : decode cL_law 518 = .ok (.iconst 0, 1) := by decide +kernel
theorem dL_law_519 : decode cL_law 519 = .ok (.invokevirtual 70, 3) := by decide +kernel
theorem dL_law_522 : decode cL_law 522 = .ok (.lcmp, 1) := by decide +kernel
theorem dL_law_523 : decode cL_law 523 = .ok (.ifCond .eq 239, 3) := by decide +kernel
theorem dL_law_526 : decode cL_law 526 = .ok (.iconst 0, 1) := by decide +kernel
theorem dL_law_527 : decode cL_law 527 = .ok (.ireturn, 1) := by decide +kernel
theorem dL_law_528 : decode cL_law 528 = .ok (.aload_n 1, 1) := by decide +kernel
theorem dL_law_529 : decode cL_law 529 = .ok (.aload_n 0, 1) := by decide +kernel
theorem dL_law_530 : decode cL_law 530 = .ok (.iload_n 3, 1) := by decide +kernel
theorem dL_law_531 : decode cL_law 531 = .ok (.iconst 1, 1) := by decide +kernel
theorem dL_law_532 : decode cL_law 532 = .ok (.iadd, 1) := by decide +kernel
theorem dL_law_533 : decode cL_law 533 = .ok (.iaload, 1) := by decide +kernel
theorem dL_law_534 : decode cL_law 534 = .ok (.aload_n 0, 1) := by decide +kernel
theorem dL_law_535 : decode cL_law 535 = .ok (.iload_n 3, 1) := by decide +kernel
theorem dL_law_536 : decode cL_law 536 = .ok (.iconst 2, 1) := by decide +kernel
theorem dL_law_537 : decode cL_law 537 = .ok (.iadd, 1) := by decide +kernel
theorem dL_law_538 : decode cL_law 538 = .ok (.iaload, 1) := by decide +kernel
theorem dL_law_539 : decode cL_law 539 = .ok (.aload_n 0, 1) := by decide +kernel
theorem dL_law_540 : decode cL_law 540 = .ok (.iload_n 3, 1) := by decide +kernel
theorem dL_law_541 : decode cL_law 541 = .ok (.iconst 3, 1) := by decide +kernel
theorem dL_law_542 : decode cL_law 542 = .ok (.iadd, 1) := by decide +kernel
theorem dL_law_543 : decode cL_law 543 = .ok (.iaload, 1) := by decide +kernel
theorem dL_law_544 : decode cL_law 544 = .ok (.aload_n 0, 1) := by decide +kernel
theorem dL_law_545 : decode cL_law 545 = .ok (.iload_n 3, 1) := by decide +kernel
theorem dL_law_546 : decode cL_law 546 = .ok (.iconst 4, 1) := by decide +kernel
theorem dL_law_547 : decode cL_law 547 = .ok (.iadd, 1) := by decide +kernel
theorem dL_law_548 : decode cL_law 548 = .ok (.iaload, 1) := by decide +kernel
theorem dL_law_549 : decode cL_law 549 = .ok (.ifCond .eq 7, 3) := by decide +kernel
theorem dL_law_552 : decode cL_law 552 = .ok (.iconst 1, 1) := by decide +kernel
theorem dL_law_553 : decode cL_law 553 = .ok (.goto 4, 3) := by decide +kernel
theorem dL_law_556 : decode cL_law 556 = .ok (.iconst 0, 1) := by decide +kernel
theorem dL_law_557 : decode cL_law 557 = .ok (.aload_n 0, 1) := by decide +kernel
theorem dL_law_558 : decode cL_law 558 = .ok (.iload_n 3, 1) := by decide +kernel
theorem dL_law_559 : decode cL_law 559 = .ok (.iconst 5, 1) := by decide +kernel
theorem dL_law_560 : decode cL_law 560 = .ok (.iadd, 1) := by decide +kernel
theorem dL_law_561 : decode cL_law 561 = .ok (.iaload, 1) := by decide +kernel
theorem dL_law_562 : decode cL_law 562 = .ok (.invokevirtual 71, 3) := by decide +kernel
theorem dL_law_565 : decode cL_law 565 = .ok (.aload_n 2, 1) := by decide +kernel
theorem dL_law_566 : decode cL_law 566 = .ok (.aload_n 0, 1) := by decide +kernel
theorem dL_law_567 : decode cL_law 567 = .ok (.iload_n 3, 1) := by decide +kernel
theorem dL_law_568 : decode cL_law 568 = .ok (.iconst 1, 1) := by decide +kernel
theorem dL_law_569 : decode cL_law 569 = .ok (.iadd, 1) := by decide +kernel
theorem dL_law_570 : decode cL_law 570 = .ok (.iaload, 1) := by decide +kernel
theorem dL_law_571 : decode cL_law 571 = .ok (.aload_n 0, 1) := by decide +kernel
theorem dL_law_572 : decode cL_law 572 = .ok (.iload_n 3, 1) := by decide +kernel
theorem dL_law_573 : decode cL_law 573 = .ok (.iconst 2, 1) := by decide +kernel
theorem dL_law_574 : decode cL_law 574 = .ok (.iadd, 1) := by decide +kernel
theorem dL_law_575 : decode cL_law 575 = .ok (.iaload, 1) := by decide +kernel
theorem dL_law_576 : decode cL_law 576 = .ok (.aload_n 0, 1) := by decide +kernel
theorem dL_law_577 : decode cL_law 577 = .ok (.iload_n 3, 1) := by decide +kernel
theorem dL_law_578 : decode cL_law 578 = .ok (.iconst 3, 1) := by decide +kernel
theorem dL_law_579 : decode cL_law 579 = .ok (.iadd, 1) := by decide +kernel
theorem dL_law_580 : decode cL_law 580 = .ok (.iaload, 1) := by decide +kernel
theorem dL_law_581 : decode cL_law 581 = .ok (.aload_n 0, 1) := by decide +kernel
theorem dL_law_582 : decode cL_law 582 = .ok (.iload_n 3, 1) := by decide +kernel
theorem dL_law_583 : decode cL_law 583 = .ok (.iconst 4, 1) := by decide +kernel
theorem dL_law_584 : decode cL_law 584 = .ok (.iadd, 1) := by decide +kernel
theorem dL_law_585 : decode cL_law 585 = .ok (.iaload, 1) := by decide +kernel
theorem dL_law_586 : decode cL_law 586 = .ok (.ifCond .eq 7, 3) := by decide +kernel
theorem dL_law_589 : decode cL_law 589 = .ok (.iconst 1, 1) := by decide +kernel
theorem dL_law_590 : decode cL_law 590 = .ok (.goto 4, 3) := by decide +kernel
theorem dL_law_593 : decode cL_law 593 = .ok (.iconst 0, 1) := by decide +kernel
theorem dL_law_594 : decode cL_law 594 = .ok (.aload_n 0, 1) := by decide +kernel
theorem dL_law_595 : decode cL_law 595 = .ok (.iload_n 3, 1) := by decide +kernel
theorem dL_law_596 : decode cL_law 596 = .ok (.iconst 5, 1) := by decide +kernel
theorem dL_law_597 : decode cL_law 597 = .ok (.iadd, 1) := by decide +kernel
theorem dL_law_598 : decode cL_law 598 = .ok (.iaload, 1) := by decide +kernel
theorem dL_law_599 : decode cL_law 599 = .ok (.invokevirtual 75, 3) := by decide +kernel
theorem dL_law_602 : decode cL_law 602 = .ok (.if_icmp .eq 160, 3) := by decide +kernel
theorem dL_law_605 : decode cL_law 605 = .ok (.iconst 0, 1) := by decide +kernel
theorem dL_law_606 : decode cL_law 606 = .ok (.ireturn, 1) := by decide +kernel
theorem dL_law_607 : decode cL_law 607 = .ok (.aload_n 1, 1) := by decide +kernel
theorem dL_law_608 : decode cL_law 608 = .ok (.aload_n 0, 1) := by decide +kernel
theorem dL_law_609 : decode cL_law 609 = .ok (.iload_n 3, 1) := by decide +kernel
theorem dL_law_610 : decode cL_law 610 = .ok (.iconst 1, 1) := by decide +kernel
theorem dL_law_611 : decode cL_law 611 = .ok (.iadd, 1) := by decide +kernel
theorem dL_law_612 : decode cL_law 612 = .ok (.iaload, 1) := by decide +kernel
theorem dL_law_613 : decode cL_law 613 = .ok (.aload_n 0, 1) := by decide +kernel
theorem dL_law_614 : decode cL_law 614 = .ok (.iload_n 3, 1) := by decide +kernel
theorem dL_law_615 : decode cL_law 615 = .ok (.iconst 2, 1) := by decide +kernel
theorem dL_law_616 : decode cL_law 616 = .ok (.iadd, 1) := by decide +kernel
theorem dL_law_617 : decode cL_law 617 = .ok (.iaload, 1) := by decide +kernel
theorem dL_law_618 : decode cL_law 618 = .ok (.aload_n 0, 1) := by decide +kernel
theorem dL_law_619 : decode cL_law 619 = .ok (.iload_n 3, 1) := by decide +kernel
theorem dL_law_620 : decode cL_law 620 = .ok (.iconst 3, 1) := by decide +kernel
theorem dL_law_621 : decode cL_law 621 = .ok (.iadd, 1) := by decide +kernel
theorem dL_law_622 : decode cL_law 622 = .ok (.iaload, 1) := by decide +kernel
theorem dL_law_623 : decode cL_law 623 = .ok (.ifCond .eq 7, 3) := by decide +kernel
theorem dL_law_626 : decode cL_law 626 = .ok (.iconst 1, 1) := by decide +kernel
theorem dL_law_627 : decode cL_law 627 = .ok (.goto 4, 3) := by decide +kernel
theorem dL_law_630 : decode cL_law 630 = .ok (.iconst 0, 1) := by decide +kernel
theorem dL_law_631 : decode cL_law 631 = .ok (.invokevirtual 76, 3) := by decide +kernel
theorem dL_law_634 : decode cL_law 634 = .ok (.aload_n 2, 1) := by decide +kernel
theorem dL_law_635 : decode cL_law 635 = .ok (.aload_n 0, 1) := by decide +kernel
theorem dL_law_636 : decode cL_law 636 = .ok (.iload_n 3, 1) := by decide +kernel
theorem dL_law_637 : decode cL_law 637 = .ok (.iconst 1, 1) := by decide +kernel
theorem dL_law_638 : decode cL_law 638 = .ok (.iadd, 1) := by decide +kernel
theorem dL_law_639 : decode cL_law 639 = .ok (.iaload, 1) := by decide +kernel
theorem dL_law_640 : decode cL_law 640 = .ok (.aload_n 0, 1) := by decide +kernel
theorem dL_law_641 : decode cL_law 641 = .ok (.iload_n 3, 1) := by decide +kernel
theorem dL_law_642 : decode cL_law 642 = .ok (.iconst 2, 1) := by decide +kernel
theorem dL_law_643 : decode cL_law 643 = .ok (.iadd, 1) := by decide +kernel
theorem dL_law_644 : decode cL_law 644 = .ok (.iaload, 1) := by decide +kernel
theorem dL_law_645 : decode cL_law 645 = .ok (.aload_n 0, 1) := by decide +kernel
theorem dL_law_646 : decode cL_law 646 = .ok (.iload_n 3, 1) := by decide +kernel
theorem dL_law_647 : decode cL_law 647 = .ok (.iconst 3, 1) := by decide +kernel
theorem dL_law_648 : decode cL_law 648 = .ok (.iadd, 1) := by decide +kernel
theorem dL_law_649 : decode cL_law 649 = .ok (.iaload, 1) := by decide +kernel
theorem dL_law_650 : decode cL_law 650 = .ok (.ifCond .eq 7, 3) := by decide +kernel
theorem dL_law_653 : decode cL_law 653 = .ok (.iconst 1, 1) := by decide +kernel
theorem dL_law_654 : decode cL_law 654 = .ok (.goto 4, 3) := by decide +kernel
theorem dL_law_657 : decode cL_law 657 = .ok (.iconst 0, 1) := by decide +kernel
theorem dL_law_658 : decode cL_law 658 = .ok (.invokevirtual 80, 3) := by decide +kernel
theorem dL_law_661 : decode cL_law 661 = .ok (.if_icmp .eq 101, 3) := by decide +kernel
theorem dL_law_664 : decode cL_law 664 = .ok (.iconst 0, 1) := by decide +kernel
theorem dL_law_665 : decode cL_law 665 = .ok (.ireturn, 1) := by decide +kernel
theorem dL_law_666 : decode cL_law 666 = .ok (.aload_n 1, 1) := by decide +kernel
theorem dL_law_667 : decode cL_law 667 = .ok (.aload_n 0, 1) := by decide +kernel
theorem dL_law_668 : decode cL_law 668 = .ok (.iload_n 3, 1) := by decide +kernel
theorem dL_law_669 : decode cL_law 669 = .ok (.iconst 1, 1) := by decide +kernel
theorem dL_law_670 : decode cL_law 670 = .ok (.iadd, 1) := by decide +kernel
theorem dL_law_671 : decode cL_law 671 = .ok (.iaload, 1) := by decide +kernel
theorem dL_law_672 : decode cL_law 672 = .ok (.aload_n 0, 1) := by decide +kernel
theorem dL_law_673 : decode cL_law 673 = .ok (.iload_n 3, 1) := by decide +kernel
theorem dL_law_674 : decode cL_law 674 = .ok (.iconst 2, 1) := by decide +kernel
theorem dL_law_675 : decode cL_law 675 = .ok (.iadd, 1) := by decide +kernel
theorem dL_law_676 : decode cL_law 676 = .ok (.iaload, 1) := by decide +kernel
theorem dL_law_677 : decode cL_law 677 = .ok (.aload_n 0, 1) := by decide +kernel
theorem dL_law_678 : decode cL_law 678 = .ok (.iload_n 3, 1) := by decide +kernel
theorem dL_law_679 : decode cL_law 679 = .ok (.iconst 3, 1) := by decide +kernel
theorem dL_law_680 : decode cL_law 680 = .ok (.iadd, 1) := by decide +kernel
theorem dL_law_681 : decode cL_law 681 = .ok (.iaload, 1) := by decide +kernel
theorem dL_law_682 : decode cL_law 682 = .ok (.ifCond .eq 7, 3) := by decide +kernel
theorem dL_law_685 : decode cL_law 685 = .ok (.iconst 1, 1) := by decide +kernel
theorem dL_law_686 : decode cL_law 686 = .ok (.goto 4, 3) := by decide +kernel
theorem dL_law_689 : decode cL_law 689 = .ok (.iconst 0, 1) := by decide +kernel
theorem dL_law_690 : decode cL_law 690 = .ok (.invokevirtual 81, 3) := by decide +kernel
theorem dL_law_693 : decode cL_law 693 = .ok (.aload_n 2, 1) := by decide +kernel
theorem dL_law_694 : decode cL_law 694 = .ok (.aload_n 0, 1) := by decide +kernel
theorem dL_law_695 : decode cL_law 695 = .ok (.iload_n 3, 1) := by decide +kernel
theorem dL_law_696 : decode cL_law 696 = .ok (.iconst 1, 1) := by decide +kernel
theorem dL_law_697 : decode cL_law 697 = .ok (.iadd, 1) := by decide +kernel
theorem dL_law_698 : decode cL_law 698 = .ok (.iaload, 1) := by decide +kernel
theorem dL_law_699 : decode cL_law 699 = .ok (.aload_n 0, 1) := by decide +kernel
theorem dL_law_700 : decode cL_law 700 = .ok (.iload_n 3, 1) := by decide +kernel
theorem dL_law_701 : decode cL_law 701 = .ok (.iconst 2, 1) := by decide +kernel
theorem dL_law_702 : decode cL_law 702 = .ok (.iadd, 1) := by decide +kernel
theorem dL_law_703 : decode cL_law 703 = .ok (.iaload, 1) := by decide +kernel
theorem dL_law_704 : decode cL_law 704 = .ok (.aload_n 0, 1) := by decide +kernel
theorem dL_law_705 : decode cL_law 705 = .ok (.iload_n 3, 1) := by decide +kernel
theorem dL_law_706 : decode cL_law 706 = .ok (.iconst 3, 1) := by decide +kernel
theorem dL_law_707 : decode cL_law 707 = .ok (.iadd, 1) := by decide +kernel
theorem dL_law_708 : decode cL_law 708 = .ok (.iaload, 1) := by decide +kernel
theorem dL_law_709 : decode cL_law 709 = .ok (.ifCond .eq 7, 3) := by decide +kernel
theorem dL_law_712 : decode cL_law 712 = .ok (.iconst 1, 1) := by decide +kernel
theorem dL_law_713 : decode cL_law 713 = .ok (.goto 4, 3) := by decide +kernel
theorem dL_law_716 : decode cL_law 716 = .ok (.iconst 0, 1) := by decide +kernel
theorem dL_law_717 : decode cL_law 717 = .ok (.invokevirtual 84, 3) := by decide +kernel
theorem dL_law_720 : decode cL_law 720 = .ok (.if_icmp .eq 42, 3) := by decide +kernel
theorem dL_law_723 : decode cL_law 723 = .ok (.iconst 0, 1) := by decide +kernel
theorem dL_law_724 : decode cL_law 724 = .ok (.ireturn, 1) := by decide +kernel
theorem dL_law_725 : decode cL_law 725 = .ok (.aload_n 1, 1) := by decide +kernel
theorem dL_law_726 : decode cL_law 726 = .ok (.aload_n 0, 1) := by decide +kernel
theorem dL_law_727 : decode cL_law 727 = .ok (.iload_n 3, 1) := by decide +kernel
theorem dL_law_728 : decode cL_law 728 = .ok (.iconst 1, 1) := by decide +kernel
theorem dL_law_729 : decode cL_law 729 = .ok (.iadd, 1) := by decide +kernel
theorem dL_law_730 : decode cL_law 730 = .ok (.iaload, 1) := by decide +kernel
theorem dL_law_731 : decode cL_law 731 = .ok (.invokevirtual 85, 3) := by decide +kernel
theorem dL_law_734 : decode cL_law 734 = .ok (.aload_n 2, 1) := by decide +kernel
theorem dL_law_735 : decode cL_law 735 = .ok (.aload_n 0, 1) := by decide +kernel
theorem dL_law_736 : decode cL_law 736 = .ok (.iload_n 3, 1) := by decide +kernel
theorem dL_law_737 : decode cL_law 737 = .ok (.iconst 1, 1) := by decide +kernel
theorem dL_law_738 : decode cL_law 738 = .ok (.iadd, 1) := by decide +kernel
theorem dL_law_739 : decode cL_law 739 = .ok (.iaload, 1) := by decide +kernel
theorem dL_law_740 : decode cL_law 740 = .ok (.invokevirtual 88, 3) := by decide +kernel
theorem dL_law_743 : decode cL_law 743 = .ok (.if_icmp .eq 19, 3) := by decide +kernel
theorem dL_law_746 : decode cL_law 746 = .ok (.iconst 0, 1) := by decide +kernel
theorem dL_law_747 : decode cL_law 747 = .ok (.ireturn, 1) := by decide +kernel
theorem dL_law_748 : decode cL_law 748 = .ok (.aload_n 1, 1) := by decide +kernel
theorem dL_law_749 : decode cL_law 749 = .ok (.invokevirtual 89, 3) := by decide +kernel
theorem dL_law_752 : decode cL_law 752 = .ok (.aload_n 2, 1) := by decide +kernel
theorem dL_law_753 : decode cL_law 753 = .ok (.invokevirtual 93, 3) := by decide +kernel
theorem dL_law_756 : decode cL_law 756 = .ok (.lcmp, 1) := by decide +kernel
theorem dL_law_757 : decode cL_law 757 = .ok (.ifCond .eq 5, 3) := by decide +kernel
theorem dL_law_760 : decode cL_law 760 = .ok (.iconst 0, 1) := by decide +kernel
theorem dL_law_761 : decode cL_law 761 = .ok (.ireturn, 1) := by decide +kernel
theorem dL_law_762 : decode cL_law 762 = .ok (.iinc 3 6, 3) := by decide +kernel
theorem dL_law_765 : decode cL_law 765 = .ok (.goto (-747), 3) := by decide +kernel
theorem dL_law_768 : decode cL_law 768 = .ok (.iconst 1, 1) := by decide +kernel
theorem dL_law_769 : decode cL_law 769 = .ok (.ireturn, 1) := by decide +kernel
abbrev vwCl : List vw_C := [(RX0, TX0, 1), (RX1, TX1, 7), (RX2, TX2, 8), (RX3, TX3, 5), (RX4, TX4, 2), (RX5, TX5, 10), (RX6, TX6, 34)]
end
