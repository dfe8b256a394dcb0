-- ===== PART A: goes FIRST, ahead of the names: the tables' words, and 'selects' of the private methods out of them =====
/-- a private method of a class that the tables say can be made, by its rows of tables_1 -/
def lw_okq (q : MethodName × Nat) : Prop := (q.1.cls ≠ "java/lang/invoke/MethodHandle" ∧ q.1.cls ≠ "java/lang/invoke/VarHandle") ∧ Cond.instantiable q.1.cls q.2 ∈ tables_1 ∧ Cond.privateMethod q.1 ∈ tables_1 ∧ Cond.instanceMethod q.1 ∈ tables_1
theorem lw_p0 : lw_okq (⟨"TableauNodes$Concepts", "find", "(III)I"⟩, 9) := ⟨⟨by decide +kernel, by decide +kernel⟩, List.mem_of_getElem? (i := 20) (by decide +kernel), List.mem_of_getElem? (i := 30) (by decide +kernel), List.mem_of_getElem? (i := 31) (by decide +kernel)⟩
theorem lw_p1 : lw_okq (⟨"TableauNodes$Concepts", "add", "(III)I"⟩, 9) := ⟨⟨by decide +kernel, by decide +kernel⟩, List.mem_of_getElem? (i := 20) (by decide +kernel), List.mem_of_getElem? (i := 34) (by decide +kernel), List.mem_of_getElem? (i := 35) (by decide +kernel)⟩
theorem lw_p2 : lw_okq (⟨"TableauNodes$Concepts", "newWord", "(IIII)J"⟩, 9) := ⟨⟨by decide +kernel, by decide +kernel⟩, List.mem_of_getElem? (i := 20) (by decide +kernel), List.mem_of_getElem? (i := 38) (by decide +kernel), List.mem_of_getElem? (i := 39) (by decide +kernel)⟩
theorem lw_p3 : lw_okq (⟨"TableauNodes$Concepts", "addAtom", "(I)V"⟩, 9) := ⟨⟨by decide +kernel, by decide +kernel⟩, List.mem_of_getElem? (i := 20) (by decide +kernel), List.mem_of_getElem? (i := 53) (by decide +kernel), List.mem_of_getElem? (i := 54) (by decide +kernel)⟩
theorem lw_p4 : lw_okq (⟨"TableauNodes$Concepts", "noteInner", "(II)V"⟩, 9) := ⟨⟨by decide +kernel, by decide +kernel⟩, List.mem_of_getElem? (i := 20) (by decide +kernel), List.mem_of_getElem? (i := 57) (by decide +kernel), List.mem_of_getElem? (i := 58) (by decide +kernel)⟩
theorem lw_p5 : lw_okq (⟨"TableauNodes$Roles", "close", "()V"⟩, 2) := ⟨⟨by decide +kernel, by decide +kernel⟩, List.mem_of_getElem? (i := 94) (by decide +kernel), List.mem_of_getElem? (i := 100) (by decide +kernel), List.mem_of_getElem? (i := 101) (by decide +kernel)⟩
theorem lw_p6 : lw_okq (⟨"TableauNodes$Things", "clear", "()V"⟩, 15) := ⟨⟨by decide +kernel, by decide +kernel⟩, List.mem_of_getElem? (i := 164) (by decide +kernel), List.mem_of_getElem? (i := 170) (by decide +kernel), List.mem_of_getElem? (i := 171) (by decide +kernel)⟩
theorem lw_p7 : lw_okq (⟨"TableauNodes$GoodTypes", "sortSomes", "()V"⟩, 15) := ⟨⟨by decide +kernel, by decide +kernel⟩, List.mem_of_getElem? (i := 112) (by decide +kernel), List.mem_of_getElem? (i := 317) (by decide +kernel), List.mem_of_getElem? (i := 318) (by decide +kernel)⟩
theorem lw_p8 : lw_okq (⟨"TableauNodes$GoodTypes", "begin", "()V"⟩, 15) := ⟨⟨by decide +kernel, by decide +kernel⟩, List.mem_of_getElem? (i := 112) (by decide +kernel), List.mem_of_getElem? (i := 335) (by decide +kernel), List.mem_of_getElem? (i := 336) (by decide +kernel)⟩
theorem lw_p9 : lw_okq (⟨"TableauNodes$GoodTypes", "keptByAxioms", "(JI)J"⟩, 15) := ⟨⟨by decide +kernel, by decide +kernel⟩, List.mem_of_getElem? (i := 112) (by decide +kernel), List.mem_of_getElem? (i := 351) (by decide +kernel), List.mem_of_getElem? (i := 352) (by decide +kernel)⟩
theorem lw_p10 : lw_okq (⟨"TableauNodes$GoodTypes", "isThere", "(I)Z"⟩, 15) := ⟨⟨by decide +kernel, by decide +kernel⟩, List.mem_of_getElem? (i := 112) (by decide +kernel), List.mem_of_getElem? (i := 358) (by decide +kernel), List.mem_of_getElem? (i := 359) (by decide +kernel)⟩
theorem lw_p11 : lw_okq (⟨"TableauNodes$GoodTypes", "makeRound", "(I)Z"⟩, 15) := ⟨⟨by decide +kernel, by decide +kernel⟩, List.mem_of_getElem? (i := 112) (by decide +kernel), List.mem_of_getElem? (i := 363) (by decide +kernel), List.mem_of_getElem? (i := 364) (by decide +kernel)⟩
theorem lw_p12 : lw_okq (⟨"TableauNodes$GoodTypes", "markUnserved", "(I)V"⟩, 15) := ⟨⟨by decide +kernel, by decide +kernel⟩, List.mem_of_getElem? (i := 112) (by decide +kernel), List.mem_of_getElem? (i := 367) (by decide +kernel), List.mem_of_getElem? (i := 368) (by decide +kernel)⟩
theorem lw_p13 : lw_okq (⟨"TableauNodes$GoodTypes", "findServed", "(I)V"⟩, 15) := ⟨⟨by decide +kernel, by decide +kernel⟩, List.mem_of_getElem? (i := 112) (by decide +kernel), List.mem_of_getElem? (i := 371) (by decide +kernel), List.mem_of_getElem? (i := 372) (by decide +kernel)⟩
theorem lw_p14 : lw_okq (⟨"TableauNodes$GoodTypes", "spreadServed", "(III)V"⟩, 15) := ⟨⟨by decide +kernel, by decide +kernel⟩, List.mem_of_getElem? (i := 112) (by decide +kernel), List.mem_of_getElem? (i := 385) (by decide +kernel), List.mem_of_getElem? (i := 386) (by decide +kernel)⟩
theorem lw_p15 : lw_okq (⟨"TableauNodes$GoodTypes", "takeAway", "(II)V"⟩, 15) := ⟨⟨by decide +kernel, by decide +kernel⟩, List.mem_of_getElem? (i := 112) (by decide +kernel), List.mem_of_getElem? (i := 389) (by decide +kernel), List.mem_of_getElem? (i := 390) (by decide +kernel)⟩
def lw_privs_1 : List (MethodName × Nat) := [(⟨"TableauNodes$Concepts", "find", "(III)I"⟩, 9), (⟨"TableauNodes$Concepts", "add", "(III)I"⟩, 9), (⟨"TableauNodes$Concepts", "newWord", "(IIII)J"⟩, 9), (⟨"TableauNodes$Concepts", "addAtom", "(I)V"⟩, 9), (⟨"TableauNodes$Concepts", "noteInner", "(II)V"⟩, 9), (⟨"TableauNodes$Roles", "close", "()V"⟩, 2), (⟨"TableauNodes$Things", "clear", "()V"⟩, 15), (⟨"TableauNodes$GoodTypes", "sortSomes", "()V"⟩, 15), (⟨"TableauNodes$GoodTypes", "begin", "()V"⟩, 15), (⟨"TableauNodes$GoodTypes", "keptByAxioms", "(JI)J"⟩, 15), (⟨"TableauNodes$GoodTypes", "isThere", "(I)Z"⟩, 15), (⟨"TableauNodes$GoodTypes", "makeRound", "(I)Z"⟩, 15), (⟨"TableauNodes$GoodTypes", "markUnserved", "(I)V"⟩, 15), (⟨"TableauNodes$GoodTypes", "findServed", "(I)V"⟩, 15), (⟨"TableauNodes$GoodTypes", "spreadServed", "(III)V"⟩, 15), (⟨"TableauNodes$GoodTypes", "takeAway", "(II)V"⟩, 15)]
theorem lw_r1 : ∀ q ∈ lw_privs_1, lw_okq q := List.forall_mem_cons.mpr ⟨lw_p0, List.forall_mem_cons.mpr ⟨lw_p1, List.forall_mem_cons.mpr ⟨lw_p2, List.forall_mem_cons.mpr ⟨lw_p3, List.forall_mem_cons.mpr ⟨lw_p4, List.forall_mem_cons.mpr ⟨lw_p5, List.forall_mem_cons.mpr ⟨lw_p6, List.forall_mem_cons.mpr ⟨lw_p7, List.forall_mem_cons.mpr ⟨lw_p8, List.forall_mem_cons.mpr ⟨lw_p9, List.forall_mem_cons.mpr ⟨lw_p10, List.forall_mem_cons.mpr ⟨lw_p11, List.forall_mem_cons.mpr ⟨lw_p12, List.forall_mem_cons.mpr ⟨lw_p13, List.forall_mem_cons.mpr ⟨lw_p14, List.forall_mem_cons.mpr ⟨lw_p15, fun _ h => absurd h List.not_mem_nil⟩⟩⟩⟩⟩⟩⟩⟩⟩⟩⟩⟩⟩⟩⟩⟩
theorem lw_p16 : lw_okq (⟨"TableauNodes$Things", "sortLinks", "()V"⟩, 15) := ⟨⟨by decide +kernel, by decide +kernel⟩, List.mem_of_getElem? (i := 164) (by decide +kernel), List.mem_of_getElem? (i := 479) (by decide +kernel), List.mem_of_getElem? (i := 480) (by decide +kernel)⟩
theorem lw_p17 : lw_okq (⟨"TableauNodes$Things", "begin", "()V"⟩, 15) := ⟨⟨by decide +kernel, by decide +kernel⟩, List.mem_of_getElem? (i := 164) (by decide +kernel), List.mem_of_getElem? (i := 488) (by decide +kernel), List.mem_of_getElem? (i := 489) (by decide +kernel)⟩
theorem lw_p18 : lw_okq (⟨"TableauNodes$Things", "seeingThemselves", "(JII)J"⟩, 15) := ⟨⟨by decide +kernel, by decide +kernel⟩, List.mem_of_getElem? (i := 164) (by decide +kernel), List.mem_of_getElem? (i := 500) (by decide +kernel), List.mem_of_getElem? (i := 501) (by decide +kernel)⟩
theorem lw_p19 : lw_okq (⟨"TableauNodes$Things", "canExtend", "(II)Z"⟩, 15) := ⟨⟨by decide +kernel, by decide +kernel⟩, List.mem_of_getElem? (i := 164) (by decide +kernel), List.mem_of_getElem? (i := 509) (by decide +kernel), List.mem_of_getElem? (i := 510) (by decide +kernel)⟩
theorem lw_p20 : lw_okq (⟨"TableauNodes$Things", "mostBound", "(II)I"⟩, 15) := ⟨⟨by decide +kernel, by decide +kernel⟩, List.mem_of_getElem? (i := 164) (by decide +kernel), List.mem_of_getElem? (i := 514) (by decide +kernel), List.mem_of_getElem? (i := 515) (by decide +kernel)⟩
theorem lw_p21 : lw_okq (⟨"TableauNodes$Things", "countLeft", "(II)I"⟩, 15) := ⟨⟨by decide +kernel, by decide +kernel⟩, List.mem_of_getElem? (i := 164) (by decide +kernel), List.mem_of_getElem? (i := 518) (by decide +kernel), List.mem_of_getElem? (i := 519) (by decide +kernel)⟩
theorem lw_p22 : lw_okq (⟨"TableauNodes$Things", "findDemands", "(III)I"⟩, 15) := ⟨⟨by decide +kernel, by decide +kernel⟩, List.mem_of_getElem? (i := 164) (by decide +kernel), List.mem_of_getElem? (i := 523) (by decide +kernel), List.mem_of_getElem? (i := 524) (by decide +kernel)⟩
theorem lw_p23 : lw_okq (⟨"TableauNodes$Things", "addDemand", "(III)I"⟩, 15) := ⟨⟨by decide +kernel, by decide +kernel⟩, List.mem_of_getElem? (i := 164) (by decide +kernel), List.mem_of_getElem? (i := 529) (by decide +kernel), List.mem_of_getElem? (i := 530) (by decide +kernel)⟩
theorem lw_p24 : lw_okq (⟨"TableauNodes$Things", "passOn", "(IIII)Z"⟩, 15) := ⟨⟨by decide +kernel, by decide +kernel⟩, List.mem_of_getElem? (i := 164) (by decide +kernel), List.mem_of_getElem? (i := 533) (by decide +kernel), List.mem_of_getElem? (i := 534) (by decide +kernel)⟩
theorem lw_p25 : lw_okq (⟨"TableauNodes$Things", "fitting", "(JIII)J"⟩, 15) := ⟨⟨by decide +kernel, by decide +kernel⟩, List.mem_of_getElem? (i := 164) (by decide +kernel), List.mem_of_getElem? (i := 537) (by decide +kernel), List.mem_of_getElem? (i := 538) (by decide +kernel)⟩
theorem lw_p26 : lw_okq (⟨"TableauNodes$Things", "leaveFirst", "(I)Z"⟩, 15) := ⟨⟨by decide +kernel, by decide +kernel⟩, List.mem_of_getElem? (i := 164) (by decide +kernel), List.mem_of_getElem? (i := 541) (by decide +kernel), List.mem_of_getElem? (i := 542) (by decide +kernel)⟩
theorem lw_p27 : lw_okq (⟨"TableauNodes$Things", "firstLeft", "(I)I"⟩, 15) := ⟨⟨by decide +kernel, by decide +kernel⟩, List.mem_of_getElem? (i := 164) (by decide +kernel), List.mem_of_getElem? (i := 545) (by decide +kernel), List.mem_of_getElem? (i := 546) (by decide +kernel)⟩
theorem lw_p28 : lw_okq (⟨"TableauNodes$Things", "keepSpare", "(I)V"⟩, 15) := ⟨⟨by decide +kernel, by decide +kernel⟩, List.mem_of_getElem? (i := 164) (by decide +kernel), List.mem_of_getElem? (i := 549) (by decide +kernel), List.mem_of_getElem? (i := 550) (by decide +kernel)⟩
theorem lw_p29 : lw_okq (⟨"TableauNodes$Things", "takeSpare", "(I)V"⟩, 15) := ⟨⟨by decide +kernel, by decide +kernel⟩, List.mem_of_getElem? (i := 164) (by decide +kernel), List.mem_of_getElem? (i := 556) (by decide +kernel), List.mem_of_getElem? (i := 557) (by decide +kernel)⟩
theorem lw_p30 : lw_okq (⟨"TableauNodes$Things", "leaveLeast", "(I)V"⟩, 15) := ⟨⟨by decide +kernel, by decide +kernel⟩, List.mem_of_getElem? (i := 164) (by decide +kernel), List.mem_of_getElem? (i := 560) (by decide +kernel), List.mem_of_getElem? (i := 561) (by decide +kernel)⟩
theorem lw_p31 : lw_okq (⟨"TableauNodes$Things", "leaveHalf", "(IIZ)V"⟩, 15) := ⟨⟨by decide +kernel, by decide +kernel⟩, List.mem_of_getElem? (i := 164) (by decide +kernel), List.mem_of_getElem? (i := 565) (by decide +kernel), List.mem_of_getElem? (i := 566) (by decide +kernel)⟩
def lw_privs_2 : List (MethodName × Nat) := [(⟨"TableauNodes$Things", "sortLinks", "()V"⟩, 15), (⟨"TableauNodes$Things", "begin", "()V"⟩, 15), (⟨"TableauNodes$Things", "seeingThemselves", "(JII)J"⟩, 15), (⟨"TableauNodes$Things", "canExtend", "(II)Z"⟩, 15), (⟨"TableauNodes$Things", "mostBound", "(II)I"⟩, 15), (⟨"TableauNodes$Things", "countLeft", "(II)I"⟩, 15), (⟨"TableauNodes$Things", "findDemands", "(III)I"⟩, 15), (⟨"TableauNodes$Things", "addDemand", "(III)I"⟩, 15), (⟨"TableauNodes$Things", "passOn", "(IIII)Z"⟩, 15), (⟨"TableauNodes$Things", "fitting", "(JIII)J"⟩, 15), (⟨"TableauNodes$Things", "leaveFirst", "(I)Z"⟩, 15), (⟨"TableauNodes$Things", "firstLeft", "(I)I"⟩, 15), (⟨"TableauNodes$Things", "keepSpare", "(I)V"⟩, 15), (⟨"TableauNodes$Things", "takeSpare", "(I)V"⟩, 15), (⟨"TableauNodes$Things", "leaveLeast", "(I)V"⟩, 15), (⟨"TableauNodes$Things", "leaveHalf", "(IIZ)V"⟩, 15)]
theorem lw_r2 : ∀ q ∈ lw_privs_2, lw_okq q := List.forall_mem_cons.mpr ⟨lw_p16, List.forall_mem_cons.mpr ⟨lw_p17, List.forall_mem_cons.mpr ⟨lw_p18, List.forall_mem_cons.mpr ⟨lw_p19, List.forall_mem_cons.mpr ⟨lw_p20, List.forall_mem_cons.mpr ⟨lw_p21, List.forall_mem_cons.mpr ⟨lw_p22, List.forall_mem_cons.mpr ⟨lw_p23, List.forall_mem_cons.mpr ⟨lw_p24, List.forall_mem_cons.mpr ⟨lw_p25, List.forall_mem_cons.mpr ⟨lw_p26, List.forall_mem_cons.mpr ⟨lw_p27, List.forall_mem_cons.mpr ⟨lw_p28, List.forall_mem_cons.mpr ⟨lw_p29, List.forall_mem_cons.mpr ⟨lw_p30, List.forall_mem_cons.mpr ⟨lw_p31, fun _ h => absurd h List.not_mem_nil⟩⟩⟩⟩⟩⟩⟩⟩⟩⟩⟩⟩⟩⟩⟩⟩
theorem lw_p32 : lw_okq (⟨"TableauNodesModel", "make", "(III)I"⟩, 25) := ⟨⟨by decide +kernel, by decide +kernel⟩, List.mem_of_getElem? (i := 593) (by decide +kernel), List.mem_of_getElem? (i := 681) (by decide +kernel), List.mem_of_getElem? (i := 682) (by decide +kernel)⟩
theorem lw_p33 : lw_okq (⟨"TableauNodesModel", "find", "(III)I"⟩, 25) := ⟨⟨by decide +kernel, by decide +kernel⟩, List.mem_of_getElem? (i := 593) (by decide +kernel), List.mem_of_getElem? (i := 685) (by decide +kernel), List.mem_of_getElem? (i := 686) (by decide +kernel)⟩
theorem lw_p34 : lw_okq (⟨"TableauNodesModel", "isConcept", "(I)Z"⟩, 25) := ⟨⟨by decide +kernel, by decide +kernel⟩, List.mem_of_getElem? (i := 593) (by decide +kernel), List.mem_of_getElem? (i := 693) (by decide +kernel), List.mem_of_getElem? (i := 694) (by decide +kernel)⟩
theorem lw_p35 : lw_okq (⟨"TableauNodesModel", "work", "()V"⟩, 25) := ⟨⟨by decide +kernel, by decide +kernel⟩, List.mem_of_getElem? (i := 593) (by decide +kernel), List.mem_of_getElem? (i := 728) (by decide +kernel), List.mem_of_getElem? (i := 729) (by decide +kernel)⟩
theorem lw_p36 : lw_okq (⟨"TableauNodesModel", "size", "()I"⟩, 25) := ⟨⟨by decide +kernel, by decide +kernel⟩, List.mem_of_getElem? (i := 593) (by decide +kernel), List.mem_of_getElem? (i := 732) (by decide +kernel), List.mem_of_getElem? (i := 733) (by decide +kernel)⟩
theorem lw_p37 : lw_okq (⟨"TableauNodesModel", "weigh", "(II)Z"⟩, 25) := ⟨⟨by decide +kernel, by decide +kernel⟩, List.mem_of_getElem? (i := 593) (by decide +kernel), List.mem_of_getElem? (i := 736) (by decide +kernel), List.mem_of_getElem? (i := 737) (by decide +kernel)⟩
theorem lw_p38 : lw_okq (⟨"TableauNodesModel", "atomOf", "(I)I"⟩, 25) := ⟨⟨by decide +kernel, by decide +kernel⟩, List.mem_of_getElem? (i := 593) (by decide +kernel), List.mem_of_getElem? (i := 740) (by decide +kernel), List.mem_of_getElem? (i := 741) (by decide +kernel)⟩
theorem lw_p39 : lw_okq (⟨"TableauNodesModel", "isHeld", "(II)Z"⟩, 25) := ⟨⟨by decide +kernel, by decide +kernel⟩, List.mem_of_getElem? (i := 593) (by decide +kernel), List.mem_of_getElem? (i := 744) (by decide +kernel), List.mem_of_getElem? (i := 745) (by decide +kernel)⟩
theorem lw_p40 : lw_okq (⟨"TableauNodesModel", "turn", "(I)Z"⟩, 25) := ⟨⟨by decide +kernel, by decide +kernel⟩, List.mem_of_getElem? (i := 593) (by decide +kernel), List.mem_of_getElem? (i := 748) (by decide +kernel), List.mem_of_getElem? (i := 749) (by decide +kernel)⟩
theorem lw_p41 : lw_okq (⟨"TableauNodesModel", "forbids", "(II)I"⟩, 25) := ⟨⟨by decide +kernel, by decide +kernel⟩, List.mem_of_getElem? (i := 593) (by decide +kernel), List.mem_of_getElem? (i := 752) (by decide +kernel), List.mem_of_getElem? (i := 753) (by decide +kernel)⟩
theorem lw_p42 : lw_okq (⟨"TableauNodesModel", "isThere", "(III)Z"⟩, 25) := ⟨⟨by decide +kernel, by decide +kernel⟩, List.mem_of_getElem? (i := 593) (by decide +kernel), List.mem_of_getElem? (i := 756) (by decide +kernel), List.mem_of_getElem? (i := 757) (by decide +kernel)⟩
theorem lw_p43 : lw_okq (⟨"TableauNodesModel", "search", "(II)Z"⟩, 25) := ⟨⟨by decide +kernel, by decide +kernel⟩, List.mem_of_getElem? (i := 593) (by decide +kernel), List.mem_of_getElem? (i := 795) (by decide +kernel), List.mem_of_getElem? (i := 796) (by decide +kernel)⟩
theorem lw_p44 : lw_okq (⟨"TableauNodesModel", "isSaid", "(II)Z"⟩, 25) := ⟨⟨by decide +kernel, by decide +kernel⟩, List.mem_of_getElem? (i := 593) (by decide +kernel), List.mem_of_getElem? (i := 802) (by decide +kernel), List.mem_of_getElem? (i := 803) (by decide +kernel)⟩
theorem lw_p45 : lw_okq (⟨"TableauNodesModel", "sees", "(III)Z"⟩, 25) := ⟨⟨by decide +kernel, by decide +kernel⟩, List.mem_of_getElem? (i := 593) (by decide +kernel), List.mem_of_getElem? (i := 806) (by decide +kernel), List.mem_of_getElem? (i := 807) (by decide +kernel)⟩
theorem lw_p46 : lw_okq (⟨"TableauNodesModel", "isLeft", "(II)Z"⟩, 25) := ⟨⟨by decide +kernel, by decide +kernel⟩, List.mem_of_getElem? (i := 593) (by decide +kernel), List.mem_of_getElem? (i := 810) (by decide +kernel), List.mem_of_getElem? (i := 811) (by decide +kernel)⟩
def lw_privs_3 : List (MethodName × Nat) := [(⟨"TableauNodesModel", "make", "(III)I"⟩, 25), (⟨"TableauNodesModel", "find", "(III)I"⟩, 25), (⟨"TableauNodesModel", "isConcept", "(I)Z"⟩, 25), (⟨"TableauNodesModel", "work", "()V"⟩, 25), (⟨"TableauNodesModel", "size", "()I"⟩, 25), (⟨"TableauNodesModel", "weigh", "(II)Z"⟩, 25), (⟨"TableauNodesModel", "atomOf", "(I)I"⟩, 25), (⟨"TableauNodesModel", "isHeld", "(II)Z"⟩, 25), (⟨"TableauNodesModel", "turn", "(I)Z"⟩, 25), (⟨"TableauNodesModel", "forbids", "(II)I"⟩, 25), (⟨"TableauNodesModel", "isThere", "(III)Z"⟩, 25), (⟨"TableauNodesModel", "search", "(II)Z"⟩, 25), (⟨"TableauNodesModel", "isSaid", "(II)Z"⟩, 25), (⟨"TableauNodesModel", "sees", "(III)Z"⟩, 25), (⟨"TableauNodesModel", "isLeft", "(II)Z"⟩, 25)]
theorem lw_r3 : ∀ q ∈ lw_privs_3, lw_okq q := List.forall_mem_cons.mpr ⟨lw_p32, List.forall_mem_cons.mpr ⟨lw_p33, List.forall_mem_cons.mpr ⟨lw_p34, List.forall_mem_cons.mpr ⟨lw_p35, List.forall_mem_cons.mpr ⟨lw_p36, List.forall_mem_cons.mpr ⟨lw_p37, List.forall_mem_cons.mpr ⟨lw_p38, List.forall_mem_cons.mpr ⟨lw_p39, List.forall_mem_cons.mpr ⟨lw_p40, List.forall_mem_cons.mpr ⟨lw_p41, List.forall_mem_cons.mpr ⟨lw_p42, List.forall_mem_cons.mpr ⟨lw_p43, List.forall_mem_cons.mpr ⟨lw_p44, List.forall_mem_cons.mpr ⟨lw_p45, List.forall_mem_cons.mpr ⟨lw_p46, fun _ h => absurd h List.not_mem_nil⟩⟩⟩⟩⟩⟩⟩⟩⟩⟩⟩⟩⟩⟩⟩
def lw_privs : List (MethodName × Nat) := lw_privs_1 ++ (lw_privs_2 ++ (lw_privs_3))
def lw_tbl : List Cond := k2_sels lw_privs ++ tables_1
theorem lw_privs_ok : ∀ q ∈ lw_privs, lw_okq q := by
  show ∀ q ∈ lw_privs_1 ++ (lw_privs_2 ++ (lw_privs_3)), lw_okq q
  exact List.forall_mem_append.mpr ⟨lw_r1, List.forall_mem_append.mpr ⟨lw_r2, lw_r3⟩⟩
def F_Tn : u_T := fun k => match k with
  | 0 => ("TableauNodes", "concepts", "LTableauNodes$Concepts;", true)
  | 1 => ("TableauNodes", "roles", "LTableauNodes$Roles;", true)
  | 2 => ("TableauNodes", "goods", "LTableauNodes$GoodTypes;", true)
  | _ => ("TableauNodes", "things", "LTableauNodes$Things;", true)
def ty_Tn : Nat → FieldType := fun k => match k with
  | 0 => .object "TableauNodes$Concepts"
  | 1 => .object "TableauNodes$Roles"
  | 2 => .object "TableauNodes$GoodTypes"
  | _ => .object "TableauNodes$Things"
theorem nm_Tn : ∀ a, a < 4 → ∀ b, b < 4 → a ≠ b → (F_Tn a).2.1 ≠ (F_Tn b).2.1 := by decide +kernel
theorem tk_Tn : ∀ k, k < 4 → parseFieldDescriptor (F_Tn k).2.2.1 = some (ty_Tn k) := by decide +kernel
def F_Co : u_T := fun k => match k with
  | 0 => ("TableauNodes$Concepts", "kinds", "[I", true)
  | 1 => ("TableauNodes$Concepts", "firsts", "[I", true)
  | 2 => ("TableauNodes$Concepts", "seconds", "[I", true)
  | 3 => ("TableauNodes$Concepts", "rows", "[J", true)
  | 4 => ("TableauNodes$Concepts", "atomConcepts", "[I", true)
  | 5 => ("TableauNodes$Concepts", "innerRows", "[J", true)
  | 6 => ("TableauNodes$Concepts", "inners", "[I", true)
  | 7 => ("TableauNodes$Concepts", "count", "I", false)
  | _ => ("TableauNodes$Concepts", "atomCount", "I", false)
def ty_Co : Nat → FieldType := fun k => match k with
  | 0 => .array .int
  | 1 => .array .int
  | 2 => .array .int
  | 3 => .array .long
  | 4 => .array .int
  | 5 => .array .long
  | 6 => .array .int
  | 7 => .int
  | _ => .int
theorem nm_Co : ∀ a, a < 9 → ∀ b, b < 9 → a ≠ b → (F_Co a).2.1 ≠ (F_Co b).2.1 := by decide +kernel
theorem tk_Co : ∀ k, k < 9 → parseFieldDescriptor (F_Co k).2.2.1 = some (ty_Co k) := by decide +kernel
def F_Ro : u_T := fun k => match k with
  | 0 => ("TableauNodes$Roles", "said", "[I", true)
  | _ => ("TableauNodes$Roles", "above", "[I", true)
def ty_Ro : Nat → FieldType := fun k => match k with
  | 0 => .array .int
  | _ => .array .int
theorem nm_Ro : ∀ a, a < 2 → ∀ b, b < 2 → a ≠ b → (F_Ro a).2.1 ≠ (F_Ro b).2.1 := by decide +kernel
theorem tk_Ro : ∀ k, k < 2 → parseFieldDescriptor (F_Ro k).2.2.1 = some (ty_Ro k) := by decide +kernel
def F_Go : u_T := fun k => match k with
  | 0 => ("TableauNodes$GoodTypes", "concepts", "LTableauNodes$Concepts;", true)
  | 1 => ("TableauNodes$GoodTypes", "roles", "LTableauNodes$Roles;", true)
  | 2 => ("TableauNodes$GoodTypes", "lefts", "[I", true)
  | 3 => ("TableauNodes$GoodTypes", "rights", "[I", true)
  | 4 => ("TableauNodes$GoodTypes", "axiomCount", "I", false)
  | 5 => ("TableauNodes$GoodTypes", "own", "[I", true)
  | 6 => ("TableauNodes$GoodTypes", "watched", "[I", true)
  | 7 => ("TableauNodes$GoodTypes", "there", "[J", true)
  | 8 => ("TableauNodes$GoodTypes", "going", "[J", true)
  | 9 => ("TableauNodes$GoodTypes", "depths", "[I", true)
  | 10 => ("TableauNodes$GoodTypes", "served", "[I", true)
  | 11 => ("TableauNodes$GoodTypes", "rounds", "I", false)
  | 12 => ("TableauNodes$GoodTypes", "stale", "Z", false)
  | 13 => ("TableauNodes$GoodTypes", "atomsThen", "I", false)
  | _ => ("TableauNodes$GoodTypes", "version", "I", false)
def ty_Go : Nat → FieldType := fun k => match k with
  | 0 => .object "TableauNodes$Concepts"
  | 1 => .object "TableauNodes$Roles"
  | 2 => .array .int
  | 3 => .array .int
  | 4 => .int
  | 5 => .array .int
  | 6 => .array .int
  | 7 => .array .long
  | 8 => .array .long
  | 9 => .array .int
  | 10 => .array .int
  | 11 => .int
  | 12 => .boolean
  | 13 => .int
  | _ => .int
theorem nm_Go : ∀ a, a < 15 → ∀ b, b < 15 → a ≠ b → (F_Go a).2.1 ≠ (F_Go b).2.1 := by decide +kernel
theorem tk_Go : ∀ k, k < 15 → parseFieldDescriptor (F_Go k).2.2.1 = some (ty_Go k) := by decide +kernel
def F_Th : u_T := fun k => match k with
  | 0 => ("TableauNodes$Things", "concepts", "LTableauNodes$Concepts;", true)
  | 1 => ("TableauNodes$Things", "goods", "LTableauNodes$GoodTypes;", true)
  | 2 => ("TableauNodes$Things", "said", "[J", true)
  | 3 => ("TableauNodes$Things", "rolesOf", "[I", true)
  | 4 => ("TableauNodes$Things", "links", "[I", true)
  | 5 => ("TableauNodes$Things", "isCount", "I", false)
  | 6 => ("TableauNodes$Things", "hasCount", "I", false)
  | 7 => ("TableauNodes$Things", "left", "[J", true)
  | 8 => ("TableauNodes$Things", "demands", "[I", true)
  | 9 => ("TableauNodes$Things", "spare", "[J", true)
  | 10 => ("TableauNodes$Things", "words", "I", false)
  | 11 => ("TableauNodes$Things", "found", "[I", true)
  | 12 => ("TableauNodes$Things", "isFound", "Z", false)
  | 13 => ("TableauNodes$Things", "stale", "Z", false)
  | _ => ("TableauNodes$Things", "versionThen", "I", false)
def ty_Th : Nat → FieldType := fun k => match k with
  | 0 => .object "TableauNodes$Concepts"
  | 1 => .object "TableauNodes$GoodTypes"
  | 2 => .array .long
  | 3 => .array .int
  | 4 => .array .int
  | 5 => .int
  | 6 => .int
  | 7 => .array .long
  | 8 => .array .int
  | 9 => .array .long
  | 10 => .int
  | 11 => .array .int
  | 12 => .boolean
  | 13 => .boolean
  | _ => .int
theorem nm_Th : ∀ a, a < 15 → ∀ b, b < 15 → a ≠ b → (F_Th a).2.1 ≠ (F_Th b).2.1 := by decide +kernel
theorem tk_Th : ∀ k, k < 15 → parseFieldDescriptor (F_Th k).2.2.1 = some (ty_Th k) := by decide +kernel
def F_Mo : u_T := fun k => match k with
  | 0 => ("TableauNodesModel", "kinds", "[I", true)
  | 1 => ("TableauNodesModel", "firsts", "[I", true)
  | 2 => ("TableauNodesModel", "seconds", "[I", true)
  | 3 => ("TableauNodesModel", "count", "I", false)
  | 4 => ("TableauNodesModel", "atoms", "[I", true)
  | 5 => ("TableauNodesModel", "atomCount", "I", false)
  | 6 => ("TableauNodesModel", "lefts", "[I", true)
  | 7 => ("TableauNodesModel", "rights", "[I", true)
  | 8 => ("TableauNodesModel", "axioms", "I", false)
  | 9 => ("TableauNodesModel", "roles", "[Z", true)
  | 10 => ("TableauNodesModel", "beings", "[I", true)
  | 11 => ("TableauNodesModel", "saidOf", "[I", true)
  | 12 => ("TableauNodesModel", "beingCount", "I", false)
  | 13 => ("TableauNodesModel", "froms", "[I", true)
  | 14 => ("TableauNodesModel", "bys", "[I", true)
  | 15 => ("TableauNodesModel", "tos", "[I", true)
  | 16 => ("TableauNodesModel", "linkCount", "I", false)
  | 17 => ("TableauNodesModel", "known", "Z", false)
  | 18 => ("TableauNodesModel", "holds", "[Z", true)
  | 19 => ("TableauNodesModel", "owns", "[I", true)
  | 20 => ("TableauNodesModel", "gone", "[I", true)
  | 21 => ("TableauNodesModel", "under", "[Z", true)
  | 22 => ("TableauNodesModel", "rounds", "I", false)
  | 23 => ("TableauNodesModel", "may", "[Z", true)
  | _ => ("TableauNodesModel", "chosen", "[I", true)
def ty_Mo : Nat → FieldType := fun k => match k with
  | 0 => .array .int
  | 1 => .array .int
  | 2 => .array .int
  | 3 => .int
  | 4 => .array .int
  | 5 => .int
  | 6 => .array .int
  | 7 => .array .int
  | 8 => .int
  | 9 => .array .boolean
  | 10 => .array .int
  | 11 => .array .int
  | 12 => .int
  | 13 => .array .int
  | 14 => .array .int
  | 15 => .array .int
  | 16 => .int
  | 17 => .boolean
  | 18 => .array .boolean
  | 19 => .array .int
  | 20 => .array .int
  | 21 => .array .boolean
  | 22 => .int
  | 23 => .array .boolean
  | _ => .array .int
theorem nm_Mo : ∀ a, a < 25 → ∀ b, b < 25 → a ≠ b → (F_Mo a).2.1 ≠ (F_Mo b).2.1 := by decide +kernel
theorem tk_Mo : ∀ k, k < 25 → parseFieldDescriptor (F_Mo k).2.2.1 = some (ty_Mo k) := by decide +kernel
abbrev tq_cl : List vw_C := [("TableauNodes", F_Tn, 4), ("TableauNodes$Concepts", F_Co, 9), ("TableauNodes$Roles", F_Ro, 2), ("TableauNodes$GoodTypes", F_Go, 15), ("TableauNodes$Things", F_Th, 15), ("TableauNodesModel", F_Mo, 25)]
def tq_T : List Cond := lw_tbl.filter goodWord
theorem tq_in {w : Cond} (h : w ∈ lw_tbl) (hg : goodWord w = true) : w ∈ tq_T := List.mem_filter.mpr ⟨h, hg⟩
theorem tq_gw : ∀ w ∈ tq_T, goodWord w = true := fun _ h => (List.mem_filter.mp h).2
theorem tw_0 : (Jvm.Cond.initialized "TableauNodesLaw") ∈ tq_T := tq_in (List.mem_of_getElem? (i := 47) (by decide +kernel)) (by decide +kernel)
theorem tw_1 : (Jvm.Cond.initialized "TableauNodes") ∈ tq_T := tq_in (List.mem_of_getElem? (i := 48) (by decide +kernel)) (by decide +kernel)
theorem tw_2 : (Jvm.Cond.initialized "TableauNodes$Concepts") ∈ tq_T := tq_in (List.mem_of_getElem? (i := 49) (by decide +kernel)) (by decide +kernel)
theorem tw_3 : (Jvm.Cond.initialized "TableauNodes$Roles") ∈ tq_T := tq_in (List.mem_of_getElem? (i := 50) (by decide +kernel)) (by decide +kernel)
theorem tw_4 : (Jvm.Cond.initialized "TableauNodes$GoodTypes") ∈ tq_T := tq_in (List.mem_of_getElem? (i := 51) (by decide +kernel)) (by decide +kernel)
theorem tw_5 : (Jvm.Cond.initialized "TableauNodes$Things") ∈ tq_T := tq_in (List.mem_of_getElem? (i := 52) (by decide +kernel)) (by decide +kernel)
theorem tw_6 : (Jvm.Cond.initialized "TableauNodesModel") ∈ tq_T := tq_in (List.mem_of_getElem? (i := 53) (by decide +kernel)) (by decide +kernel)
theorem tw_7 : (Jvm.Cond.initialized "java/lang/Integer") ∈ tq_T := tq_in (List.mem_of_getElem? (i := 54) (by decide +kernel)) (by decide +kernel)
theorem tw_8 : (Jvm.Cond.initialized "java/lang/Long") ∈ tq_T := tq_in (List.mem_of_getElem? (i := 55) (by decide +kernel)) (by decide +kernel)
theorem tw_9 : (Jvm.Cond.initialized "java/lang/Math") ∈ tq_T := tq_in (List.mem_of_getElem? (i := 56) (by decide +kernel)) (by decide +kernel)
theorem tw_10 : (Jvm.Cond.initialized "java/lang/System") ∈ tq_T := tq_in (List.mem_of_getElem? (i := 57) (by decide +kernel)) (by decide +kernel)
theorem tw_11 : (Jvm.Cond.classLink "TableauNodesLaw" (7 : Nat) "TableauNodes") ∈ tq_T := tq_in (List.mem_of_getElem? (i := 58) (by decide +kernel)) (by decide +kernel)
theorem tw_12 : (Jvm.Cond.instantiable "TableauNodes" (4 : Nat)) ∈ tq_T := tq_in (List.mem_of_getElem? (i := 59) (by decide +kernel)) (by decide +kernel)
theorem tw_13 : (Jvm.Cond.methodLink "TableauNodesLaw" (9 : Nat) ({ cls := "TableauNodes", name := "<init>", desc := "()V" } : Jvm.MethodName)) ∈ tq_T := tq_in (List.mem_of_getElem? (i := 60) (by decide +kernel)) (by decide +kernel)
theorem tw_14 : (Jvm.Cond.instanceMethod ({ cls := "TableauNodes", name := "<init>", desc := "()V" } : Jvm.MethodName)) ∈ tq_T := tq_in (List.mem_of_getElem? (i := 61) (by decide +kernel)) (by decide +kernel)
theorem tw_15 : (Jvm.Cond.code ({ cls := "TableauNodes", name := "<init>", desc := "()V" } : Jvm.MethodName) prog_1_method_1_code (1 : Nat) (Option.none : Option Jvm.ClassFile.FieldType)) ∈ tq_T := tq_in (List.mem_of_getElem? (i := 62) (by decide +kernel)) (by decide +kernel)
theorem tw_16 : (Jvm.Cond.methodLink "TableauNodes" (3 : Nat) ({ cls := "java/lang/Object", name := "<init>", desc := "()V" } : Jvm.MethodName)) ∈ tq_T := tq_in (List.mem_of_getElem? (i := 63) (by decide +kernel)) (by decide +kernel)
theorem tw_17 : (Jvm.Cond.instanceMethod ({ cls := "java/lang/Object", name := "<init>", desc := "()V" } : Jvm.MethodName)) ∈ tq_T := tq_in (List.mem_of_getElem? (i := 64) (by decide +kernel)) (by decide +kernel)
theorem tw_18 : (Jvm.Cond.code ({ cls := "java/lang/Object", name := "<init>", desc := "()V" } : Jvm.MethodName) object_method_1_code (1 : Nat) (Option.none : Option Jvm.ClassFile.FieldType)) ∈ tq_T := tq_in (List.mem_of_getElem? (i := 65) (by decide +kernel)) (by decide +kernel)
theorem tw_19 : (Jvm.Cond.classLink "TableauNodes" (9 : Nat) "TableauNodes$Concepts") ∈ tq_T := tq_in (List.mem_of_getElem? (i := 66) (by decide +kernel)) (by decide +kernel)
theorem tw_20 : (Jvm.Cond.instantiable "TableauNodes$Concepts" (9 : Nat)) ∈ tq_T := tq_in (List.mem_of_getElem? (i := 67) (by decide +kernel)) (by decide +kernel)
theorem tw_21 : (Jvm.Cond.methodLink "TableauNodes" (11 : Nat) ({ cls := "TableauNodes$Concepts", name := "<init>", desc := "()V" } : Jvm.MethodName)) ∈ tq_T := tq_in (List.mem_of_getElem? (i := 68) (by decide +kernel)) (by decide +kernel)
theorem tw_22 : (Jvm.Cond.instanceMethod ({ cls := "TableauNodes$Concepts", name := "<init>", desc := "()V" } : Jvm.MethodName)) ∈ tq_T := tq_in (List.mem_of_getElem? (i := 69) (by decide +kernel)) (by decide +kernel)
theorem tw_23 : (Jvm.Cond.code ({ cls := "TableauNodes$Concepts", name := "<init>", desc := "()V" } : Jvm.MethodName) prog_2_method_1_code (1 : Nat) (Option.none : Option Jvm.ClassFile.FieldType)) ∈ tq_T := tq_in (List.mem_of_getElem? (i := 70) (by decide +kernel)) (by decide +kernel)
theorem tw_24 : (Jvm.Cond.methodLink "TableauNodes$Concepts" (3 : Nat) ({ cls := "java/lang/Object", name := "<init>", desc := "()V" } : Jvm.MethodName)) ∈ tq_T := tq_in (List.mem_of_getElem? (i := 71) (by decide +kernel)) (by decide +kernel)
theorem tw_25 : (Jvm.Cond.methodLink "TableauNodes$Concepts" (34 : Nat) ({ cls := "TableauNodes$Concepts", name := "make", desc := "(III)I" } : Jvm.MethodName)) ∈ tq_T := tq_in (List.mem_of_getElem? (i := 72) (by decide +kernel)) (by decide +kernel)
theorem tw_26 : (Jvm.Cond.instanceMethod ({ cls := "TableauNodes$Concepts", name := "make", desc := "(III)I" } : Jvm.MethodName)) ∈ tq_T := tq_in (List.mem_of_getElem? (i := 73) (by decide +kernel)) (by decide +kernel)
theorem tw_27 : (Jvm.Cond.selects "TableauNodes$Concepts" ({ cls := "TableauNodes$Concepts", name := "make", desc := "(III)I" } : Jvm.MethodName) ({ cls := "TableauNodes$Concepts", name := "make", desc := "(III)I" } : Jvm.MethodName)) ∈ tq_T := tq_in (List.mem_of_getElem? (i := 74) (by decide +kernel)) (by decide +kernel)
theorem tw_28 : (Jvm.Cond.code ({ cls := "TableauNodes$Concepts", name := "make", desc := "(III)I" } : Jvm.MethodName) prog_2_method_9_code (5 : Nat) (Option.some Jvm.ClassFile.FieldType.int)) ∈ tq_T := tq_in (List.mem_of_getElem? (i := 75) (by decide +kernel)) (by decide +kernel)
theorem tw_29 : (Jvm.Cond.methodLink "TableauNodes$Concepts" (55 : Nat) ({ cls := "TableauNodes$Concepts", name := "find", desc := "(III)I" } : Jvm.MethodName)) ∈ tq_T := tq_in (List.mem_of_getElem? (i := 76) (by decide +kernel)) (by decide +kernel)
theorem tw_31 : (Jvm.Cond.instanceMethod ({ cls := "TableauNodes$Concepts", name := "find", desc := "(III)I" } : Jvm.MethodName)) ∈ tq_T := tq_in (List.mem_of_getElem? (i := 78) (by decide +kernel)) (by decide +kernel)
theorem tw_32 : (Jvm.Cond.code ({ cls := "TableauNodes$Concepts", name := "find", desc := "(III)I" } : Jvm.MethodName) prog_2_method_18_code (5 : Nat) (Option.some Jvm.ClassFile.FieldType.int)) ∈ tq_T := tq_in (List.mem_of_getElem? (i := 79) (by decide +kernel)) (by decide +kernel)
theorem tw_33 : (Jvm.Cond.methodLink "TableauNodes$Concepts" (58 : Nat) ({ cls := "TableauNodes$Concepts", name := "add", desc := "(III)I" } : Jvm.MethodName)) ∈ tq_T := tq_in (List.mem_of_getElem? (i := 80) (by decide +kernel)) (by decide +kernel)
theorem tw_35 : (Jvm.Cond.instanceMethod ({ cls := "TableauNodes$Concepts", name := "add", desc := "(III)I" } : Jvm.MethodName)) ∈ tq_T := tq_in (List.mem_of_getElem? (i := 82) (by decide +kernel)) (by decide +kernel)
theorem tw_36 : (Jvm.Cond.code ({ cls := "TableauNodes$Concepts", name := "add", desc := "(III)I" } : Jvm.MethodName) prog_2_method_19_code (8 : Nat) (Option.some Jvm.ClassFile.FieldType.int)) ∈ tq_T := tq_in (List.mem_of_getElem? (i := 83) (by decide +kernel)) (by decide +kernel)
theorem tw_37 : (Jvm.Cond.methodLink "TableauNodes$Concepts" (79 : Nat) ({ cls := "TableauNodes$Concepts", name := "newWord", desc := "(IIII)J" } : Jvm.MethodName)) ∈ tq_T := tq_in (List.mem_of_getElem? (i := 84) (by decide +kernel)) (by decide +kernel)
theorem tw_39 : (Jvm.Cond.instanceMethod ({ cls := "TableauNodes$Concepts", name := "newWord", desc := "(IIII)J" } : Jvm.MethodName)) ∈ tq_T := tq_in (List.mem_of_getElem? (i := 86) (by decide +kernel)) (by decide +kernel)
theorem tw_40 : (Jvm.Cond.code ({ cls := "TableauNodes$Concepts", name := "newWord", desc := "(IIII)J" } : Jvm.MethodName) prog_2_method_20_code (5 : Nat) (Option.some Jvm.ClassFile.FieldType.long)) ∈ tq_T := tq_in (List.mem_of_getElem? (i := 87) (by decide +kernel)) (by decide +kernel)
theorem tw_41 : (Jvm.Cond.constantLong "TableauNodes$Concepts" (49 : Nat) (-1 : Int64)) ∈ tq_T := tq_in (List.mem_of_getElem? (i := 88) (by decide +kernel)) (by decide +kernel)
theorem tw_42 : (Jvm.Cond.methodLink "TableauNodes$Concepts" (87 : Nat) ({ cls := "TableauNodes$Concepts", name := "atomWord", desc := "(II)J" } : Jvm.MethodName)) ∈ tq_T := tq_in (List.mem_of_getElem? (i := 89) (by decide +kernel)) (by decide +kernel)
theorem tw_43 : (Jvm.Cond.instanceMethod ({ cls := "TableauNodes$Concepts", name := "atomWord", desc := "(II)J" } : Jvm.MethodName)) ∈ tq_T := tq_in (List.mem_of_getElem? (i := 90) (by decide +kernel)) (by decide +kernel)
theorem tw_44 : (Jvm.Cond.selects "TableauNodes$Concepts" ({ cls := "TableauNodes$Concepts", name := "atomWord", desc := "(II)J" } : Jvm.MethodName) ({ cls := "TableauNodes$Concepts", name := "atomWord", desc := "(II)J" } : Jvm.MethodName)) ∈ tq_T := tq_in (List.mem_of_getElem? (i := 91) (by decide +kernel)) (by decide +kernel)
theorem tw_45 : (Jvm.Cond.code ({ cls := "TableauNodes$Concepts", name := "atomWord", desc := "(II)J" } : Jvm.MethodName) prog_2_method_13_code (3 : Nat) (Option.some Jvm.ClassFile.FieldType.long)) ∈ tq_T := tq_in (List.mem_of_getElem? (i := 92) (by decide +kernel)) (by decide +kernel)
theorem tw_46 : (Jvm.Cond.fieldLink "TableauNodes$Concepts" (69 : Nat) "TableauNodes$Concepts" "LOW_ATOM_WORDS" "[J") ∈ tq_T := tq_in (List.mem_of_getElem? (i := 93) (by decide +kernel)) (by decide +kernel)
theorem tw_48 : (Jvm.Cond.methodLink "TableauNodes$Concepts" (61 : Nat) ({ cls := "TableauNodes$Concepts", name := "word", desc := "(II)J" } : Jvm.MethodName)) ∈ tq_T := tq_in (List.mem_of_getElem? (i := 95) (by decide +kernel)) (by decide +kernel)
theorem tw_49 : (Jvm.Cond.instanceMethod ({ cls := "TableauNodes$Concepts", name := "word", desc := "(II)J" } : Jvm.MethodName)) ∈ tq_T := tq_in (List.mem_of_getElem? (i := 96) (by decide +kernel)) (by decide +kernel)
theorem tw_50 : (Jvm.Cond.selects "TableauNodes$Concepts" ({ cls := "TableauNodes$Concepts", name := "word", desc := "(II)J" } : Jvm.MethodName) ({ cls := "TableauNodes$Concepts", name := "word", desc := "(II)J" } : Jvm.MethodName)) ∈ tq_T := tq_in (List.mem_of_getElem? (i := 97) (by decide +kernel)) (by decide +kernel)
theorem tw_51 : (Jvm.Cond.code ({ cls := "TableauNodes$Concepts", name := "word", desc := "(II)J" } : Jvm.MethodName) prog_2_method_11_code (4 : Nat) (Option.some Jvm.ClassFile.FieldType.long)) ∈ tq_T := tq_in (List.mem_of_getElem? (i := 98) (by decide +kernel)) (by decide +kernel)
theorem tw_52 : (Jvm.Cond.methodLink "TableauNodes$Concepts" (83 : Nat) ({ cls := "TableauNodes$Concepts", name := "addAtom", desc := "(I)V" } : Jvm.MethodName)) ∈ tq_T := tq_in (List.mem_of_getElem? (i := 99) (by decide +kernel)) (by decide +kernel)
theorem tw_54 : (Jvm.Cond.instanceMethod ({ cls := "TableauNodes$Concepts", name := "addAtom", desc := "(I)V" } : Jvm.MethodName)) ∈ tq_T := tq_in (List.mem_of_getElem? (i := 101) (by decide +kernel)) (by decide +kernel)
theorem tw_55 : (Jvm.Cond.code ({ cls := "TableauNodes$Concepts", name := "addAtom", desc := "(I)V" } : Jvm.MethodName) prog_2_method_21_code (3 : Nat) (Option.none : Option Jvm.ClassFile.FieldType)) ∈ tq_T := tq_in (List.mem_of_getElem? (i := 102) (by decide +kernel)) (by decide +kernel)
theorem tw_56 : (Jvm.Cond.methodLink "TableauNodes$Concepts" (90 : Nat) ({ cls := "TableauNodes$Concepts", name := "noteInner", desc := "(II)V" } : Jvm.MethodName)) ∈ tq_T := tq_in (List.mem_of_getElem? (i := 103) (by decide +kernel)) (by decide +kernel)
theorem tw_58 : (Jvm.Cond.instanceMethod ({ cls := "TableauNodes$Concepts", name := "noteInner", desc := "(II)V" } : Jvm.MethodName)) ∈ tq_T := tq_in (List.mem_of_getElem? (i := 105) (by decide +kernel)) (by decide +kernel)
theorem tw_59 : (Jvm.Cond.code ({ cls := "TableauNodes$Concepts", name := "noteInner", desc := "(II)V" } : Jvm.MethodName) prog_2_method_22_code (7 : Nat) (Option.none : Option Jvm.ClassFile.FieldType)) ∈ tq_T := tq_in (List.mem_of_getElem? (i := 106) (by decide +kernel)) (by decide +kernel)
theorem tw_61 : (Jvm.Cond.static ({ cls := "TableauNodes", name := "hasBit", desc := "(JI)Z" } : Jvm.MethodName)) ∈ tq_T := tq_in (List.mem_of_getElem? (i := 108) (by decide +kernel)) (by decide +kernel)
theorem tw_62 : (Jvm.Cond.code ({ cls := "TableauNodes", name := "hasBit", desc := "(JI)Z" } : Jvm.MethodName) prog_1_method_22_code (3 : Nat) (Option.some Jvm.ClassFile.FieldType.boolean)) ∈ tq_T := tq_in (List.mem_of_getElem? (i := 109) (by decide +kernel)) (by decide +kernel)
theorem tw_63 : (Jvm.Cond.fieldLink "TableauNodes$Concepts" (9 : Nat) "TableauNodes$Concepts" "kinds" "[I") ∈ tq_T := tq_in (List.mem_of_getElem? (i := 110) (by decide +kernel)) (by decide +kernel)
theorem tw_64 : (Jvm.Cond.fieldLink "TableauNodes$Concepts" (15 : Nat) "TableauNodes$Concepts" "firsts" "[I") ∈ tq_T := tq_in (List.mem_of_getElem? (i := 111) (by decide +kernel)) (by decide +kernel)
theorem tw_65 : (Jvm.Cond.fieldLink "TableauNodes$Concepts" (18 : Nat) "TableauNodes$Concepts" "seconds" "[I") ∈ tq_T := tq_in (List.mem_of_getElem? (i := 112) (by decide +kernel)) (by decide +kernel)
theorem tw_66 : (Jvm.Cond.fieldLink "TableauNodes$Concepts" (21 : Nat) "TableauNodes$Concepts" "rows" "[J") ∈ tq_T := tq_in (List.mem_of_getElem? (i := 113) (by decide +kernel)) (by decide +kernel)
theorem tw_67 : (Jvm.Cond.fieldLink "TableauNodes$Concepts" (25 : Nat) "TableauNodes$Concepts" "atomConcepts" "[I") ∈ tq_T := tq_in (List.mem_of_getElem? (i := 114) (by decide +kernel)) (by decide +kernel)
theorem tw_68 : (Jvm.Cond.fieldLink "TableauNodes$Concepts" (28 : Nat) "TableauNodes$Concepts" "innerRows" "[J") ∈ tq_T := tq_in (List.mem_of_getElem? (i := 115) (by decide +kernel)) (by decide +kernel)
theorem tw_69 : (Jvm.Cond.fieldLink "TableauNodes$Concepts" (31 : Nat) "TableauNodes$Concepts" "inners" "[I") ∈ tq_T := tq_in (List.mem_of_getElem? (i := 116) (by decide +kernel)) (by decide +kernel)
theorem tw_70 : (Jvm.Cond.fieldLink "TableauNodes$Concepts" (38 : Nat) "TableauNodes$Concepts" "count" "I") ∈ tq_T := tq_in (List.mem_of_getElem? (i := 117) (by decide +kernel)) (by decide +kernel)
theorem tw_71 : (Jvm.Cond.fieldLink "TableauNodes$Concepts" (42 : Nat) "TableauNodes$Concepts" "atomCount" "I") ∈ tq_T := tq_in (List.mem_of_getElem? (i := 118) (by decide +kernel)) (by decide +kernel)
theorem tw_72 : (Jvm.Cond.laysFinal "TableauNodes$Concepts" "TableauNodes$Concepts" "kinds" "[I") ∈ tq_T := tq_in (List.mem_of_getElem? (i := 119) (by decide +kernel)) (by decide +kernel)
theorem tw_74 : (Jvm.Cond.laysFinal "TableauNodes$Concepts" "TableauNodes$Concepts" "firsts" "[I") ∈ tq_T := tq_in (List.mem_of_getElem? (i := 121) (by decide +kernel)) (by decide +kernel)
theorem tw_76 : (Jvm.Cond.laysFinal "TableauNodes$Concepts" "TableauNodes$Concepts" "seconds" "[I") ∈ tq_T := tq_in (List.mem_of_getElem? (i := 123) (by decide +kernel)) (by decide +kernel)
theorem tw_78 : (Jvm.Cond.laysFinal "TableauNodes$Concepts" "TableauNodes$Concepts" "rows" "[J") ∈ tq_T := tq_in (List.mem_of_getElem? (i := 125) (by decide +kernel)) (by decide +kernel)
theorem tw_80 : (Jvm.Cond.laysFinal "TableauNodes$Concepts" "TableauNodes$Concepts" "atomConcepts" "[I") ∈ tq_T := tq_in (List.mem_of_getElem? (i := 127) (by decide +kernel)) (by decide +kernel)
theorem tw_82 : (Jvm.Cond.laysFinal "TableauNodes$Concepts" "TableauNodes$Concepts" "innerRows" "[J") ∈ tq_T := tq_in (List.mem_of_getElem? (i := 129) (by decide +kernel)) (by decide +kernel)
theorem tw_84 : (Jvm.Cond.laysFinal "TableauNodes$Concepts" "TableauNodes$Concepts" "inners" "[I") ∈ tq_T := tq_in (List.mem_of_getElem? (i := 131) (by decide +kernel)) (by decide +kernel)
theorem tw_86 : (Jvm.Cond.lays "TableauNodes$Concepts" "TableauNodes$Concepts" "count" "I") ∈ tq_T := tq_in (List.mem_of_getElem? (i := 133) (by decide +kernel)) (by decide +kernel)
theorem tw_88 : (Jvm.Cond.lays "TableauNodes$Concepts" "TableauNodes$Concepts" "atomCount" "I") ∈ tq_T := tq_in (List.mem_of_getElem? (i := 135) (by decide +kernel)) (by decide +kernel)
theorem tw_91 : (Jvm.Cond.arrayClass Jvm.ClassFile.FieldType.int) ∈ tq_T := tq_in (List.mem_of_getElem? (i := 138) (by decide +kernel)) (by decide +kernel)
theorem tw_92 : (Jvm.Cond.arrayClass Jvm.ClassFile.FieldType.long) ∈ tq_T := tq_in (List.mem_of_getElem? (i := 139) (by decide +kernel)) (by decide +kernel)
theorem tw_93 : (Jvm.Cond.classLink "TableauNodes" (16 : Nat) "TableauNodes$Roles") ∈ tq_T := tq_in (List.mem_of_getElem? (i := 140) (by decide +kernel)) (by decide +kernel)
theorem tw_94 : (Jvm.Cond.instantiable "TableauNodes$Roles" (2 : Nat)) ∈ tq_T := tq_in (List.mem_of_getElem? (i := 141) (by decide +kernel)) (by decide +kernel)
theorem tw_95 : (Jvm.Cond.methodLink "TableauNodes" (18 : Nat) ({ cls := "TableauNodes$Roles", name := "<init>", desc := "()V" } : Jvm.MethodName)) ∈ tq_T := tq_in (List.mem_of_getElem? (i := 142) (by decide +kernel)) (by decide +kernel)
theorem tw_96 : (Jvm.Cond.instanceMethod ({ cls := "TableauNodes$Roles", name := "<init>", desc := "()V" } : Jvm.MethodName)) ∈ tq_T := tq_in (List.mem_of_getElem? (i := 143) (by decide +kernel)) (by decide +kernel)
theorem tw_97 : (Jvm.Cond.code ({ cls := "TableauNodes$Roles", name := "<init>", desc := "()V" } : Jvm.MethodName) prog_4_method_1_code (1 : Nat) (Option.none : Option Jvm.ClassFile.FieldType)) ∈ tq_T := tq_in (List.mem_of_getElem? (i := 144) (by decide +kernel)) (by decide +kernel)
theorem tw_98 : (Jvm.Cond.methodLink "TableauNodes$Roles" (3 : Nat) ({ cls := "java/lang/Object", name := "<init>", desc := "()V" } : Jvm.MethodName)) ∈ tq_T := tq_in (List.mem_of_getElem? (i := 145) (by decide +kernel)) (by decide +kernel)
theorem tw_99 : (Jvm.Cond.methodLink "TableauNodes$Roles" (18 : Nat) ({ cls := "TableauNodes$Roles", name := "close", desc := "()V" } : Jvm.MethodName)) ∈ tq_T := tq_in (List.mem_of_getElem? (i := 146) (by decide +kernel)) (by decide +kernel)
theorem tw_101 : (Jvm.Cond.instanceMethod ({ cls := "TableauNodes$Roles", name := "close", desc := "()V" } : Jvm.MethodName)) ∈ tq_T := tq_in (List.mem_of_getElem? (i := 148) (by decide +kernel)) (by decide +kernel)
theorem tw_102 : (Jvm.Cond.code ({ cls := "TableauNodes$Roles", name := "close", desc := "()V" } : Jvm.MethodName) prog_4_method_4_code (3 : Nat) (Option.none : Option Jvm.ClassFile.FieldType)) ∈ tq_T := tq_in (List.mem_of_getElem? (i := 149) (by decide +kernel)) (by decide +kernel)
theorem tw_104 : (Jvm.Cond.fieldLink "TableauNodes$Roles" (9 : Nat) "TableauNodes$Roles" "said" "[I") ∈ tq_T := tq_in (List.mem_of_getElem? (i := 151) (by decide +kernel)) (by decide +kernel)
theorem tw_105 : (Jvm.Cond.fieldLink "TableauNodes$Roles" (15 : Nat) "TableauNodes$Roles" "above" "[I") ∈ tq_T := tq_in (List.mem_of_getElem? (i := 152) (by decide +kernel)) (by decide +kernel)
theorem tw_106 : (Jvm.Cond.laysFinal "TableauNodes$Roles" "TableauNodes$Roles" "said" "[I") ∈ tq_T := tq_in (List.mem_of_getElem? (i := 153) (by decide +kernel)) (by decide +kernel)
theorem tw_108 : (Jvm.Cond.laysFinal "TableauNodes$Roles" "TableauNodes$Roles" "above" "[I") ∈ tq_T := tq_in (List.mem_of_getElem? (i := 155) (by decide +kernel)) (by decide +kernel)
theorem tw_111 : (Jvm.Cond.classLink "TableauNodes" (23 : Nat) "TableauNodes$GoodTypes") ∈ tq_T := tq_in (List.mem_of_getElem? (i := 158) (by decide +kernel)) (by decide +kernel)
theorem tw_112 : (Jvm.Cond.instantiable "TableauNodes$GoodTypes" (15 : Nat)) ∈ tq_T := tq_in (List.mem_of_getElem? (i := 159) (by decide +kernel)) (by decide +kernel)
theorem tw_113 : (Jvm.Cond.methodLink "TableauNodes" (25 : Nat) ({ cls := "TableauNodes$GoodTypes", name := "<init>", desc := "(LTableauNodes$Concepts;LTableauNodes$Roles;)V" } : Jvm.MethodName)) ∈ tq_T := tq_in (List.mem_of_getElem? (i := 160) (by decide +kernel)) (by decide +kernel)
theorem tw_114 : (Jvm.Cond.instanceMethod ({ cls := "TableauNodes$GoodTypes", name := "<init>", desc := "(LTableauNodes$Concepts;LTableauNodes$Roles;)V" } : Jvm.MethodName)) ∈ tq_T := tq_in (List.mem_of_getElem? (i := 161) (by decide +kernel)) (by decide +kernel)
theorem tw_115 : (Jvm.Cond.code ({ cls := "TableauNodes$GoodTypes", name := "<init>", desc := "(LTableauNodes$Concepts;LTableauNodes$Roles;)V" } : Jvm.MethodName) prog_3_method_1_code (3 : Nat) (Option.none : Option Jvm.ClassFile.FieldType)) ∈ tq_T := tq_in (List.mem_of_getElem? (i := 162) (by decide +kernel)) (by decide +kernel)
theorem tw_116 : (Jvm.Cond.methodLink "TableauNodes$GoodTypes" (3 : Nat) ({ cls := "java/lang/Object", name := "<init>", desc := "()V" } : Jvm.MethodName)) ∈ tq_T := tq_in (List.mem_of_getElem? (i := 163) (by decide +kernel)) (by decide +kernel)
theorem tw_117 : (Jvm.Cond.fieldLink "TableauNodes$GoodTypes" (41 : Nat) "TableauNodes$GoodTypes" "concepts" "LTableauNodes$Concepts;") ∈ tq_T := tq_in (List.mem_of_getElem? (i := 164) (by decide +kernel)) (by decide +kernel)
theorem tw_118 : (Jvm.Cond.fieldLink "TableauNodes$GoodTypes" (45 : Nat) "TableauNodes$GoodTypes" "roles" "LTableauNodes$Roles;") ∈ tq_T := tq_in (List.mem_of_getElem? (i := 165) (by decide +kernel)) (by decide +kernel)
theorem tw_119 : (Jvm.Cond.fieldLink "TableauNodes$GoodTypes" (9 : Nat) "TableauNodes$GoodTypes" "lefts" "[I") ∈ tq_T := tq_in (List.mem_of_getElem? (i := 166) (by decide +kernel)) (by decide +kernel)
theorem tw_120 : (Jvm.Cond.fieldLink "TableauNodes$GoodTypes" (15 : Nat) "TableauNodes$GoodTypes" "rights" "[I") ∈ tq_T := tq_in (List.mem_of_getElem? (i := 167) (by decide +kernel)) (by decide +kernel)
theorem tw_121 : (Jvm.Cond.fieldLink "TableauNodes$GoodTypes" (49 : Nat) "TableauNodes$GoodTypes" "axiomCount" "I") ∈ tq_T := tq_in (List.mem_of_getElem? (i := 168) (by decide +kernel)) (by decide +kernel)
theorem tw_122 : (Jvm.Cond.fieldLink "TableauNodes$GoodTypes" (18 : Nat) "TableauNodes$GoodTypes" "own" "[I") ∈ tq_T := tq_in (List.mem_of_getElem? (i := 169) (by decide +kernel)) (by decide +kernel)
theorem tw_123 : (Jvm.Cond.fieldLink "TableauNodes$GoodTypes" (21 : Nat) "TableauNodes$GoodTypes" "watched" "[I") ∈ tq_T := tq_in (List.mem_of_getElem? (i := 170) (by decide +kernel)) (by decide +kernel)
theorem tw_124 : (Jvm.Cond.fieldLink "TableauNodes$GoodTypes" (24 : Nat) "TableauNodes$GoodTypes" "there" "[J") ∈ tq_T := tq_in (List.mem_of_getElem? (i := 171) (by decide +kernel)) (by decide +kernel)
theorem tw_125 : (Jvm.Cond.fieldLink "TableauNodes$GoodTypes" (28 : Nat) "TableauNodes$GoodTypes" "going" "[J") ∈ tq_T := tq_in (List.mem_of_getElem? (i := 172) (by decide +kernel)) (by decide +kernel)
theorem tw_126 : (Jvm.Cond.fieldLink "TableauNodes$GoodTypes" (31 : Nat) "TableauNodes$GoodTypes" "depths" "[I") ∈ tq_T := tq_in (List.mem_of_getElem? (i := 173) (by decide +kernel)) (by decide +kernel)
theorem tw_127 : (Jvm.Cond.fieldLink "TableauNodes$GoodTypes" (34 : Nat) "TableauNodes$GoodTypes" "served" "[I") ∈ tq_T := tq_in (List.mem_of_getElem? (i := 174) (by decide +kernel)) (by decide +kernel)
theorem tw_128 : (Jvm.Cond.fieldLink "TableauNodes$GoodTypes" (68 : Nat) "TableauNodes$GoodTypes" "rounds" "I") ∈ tq_T := tq_in (List.mem_of_getElem? (i := 175) (by decide +kernel)) (by decide +kernel)
theorem tw_129 : (Jvm.Cond.fieldLink "TableauNodes$GoodTypes" (37 : Nat) "TableauNodes$GoodTypes" "stale" "Z") ∈ tq_T := tq_in (List.mem_of_getElem? (i := 176) (by decide +kernel)) (by decide +kernel)
theorem tw_130 : (Jvm.Cond.fieldLink "TableauNodes$GoodTypes" (53 : Nat) "TableauNodes$GoodTypes" "atomsThen" "I") ∈ tq_T := tq_in (List.mem_of_getElem? (i := 177) (by decide +kernel)) (by decide +kernel)
theorem tw_131 : (Jvm.Cond.fieldLink "TableauNodes$GoodTypes" (75 : Nat) "TableauNodes$GoodTypes" "version" "I") ∈ tq_T := tq_in (List.mem_of_getElem? (i := 178) (by decide +kernel)) (by decide +kernel)
theorem tw_132 : (Jvm.Cond.laysFinal "TableauNodes$GoodTypes" "TableauNodes$GoodTypes" "concepts" "LTableauNodes$Concepts;") ∈ tq_T := tq_in (List.mem_of_getElem? (i := 179) (by decide +kernel)) (by decide +kernel)
theorem tw_134 : (Jvm.Cond.laysFinal "TableauNodes$GoodTypes" "TableauNodes$GoodTypes" "roles" "LTableauNodes$Roles;") ∈ tq_T := tq_in (List.mem_of_getElem? (i := 181) (by decide +kernel)) (by decide +kernel)
theorem tw_136 : (Jvm.Cond.laysFinal "TableauNodes$GoodTypes" "TableauNodes$GoodTypes" "lefts" "[I") ∈ tq_T := tq_in (List.mem_of_getElem? (i := 183) (by decide +kernel)) (by decide +kernel)
theorem tw_138 : (Jvm.Cond.laysFinal "TableauNodes$GoodTypes" "TableauNodes$GoodTypes" "rights" "[I") ∈ tq_T := tq_in (List.mem_of_getElem? (i := 185) (by decide +kernel)) (by decide +kernel)
theorem tw_140 : (Jvm.Cond.lays "TableauNodes$GoodTypes" "TableauNodes$GoodTypes" "axiomCount" "I") ∈ tq_T := tq_in (List.mem_of_getElem? (i := 187) (by decide +kernel)) (by decide +kernel)
theorem tw_142 : (Jvm.Cond.laysFinal "TableauNodes$GoodTypes" "TableauNodes$GoodTypes" "own" "[I") ∈ tq_T := tq_in (List.mem_of_getElem? (i := 189) (by decide +kernel)) (by decide +kernel)
theorem tw_144 : (Jvm.Cond.laysFinal "TableauNodes$GoodTypes" "TableauNodes$GoodTypes" "watched" "[I") ∈ tq_T := tq_in (List.mem_of_getElem? (i := 191) (by decide +kernel)) (by decide +kernel)
theorem tw_146 : (Jvm.Cond.laysFinal "TableauNodes$GoodTypes" "TableauNodes$GoodTypes" "there" "[J") ∈ tq_T := tq_in (List.mem_of_getElem? (i := 193) (by decide +kernel)) (by decide +kernel)
theorem tw_148 : (Jvm.Cond.laysFinal "TableauNodes$GoodTypes" "TableauNodes$GoodTypes" "going" "[J") ∈ tq_T := tq_in (List.mem_of_getElem? (i := 195) (by decide +kernel)) (by decide +kernel)
theorem tw_150 : (Jvm.Cond.laysFinal "TableauNodes$GoodTypes" "TableauNodes$GoodTypes" "depths" "[I") ∈ tq_T := tq_in (List.mem_of_getElem? (i := 197) (by decide +kernel)) (by decide +kernel)
theorem tw_152 : (Jvm.Cond.laysFinal "TableauNodes$GoodTypes" "TableauNodes$GoodTypes" "served" "[I") ∈ tq_T := tq_in (List.mem_of_getElem? (i := 199) (by decide +kernel)) (by decide +kernel)
theorem tw_154 : (Jvm.Cond.lays "TableauNodes$GoodTypes" "TableauNodes$GoodTypes" "rounds" "I") ∈ tq_T := tq_in (List.mem_of_getElem? (i := 201) (by decide +kernel)) (by decide +kernel)
theorem tw_156 : (Jvm.Cond.lays "TableauNodes$GoodTypes" "TableauNodes$GoodTypes" "stale" "Z") ∈ tq_T := tq_in (List.mem_of_getElem? (i := 203) (by decide +kernel)) (by decide +kernel)
theorem tw_158 : (Jvm.Cond.lays "TableauNodes$GoodTypes" "TableauNodes$GoodTypes" "atomsThen" "I") ∈ tq_T := tq_in (List.mem_of_getElem? (i := 205) (by decide +kernel)) (by decide +kernel)
theorem tw_160 : (Jvm.Cond.lays "TableauNodes$GoodTypes" "TableauNodes$GoodTypes" "version" "I") ∈ tq_T := tq_in (List.mem_of_getElem? (i := 207) (by decide +kernel)) (by decide +kernel)
theorem tw_163 : (Jvm.Cond.classLink "TableauNodes" (32 : Nat) "TableauNodes$Things") ∈ tq_T := tq_in (List.mem_of_getElem? (i := 210) (by decide +kernel)) (by decide +kernel)
theorem tw_164 : (Jvm.Cond.instantiable "TableauNodes$Things" (15 : Nat)) ∈ tq_T := tq_in (List.mem_of_getElem? (i := 211) (by decide +kernel)) (by decide +kernel)
theorem tw_165 : (Jvm.Cond.methodLink "TableauNodes" (34 : Nat) ({ cls := "TableauNodes$Things", name := "<init>", desc := "(LTableauNodes$Concepts;LTableauNodes$GoodTypes;)V" } : Jvm.MethodName)) ∈ tq_T := tq_in (List.mem_of_getElem? (i := 212) (by decide +kernel)) (by decide +kernel)
theorem tw_166 : (Jvm.Cond.instanceMethod ({ cls := "TableauNodes$Things", name := "<init>", desc := "(LTableauNodes$Concepts;LTableauNodes$GoodTypes;)V" } : Jvm.MethodName)) ∈ tq_T := tq_in (List.mem_of_getElem? (i := 213) (by decide +kernel)) (by decide +kernel)
theorem tw_167 : (Jvm.Cond.code ({ cls := "TableauNodes$Things", name := "<init>", desc := "(LTableauNodes$Concepts;LTableauNodes$GoodTypes;)V" } : Jvm.MethodName) prog_5_method_1_code (3 : Nat) (Option.none : Option Jvm.ClassFile.FieldType)) ∈ tq_T := tq_in (List.mem_of_getElem? (i := 214) (by decide +kernel)) (by decide +kernel)
theorem tw_168 : (Jvm.Cond.methodLink "TableauNodes$Things" (3 : Nat) ({ cls := "java/lang/Object", name := "<init>", desc := "()V" } : Jvm.MethodName)) ∈ tq_T := tq_in (List.mem_of_getElem? (i := 215) (by decide +kernel)) (by decide +kernel)
theorem tw_169 : (Jvm.Cond.methodLink "TableauNodes$Things" (42 : Nat) ({ cls := "TableauNodes$Things", name := "clear", desc := "()V" } : Jvm.MethodName)) ∈ tq_T := tq_in (List.mem_of_getElem? (i := 216) (by decide +kernel)) (by decide +kernel)
theorem tw_171 : (Jvm.Cond.instanceMethod ({ cls := "TableauNodes$Things", name := "clear", desc := "()V" } : Jvm.MethodName)) ∈ tq_T := tq_in (List.mem_of_getElem? (i := 218) (by decide +kernel)) (by decide +kernel)
theorem tw_172 : (Jvm.Cond.code ({ cls := "TableauNodes$Things", name := "clear", desc := "()V" } : Jvm.MethodName) prog_5_method_9_code (2 : Nat) (Option.none : Option Jvm.ClassFile.FieldType)) ∈ tq_T := tq_in (List.mem_of_getElem? (i := 219) (by decide +kernel)) (by decide +kernel)
theorem tw_173 : (Jvm.Cond.constantLong "TableauNodes$Things" (105 : Nat) (-1 : Int64)) ∈ tq_T := tq_in (List.mem_of_getElem? (i := 220) (by decide +kernel)) (by decide +kernel)
theorem tw_174 : (Jvm.Cond.fieldLink "TableauNodes$Things" (34 : Nat) "TableauNodes$Things" "concepts" "LTableauNodes$Concepts;") ∈ tq_T := tq_in (List.mem_of_getElem? (i := 221) (by decide +kernel)) (by decide +kernel)
theorem tw_175 : (Jvm.Cond.fieldLink "TableauNodes$Things" (38 : Nat) "TableauNodes$Things" "goods" "LTableauNodes$GoodTypes;") ∈ tq_T := tq_in (List.mem_of_getElem? (i := 222) (by decide +kernel)) (by decide +kernel)
theorem tw_176 : (Jvm.Cond.fieldLink "TableauNodes$Things" (9 : Nat) "TableauNodes$Things" "said" "[J") ∈ tq_T := tq_in (List.mem_of_getElem? (i := 223) (by decide +kernel)) (by decide +kernel)
theorem tw_177 : (Jvm.Cond.fieldLink "TableauNodes$Things" (15 : Nat) "TableauNodes$Things" "rolesOf" "[I") ∈ tq_T := tq_in (List.mem_of_getElem? (i := 224) (by decide +kernel)) (by decide +kernel)
theorem tw_178 : (Jvm.Cond.fieldLink "TableauNodes$Things" (19 : Nat) "TableauNodes$Things" "links" "[I") ∈ tq_T := tq_in (List.mem_of_getElem? (i := 225) (by decide +kernel)) (by decide +kernel)
theorem tw_179 : (Jvm.Cond.fieldLink "TableauNodes$Things" (45 : Nat) "TableauNodes$Things" "isCount" "I") ∈ tq_T := tq_in (List.mem_of_getElem? (i := 226) (by decide +kernel)) (by decide +kernel)
theorem tw_180 : (Jvm.Cond.fieldLink "TableauNodes$Things" (63 : Nat) "TableauNodes$Things" "hasCount" "I") ∈ tq_T := tq_in (List.mem_of_getElem? (i := 227) (by decide +kernel)) (by decide +kernel)
theorem tw_181 : (Jvm.Cond.fieldLink "TableauNodes$Things" (22 : Nat) "TableauNodes$Things" "left" "[J") ∈ tq_T := tq_in (List.mem_of_getElem? (i := 228) (by decide +kernel)) (by decide +kernel)
theorem tw_182 : (Jvm.Cond.fieldLink "TableauNodes$Things" (25 : Nat) "TableauNodes$Things" "demands" "[I") ∈ tq_T := tq_in (List.mem_of_getElem? (i := 229) (by decide +kernel)) (by decide +kernel)
theorem tw_183 : (Jvm.Cond.fieldLink "TableauNodes$Things" (28 : Nat) "TableauNodes$Things" "spare" "[J") ∈ tq_T := tq_in (List.mem_of_getElem? (i := 230) (by decide +kernel)) (by decide +kernel)
theorem tw_184 : (Jvm.Cond.fieldLink "TableauNodes$Things" (102 : Nat) "TableauNodes$Things" "words" "I") ∈ tq_T := tq_in (List.mem_of_getElem? (i := 231) (by decide +kernel)) (by decide +kernel)
theorem tw_185 : (Jvm.Cond.fieldLink "TableauNodes$Things" (31 : Nat) "TableauNodes$Things" "found" "[I") ∈ tq_T := tq_in (List.mem_of_getElem? (i := 232) (by decide +kernel)) (by decide +kernel)
theorem tw_186 : (Jvm.Cond.fieldLink "TableauNodes$Things" (84 : Nat) "TableauNodes$Things" "isFound" "Z") ∈ tq_T := tq_in (List.mem_of_getElem? (i := 233) (by decide +kernel)) (by decide +kernel)
theorem tw_187 : (Jvm.Cond.fieldLink "TableauNodes$Things" (59 : Nat) "TableauNodes$Things" "stale" "Z") ∈ tq_T := tq_in (List.mem_of_getElem? (i := 234) (by decide +kernel)) (by decide +kernel)
theorem tw_188 : (Jvm.Cond.fieldLink "TableauNodes$Things" (66 : Nat) "TableauNodes$Things" "versionThen" "I") ∈ tq_T := tq_in (List.mem_of_getElem? (i := 235) (by decide +kernel)) (by decide +kernel)
theorem tw_189 : (Jvm.Cond.laysFinal "TableauNodes$Things" "TableauNodes$Things" "concepts" "LTableauNodes$Concepts;") ∈ tq_T := tq_in (List.mem_of_getElem? (i := 236) (by decide +kernel)) (by decide +kernel)
theorem tw_191 : (Jvm.Cond.laysFinal "TableauNodes$Things" "TableauNodes$Things" "goods" "LTableauNodes$GoodTypes;") ∈ tq_T := tq_in (List.mem_of_getElem? (i := 238) (by decide +kernel)) (by decide +kernel)
theorem tw_193 : (Jvm.Cond.laysFinal "TableauNodes$Things" "TableauNodes$Things" "said" "[J") ∈ tq_T := tq_in (List.mem_of_getElem? (i := 240) (by decide +kernel)) (by decide +kernel)
theorem tw_195 : (Jvm.Cond.laysFinal "TableauNodes$Things" "TableauNodes$Things" "rolesOf" "[I") ∈ tq_T := tq_in (List.mem_of_getElem? (i := 242) (by decide +kernel)) (by decide +kernel)
theorem tw_197 : (Jvm.Cond.laysFinal "TableauNodes$Things" "TableauNodes$Things" "links" "[I") ∈ tq_T := tq_in (List.mem_of_getElem? (i := 244) (by decide +kernel)) (by decide +kernel)
theorem tw_199 : (Jvm.Cond.lays "TableauNodes$Things" "TableauNodes$Things" "isCount" "I") ∈ tq_T := tq_in (List.mem_of_getElem? (i := 246) (by decide +kernel)) (by decide +kernel)
theorem tw_201 : (Jvm.Cond.lays "TableauNodes$Things" "TableauNodes$Things" "hasCount" "I") ∈ tq_T := tq_in (List.mem_of_getElem? (i := 248) (by decide +kernel)) (by decide +kernel)
theorem tw_203 : (Jvm.Cond.laysFinal "TableauNodes$Things" "TableauNodes$Things" "left" "[J") ∈ tq_T := tq_in (List.mem_of_getElem? (i := 250) (by decide +kernel)) (by decide +kernel)
theorem tw_205 : (Jvm.Cond.laysFinal "TableauNodes$Things" "TableauNodes$Things" "demands" "[I") ∈ tq_T := tq_in (List.mem_of_getElem? (i := 252) (by decide +kernel)) (by decide +kernel)
theorem tw_207 : (Jvm.Cond.laysFinal "TableauNodes$Things" "TableauNodes$Things" "spare" "[J") ∈ tq_T := tq_in (List.mem_of_getElem? (i := 254) (by decide +kernel)) (by decide +kernel)
theorem tw_209 : (Jvm.Cond.lays "TableauNodes$Things" "TableauNodes$Things" "words" "I") ∈ tq_T := tq_in (List.mem_of_getElem? (i := 256) (by decide +kernel)) (by decide +kernel)
theorem tw_211 : (Jvm.Cond.laysFinal "TableauNodes$Things" "TableauNodes$Things" "found" "[I") ∈ tq_T := tq_in (List.mem_of_getElem? (i := 258) (by decide +kernel)) (by decide +kernel)
theorem tw_213 : (Jvm.Cond.lays "TableauNodes$Things" "TableauNodes$Things" "isFound" "Z") ∈ tq_T := tq_in (List.mem_of_getElem? (i := 260) (by decide +kernel)) (by decide +kernel)
theorem tw_215 : (Jvm.Cond.lays "TableauNodes$Things" "TableauNodes$Things" "stale" "Z") ∈ tq_T := tq_in (List.mem_of_getElem? (i := 262) (by decide +kernel)) (by decide +kernel)
theorem tw_217 : (Jvm.Cond.lays "TableauNodes$Things" "TableauNodes$Things" "versionThen" "I") ∈ tq_T := tq_in (List.mem_of_getElem? (i := 264) (by decide +kernel)) (by decide +kernel)
theorem tw_220 : (Jvm.Cond.fieldLink "TableauNodes" (12 : Nat) "TableauNodes" "concepts" "LTableauNodes$Concepts;") ∈ tq_T := tq_in (List.mem_of_getElem? (i := 267) (by decide +kernel)) (by decide +kernel)
theorem tw_221 : (Jvm.Cond.fieldLink "TableauNodes" (19 : Nat) "TableauNodes" "roles" "LTableauNodes$Roles;") ∈ tq_T := tq_in (List.mem_of_getElem? (i := 268) (by decide +kernel)) (by decide +kernel)
theorem tw_222 : (Jvm.Cond.fieldLink "TableauNodes" (28 : Nat) "TableauNodes" "goods" "LTableauNodes$GoodTypes;") ∈ tq_T := tq_in (List.mem_of_getElem? (i := 269) (by decide +kernel)) (by decide +kernel)
theorem tw_223 : (Jvm.Cond.fieldLink "TableauNodes" (37 : Nat) "TableauNodes" "things" "LTableauNodes$Things;") ∈ tq_T := tq_in (List.mem_of_getElem? (i := 270) (by decide +kernel)) (by decide +kernel)
theorem tw_224 : (Jvm.Cond.laysFinal "TableauNodes" "TableauNodes" "concepts" "LTableauNodes$Concepts;") ∈ tq_T := tq_in (List.mem_of_getElem? (i := 271) (by decide +kernel)) (by decide +kernel)
theorem tw_226 : (Jvm.Cond.laysFinal "TableauNodes" "TableauNodes" "roles" "LTableauNodes$Roles;") ∈ tq_T := tq_in (List.mem_of_getElem? (i := 273) (by decide +kernel)) (by decide +kernel)
theorem tw_228 : (Jvm.Cond.laysFinal "TableauNodes" "TableauNodes" "goods" "LTableauNodes$GoodTypes;") ∈ tq_T := tq_in (List.mem_of_getElem? (i := 275) (by decide +kernel)) (by decide +kernel)
theorem tw_230 : (Jvm.Cond.laysFinal "TableauNodes" "TableauNodes" "things" "LTableauNodes$Things;") ∈ tq_T := tq_in (List.mem_of_getElem? (i := 277) (by decide +kernel)) (by decide +kernel)
theorem tw_233 : (Jvm.Cond.methodLink "TableauNodesLaw" (13 : Nat) ({ cls := "TableauNodes", name := "class0", desc := "(I)I" } : Jvm.MethodName)) ∈ tq_T := tq_in (List.mem_of_getElem? (i := 280) (by decide +kernel)) (by decide +kernel)
theorem tw_234 : (Jvm.Cond.instanceMethod ({ cls := "TableauNodes", name := "class0", desc := "(I)I" } : Jvm.MethodName)) ∈ tq_T := tq_in (List.mem_of_getElem? (i := 281) (by decide +kernel)) (by decide +kernel)
theorem tw_235 : (Jvm.Cond.selects "TableauNodes" ({ cls := "TableauNodes", name := "class0", desc := "(I)I" } : Jvm.MethodName) ({ cls := "TableauNodes", name := "class0", desc := "(I)I" } : Jvm.MethodName)) ∈ tq_T := tq_in (List.mem_of_getElem? (i := 282) (by decide +kernel)) (by decide +kernel)
theorem tw_236 : (Jvm.Cond.code ({ cls := "TableauNodes", name := "class0", desc := "(I)I" } : Jvm.MethodName) prog_1_method_2_code (2 : Nat) (Option.some Jvm.ClassFile.FieldType.int)) ∈ tq_T := tq_in (List.mem_of_getElem? (i := 283) (by decide +kernel)) (by decide +kernel)
theorem tw_237 : (Jvm.Cond.methodLink "TableauNodes" (41 : Nat) ({ cls := "TableauNodes", name := "isBelow", desc := "(II)Z" } : Jvm.MethodName)) ∈ tq_T := tq_in (List.mem_of_getElem? (i := 284) (by decide +kernel)) (by decide +kernel)
theorem tw_238 : (Jvm.Cond.static ({ cls := "TableauNodes", name := "isBelow", desc := "(II)Z" } : Jvm.MethodName)) ∈ tq_T := tq_in (List.mem_of_getElem? (i := 285) (by decide +kernel)) (by decide +kernel)
theorem tw_239 : (Jvm.Cond.code ({ cls := "TableauNodes", name := "isBelow", desc := "(II)Z" } : Jvm.MethodName) prog_1_method_21_code (2 : Nat) (Option.some Jvm.ClassFile.FieldType.boolean)) ∈ tq_T := tq_in (List.mem_of_getElem? (i := 286) (by decide +kernel)) (by decide +kernel)
theorem tw_240 : (Jvm.Cond.methodLink "TableauNodes" (45 : Nat) ({ cls := "TableauNodes$Concepts", name := "make", desc := "(III)I" } : Jvm.MethodName)) ∈ tq_T := tq_in (List.mem_of_getElem? (i := 287) (by decide +kernel)) (by decide +kernel)
theorem tw_241 : (Jvm.Cond.methodLink "TableauNodesLaw" (18 : Nat) ({ cls := "TableauNodes", name := "concept", desc := "(III)I" } : Jvm.MethodName)) ∈ tq_T := tq_in (List.mem_of_getElem? (i := 288) (by decide +kernel)) (by decide +kernel)
theorem tw_242 : (Jvm.Cond.instanceMethod ({ cls := "TableauNodes", name := "concept", desc := "(III)I" } : Jvm.MethodName)) ∈ tq_T := tq_in (List.mem_of_getElem? (i := 289) (by decide +kernel)) (by decide +kernel)
theorem tw_243 : (Jvm.Cond.selects "TableauNodes" ({ cls := "TableauNodes", name := "concept", desc := "(III)I" } : Jvm.MethodName) ({ cls := "TableauNodes", name := "concept", desc := "(III)I" } : Jvm.MethodName)) ∈ tq_T := tq_in (List.mem_of_getElem? (i := 290) (by decide +kernel)) (by decide +kernel)
theorem tw_244 : (Jvm.Cond.code ({ cls := "TableauNodes", name := "concept", desc := "(III)I" } : Jvm.MethodName) prog_1_method_3_code (4 : Nat) (Option.some Jvm.ClassFile.FieldType.int)) ∈ tq_T := tq_in (List.mem_of_getElem? (i := 291) (by decide +kernel)) (by decide +kernel)
theorem tw_245 : (Jvm.Cond.methodLink "TableauNodes" (49 : Nat) ({ cls := "TableauNodes$Concepts", name := "isThere", desc := "(I)Z" } : Jvm.MethodName)) ∈ tq_T := tq_in (List.mem_of_getElem? (i := 292) (by decide +kernel)) (by decide +kernel)
theorem tw_246 : (Jvm.Cond.instanceMethod ({ cls := "TableauNodes$Concepts", name := "isThere", desc := "(I)Z" } : Jvm.MethodName)) ∈ tq_T := tq_in (List.mem_of_getElem? (i := 293) (by decide +kernel)) (by decide +kernel)
theorem tw_247 : (Jvm.Cond.selects "TableauNodes$Concepts" ({ cls := "TableauNodes$Concepts", name := "isThere", desc := "(I)Z" } : Jvm.MethodName) ({ cls := "TableauNodes$Concepts", name := "isThere", desc := "(I)Z" } : Jvm.MethodName)) ∈ tq_T := tq_in (List.mem_of_getElem? (i := 294) (by decide +kernel)) (by decide +kernel)
theorem tw_248 : (Jvm.Cond.code ({ cls := "TableauNodes$Concepts", name := "isThere", desc := "(I)Z" } : Jvm.MethodName) prog_2_method_7_code (2 : Nat) (Option.some Jvm.ClassFile.FieldType.boolean)) ∈ tq_T := tq_in (List.mem_of_getElem? (i := 295) (by decide +kernel)) (by decide +kernel)
theorem tw_249 : (Jvm.Cond.methodLink "TableauNodes" (53 : Nat) ({ cls := "TableauNodes$Concepts", name := "makeAll", desc := "(II)I" } : Jvm.MethodName)) ∈ tq_T := tq_in (List.mem_of_getElem? (i := 296) (by decide +kernel)) (by decide +kernel)
theorem tw_250 : (Jvm.Cond.instanceMethod ({ cls := "TableauNodes$Concepts", name := "makeAll", desc := "(II)I" } : Jvm.MethodName)) ∈ tq_T := tq_in (List.mem_of_getElem? (i := 297) (by decide +kernel)) (by decide +kernel)
theorem tw_251 : (Jvm.Cond.selects "TableauNodes$Concepts" ({ cls := "TableauNodes$Concepts", name := "makeAll", desc := "(II)I" } : Jvm.MethodName) ({ cls := "TableauNodes$Concepts", name := "makeAll", desc := "(II)I" } : Jvm.MethodName)) ∈ tq_T := tq_in (List.mem_of_getElem? (i := 298) (by decide +kernel)) (by decide +kernel)
theorem tw_252 : (Jvm.Cond.code ({ cls := "TableauNodes$Concepts", name := "makeAll", desc := "(II)I" } : Jvm.MethodName) prog_2_method_10_code (6 : Nat) (Option.some Jvm.ClassFile.FieldType.int)) ∈ tq_T := tq_in (List.mem_of_getElem? (i := 299) (by decide +kernel)) (by decide +kernel)
theorem tw_253 : (Jvm.Cond.methodLink "TableauNodesLaw" (23 : Nat) ({ cls := "TableauNodes", name := "told", desc := "(II)I" } : Jvm.MethodName)) ∈ tq_T := tq_in (List.mem_of_getElem? (i := 300) (by decide +kernel)) (by decide +kernel)
theorem tw_254 : (Jvm.Cond.instanceMethod ({ cls := "TableauNodes", name := "told", desc := "(II)I" } : Jvm.MethodName)) ∈ tq_T := tq_in (List.mem_of_getElem? (i := 301) (by decide +kernel)) (by decide +kernel)
theorem tw_255 : (Jvm.Cond.selects "TableauNodes" ({ cls := "TableauNodes", name := "told", desc := "(II)I" } : Jvm.MethodName) ({ cls := "TableauNodes", name := "told", desc := "(II)I" } : Jvm.MethodName)) ∈ tq_T := tq_in (List.mem_of_getElem? (i := 302) (by decide +kernel)) (by decide +kernel)
theorem tw_256 : (Jvm.Cond.code ({ cls := "TableauNodes", name := "told", desc := "(II)I" } : Jvm.MethodName) prog_1_method_4_code (3 : Nat) (Option.some Jvm.ClassFile.FieldType.int)) ∈ tq_T := tq_in (List.mem_of_getElem? (i := 303) (by decide +kernel)) (by decide +kernel)
theorem tw_257 : (Jvm.Cond.methodLink "TableauNodes" (57 : Nat) ({ cls := "TableauNodes$Concepts", name := "part", desc := "(II)I" } : Jvm.MethodName)) ∈ tq_T := tq_in (List.mem_of_getElem? (i := 304) (by decide +kernel)) (by decide +kernel)
theorem tw_258 : (Jvm.Cond.instanceMethod ({ cls := "TableauNodes$Concepts", name := "part", desc := "(II)I" } : Jvm.MethodName)) ∈ tq_T := tq_in (List.mem_of_getElem? (i := 305) (by decide +kernel)) (by decide +kernel)
theorem tw_259 : (Jvm.Cond.selects "TableauNodes$Concepts" ({ cls := "TableauNodes$Concepts", name := "part", desc := "(II)I" } : Jvm.MethodName) ({ cls := "TableauNodes$Concepts", name := "part", desc := "(II)I" } : Jvm.MethodName)) ∈ tq_T := tq_in (List.mem_of_getElem? (i := 306) (by decide +kernel)) (by decide +kernel)
theorem tw_260 : (Jvm.Cond.code ({ cls := "TableauNodes$Concepts", name := "part", desc := "(II)I" } : Jvm.MethodName) prog_2_method_8_code (3 : Nat) (Option.some Jvm.ClassFile.FieldType.int)) ∈ tq_T := tq_in (List.mem_of_getElem? (i := 307) (by decide +kernel)) (by decide +kernel)
theorem tw_261 : (Jvm.Cond.methodLink "TableauNodes$Concepts" (51 : Nat) ({ cls := "TableauNodes$Concepts", name := "isThere", desc := "(I)Z" } : Jvm.MethodName)) ∈ tq_T := tq_in (List.mem_of_getElem? (i := 308) (by decide +kernel)) (by decide +kernel)
theorem tw_262 : (Jvm.Cond.methodLink "TableauNodesLaw" (28 : Nat) ({ cls := "TableauNodes", name := "concepts", desc := "()I" } : Jvm.MethodName)) ∈ tq_T := tq_in (List.mem_of_getElem? (i := 309) (by decide +kernel)) (by decide +kernel)
theorem tw_263 : (Jvm.Cond.instanceMethod ({ cls := "TableauNodes", name := "concepts", desc := "()I" } : Jvm.MethodName)) ∈ tq_T := tq_in (List.mem_of_getElem? (i := 310) (by decide +kernel)) (by decide +kernel)
theorem tw_264 : (Jvm.Cond.selects "TableauNodes" ({ cls := "TableauNodes", name := "concepts", desc := "()I" } : Jvm.MethodName) ({ cls := "TableauNodes", name := "concepts", desc := "()I" } : Jvm.MethodName)) ∈ tq_T := tq_in (List.mem_of_getElem? (i := 311) (by decide +kernel)) (by decide +kernel)
theorem tw_265 : (Jvm.Cond.code ({ cls := "TableauNodes", name := "concepts", desc := "()I" } : Jvm.MethodName) prog_1_method_5_code (1 : Nat) (Option.some Jvm.ClassFile.FieldType.int)) ∈ tq_T := tq_in (List.mem_of_getElem? (i := 312) (by decide +kernel)) (by decide +kernel)
theorem tw_266 : (Jvm.Cond.methodLink "TableauNodes" (60 : Nat) ({ cls := "TableauNodes$Concepts", name := "size", desc := "()I" } : Jvm.MethodName)) ∈ tq_T := tq_in (List.mem_of_getElem? (i := 313) (by decide +kernel)) (by decide +kernel)
theorem tw_267 : (Jvm.Cond.instanceMethod ({ cls := "TableauNodes$Concepts", name := "size", desc := "()I" } : Jvm.MethodName)) ∈ tq_T := tq_in (List.mem_of_getElem? (i := 314) (by decide +kernel)) (by decide +kernel)
theorem tw_268 : (Jvm.Cond.selects "TableauNodes$Concepts" ({ cls := "TableauNodes$Concepts", name := "size", desc := "()I" } : Jvm.MethodName) ({ cls := "TableauNodes$Concepts", name := "size", desc := "()I" } : Jvm.MethodName)) ∈ tq_T := tq_in (List.mem_of_getElem? (i := 315) (by decide +kernel)) (by decide +kernel)
theorem tw_269 : (Jvm.Cond.code ({ cls := "TableauNodes$Concepts", name := "size", desc := "()I" } : Jvm.MethodName) prog_2_method_2_code (1 : Nat) (Option.some Jvm.ClassFile.FieldType.int)) ∈ tq_T := tq_in (List.mem_of_getElem? (i := 316) (by decide +kernel)) (by decide +kernel)
theorem tw_270 : (Jvm.Cond.methodLink "TableauNodesLaw" (33 : Nat) ({ cls := "TableauNodes", name := "atoms", desc := "()I" } : Jvm.MethodName)) ∈ tq_T := tq_in (List.mem_of_getElem? (i := 317) (by decide +kernel)) (by decide +kernel)
theorem tw_271 : (Jvm.Cond.instanceMethod ({ cls := "TableauNodes", name := "atoms", desc := "()I" } : Jvm.MethodName)) ∈ tq_T := tq_in (List.mem_of_getElem? (i := 318) (by decide +kernel)) (by decide +kernel)
theorem tw_272 : (Jvm.Cond.selects "TableauNodes" ({ cls := "TableauNodes", name := "atoms", desc := "()I" } : Jvm.MethodName) ({ cls := "TableauNodes", name := "atoms", desc := "()I" } : Jvm.MethodName)) ∈ tq_T := tq_in (List.mem_of_getElem? (i := 319) (by decide +kernel)) (by decide +kernel)
theorem tw_273 : (Jvm.Cond.code ({ cls := "TableauNodes", name := "atoms", desc := "()I" } : Jvm.MethodName) prog_1_method_6_code (1 : Nat) (Option.some Jvm.ClassFile.FieldType.int)) ∈ tq_T := tq_in (List.mem_of_getElem? (i := 320) (by decide +kernel)) (by decide +kernel)
theorem tw_274 : (Jvm.Cond.methodLink "TableauNodes" (64 : Nat) ({ cls := "TableauNodes$Concepts", name := "atomCount", desc := "()I" } : Jvm.MethodName)) ∈ tq_T := tq_in (List.mem_of_getElem? (i := 321) (by decide +kernel)) (by decide +kernel)
theorem tw_275 : (Jvm.Cond.instanceMethod ({ cls := "TableauNodes$Concepts", name := "atomCount", desc := "()I" } : Jvm.MethodName)) ∈ tq_T := tq_in (List.mem_of_getElem? (i := 322) (by decide +kernel)) (by decide +kernel)
theorem tw_276 : (Jvm.Cond.selects "TableauNodes$Concepts" ({ cls := "TableauNodes$Concepts", name := "atomCount", desc := "()I" } : Jvm.MethodName) ({ cls := "TableauNodes$Concepts", name := "atomCount", desc := "()I" } : Jvm.MethodName)) ∈ tq_T := tq_in (List.mem_of_getElem? (i := 323) (by decide +kernel)) (by decide +kernel)
theorem tw_277 : (Jvm.Cond.code ({ cls := "TableauNodes$Concepts", name := "atomCount", desc := "()I" } : Jvm.MethodName) prog_2_method_3_code (1 : Nat) (Option.some Jvm.ClassFile.FieldType.int)) ∈ tq_T := tq_in (List.mem_of_getElem? (i := 324) (by decide +kernel)) (by decide +kernel)
theorem tw_278 : (Jvm.Cond.methodLink "TableauNodesLaw" (37 : Nat) ({ cls := "TableauNodes", name := "axiom", desc := "(II)I" } : Jvm.MethodName)) ∈ tq_T := tq_in (List.mem_of_getElem? (i := 325) (by decide +kernel)) (by decide +kernel)
theorem tw_279 : (Jvm.Cond.instanceMethod ({ cls := "TableauNodes", name := "axiom", desc := "(II)I" } : Jvm.MethodName)) ∈ tq_T := tq_in (List.mem_of_getElem? (i := 326) (by decide +kernel)) (by decide +kernel)
theorem tw_280 : (Jvm.Cond.selects "TableauNodes" ({ cls := "TableauNodes", name := "axiom", desc := "(II)I" } : Jvm.MethodName) ({ cls := "TableauNodes", name := "axiom", desc := "(II)I" } : Jvm.MethodName)) ∈ tq_T := tq_in (List.mem_of_getElem? (i := 327) (by decide +kernel)) (by decide +kernel)
theorem tw_281 : (Jvm.Cond.code ({ cls := "TableauNodes", name := "axiom", desc := "(II)I" } : Jvm.MethodName) prog_1_method_7_code (3 : Nat) (Option.some Jvm.ClassFile.FieldType.int)) ∈ tq_T := tq_in (List.mem_of_getElem? (i := 328) (by decide +kernel)) (by decide +kernel)
theorem tw_282 : (Jvm.Cond.methodLink "TableauNodes" (67 : Nat) ({ cls := "TableauNodes$GoodTypes", name := "addAxiom", desc := "(II)I" } : Jvm.MethodName)) ∈ tq_T := tq_in (List.mem_of_getElem? (i := 329) (by decide +kernel)) (by decide +kernel)
theorem tw_283 : (Jvm.Cond.instanceMethod ({ cls := "TableauNodes$GoodTypes", name := "addAxiom", desc := "(II)I" } : Jvm.MethodName)) ∈ tq_T := tq_in (List.mem_of_getElem? (i := 330) (by decide +kernel)) (by decide +kernel)
theorem tw_284 : (Jvm.Cond.selects "TableauNodes$GoodTypes" ({ cls := "TableauNodes$GoodTypes", name := "addAxiom", desc := "(II)I" } : Jvm.MethodName) ({ cls := "TableauNodes$GoodTypes", name := "addAxiom", desc := "(II)I" } : Jvm.MethodName)) ∈ tq_T := tq_in (List.mem_of_getElem? (i := 331) (by decide +kernel)) (by decide +kernel)
theorem tw_285 : (Jvm.Cond.code ({ cls := "TableauNodes$GoodTypes", name := "addAxiom", desc := "(II)I" } : Jvm.MethodName) prog_3_method_2_code (3 : Nat) (Option.some Jvm.ClassFile.FieldType.int)) ∈ tq_T := tq_in (List.mem_of_getElem? (i := 332) (by decide +kernel)) (by decide +kernel)
theorem tw_286 : (Jvm.Cond.methodLink "TableauNodesLaw" (41 : Nat) ({ cls := "TableauNodes", name := "drop", desc := "()I" } : Jvm.MethodName)) ∈ tq_T := tq_in (List.mem_of_getElem? (i := 333) (by decide +kernel)) (by decide +kernel)
theorem tw_287 : (Jvm.Cond.instanceMethod ({ cls := "TableauNodes", name := "drop", desc := "()I" } : Jvm.MethodName)) ∈ tq_T := tq_in (List.mem_of_getElem? (i := 334) (by decide +kernel)) (by decide +kernel)
theorem tw_288 : (Jvm.Cond.selects "TableauNodes" ({ cls := "TableauNodes", name := "drop", desc := "()I" } : Jvm.MethodName) ({ cls := "TableauNodes", name := "drop", desc := "()I" } : Jvm.MethodName)) ∈ tq_T := tq_in (List.mem_of_getElem? (i := 335) (by decide +kernel)) (by decide +kernel)
theorem tw_289 : (Jvm.Cond.code ({ cls := "TableauNodes", name := "drop", desc := "()I" } : Jvm.MethodName) prog_1_method_8_code (1 : Nat) (Option.some Jvm.ClassFile.FieldType.int)) ∈ tq_T := tq_in (List.mem_of_getElem? (i := 336) (by decide +kernel)) (by decide +kernel)
theorem tw_290 : (Jvm.Cond.methodLink "TableauNodes" (70 : Nat) ({ cls := "TableauNodes$GoodTypes", name := "dropAxiom", desc := "()I" } : Jvm.MethodName)) ∈ tq_T := tq_in (List.mem_of_getElem? (i := 337) (by decide +kernel)) (by decide +kernel)
theorem tw_291 : (Jvm.Cond.instanceMethod ({ cls := "TableauNodes$GoodTypes", name := "dropAxiom", desc := "()I" } : Jvm.MethodName)) ∈ tq_T := tq_in (List.mem_of_getElem? (i := 338) (by decide +kernel)) (by decide +kernel)
theorem tw_292 : (Jvm.Cond.selects "TableauNodes$GoodTypes" ({ cls := "TableauNodes$GoodTypes", name := "dropAxiom", desc := "()I" } : Jvm.MethodName) ({ cls := "TableauNodes$GoodTypes", name := "dropAxiom", desc := "()I" } : Jvm.MethodName)) ∈ tq_T := tq_in (List.mem_of_getElem? (i := 339) (by decide +kernel)) (by decide +kernel)
theorem tw_293 : (Jvm.Cond.code ({ cls := "TableauNodes$GoodTypes", name := "dropAxiom", desc := "()I" } : Jvm.MethodName) prog_3_method_3_code (1 : Nat) (Option.some Jvm.ClassFile.FieldType.int)) ∈ tq_T := tq_in (List.mem_of_getElem? (i := 340) (by decide +kernel)) (by decide +kernel)
theorem tw_294 : (Jvm.Cond.methodLink "TableauNodesLaw" (45 : Nat) ({ cls := "TableauNodes", name := "role", desc := "(II)I" } : Jvm.MethodName)) ∈ tq_T := tq_in (List.mem_of_getElem? (i := 341) (by decide +kernel)) (by decide +kernel)
theorem tw_295 : (Jvm.Cond.instanceMethod ({ cls := "TableauNodes", name := "role", desc := "(II)I" } : Jvm.MethodName)) ∈ tq_T := tq_in (List.mem_of_getElem? (i := 342) (by decide +kernel)) (by decide +kernel)
theorem tw_296 : (Jvm.Cond.selects "TableauNodes" ({ cls := "TableauNodes", name := "role", desc := "(II)I" } : Jvm.MethodName) ({ cls := "TableauNodes", name := "role", desc := "(II)I" } : Jvm.MethodName)) ∈ tq_T := tq_in (List.mem_of_getElem? (i := 343) (by decide +kernel)) (by decide +kernel)
theorem tw_297 : (Jvm.Cond.code ({ cls := "TableauNodes", name := "role", desc := "(II)I" } : Jvm.MethodName) prog_1_method_9_code (3 : Nat) (Option.some Jvm.ClassFile.FieldType.int)) ∈ tq_T := tq_in (List.mem_of_getElem? (i := 344) (by decide +kernel)) (by decide +kernel)
theorem tw_298 : (Jvm.Cond.methodLink "TableauNodes" (73 : Nat) ({ cls := "TableauNodes$Roles", name := "say", desc := "(II)Z" } : Jvm.MethodName)) ∈ tq_T := tq_in (List.mem_of_getElem? (i := 345) (by decide +kernel)) (by decide +kernel)
theorem tw_299 : (Jvm.Cond.instanceMethod ({ cls := "TableauNodes$Roles", name := "say", desc := "(II)Z" } : Jvm.MethodName)) ∈ tq_T := tq_in (List.mem_of_getElem? (i := 346) (by decide +kernel)) (by decide +kernel)
theorem tw_300 : (Jvm.Cond.selects "TableauNodes$Roles" ({ cls := "TableauNodes$Roles", name := "say", desc := "(II)Z" } : Jvm.MethodName) ({ cls := "TableauNodes$Roles", name := "say", desc := "(II)Z" } : Jvm.MethodName)) ∈ tq_T := tq_in (List.mem_of_getElem? (i := 347) (by decide +kernel)) (by decide +kernel)
theorem tw_301 : (Jvm.Cond.code ({ cls := "TableauNodes$Roles", name := "say", desc := "(II)Z" } : Jvm.MethodName) prog_4_method_2_code (3 : Nat) (Option.some Jvm.ClassFile.FieldType.boolean)) ∈ tq_T := tq_in (List.mem_of_getElem? (i := 348) (by decide +kernel)) (by decide +kernel)
theorem tw_303 : (Jvm.Cond.methodLink "TableauNodes" (76 : Nat) ({ cls := "TableauNodes$GoodTypes", name := "rolesChanged", desc := "()V" } : Jvm.MethodName)) ∈ tq_T := tq_in (List.mem_of_getElem? (i := 350) (by decide +kernel)) (by decide +kernel)
theorem tw_304 : (Jvm.Cond.instanceMethod ({ cls := "TableauNodes$GoodTypes", name := "rolesChanged", desc := "()V" } : Jvm.MethodName)) ∈ tq_T := tq_in (List.mem_of_getElem? (i := 351) (by decide +kernel)) (by decide +kernel)
theorem tw_305 : (Jvm.Cond.selects "TableauNodes$GoodTypes" ({ cls := "TableauNodes$GoodTypes", name := "rolesChanged", desc := "()V" } : Jvm.MethodName) ({ cls := "TableauNodes$GoodTypes", name := "rolesChanged", desc := "()V" } : Jvm.MethodName)) ∈ tq_T := tq_in (List.mem_of_getElem? (i := 352) (by decide +kernel)) (by decide +kernel)
theorem tw_306 : (Jvm.Cond.code ({ cls := "TableauNodes$GoodTypes", name := "rolesChanged", desc := "()V" } : Jvm.MethodName) prog_3_method_4_code (1 : Nat) (Option.none : Option Jvm.ClassFile.FieldType)) ∈ tq_T := tq_in (List.mem_of_getElem? (i := 353) (by decide +kernel)) (by decide +kernel)
theorem tw_307 : (Jvm.Cond.methodLink "TableauNodesLaw" (49 : Nat) ({ cls := "TableauNodes", name := "can", desc := "(I)I" } : Jvm.MethodName)) ∈ tq_T := tq_in (List.mem_of_getElem? (i := 354) (by decide +kernel)) (by decide +kernel)
theorem tw_308 : (Jvm.Cond.instanceMethod ({ cls := "TableauNodes", name := "can", desc := "(I)I" } : Jvm.MethodName)) ∈ tq_T := tq_in (List.mem_of_getElem? (i := 355) (by decide +kernel)) (by decide +kernel)
theorem tw_309 : (Jvm.Cond.selects "TableauNodes" ({ cls := "TableauNodes", name := "can", desc := "(I)I" } : Jvm.MethodName) ({ cls := "TableauNodes", name := "can", desc := "(I)I" } : Jvm.MethodName)) ∈ tq_T := tq_in (List.mem_of_getElem? (i := 356) (by decide +kernel)) (by decide +kernel)
theorem tw_310 : (Jvm.Cond.code ({ cls := "TableauNodes", name := "can", desc := "(I)I" } : Jvm.MethodName) prog_1_method_10_code (2 : Nat) (Option.some Jvm.ClassFile.FieldType.int)) ∈ tq_T := tq_in (List.mem_of_getElem? (i := 357) (by decide +kernel)) (by decide +kernel)
theorem tw_311 : (Jvm.Cond.methodLink "TableauNodes" (79 : Nat) ({ cls := "TableauNodes$GoodTypes", name := "refresh", desc := "()V" } : Jvm.MethodName)) ∈ tq_T := tq_in (List.mem_of_getElem? (i := 358) (by decide +kernel)) (by decide +kernel)
theorem tw_312 : (Jvm.Cond.instanceMethod ({ cls := "TableauNodes$GoodTypes", name := "refresh", desc := "()V" } : Jvm.MethodName)) ∈ tq_T := tq_in (List.mem_of_getElem? (i := 359) (by decide +kernel)) (by decide +kernel)
theorem tw_313 : (Jvm.Cond.selects "TableauNodes$GoodTypes" ({ cls := "TableauNodes$GoodTypes", name := "refresh", desc := "()V" } : Jvm.MethodName) ({ cls := "TableauNodes$GoodTypes", name := "refresh", desc := "()V" } : Jvm.MethodName)) ∈ tq_T := tq_in (List.mem_of_getElem? (i := 360) (by decide +kernel)) (by decide +kernel)
theorem tw_314 : (Jvm.Cond.code ({ cls := "TableauNodes$GoodTypes", name := "refresh", desc := "()V" } : Jvm.MethodName) prog_3_method_5_code (2 : Nat) (Option.none : Option Jvm.ClassFile.FieldType)) ∈ tq_T := tq_in (List.mem_of_getElem? (i := 361) (by decide +kernel)) (by decide +kernel)
theorem tw_315 : (Jvm.Cond.methodLink "TableauNodes$GoodTypes" (56 : Nat) ({ cls := "TableauNodes$Concepts", name := "atomCount", desc := "()I" } : Jvm.MethodName)) ∈ tq_T := tq_in (List.mem_of_getElem? (i := 362) (by decide +kernel)) (by decide +kernel)
theorem tw_316 : (Jvm.Cond.methodLink "TableauNodes$GoodTypes" (62 : Nat) ({ cls := "TableauNodes$GoodTypes", name := "sortSomes", desc := "()V" } : Jvm.MethodName)) ∈ tq_T := tq_in (List.mem_of_getElem? (i := 363) (by decide +kernel)) (by decide +kernel)
theorem tw_318 : (Jvm.Cond.instanceMethod ({ cls := "TableauNodes$GoodTypes", name := "sortSomes", desc := "()V" } : Jvm.MethodName)) ∈ tq_T := tq_in (List.mem_of_getElem? (i := 365) (by decide +kernel)) (by decide +kernel)
theorem tw_319 : (Jvm.Cond.code ({ cls := "TableauNodes$GoodTypes", name := "sortSomes", desc := "()V" } : Jvm.MethodName) prog_3_method_14_code (4 : Nat) (Option.none : Option Jvm.ClassFile.FieldType)) ∈ tq_T := tq_in (List.mem_of_getElem? (i := 366) (by decide +kernel)) (by decide +kernel)
theorem tw_320 : (Jvm.Cond.methodLink "TableauNodes$GoodTypes" (94 : Nat) ({ cls := "TableauNodes$Concepts", name := "isSome", desc := "(I)Z" } : Jvm.MethodName)) ∈ tq_T := tq_in (List.mem_of_getElem? (i := 367) (by decide +kernel)) (by decide +kernel)
theorem tw_321 : (Jvm.Cond.instanceMethod ({ cls := "TableauNodes$Concepts", name := "isSome", desc := "(I)Z" } : Jvm.MethodName)) ∈ tq_T := tq_in (List.mem_of_getElem? (i := 368) (by decide +kernel)) (by decide +kernel)
theorem tw_322 : (Jvm.Cond.selects "TableauNodes$Concepts" ({ cls := "TableauNodes$Concepts", name := "isSome", desc := "(I)Z" } : Jvm.MethodName) ({ cls := "TableauNodes$Concepts", name := "isSome", desc := "(I)Z" } : Jvm.MethodName)) ∈ tq_T := tq_in (List.mem_of_getElem? (i := 369) (by decide +kernel)) (by decide +kernel)
theorem tw_323 : (Jvm.Cond.code ({ cls := "TableauNodes$Concepts", name := "isSome", desc := "(I)Z" } : Jvm.MethodName) prog_2_method_16_code (2 : Nat) (Option.some Jvm.ClassFile.FieldType.boolean)) ∈ tq_T := tq_in (List.mem_of_getElem? (i := 370) (by decide +kernel)) (by decide +kernel)
theorem tw_325 : (Jvm.Cond.methodLink "TableauNodes$GoodTypes" (97 : Nat) ({ cls := "TableauNodes$Concepts", name := "roleOfSome", desc := "(I)I" } : Jvm.MethodName)) ∈ tq_T := tq_in (List.mem_of_getElem? (i := 372) (by decide +kernel)) (by decide +kernel)
theorem tw_326 : (Jvm.Cond.instanceMethod ({ cls := "TableauNodes$Concepts", name := "roleOfSome", desc := "(I)I" } : Jvm.MethodName)) ∈ tq_T := tq_in (List.mem_of_getElem? (i := 373) (by decide +kernel)) (by decide +kernel)
theorem tw_327 : (Jvm.Cond.selects "TableauNodes$Concepts" ({ cls := "TableauNodes$Concepts", name := "roleOfSome", desc := "(I)I" } : Jvm.MethodName) ({ cls := "TableauNodes$Concepts", name := "roleOfSome", desc := "(I)I" } : Jvm.MethodName)) ∈ tq_T := tq_in (List.mem_of_getElem? (i := 374) (by decide +kernel)) (by decide +kernel)
theorem tw_328 : (Jvm.Cond.code ({ cls := "TableauNodes$Concepts", name := "roleOfSome", desc := "(I)I" } : Jvm.MethodName) prog_2_method_17_code (2 : Nat) (Option.some Jvm.ClassFile.FieldType.int)) ∈ tq_T := tq_in (List.mem_of_getElem? (i := 375) (by decide +kernel)) (by decide +kernel)
theorem tw_329 : (Jvm.Cond.methodLink "TableauNodes$Concepts" (76 : Nat) ({ cls := "TableauNodes$Concepts", name := "isSome", desc := "(I)Z" } : Jvm.MethodName)) ∈ tq_T := tq_in (List.mem_of_getElem? (i := 376) (by decide +kernel)) (by decide +kernel)
theorem tw_330 : (Jvm.Cond.methodLink "TableauNodes$GoodTypes" (101 : Nat) ({ cls := "TableauNodes$Roles", name := "isUnder", desc := "(II)Z" } : Jvm.MethodName)) ∈ tq_T := tq_in (List.mem_of_getElem? (i := 377) (by decide +kernel)) (by decide +kernel)
theorem tw_331 : (Jvm.Cond.instanceMethod ({ cls := "TableauNodes$Roles", name := "isUnder", desc := "(II)Z" } : Jvm.MethodName)) ∈ tq_T := tq_in (List.mem_of_getElem? (i := 378) (by decide +kernel)) (by decide +kernel)
theorem tw_332 : (Jvm.Cond.selects "TableauNodes$Roles" ({ cls := "TableauNodes$Roles", name := "isUnder", desc := "(II)Z" } : Jvm.MethodName) ({ cls := "TableauNodes$Roles", name := "isUnder", desc := "(II)Z" } : Jvm.MethodName)) ∈ tq_T := tq_in (List.mem_of_getElem? (i := 379) (by decide +kernel)) (by decide +kernel)
theorem tw_333 : (Jvm.Cond.code ({ cls := "TableauNodes$Roles", name := "isUnder", desc := "(II)Z" } : Jvm.MethodName) prog_4_method_3_code (3 : Nat) (Option.some Jvm.ClassFile.FieldType.boolean)) ∈ tq_T := tq_in (List.mem_of_getElem? (i := 380) (by decide +kernel)) (by decide +kernel)
theorem tw_334 : (Jvm.Cond.methodLink "TableauNodes$GoodTypes" (65 : Nat) ({ cls := "TableauNodes$GoodTypes", name := "begin", desc := "()V" } : Jvm.MethodName)) ∈ tq_T := tq_in (List.mem_of_getElem? (i := 381) (by decide +kernel)) (by decide +kernel)
theorem tw_336 : (Jvm.Cond.instanceMethod ({ cls := "TableauNodes$GoodTypes", name := "begin", desc := "()V" } : Jvm.MethodName)) ∈ tq_T := tq_in (List.mem_of_getElem? (i := 383) (by decide +kernel)) (by decide +kernel)
theorem tw_337 : (Jvm.Cond.code ({ cls := "TableauNodes$GoodTypes", name := "begin", desc := "()V" } : Jvm.MethodName) prog_3_method_15_code (4 : Nat) (Option.none : Option Jvm.ClassFile.FieldType)) ∈ tq_T := tq_in (List.mem_of_getElem? (i := 384) (by decide +kernel)) (by decide +kernel)
theorem tw_338 : (Jvm.Cond.methodLink "TableauNodes$GoodTypes" (106 : Nat) ({ cls := "TableauNodes$Concepts", name := "wordCount", desc := "()I" } : Jvm.MethodName)) ∈ tq_T := tq_in (List.mem_of_getElem? (i := 385) (by decide +kernel)) (by decide +kernel)
theorem tw_339 : (Jvm.Cond.instanceMethod ({ cls := "TableauNodes$Concepts", name := "wordCount", desc := "()I" } : Jvm.MethodName)) ∈ tq_T := tq_in (List.mem_of_getElem? (i := 386) (by decide +kernel)) (by decide +kernel)
theorem tw_340 : (Jvm.Cond.selects "TableauNodes$Concepts" ({ cls := "TableauNodes$Concepts", name := "wordCount", desc := "()I" } : Jvm.MethodName) ({ cls := "TableauNodes$Concepts", name := "wordCount", desc := "()I" } : Jvm.MethodName)) ∈ tq_T := tq_in (List.mem_of_getElem? (i := 387) (by decide +kernel)) (by decide +kernel)
theorem tw_341 : (Jvm.Cond.code ({ cls := "TableauNodes$Concepts", name := "wordCount", desc := "()I" } : Jvm.MethodName) prog_2_method_5_code (1 : Nat) (Option.some Jvm.ClassFile.FieldType.int)) ∈ tq_T := tq_in (List.mem_of_getElem? (i := 388) (by decide +kernel)) (by decide +kernel)
theorem tw_342 : (Jvm.Cond.methodLink "TableauNodes$Concepts" (45 : Nat) ({ cls := "TableauNodes$Concepts", name := "typeCount", desc := "()I" } : Jvm.MethodName)) ∈ tq_T := tq_in (List.mem_of_getElem? (i := 389) (by decide +kernel)) (by decide +kernel)
theorem tw_343 : (Jvm.Cond.instanceMethod ({ cls := "TableauNodes$Concepts", name := "typeCount", desc := "()I" } : Jvm.MethodName)) ∈ tq_T := tq_in (List.mem_of_getElem? (i := 390) (by decide +kernel)) (by decide +kernel)
theorem tw_344 : (Jvm.Cond.selects "TableauNodes$Concepts" ({ cls := "TableauNodes$Concepts", name := "typeCount", desc := "()I" } : Jvm.MethodName) ({ cls := "TableauNodes$Concepts", name := "typeCount", desc := "()I" } : Jvm.MethodName)) ∈ tq_T := tq_in (List.mem_of_getElem? (i := 391) (by decide +kernel)) (by decide +kernel)
theorem tw_345 : (Jvm.Cond.code ({ cls := "TableauNodes$Concepts", name := "typeCount", desc := "()I" } : Jvm.MethodName) prog_2_method_4_code (1 : Nat) (Option.some Jvm.ClassFile.FieldType.int)) ∈ tq_T := tq_in (List.mem_of_getElem? (i := 392) (by decide +kernel)) (by decide +kernel)
theorem tw_346 : (Jvm.Cond.methodLink "TableauNodes$GoodTypes" (109 : Nat) ({ cls := "TableauNodes$Concepts", name := "typesInWord", desc := "()J" } : Jvm.MethodName)) ∈ tq_T := tq_in (List.mem_of_getElem? (i := 393) (by decide +kernel)) (by decide +kernel)
theorem tw_347 : (Jvm.Cond.instanceMethod ({ cls := "TableauNodes$Concepts", name := "typesInWord", desc := "()J" } : Jvm.MethodName)) ∈ tq_T := tq_in (List.mem_of_getElem? (i := 394) (by decide +kernel)) (by decide +kernel)
theorem tw_348 : (Jvm.Cond.selects "TableauNodes$Concepts" ({ cls := "TableauNodes$Concepts", name := "typesInWord", desc := "()J" } : Jvm.MethodName) ({ cls := "TableauNodes$Concepts", name := "typesInWord", desc := "()J" } : Jvm.MethodName)) ∈ tq_T := tq_in (List.mem_of_getElem? (i := 395) (by decide +kernel)) (by decide +kernel)
theorem tw_349 : (Jvm.Cond.code ({ cls := "TableauNodes$Concepts", name := "typesInWord", desc := "()J" } : Jvm.MethodName) prog_2_method_6_code (1 : Nat) (Option.some Jvm.ClassFile.FieldType.long)) ∈ tq_T := tq_in (List.mem_of_getElem? (i := 396) (by decide +kernel)) (by decide +kernel)
theorem tw_350 : (Jvm.Cond.methodLink "TableauNodes$GoodTypes" (113 : Nat) ({ cls := "TableauNodes$GoodTypes", name := "keptByAxioms", desc := "(JI)J" } : Jvm.MethodName)) ∈ tq_T := tq_in (List.mem_of_getElem? (i := 397) (by decide +kernel)) (by decide +kernel)
theorem tw_352 : (Jvm.Cond.instanceMethod ({ cls := "TableauNodes$GoodTypes", name := "keptByAxioms", desc := "(JI)J" } : Jvm.MethodName)) ∈ tq_T := tq_in (List.mem_of_getElem? (i := 399) (by decide +kernel)) (by decide +kernel)
theorem tw_353 : (Jvm.Cond.code ({ cls := "TableauNodes$GoodTypes", name := "keptByAxioms", desc := "(JI)J" } : Jvm.MethodName) prog_3_method_16_code (7 : Nat) (Option.some Jvm.ClassFile.FieldType.long)) ∈ tq_T := tq_in (List.mem_of_getElem? (i := 400) (by decide +kernel)) (by decide +kernel)
theorem tw_354 : (Jvm.Cond.methodLink "TableauNodes$GoodTypes" (88 : Nat) ({ cls := "TableauNodes$Concepts", name := "word", desc := "(II)J" } : Jvm.MethodName)) ∈ tq_T := tq_in (List.mem_of_getElem? (i := 401) (by decide +kernel)) (by decide +kernel)
theorem tw_355 : (Jvm.Cond.constantLong "TableauNodes$GoodTypes" (92 : Nat) (-1 : Int64)) ∈ tq_T := tq_in (List.mem_of_getElem? (i := 402) (by decide +kernel)) (by decide +kernel)
theorem tw_356 : (Jvm.Cond.methodLink "TableauNodes$GoodTypes" (117 : Nat) ({ cls := "TableauNodes$Concepts", name := "typeCount", desc := "()I" } : Jvm.MethodName)) ∈ tq_T := tq_in (List.mem_of_getElem? (i := 403) (by decide +kernel)) (by decide +kernel)
theorem tw_357 : (Jvm.Cond.methodLink "TableauNodes$GoodTypes" (120 : Nat) ({ cls := "TableauNodes$GoodTypes", name := "isThere", desc := "(I)Z" } : Jvm.MethodName)) ∈ tq_T := tq_in (List.mem_of_getElem? (i := 404) (by decide +kernel)) (by decide +kernel)
theorem tw_359 : (Jvm.Cond.instanceMethod ({ cls := "TableauNodes$GoodTypes", name := "isThere", desc := "(I)Z" } : Jvm.MethodName)) ∈ tq_T := tq_in (List.mem_of_getElem? (i := 406) (by decide +kernel)) (by decide +kernel)
theorem tw_360 : (Jvm.Cond.code ({ cls := "TableauNodes$GoodTypes", name := "isThere", desc := "(I)Z" } : Jvm.MethodName) prog_3_method_17_code (2 : Nat) (Option.some Jvm.ClassFile.FieldType.boolean)) ∈ tq_T := tq_in (List.mem_of_getElem? (i := 407) (by decide +kernel)) (by decide +kernel)
theorem tw_362 : (Jvm.Cond.methodLink "TableauNodes$GoodTypes" (71 : Nat) ({ cls := "TableauNodes$GoodTypes", name := "makeRound", desc := "(I)Z" } : Jvm.MethodName)) ∈ tq_T := tq_in (List.mem_of_getElem? (i := 409) (by decide +kernel)) (by decide +kernel)
theorem tw_364 : (Jvm.Cond.instanceMethod ({ cls := "TableauNodes$GoodTypes", name := "makeRound", desc := "(I)Z" } : Jvm.MethodName)) ∈ tq_T := tq_in (List.mem_of_getElem? (i := 411) (by decide +kernel)) (by decide +kernel)
theorem tw_365 : (Jvm.Cond.code ({ cls := "TableauNodes$GoodTypes", name := "makeRound", desc := "(I)Z" } : Jvm.MethodName) prog_3_method_18_code (4 : Nat) (Option.some Jvm.ClassFile.FieldType.boolean)) ∈ tq_T := tq_in (List.mem_of_getElem? (i := 412) (by decide +kernel)) (by decide +kernel)
theorem tw_366 : (Jvm.Cond.methodLink "TableauNodes$GoodTypes" (127 : Nat) ({ cls := "TableauNodes$GoodTypes", name := "markUnserved", desc := "(I)V" } : Jvm.MethodName)) ∈ tq_T := tq_in (List.mem_of_getElem? (i := 413) (by decide +kernel)) (by decide +kernel)
theorem tw_368 : (Jvm.Cond.instanceMethod ({ cls := "TableauNodes$GoodTypes", name := "markUnserved", desc := "(I)V" } : Jvm.MethodName)) ∈ tq_T := tq_in (List.mem_of_getElem? (i := 415) (by decide +kernel)) (by decide +kernel)
theorem tw_369 : (Jvm.Cond.code ({ cls := "TableauNodes$GoodTypes", name := "markUnserved", desc := "(I)V" } : Jvm.MethodName) prog_3_method_20_code (4 : Nat) (Option.none : Option Jvm.ClassFile.FieldType)) ∈ tq_T := tq_in (List.mem_of_getElem? (i := 416) (by decide +kernel)) (by decide +kernel)
theorem tw_370 : (Jvm.Cond.methodLink "TableauNodes$GoodTypes" (138 : Nat) ({ cls := "TableauNodes$GoodTypes", name := "findServed", desc := "(I)V" } : Jvm.MethodName)) ∈ tq_T := tq_in (List.mem_of_getElem? (i := 417) (by decide +kernel)) (by decide +kernel)
theorem tw_372 : (Jvm.Cond.instanceMethod ({ cls := "TableauNodes$GoodTypes", name := "findServed", desc := "(I)V" } : Jvm.MethodName)) ∈ tq_T := tq_in (List.mem_of_getElem? (i := 419) (by decide +kernel)) (by decide +kernel)
theorem tw_373 : (Jvm.Cond.code ({ cls := "TableauNodes$GoodTypes", name := "findServed", desc := "(I)V" } : Jvm.MethodName) prog_3_method_21_code (7 : Nat) (Option.none : Option Jvm.ClassFile.FieldType)) ∈ tq_T := tq_in (List.mem_of_getElem? (i := 420) (by decide +kernel)) (by decide +kernel)
theorem tw_374 : (Jvm.Cond.methodLink "TableauNodes$GoodTypes" (141 : Nat) ({ cls := "java/lang/Integer", name := "bitCount", desc := "(I)I" } : Jvm.MethodName)) ∈ tq_T := tq_in (List.mem_of_getElem? (i := 421) (by decide +kernel)) (by decide +kernel)
theorem tw_375 : (Jvm.Cond.static ({ cls := "java/lang/Integer", name := "bitCount", desc := "(I)I" } : Jvm.MethodName)) ∈ tq_T := tq_in (List.mem_of_getElem? (i := 422) (by decide +kernel)) (by decide +kernel)
theorem tw_376 : (Jvm.Cond.code ({ cls := "java/lang/Integer", name := "bitCount", desc := "(I)I" } : Jvm.MethodName) prog_8_method_49_code (1 : Nat) (Option.some Jvm.ClassFile.FieldType.int)) ∈ tq_T := tq_in (List.mem_of_getElem? (i := 423) (by decide +kernel)) (by decide +kernel)
theorem tw_377 : (Jvm.Cond.constant "java/lang/Integer" (265 : Nat) (1431655765 : Int32)) ∈ tq_T := tq_in (List.mem_of_getElem? (i := 424) (by decide +kernel)) (by decide +kernel)
theorem tw_378 : (Jvm.Cond.constant "java/lang/Integer" (266 : Nat) (858993459 : Int32)) ∈ tq_T := tq_in (List.mem_of_getElem? (i := 425) (by decide +kernel)) (by decide +kernel)
theorem tw_379 : (Jvm.Cond.constant "java/lang/Integer" (267 : Nat) (252645135 : Int32)) ∈ tq_T := tq_in (List.mem_of_getElem? (i := 426) (by decide +kernel)) (by decide +kernel)
theorem tw_380 : (Jvm.Cond.methodLink "TableauNodes$GoodTypes" (145 : Nat) ({ cls := "TableauNodes$Concepts", name := "inners", desc := "(I)I" } : Jvm.MethodName)) ∈ tq_T := tq_in (List.mem_of_getElem? (i := 427) (by decide +kernel)) (by decide +kernel)
theorem tw_381 : (Jvm.Cond.instanceMethod ({ cls := "TableauNodes$Concepts", name := "inners", desc := "(I)I" } : Jvm.MethodName)) ∈ tq_T := tq_in (List.mem_of_getElem? (i := 428) (by decide +kernel)) (by decide +kernel)
theorem tw_382 : (Jvm.Cond.selects "TableauNodes$Concepts" ({ cls := "TableauNodes$Concepts", name := "inners", desc := "(I)I" } : Jvm.MethodName) ({ cls := "TableauNodes$Concepts", name := "inners", desc := "(I)I" } : Jvm.MethodName)) ∈ tq_T := tq_in (List.mem_of_getElem? (i := 429) (by decide +kernel)) (by decide +kernel)
theorem tw_383 : (Jvm.Cond.code ({ cls := "TableauNodes$Concepts", name := "inners", desc := "(I)I" } : Jvm.MethodName) prog_2_method_15_code (2 : Nat) (Option.some Jvm.ClassFile.FieldType.int)) ∈ tq_T := tq_in (List.mem_of_getElem? (i := 430) (by decide +kernel)) (by decide +kernel)
theorem tw_384 : (Jvm.Cond.methodLink "TableauNodes$GoodTypes" (148 : Nat) ({ cls := "TableauNodes$GoodTypes", name := "spreadServed", desc := "(III)V" } : Jvm.MethodName)) ∈ tq_T := tq_in (List.mem_of_getElem? (i := 431) (by decide +kernel)) (by decide +kernel)
theorem tw_386 : (Jvm.Cond.instanceMethod ({ cls := "TableauNodes$GoodTypes", name := "spreadServed", desc := "(III)V" } : Jvm.MethodName)) ∈ tq_T := tq_in (List.mem_of_getElem? (i := 433) (by decide +kernel)) (by decide +kernel)
theorem tw_387 : (Jvm.Cond.code ({ cls := "TableauNodes$GoodTypes", name := "spreadServed", desc := "(III)V" } : Jvm.MethodName) prog_3_method_22_code (6 : Nat) (Option.none : Option Jvm.ClassFile.FieldType)) ∈ tq_T := tq_in (List.mem_of_getElem? (i := 434) (by decide +kernel)) (by decide +kernel)
theorem tw_388 : (Jvm.Cond.methodLink "TableauNodes$GoodTypes" (131 : Nat) ({ cls := "TableauNodes$GoodTypes", name := "takeAway", desc := "(II)V" } : Jvm.MethodName)) ∈ tq_T := tq_in (List.mem_of_getElem? (i := 435) (by decide +kernel)) (by decide +kernel)
theorem tw_390 : (Jvm.Cond.instanceMethod ({ cls := "TableauNodes$GoodTypes", name := "takeAway", desc := "(II)V" } : Jvm.MethodName)) ∈ tq_T := tq_in (List.mem_of_getElem? (i := 437) (by decide +kernel)) (by decide +kernel)
theorem tw_391 : (Jvm.Cond.code ({ cls := "TableauNodes$GoodTypes", name := "takeAway", desc := "(II)V" } : Jvm.MethodName) prog_3_method_19_code (6 : Nat) (Option.none : Option Jvm.ClassFile.FieldType)) ∈ tq_T := tq_in (List.mem_of_getElem? (i := 438) (by decide +kernel)) (by decide +kernel)
theorem tw_392 : (Jvm.Cond.methodLink "TableauNodes$GoodTypes" (78 : Nat) ({ cls := "java/lang/Long", name := "bitCount", desc := "(J)I" } : Jvm.MethodName)) ∈ tq_T := tq_in (List.mem_of_getElem? (i := 439) (by decide +kernel)) (by decide +kernel)
theorem tw_393 : (Jvm.Cond.static ({ cls := "java/lang/Long", name := "bitCount", desc := "(J)I" } : Jvm.MethodName)) ∈ tq_T := tq_in (List.mem_of_getElem? (i := 440) (by decide +kernel)) (by decide +kernel)
theorem tw_394 : (Jvm.Cond.code ({ cls := "java/lang/Long", name := "bitCount", desc := "(J)I" } : Jvm.MethodName) prog_9_method_50_code (2 : Nat) (Option.some Jvm.ClassFile.FieldType.int)) ∈ tq_T := tq_in (List.mem_of_getElem? (i := 441) (by decide +kernel)) (by decide +kernel)
theorem tw_395 : (Jvm.Cond.constantLong "java/lang/Long" (314 : Nat) (6148914691236517205 : Int64)) ∈ tq_T := tq_in (List.mem_of_getElem? (i := 442) (by decide +kernel)) (by decide +kernel)
theorem tw_396 : (Jvm.Cond.constantLong "java/lang/Long" (316 : Nat) (3689348814741910323 : Int64)) ∈ tq_T := tq_in (List.mem_of_getElem? (i := 443) (by decide +kernel)) (by decide +kernel)
theorem tw_397 : (Jvm.Cond.constantLong "java/lang/Long" (318 : Nat) (1085102592571150095 : Int64)) ∈ tq_T := tq_in (List.mem_of_getElem? (i := 444) (by decide +kernel)) (by decide +kernel)
theorem tw_399 : (Jvm.Cond.static ({ cls := "TableauNodes", name := "lowestBit", desc := "(J)I" } : Jvm.MethodName)) ∈ tq_T := tq_in (List.mem_of_getElem? (i := 446) (by decide +kernel)) (by decide +kernel)
theorem tw_400 : (Jvm.Cond.code ({ cls := "TableauNodes", name := "lowestBit", desc := "(J)I" } : Jvm.MethodName) prog_1_method_23_code (2 : Nat) (Option.some Jvm.ClassFile.FieldType.int)) ∈ tq_T := tq_in (List.mem_of_getElem? (i := 447) (by decide +kernel)) (by decide +kernel)
theorem tw_401 : (Jvm.Cond.methodLink "TableauNodes" (121 : Nat) ({ cls := "java/lang/Long", name := "bitCount", desc := "(J)I" } : Jvm.MethodName)) ∈ tq_T := tq_in (List.mem_of_getElem? (i := 448) (by decide +kernel)) (by decide +kernel)
theorem tw_402 : (Jvm.Cond.methodLink "TableauNodes" (82 : Nat) ({ cls := "TableauNodes$GoodTypes", name := "someAre", desc := "(I)Z" } : Jvm.MethodName)) ∈ tq_T := tq_in (List.mem_of_getElem? (i := 449) (by decide +kernel)) (by decide +kernel)
theorem tw_403 : (Jvm.Cond.instanceMethod ({ cls := "TableauNodes$GoodTypes", name := "someAre", desc := "(I)Z" } : Jvm.MethodName)) ∈ tq_T := tq_in (List.mem_of_getElem? (i := 450) (by decide +kernel)) (by decide +kernel)
theorem tw_404 : (Jvm.Cond.selects "TableauNodes$GoodTypes" ({ cls := "TableauNodes$GoodTypes", name := "someAre", desc := "(I)Z" } : Jvm.MethodName) ({ cls := "TableauNodes$GoodTypes", name := "someAre", desc := "(I)Z" } : Jvm.MethodName)) ∈ tq_T := tq_in (List.mem_of_getElem? (i := 451) (by decide +kernel)) (by decide +kernel)
theorem tw_405 : (Jvm.Cond.code ({ cls := "TableauNodes$GoodTypes", name := "someAre", desc := "(I)Z" } : Jvm.MethodName) prog_3_method_10_code (3 : Nat) (Option.some Jvm.ClassFile.FieldType.boolean)) ∈ tq_T := tq_in (List.mem_of_getElem? (i := 452) (by decide +kernel)) (by decide +kernel)
theorem tw_406 : (Jvm.Cond.methodLink "TableauNodesLaw" (53 : Nat) ({ cls := "TableauNodes", name := "below", desc := "(II)I" } : Jvm.MethodName)) ∈ tq_T := tq_in (List.mem_of_getElem? (i := 453) (by decide +kernel)) (by decide +kernel)
theorem tw_407 : (Jvm.Cond.instanceMethod ({ cls := "TableauNodes", name := "below", desc := "(II)I" } : Jvm.MethodName)) ∈ tq_T := tq_in (List.mem_of_getElem? (i := 454) (by decide +kernel)) (by decide +kernel)
theorem tw_408 : (Jvm.Cond.selects "TableauNodes" ({ cls := "TableauNodes", name := "below", desc := "(II)I" } : Jvm.MethodName) ({ cls := "TableauNodes", name := "below", desc := "(II)I" } : Jvm.MethodName)) ∈ tq_T := tq_in (List.mem_of_getElem? (i := 455) (by decide +kernel)) (by decide +kernel)
theorem tw_409 : (Jvm.Cond.code ({ cls := "TableauNodes", name := "below", desc := "(II)I" } : Jvm.MethodName) prog_1_method_11_code (3 : Nat) (Option.some Jvm.ClassFile.FieldType.int)) ∈ tq_T := tq_in (List.mem_of_getElem? (i := 456) (by decide +kernel)) (by decide +kernel)
theorem tw_410 : (Jvm.Cond.methodLink "TableauNodes" (85 : Nat) ({ cls := "TableauNodes$GoodTypes", name := "eachIs", desc := "(II)Z" } : Jvm.MethodName)) ∈ tq_T := tq_in (List.mem_of_getElem? (i := 457) (by decide +kernel)) (by decide +kernel)
theorem tw_411 : (Jvm.Cond.instanceMethod ({ cls := "TableauNodes$GoodTypes", name := "eachIs", desc := "(II)Z" } : Jvm.MethodName)) ∈ tq_T := tq_in (List.mem_of_getElem? (i := 458) (by decide +kernel)) (by decide +kernel)
theorem tw_412 : (Jvm.Cond.selects "TableauNodes$GoodTypes" ({ cls := "TableauNodes$GoodTypes", name := "eachIs", desc := "(II)Z" } : Jvm.MethodName) ({ cls := "TableauNodes$GoodTypes", name := "eachIs", desc := "(II)Z" } : Jvm.MethodName)) ∈ tq_T := tq_in (List.mem_of_getElem? (i := 459) (by decide +kernel)) (by decide +kernel)
theorem tw_413 : (Jvm.Cond.code ({ cls := "TableauNodes$GoodTypes", name := "eachIs", desc := "(II)Z" } : Jvm.MethodName) prog_3_method_11_code (4 : Nat) (Option.some Jvm.ClassFile.FieldType.boolean)) ∈ tq_T := tq_in (List.mem_of_getElem? (i := 460) (by decide +kernel)) (by decide +kernel)
theorem tw_414 : (Jvm.Cond.methodLink "TableauNodesLaw" (57 : Nat) ({ cls := "TableauNodes", name := "types", desc := "()I" } : Jvm.MethodName)) ∈ tq_T := tq_in (List.mem_of_getElem? (i := 461) (by decide +kernel)) (by decide +kernel)
theorem tw_415 : (Jvm.Cond.instanceMethod ({ cls := "TableauNodes", name := "types", desc := "()I" } : Jvm.MethodName)) ∈ tq_T := tq_in (List.mem_of_getElem? (i := 462) (by decide +kernel)) (by decide +kernel)
theorem tw_416 : (Jvm.Cond.selects "TableauNodes" ({ cls := "TableauNodes", name := "types", desc := "()I" } : Jvm.MethodName) ({ cls := "TableauNodes", name := "types", desc := "()I" } : Jvm.MethodName)) ∈ tq_T := tq_in (List.mem_of_getElem? (i := 463) (by decide +kernel)) (by decide +kernel)
theorem tw_417 : (Jvm.Cond.code ({ cls := "TableauNodes", name := "types", desc := "()I" } : Jvm.MethodName) prog_1_method_12_code (1 : Nat) (Option.some Jvm.ClassFile.FieldType.int)) ∈ tq_T := tq_in (List.mem_of_getElem? (i := 464) (by decide +kernel)) (by decide +kernel)
theorem tw_418 : (Jvm.Cond.methodLink "TableauNodes" (88 : Nat) ({ cls := "TableauNodes$GoodTypes", name := "size", desc := "()I" } : Jvm.MethodName)) ∈ tq_T := tq_in (List.mem_of_getElem? (i := 465) (by decide +kernel)) (by decide +kernel)
theorem tw_419 : (Jvm.Cond.instanceMethod ({ cls := "TableauNodes$GoodTypes", name := "size", desc := "()I" } : Jvm.MethodName)) ∈ tq_T := tq_in (List.mem_of_getElem? (i := 466) (by decide +kernel)) (by decide +kernel)
theorem tw_420 : (Jvm.Cond.selects "TableauNodes$GoodTypes" ({ cls := "TableauNodes$GoodTypes", name := "size", desc := "()I" } : Jvm.MethodName) ({ cls := "TableauNodes$GoodTypes", name := "size", desc := "()I" } : Jvm.MethodName)) ∈ tq_T := tq_in (List.mem_of_getElem? (i := 467) (by decide +kernel)) (by decide +kernel)
theorem tw_421 : (Jvm.Cond.code ({ cls := "TableauNodes$GoodTypes", name := "size", desc := "()I" } : Jvm.MethodName) prog_3_method_7_code (3 : Nat) (Option.some Jvm.ClassFile.FieldType.int)) ∈ tq_T := tq_in (List.mem_of_getElem? (i := 468) (by decide +kernel)) (by decide +kernel)
theorem tw_422 : (Jvm.Cond.methodLink "TableauNodesLaw" (61 : Nat) ({ cls := "TableauNodes", name := "rounds", desc := "()I" } : Jvm.MethodName)) ∈ tq_T := tq_in (List.mem_of_getElem? (i := 469) (by decide +kernel)) (by decide +kernel)
theorem tw_423 : (Jvm.Cond.instanceMethod ({ cls := "TableauNodes", name := "rounds", desc := "()I" } : Jvm.MethodName)) ∈ tq_T := tq_in (List.mem_of_getElem? (i := 470) (by decide +kernel)) (by decide +kernel)
theorem tw_424 : (Jvm.Cond.selects "TableauNodes" ({ cls := "TableauNodes", name := "rounds", desc := "()I" } : Jvm.MethodName) ({ cls := "TableauNodes", name := "rounds", desc := "()I" } : Jvm.MethodName)) ∈ tq_T := tq_in (List.mem_of_getElem? (i := 471) (by decide +kernel)) (by decide +kernel)
theorem tw_425 : (Jvm.Cond.code ({ cls := "TableauNodes", name := "rounds", desc := "()I" } : Jvm.MethodName) prog_1_method_13_code (1 : Nat) (Option.some Jvm.ClassFile.FieldType.int)) ∈ tq_T := tq_in (List.mem_of_getElem? (i := 472) (by decide +kernel)) (by decide +kernel)
theorem tw_426 : (Jvm.Cond.methodLink "TableauNodes" (89 : Nat) ({ cls := "TableauNodes$GoodTypes", name := "roundCount", desc := "()I" } : Jvm.MethodName)) ∈ tq_T := tq_in (List.mem_of_getElem? (i := 473) (by decide +kernel)) (by decide +kernel)
theorem tw_427 : (Jvm.Cond.instanceMethod ({ cls := "TableauNodes$GoodTypes", name := "roundCount", desc := "()I" } : Jvm.MethodName)) ∈ tq_T := tq_in (List.mem_of_getElem? (i := 474) (by decide +kernel)) (by decide +kernel)
theorem tw_428 : (Jvm.Cond.selects "TableauNodes$GoodTypes" ({ cls := "TableauNodes$GoodTypes", name := "roundCount", desc := "()I" } : Jvm.MethodName) ({ cls := "TableauNodes$GoodTypes", name := "roundCount", desc := "()I" } : Jvm.MethodName)) ∈ tq_T := tq_in (List.mem_of_getElem? (i := 475) (by decide +kernel)) (by decide +kernel)
theorem tw_429 : (Jvm.Cond.code ({ cls := "TableauNodes$GoodTypes", name := "roundCount", desc := "()I" } : Jvm.MethodName) prog_3_method_8_code (1 : Nat) (Option.some Jvm.ClassFile.FieldType.int)) ∈ tq_T := tq_in (List.mem_of_getElem? (i := 476) (by decide +kernel)) (by decide +kernel)
theorem tw_430 : (Jvm.Cond.methodLink "TableauNodesLaw" (65 : Nat) ({ cls := "TableauNodes", name := "depth", desc := "(I)I" } : Jvm.MethodName)) ∈ tq_T := tq_in (List.mem_of_getElem? (i := 477) (by decide +kernel)) (by decide +kernel)
theorem tw_431 : (Jvm.Cond.instanceMethod ({ cls := "TableauNodes", name := "depth", desc := "(I)I" } : Jvm.MethodName)) ∈ tq_T := tq_in (List.mem_of_getElem? (i := 478) (by decide +kernel)) (by decide +kernel)
theorem tw_432 : (Jvm.Cond.selects "TableauNodes" ({ cls := "TableauNodes", name := "depth", desc := "(I)I" } : Jvm.MethodName) ({ cls := "TableauNodes", name := "depth", desc := "(I)I" } : Jvm.MethodName)) ∈ tq_T := tq_in (List.mem_of_getElem? (i := 479) (by decide +kernel)) (by decide +kernel)
theorem tw_433 : (Jvm.Cond.code ({ cls := "TableauNodes", name := "depth", desc := "(I)I" } : Jvm.MethodName) prog_1_method_14_code (2 : Nat) (Option.some Jvm.ClassFile.FieldType.int)) ∈ tq_T := tq_in (List.mem_of_getElem? (i := 480) (by decide +kernel)) (by decide +kernel)
theorem tw_434 : (Jvm.Cond.methodLink "TableauNodes" (92 : Nat) ({ cls := "TableauNodes$Concepts", name := "typeCount", desc := "()I" } : Jvm.MethodName)) ∈ tq_T := tq_in (List.mem_of_getElem? (i := 481) (by decide +kernel)) (by decide +kernel)
theorem tw_435 : (Jvm.Cond.methodLink "TableauNodes" (95 : Nat) ({ cls := "TableauNodes$GoodTypes", name := "depthOf", desc := "(I)I" } : Jvm.MethodName)) ∈ tq_T := tq_in (List.mem_of_getElem? (i := 482) (by decide +kernel)) (by decide +kernel)
theorem tw_436 : (Jvm.Cond.instanceMethod ({ cls := "TableauNodes$GoodTypes", name := "depthOf", desc := "(I)I" } : Jvm.MethodName)) ∈ tq_T := tq_in (List.mem_of_getElem? (i := 483) (by decide +kernel)) (by decide +kernel)
theorem tw_437 : (Jvm.Cond.selects "TableauNodes$GoodTypes" ({ cls := "TableauNodes$GoodTypes", name := "depthOf", desc := "(I)I" } : Jvm.MethodName) ({ cls := "TableauNodes$GoodTypes", name := "depthOf", desc := "(I)I" } : Jvm.MethodName)) ∈ tq_T := tq_in (List.mem_of_getElem? (i := 484) (by decide +kernel)) (by decide +kernel)
theorem tw_438 : (Jvm.Cond.code ({ cls := "TableauNodes$GoodTypes", name := "depthOf", desc := "(I)I" } : Jvm.MethodName) prog_3_method_9_code (2 : Nat) (Option.some Jvm.ClassFile.FieldType.int)) ∈ tq_T := tq_in (List.mem_of_getElem? (i := 485) (by decide +kernel)) (by decide +kernel)
theorem tw_440 : (Jvm.Cond.methodLink "TableauNodesLaw" (69 : Nat) ({ cls := "TableauNodes", name := "individual", desc := "(II)I" } : Jvm.MethodName)) ∈ tq_T := tq_in (List.mem_of_getElem? (i := 487) (by decide +kernel)) (by decide +kernel)
theorem tw_441 : (Jvm.Cond.instanceMethod ({ cls := "TableauNodes", name := "individual", desc := "(II)I" } : Jvm.MethodName)) ∈ tq_T := tq_in (List.mem_of_getElem? (i := 488) (by decide +kernel)) (by decide +kernel)
theorem tw_442 : (Jvm.Cond.selects "TableauNodes" ({ cls := "TableauNodes", name := "individual", desc := "(II)I" } : Jvm.MethodName) ({ cls := "TableauNodes", name := "individual", desc := "(II)I" } : Jvm.MethodName)) ∈ tq_T := tq_in (List.mem_of_getElem? (i := 489) (by decide +kernel)) (by decide +kernel)
theorem tw_443 : (Jvm.Cond.code ({ cls := "TableauNodes", name := "individual", desc := "(II)I" } : Jvm.MethodName) prog_1_method_15_code (3 : Nat) (Option.some Jvm.ClassFile.FieldType.int)) ∈ tq_T := tq_in (List.mem_of_getElem? (i := 490) (by decide +kernel)) (by decide +kernel)
theorem tw_444 : (Jvm.Cond.methodLink "TableauNodes" (99 : Nat) ({ cls := "TableauNodes$Things", name := "sayIs", desc := "(II)I" } : Jvm.MethodName)) ∈ tq_T := tq_in (List.mem_of_getElem? (i := 491) (by decide +kernel)) (by decide +kernel)
theorem tw_445 : (Jvm.Cond.instanceMethod ({ cls := "TableauNodes$Things", name := "sayIs", desc := "(II)I" } : Jvm.MethodName)) ∈ tq_T := tq_in (List.mem_of_getElem? (i := 492) (by decide +kernel)) (by decide +kernel)
theorem tw_446 : (Jvm.Cond.selects "TableauNodes$Things" ({ cls := "TableauNodes$Things", name := "sayIs", desc := "(II)I" } : Jvm.MethodName) ({ cls := "TableauNodes$Things", name := "sayIs", desc := "(II)I" } : Jvm.MethodName)) ∈ tq_T := tq_in (List.mem_of_getElem? (i := 493) (by decide +kernel)) (by decide +kernel)
theorem tw_447 : (Jvm.Cond.code ({ cls := "TableauNodes$Things", name := "sayIs", desc := "(II)I" } : Jvm.MethodName) prog_5_method_2_code (4 : Nat) (Option.some Jvm.ClassFile.FieldType.int)) ∈ tq_T := tq_in (List.mem_of_getElem? (i := 494) (by decide +kernel)) (by decide +kernel)
theorem tw_449 : (Jvm.Cond.methodLink "TableauNodes$Things" (53 : Nat) ({ cls := "TableauNodes$Concepts", name := "word", desc := "(II)J" } : Jvm.MethodName)) ∈ tq_T := tq_in (List.mem_of_getElem? (i := 496) (by decide +kernel)) (by decide +kernel)
theorem tw_450 : (Jvm.Cond.methodLink "TableauNodesLaw" (73 : Nat) ({ cls := "TableauNodes", name := "has", desc := "(III)I" } : Jvm.MethodName)) ∈ tq_T := tq_in (List.mem_of_getElem? (i := 497) (by decide +kernel)) (by decide +kernel)
theorem tw_451 : (Jvm.Cond.instanceMethod ({ cls := "TableauNodes", name := "has", desc := "(III)I" } : Jvm.MethodName)) ∈ tq_T := tq_in (List.mem_of_getElem? (i := 498) (by decide +kernel)) (by decide +kernel)
theorem tw_452 : (Jvm.Cond.selects "TableauNodes" ({ cls := "TableauNodes", name := "has", desc := "(III)I" } : Jvm.MethodName) ({ cls := "TableauNodes", name := "has", desc := "(III)I" } : Jvm.MethodName)) ∈ tq_T := tq_in (List.mem_of_getElem? (i := 499) (by decide +kernel)) (by decide +kernel)
theorem tw_453 : (Jvm.Cond.code ({ cls := "TableauNodes", name := "has", desc := "(III)I" } : Jvm.MethodName) prog_1_method_16_code (5 : Nat) (Option.some Jvm.ClassFile.FieldType.int)) ∈ tq_T := tq_in (List.mem_of_getElem? (i := 500) (by decide +kernel)) (by decide +kernel)
theorem tw_454 : (Jvm.Cond.methodLink "TableauNodes" (102 : Nat) ({ cls := "TableauNodes$Things", name := "sayHas", desc := "(III)I" } : Jvm.MethodName)) ∈ tq_T := tq_in (List.mem_of_getElem? (i := 501) (by decide +kernel)) (by decide +kernel)
theorem tw_455 : (Jvm.Cond.instanceMethod ({ cls := "TableauNodes$Things", name := "sayHas", desc := "(III)I" } : Jvm.MethodName)) ∈ tq_T := tq_in (List.mem_of_getElem? (i := 502) (by decide +kernel)) (by decide +kernel)
theorem tw_456 : (Jvm.Cond.selects "TableauNodes$Things" ({ cls := "TableauNodes$Things", name := "sayHas", desc := "(III)I" } : Jvm.MethodName) ({ cls := "TableauNodes$Things", name := "sayHas", desc := "(III)I" } : Jvm.MethodName)) ∈ tq_T := tq_in (List.mem_of_getElem? (i := 503) (by decide +kernel)) (by decide +kernel)
theorem tw_457 : (Jvm.Cond.code ({ cls := "TableauNodes$Things", name := "sayHas", desc := "(III)I" } : Jvm.MethodName) prog_5_method_3_code (4 : Nat) (Option.some Jvm.ClassFile.FieldType.int)) ∈ tq_T := tq_in (List.mem_of_getElem? (i := 504) (by decide +kernel)) (by decide +kernel)
theorem tw_458 : (Jvm.Cond.methodLink "TableauNodesLaw" (77 : Nat) ({ cls := "TableauNodes", name := "forget", desc := "()I" } : Jvm.MethodName)) ∈ tq_T := tq_in (List.mem_of_getElem? (i := 505) (by decide +kernel)) (by decide +kernel)
theorem tw_459 : (Jvm.Cond.instanceMethod ({ cls := "TableauNodes", name := "forget", desc := "()I" } : Jvm.MethodName)) ∈ tq_T := tq_in (List.mem_of_getElem? (i := 506) (by decide +kernel)) (by decide +kernel)
theorem tw_460 : (Jvm.Cond.selects "TableauNodes" ({ cls := "TableauNodes", name := "forget", desc := "()I" } : Jvm.MethodName) ({ cls := "TableauNodes", name := "forget", desc := "()I" } : Jvm.MethodName)) ∈ tq_T := tq_in (List.mem_of_getElem? (i := 507) (by decide +kernel)) (by decide +kernel)
theorem tw_461 : (Jvm.Cond.code ({ cls := "TableauNodes", name := "forget", desc := "()I" } : Jvm.MethodName) prog_1_method_17_code (1 : Nat) (Option.some Jvm.ClassFile.FieldType.int)) ∈ tq_T := tq_in (List.mem_of_getElem? (i := 508) (by decide +kernel)) (by decide +kernel)
theorem tw_462 : (Jvm.Cond.methodLink "TableauNodes" (105 : Nat) ({ cls := "TableauNodes$Things", name := "forgetAll", desc := "()I" } : Jvm.MethodName)) ∈ tq_T := tq_in (List.mem_of_getElem? (i := 509) (by decide +kernel)) (by decide +kernel)
theorem tw_463 : (Jvm.Cond.instanceMethod ({ cls := "TableauNodes$Things", name := "forgetAll", desc := "()I" } : Jvm.MethodName)) ∈ tq_T := tq_in (List.mem_of_getElem? (i := 510) (by decide +kernel)) (by decide +kernel)
theorem tw_464 : (Jvm.Cond.selects "TableauNodes$Things" ({ cls := "TableauNodes$Things", name := "forgetAll", desc := "()I" } : Jvm.MethodName) ({ cls := "TableauNodes$Things", name := "forgetAll", desc := "()I" } : Jvm.MethodName)) ∈ tq_T := tq_in (List.mem_of_getElem? (i := 511) (by decide +kernel)) (by decide +kernel)
theorem tw_465 : (Jvm.Cond.code ({ cls := "TableauNodes$Things", name := "forgetAll", desc := "()I" } : Jvm.MethodName) prog_5_method_4_code (2 : Nat) (Option.some Jvm.ClassFile.FieldType.int)) ∈ tq_T := tq_in (List.mem_of_getElem? (i := 512) (by decide +kernel)) (by decide +kernel)
theorem tw_466 : (Jvm.Cond.methodLink "TableauNodesLaw" (81 : Nat) ({ cls := "TableauNodes", name := "run", desc := "()I" } : Jvm.MethodName)) ∈ tq_T := tq_in (List.mem_of_getElem? (i := 513) (by decide +kernel)) (by decide +kernel)
theorem tw_467 : (Jvm.Cond.instanceMethod ({ cls := "TableauNodes", name := "run", desc := "()I" } : Jvm.MethodName)) ∈ tq_T := tq_in (List.mem_of_getElem? (i := 514) (by decide +kernel)) (by decide +kernel)
theorem tw_468 : (Jvm.Cond.selects "TableauNodes" ({ cls := "TableauNodes", name := "run", desc := "()I" } : Jvm.MethodName) ({ cls := "TableauNodes", name := "run", desc := "()I" } : Jvm.MethodName)) ∈ tq_T := tq_in (List.mem_of_getElem? (i := 515) (by decide +kernel)) (by decide +kernel)
theorem tw_469 : (Jvm.Cond.code ({ cls := "TableauNodes", name := "run", desc := "()I" } : Jvm.MethodName) prog_1_method_18_code (1 : Nat) (Option.some Jvm.ClassFile.FieldType.int)) ∈ tq_T := tq_in (List.mem_of_getElem? (i := 516) (by decide +kernel)) (by decide +kernel)
theorem tw_470 : (Jvm.Cond.methodLink "TableauNodes" (108 : Nat) ({ cls := "TableauNodes$Things", name := "settle", desc := "()V" } : Jvm.MethodName)) ∈ tq_T := tq_in (List.mem_of_getElem? (i := 517) (by decide +kernel)) (by decide +kernel)
theorem tw_471 : (Jvm.Cond.instanceMethod ({ cls := "TableauNodes$Things", name := "settle", desc := "()V" } : Jvm.MethodName)) ∈ tq_T := tq_in (List.mem_of_getElem? (i := 518) (by decide +kernel)) (by decide +kernel)
theorem tw_472 : (Jvm.Cond.selects "TableauNodes$Things" ({ cls := "TableauNodes$Things", name := "settle", desc := "()V" } : Jvm.MethodName) ({ cls := "TableauNodes$Things", name := "settle", desc := "()V" } : Jvm.MethodName)) ∈ tq_T := tq_in (List.mem_of_getElem? (i := 519) (by decide +kernel)) (by decide +kernel)
theorem tw_473 : (Jvm.Cond.code ({ cls := "TableauNodes$Things", name := "settle", desc := "()V" } : Jvm.MethodName) prog_5_method_5_code (2 : Nat) (Option.none : Option Jvm.ClassFile.FieldType)) ∈ tq_T := tq_in (List.mem_of_getElem? (i := 520) (by decide +kernel)) (by decide +kernel)
theorem tw_474 : (Jvm.Cond.methodLink "TableauNodes$Things" (69 : Nat) ({ cls := "TableauNodes$GoodTypes", name := "version", desc := "()I" } : Jvm.MethodName)) ∈ tq_T := tq_in (List.mem_of_getElem? (i := 521) (by decide +kernel)) (by decide +kernel)
theorem tw_475 : (Jvm.Cond.instanceMethod ({ cls := "TableauNodes$GoodTypes", name := "version", desc := "()I" } : Jvm.MethodName)) ∈ tq_T := tq_in (List.mem_of_getElem? (i := 522) (by decide +kernel)) (by decide +kernel)
theorem tw_476 : (Jvm.Cond.selects "TableauNodes$GoodTypes" ({ cls := "TableauNodes$GoodTypes", name := "version", desc := "()I" } : Jvm.MethodName) ({ cls := "TableauNodes$GoodTypes", name := "version", desc := "()I" } : Jvm.MethodName)) ∈ tq_T := tq_in (List.mem_of_getElem? (i := 523) (by decide +kernel)) (by decide +kernel)
theorem tw_477 : (Jvm.Cond.code ({ cls := "TableauNodes$GoodTypes", name := "version", desc := "()I" } : Jvm.MethodName) prog_3_method_6_code (1 : Nat) (Option.some Jvm.ClassFile.FieldType.int)) ∈ tq_T := tq_in (List.mem_of_getElem? (i := 524) (by decide +kernel)) (by decide +kernel)
theorem tw_478 : (Jvm.Cond.methodLink "TableauNodes$Things" (75 : Nat) ({ cls := "TableauNodes$Things", name := "sortLinks", desc := "()V" } : Jvm.MethodName)) ∈ tq_T := tq_in (List.mem_of_getElem? (i := 525) (by decide +kernel)) (by decide +kernel)
theorem tw_480 : (Jvm.Cond.instanceMethod ({ cls := "TableauNodes$Things", name := "sortLinks", desc := "()V" } : Jvm.MethodName)) ∈ tq_T := tq_in (List.mem_of_getElem? (i := 527) (by decide +kernel)) (by decide +kernel)
theorem tw_481 : (Jvm.Cond.code ({ cls := "TableauNodes$Things", name := "sortLinks", desc := "()V" } : Jvm.MethodName) prog_5_method_10_code (3 : Nat) (Option.none : Option Jvm.ClassFile.FieldType)) ∈ tq_T := tq_in (List.mem_of_getElem? (i := 528) (by decide +kernel)) (by decide +kernel)
theorem tw_483 : (Jvm.Cond.methodLink "TableauNodes$Things" (111 : Nat) ({ cls := "TableauNodes$GoodTypes", name := "watched", desc := "(I)I" } : Jvm.MethodName)) ∈ tq_T := tq_in (List.mem_of_getElem? (i := 530) (by decide +kernel)) (by decide +kernel)
theorem tw_484 : (Jvm.Cond.instanceMethod ({ cls := "TableauNodes$GoodTypes", name := "watched", desc := "(I)I" } : Jvm.MethodName)) ∈ tq_T := tq_in (List.mem_of_getElem? (i := 531) (by decide +kernel)) (by decide +kernel)
theorem tw_485 : (Jvm.Cond.selects "TableauNodes$GoodTypes" ({ cls := "TableauNodes$GoodTypes", name := "watched", desc := "(I)I" } : Jvm.MethodName) ({ cls := "TableauNodes$GoodTypes", name := "watched", desc := "(I)I" } : Jvm.MethodName)) ∈ tq_T := tq_in (List.mem_of_getElem? (i := 532) (by decide +kernel)) (by decide +kernel)
theorem tw_486 : (Jvm.Cond.code ({ cls := "TableauNodes$GoodTypes", name := "watched", desc := "(I)I" } : Jvm.MethodName) prog_3_method_13_code (2 : Nat) (Option.some Jvm.ClassFile.FieldType.int)) ∈ tq_T := tq_in (List.mem_of_getElem? (i := 533) (by decide +kernel)) (by decide +kernel)
theorem tw_487 : (Jvm.Cond.methodLink "TableauNodes$Things" (78 : Nat) ({ cls := "TableauNodes$Things", name := "begin", desc := "()V" } : Jvm.MethodName)) ∈ tq_T := tq_in (List.mem_of_getElem? (i := 534) (by decide +kernel)) (by decide +kernel)
theorem tw_489 : (Jvm.Cond.instanceMethod ({ cls := "TableauNodes$Things", name := "begin", desc := "()V" } : Jvm.MethodName)) ∈ tq_T := tq_in (List.mem_of_getElem? (i := 536) (by decide +kernel)) (by decide +kernel)
theorem tw_490 : (Jvm.Cond.code ({ cls := "TableauNodes$Things", name := "begin", desc := "()V" } : Jvm.MethodName) prog_5_method_11_code (6 : Nat) (Option.none : Option Jvm.ClassFile.FieldType)) ∈ tq_T := tq_in (List.mem_of_getElem? (i := 537) (by decide +kernel)) (by decide +kernel)
theorem tw_491 : (Jvm.Cond.methodLink "TableauNodes$Things" (114 : Nat) ({ cls := "TableauNodes$Concepts", name := "wordCount", desc := "()I" } : Jvm.MethodName)) ∈ tq_T := tq_in (List.mem_of_getElem? (i := 538) (by decide +kernel)) (by decide +kernel)
theorem tw_492 : (Jvm.Cond.methodLink "TableauNodes$Things" (117 : Nat) ({ cls := "java/lang/Math", name := "min", desc := "(II)I" } : Jvm.MethodName)) ∈ tq_T := tq_in (List.mem_of_getElem? (i := 539) (by decide +kernel)) (by decide +kernel)
theorem tw_493 : (Jvm.Cond.static ({ cls := "java/lang/Math", name := "min", desc := "(II)I" } : Jvm.MethodName)) ∈ tq_T := tq_in (List.mem_of_getElem? (i := 540) (by decide +kernel)) (by decide +kernel)
theorem tw_494 : (Jvm.Cond.code ({ cls := "java/lang/Math", name := "min", desc := "(II)I" } : Jvm.MethodName) prog_10_method_69_code (2 : Nat) (Option.some Jvm.ClassFile.FieldType.int)) ∈ tq_T := tq_in (List.mem_of_getElem? (i := 541) (by decide +kernel)) (by decide +kernel)
theorem tw_495 : (Jvm.Cond.methodLink "TableauNodes$Things" (123 : Nat) ({ cls := "TableauNodes$GoodTypes", name := "word", desc := "(I)J" } : Jvm.MethodName)) ∈ tq_T := tq_in (List.mem_of_getElem? (i := 542) (by decide +kernel)) (by decide +kernel)
theorem tw_496 : (Jvm.Cond.instanceMethod ({ cls := "TableauNodes$GoodTypes", name := "word", desc := "(I)J" } : Jvm.MethodName)) ∈ tq_T := tq_in (List.mem_of_getElem? (i := 543) (by decide +kernel)) (by decide +kernel)
theorem tw_497 : (Jvm.Cond.selects "TableauNodes$GoodTypes" ({ cls := "TableauNodes$GoodTypes", name := "word", desc := "(I)J" } : Jvm.MethodName) ({ cls := "TableauNodes$GoodTypes", name := "word", desc := "(I)J" } : Jvm.MethodName)) ∈ tq_T := tq_in (List.mem_of_getElem? (i := 544) (by decide +kernel)) (by decide +kernel)
theorem tw_498 : (Jvm.Cond.code ({ cls := "TableauNodes$GoodTypes", name := "word", desc := "(I)J" } : Jvm.MethodName) prog_3_method_12_code (2 : Nat) (Option.some Jvm.ClassFile.FieldType.long)) ∈ tq_T := tq_in (List.mem_of_getElem? (i := 545) (by decide +kernel)) (by decide +kernel)
theorem tw_499 : (Jvm.Cond.methodLink "TableauNodes$Things" (126 : Nat) ({ cls := "TableauNodes$Things", name := "seeingThemselves", desc := "(JII)J" } : Jvm.MethodName)) ∈ tq_T := tq_in (List.mem_of_getElem? (i := 546) (by decide +kernel)) (by decide +kernel)
theorem tw_501 : (Jvm.Cond.instanceMethod ({ cls := "TableauNodes$Things", name := "seeingThemselves", desc := "(JII)J" } : Jvm.MethodName)) ∈ tq_T := tq_in (List.mem_of_getElem? (i := 548) (by decide +kernel)) (by decide +kernel)
theorem tw_502 : (Jvm.Cond.code ({ cls := "TableauNodes$Things", name := "seeingThemselves", desc := "(JII)J" } : Jvm.MethodName) prog_5_method_12_code (8 : Nat) (Option.some Jvm.ClassFile.FieldType.long)) ∈ tq_T := tq_in (List.mem_of_getElem? (i := 549) (by decide +kernel)) (by decide +kernel)
theorem tw_503 : (Jvm.Cond.methodLink "TableauNodes$Things" (130 : Nat) ({ cls := "TableauNodes$Concepts", name := "atomWord", desc := "(II)J" } : Jvm.MethodName)) ∈ tq_T := tq_in (List.mem_of_getElem? (i := 550) (by decide +kernel)) (by decide +kernel)
theorem tw_504 : (Jvm.Cond.methodLink "TableauNodes$Things" (133 : Nat) ({ cls := "TableauNodes$Concepts", name := "innerWord", desc := "(II)J" } : Jvm.MethodName)) ∈ tq_T := tq_in (List.mem_of_getElem? (i := 551) (by decide +kernel)) (by decide +kernel)
theorem tw_505 : (Jvm.Cond.instanceMethod ({ cls := "TableauNodes$Concepts", name := "innerWord", desc := "(II)J" } : Jvm.MethodName)) ∈ tq_T := tq_in (List.mem_of_getElem? (i := 552) (by decide +kernel)) (by decide +kernel)
theorem tw_506 : (Jvm.Cond.selects "TableauNodes$Concepts" ({ cls := "TableauNodes$Concepts", name := "innerWord", desc := "(II)J" } : Jvm.MethodName) ({ cls := "TableauNodes$Concepts", name := "innerWord", desc := "(II)J" } : Jvm.MethodName)) ∈ tq_T := tq_in (List.mem_of_getElem? (i := 553) (by decide +kernel)) (by decide +kernel)
theorem tw_507 : (Jvm.Cond.code ({ cls := "TableauNodes$Concepts", name := "innerWord", desc := "(II)J" } : Jvm.MethodName) prog_2_method_14_code (4 : Nat) (Option.some Jvm.ClassFile.FieldType.long)) ∈ tq_T := tq_in (List.mem_of_getElem? (i := 554) (by decide +kernel)) (by decide +kernel)
theorem tw_508 : (Jvm.Cond.methodLink "TableauNodes$Things" (81 : Nat) ({ cls := "TableauNodes$Things", name := "canExtend", desc := "(II)Z" } : Jvm.MethodName)) ∈ tq_T := tq_in (List.mem_of_getElem? (i := 555) (by decide +kernel)) (by decide +kernel)
theorem tw_510 : (Jvm.Cond.instanceMethod ({ cls := "TableauNodes$Things", name := "canExtend", desc := "(II)Z" } : Jvm.MethodName)) ∈ tq_T := tq_in (List.mem_of_getElem? (i := 557) (by decide +kernel)) (by decide +kernel)
theorem tw_511 : (Jvm.Cond.code ({ cls := "TableauNodes$Things", name := "canExtend", desc := "(II)Z" } : Jvm.MethodName) prog_5_method_14_code (8 : Nat) (Option.some Jvm.ClassFile.FieldType.boolean)) ∈ tq_T := tq_in (List.mem_of_getElem? (i := 558) (by decide +kernel)) (by decide +kernel)
theorem tw_512 : (Jvm.Cond.methodLink "TableauNodes$Things" (142 : Nat) ({ cls := "java/lang/Integer", name := "bitCount", desc := "(I)I" } : Jvm.MethodName)) ∈ tq_T := tq_in (List.mem_of_getElem? (i := 559) (by decide +kernel)) (by decide +kernel)
theorem tw_513 : (Jvm.Cond.methodLink "TableauNodes$Things" (146 : Nat) ({ cls := "TableauNodes$Things", name := "mostBound", desc := "(II)I" } : Jvm.MethodName)) ∈ tq_T := tq_in (List.mem_of_getElem? (i := 560) (by decide +kernel)) (by decide +kernel)
theorem tw_515 : (Jvm.Cond.instanceMethod ({ cls := "TableauNodes$Things", name := "mostBound", desc := "(II)I" } : Jvm.MethodName)) ∈ tq_T := tq_in (List.mem_of_getElem? (i := 562) (by decide +kernel)) (by decide +kernel)
theorem tw_516 : (Jvm.Cond.code ({ cls := "TableauNodes$Things", name := "mostBound", desc := "(II)I" } : Jvm.MethodName) prog_5_method_15_code (7 : Nat) (Option.some Jvm.ClassFile.FieldType.int)) ∈ tq_T := tq_in (List.mem_of_getElem? (i := 563) (by decide +kernel)) (by decide +kernel)
theorem tw_517 : (Jvm.Cond.methodLink "TableauNodes$Things" (157 : Nat) ({ cls := "TableauNodes$Things", name := "countLeft", desc := "(II)I" } : Jvm.MethodName)) ∈ tq_T := tq_in (List.mem_of_getElem? (i := 564) (by decide +kernel)) (by decide +kernel)
theorem tw_519 : (Jvm.Cond.instanceMethod ({ cls := "TableauNodes$Things", name := "countLeft", desc := "(II)I" } : Jvm.MethodName)) ∈ tq_T := tq_in (List.mem_of_getElem? (i := 566) (by decide +kernel)) (by decide +kernel)
theorem tw_520 : (Jvm.Cond.code ({ cls := "TableauNodes$Things", name := "countLeft", desc := "(II)I" } : Jvm.MethodName) prog_5_method_13_code (6 : Nat) (Option.some Jvm.ClassFile.FieldType.int)) ∈ tq_T := tq_in (List.mem_of_getElem? (i := 567) (by decide +kernel)) (by decide +kernel)
theorem tw_521 : (Jvm.Cond.methodLink "TableauNodes$Things" (136 : Nat) ({ cls := "java/lang/Long", name := "bitCount", desc := "(J)I" } : Jvm.MethodName)) ∈ tq_T := tq_in (List.mem_of_getElem? (i := 568) (by decide +kernel)) (by decide +kernel)
theorem tw_522 : (Jvm.Cond.methodLink "TableauNodes$Things" (149 : Nat) ({ cls := "TableauNodes$Things", name := "findDemands", desc := "(III)I" } : Jvm.MethodName)) ∈ tq_T := tq_in (List.mem_of_getElem? (i := 569) (by decide +kernel)) (by decide +kernel)
theorem tw_524 : (Jvm.Cond.instanceMethod ({ cls := "TableauNodes$Things", name := "findDemands", desc := "(III)I" } : Jvm.MethodName)) ∈ tq_T := tq_in (List.mem_of_getElem? (i := 571) (by decide +kernel)) (by decide +kernel)
theorem tw_525 : (Jvm.Cond.code ({ cls := "TableauNodes$Things", name := "findDemands", desc := "(III)I" } : Jvm.MethodName) prog_5_method_16_code (14 : Nat) (Option.some Jvm.ClassFile.FieldType.int)) ∈ tq_T := tq_in (List.mem_of_getElem? (i := 572) (by decide +kernel)) (by decide +kernel)
theorem tw_527 : (Jvm.Cond.methodLink "TableauNodes$Things" (163 : Nat) ({ cls := "TableauNodes$Concepts", name := "inners", desc := "(I)I" } : Jvm.MethodName)) ∈ tq_T := tq_in (List.mem_of_getElem? (i := 574) (by decide +kernel)) (by decide +kernel)
theorem tw_528 : (Jvm.Cond.methodLink "TableauNodes$Things" (166 : Nat) ({ cls := "TableauNodes$Things", name := "addDemand", desc := "(III)I" } : Jvm.MethodName)) ∈ tq_T := tq_in (List.mem_of_getElem? (i := 575) (by decide +kernel)) (by decide +kernel)
theorem tw_530 : (Jvm.Cond.instanceMethod ({ cls := "TableauNodes$Things", name := "addDemand", desc := "(III)I" } : Jvm.MethodName)) ∈ tq_T := tq_in (List.mem_of_getElem? (i := 577) (by decide +kernel)) (by decide +kernel)
theorem tw_531 : (Jvm.Cond.code ({ cls := "TableauNodes$Things", name := "addDemand", desc := "(III)I" } : Jvm.MethodName) prog_5_method_17_code (6 : Nat) (Option.some Jvm.ClassFile.FieldType.int)) ∈ tq_T := tq_in (List.mem_of_getElem? (i := 578) (by decide +kernel)) (by decide +kernel)
theorem tw_532 : (Jvm.Cond.methodLink "TableauNodes$Things" (153 : Nat) ({ cls := "TableauNodes$Things", name := "passOn", desc := "(IIII)Z" } : Jvm.MethodName)) ∈ tq_T := tq_in (List.mem_of_getElem? (i := 579) (by decide +kernel)) (by decide +kernel)
theorem tw_534 : (Jvm.Cond.instanceMethod ({ cls := "TableauNodes$Things", name := "passOn", desc := "(IIII)Z" } : Jvm.MethodName)) ∈ tq_T := tq_in (List.mem_of_getElem? (i := 581) (by decide +kernel)) (by decide +kernel)
theorem tw_535 : (Jvm.Cond.code ({ cls := "TableauNodes$Things", name := "passOn", desc := "(IIII)Z" } : Jvm.MethodName) prog_5_method_18_code (15 : Nat) (Option.some Jvm.ClassFile.FieldType.boolean)) ∈ tq_T := tq_in (List.mem_of_getElem? (i := 582) (by decide +kernel)) (by decide +kernel)
theorem tw_536 : (Jvm.Cond.methodLink "TableauNodes$Things" (169 : Nat) ({ cls := "TableauNodes$Things", name := "fitting", desc := "(JIII)J" } : Jvm.MethodName)) ∈ tq_T := tq_in (List.mem_of_getElem? (i := 583) (by decide +kernel)) (by decide +kernel)
theorem tw_538 : (Jvm.Cond.instanceMethod ({ cls := "TableauNodes$Things", name := "fitting", desc := "(JIII)J" } : Jvm.MethodName)) ∈ tq_T := tq_in (List.mem_of_getElem? (i := 585) (by decide +kernel)) (by decide +kernel)
theorem tw_539 : (Jvm.Cond.code ({ cls := "TableauNodes$Things", name := "fitting", desc := "(JIII)J" } : Jvm.MethodName) prog_5_method_19_code (10 : Nat) (Option.some Jvm.ClassFile.FieldType.long)) ∈ tq_T := tq_in (List.mem_of_getElem? (i := 586) (by decide +kernel)) (by decide +kernel)
theorem tw_540 : (Jvm.Cond.methodLink "TableauNodes$Things" (87 : Nat) ({ cls := "TableauNodes$Things", name := "leaveFirst", desc := "(I)Z" } : Jvm.MethodName)) ∈ tq_T := tq_in (List.mem_of_getElem? (i := 587) (by decide +kernel)) (by decide +kernel)
theorem tw_542 : (Jvm.Cond.instanceMethod ({ cls := "TableauNodes$Things", name := "leaveFirst", desc := "(I)Z" } : Jvm.MethodName)) ∈ tq_T := tq_in (List.mem_of_getElem? (i := 589) (by decide +kernel)) (by decide +kernel)
theorem tw_543 : (Jvm.Cond.code ({ cls := "TableauNodes$Things", name := "leaveFirst", desc := "(I)Z" } : Jvm.MethodName) prog_5_method_20_code (6 : Nat) (Option.some Jvm.ClassFile.FieldType.boolean)) ∈ tq_T := tq_in (List.mem_of_getElem? (i := 590) (by decide +kernel)) (by decide +kernel)
theorem tw_544 : (Jvm.Cond.methodLink "TableauNodes$Things" (95 : Nat) ({ cls := "TableauNodes$Things", name := "firstLeft", desc := "(I)I" } : Jvm.MethodName)) ∈ tq_T := tq_in (List.mem_of_getElem? (i := 591) (by decide +kernel)) (by decide +kernel)
theorem tw_546 : (Jvm.Cond.instanceMethod ({ cls := "TableauNodes$Things", name := "firstLeft", desc := "(I)I" } : Jvm.MethodName)) ∈ tq_T := tq_in (List.mem_of_getElem? (i := 593) (by decide +kernel)) (by decide +kernel)
theorem tw_547 : (Jvm.Cond.code ({ cls := "TableauNodes$Things", name := "firstLeft", desc := "(I)I" } : Jvm.MethodName) prog_5_method_25_code (5 : Nat) (Option.some Jvm.ClassFile.FieldType.int)) ∈ tq_T := tq_in (List.mem_of_getElem? (i := 594) (by decide +kernel)) (by decide +kernel)
theorem tw_548 : (Jvm.Cond.methodLink "TableauNodes$Things" (173 : Nat) ({ cls := "TableauNodes$Things", name := "keepSpare", desc := "(I)V" } : Jvm.MethodName)) ∈ tq_T := tq_in (List.mem_of_getElem? (i := 595) (by decide +kernel)) (by decide +kernel)
theorem tw_550 : (Jvm.Cond.instanceMethod ({ cls := "TableauNodes$Things", name := "keepSpare", desc := "(I)V" } : Jvm.MethodName)) ∈ tq_T := tq_in (List.mem_of_getElem? (i := 597) (by decide +kernel)) (by decide +kernel)
theorem tw_551 : (Jvm.Cond.code ({ cls := "TableauNodes$Things", name := "keepSpare", desc := "(I)V" } : Jvm.MethodName) prog_5_method_23_code (2 : Nat) (Option.none : Option Jvm.ClassFile.FieldType)) ∈ tq_T := tq_in (List.mem_of_getElem? (i := 598) (by decide +kernel)) (by decide +kernel)
theorem tw_552 : (Jvm.Cond.methodLink "TableauNodes$Things" (186 : Nat) ({ cls := "java/lang/System", name := "arraycopy", desc := "(Ljava/lang/Object;ILjava/lang/Object;II)V" } : Jvm.MethodName)) ∈ tq_T := tq_in (List.mem_of_getElem? (i := 599) (by decide +kernel)) (by decide +kernel)
theorem tw_553 : (Jvm.Cond.static ({ cls := "java/lang/System", name := "arraycopy", desc := "(Ljava/lang/Object;ILjava/lang/Object;II)V" } : Jvm.MethodName)) ∈ tq_T := tq_in (List.mem_of_getElem? (i := 600) (by decide +kernel)) (by decide +kernel)
theorem tw_554 : (Jvm.Cond.native ({ cls := "java/lang/System", name := "arraycopy", desc := "(Ljava/lang/Object;ILjava/lang/Object;II)V" } : Jvm.MethodName)) ∈ tq_T := tq_in (List.mem_of_getElem? (i := 601) (by decide +kernel)) (by decide +kernel)
theorem tw_555 : (Jvm.Cond.methodLink "TableauNodes$Things" (176 : Nat) ({ cls := "TableauNodes$Things", name := "takeSpare", desc := "(I)V" } : Jvm.MethodName)) ∈ tq_T := tq_in (List.mem_of_getElem? (i := 602) (by decide +kernel)) (by decide +kernel)
theorem tw_557 : (Jvm.Cond.instanceMethod ({ cls := "TableauNodes$Things", name := "takeSpare", desc := "(I)V" } : Jvm.MethodName)) ∈ tq_T := tq_in (List.mem_of_getElem? (i := 604) (by decide +kernel)) (by decide +kernel)
theorem tw_558 : (Jvm.Cond.code ({ cls := "TableauNodes$Things", name := "takeSpare", desc := "(I)V" } : Jvm.MethodName) prog_5_method_24_code (2 : Nat) (Option.none : Option Jvm.ClassFile.FieldType)) ∈ tq_T := tq_in (List.mem_of_getElem? (i := 605) (by decide +kernel)) (by decide +kernel)
theorem tw_559 : (Jvm.Cond.methodLink "TableauNodes$Things" (91 : Nat) ({ cls := "TableauNodes$Things", name := "leaveLeast", desc := "(I)V" } : Jvm.MethodName)) ∈ tq_T := tq_in (List.mem_of_getElem? (i := 606) (by decide +kernel)) (by decide +kernel)
theorem tw_561 : (Jvm.Cond.instanceMethod ({ cls := "TableauNodes$Things", name := "leaveLeast", desc := "(I)V" } : Jvm.MethodName)) ∈ tq_T := tq_in (List.mem_of_getElem? (i := 608) (by decide +kernel)) (by decide +kernel)
theorem tw_562 : (Jvm.Cond.code ({ cls := "TableauNodes$Things", name := "leaveLeast", desc := "(I)V" } : Jvm.MethodName) prog_5_method_21_code (5 : Nat) (Option.none : Option Jvm.ClassFile.FieldType)) ∈ tq_T := tq_in (List.mem_of_getElem? (i := 609) (by decide +kernel)) (by decide +kernel)
theorem tw_563 : (Jvm.Cond.methodLink "TableauNodes$Things" (179 : Nat) ({ cls := "TableauNodes$Concepts", name := "atomCount", desc := "()I" } : Jvm.MethodName)) ∈ tq_T := tq_in (List.mem_of_getElem? (i := 610) (by decide +kernel)) (by decide +kernel)
theorem tw_564 : (Jvm.Cond.methodLink "TableauNodes$Things" (182 : Nat) ({ cls := "TableauNodes$Things", name := "leaveHalf", desc := "(IIZ)V" } : Jvm.MethodName)) ∈ tq_T := tq_in (List.mem_of_getElem? (i := 611) (by decide +kernel)) (by decide +kernel)
theorem tw_566 : (Jvm.Cond.instanceMethod ({ cls := "TableauNodes$Things", name := "leaveHalf", desc := "(IIZ)V" } : Jvm.MethodName)) ∈ tq_T := tq_in (List.mem_of_getElem? (i := 613) (by decide +kernel)) (by decide +kernel)
theorem tw_567 : (Jvm.Cond.code ({ cls := "TableauNodes$Things", name := "leaveHalf", desc := "(IIZ)V" } : Jvm.MethodName) prog_5_method_22_code (7 : Nat) (Option.none : Option Jvm.ClassFile.FieldType)) ∈ tq_T := tq_in (List.mem_of_getElem? (i := 614) (by decide +kernel)) (by decide +kernel)
theorem tw_568 : (Jvm.Cond.methodLink "TableauNodes" (111 : Nat) ({ cls := "TableauNodes$Things", name := "goTogether", desc := "()Z" } : Jvm.MethodName)) ∈ tq_T := tq_in (List.mem_of_getElem? (i := 615) (by decide +kernel)) (by decide +kernel)
theorem tw_569 : (Jvm.Cond.instanceMethod ({ cls := "TableauNodes$Things", name := "goTogether", desc := "()Z" } : Jvm.MethodName)) ∈ tq_T := tq_in (List.mem_of_getElem? (i := 616) (by decide +kernel)) (by decide +kernel)
theorem tw_570 : (Jvm.Cond.selects "TableauNodes$Things" ({ cls := "TableauNodes$Things", name := "goTogether", desc := "()Z" } : Jvm.MethodName) ({ cls := "TableauNodes$Things", name := "goTogether", desc := "()Z" } : Jvm.MethodName)) ∈ tq_T := tq_in (List.mem_of_getElem? (i := 617) (by decide +kernel)) (by decide +kernel)
theorem tw_571 : (Jvm.Cond.code ({ cls := "TableauNodes$Things", name := "goTogether", desc := "()Z" } : Jvm.MethodName) prog_5_method_6_code (1 : Nat) (Option.some Jvm.ClassFile.FieldType.boolean)) ∈ tq_T := tq_in (List.mem_of_getElem? (i := 618) (by decide +kernel)) (by decide +kernel)
theorem tw_572 : (Jvm.Cond.methodLink "TableauNodesLaw" (85 : Nat) ({ cls := "TableauNodes", name := "model", desc := "(I)I" } : Jvm.MethodName)) ∈ tq_T := tq_in (List.mem_of_getElem? (i := 619) (by decide +kernel)) (by decide +kernel)
theorem tw_573 : (Jvm.Cond.instanceMethod ({ cls := "TableauNodes", name := "model", desc := "(I)I" } : Jvm.MethodName)) ∈ tq_T := tq_in (List.mem_of_getElem? (i := 620) (by decide +kernel)) (by decide +kernel)
theorem tw_574 : (Jvm.Cond.selects "TableauNodes" ({ cls := "TableauNodes", name := "model", desc := "(I)I" } : Jvm.MethodName) ({ cls := "TableauNodes", name := "model", desc := "(I)I" } : Jvm.MethodName)) ∈ tq_T := tq_in (List.mem_of_getElem? (i := 621) (by decide +kernel)) (by decide +kernel)
theorem tw_575 : (Jvm.Cond.code ({ cls := "TableauNodes", name := "model", desc := "(I)I" } : Jvm.MethodName) prog_1_method_19_code (2 : Nat) (Option.some Jvm.ClassFile.FieldType.int)) ∈ tq_T := tq_in (List.mem_of_getElem? (i := 622) (by decide +kernel)) (by decide +kernel)
theorem tw_576 : (Jvm.Cond.methodLink "TableauNodes" (115 : Nat) ({ cls := "TableauNodes$Things", name := "typeOf", desc := "(I)I" } : Jvm.MethodName)) ∈ tq_T := tq_in (List.mem_of_getElem? (i := 623) (by decide +kernel)) (by decide +kernel)
theorem tw_577 : (Jvm.Cond.instanceMethod ({ cls := "TableauNodes$Things", name := "typeOf", desc := "(I)I" } : Jvm.MethodName)) ∈ tq_T := tq_in (List.mem_of_getElem? (i := 624) (by decide +kernel)) (by decide +kernel)
theorem tw_578 : (Jvm.Cond.selects "TableauNodes$Things" ({ cls := "TableauNodes$Things", name := "typeOf", desc := "(I)I" } : Jvm.MethodName) ({ cls := "TableauNodes$Things", name := "typeOf", desc := "(I)I" } : Jvm.MethodName)) ∈ tq_T := tq_in (List.mem_of_getElem? (i := 625) (by decide +kernel)) (by decide +kernel)
theorem tw_579 : (Jvm.Cond.code ({ cls := "TableauNodes$Things", name := "typeOf", desc := "(I)I" } : Jvm.MethodName) prog_5_method_7_code (2 : Nat) (Option.some Jvm.ClassFile.FieldType.int)) ∈ tq_T := tq_in (List.mem_of_getElem? (i := 626) (by decide +kernel)) (by decide +kernel)
theorem tw_580 : (Jvm.Cond.methodLink "TableauNodesLaw" (89 : Nat) ({ cls := "TableauNodes", name := "surely", desc := "(II)I" } : Jvm.MethodName)) ∈ tq_T := tq_in (List.mem_of_getElem? (i := 627) (by decide +kernel)) (by decide +kernel)
theorem tw_581 : (Jvm.Cond.instanceMethod ({ cls := "TableauNodes", name := "surely", desc := "(II)I" } : Jvm.MethodName)) ∈ tq_T := tq_in (List.mem_of_getElem? (i := 628) (by decide +kernel)) (by decide +kernel)
theorem tw_582 : (Jvm.Cond.selects "TableauNodes" ({ cls := "TableauNodes", name := "surely", desc := "(II)I" } : Jvm.MethodName) ({ cls := "TableauNodes", name := "surely", desc := "(II)I" } : Jvm.MethodName)) ∈ tq_T := tq_in (List.mem_of_getElem? (i := 629) (by decide +kernel)) (by decide +kernel)
theorem tw_583 : (Jvm.Cond.code ({ cls := "TableauNodes", name := "surely", desc := "(II)I" } : Jvm.MethodName) prog_1_method_20_code (3 : Nat) (Option.some Jvm.ClassFile.FieldType.int)) ∈ tq_T := tq_in (List.mem_of_getElem? (i := 630) (by decide +kernel)) (by decide +kernel)
theorem tw_584 : (Jvm.Cond.methodLink "TableauNodes" (118 : Nat) ({ cls := "TableauNodes$Things", name := "canLack", desc := "(II)Z" } : Jvm.MethodName)) ∈ tq_T := tq_in (List.mem_of_getElem? (i := 631) (by decide +kernel)) (by decide +kernel)
theorem tw_585 : (Jvm.Cond.instanceMethod ({ cls := "TableauNodes$Things", name := "canLack", desc := "(II)Z" } : Jvm.MethodName)) ∈ tq_T := tq_in (List.mem_of_getElem? (i := 632) (by decide +kernel)) (by decide +kernel)
theorem tw_586 : (Jvm.Cond.selects "TableauNodes$Things" ({ cls := "TableauNodes$Things", name := "canLack", desc := "(II)Z" } : Jvm.MethodName) ({ cls := "TableauNodes$Things", name := "canLack", desc := "(II)Z" } : Jvm.MethodName)) ∈ tq_T := tq_in (List.mem_of_getElem? (i := 633) (by decide +kernel)) (by decide +kernel)
theorem tw_587 : (Jvm.Cond.code ({ cls := "TableauNodes$Things", name := "canLack", desc := "(II)Z" } : Jvm.MethodName) prog_5_method_8_code (4 : Nat) (Option.some Jvm.ClassFile.FieldType.boolean)) ∈ tq_T := tq_in (List.mem_of_getElem? (i := 634) (by decide +kernel)) (by decide +kernel)
theorem tw_588 : (Jvm.Cond.methodLink "TableauNodes$Things" (99 : Nat) ({ cls := "TableauNodes$Concepts", name := "holds", desc := "(II)Z" } : Jvm.MethodName)) ∈ tq_T := tq_in (List.mem_of_getElem? (i := 635) (by decide +kernel)) (by decide +kernel)
theorem tw_589 : (Jvm.Cond.instanceMethod ({ cls := "TableauNodes$Concepts", name := "holds", desc := "(II)Z" } : Jvm.MethodName)) ∈ tq_T := tq_in (List.mem_of_getElem? (i := 636) (by decide +kernel)) (by decide +kernel)
theorem tw_590 : (Jvm.Cond.selects "TableauNodes$Concepts" ({ cls := "TableauNodes$Concepts", name := "holds", desc := "(II)Z" } : Jvm.MethodName) ({ cls := "TableauNodes$Concepts", name := "holds", desc := "(II)Z" } : Jvm.MethodName)) ∈ tq_T := tq_in (List.mem_of_getElem? (i := 637) (by decide +kernel)) (by decide +kernel)
theorem tw_591 : (Jvm.Cond.code ({ cls := "TableauNodes$Concepts", name := "holds", desc := "(II)Z" } : Jvm.MethodName) prog_2_method_12_code (3 : Nat) (Option.some Jvm.ClassFile.FieldType.boolean)) ∈ tq_T := tq_in (List.mem_of_getElem? (i := 638) (by decide +kernel)) (by decide +kernel)
theorem tw_592 : (Jvm.Cond.classLink "TableauNodesLaw" (10 : Nat) "TableauNodesModel") ∈ tq_T := tq_in (List.mem_of_getElem? (i := 639) (by decide +kernel)) (by decide +kernel)
theorem tw_593 : (Jvm.Cond.instantiable "TableauNodesModel" (25 : Nat)) ∈ tq_T := tq_in (List.mem_of_getElem? (i := 640) (by decide +kernel)) (by decide +kernel)
theorem tw_594 : (Jvm.Cond.methodLink "TableauNodesLaw" (12 : Nat) ({ cls := "TableauNodesModel", name := "<init>", desc := "()V" } : Jvm.MethodName)) ∈ tq_T := tq_in (List.mem_of_getElem? (i := 641) (by decide +kernel)) (by decide +kernel)
theorem tw_595 : (Jvm.Cond.instanceMethod ({ cls := "TableauNodesModel", name := "<init>", desc := "()V" } : Jvm.MethodName)) ∈ tq_T := tq_in (List.mem_of_getElem? (i := 642) (by decide +kernel)) (by decide +kernel)
theorem tw_596 : (Jvm.Cond.code ({ cls := "TableauNodesModel", name := "<init>", desc := "()V" } : Jvm.MethodName) prog_7_method_1_code (1 : Nat) (Option.none : Option Jvm.ClassFile.FieldType)) ∈ tq_T := tq_in (List.mem_of_getElem? (i := 643) (by decide +kernel)) (by decide +kernel)
theorem tw_597 : (Jvm.Cond.methodLink "TableauNodesModel" (1 : Nat) ({ cls := "java/lang/Object", name := "<init>", desc := "()V" } : Jvm.MethodName)) ∈ tq_T := tq_in (List.mem_of_getElem? (i := 644) (by decide +kernel)) (by decide +kernel)
theorem tw_598 : (Jvm.Cond.constant "TableauNodesModel" (47 : Nat) (81920 : Int32)) ∈ tq_T := tq_in (List.mem_of_getElem? (i := 645) (by decide +kernel)) (by decide +kernel)
theorem tw_599 : (Jvm.Cond.fieldLink "TableauNodesModel" (7 : Nat) "TableauNodesModel" "kinds" "[I") ∈ tq_T := tq_in (List.mem_of_getElem? (i := 646) (by decide +kernel)) (by decide +kernel)
theorem tw_600 : (Jvm.Cond.fieldLink "TableauNodesModel" (13 : Nat) "TableauNodesModel" "firsts" "[I") ∈ tq_T := tq_in (List.mem_of_getElem? (i := 647) (by decide +kernel)) (by decide +kernel)
theorem tw_601 : (Jvm.Cond.fieldLink "TableauNodesModel" (16 : Nat) "TableauNodesModel" "seconds" "[I") ∈ tq_T := tq_in (List.mem_of_getElem? (i := 648) (by decide +kernel)) (by decide +kernel)
theorem tw_602 : (Jvm.Cond.fieldLink "TableauNodesModel" (66 : Nat) "TableauNodesModel" "count" "I") ∈ tq_T := tq_in (List.mem_of_getElem? (i := 649) (by decide +kernel)) (by decide +kernel)
theorem tw_603 : (Jvm.Cond.fieldLink "TableauNodesModel" (19 : Nat) "TableauNodesModel" "atoms" "[I") ∈ tq_T := tq_in (List.mem_of_getElem? (i := 650) (by decide +kernel)) (by decide +kernel)
theorem tw_604 : (Jvm.Cond.fieldLink "TableauNodesModel" (74 : Nat) "TableauNodesModel" "atomCount" "I") ∈ tq_T := tq_in (List.mem_of_getElem? (i := 651) (by decide +kernel)) (by decide +kernel)
theorem tw_605 : (Jvm.Cond.fieldLink "TableauNodesModel" (22 : Nat) "TableauNodesModel" "lefts" "[I") ∈ tq_T := tq_in (List.mem_of_getElem? (i := 652) (by decide +kernel)) (by decide +kernel)
theorem tw_606 : (Jvm.Cond.fieldLink "TableauNodesModel" (25 : Nat) "TableauNodesModel" "rights" "[I") ∈ tq_T := tq_in (List.mem_of_getElem? (i := 653) (by decide +kernel)) (by decide +kernel)
theorem tw_607 : (Jvm.Cond.fieldLink "TableauNodesModel" (91 : Nat) "TableauNodesModel" "axioms" "I") ∈ tq_T := tq_in (List.mem_of_getElem? (i := 654) (by decide +kernel)) (by decide +kernel)
theorem tw_608 : (Jvm.Cond.fieldLink "TableauNodesModel" (28 : Nat) "TableauNodesModel" "roles" "[Z") ∈ tq_T := tq_in (List.mem_of_getElem? (i := 655) (by decide +kernel)) (by decide +kernel)
theorem tw_609 : (Jvm.Cond.fieldLink "TableauNodesModel" (32 : Nat) "TableauNodesModel" "beings" "[I") ∈ tq_T := tq_in (List.mem_of_getElem? (i := 656) (by decide +kernel)) (by decide +kernel)
theorem tw_610 : (Jvm.Cond.fieldLink "TableauNodesModel" (35 : Nat) "TableauNodesModel" "saidOf" "[I") ∈ tq_T := tq_in (List.mem_of_getElem? (i := 657) (by decide +kernel)) (by decide +kernel)
theorem tw_611 : (Jvm.Cond.fieldLink "TableauNodesModel" (129 : Nat) "TableauNodesModel" "beingCount" "I") ∈ tq_T := tq_in (List.mem_of_getElem? (i := 658) (by decide +kernel)) (by decide +kernel)
theorem tw_612 : (Jvm.Cond.fieldLink "TableauNodesModel" (38 : Nat) "TableauNodesModel" "froms" "[I") ∈ tq_T := tq_in (List.mem_of_getElem? (i := 659) (by decide +kernel)) (by decide +kernel)
theorem tw_613 : (Jvm.Cond.fieldLink "TableauNodesModel" (41 : Nat) "TableauNodesModel" "bys" "[I") ∈ tq_T := tq_in (List.mem_of_getElem? (i := 660) (by decide +kernel)) (by decide +kernel)
theorem tw_614 : (Jvm.Cond.fieldLink "TableauNodesModel" (44 : Nat) "TableauNodesModel" "tos" "[I") ∈ tq_T := tq_in (List.mem_of_getElem? (i := 661) (by decide +kernel)) (by decide +kernel)
theorem tw_615 : (Jvm.Cond.fieldLink "TableauNodesModel" (132 : Nat) "TableauNodesModel" "linkCount" "I") ∈ tq_T := tq_in (List.mem_of_getElem? (i := 662) (by decide +kernel)) (by decide +kernel)
theorem tw_616 : (Jvm.Cond.fieldLink "TableauNodesModel" (77 : Nat) "TableauNodesModel" "known" "Z") ∈ tq_T := tq_in (List.mem_of_getElem? (i := 663) (by decide +kernel)) (by decide +kernel)
theorem tw_617 : (Jvm.Cond.fieldLink "TableauNodesModel" (48 : Nat) "TableauNodesModel" "holds" "[Z") ∈ tq_T := tq_in (List.mem_of_getElem? (i := 664) (by decide +kernel)) (by decide +kernel)
theorem tw_618 : (Jvm.Cond.fieldLink "TableauNodesModel" (51 : Nat) "TableauNodesModel" "owns" "[I") ∈ tq_T := tq_in (List.mem_of_getElem? (i := 665) (by decide +kernel)) (by decide +kernel)
theorem tw_619 : (Jvm.Cond.fieldLink "TableauNodesModel" (54 : Nat) "TableauNodesModel" "gone" "[I") ∈ tq_T := tq_in (List.mem_of_getElem? (i := 666) (by decide +kernel)) (by decide +kernel)
theorem tw_620 : (Jvm.Cond.fieldLink "TableauNodesModel" (57 : Nat) "TableauNodesModel" "under" "[Z") ∈ tq_T := tq_in (List.mem_of_getElem? (i := 667) (by decide +kernel)) (by decide +kernel)
theorem tw_621 : (Jvm.Cond.fieldLink "TableauNodesModel" (109 : Nat) "TableauNodesModel" "rounds" "I") ∈ tq_T := tq_in (List.mem_of_getElem? (i := 668) (by decide +kernel)) (by decide +kernel)
theorem tw_622 : (Jvm.Cond.fieldLink "TableauNodesModel" (60 : Nat) "TableauNodesModel" "may" "[Z") ∈ tq_T := tq_in (List.mem_of_getElem? (i := 669) (by decide +kernel)) (by decide +kernel)
theorem tw_623 : (Jvm.Cond.fieldLink "TableauNodesModel" (63 : Nat) "TableauNodesModel" "chosen" "[I") ∈ tq_T := tq_in (List.mem_of_getElem? (i := 670) (by decide +kernel)) (by decide +kernel)
theorem tw_624 : (Jvm.Cond.laysFinal "TableauNodesModel" "TableauNodesModel" "kinds" "[I") ∈ tq_T := tq_in (List.mem_of_getElem? (i := 671) (by decide +kernel)) (by decide +kernel)
theorem tw_626 : (Jvm.Cond.laysFinal "TableauNodesModel" "TableauNodesModel" "firsts" "[I") ∈ tq_T := tq_in (List.mem_of_getElem? (i := 673) (by decide +kernel)) (by decide +kernel)
theorem tw_628 : (Jvm.Cond.laysFinal "TableauNodesModel" "TableauNodesModel" "seconds" "[I") ∈ tq_T := tq_in (List.mem_of_getElem? (i := 675) (by decide +kernel)) (by decide +kernel)
theorem tw_630 : (Jvm.Cond.lays "TableauNodesModel" "TableauNodesModel" "count" "I") ∈ tq_T := tq_in (List.mem_of_getElem? (i := 677) (by decide +kernel)) (by decide +kernel)
theorem tw_632 : (Jvm.Cond.laysFinal "TableauNodesModel" "TableauNodesModel" "atoms" "[I") ∈ tq_T := tq_in (List.mem_of_getElem? (i := 679) (by decide +kernel)) (by decide +kernel)
theorem tw_634 : (Jvm.Cond.lays "TableauNodesModel" "TableauNodesModel" "atomCount" "I") ∈ tq_T := tq_in (List.mem_of_getElem? (i := 681) (by decide +kernel)) (by decide +kernel)
theorem tw_636 : (Jvm.Cond.laysFinal "TableauNodesModel" "TableauNodesModel" "lefts" "[I") ∈ tq_T := tq_in (List.mem_of_getElem? (i := 683) (by decide +kernel)) (by decide +kernel)
theorem tw_638 : (Jvm.Cond.laysFinal "TableauNodesModel" "TableauNodesModel" "rights" "[I") ∈ tq_T := tq_in (List.mem_of_getElem? (i := 685) (by decide +kernel)) (by decide +kernel)
theorem tw_640 : (Jvm.Cond.lays "TableauNodesModel" "TableauNodesModel" "axioms" "I") ∈ tq_T := tq_in (List.mem_of_getElem? (i := 687) (by decide +kernel)) (by decide +kernel)
theorem tw_642 : (Jvm.Cond.laysFinal "TableauNodesModel" "TableauNodesModel" "roles" "[Z") ∈ tq_T := tq_in (List.mem_of_getElem? (i := 689) (by decide +kernel)) (by decide +kernel)
theorem tw_644 : (Jvm.Cond.laysFinal "TableauNodesModel" "TableauNodesModel" "beings" "[I") ∈ tq_T := tq_in (List.mem_of_getElem? (i := 691) (by decide +kernel)) (by decide +kernel)
theorem tw_646 : (Jvm.Cond.laysFinal "TableauNodesModel" "TableauNodesModel" "saidOf" "[I") ∈ tq_T := tq_in (List.mem_of_getElem? (i := 693) (by decide +kernel)) (by decide +kernel)
theorem tw_648 : (Jvm.Cond.lays "TableauNodesModel" "TableauNodesModel" "beingCount" "I") ∈ tq_T := tq_in (List.mem_of_getElem? (i := 695) (by decide +kernel)) (by decide +kernel)
theorem tw_650 : (Jvm.Cond.laysFinal "TableauNodesModel" "TableauNodesModel" "froms" "[I") ∈ tq_T := tq_in (List.mem_of_getElem? (i := 697) (by decide +kernel)) (by decide +kernel)
theorem tw_652 : (Jvm.Cond.laysFinal "TableauNodesModel" "TableauNodesModel" "bys" "[I") ∈ tq_T := tq_in (List.mem_of_getElem? (i := 699) (by decide +kernel)) (by decide +kernel)
theorem tw_654 : (Jvm.Cond.laysFinal "TableauNodesModel" "TableauNodesModel" "tos" "[I") ∈ tq_T := tq_in (List.mem_of_getElem? (i := 701) (by decide +kernel)) (by decide +kernel)
theorem tw_656 : (Jvm.Cond.lays "TableauNodesModel" "TableauNodesModel" "linkCount" "I") ∈ tq_T := tq_in (List.mem_of_getElem? (i := 703) (by decide +kernel)) (by decide +kernel)
theorem tw_658 : (Jvm.Cond.lays "TableauNodesModel" "TableauNodesModel" "known" "Z") ∈ tq_T := tq_in (List.mem_of_getElem? (i := 705) (by decide +kernel)) (by decide +kernel)
theorem tw_660 : (Jvm.Cond.laysFinal "TableauNodesModel" "TableauNodesModel" "holds" "[Z") ∈ tq_T := tq_in (List.mem_of_getElem? (i := 707) (by decide +kernel)) (by decide +kernel)
theorem tw_662 : (Jvm.Cond.laysFinal "TableauNodesModel" "TableauNodesModel" "owns" "[I") ∈ tq_T := tq_in (List.mem_of_getElem? (i := 709) (by decide +kernel)) (by decide +kernel)
theorem tw_664 : (Jvm.Cond.laysFinal "TableauNodesModel" "TableauNodesModel" "gone" "[I") ∈ tq_T := tq_in (List.mem_of_getElem? (i := 711) (by decide +kernel)) (by decide +kernel)
theorem tw_666 : (Jvm.Cond.laysFinal "TableauNodesModel" "TableauNodesModel" "under" "[Z") ∈ tq_T := tq_in (List.mem_of_getElem? (i := 713) (by decide +kernel)) (by decide +kernel)
theorem tw_668 : (Jvm.Cond.lays "TableauNodesModel" "TableauNodesModel" "rounds" "I") ∈ tq_T := tq_in (List.mem_of_getElem? (i := 715) (by decide +kernel)) (by decide +kernel)
theorem tw_670 : (Jvm.Cond.laysFinal "TableauNodesModel" "TableauNodesModel" "may" "[Z") ∈ tq_T := tq_in (List.mem_of_getElem? (i := 717) (by decide +kernel)) (by decide +kernel)
theorem tw_672 : (Jvm.Cond.laysFinal "TableauNodesModel" "TableauNodesModel" "chosen" "[I") ∈ tq_T := tq_in (List.mem_of_getElem? (i := 719) (by decide +kernel)) (by decide +kernel)
theorem tw_675 : (Jvm.Cond.arrayClass Jvm.ClassFile.FieldType.boolean) ∈ tq_T := tq_in (List.mem_of_getElem? (i := 722) (by decide +kernel)) (by decide +kernel)
theorem tw_676 : (Jvm.Cond.methodLink "TableauNodesLaw" (17 : Nat) ({ cls := "TableauNodesModel", name := "class0", desc := "(I)I" } : Jvm.MethodName)) ∈ tq_T := tq_in (List.mem_of_getElem? (i := 723) (by decide +kernel)) (by decide +kernel)
theorem tw_677 : (Jvm.Cond.instanceMethod ({ cls := "TableauNodesModel", name := "class0", desc := "(I)I" } : Jvm.MethodName)) ∈ tq_T := tq_in (List.mem_of_getElem? (i := 724) (by decide +kernel)) (by decide +kernel)
theorem tw_678 : (Jvm.Cond.selects "TableauNodesModel" ({ cls := "TableauNodesModel", name := "class0", desc := "(I)I" } : Jvm.MethodName) ({ cls := "TableauNodesModel", name := "class0", desc := "(I)I" } : Jvm.MethodName)) ∈ tq_T := tq_in (List.mem_of_getElem? (i := 725) (by decide +kernel)) (by decide +kernel)
theorem tw_679 : (Jvm.Cond.code ({ cls := "TableauNodesModel", name := "class0", desc := "(I)I" } : Jvm.MethodName) prog_7_method_7_code (2 : Nat) (Option.some Jvm.ClassFile.FieldType.int)) ∈ tq_T := tq_in (List.mem_of_getElem? (i := 726) (by decide +kernel)) (by decide +kernel)
theorem tw_680 : (Jvm.Cond.methodLink "TableauNodesModel" (81 : Nat) ({ cls := "TableauNodesModel", name := "make", desc := "(III)I" } : Jvm.MethodName)) ∈ tq_T := tq_in (List.mem_of_getElem? (i := 727) (by decide +kernel)) (by decide +kernel)
theorem tw_682 : (Jvm.Cond.instanceMethod ({ cls := "TableauNodesModel", name := "make", desc := "(III)I" } : Jvm.MethodName)) ∈ tq_T := tq_in (List.mem_of_getElem? (i := 729) (by decide +kernel)) (by decide +kernel)
theorem tw_683 : (Jvm.Cond.code ({ cls := "TableauNodesModel", name := "make", desc := "(III)I" } : Jvm.MethodName) prog_7_method_6_code (6 : Nat) (Option.some Jvm.ClassFile.FieldType.int)) ∈ tq_T := tq_in (List.mem_of_getElem? (i := 730) (by decide +kernel)) (by decide +kernel)
theorem tw_684 : (Jvm.Cond.methodLink "TableauNodesModel" (70 : Nat) ({ cls := "TableauNodesModel", name := "find", desc := "(III)I" } : Jvm.MethodName)) ∈ tq_T := tq_in (List.mem_of_getElem? (i := 731) (by decide +kernel)) (by decide +kernel)
theorem tw_686 : (Jvm.Cond.instanceMethod ({ cls := "TableauNodesModel", name := "find", desc := "(III)I" } : Jvm.MethodName)) ∈ tq_T := tq_in (List.mem_of_getElem? (i := 733) (by decide +kernel)) (by decide +kernel)
theorem tw_687 : (Jvm.Cond.code ({ cls := "TableauNodesModel", name := "find", desc := "(III)I" } : Jvm.MethodName) prog_7_method_5_code (5 : Nat) (Option.some Jvm.ClassFile.FieldType.int)) ∈ tq_T := tq_in (List.mem_of_getElem? (i := 734) (by decide +kernel)) (by decide +kernel)
theorem tw_688 : (Jvm.Cond.methodLink "TableauNodesLaw" (22 : Nat) ({ cls := "TableauNodesModel", name := "concept", desc := "(III)I" } : Jvm.MethodName)) ∈ tq_T := tq_in (List.mem_of_getElem? (i := 735) (by decide +kernel)) (by decide +kernel)
theorem tw_689 : (Jvm.Cond.instanceMethod ({ cls := "TableauNodesModel", name := "concept", desc := "(III)I" } : Jvm.MethodName)) ∈ tq_T := tq_in (List.mem_of_getElem? (i := 736) (by decide +kernel)) (by decide +kernel)
theorem tw_690 : (Jvm.Cond.selects "TableauNodesModel" ({ cls := "TableauNodesModel", name := "concept", desc := "(III)I" } : Jvm.MethodName) ({ cls := "TableauNodesModel", name := "concept", desc := "(III)I" } : Jvm.MethodName)) ∈ tq_T := tq_in (List.mem_of_getElem? (i := 737) (by decide +kernel)) (by decide +kernel)
theorem tw_691 : (Jvm.Cond.code ({ cls := "TableauNodesModel", name := "concept", desc := "(III)I" } : Jvm.MethodName) prog_7_method_8_code (5 : Nat) (Option.some Jvm.ClassFile.FieldType.int)) ∈ tq_T := tq_in (List.mem_of_getElem? (i := 738) (by decide +kernel)) (by decide +kernel)
theorem tw_692 : (Jvm.Cond.methodLink "TableauNodesModel" (84 : Nat) ({ cls := "TableauNodesModel", name := "isConcept", desc := "(I)Z" } : Jvm.MethodName)) ∈ tq_T := tq_in (List.mem_of_getElem? (i := 739) (by decide +kernel)) (by decide +kernel)
theorem tw_694 : (Jvm.Cond.instanceMethod ({ cls := "TableauNodesModel", name := "isConcept", desc := "(I)Z" } : Jvm.MethodName)) ∈ tq_T := tq_in (List.mem_of_getElem? (i := 741) (by decide +kernel)) (by decide +kernel)
theorem tw_695 : (Jvm.Cond.code ({ cls := "TableauNodesModel", name := "isConcept", desc := "(I)Z" } : Jvm.MethodName) prog_7_method_2_code (2 : Nat) (Option.some Jvm.ClassFile.FieldType.boolean)) ∈ tq_T := tq_in (List.mem_of_getElem? (i := 742) (by decide +kernel)) (by decide +kernel)
theorem tw_696 : (Jvm.Cond.methodLink "TableauNodesModel" (88 : Nat) ({ cls := "TableauNodesModel", name := "isRole", desc := "(I)Z" } : Jvm.MethodName)) ∈ tq_T := tq_in (List.mem_of_getElem? (i := 743) (by decide +kernel)) (by decide +kernel)
theorem tw_697 : (Jvm.Cond.static ({ cls := "TableauNodesModel", name := "isRole", desc := "(I)Z" } : Jvm.MethodName)) ∈ tq_T := tq_in (List.mem_of_getElem? (i := 744) (by decide +kernel)) (by decide +kernel)
theorem tw_698 : (Jvm.Cond.code ({ cls := "TableauNodesModel", name := "isRole", desc := "(I)Z" } : Jvm.MethodName) prog_7_method_3_code (1 : Nat) (Option.some Jvm.ClassFile.FieldType.boolean)) ∈ tq_T := tq_in (List.mem_of_getElem? (i := 745) (by decide +kernel)) (by decide +kernel)
theorem tw_699 : (Jvm.Cond.methodLink "TableauNodesLaw" (27 : Nat) ({ cls := "TableauNodesModel", name := "told", desc := "(II)I" } : Jvm.MethodName)) ∈ tq_T := tq_in (List.mem_of_getElem? (i := 746) (by decide +kernel)) (by decide +kernel)
theorem tw_700 : (Jvm.Cond.instanceMethod ({ cls := "TableauNodesModel", name := "told", desc := "(II)I" } : Jvm.MethodName)) ∈ tq_T := tq_in (List.mem_of_getElem? (i := 747) (by decide +kernel)) (by decide +kernel)
theorem tw_701 : (Jvm.Cond.selects "TableauNodesModel" ({ cls := "TableauNodesModel", name := "told", desc := "(II)I" } : Jvm.MethodName) ({ cls := "TableauNodesModel", name := "told", desc := "(II)I" } : Jvm.MethodName)) ∈ tq_T := tq_in (List.mem_of_getElem? (i := 748) (by decide +kernel)) (by decide +kernel)
theorem tw_702 : (Jvm.Cond.code ({ cls := "TableauNodesModel", name := "told", desc := "(II)I" } : Jvm.MethodName) prog_7_method_9_code (3 : Nat) (Option.some Jvm.ClassFile.FieldType.int)) ∈ tq_T := tq_in (List.mem_of_getElem? (i := 749) (by decide +kernel)) (by decide +kernel)
theorem tw_703 : (Jvm.Cond.methodLink "TableauNodesLaw" (32 : Nat) ({ cls := "TableauNodesModel", name := "concepts", desc := "()I" } : Jvm.MethodName)) ∈ tq_T := tq_in (List.mem_of_getElem? (i := 750) (by decide +kernel)) (by decide +kernel)
theorem tw_704 : (Jvm.Cond.instanceMethod ({ cls := "TableauNodesModel", name := "concepts", desc := "()I" } : Jvm.MethodName)) ∈ tq_T := tq_in (List.mem_of_getElem? (i := 751) (by decide +kernel)) (by decide +kernel)
theorem tw_705 : (Jvm.Cond.selects "TableauNodesModel" ({ cls := "TableauNodesModel", name := "concepts", desc := "()I" } : Jvm.MethodName) ({ cls := "TableauNodesModel", name := "concepts", desc := "()I" } : Jvm.MethodName)) ∈ tq_T := tq_in (List.mem_of_getElem? (i := 752) (by decide +kernel)) (by decide +kernel)
theorem tw_706 : (Jvm.Cond.code ({ cls := "TableauNodesModel", name := "concepts", desc := "()I" } : Jvm.MethodName) prog_7_method_10_code (1 : Nat) (Option.some Jvm.ClassFile.FieldType.int)) ∈ tq_T := tq_in (List.mem_of_getElem? (i := 753) (by decide +kernel)) (by decide +kernel)
theorem tw_707 : (Jvm.Cond.methodLink "TableauNodesLaw" (36 : Nat) ({ cls := "TableauNodesModel", name := "atoms", desc := "()I" } : Jvm.MethodName)) ∈ tq_T := tq_in (List.mem_of_getElem? (i := 754) (by decide +kernel)) (by decide +kernel)
theorem tw_708 : (Jvm.Cond.instanceMethod ({ cls := "TableauNodesModel", name := "atoms", desc := "()I" } : Jvm.MethodName)) ∈ tq_T := tq_in (List.mem_of_getElem? (i := 755) (by decide +kernel)) (by decide +kernel)
theorem tw_709 : (Jvm.Cond.selects "TableauNodesModel" ({ cls := "TableauNodesModel", name := "atoms", desc := "()I" } : Jvm.MethodName) ({ cls := "TableauNodesModel", name := "atoms", desc := "()I" } : Jvm.MethodName)) ∈ tq_T := tq_in (List.mem_of_getElem? (i := 756) (by decide +kernel)) (by decide +kernel)
theorem tw_710 : (Jvm.Cond.code ({ cls := "TableauNodesModel", name := "atoms", desc := "()I" } : Jvm.MethodName) prog_7_method_11_code (1 : Nat) (Option.some Jvm.ClassFile.FieldType.int)) ∈ tq_T := tq_in (List.mem_of_getElem? (i := 757) (by decide +kernel)) (by decide +kernel)
theorem tw_711 : (Jvm.Cond.methodLink "TableauNodesLaw" (40 : Nat) ({ cls := "TableauNodesModel", name := "axiom", desc := "(II)I" } : Jvm.MethodName)) ∈ tq_T := tq_in (List.mem_of_getElem? (i := 758) (by decide +kernel)) (by decide +kernel)
theorem tw_712 : (Jvm.Cond.instanceMethod ({ cls := "TableauNodesModel", name := "axiom", desc := "(II)I" } : Jvm.MethodName)) ∈ tq_T := tq_in (List.mem_of_getElem? (i := 759) (by decide +kernel)) (by decide +kernel)
theorem tw_713 : (Jvm.Cond.selects "TableauNodesModel" ({ cls := "TableauNodesModel", name := "axiom", desc := "(II)I" } : Jvm.MethodName) ({ cls := "TableauNodesModel", name := "axiom", desc := "(II)I" } : Jvm.MethodName)) ∈ tq_T := tq_in (List.mem_of_getElem? (i := 760) (by decide +kernel)) (by decide +kernel)
theorem tw_714 : (Jvm.Cond.code ({ cls := "TableauNodesModel", name := "axiom", desc := "(II)I" } : Jvm.MethodName) prog_7_method_12_code (3 : Nat) (Option.some Jvm.ClassFile.FieldType.int)) ∈ tq_T := tq_in (List.mem_of_getElem? (i := 761) (by decide +kernel)) (by decide +kernel)
theorem tw_715 : (Jvm.Cond.methodLink "TableauNodesLaw" (44 : Nat) ({ cls := "TableauNodesModel", name := "drop", desc := "()I" } : Jvm.MethodName)) ∈ tq_T := tq_in (List.mem_of_getElem? (i := 762) (by decide +kernel)) (by decide +kernel)
theorem tw_716 : (Jvm.Cond.instanceMethod ({ cls := "TableauNodesModel", name := "drop", desc := "()I" } : Jvm.MethodName)) ∈ tq_T := tq_in (List.mem_of_getElem? (i := 763) (by decide +kernel)) (by decide +kernel)
theorem tw_717 : (Jvm.Cond.selects "TableauNodesModel" ({ cls := "TableauNodesModel", name := "drop", desc := "()I" } : Jvm.MethodName) ({ cls := "TableauNodesModel", name := "drop", desc := "()I" } : Jvm.MethodName)) ∈ tq_T := tq_in (List.mem_of_getElem? (i := 764) (by decide +kernel)) (by decide +kernel)
theorem tw_718 : (Jvm.Cond.code ({ cls := "TableauNodesModel", name := "drop", desc := "()I" } : Jvm.MethodName) prog_7_method_13_code (1 : Nat) (Option.some Jvm.ClassFile.FieldType.int)) ∈ tq_T := tq_in (List.mem_of_getElem? (i := 765) (by decide +kernel)) (by decide +kernel)
theorem tw_719 : (Jvm.Cond.methodLink "TableauNodesLaw" (48 : Nat) ({ cls := "TableauNodesModel", name := "role", desc := "(II)I" } : Jvm.MethodName)) ∈ tq_T := tq_in (List.mem_of_getElem? (i := 766) (by decide +kernel)) (by decide +kernel)
theorem tw_720 : (Jvm.Cond.instanceMethod ({ cls := "TableauNodesModel", name := "role", desc := "(II)I" } : Jvm.MethodName)) ∈ tq_T := tq_in (List.mem_of_getElem? (i := 767) (by decide +kernel)) (by decide +kernel)
theorem tw_721 : (Jvm.Cond.selects "TableauNodesModel" ({ cls := "TableauNodesModel", name := "role", desc := "(II)I" } : Jvm.MethodName) ({ cls := "TableauNodesModel", name := "role", desc := "(II)I" } : Jvm.MethodName)) ∈ tq_T := tq_in (List.mem_of_getElem? (i := 768) (by decide +kernel)) (by decide +kernel)
theorem tw_722 : (Jvm.Cond.code ({ cls := "TableauNodesModel", name := "role", desc := "(II)I" } : Jvm.MethodName) prog_7_method_14_code (3 : Nat) (Option.some Jvm.ClassFile.FieldType.int)) ∈ tq_T := tq_in (List.mem_of_getElem? (i := 769) (by decide +kernel)) (by decide +kernel)
theorem tw_723 : (Jvm.Cond.methodLink "TableauNodesLaw" (52 : Nat) ({ cls := "TableauNodesModel", name := "can", desc := "(I)I" } : Jvm.MethodName)) ∈ tq_T := tq_in (List.mem_of_getElem? (i := 770) (by decide +kernel)) (by decide +kernel)
theorem tw_724 : (Jvm.Cond.instanceMethod ({ cls := "TableauNodesModel", name := "can", desc := "(I)I" } : Jvm.MethodName)) ∈ tq_T := tq_in (List.mem_of_getElem? (i := 771) (by decide +kernel)) (by decide +kernel)
theorem tw_725 : (Jvm.Cond.selects "TableauNodesModel" ({ cls := "TableauNodesModel", name := "can", desc := "(I)I" } : Jvm.MethodName) ({ cls := "TableauNodesModel", name := "can", desc := "(I)I" } : Jvm.MethodName)) ∈ tq_T := tq_in (List.mem_of_getElem? (i := 772) (by decide +kernel)) (by decide +kernel)
theorem tw_726 : (Jvm.Cond.code ({ cls := "TableauNodesModel", name := "can", desc := "(I)I" } : Jvm.MethodName) prog_7_method_24_code (3 : Nat) (Option.some Jvm.ClassFile.FieldType.int)) ∈ tq_T := tq_in (List.mem_of_getElem? (i := 773) (by decide +kernel)) (by decide +kernel)
theorem tw_727 : (Jvm.Cond.methodLink "TableauNodesModel" (123 : Nat) ({ cls := "TableauNodesModel", name := "work", desc := "()V" } : Jvm.MethodName)) ∈ tq_T := tq_in (List.mem_of_getElem? (i := 774) (by decide +kernel)) (by decide +kernel)
theorem tw_729 : (Jvm.Cond.instanceMethod ({ cls := "TableauNodesModel", name := "work", desc := "()V" } : Jvm.MethodName)) ∈ tq_T := tq_in (List.mem_of_getElem? (i := 776) (by decide +kernel)) (by decide +kernel)
theorem tw_730 : (Jvm.Cond.code ({ cls := "TableauNodesModel", name := "work", desc := "()V" } : Jvm.MethodName) prog_7_method_19_code (3 : Nat) (Option.none : Option Jvm.ClassFile.FieldType)) ∈ tq_T := tq_in (List.mem_of_getElem? (i := 777) (by decide +kernel)) (by decide +kernel)
theorem tw_731 : (Jvm.Cond.methodLink "TableauNodesModel" (102 : Nat) ({ cls := "TableauNodesModel", name := "size", desc := "()I" } : Jvm.MethodName)) ∈ tq_T := tq_in (List.mem_of_getElem? (i := 778) (by decide +kernel)) (by decide +kernel)
theorem tw_733 : (Jvm.Cond.instanceMethod ({ cls := "TableauNodesModel", name := "size", desc := "()I" } : Jvm.MethodName)) ∈ tq_T := tq_in (List.mem_of_getElem? (i := 780) (by decide +kernel)) (by decide +kernel)
theorem tw_734 : (Jvm.Cond.code ({ cls := "TableauNodesModel", name := "size", desc := "()I" } : Jvm.MethodName) prog_7_method_15_code (1 : Nat) (Option.some Jvm.ClassFile.FieldType.int)) ∈ tq_T := tq_in (List.mem_of_getElem? (i := 781) (by decide +kernel)) (by decide +kernel)
theorem tw_735 : (Jvm.Cond.methodLink "TableauNodesModel" (106 : Nat) ({ cls := "TableauNodesModel", name := "weigh", desc := "(II)Z" } : Jvm.MethodName)) ∈ tq_T := tq_in (List.mem_of_getElem? (i := 782) (by decide +kernel)) (by decide +kernel)
theorem tw_737 : (Jvm.Cond.instanceMethod ({ cls := "TableauNodesModel", name := "weigh", desc := "(II)Z" } : Jvm.MethodName)) ∈ tq_T := tq_in (List.mem_of_getElem? (i := 784) (by decide +kernel)) (by decide +kernel)
theorem tw_738 : (Jvm.Cond.code ({ cls := "TableauNodesModel", name := "weigh", desc := "(II)Z" } : Jvm.MethodName) prog_7_method_18_code (5 : Nat) (Option.some Jvm.ClassFile.FieldType.boolean)) ∈ tq_T := tq_in (List.mem_of_getElem? (i := 785) (by decide +kernel)) (by decide +kernel)
theorem tw_739 : (Jvm.Cond.methodLink "TableauNodesModel" (94 : Nat) ({ cls := "TableauNodesModel", name := "atomOf", desc := "(I)I" } : Jvm.MethodName)) ∈ tq_T := tq_in (List.mem_of_getElem? (i := 786) (by decide +kernel)) (by decide +kernel)
theorem tw_741 : (Jvm.Cond.instanceMethod ({ cls := "TableauNodesModel", name := "atomOf", desc := "(I)I" } : Jvm.MethodName)) ∈ tq_T := tq_in (List.mem_of_getElem? (i := 788) (by decide +kernel)) (by decide +kernel)
theorem tw_742 : (Jvm.Cond.code ({ cls := "TableauNodesModel", name := "atomOf", desc := "(I)I" } : Jvm.MethodName) prog_7_method_16_code (3 : Nat) (Option.some Jvm.ClassFile.FieldType.int)) ∈ tq_T := tq_in (List.mem_of_getElem? (i := 789) (by decide +kernel)) (by decide +kernel)
theorem tw_743 : (Jvm.Cond.methodLink "TableauNodesModel" (98 : Nat) ({ cls := "TableauNodesModel", name := "isHeld", desc := "(II)Z" } : Jvm.MethodName)) ∈ tq_T := tq_in (List.mem_of_getElem? (i := 790) (by decide +kernel)) (by decide +kernel)
theorem tw_745 : (Jvm.Cond.instanceMethod ({ cls := "TableauNodesModel", name := "isHeld", desc := "(II)Z" } : Jvm.MethodName)) ∈ tq_T := tq_in (List.mem_of_getElem? (i := 792) (by decide +kernel)) (by decide +kernel)
theorem tw_746 : (Jvm.Cond.code ({ cls := "TableauNodesModel", name := "isHeld", desc := "(II)Z" } : Jvm.MethodName) prog_7_method_17_code (3 : Nat) (Option.some Jvm.ClassFile.FieldType.boolean)) ∈ tq_T := tq_in (List.mem_of_getElem? (i := 793) (by decide +kernel)) (by decide +kernel)
theorem tw_747 : (Jvm.Cond.methodLink "TableauNodesModel" (112 : Nat) ({ cls := "TableauNodesModel", name := "turn", desc := "(I)Z" } : Jvm.MethodName)) ∈ tq_T := tq_in (List.mem_of_getElem? (i := 794) (by decide +kernel)) (by decide +kernel)
theorem tw_749 : (Jvm.Cond.instanceMethod ({ cls := "TableauNodesModel", name := "turn", desc := "(I)Z" } : Jvm.MethodName)) ∈ tq_T := tq_in (List.mem_of_getElem? (i := 796) (by decide +kernel)) (by decide +kernel)
theorem tw_750 : (Jvm.Cond.code ({ cls := "TableauNodesModel", name := "turn", desc := "(I)Z" } : Jvm.MethodName) prog_7_method_22_code (6 : Nat) (Option.some Jvm.ClassFile.FieldType.boolean)) ∈ tq_T := tq_in (List.mem_of_getElem? (i := 797) (by decide +kernel)) (by decide +kernel)
theorem tw_751 : (Jvm.Cond.methodLink "TableauNodesModel" (115 : Nat) ({ cls := "TableauNodesModel", name := "forbids", desc := "(II)I" } : Jvm.MethodName)) ∈ tq_T := tq_in (List.mem_of_getElem? (i := 798) (by decide +kernel)) (by decide +kernel)
theorem tw_753 : (Jvm.Cond.instanceMethod ({ cls := "TableauNodesModel", name := "forbids", desc := "(II)I" } : Jvm.MethodName)) ∈ tq_T := tq_in (List.mem_of_getElem? (i := 800) (by decide +kernel)) (by decide +kernel)
theorem tw_754 : (Jvm.Cond.code ({ cls := "TableauNodesModel", name := "forbids", desc := "(II)I" } : Jvm.MethodName) prog_7_method_20_code (6 : Nat) (Option.some Jvm.ClassFile.FieldType.int)) ∈ tq_T := tq_in (List.mem_of_getElem? (i := 801) (by decide +kernel)) (by decide +kernel)
theorem tw_755 : (Jvm.Cond.methodLink "TableauNodesModel" (119 : Nat) ({ cls := "TableauNodesModel", name := "isThere", desc := "(III)Z" } : Jvm.MethodName)) ∈ tq_T := tq_in (List.mem_of_getElem? (i := 802) (by decide +kernel)) (by decide +kernel)
theorem tw_757 : (Jvm.Cond.instanceMethod ({ cls := "TableauNodesModel", name := "isThere", desc := "(III)Z" } : Jvm.MethodName)) ∈ tq_T := tq_in (List.mem_of_getElem? (i := 804) (by decide +kernel)) (by decide +kernel)
theorem tw_758 : (Jvm.Cond.code ({ cls := "TableauNodesModel", name := "isThere", desc := "(III)Z" } : Jvm.MethodName) prog_7_method_23_code (6 : Nat) (Option.some Jvm.ClassFile.FieldType.boolean)) ∈ tq_T := tq_in (List.mem_of_getElem? (i := 805) (by decide +kernel)) (by decide +kernel)
theorem tw_759 : (Jvm.Cond.methodLink "TableauNodesLaw" (56 : Nat) ({ cls := "TableauNodesModel", name := "below", desc := "(II)I" } : Jvm.MethodName)) ∈ tq_T := tq_in (List.mem_of_getElem? (i := 806) (by decide +kernel)) (by decide +kernel)
theorem tw_760 : (Jvm.Cond.instanceMethod ({ cls := "TableauNodesModel", name := "below", desc := "(II)I" } : Jvm.MethodName)) ∈ tq_T := tq_in (List.mem_of_getElem? (i := 807) (by decide +kernel)) (by decide +kernel)
theorem tw_761 : (Jvm.Cond.selects "TableauNodesModel" ({ cls := "TableauNodesModel", name := "below", desc := "(II)I" } : Jvm.MethodName) ({ cls := "TableauNodesModel", name := "below", desc := "(II)I" } : Jvm.MethodName)) ∈ tq_T := tq_in (List.mem_of_getElem? (i := 808) (by decide +kernel)) (by decide +kernel)
theorem tw_762 : (Jvm.Cond.code ({ cls := "TableauNodesModel", name := "below", desc := "(II)I" } : Jvm.MethodName) prog_7_method_25_code (4 : Nat) (Option.some Jvm.ClassFile.FieldType.int)) ∈ tq_T := tq_in (List.mem_of_getElem? (i := 809) (by decide +kernel)) (by decide +kernel)
theorem tw_763 : (Jvm.Cond.methodLink "TableauNodesLaw" (60 : Nat) ({ cls := "TableauNodesModel", name := "types", desc := "()I" } : Jvm.MethodName)) ∈ tq_T := tq_in (List.mem_of_getElem? (i := 810) (by decide +kernel)) (by decide +kernel)
theorem tw_764 : (Jvm.Cond.instanceMethod ({ cls := "TableauNodesModel", name := "types", desc := "()I" } : Jvm.MethodName)) ∈ tq_T := tq_in (List.mem_of_getElem? (i := 811) (by decide +kernel)) (by decide +kernel)
theorem tw_765 : (Jvm.Cond.selects "TableauNodesModel" ({ cls := "TableauNodesModel", name := "types", desc := "()I" } : Jvm.MethodName) ({ cls := "TableauNodesModel", name := "types", desc := "()I" } : Jvm.MethodName)) ∈ tq_T := tq_in (List.mem_of_getElem? (i := 812) (by decide +kernel)) (by decide +kernel)
theorem tw_766 : (Jvm.Cond.code ({ cls := "TableauNodesModel", name := "types", desc := "()I" } : Jvm.MethodName) prog_7_method_26_code (3 : Nat) (Option.some Jvm.ClassFile.FieldType.int)) ∈ tq_T := tq_in (List.mem_of_getElem? (i := 813) (by decide +kernel)) (by decide +kernel)
theorem tw_767 : (Jvm.Cond.methodLink "TableauNodesLaw" (64 : Nat) ({ cls := "TableauNodesModel", name := "rounds", desc := "()I" } : Jvm.MethodName)) ∈ tq_T := tq_in (List.mem_of_getElem? (i := 814) (by decide +kernel)) (by decide +kernel)
theorem tw_768 : (Jvm.Cond.instanceMethod ({ cls := "TableauNodesModel", name := "rounds", desc := "()I" } : Jvm.MethodName)) ∈ tq_T := tq_in (List.mem_of_getElem? (i := 815) (by decide +kernel)) (by decide +kernel)
theorem tw_769 : (Jvm.Cond.selects "TableauNodesModel" ({ cls := "TableauNodesModel", name := "rounds", desc := "()I" } : Jvm.MethodName) ({ cls := "TableauNodesModel", name := "rounds", desc := "()I" } : Jvm.MethodName)) ∈ tq_T := tq_in (List.mem_of_getElem? (i := 816) (by decide +kernel)) (by decide +kernel)
theorem tw_770 : (Jvm.Cond.code ({ cls := "TableauNodesModel", name := "rounds", desc := "()I" } : Jvm.MethodName) prog_7_method_27_code (1 : Nat) (Option.some Jvm.ClassFile.FieldType.int)) ∈ tq_T := tq_in (List.mem_of_getElem? (i := 817) (by decide +kernel)) (by decide +kernel)
theorem tw_771 : (Jvm.Cond.methodLink "TableauNodesLaw" (68 : Nat) ({ cls := "TableauNodesModel", name := "depth", desc := "(I)I" } : Jvm.MethodName)) ∈ tq_T := tq_in (List.mem_of_getElem? (i := 818) (by decide +kernel)) (by decide +kernel)
theorem tw_772 : (Jvm.Cond.instanceMethod ({ cls := "TableauNodesModel", name := "depth", desc := "(I)I" } : Jvm.MethodName)) ∈ tq_T := tq_in (List.mem_of_getElem? (i := 819) (by decide +kernel)) (by decide +kernel)
theorem tw_773 : (Jvm.Cond.selects "TableauNodesModel" ({ cls := "TableauNodesModel", name := "depth", desc := "(I)I" } : Jvm.MethodName) ({ cls := "TableauNodesModel", name := "depth", desc := "(I)I" } : Jvm.MethodName)) ∈ tq_T := tq_in (List.mem_of_getElem? (i := 820) (by decide +kernel)) (by decide +kernel)
theorem tw_774 : (Jvm.Cond.code ({ cls := "TableauNodesModel", name := "depth", desc := "(I)I" } : Jvm.MethodName) prog_7_method_28_code (2 : Nat) (Option.some Jvm.ClassFile.FieldType.int)) ∈ tq_T := tq_in (List.mem_of_getElem? (i := 821) (by decide +kernel)) (by decide +kernel)
theorem tw_775 : (Jvm.Cond.methodLink "TableauNodesLaw" (72 : Nat) ({ cls := "TableauNodesModel", name := "individual", desc := "(II)I" } : Jvm.MethodName)) ∈ tq_T := tq_in (List.mem_of_getElem? (i := 822) (by decide +kernel)) (by decide +kernel)
theorem tw_776 : (Jvm.Cond.instanceMethod ({ cls := "TableauNodesModel", name := "individual", desc := "(II)I" } : Jvm.MethodName)) ∈ tq_T := tq_in (List.mem_of_getElem? (i := 823) (by decide +kernel)) (by decide +kernel)
theorem tw_777 : (Jvm.Cond.selects "TableauNodesModel" ({ cls := "TableauNodesModel", name := "individual", desc := "(II)I" } : Jvm.MethodName) ({ cls := "TableauNodesModel", name := "individual", desc := "(II)I" } : Jvm.MethodName)) ∈ tq_T := tq_in (List.mem_of_getElem? (i := 824) (by decide +kernel)) (by decide +kernel)
theorem tw_778 : (Jvm.Cond.code ({ cls := "TableauNodesModel", name := "individual", desc := "(II)I" } : Jvm.MethodName) prog_7_method_29_code (3 : Nat) (Option.some Jvm.ClassFile.FieldType.int)) ∈ tq_T := tq_in (List.mem_of_getElem? (i := 825) (by decide +kernel)) (by decide +kernel)
theorem tw_779 : (Jvm.Cond.methodLink "TableauNodesModel" (126 : Nat) ({ cls := "TableauNodesModel", name := "isThing", desc := "(I)Z" } : Jvm.MethodName)) ∈ tq_T := tq_in (List.mem_of_getElem? (i := 826) (by decide +kernel)) (by decide +kernel)
theorem tw_780 : (Jvm.Cond.static ({ cls := "TableauNodesModel", name := "isThing", desc := "(I)Z" } : Jvm.MethodName)) ∈ tq_T := tq_in (List.mem_of_getElem? (i := 827) (by decide +kernel)) (by decide +kernel)
theorem tw_781 : (Jvm.Cond.code ({ cls := "TableauNodesModel", name := "isThing", desc := "(I)Z" } : Jvm.MethodName) prog_7_method_4_code (1 : Nat) (Option.some Jvm.ClassFile.FieldType.boolean)) ∈ tq_T := tq_in (List.mem_of_getElem? (i := 828) (by decide +kernel)) (by decide +kernel)
theorem tw_782 : (Jvm.Cond.methodLink "TableauNodesLaw" (76 : Nat) ({ cls := "TableauNodesModel", name := "has", desc := "(III)I" } : Jvm.MethodName)) ∈ tq_T := tq_in (List.mem_of_getElem? (i := 829) (by decide +kernel)) (by decide +kernel)
theorem tw_783 : (Jvm.Cond.instanceMethod ({ cls := "TableauNodesModel", name := "has", desc := "(III)I" } : Jvm.MethodName)) ∈ tq_T := tq_in (List.mem_of_getElem? (i := 830) (by decide +kernel)) (by decide +kernel)
theorem tw_784 : (Jvm.Cond.selects "TableauNodesModel" ({ cls := "TableauNodesModel", name := "has", desc := "(III)I" } : Jvm.MethodName) ({ cls := "TableauNodesModel", name := "has", desc := "(III)I" } : Jvm.MethodName)) ∈ tq_T := tq_in (List.mem_of_getElem? (i := 831) (by decide +kernel)) (by decide +kernel)
theorem tw_785 : (Jvm.Cond.code ({ cls := "TableauNodesModel", name := "has", desc := "(III)I" } : Jvm.MethodName) prog_7_method_30_code (4 : Nat) (Option.some Jvm.ClassFile.FieldType.int)) ∈ tq_T := tq_in (List.mem_of_getElem? (i := 832) (by decide +kernel)) (by decide +kernel)
theorem tw_786 : (Jvm.Cond.methodLink "TableauNodesLaw" (80 : Nat) ({ cls := "TableauNodesModel", name := "forget", desc := "()I" } : Jvm.MethodName)) ∈ tq_T := tq_in (List.mem_of_getElem? (i := 833) (by decide +kernel)) (by decide +kernel)
theorem tw_787 : (Jvm.Cond.instanceMethod ({ cls := "TableauNodesModel", name := "forget", desc := "()I" } : Jvm.MethodName)) ∈ tq_T := tq_in (List.mem_of_getElem? (i := 834) (by decide +kernel)) (by decide +kernel)
theorem tw_788 : (Jvm.Cond.selects "TableauNodesModel" ({ cls := "TableauNodesModel", name := "forget", desc := "()I" } : Jvm.MethodName) ({ cls := "TableauNodesModel", name := "forget", desc := "()I" } : Jvm.MethodName)) ∈ tq_T := tq_in (List.mem_of_getElem? (i := 835) (by decide +kernel)) (by decide +kernel)
theorem tw_789 : (Jvm.Cond.code ({ cls := "TableauNodesModel", name := "forget", desc := "()I" } : Jvm.MethodName) prog_7_method_31_code (2 : Nat) (Option.some Jvm.ClassFile.FieldType.int)) ∈ tq_T := tq_in (List.mem_of_getElem? (i := 836) (by decide +kernel)) (by decide +kernel)
theorem tw_790 : (Jvm.Cond.methodLink "TableauNodesLaw" (84 : Nat) ({ cls := "TableauNodesModel", name := "run", desc := "()I" } : Jvm.MethodName)) ∈ tq_T := tq_in (List.mem_of_getElem? (i := 837) (by decide +kernel)) (by decide +kernel)
theorem tw_791 : (Jvm.Cond.instanceMethod ({ cls := "TableauNodesModel", name := "run", desc := "()I" } : Jvm.MethodName)) ∈ tq_T := tq_in (List.mem_of_getElem? (i := 838) (by decide +kernel)) (by decide +kernel)
theorem tw_792 : (Jvm.Cond.selects "TableauNodesModel" ({ cls := "TableauNodesModel", name := "run", desc := "()I" } : Jvm.MethodName) ({ cls := "TableauNodesModel", name := "run", desc := "()I" } : Jvm.MethodName)) ∈ tq_T := tq_in (List.mem_of_getElem? (i := 839) (by decide +kernel)) (by decide +kernel)
theorem tw_793 : (Jvm.Cond.code ({ cls := "TableauNodesModel", name := "run", desc := "()I" } : Jvm.MethodName) prog_7_method_36_code (1 : Nat) (Option.some Jvm.ClassFile.FieldType.int)) ∈ tq_T := tq_in (List.mem_of_getElem? (i := 840) (by decide +kernel)) (by decide +kernel)
theorem tw_794 : (Jvm.Cond.methodLink "TableauNodesModel" (147 : Nat) ({ cls := "TableauNodesModel", name := "search", desc := "(II)Z" } : Jvm.MethodName)) ∈ tq_T := tq_in (List.mem_of_getElem? (i := 841) (by decide +kernel)) (by decide +kernel)
theorem tw_796 : (Jvm.Cond.instanceMethod ({ cls := "TableauNodesModel", name := "search", desc := "(II)Z" } : Jvm.MethodName)) ∈ tq_T := tq_in (List.mem_of_getElem? (i := 843) (by decide +kernel)) (by decide +kernel)
theorem tw_797 : (Jvm.Cond.code ({ cls := "TableauNodesModel", name := "search", desc := "(II)Z" } : Jvm.MethodName) prog_7_method_33_code (5 : Nat) (Option.some Jvm.ClassFile.FieldType.boolean)) ∈ tq_T := tq_in (List.mem_of_getElem? (i := 844) (by decide +kernel)) (by decide +kernel)
theorem tw_798 : (Jvm.Cond.methodLink "TableauNodesModel" (135 : Nat) ({ cls := "TableauNodesModel", name := "at", desc := "(III)I" } : Jvm.MethodName)) ∈ tq_T := tq_in (List.mem_of_getElem? (i := 845) (by decide +kernel)) (by decide +kernel)
theorem tw_799 : (Jvm.Cond.static ({ cls := "TableauNodesModel", name := "at", desc := "(III)I" } : Jvm.MethodName)) ∈ tq_T := tq_in (List.mem_of_getElem? (i := 846) (by decide +kernel)) (by decide +kernel)
theorem tw_800 : (Jvm.Cond.code ({ cls := "TableauNodesModel", name := "at", desc := "(III)I" } : Jvm.MethodName) prog_7_method_32_code (3 : Nat) (Option.some Jvm.ClassFile.FieldType.int)) ∈ tq_T := tq_in (List.mem_of_getElem? (i := 847) (by decide +kernel)) (by decide +kernel)
theorem tw_801 : (Jvm.Cond.methodLink "TableauNodesModel" (138 : Nat) ({ cls := "TableauNodesModel", name := "isSaid", desc := "(II)Z" } : Jvm.MethodName)) ∈ tq_T := tq_in (List.mem_of_getElem? (i := 848) (by decide +kernel)) (by decide +kernel)
theorem tw_803 : (Jvm.Cond.instanceMethod ({ cls := "TableauNodesModel", name := "isSaid", desc := "(II)Z" } : Jvm.MethodName)) ∈ tq_T := tq_in (List.mem_of_getElem? (i := 850) (by decide +kernel)) (by decide +kernel)
theorem tw_804 : (Jvm.Cond.code ({ cls := "TableauNodesModel", name := "isSaid", desc := "(II)Z" } : Jvm.MethodName) prog_7_method_34_code (5 : Nat) (Option.some Jvm.ClassFile.FieldType.boolean)) ∈ tq_T := tq_in (List.mem_of_getElem? (i := 851) (by decide +kernel)) (by decide +kernel)
theorem tw_805 : (Jvm.Cond.methodLink "TableauNodesModel" (144 : Nat) ({ cls := "TableauNodesModel", name := "sees", desc := "(III)Z" } : Jvm.MethodName)) ∈ tq_T := tq_in (List.mem_of_getElem? (i := 852) (by decide +kernel)) (by decide +kernel)
theorem tw_807 : (Jvm.Cond.instanceMethod ({ cls := "TableauNodesModel", name := "sees", desc := "(III)Z" } : Jvm.MethodName)) ∈ tq_T := tq_in (List.mem_of_getElem? (i := 854) (by decide +kernel)) (by decide +kernel)
theorem tw_808 : (Jvm.Cond.code ({ cls := "TableauNodesModel", name := "sees", desc := "(III)Z" } : Jvm.MethodName) prog_7_method_21_code (4 : Nat) (Option.some Jvm.ClassFile.FieldType.boolean)) ∈ tq_T := tq_in (List.mem_of_getElem? (i := 855) (by decide +kernel)) (by decide +kernel)
theorem tw_809 : (Jvm.Cond.methodLink "TableauNodesModel" (141 : Nat) ({ cls := "TableauNodesModel", name := "isLeft", desc := "(II)Z" } : Jvm.MethodName)) ∈ tq_T := tq_in (List.mem_of_getElem? (i := 856) (by decide +kernel)) (by decide +kernel)
theorem tw_811 : (Jvm.Cond.instanceMethod ({ cls := "TableauNodesModel", name := "isLeft", desc := "(II)Z" } : Jvm.MethodName)) ∈ tq_T := tq_in (List.mem_of_getElem? (i := 858) (by decide +kernel)) (by decide +kernel)
theorem tw_812 : (Jvm.Cond.code ({ cls := "TableauNodesModel", name := "isLeft", desc := "(II)Z" } : Jvm.MethodName) prog_7_method_35_code (9 : Nat) (Option.some Jvm.ClassFile.FieldType.boolean)) ∈ tq_T := tq_in (List.mem_of_getElem? (i := 859) (by decide +kernel)) (by decide +kernel)
theorem tw_813 : (Jvm.Cond.methodLink "TableauNodesLaw" (88 : Nat) ({ cls := "TableauNodesModel", name := "model", desc := "(I)I" } : Jvm.MethodName)) ∈ tq_T := tq_in (List.mem_of_getElem? (i := 860) (by decide +kernel)) (by decide +kernel)
theorem tw_814 : (Jvm.Cond.instanceMethod ({ cls := "TableauNodesModel", name := "model", desc := "(I)I" } : Jvm.MethodName)) ∈ tq_T := tq_in (List.mem_of_getElem? (i := 861) (by decide +kernel)) (by decide +kernel)
theorem tw_815 : (Jvm.Cond.selects "TableauNodesModel" ({ cls := "TableauNodesModel", name := "model", desc := "(I)I" } : Jvm.MethodName) ({ cls := "TableauNodesModel", name := "model", desc := "(I)I" } : Jvm.MethodName)) ∈ tq_T := tq_in (List.mem_of_getElem? (i := 862) (by decide +kernel)) (by decide +kernel)
theorem tw_816 : (Jvm.Cond.code ({ cls := "TableauNodesModel", name := "model", desc := "(I)I" } : Jvm.MethodName) prog_7_method_37_code (2 : Nat) (Option.some Jvm.ClassFile.FieldType.int)) ∈ tq_T := tq_in (List.mem_of_getElem? (i := 863) (by decide +kernel)) (by decide +kernel)
theorem tw_817 : (Jvm.Cond.methodLink "TableauNodesLaw" (92 : Nat) ({ cls := "TableauNodesModel", name := "surely", desc := "(II)I" } : Jvm.MethodName)) ∈ tq_T := tq_in (List.mem_of_getElem? (i := 864) (by decide +kernel)) (by decide +kernel)
theorem tw_818 : (Jvm.Cond.instanceMethod ({ cls := "TableauNodesModel", name := "surely", desc := "(II)I" } : Jvm.MethodName)) ∈ tq_T := tq_in (List.mem_of_getElem? (i := 865) (by decide +kernel)) (by decide +kernel)
theorem tw_819 : (Jvm.Cond.selects "TableauNodesModel" ({ cls := "TableauNodesModel", name := "surely", desc := "(II)I" } : Jvm.MethodName) ({ cls := "TableauNodesModel", name := "surely", desc := "(II)I" } : Jvm.MethodName)) ∈ tq_T := tq_in (List.mem_of_getElem? (i := 866) (by decide +kernel)) (by decide +kernel)
theorem tw_820 : (Jvm.Cond.code ({ cls := "TableauNodesModel", name := "surely", desc := "(II)I" } : Jvm.MethodName) prog_7_method_38_code (3 : Nat) (Option.some Jvm.ClassFile.FieldType.int)) ∈ tq_T := tq_in (List.mem_of_getElem? (i := 867) (by decide +kernel)) (by decide +kernel)
theorem ts_0 : Cond.selects "TableauNodes$Concepts" (⟨"TableauNodes$Concepts", "find", "(III)I"⟩ : MethodName) (⟨"TableauNodes$Concepts", "find", "(III)I"⟩ : MethodName) ∈ tq_T := tq_in (List.mem_of_getElem? (i := 0) (by decide +kernel)) (by decide +kernel)
theorem ts_1 : Cond.selects "TableauNodes$Concepts" (⟨"TableauNodes$Concepts", "add", "(III)I"⟩ : MethodName) (⟨"TableauNodes$Concepts", "add", "(III)I"⟩ : MethodName) ∈ tq_T := tq_in (List.mem_of_getElem? (i := 1) (by decide +kernel)) (by decide +kernel)
theorem ts_2 : Cond.selects "TableauNodes$Concepts" (⟨"TableauNodes$Concepts", "newWord", "(IIII)J"⟩ : MethodName) (⟨"TableauNodes$Concepts", "newWord", "(IIII)J"⟩ : MethodName) ∈ tq_T := tq_in (List.mem_of_getElem? (i := 2) (by decide +kernel)) (by decide +kernel)
theorem ts_3 : Cond.selects "TableauNodes$Concepts" (⟨"TableauNodes$Concepts", "addAtom", "(I)V"⟩ : MethodName) (⟨"TableauNodes$Concepts", "addAtom", "(I)V"⟩ : MethodName) ∈ tq_T := tq_in (List.mem_of_getElem? (i := 3) (by decide +kernel)) (by decide +kernel)
theorem ts_4 : Cond.selects "TableauNodes$Concepts" (⟨"TableauNodes$Concepts", "noteInner", "(II)V"⟩ : MethodName) (⟨"TableauNodes$Concepts", "noteInner", "(II)V"⟩ : MethodName) ∈ tq_T := tq_in (List.mem_of_getElem? (i := 4) (by decide +kernel)) (by decide +kernel)
theorem ts_5 : Cond.selects "TableauNodes$Roles" (⟨"TableauNodes$Roles", "close", "()V"⟩ : MethodName) (⟨"TableauNodes$Roles", "close", "()V"⟩ : MethodName) ∈ tq_T := tq_in (List.mem_of_getElem? (i := 5) (by decide +kernel)) (by decide +kernel)
theorem ts_6 : Cond.selects "TableauNodes$Things" (⟨"TableauNodes$Things", "clear", "()V"⟩ : MethodName) (⟨"TableauNodes$Things", "clear", "()V"⟩ : MethodName) ∈ tq_T := tq_in (List.mem_of_getElem? (i := 6) (by decide +kernel)) (by decide +kernel)
theorem ts_7 : Cond.selects "TableauNodes$GoodTypes" (⟨"TableauNodes$GoodTypes", "sortSomes", "()V"⟩ : MethodName) (⟨"TableauNodes$GoodTypes", "sortSomes", "()V"⟩ : MethodName) ∈ tq_T := tq_in (List.mem_of_getElem? (i := 7) (by decide +kernel)) (by decide +kernel)
theorem ts_8 : Cond.selects "TableauNodes$GoodTypes" (⟨"TableauNodes$GoodTypes", "begin", "()V"⟩ : MethodName) (⟨"TableauNodes$GoodTypes", "begin", "()V"⟩ : MethodName) ∈ tq_T := tq_in (List.mem_of_getElem? (i := 8) (by decide +kernel)) (by decide +kernel)
theorem ts_9 : Cond.selects "TableauNodes$GoodTypes" (⟨"TableauNodes$GoodTypes", "keptByAxioms", "(JI)J"⟩ : MethodName) (⟨"TableauNodes$GoodTypes", "keptByAxioms", "(JI)J"⟩ : MethodName) ∈ tq_T := tq_in (List.mem_of_getElem? (i := 9) (by decide +kernel)) (by decide +kernel)
theorem ts_10 : Cond.selects "TableauNodes$GoodTypes" (⟨"TableauNodes$GoodTypes", "isThere", "(I)Z"⟩ : MethodName) (⟨"TableauNodes$GoodTypes", "isThere", "(I)Z"⟩ : MethodName) ∈ tq_T := tq_in (List.mem_of_getElem? (i := 10) (by decide +kernel)) (by decide +kernel)
theorem ts_11 : Cond.selects "TableauNodes$GoodTypes" (⟨"TableauNodes$GoodTypes", "makeRound", "(I)Z"⟩ : MethodName) (⟨"TableauNodes$GoodTypes", "makeRound", "(I)Z"⟩ : MethodName) ∈ tq_T := tq_in (List.mem_of_getElem? (i := 11) (by decide +kernel)) (by decide +kernel)
theorem ts_12 : Cond.selects "TableauNodes$GoodTypes" (⟨"TableauNodes$GoodTypes", "markUnserved", "(I)V"⟩ : MethodName) (⟨"TableauNodes$GoodTypes", "markUnserved", "(I)V"⟩ : MethodName) ∈ tq_T := tq_in (List.mem_of_getElem? (i := 12) (by decide +kernel)) (by decide +kernel)
theorem ts_13 : Cond.selects "TableauNodes$GoodTypes" (⟨"TableauNodes$GoodTypes", "findServed", "(I)V"⟩ : MethodName) (⟨"TableauNodes$GoodTypes", "findServed", "(I)V"⟩ : MethodName) ∈ tq_T := tq_in (List.mem_of_getElem? (i := 13) (by decide +kernel)) (by decide +kernel)
theorem ts_14 : Cond.selects "TableauNodes$GoodTypes" (⟨"TableauNodes$GoodTypes", "spreadServed", "(III)V"⟩ : MethodName) (⟨"TableauNodes$GoodTypes", "spreadServed", "(III)V"⟩ : MethodName) ∈ tq_T := tq_in (List.mem_of_getElem? (i := 14) (by decide +kernel)) (by decide +kernel)
theorem ts_15 : Cond.selects "TableauNodes$GoodTypes" (⟨"TableauNodes$GoodTypes", "takeAway", "(II)V"⟩ : MethodName) (⟨"TableauNodes$GoodTypes", "takeAway", "(II)V"⟩ : MethodName) ∈ tq_T := tq_in (List.mem_of_getElem? (i := 15) (by decide +kernel)) (by decide +kernel)
theorem ts_16 : Cond.selects "TableauNodes$Things" (⟨"TableauNodes$Things", "sortLinks", "()V"⟩ : MethodName) (⟨"TableauNodes$Things", "sortLinks", "()V"⟩ : MethodName) ∈ tq_T := tq_in (List.mem_of_getElem? (i := 16) (by decide +kernel)) (by decide +kernel)
theorem ts_17 : Cond.selects "TableauNodes$Things" (⟨"TableauNodes$Things", "begin", "()V"⟩ : MethodName) (⟨"TableauNodes$Things", "begin", "()V"⟩ : MethodName) ∈ tq_T := tq_in (List.mem_of_getElem? (i := 17) (by decide +kernel)) (by decide +kernel)
theorem ts_18 : Cond.selects "TableauNodes$Things" (⟨"TableauNodes$Things", "seeingThemselves", "(JII)J"⟩ : MethodName) (⟨"TableauNodes$Things", "seeingThemselves", "(JII)J"⟩ : MethodName) ∈ tq_T := tq_in (List.mem_of_getElem? (i := 18) (by decide +kernel)) (by decide +kernel)
theorem ts_19 : Cond.selects "TableauNodes$Things" (⟨"TableauNodes$Things", "canExtend", "(II)Z"⟩ : MethodName) (⟨"TableauNodes$Things", "canExtend", "(II)Z"⟩ : MethodName) ∈ tq_T := tq_in (List.mem_of_getElem? (i := 19) (by decide +kernel)) (by decide +kernel)
theorem ts_20 : Cond.selects "TableauNodes$Things" (⟨"TableauNodes$Things", "mostBound", "(II)I"⟩ : MethodName) (⟨"TableauNodes$Things", "mostBound", "(II)I"⟩ : MethodName) ∈ tq_T := tq_in (List.mem_of_getElem? (i := 20) (by decide +kernel)) (by decide +kernel)
theorem ts_21 : Cond.selects "TableauNodes$Things" (⟨"TableauNodes$Things", "countLeft", "(II)I"⟩ : MethodName) (⟨"TableauNodes$Things", "countLeft", "(II)I"⟩ : MethodName) ∈ tq_T := tq_in (List.mem_of_getElem? (i := 21) (by decide +kernel)) (by decide +kernel)
theorem ts_22 : Cond.selects "TableauNodes$Things" (⟨"TableauNodes$Things", "findDemands", "(III)I"⟩ : MethodName) (⟨"TableauNodes$Things", "findDemands", "(III)I"⟩ : MethodName) ∈ tq_T := tq_in (List.mem_of_getElem? (i := 22) (by decide +kernel)) (by decide +kernel)
theorem ts_23 : Cond.selects "TableauNodes$Things" (⟨"TableauNodes$Things", "addDemand", "(III)I"⟩ : MethodName) (⟨"TableauNodes$Things", "addDemand", "(III)I"⟩ : MethodName) ∈ tq_T := tq_in (List.mem_of_getElem? (i := 23) (by decide +kernel)) (by decide +kernel)
theorem ts_24 : Cond.selects "TableauNodes$Things" (⟨"TableauNodes$Things", "passOn", "(IIII)Z"⟩ : MethodName) (⟨"TableauNodes$Things", "passOn", "(IIII)Z"⟩ : MethodName) ∈ tq_T := tq_in (List.mem_of_getElem? (i := 24) (by decide +kernel)) (by decide +kernel)
theorem ts_25 : Cond.selects "TableauNodes$Things" (⟨"TableauNodes$Things", "fitting", "(JIII)J"⟩ : MethodName) (⟨"TableauNodes$Things", "fitting", "(JIII)J"⟩ : MethodName) ∈ tq_T := tq_in (List.mem_of_getElem? (i := 25) (by decide +kernel)) (by decide +kernel)
theorem ts_26 : Cond.selects "TableauNodes$Things" (⟨"TableauNodes$Things", "leaveFirst", "(I)Z"⟩ : MethodName) (⟨"TableauNodes$Things", "leaveFirst", "(I)Z"⟩ : MethodName) ∈ tq_T := tq_in (List.mem_of_getElem? (i := 26) (by decide +kernel)) (by decide +kernel)
theorem ts_27 : Cond.selects "TableauNodes$Things" (⟨"TableauNodes$Things", "firstLeft", "(I)I"⟩ : MethodName) (⟨"TableauNodes$Things", "firstLeft", "(I)I"⟩ : MethodName) ∈ tq_T := tq_in (List.mem_of_getElem? (i := 27) (by decide +kernel)) (by decide +kernel)
theorem ts_28 : Cond.selects "TableauNodes$Things" (⟨"TableauNodes$Things", "keepSpare", "(I)V"⟩ : MethodName) (⟨"TableauNodes$Things", "keepSpare", "(I)V"⟩ : MethodName) ∈ tq_T := tq_in (List.mem_of_getElem? (i := 28) (by decide +kernel)) (by decide +kernel)
theorem ts_29 : Cond.selects "TableauNodes$Things" (⟨"TableauNodes$Things", "takeSpare", "(I)V"⟩ : MethodName) (⟨"TableauNodes$Things", "takeSpare", "(I)V"⟩ : MethodName) ∈ tq_T := tq_in (List.mem_of_getElem? (i := 29) (by decide +kernel)) (by decide +kernel)
theorem ts_30 : Cond.selects "TableauNodes$Things" (⟨"TableauNodes$Things", "leaveLeast", "(I)V"⟩ : MethodName) (⟨"TableauNodes$Things", "leaveLeast", "(I)V"⟩ : MethodName) ∈ tq_T := tq_in (List.mem_of_getElem? (i := 30) (by decide +kernel)) (by decide +kernel)
theorem ts_31 : Cond.selects "TableauNodes$Things" (⟨"TableauNodes$Things", "leaveHalf", "(IIZ)V"⟩ : MethodName) (⟨"TableauNodes$Things", "leaveHalf", "(IIZ)V"⟩ : MethodName) ∈ tq_T := tq_in (List.mem_of_getElem? (i := 31) (by decide +kernel)) (by decide +kernel)
theorem ts_32 : Cond.selects "TableauNodesModel" (⟨"TableauNodesModel", "make", "(III)I"⟩ : MethodName) (⟨"TableauNodesModel", "make", "(III)I"⟩ : MethodName) ∈ tq_T := tq_in (List.mem_of_getElem? (i := 32) (by decide +kernel)) (by decide +kernel)
theorem ts_33 : Cond.selects "TableauNodesModel" (⟨"TableauNodesModel", "find", "(III)I"⟩ : MethodName) (⟨"TableauNodesModel", "find", "(III)I"⟩ : MethodName) ∈ tq_T := tq_in (List.mem_of_getElem? (i := 33) (by decide +kernel)) (by decide +kernel)
theorem ts_34 : Cond.selects "TableauNodesModel" (⟨"TableauNodesModel", "isConcept", "(I)Z"⟩ : MethodName) (⟨"TableauNodesModel", "isConcept", "(I)Z"⟩ : MethodName) ∈ tq_T := tq_in (List.mem_of_getElem? (i := 34) (by decide +kernel)) (by decide +kernel)
theorem ts_35 : Cond.selects "TableauNodesModel" (⟨"TableauNodesModel", "work", "()V"⟩ : MethodName) (⟨"TableauNodesModel", "work", "()V"⟩ : MethodName) ∈ tq_T := tq_in (List.mem_of_getElem? (i := 35) (by decide +kernel)) (by decide +kernel)
theorem ts_36 : Cond.selects "TableauNodesModel" (⟨"TableauNodesModel", "size", "()I"⟩ : MethodName) (⟨"TableauNodesModel", "size", "()I"⟩ : MethodName) ∈ tq_T := tq_in (List.mem_of_getElem? (i := 36) (by decide +kernel)) (by decide +kernel)
theorem ts_37 : Cond.selects "TableauNodesModel" (⟨"TableauNodesModel", "weigh", "(II)Z"⟩ : MethodName) (⟨"TableauNodesModel", "weigh", "(II)Z"⟩ : MethodName) ∈ tq_T := tq_in (List.mem_of_getElem? (i := 37) (by decide +kernel)) (by decide +kernel)
theorem ts_38 : Cond.selects "TableauNodesModel" (⟨"TableauNodesModel", "atomOf", "(I)I"⟩ : MethodName) (⟨"TableauNodesModel", "atomOf", "(I)I"⟩ : MethodName) ∈ tq_T := tq_in (List.mem_of_getElem? (i := 38) (by decide +kernel)) (by decide +kernel)
theorem ts_39 : Cond.selects "TableauNodesModel" (⟨"TableauNodesModel", "isHeld", "(II)Z"⟩ : MethodName) (⟨"TableauNodesModel", "isHeld", "(II)Z"⟩ : MethodName) ∈ tq_T := tq_in (List.mem_of_getElem? (i := 39) (by decide +kernel)) (by decide +kernel)
theorem ts_40 : Cond.selects "TableauNodesModel" (⟨"TableauNodesModel", "turn", "(I)Z"⟩ : MethodName) (⟨"TableauNodesModel", "turn", "(I)Z"⟩ : MethodName) ∈ tq_T := tq_in (List.mem_of_getElem? (i := 40) (by decide +kernel)) (by decide +kernel)
theorem ts_41 : Cond.selects "TableauNodesModel" (⟨"TableauNodesModel", "forbids", "(II)I"⟩ : MethodName) (⟨"TableauNodesModel", "forbids", "(II)I"⟩ : MethodName) ∈ tq_T := tq_in (List.mem_of_getElem? (i := 41) (by decide +kernel)) (by decide +kernel)
theorem ts_42 : Cond.selects "TableauNodesModel" (⟨"TableauNodesModel", "isThere", "(III)Z"⟩ : MethodName) (⟨"TableauNodesModel", "isThere", "(III)Z"⟩ : MethodName) ∈ tq_T := tq_in (List.mem_of_getElem? (i := 42) (by decide +kernel)) (by decide +kernel)
theorem ts_43 : Cond.selects "TableauNodesModel" (⟨"TableauNodesModel", "search", "(II)Z"⟩ : MethodName) (⟨"TableauNodesModel", "search", "(II)Z"⟩ : MethodName) ∈ tq_T := tq_in (List.mem_of_getElem? (i := 43) (by decide +kernel)) (by decide +kernel)
theorem ts_44 : Cond.selects "TableauNodesModel" (⟨"TableauNodesModel", "isSaid", "(II)Z"⟩ : MethodName) (⟨"TableauNodesModel", "isSaid", "(II)Z"⟩ : MethodName) ∈ tq_T := tq_in (List.mem_of_getElem? (i := 44) (by decide +kernel)) (by decide +kernel)
theorem ts_45 : Cond.selects "TableauNodesModel" (⟨"TableauNodesModel", "sees", "(III)Z"⟩ : MethodName) (⟨"TableauNodesModel", "sees", "(III)Z"⟩ : MethodName) ∈ tq_T := tq_in (List.mem_of_getElem? (i := 45) (by decide +kernel)) (by decide +kernel)
theorem ts_46 : Cond.selects "TableauNodesModel" (⟨"TableauNodesModel", "isLeft", "(II)Z"⟩ : MethodName) (⟨"TableauNodesModel", "isLeft", "(II)Z"⟩ : MethodName) ∈ tq_T := tq_in (List.mem_of_getElem? (i := 46) (by decide +kernel)) (by decide +kernel)
theorem in_Tn : ∀ w ∈ u_ws "TableauNodes" F_Tn 4, w ∈ tq_T := by
  intro w hw
  simp only [u_ws, List.range, List.range.loop, List.map, List.mem_cons, List.not_mem_nil, or_false] at hw
  rcases hw with rfl | rfl | rfl | rfl
  · exact tw_224
  · exact tw_226
  · exact tw_228
  · exact tw_230
theorem in_Co : ∀ w ∈ u_ws "TableauNodes$Concepts" F_Co 9, w ∈ tq_T := by
  intro w hw
  simp only [u_ws, List.range, List.range.loop, List.map, List.mem_cons, List.not_mem_nil, or_false] at hw
  rcases hw with rfl | rfl | rfl | rfl | rfl | rfl | rfl | rfl | rfl
  · exact tw_72
  · exact tw_74
  · exact tw_76
  · exact tw_78
  · exact tw_80
  · exact tw_82
  · exact tw_84
  · exact tw_86
  · exact tw_88
theorem in_Ro : ∀ w ∈ u_ws "TableauNodes$Roles" F_Ro 2, w ∈ tq_T := by
  intro w hw
  simp only [u_ws, List.range, List.range.loop, List.map, List.mem_cons, List.not_mem_nil, or_false] at hw
  rcases hw with rfl | rfl
  · exact tw_106
  · exact tw_108
theorem in_Go : ∀ w ∈ u_ws "TableauNodes$GoodTypes" F_Go 15, w ∈ tq_T := by
  intro w hw
  simp only [u_ws, List.range, List.range.loop, List.map, List.mem_cons, List.not_mem_nil, or_false] at hw
  rcases hw with rfl | rfl | rfl | rfl | rfl | rfl | rfl | rfl | rfl | rfl | rfl | rfl | rfl | rfl | rfl
  · exact tw_132
  · exact tw_134
  · exact tw_136
  · exact tw_138
  · exact tw_140
  · exact tw_142
  · exact tw_144
  · exact tw_146
  · exact tw_148
  · exact tw_150
  · exact tw_152
  · exact tw_154
  · exact tw_156
  · exact tw_158
  · exact tw_160
theorem in_Th : ∀ w ∈ u_ws "TableauNodes$Things" F_Th 15, w ∈ tq_T := by
  intro w hw
  simp only [u_ws, List.range, List.range.loop, List.map, List.mem_cons, List.not_mem_nil, or_false] at hw
  rcases hw with rfl | rfl | rfl | rfl | rfl | rfl | rfl | rfl | rfl | rfl | rfl | rfl | rfl | rfl | rfl
  · exact tw_189
  · exact tw_191
  · exact tw_193
  · exact tw_195
  · exact tw_197
  · exact tw_199
  · exact tw_201
  · exact tw_203
  · exact tw_205
  · exact tw_207
  · exact tw_209
  · exact tw_211
  · exact tw_213
  · exact tw_215
  · exact tw_217
theorem in_Mo : ∀ w ∈ u_ws "TableauNodesModel" F_Mo 25, w ∈ tq_T := by
  intro w hw
  simp only [u_ws, List.range, List.range.loop, List.map, List.mem_cons, List.not_mem_nil, or_false] at hw
  rcases hw with rfl | rfl | rfl | rfl | rfl | rfl | rfl | rfl | rfl | rfl | rfl | rfl | rfl | rfl | rfl | rfl | rfl | rfl | rfl | rfl | rfl | rfl | rfl | rfl | rfl
  · exact tw_624
  · exact tw_626
  · exact tw_628
  · exact tw_630
  · exact tw_632
  · exact tw_634
  · exact tw_636
  · exact tw_638
  · exact tw_640
  · exact tw_642
  · exact tw_644
  · exact tw_646
  · exact tw_648
  · exact tw_650
  · exact tw_652
  · exact tw_654
  · exact tw_656
  · exact tw_658
  · exact tw_660
  · exact tw_662
  · exact tw_664
  · exact tw_666
  · exact tw_668
  · exact tw_670
  · exact tw_672
