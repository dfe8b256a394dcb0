section
-- ===== PART A: goes FIRST, ahead of the names: the tables' words, and 'selects' of the private methods out of them =====
/-- a private method of a class that the tables say can be made, by its rows of tables_1 -/
def lw_okq (q : MethodName × Nat) : Prop := (q.1.cls ≠ "java/lang/invoke/MethodHandle" ∧ q.1.cls ≠ "java/lang/invoke/VarHandle") ∧ Cond.instantiable q.1.cls q.2 ∈ tables_1 ∧ Cond.privateMethod q.1 ∈ tables_1 ∧ Cond.instanceMethod q.1 ∈ tables_1
theorem lw_p0 : lw_okq (⟨"TableauNodes$Concepts", "find", "(III)I"⟩, 9) := ⟨⟨by decide +kernel, by decide +kernel⟩, List.mem_of_getElem? (i := 20) (by decide +kernel), List.mem_of_getElem? (i := 30) (by decide +kernel), List.mem_of_getElem? (i := 31) (by decide +kernel)⟩
theorem lw_p1 : lw_okq (⟨"TableauNodes$Concepts", "add", "(III)I"⟩, 9) := ⟨⟨by decide +kernel, by decide +kernel⟩, List.mem_of_getElem? (i := 20) (by decide +kernel), List.mem_of_getElem? (i := 34) (by decide +kernel), List.mem_of_getElem? (i := 35) (by decide +kernel)⟩
theorem lw_p2 : lw_okq (⟨"TableauNodes$Concepts", "newWord", "(IIII)J"⟩, 9) := ⟨⟨by decide +kernel, by decide +kernel⟩, List.mem_of_getElem? (i := 20) (by decide +kernel), List.mem_of_getElem? (i := 38) (by decide +kernel), List.mem_of_getElem? (i := 39) (by decide +kernel)⟩
theorem lw_p3 : lw_okq (⟨"TableauNodes$Concepts", "addAtom", "(I)V"⟩, 9) := ⟨⟨by decide +kernel, by decide +kernel⟩, List.mem_of_getElem? (i := 20) (by decide +kernel), List.mem_of_getElem? (i := 53) (by decide +kernel), List.mem_of_getElem? (i := 54) (by decide +kernel)⟩
theorem lw_p4 : lw_okq (⟨"TableauNodes$Concepts", "noteInner", "(II)V"⟩, 9) := ⟨⟨by decide +kernel, by decide +kernel⟩, List.mem_of_getElem? (i := 20) (by decide +kernel), List.mem_of_getElem? (i := 57) (by decide +kernel), List.mem_of_getElem? (i := 58) (by decide +kernel)⟩
theorem lw_p5 : lw_okq (⟨"TableauNodes$Roles", "close", "()V"⟩, 2) := ⟨⟨by decide +kernel, by decide +kernel⟩, List.mem_of_getElem? (i := 94) (by decide +kernel), List.mem_of_getElem? (i := 100) (by decide +kernel), List.mem_of_getElem? (i := 101) (by decide +kernel)⟩
theorem lw_p6 : lw_okq (⟨"TableauNodes$Things", "clear", "()V"⟩, 15) := ⟨⟨by decide +kernel, by decide +kernel⟩, List.mem_of_getElem? (i := 164) (by decide +kernel), List.mem_of_getElem? (i := 170) (by decide +kernel), List.mem_of_getElem? (i := 171) (by decide +kernel)⟩
theorem lw_p7 : lw_okq (⟨"TableauNodes$GoodTypes", "sortSomes", "()V"⟩, 15) := ⟨⟨by decide +kernel, by decide +kernel⟩, List.mem_of_getElem? (i := 112) (by decide +kernel), List.mem_of_getElem? (i := 317) (by decide +kernel), List.mem_of_getElem? (i := 318) (by decide +kernel)⟩
theorem lw_p8 : lw_okq (⟨"TableauNodes$GoodTypes", "begin", "()V"⟩, 15) := ⟨⟨by decide +kernel, by decide +kernel⟩, List.mem_of_getElem? (i := 112) (by decide +kernel), List.mem_of_getElem? (i := 335) (by decide +kernel), List.mem_of_getElem? (i := 336) (by decide +kernel)⟩
theorem lw_p9 : lw_okq (⟨"TableauNodes$GoodTypes", "keptByAxioms", "(JI)J"⟩, 15) := ⟨⟨by decide +kernel, by decide +kernel⟩, List.mem_of_getElem? (i := 112) (by decide +kernel), List.mem_of_getElem? (i := 351) (by decide +kernel), List.mem_of_getElem? (i := 352) (by decide +kernel)⟩
theorem lw_p10 : lw_okq (⟨"TableauNodes$GoodTypes", "isThere", "(I)Z"⟩, 15) := ⟨⟨by decide +kernel, by decide +kernel⟩, List.mem_of_getElem? (i := 112) (by decide +kernel), List.mem_of_getElem? (i := 358) (by decide +kernel), List.mem_of_getElem? (i := 359) (by decide +kernel)⟩
theorem lw_p11 : lw_okq (⟨"TableauNodes$GoodTypes", "makeRound", "(I)Z"⟩, 15) := ⟨⟨by decide +kernel, by decide +kernel⟩, List.mem_of_getElem? (i := 112) (by decide +kernel), List.mem_of_getElem? (i := 363) (by decide +kernel), List.mem_of_getElem? (i := 364) (by decide +kernel)⟩
theorem lw_p12 : lw_okq (⟨"TableauNodes$GoodTypes", "markUnserved", "(I)V"⟩, 15) := ⟨⟨by decide +kernel, by decide +kernel⟩, List.mem_of_getElem? (i := 112) (by decide +kernel), List.mem_of_getElem? (i := 367) (by decide +kernel), List.mem_of_getElem? (i := 368) (by decide +kernel)⟩
theorem lw_p13 : lw_okq (⟨"TableauNodes$GoodTypes", "findServed", "(I)V"⟩, 15) := ⟨⟨by decide +kernel, by decide +kernel⟩, List.mem_of_getElem? (i := 112) (by decide +kernel), List.mem_of_getElem? (i := 371) (by decide +kernel), List.mem_of_getElem? (i := 372) (by decide +kernel)⟩
theorem lw_p14 : lw_okq (⟨"TableauNodes$GoodTypes", "spreadServed", "(III)V"⟩, 15) := ⟨⟨by decide +kernel, by decide +kernel⟩, List.mem_of_getElem? (i := 112) (by decide +kernel), List.mem_of_getElem? (i := 385) (by decide +kernel), List.mem_of_getElem? (i := 386) (by decide +kernel)⟩
theorem lw_p15 : lw_okq (⟨"TableauNodes$GoodTypes", "takeAway", "(II)V"⟩, 15) := ⟨⟨by decide +kernel, by decide +kernel⟩, List.mem_of_getElem? (i := 112) (by decide +kernel), List.mem_of_getElem? (i := 389) (by decide +kernel), List.mem_of_getElem? (i := 390) (by decide +kernel)⟩
def lw_privs_1 : List (MethodName × Nat) := [(⟨"TableauNodes$Concepts", "find", "(III)I"⟩, 9), (⟨"TableauNodes$Concepts", "add", "(III)I"⟩, 9), (⟨"TableauNodes$Concepts", "newWord", "(IIII)J"⟩, 9), (⟨"TableauNodes$Concepts", "addAtom", "(I)V"⟩, 9), (⟨"TableauNodes$Concepts", "noteInner", "(II)V"⟩, 9), (⟨"TableauNodes$Roles", "close", "()V"⟩, 2), (⟨"TableauNodes$Things", "clear", "()V"⟩, 15), (⟨"TableauNodes$GoodTypes", "sortSomes", "()V"⟩, 15), (⟨"TableauNodes$GoodTypes", "begin", "()V"⟩, 15), (⟨"TableauNodes$GoodTypes", "keptByAxioms", "(JI)J"⟩, 15), (⟨"TableauNodes$GoodTypes", "isThere", "(I)Z"⟩, 15), (⟨"TableauNodes$GoodTypes", "makeRound", "(I)Z"⟩, 15), (⟨"TableauNodes$GoodTypes", "markUnserved", "(I)V"⟩, 15), (⟨"TableauNodes$GoodTypes", "findServed", "(I)V"⟩, 15), (⟨"TableauNodes$GoodTypes", "spreadServed", "(III)V"⟩, 15), (⟨"TableauNodes$GoodTypes", "takeAway", "(II)V"⟩, 15)]
theorem lw_r1 : ∀ q ∈ lw_privs_1, lw_okq q := List.forall_mem_cons.mpr ⟨lw_p0, List.forall_mem_cons.mpr ⟨lw_p1, List.forall_mem_cons.mpr ⟨lw_p2, List.forall_mem_cons.mpr ⟨lw_p3, List.forall_mem_cons.mpr ⟨lw_p4, List.forall_mem_cons.mpr ⟨lw_p5, List.forall_mem_cons.mpr ⟨lw_p6, List.forall_mem_cons.mpr ⟨lw_p7, List.forall_mem_cons.mpr ⟨lw_p8, List.forall_mem_cons.mpr ⟨lw_p9, List.forall_mem_cons.mpr ⟨lw_p10, List.forall_mem_cons.mpr ⟨lw_p11, List.forall_mem_cons.mpr ⟨lw_p12, List.forall_mem_cons.mpr ⟨lw_p13, List.forall_mem_cons.mpr ⟨lw_p14, List.forall_mem_cons.mpr ⟨lw_p15, fun _ h => absurd h List.not_mem_nil⟩⟩⟩⟩⟩⟩⟩⟩⟩⟩⟩⟩⟩⟩⟩⟩
theorem lw_p16 : lw_okq (⟨"TableauNodes$Things", "sortLinks", "()V"⟩, 15) := ⟨⟨by decide +kernel, by decide +kernel⟩, List.mem_of_getElem? (i := 164) (by decide +kernel), List.mem_of_getElem? (i := 479) (by decide +kernel), List.mem_of_getElem? (i := 480) (by decide +kernel)⟩
theorem lw_p17 : lw_okq (⟨"TableauNodes$Things", "begin", "()V"⟩, 15) := ⟨⟨by decide +kernel, by decide +kernel⟩, List.mem_of_getElem? (i := 164) (by decide +kernel), List.mem_of_getElem? (i := 488) (by decide +kernel), List.mem_of_getElem? (i := 489) (by decide +kernel)⟩
theorem lw_p18 : lw_okq (⟨"TableauNodes$Things", "seeingThemselves", "(JII)J"⟩, 15) := ⟨⟨by decide +kernel, by decide +kernel⟩, List.mem_of_getElem? (i := 164) (by decide +kernel), List.mem_of_getElem? (i := 500) (by decide +kernel), List.mem_of_getElem? (i := 501) (by decide +kernel)⟩
theorem lw_p19 : lw_okq (⟨"TableauNodes$Things", "canExtend", "(II)Z"⟩, 15) := ⟨⟨by decide +kernel, by decide +kernel⟩, List.mem_of_getElem? (i := 164) (by decide +kernel), List.mem_of_getElem? (i := 509) (by decide +kernel), List.mem_of_getElem? (i := 510) (by decide +kernel)⟩
theorem lw_p20 : lw_okq (⟨"TableauNodes$Things", "mostBound", "(II)I"⟩, 15) := ⟨⟨by decide +kernel, by decide +kernel⟩, List.mem_of_getElem? (i := 164) (by decide +kernel), List.mem_of_getElem? (i := 514) (by decide +kernel), List.mem_of_getElem? (i := 515) (by decide +kernel)⟩
theorem lw_p21 : lw_okq (⟨"TableauNodes$Things", "countLeft", "(II)I"⟩, 15) := ⟨⟨by decide +kernel, by decide +kernel⟩, List.mem_of_getElem? (i := 164) (by decide +kernel), List.mem_of_getElem? (i := 518) (by decide +kernel), List.mem_of_getElem? (i := 519) (by decide +kernel)⟩
theorem lw_p22 : lw_okq (⟨"TableauNodes$Things", "findDemands", "(III)I"⟩, 15) := ⟨⟨by decide +kernel, by decide +kernel⟩, List.mem_of_getElem? (i := 164) (by decide +kernel), List.mem_of_getElem? (i := 523) (by decide +kernel), List.mem_of_getElem? (i := 524) (by decide +kernel)⟩
theorem lw_p23 : lw_okq (⟨"TableauNodes$Things", "addDemand", "(III)I"⟩, 15) := ⟨⟨by decide +kernel, by decide +kernel⟩, List.mem_of_getElem? (i := 164) (by decide +kernel), List.mem_of_getElem? (i := 529) (by decide +kernel), List.mem_of_getElem? (i := 530) (by decide +kernel)⟩
theorem lw_p24 : lw_okq (⟨"TableauNodes$Things", "passOn", "(IIII)Z"⟩, 15) := ⟨⟨by decide +kernel, by decide +kernel⟩, List.mem_of_getElem? (i := 164) (by decide +kernel), List.mem_of_getElem? (i := 533) (by decide +kernel), List.mem_of_getElem? (i := 534) (by decide +kernel)⟩
theorem lw_p25 : lw_okq (⟨"TableauNodes$Things", "fitting", "(JIII)J"⟩, 15) := ⟨⟨by decide +kernel, by decide +kernel⟩, List.mem_of_getElem? (i := 164) (by decide +kernel), List.mem_of_getElem? (i := 537) (by decide +kernel), List.mem_of_getElem? (i := 538) (by decide +kernel)⟩
theorem lw_p26 : lw_okq (⟨"TableauNodes$Things", "leaveFirst", "(I)Z"⟩, 15) := ⟨⟨by decide +kernel, by decide +kernel⟩, List.mem_of_getElem? (i := 164) (by decide +kernel), List.mem_of_getElem? (i := 541) (by decide +kernel), List.mem_of_getElem? (i := 542) (by decide +kernel)⟩
theorem lw_p27 : lw_okq (⟨"TableauNodes$Things", "firstLeft", "(I)I"⟩, 15) := ⟨⟨by decide +kernel, by decide +kernel⟩, List.mem_of_getElem? (i := 164) (by decide +kernel), List.mem_of_getElem? (i := 545) (by decide +kernel), List.mem_of_getElem? (i := 546) (by decide +kernel)⟩
theorem lw_p28 : lw_okq (⟨"TableauNodes$Things", "keepSpare", "(I)V"⟩, 15) := ⟨⟨by decide +kernel, by decide +kernel⟩, List.mem_of_getElem? (i := 164) (by decide +kernel), List.mem_of_getElem? (i := 549) (by decide +kernel), List.mem_of_getElem? (i := 550) (by decide +kernel)⟩
theorem lw_p29 : lw_okq (⟨"TableauNodes$Things", "takeSpare", "(I)V"⟩, 15) := ⟨⟨by decide +kernel, by decide +kernel⟩, List.mem_of_getElem? (i := 164) (by decide +kernel), List.mem_of_getElem? (i := 556) (by decide +kernel), List.mem_of_getElem? (i := 557) (by decide +kernel)⟩
theorem lw_p30 : lw_okq (⟨"TableauNodes$Things", "leaveLeast", "(I)V"⟩, 15) := ⟨⟨by decide +kernel, by decide +kernel⟩, List.mem_of_getElem? (i := 164) (by decide +kernel), List.mem_of_getElem? (i := 560) (by decide +kernel), List.mem_of_getElem? (i := 561) (by decide +kernel)⟩
theorem lw_p31 : lw_okq (⟨"TableauNodes$Things", "leaveHalf", "(IIZ)V"⟩, 15) := ⟨⟨by decide +kernel, by decide +kernel⟩, List.mem_of_getElem? (i := 164) (by decide +kernel), List.mem_of_getElem? (i := 565) (by decide +kernel), List.mem_of_getElem? (i := 566) (by decide +kernel)⟩
def lw_privs_2 : List (MethodName × Nat) := [(⟨"TableauNodes$Things", "sortLinks", "()V"⟩, 15), (⟨"TableauNodes$Things", "begin", "()V"⟩, 15), (⟨"TableauNodes$Things", "seeingThemselves", "(JII)J"⟩, 15), (⟨"TableauNodes$Things", "canExtend", "(II)Z"⟩, 15), (⟨"TableauNodes$Things", "mostBound", "(II)I"⟩, 15), (⟨"TableauNodes$Things", "countLeft", "(II)I"⟩, 15), (⟨"TableauNodes$Things", "findDemands", "(III)I"⟩, 15), (⟨"TableauNodes$Things", "addDemand", "(III)I"⟩, 15), (⟨"TableauNodes$Things", "passOn", "(IIII)Z"⟩, 15), (⟨"TableauNodes$Things", "fitting", "(JIII)J"⟩, 15), (⟨"TableauNodes$Things", "leaveFirst", "(I)Z"⟩, 15), (⟨"TableauNodes$Things", "firstLeft", "(I)I"⟩, 15), (⟨"TableauNodes$Things", "keepSpare", "(I)V"⟩, 15), (⟨"TableauNodes$Things", "takeSpare", "(I)V"⟩, 15), (⟨"TableauNodes$Things", "leaveLeast", "(I)V"⟩, 15), (⟨"TableauNodes$Things", "leaveHalf", "(IIZ)V"⟩, 15)]
theorem lw_r2 : ∀ q ∈ lw_privs_2, lw_okq q := List.forall_mem_cons.mpr ⟨lw_p16, List.forall_mem_cons.mpr ⟨lw_p17, List.forall_mem_cons.mpr ⟨lw_p18, List.forall_mem_cons.mpr ⟨lw_p19, List.forall_mem_cons.mpr ⟨lw_p20, List.forall_mem_cons.mpr ⟨lw_p21, List.forall_mem_cons.mpr ⟨lw_p22, List.forall_mem_cons.mpr ⟨lw_p23, List.forall_mem_cons.mpr ⟨lw_p24, List.forall_mem_cons.mpr ⟨lw_p25, List.forall_mem_cons.mpr ⟨lw_p26, List.forall_mem_cons.mpr ⟨lw_p27, List.forall_mem_cons.mpr ⟨lw_p28, List.forall_mem_cons.mpr ⟨lw_p29, List.forall_mem_cons.mpr ⟨lw_p30, List.forall_mem_cons.mpr ⟨lw_p31, fun _ h => absurd h List.not_mem_nil⟩⟩⟩⟩⟩⟩⟩⟩⟩⟩⟩⟩⟩⟩⟩⟩
theorem lw_p32 : lw_okq (⟨"TableauNodesModel", "make", "(III)I"⟩, 25) := ⟨⟨by decide +kernel, by decide +kernel⟩, List.mem_of_getElem? (i := 593) (by decide +kernel), List.mem_of_getElem? (i := 681) (by decide +kernel), List.mem_of_getElem? (i := 682) (by decide +kernel)⟩
theorem lw_p33 : lw_okq (⟨"TableauNodesModel", "find", "(III)I"⟩, 25) := ⟨⟨by decide +kernel, by decide +kernel⟩, List.mem_of_getElem? (i := 593) (by decide +kernel), List.mem_of_getElem? (i := 685) (by decide +kernel), List.mem_of_getElem? (i := 686) (by decide +kernel)⟩
theorem lw_p34 : lw_okq (⟨"TableauNodesModel", "isConcept", "(I)Z"⟩, 25) := ⟨⟨by decide +kernel, by decide +kernel⟩, List.mem_of_getElem? (i := 593) (by decide +kernel), List.mem_of_getElem? (i := 693) (by decide +kernel), List.mem_of_getElem? (i := 694) (by decide +kernel)⟩
theorem lw_p35 : lw_okq (⟨"TableauNodesModel", "work", "()V"⟩, 25) := ⟨⟨by decide +kernel, by decide +kernel⟩, List.mem_of_getElem? (i := 593) (by decide +kernel), List.mem_of_getElem? (i := 728) (by decide +kernel), List.mem_of_getElem? (i := 729) (by decide +kernel)⟩
theorem lw_p36 : lw_okq (⟨"TableauNodesModel", "size", "()I"⟩, 25) := ⟨⟨by decide +kernel, by decide +kernel⟩, List.mem_of_getElem? (i := 593) (by decide +kernel), List.mem_of_getElem? (i := 732) (by decide +kernel), List.mem_of_getElem? (i := 733) (by decide +kernel)⟩
theorem lw_p37 : lw_okq (⟨"TableauNodesModel", "weigh", "(II)Z"⟩, 25) := ⟨⟨by decide +kernel, by decide +kernel⟩, List.mem_of_getElem? (i := 593) (by decide +kernel), List.mem_of_getElem? (i := 736) (by decide +kernel), List.mem_of_getElem? (i := 737) (by decide +kernel)⟩
theorem lw_p38 : lw_okq (⟨"TableauNodesModel", "atomOf", "(I)I"⟩, 25) := ⟨⟨by decide +kernel, by decide +kernel⟩, List.mem_of_getElem? (i := 593) (by decide +kernel), List.mem_of_getElem? (i := 740) (by decide +kernel), List.mem_of_getElem? (i := 741) (by decide +kernel)⟩
theorem lw_p39 : lw_okq (⟨"TableauNodesModel", "isHeld", "(II)Z"⟩, 25) := ⟨⟨by decide +kernel, by decide +kernel⟩, List.mem_of_getElem? (i := 593) (by decide +kernel), List.mem_of_getElem? (i := 744) (by decide +kernel), List.mem_of_getElem? (i := 745) (by decide +kernel)⟩
theorem lw_p40 : lw_okq (⟨"TableauNodesModel", "turn", "(I)Z"⟩, 25) := ⟨⟨by decide +kernel, by decide +kernel⟩, List.mem_of_getElem? (i := 593) (by decide +kernel), List.mem_of_getElem? (i := 748) (by decide +kernel), List.mem_of_getElem? (i := 749) (by decide +kernel)⟩
theorem lw_p41 : lw_okq (⟨"TableauNodesModel", "forbids", "(II)I"⟩, 25) := ⟨⟨by decide +kernel, by decide +kernel⟩, List.mem_of_getElem? (i := 593) (by decide +kernel), List.mem_of_getElem? (i := 752) (by decide +kernel), List.mem_of_getElem? (i := 753) (by decide +kernel)⟩
theorem lw_p42 : lw_okq (⟨"TableauNodesModel", "isThere", "(III)Z"⟩, 25) := ⟨⟨by decide +kernel, by decide +kernel⟩, List.mem_of_getElem? (i := 593) (by decide +kernel), List.mem_of_getElem? (i := 756) (by decide +kernel), List.mem_of_getElem? (i := 757) (by decide +kernel)⟩
theorem lw_p43 : lw_okq (⟨"TableauNodesModel", "search", "(II)Z"⟩, 25) := ⟨⟨by decide +kernel, by decide +kernel⟩, List.mem_of_getElem? (i := 593) (by decide +kernel), List.mem_of_getElem? (i := 795) (by decide +kernel), List.mem_of_getElem? (i := 796) (by decide +kernel)⟩
theorem lw_p44 : lw_okq (⟨"TableauNodesModel", "isSaid", "(II)Z"⟩, 25) := ⟨⟨by decide +kernel, by decide +kernel⟩, List.mem_of_getElem? (i := 593) (by decide +kernel), List.mem_of_getElem? (i := 802) (by decide +kernel), List.mem_of_getElem? (i := 803) (by decide +kernel)⟩
theorem lw_p45 : lw_okq (⟨"TableauNodesModel", "sees", "(III)Z"⟩, 25) := ⟨⟨by decide +kernel, by decide +kernel⟩, List.mem_of_getElem? (i := 593) (by decide +kernel), List.mem_of_getElem? (i := 806) (by decide +kernel), List.mem_of_getElem? (i := 807) (by decide +kernel)⟩
theorem lw_p46 : lw_okq (⟨"TableauNodesModel", "isLeft", "(II)Z"⟩, 25) := ⟨⟨by decide +kernel, by decide +kernel⟩, List.mem_of_getElem? (i := 593) (by decide +kernel), List.mem_of_getElem? (i := 810) (by decide +kernel), List.mem_of_getElem? (i := 811) (by decide +kernel)⟩
def lw_privs_3 : List (MethodName × Nat) := [(⟨"TableauNodesModel", "make", "(III)I"⟩, 25), (⟨"TableauNodesModel", "find", "(III)I"⟩, 25), (⟨"TableauNodesModel", "isConcept", "(I)Z"⟩, 25), (⟨"TableauNodesModel", "work", "()V"⟩, 25), (⟨"TableauNodesModel", "size", "()I"⟩, 25), (⟨"TableauNodesModel", "weigh", "(II)Z"⟩, 25), (⟨"TableauNodesModel", "atomOf", "(I)I"⟩, 25), (⟨"TableauNodesModel", "isHeld", "(II)Z"⟩, 25), (⟨"TableauNodesModel", "turn", "(I)Z"⟩, 25), (⟨"TableauNodesModel", "forbids", "(II)I"⟩, 25), (⟨"TableauNodesModel", "isThere", "(III)Z"⟩, 25), (⟨"TableauNodesModel", "search", "(II)Z"⟩, 25), (⟨"TableauNodesModel", "isSaid", "(II)Z"⟩, 25), (⟨"TableauNodesModel", "sees", "(III)Z"⟩, 25), (⟨"TableauNodesModel", "isLeft", "(II)Z"⟩, 25)]
theorem lw_r3 : ∀ q ∈ lw_privs_3, lw_okq q := List.forall_mem_cons.mpr ⟨lw_p32, List.forall_mem_cons.mpr ⟨lw_p33, List.forall_mem_cons.mpr ⟨lw_p34, List.forall_mem_cons.mpr ⟨lw_p35, List.forall_mem_cons.mpr ⟨lw_p36, List.forall_mem_cons.mpr ⟨lw_p37, List.forall_mem_cons.mpr ⟨lw_p38, List.forall_mem_cons.mpr ⟨lw_p39, List.forall_mem_cons.mpr ⟨lw_p40, List.forall_mem_cons.mpr ⟨lw_p41, List.forall_mem_cons.mpr ⟨lw_p42, List.forall_mem_cons.mpr ⟨lw_p43, List.forall_mem_cons.mpr ⟨lw_p44, List.forall_mem_cons.mpr ⟨lw_p45, List.forall_mem_cons.mpr ⟨lw_p46, fun _ h => absurd h List.not_mem_nil⟩⟩⟩⟩⟩⟩⟩⟩⟩⟩⟩⟩⟩⟩⟩
def lw_privs : List (MethodName × Nat) := lw_privs_1 ++ (lw_privs_2 ++ (lw_privs_3))
def lw_tbl : List Cond := k2_sels lw_privs ++ tables_1
theorem lw_privs_ok : ∀ q ∈ lw_privs, lw_okq q := by
  show ∀ q ∈ lw_privs_1 ++ (lw_privs_2 ++ (lw_privs_3)), lw_okq q
  exact List.forall_mem_append.mpr ⟨lw_r1, List.forall_mem_append.mpr ⟨lw_r2, lw_r3⟩⟩
def F_Tn : u_T := fun k => match k with
  | 0 => ("TableauNodes", "concepts", "LTableauNodes$Concepts;", true)
  | 1 => ("TableauNodes", "roles", "LTableauNodes$Roles;", true)
  | 2 => ("TableauNodes", "goods", "LTableauNodes$GoodTypes;", true)
  | _ => ("TableauNodes", "things", "LTableauNodes$Things;", true)
def ty_Tn : Nat → FieldType := fun k => match k with
  | 0 => .object "TableauNodes$Concepts"
  | 1 => .object "TableauNodes$Roles"
  | 2 => .object "TableauNodes$GoodTypes"
  | _ => .object "TableauNodes$Things"
theorem nm_Tn : ∀ a, a < 4 → ∀ b, b < 4 → a ≠ b → (F_Tn a).2.1 ≠ (F_Tn b).2.1 := by decide +kernel
theorem tk_Tn : ∀ k, k < 4 → parseFieldDescriptor (F_Tn k).2.2.1 = some (ty_Tn k) := by decide +kernel
def F_Co : u_T := fun k => match k with
  | 0 => ("TableauNodes$Concepts", "kinds", "[I", true)
  | 1 => ("TableauNodes$Concepts", "firsts", "[I", true)
  | 2 => ("TableauNodes$Concepts", "seconds", "[I", true)
  | 3 => ("TableauNodes$Concepts", "rows", "[J", true)
  | 4 => ("TableauNodes$Concepts", "atomConcepts", "[I", true)
  | 5 => ("TableauNodes$Concepts", "innerRows", "[J", true)
  | 6 => ("TableauNodes$Concepts", "inners", "[I", true)
  | 7 => ("TableauNodes$Concepts", "count", "I", false)
  | _ => ("TableauNodes$Concepts", "atomCount", "I", false)
def ty_Co : Nat → FieldType := fun k => match k with
  | 0 => .array .int
  | 1 => .array .int
  | 2 => .array .int
  | 3 => .array .long
  | 4 => .array .int
  | 5 => .array .long
  | 6 => .array .int
  | 7 => .int
  | _ => .int
theorem nm_Co : ∀ a, a < 9 → ∀ b, b < 9 → a ≠ b → (F_Co a).2.1 ≠ (F_Co b).2.1 := by decide +kernel
theorem tk_Co : ∀ k, k < 9 → parseFieldDescriptor (F_Co k).2.2.1 = some (ty_Co k) := by decide +kernel
def F_Ro : u_T := fun k => match k with
  | 0 => ("TableauNodes$Roles", "said", "[I", true)
  | _ => ("TableauNodes$Roles", "above", "[I", true)
def ty_Ro : Nat → FieldType := fun k => match k with
  | 0 => .array .int
  | _ => .array .int
theorem nm_Ro : ∀ a, a < 2 → ∀ b, b < 2 → a ≠ b → (F_Ro a).2.1 ≠ (F_Ro b).2.1 := by decide +kernel
theorem tk_Ro : ∀ k, k < 2 → parseFieldDescriptor (F_Ro k).2.2.1 = some (ty_Ro k) := by decide +kernel
def F_Go : u_T := fun k => match k with
  | 0 => ("TableauNodes$GoodTypes", "concepts", "LTableauNodes$Concepts;", true)
  | 1 => ("TableauNodes$GoodTypes", "roles", "LTableauNodes$Roles;", true)
  | 2 => ("TableauNodes$GoodTypes", "lefts", "[I", true)
  | 3 => ("TableauNodes$GoodTypes", "rights", "[I", true)
  | 4 => ("TableauNodes$GoodTypes", "axiomCount", "I", false)
  | 5 => ("TableauNodes$GoodTypes", "own", "[I", true)
  | 6 => ("TableauNodes$GoodTypes", "watched", "[I", true)
  | 7 => ("TableauNodes$GoodTypes", "there", "[J", true)
  | 8 => ("TableauNodes$GoodTypes", "going", "[J", true)
  | 9 => ("TableauNodes$GoodTypes", "depths", "[I", true)
  | 10 => ("TableauNodes$GoodTypes", "served", "[I", true)
  | 11 => ("TableauNodes$GoodTypes", "rounds", "I", false)
  | 12 => ("TableauNodes$GoodTypes", "stale", "Z", false)
  | 13 => ("TableauNodes$GoodTypes", "atomsThen", "I", false)
  | _ => ("TableauNodes$GoodTypes", "version", "I", false)
def ty_Go : Nat → FieldType := fun k => match k with
  | 0 => .object "TableauNodes$Concepts"
  | 1 => .object "TableauNodes$Roles"
  | 2 => .array .int
  | 3 => .array .int
  | 4 => .int
  | 5 => .array .int
  | 6 => .array .int
  | 7 => .array .long
  | 8 => .array .long
  | 9 => .array .int
  | 10 => .array .int
  | 11 => .int
  | 12 => .boolean
  | 13 => .int
  | _ => .int
theorem nm_Go : ∀ a, a < 15 → ∀ b, b < 15 → a ≠ b → (F_Go a).2.1 ≠ (F_Go b).2.1 := by decide +kernel
theorem tk_Go : ∀ k, k < 15 → parseFieldDescriptor (F_Go k).2.2.1 = some (ty_Go k) := by decide +kernel
def F_Th : u_T := fun k => match k with
  | 0 => ("TableauNodes$Things", "concepts", "LTableauNodes$Concepts;", true)
  | 1 => ("TableauNodes$Things", "goods", "LTableauNodes$GoodTypes;", true)
  | 2 => ("TableauNodes$Things", "said", "[J", true)
  | 3 => ("TableauNodes$Things", "rolesOf", "[I", true)
  | 4 => ("TableauNodes$Things", "links", "[I", true)
  | 5 => ("TableauNodes$Things", "isCount", "I", false)
  | 6 => ("TableauNodes$Things", "hasCount", "I", false)
  | 7 => ("TableauNodes$Things", "left", "[J", true)
  | 8 => ("TableauNodes$Things", "demands", "[I", true)
  | 9 => ("TableauNodes$Things", "spare", "[J", true)
  | 10 => ("TableauNodes$Things", "words", "I", false)
  | 11 => ("TableauNodes$Things", "found", "[I", true)
  | 12 => ("TableauNodes$Things", "isFound", "Z", false)
  | 13 => ("TableauNodes$Things", "stale", "Z", false)
  | _ => ("TableauNodes$Things", "versionThen", "I", false)
def ty_Th : Nat → FieldType := fun k => match k with
  | 0 => .object "TableauNodes$Concepts"
  | 1 => .object "TableauNodes$GoodTypes"
  | 2 => .array .long
  | 3 => .array .int
  | 4 => .array .int
  | 5 => .int
  | 6 => .int
  | 7 => .array .long
  | 8 => .array .int
  | 9 => .array .long
  | 10 => .int
  | 11 => .array .int
  | 12 => .boolean
  | 13 => .boolean
  | _ => .int
theorem nm_Th : ∀ a, a < 15 → ∀ b, b < 15 → a ≠ b → (F_Th a).2.1 ≠ (F_Th b).2.1 := by decide +kernel
theorem tk_Th : ∀ k, k < 15 → parseFieldDescriptor (F_Th k).2.2.1 = some (ty_Th k) := by decide +kernel
def F_Mo : u_T := fun k => match k with
  | 0 => ("TableauNodesModel", "kinds", "[I", true)
  | 1 => ("TableauNodesModel", "firsts", "[I", true)
  | 2 => ("TableauNodesModel", "seconds", "[I", true)
  | 3 => ("TableauNodesModel", "count", "I", false)
  | 4 => ("TableauNodesModel", "atoms", "[I", true)
  | 5 => ("TableauNodesModel", "atomCount", "I", false)
  | 6 => ("TableauNodesModel", "lefts", "[I", true)
  | 7 => ("TableauNodesModel", "rights", "[I", true)
  | 8 => ("TableauNodesModel", "axioms", "I", false)
  | 9 => ("TableauNodesModel", "roles", "[Z", true)
  | 10 => ("TableauNodesModel", "beings", "[I", true)
  | 11 => ("TableauNodesModel", "saidOf", "[I", true)
  | 12 => ("TableauNodesModel", "beingCount", "I", false)
  | 13 => ("TableauNodesModel", "froms", "[I", true)
  | 14 => ("TableauNodesModel", "bys", "[I", true)
  | 15 => ("TableauNodesModel", "tos", "[I", true)
  | 16 => ("TableauNodesModel", "linkCount", "I", false)
  | 17 => ("TableauNodesModel", "known", "Z", false)
  | 18 => ("TableauNodesModel", "holds", "[Z", true)
  | 19 => ("TableauNodesModel", "owns", "[I", true)
  | 20 => ("TableauNodesModel", "gone", "[I", true)
  | 21 => ("TableauNodesModel", "under", "[Z", true)
  | 22 => ("TableauNodesModel", "rounds", "I", false)
  | 23 => ("TableauNodesModel", "may", "[Z", true)
  | _ => ("TableauNodesModel", "chosen", "[I", true)
def ty_Mo : Nat → FieldType := fun k => match k with
  | 0 => .array .int
  | 1 => .array .int
  | 2 => .array .int
  | 3 => .int
  | 4 => .array .int
  | 5 => .int
  | 6 => .array .int
  | 7 => .array .int
  | 8 => .int
  | 9 => .array .boolean
  | 10 => .array .int
  | 11 => .array .int
  | 12 => .int
  | 13 => .array .int
  | 14 => .array .int
  | 15 => .array .int
  | 16 => .int
  | 17 => .boolean
  | 18 => .array .boolean
  | 19 => .array .int
  | 20 => .array .int
  | 21 => .array .boolean
  | 22 => .int
  | 23 => .array .boolean
  | _ => .array .int
theorem nm_Mo : ∀ a, a < 25 → ∀ b, b < 25 → a ≠ b → (F_Mo a).2.1 ≠ (F_Mo b).2.1 := by decide +kernel
theorem tk_Mo : ∀ k, k < 25 → parseFieldDescriptor (F_Mo k).2.2.1 = some (ty_Mo k) := by decide +kernel
abbrev tq_cl : List vw_C := [("TableauNodes", F_Tn, 4), ("TableauNodes$Concepts", F_Co, 9), ("TableauNodes$Roles", F_Ro, 2), ("TableauNodes$GoodTypes", F_Go, 15), ("TableauNodes$Things", F_Th, 15), ("TableauNodesModel", F_Mo, 25)]
def tq_T : List Cond := lw_tbl.filter goodWord
theorem tq_in {w : Cond} (h : w ∈ lw_tbl) (hg : goodWord w = true) : w ∈ tq_T := List.mem_filter.mpr ⟨h, hg⟩
theorem tq_gw : ∀ w ∈ tq_T, goodWord w = true := fun _ h => (List.mem_filter.mp h).2
theorem tw_0 : (Jvm.Cond.initialized "TableauNodesLaw") ∈ tq_T := tq_in (List.mem_of_getElem? (i := 47) (by decide +kernel)) (by decide +kernel)
theorem tw_1 : (Jvm.Cond.initialized "TableauNodes") ∈ tq_T := tq_in (List.mem_of_getElem? (i := 48) (by decide +kernel)) (by decide +kernel)
theorem tw_2 : (Jvm.Cond.initialized "TableauNodes$Concepts") ∈ tq_T := tq_in (List.mem_of_getElem? (i := 49) (by decide +kernel)) (by decide +kernel)
theorem tw_3 : (Jvm.Cond.initialized "TableauNodes$Roles") ∈ tq_T := tq_in (List.mem_of_getElem? (i := 50) (by decide +kernel)) (by decide +kernel)
theorem tw_4 : (Jvm.Cond.initialized "TableauNodes$GoodTypes") ∈ tq_T := tq_in (List.mem_of_getElem? (i := 51) (by decide +kernel)) (by decide +kernel)
theorem tw_5 : (Jvm.Cond.initialized "TableauNodes$Things") ∈ tq_T := tq_in (List.mem_of_getElem? (i := 52) (by decide +kernel)) (by decide +kernel)
theorem tw_6 : (Jvm.Cond.initialized "TableauNodesModel") ∈ tq_T := tq_in (List.mem_of_getElem? (i := 53) (by decide +kernel)) (by decide +kernel)
theorem tw_7 : (Jvm.Cond.initialized "java/lang/Integer") ∈ tq_T := tq_in (List.mem_of_getElem? (i := 54) (by decide +kernel)) (by decide +kernel)
theorem tw_8 : (Jvm.Cond.initialized "java/lang/Long") ∈ tq_T := tq_in (List.mem_of_getElem? (i := 55) (by decide +kernel)) (by decide +kernel)
theorem tw_9 : (Jvm.Cond.initialized "java/lang/Math") ∈ tq_T := tq_in (List.mem_of_getElem? (i := 56) (by decide +kernel)) (by decide +kernel)
theorem tw_10 : (Jvm.Cond.initialized "java/lang/System") ∈ tq_T := tq_in (List.mem_of_getElem? (i := 57) (by decide +kernel)) (by decide +kernel)
theorem tw_11 : (Jvm.Cond.classLink "TableauNodesLaw" (7 : Nat) "TableauNodes") ∈ tq_T := tq_in (List.mem_of_getElem? (i := 58) (by decide +kernel)) (by decide +kernel)
theorem tw_12 : (Jvm.Cond.instantiable "TableauNodes" (4 : Nat)) ∈ tq_T := tq_in (List.mem_of_getElem? (i := 59) (by decide +kernel)) (by decide +kernel)
theorem tw_13 : (Jvm.Cond.methodLink "TableauNodesLaw" (9 : Nat) ({ cls := "TableauNodes", name := "<init>", desc := "()V" } : Jvm.MethodName)) ∈ tq_T := tq_in (List.mem_of_getElem? (i := 60) (by decide +kernel)) (by decide +kernel)
theorem tw_14 : (Jvm.Cond.instanceMethod ({ cls := "TableauNodes", name := "<init>", desc := "()V" } : Jvm.MethodName)) ∈ tq_T := tq_in (List.mem_of_getElem? (i := 61) (by decide +kernel)) (by decide +kernel)
theorem tw_15 : (Jvm.Cond.code ({ cls := "TableauNodes", name := "<init>", desc := "()V" } : Jvm.MethodName) prog_1_method_1_code (1 : Nat) (Option.none : Option Jvm.ClassFile.FieldType)) ∈ tq_T := tq_in (List.mem_of_getElem? (i := 62) (by decide +kernel)) (by decide +kernel)
theorem tw_16 : (Jvm.Cond.methodLink "TableauNodes" (3 : Nat) ({ cls := "java/lang/Object", name := "<init>", desc := "()V" } : Jvm.MethodName)) ∈ tq_T := tq_in (List.mem_of_getElem? (i := 63) (by decide +kernel)) (by decide +kernel)
theorem tw_17 : (Jvm.Cond.instanceMethod ({ cls := "java/lang/Object", name := "<init>", desc := "()V" } : Jvm.MethodName)) ∈ tq_T := tq_in (List.mem_of_getElem? (i := 64) (by decide +kernel)) (by decide +kernel)
theorem tw_18 : (Jvm.Cond.code ({ cls := "java/lang/Object", name := "<init>", desc := "()V" } : Jvm.MethodName) object_method_1_code (1 : Nat) (Option.none : Option Jvm.ClassFile.FieldType)) ∈ tq_T := tq_in (List.mem_of_getElem? (i := 65) (by decide +kernel)) (by decide +kernel)
theorem tw_19 : (Jvm.Cond.classLink "TableauNodes" (9 : Nat) "TableauNodes$Concepts") ∈ tq_T := tq_in (List.mem_of_getElem? (i := 66) (by decide +kernel)) (by decide +kernel)
theorem tw_20 : (Jvm.Cond.instantiable "TableauNodes$Concepts" (9 : Nat)) ∈ tq_T := tq_in (List.mem_of_getElem? (i := 67) (by decide +kernel)) (by decide +kernel)
theorem tw_21 : (Jvm.Cond.methodLink "TableauNodes" (11 : Nat) ({ cls := "TableauNodes$Concepts", name := "<init>", desc := "()V" } : Jvm.MethodName)) ∈ tq_T := tq_in (List.mem_of_getElem? (i := 68) (by decide +kernel)) (by decide +kernel)
theorem tw_22 : (Jvm.Cond.instanceMethod ({ cls := "TableauNodes$Concepts", name := "<init>", desc := "()V" } : Jvm.MethodName)) ∈ tq_T := tq_in (List.mem_of_getElem? (i := 69) (by decide +kernel)) (by decide +kernel)
theorem tw_23 : (Jvm.Cond.code ({ cls := "TableauNodes$Concepts", name := "<init>", desc := "()V" } : Jvm.MethodName) prog_2_method_1_code (1 : Nat) (Option.none : Option Jvm.ClassFile.FieldType)) ∈ tq_T := tq_in (List.mem_of_getElem? (i := 70) (by decide +kernel)) (by decide +kernel)
theorem tw_24 : (Jvm.Cond.methodLink "TableauNodes$Concepts" (3 : Nat) ({ cls := "java/lang/Object", name := "<init>", desc := "()V" } : Jvm.MethodName)) ∈ tq_T := tq_in (List.mem_of_getElem? (i := 71) (by decide +kernel)) (by decide +kernel)
theorem tw_25 : (Jvm.Cond.methodLink "TableauNodes$Concepts" (34 : Nat) ({ cls := "TableauNodes$Concepts", name := "make", desc := "(III)I" } : Jvm.MethodName)) ∈ tq_T := tq_in (List.mem_of_getElem? (i := 72) (by decide +kernel)) (by decide +kernel)
theorem tw_26 : (Jvm.Cond.instanceMethod ({ cls := "TableauNodes$Concepts", name := "make", desc := "(III)I" } : Jvm.MethodName)) ∈ tq_T := tq_in (List.mem_of_getElem? (i := 73) (by decide +kernel)) (by decide +kernel)
theorem tw_27 : (Jvm.Cond.selects "TableauNodes$Concepts" ({ cls := "TableauNodes$Concepts", name := "make", desc := "(III)I" } : Jvm.MethodName) ({ cls := "TableauNodes$Concepts", name := "make", desc := "(III)I" } : Jvm.MethodName)) ∈ tq_T := tq_in (List.mem_of_getElem? (i := 74) (by decide +kernel)) (by decide +kernel)
theorem tw_28 : (Jvm.Cond.code ({ cls := "TableauNodes$Concepts", name := "make", desc := "(III)I" } : Jvm.MethodName) prog_2_method_9_code (5 : Nat) (Option.some Jvm.ClassFile.FieldType.int)) ∈ tq_T := tq_in (List.mem_of_getElem? (i := 75) (by decide +kernel)) (by decide +kernel)
theorem tw_29 : (Jvm.Cond.methodLink "TableauNodes$Concepts" (55 : Nat) ({ cls := "TableauNodes$Concepts", name := "find", desc := "(III)I" } : Jvm.MethodName)) ∈ tq_T := tq_in (List.mem_of_getElem? (i := 76) (by decide +kernel)) (by decide +kernel)
theorem tw_31 : (Jvm.Cond.instanceMethod ({ cls := "TableauNodes$Concepts", name := "find", desc := "(III)I" } : Jvm.MethodName)) ∈ tq_T := tq_in (List.mem_of_getElem? (i := 78) (by decide +kernel)) (by decide +kernel)
theorem tw_32 : (Jvm.Cond.code ({ cls := "TableauNodes$Concepts", name := "find", desc := "(III)I" } : Jvm.MethodName) prog_2_method_18_code (5 : Nat) (Option.some Jvm.ClassFile.FieldType.int)) ∈ tq_T := tq_in (List.mem_of_getElem? (i := 79) (by decide +kernel)) (by decide +kernel)
theorem tw_33 : (Jvm.Cond.methodLink "TableauNodes$Concepts" (58 : Nat) ({ cls := "TableauNodes$Concepts", name := "add", desc := "(III)I" } : Jvm.MethodName)) ∈ tq_T := tq_in (List.mem_of_getElem? (i := 80) (by decide +kernel)) (by decide +kernel)
theorem tw_35 : (Jvm.Cond.instanceMethod ({ cls := "TableauNodes$Concepts", name := "add", desc := "(III)I" } : Jvm.MethodName)) ∈ tq_T := tq_in (List.mem_of_getElem? (i := 82) (by decide +kernel)) (by decide +kernel)
theorem tw_36 : (Jvm.Cond.code ({ cls := "TableauNodes$Concepts", name := "add", desc := "(III)I" } : Jvm.MethodName) prog_2_method_19_code (8 : Nat) (Option.some Jvm.ClassFile.FieldType.int)) ∈ tq_T := tq_in (List.mem_of_getElem? (i := 83) (by decide +kernel)) (by decide +kernel)
theorem tw_37 : (Jvm.Cond.methodLink "TableauNodes$Concepts" (79 : Nat) ({ cls := "TableauNodes$Concepts", name := "newWord", desc := "(IIII)J" } : Jvm.MethodName)) ∈ tq_T := tq_in (List.mem_of_getElem? (i := 84) (by decide +kernel)) (by decide +kernel)
theorem tw_39 : (Jvm.Cond.instanceMethod ({ cls := "TableauNodes$Concepts", name := "newWord", desc := "(IIII)J" } : Jvm.MethodName)) ∈ tq_T := tq_in (List.mem_of_getElem? (i := 86) (by decide +kernel)) (by decide +kernel)
theorem tw_40 : (Jvm.Cond.code ({ cls := "TableauNodes$Concepts", name := "newWord", desc := "(IIII)J" } : Jvm.MethodName) prog_2_method_20_code (5 : Nat) (Option.some Jvm.ClassFile.FieldType.long)) ∈ tq_T := tq_in (List.mem_of_getElem? (i := 87) (by decide +kernel)) (by decide +kernel)
theorem tw_41 : (Jvm.Cond.constantLong "TableauNodes$Concepts" (49 : Nat) (-1 : Int64)) ∈ tq_T := tq_in (List.mem_of_getElem? (i := 88) (by decide +kernel)) (by decide +kernel)
theorem tw_42 : (Jvm.Cond.methodLink "TableauNodes$Concepts" (87 : Nat) ({ cls := "TableauNodes$Concepts", name := "atomWord", desc := "(II)J" } : Jvm.MethodName)) ∈ tq_T := tq_in (List.mem_of_getElem? (i := 89) (by decide +kernel)) (by decide +kernel)
theorem tw_43 : (Jvm.Cond.instanceMethod ({ cls := "TableauNodes$Concepts", name := "atomWord", desc := "(II)J" } : Jvm.MethodName)) ∈ tq_T := tq_in (List.mem_of_getElem? (i := 90) (by decide +kernel)) (by decide +kernel)
theorem tw_44 : (Jvm.Cond.selects "TableauNodes$Concepts" ({ cls := "TableauNodes$Concepts", name := "atomWord", desc := "(II)J" } : Jvm.MethodName) ({ cls := "TableauNodes$Concepts", name := "atomWord", desc := "(II)J" } : Jvm.MethodName)) ∈ tq_T := tq_in (List.mem_of_getElem? (i := 91) (by decide +kernel)) (by decide +kernel)
theorem tw_45 : (Jvm.Cond.code ({ cls := "TableauNodes$Concepts", name := "atomWord", desc := "(II)J" } : Jvm.MethodName) prog_2_method_13_code (3 : Nat) (Option.some Jvm.ClassFile.FieldType.long)) ∈ tq_T := tq_in (List.mem_of_getElem? (i := 92) (by decide +kernel)) (by decide +kernel)
theorem tw_46 : (Jvm.Cond.fieldLink "TableauNodes$Concepts" (69 : Nat) "TableauNodes$Concepts" "LOW_ATOM_WORDS" "[J") ∈ tq_T := tq_in (List.mem_of_getElem? (i := 93) (by decide +kernel)) (by decide +kernel)
theorem tw_48 : (Jvm.Cond.methodLink "TableauNodes$Concepts" (61 : Nat) ({ cls := "TableauNodes$Concepts", name := "word", desc := "(II)J" } : Jvm.MethodName)) ∈ tq_T := tq_in (List.mem_of_getElem? (i := 95) (by decide +kernel)) (by decide +kernel)
theorem tw_49 : (Jvm.Cond.instanceMethod ({ cls := "TableauNodes$Concepts", name := "word", desc := "(II)J" } : Jvm.MethodName)) ∈ tq_T := tq_in (List.mem_of_getElem? (i := 96) (by decide +kernel)) (by decide +kernel)
theorem tw_50 : (Jvm.Cond.selects "TableauNodes$Concepts" ({ cls := "TableauNodes$Concepts", name := "word", desc := "(II)J" } : Jvm.MethodName) ({ cls := "TableauNodes$Concepts", name := "word", desc := "(II)J" } : Jvm.MethodName)) ∈ tq_T := tq_in (List.mem_of_getElem? (i := 97) (by decide +kernel)) (by decide +kernel)
theorem tw_51 : (Jvm.Cond.code ({ cls := "TableauNodes$Concepts", name := "word", desc := "(II)J" } : Jvm.MethodName) prog_2_method_11_code (4 : Nat) (Option.some Jvm.ClassFile.FieldType.long)) ∈ tq_T := tq_in (List.mem_of_getElem? (i := 98) (by decide +kernel)) (by decide +kernel)
theorem tw_52 : (Jvm.Cond.methodLink "TableauNodes$Concepts" (83 : Nat) ({ cls := "TableauNodes$Concepts", name := "addAtom", desc := "(I)V" } : Jvm.MethodName)) ∈ tq_T := tq_in (List.mem_of_getElem? (i := 99) (by decide +kernel)) (by decide +kernel)
theorem tw_54 : (Jvm.Cond.instanceMethod ({ cls := "TableauNodes$Concepts", name := "addAtom", desc := "(I)V" } : Jvm.MethodName)) ∈ tq_T := tq_in (List.mem_of_getElem? (i := 101) (by decide +kernel)) (by decide +kernel)
theorem tw_55 : (Jvm.Cond.code ({ cls := "TableauNodes$Concepts", name := "addAtom", desc := "(I)V" } : Jvm.MethodName) prog_2_method_21_code (3 : Nat) (Option.none : Option Jvm.ClassFile.FieldType)) ∈ tq_T := tq_in (List.mem_of_getElem? (i := 102) (by decide +kernel)) (by decide +kernel)
theorem tw_56 : (Jvm.Cond.methodLink "TableauNodes$Concepts" (90 : Nat) ({ cls := "TableauNodes$Concepts", name := "noteInner", desc := "(II)V" } : Jvm.MethodName)) ∈ tq_T := tq_in (List.mem_of_getElem? (i := 103) (by decide +kernel)) (by decide +kernel)
theorem tw_58 : (Jvm.Cond.instanceMethod ({ cls := "TableauNodes$Concepts", name := "noteInner", desc := "(II)V" } : Jvm.MethodName)) ∈ tq_T := tq_in (List.mem_of_getElem? (i := 105) (by decide +kernel)) (by decide +kernel)
theorem tw_59 : (Jvm.Cond.code ({ cls := "TableauNodes$Concepts", name := "noteInner", desc := "(II)V" } : Jvm.MethodName) prog_2_method_22_code (7 : Nat) (Option.none : Option Jvm.ClassFile.FieldType)) ∈ tq_T := tq_in (List.mem_of_getElem? (i := 106) (by decide +kernel)) (by decide +kernel)
theorem tw_61 : (Jvm.Cond.static ({ cls := "TableauNodes", name := "hasBit", desc := "(JI)Z" } : Jvm.MethodName)) ∈ tq_T := tq_in (List.mem_of_getElem? (i := 108) (by decide +kernel)) (by decide +kernel)
theorem tw_62 : (Jvm.Cond.code ({ cls := "TableauNodes", name := "hasBit", desc := "(JI)Z" } : Jvm.MethodName) prog_1_method_22_code (3 : Nat) (Option.some Jvm.ClassFile.FieldType.boolean)) ∈ tq_T := tq_in (List.mem_of_getElem? (i := 109) (by decide +kernel)) (by decide +kernel)
theorem tw_63 : (Jvm.Cond.fieldLink "TableauNodes$Concepts" (9 : Nat) "TableauNodes$Concepts" "kinds" "[I") ∈ tq_T := tq_in (List.mem_of_getElem? (i := 110) (by decide +kernel)) (by decide +kernel)
theorem tw_64 : (Jvm.Cond.fieldLink "TableauNodes$Concepts" (15 : Nat) "TableauNodes$Concepts" "firsts" "[I") ∈ tq_T := tq_in (List.mem_of_getElem? (i := 111) (by decide +kernel)) (by decide +kernel)
theorem tw_65 : (Jvm.Cond.fieldLink "TableauNodes$Concepts" (18 : Nat) "TableauNodes$Concepts" "seconds" "[I") ∈ tq_T := tq_in (List.mem_of_getElem? (i := 112) (by decide +kernel)) (by decide +kernel)
theorem tw_66 : (Jvm.Cond.fieldLink "TableauNodes$Concepts" (21 : Nat) "TableauNodes$Concepts" "rows" "[J") ∈ tq_T := tq_in (List.mem_of_getElem? (i := 113) (by decide +kernel)) (by decide +kernel)
theorem tw_67 : (Jvm.Cond.fieldLink "TableauNodes$Concepts" (25 : Nat) "TableauNodes$Concepts" "atomConcepts" "[I") ∈ tq_T := tq_in (List.mem_of_getElem? (i := 114) (by decide +kernel)) (by decide +kernel)
theorem tw_68 : (Jvm.Cond.fieldLink "TableauNodes$Concepts" (28 : Nat) "TableauNodes$Concepts" "innerRows" "[J") ∈ tq_T := tq_in (List.mem_of_getElem? (i := 115) (by decide +kernel)) (by decide +kernel)
theorem tw_69 : (Jvm.Cond.fieldLink "TableauNodes$Concepts" (31 : Nat) "TableauNodes$Concepts" "inners" "[I") ∈ tq_T := tq_in (List.mem_of_getElem? (i := 116) (by decide +kernel)) (by decide +kernel)
theorem tw_70 : (Jvm.Cond.fieldLink "TableauNodes$Concepts" (38 : Nat) "TableauNodes$Concepts" "count" "I") ∈ tq_T := tq_in (List.mem_of_getElem? (i := 117) (by decide +kernel)) (by decide +kernel)
theorem tw_71 : (Jvm.Cond.fieldLink "TableauNodes$Concepts" (42 : Nat) "TableauNodes$Concepts" "atomCount" "I") ∈ tq_T := tq_in (List.mem_of_getElem? (i := 118) (by decide +kernel)) (by decide +kernel)
theorem tw_72 : (Jvm.Cond.laysFinal "TableauNodes$Concepts" "TableauNodes$Concepts" "kinds" "[I") ∈ tq_T := tq_in (List.mem_of_getElem? (i := 119) (by decide +kernel)) (by decide +kernel)
theorem tw_74 : (Jvm.Cond.laysFinal "TableauNodes$Concepts" "TableauNodes$Concepts" "firsts" "[I") ∈ tq_T := tq_in (List.mem_of_getElem? (i := 121) (by decide +kernel)) (by decide +kernel)
theorem tw_76 : (Jvm.Cond.laysFinal "TableauNodes$Concepts" "TableauNodes$Concepts" "seconds" "[I") ∈ tq_T := tq_in (List.mem_of_getElem? (i := 123) (by decide +kernel)) (by decide +kernel)
theorem tw_78 : (Jvm.Cond.laysFinal "TableauNodes$Concepts" "TableauNodes$Concepts" "rows" "[J") ∈ tq_T := tq_in (List.mem_of_getElem? (i := 125) (by decide +kernel)) (by decide +kernel)
theorem tw_80 : (Jvm.Cond.laysFinal "TableauNodes$Concepts" "TableauNodes$Concepts" "atomConcepts" "[I") ∈ tq_T := tq_in (List.mem_of_getElem? (i := 127) (by decide +kernel)) (by decide +kernel)
theorem tw_82 : (Jvm.Cond.laysFinal "TableauNodes$Concepts" "TableauNodes$Concepts" "innerRows" "[J") ∈ tq_T := tq_in (List.mem_of_getElem? (i := 129) (by decide +kernel)) (by decide +kernel)
theorem tw_84 : (Jvm.Cond.laysFinal "TableauNodes$Concepts" "TableauNodes$Concepts" "inners" "[I") ∈ tq_T := tq_in (List.mem_of_getElem? (i := 131) (by decide +kernel)) (by decide +kernel)
theorem tw_86 : (Jvm.Cond.lays "TableauNodes$Concepts" "TableauNodes$Concepts" "count" "I") ∈ tq_T := tq_in (List.mem_of_getElem? (i := 133) (by decide +kernel)) (by decide +kernel)
theorem tw_88 : (Jvm.Cond.lays "TableauNodes$Concepts" "TableauNodes$Concepts" "atomCount" "I") ∈ tq_T := tq_in (List.mem_of_getElem? (i := 135) (by decide +kernel)) (by decide +kernel)
theorem tw_91 : (Jvm.Cond.arrayClass Jvm.ClassFile.FieldType.int) ∈ tq_T := tq_in (List.mem_of_getElem? (i := 138) (by decide +kernel)) (by decide +kernel)
theorem tw_92 : (Jvm.Cond.arrayClass Jvm.ClassFile.FieldType.long) ∈ tq_T := tq_in (List.mem_of_getElem? (i := 139) (by decide +kernel)) (by decide +kernel)
theorem tw_93 : (Jvm.Cond.classLink "TableauNodes" (16 : Nat) "TableauNodes$Roles") ∈ tq_T := tq_in (List.mem_of_getElem? (i := 140) (by decide +kernel)) (by decide +kernel)
theorem tw_94 : (Jvm.Cond.instantiable "TableauNodes$Roles" (2 : Nat)) ∈ tq_T := tq_in (List.mem_of_getElem? (i := 141) (by decide +kernel)) (by decide +kernel)
theorem tw_95 : (Jvm.Cond.methodLink "TableauNodes" (18 : Nat) ({ cls := "TableauNodes$Roles", name := "<init>", desc := "()V" } : Jvm.MethodName)) ∈ tq_T := tq_in (List.mem_of_getElem? (i := 142) (by decide +kernel)) (by decide +kernel)
theorem tw_96 : (Jvm.Cond.instanceMethod ({ cls := "TableauNodes$Roles", name := "<init>", desc := "()V" } : Jvm.MethodName)) ∈ tq_T := tq_in (List.mem_of_getElem? (i := 143) (by decide +kernel)) (by decide +kernel)
theorem tw_97 : (Jvm.Cond.code ({ cls := "TableauNodes$Roles", name := "<init>", desc := "()V" } : Jvm.MethodName) prog_4_method_1_code (1 : Nat) (Option.none : Option Jvm.ClassFile.FieldType)) ∈ tq_T := tq_in (List.mem_of_getElem? (i := 144) (by decide +kernel)) (by decide +kernel)
theorem tw_98 : (Jvm.Cond.methodLink "TableauNodes$Roles" (3 : Nat) ({ cls := "java/lang/Object", name := "<init>", desc := "()V" } : Jvm.MethodName)) ∈ tq_T := tq_in (List.mem_of_getElem? (i := 145) (by decide +kernel)) (by decide +kernel)
theorem tw_99 : (Jvm.Cond.methodLink "TableauNodes$Roles" (18 : Nat) ({ cls := "TableauNodes$Roles", name := "close", desc := "()V" } : Jvm.MethodName)) ∈ tq_T := tq_in (List.mem_of_getElem? (i := 146) (by decide +kernel)) (by decide +kernel)
theorem tw_101 : (Jvm.Cond.instanceMethod ({ cls := "TableauNodes$Roles", name := "close", desc := "()V" } : Jvm.MethodName)) ∈ tq_T := tq_in (List.mem_of_getElem? (i := 148) (by decide +kernel)) (by decide +kernel)
theorem tw_102 : (Jvm.Cond.code ({ cls := "TableauNodes$Roles", name := "close", desc := "()V" } : Jvm.MethodName) prog_4_method_4_code (3 : Nat) (Option.none : Option Jvm.ClassFile.FieldType)) ∈ tq_T := tq_in (List.mem_of_getElem? (i := 149) (by decide +kernel)) (by decide +kernel)
theorem tw_104 : (Jvm.Cond.fieldLink "TableauNodes$Roles" (9 : Nat) "TableauNodes$Roles" "said" "[I") ∈ tq_T := tq_in (List.mem_of_getElem? (i := 151) (by decide +kernel)) (by decide +kernel)
theorem tw_105 : (Jvm.Cond.fieldLink "TableauNodes$Roles" (15 : Nat) "TableauNodes$Roles" "above" "[I") ∈ tq_T := tq_in (List.mem_of_getElem? (i := 152) (by decide +kernel)) (by decide +kernel)
theorem tw_106 : (Jvm.Cond.laysFinal "TableauNodes$Roles" "TableauNodes$Roles" "said" "[I") ∈ tq_T := tq_in (List.mem_of_getElem? (i := 153) (by decide +kernel)) (by decide +kernel)
theorem tw_108 : (Jvm.Cond.laysFinal "TableauNodes$Roles" "TableauNodes$Roles" "above" "[I") ∈ tq_T := tq_in (List.mem_of_getElem? (i := 155) (by decide +kernel)) (by decide +kernel)
theorem tw_111 : (Jvm.Cond.classLink "TableauNodes" (23 : Nat) "TableauNodes$GoodTypes") ∈ tq_T := tq_in (List.mem_of_getElem? (i := 158) (by decide +kernel)) (by decide +kernel)
theorem tw_112 : (Jvm.Cond.instantiable "TableauNodes$GoodTypes" (15 : Nat)) ∈ tq_T := tq_in (List.mem_of_getElem? (i := 159) (by decide +kernel)) (by decide +kernel)
theorem tw_113 : (Jvm.Cond.methodLink "TableauNodes" (25 : Nat) ({ cls := "TableauNodes$GoodTypes", name := "<init>", desc := "(LTableauNodes$Concepts;LTableauNodes$Roles;)V" } : Jvm.MethodName)) ∈ tq_T := tq_in (List.mem_of_getElem? (i := 160) (by decide +kernel)) (by decide +kernel)
theorem tw_114 : (Jvm.Cond.instanceMethod ({ cls := "TableauNodes$GoodTypes", name := "<init>", desc := "(LTableauNodes$Concepts;LTableauNodes$Roles;)V" } : Jvm.MethodName)) ∈ tq_T := tq_in (List.mem_of_getElem? (i := 161) (by decide +kernel)) (by decide +kernel)
theorem tw_115 : (Jvm.Cond.code ({ cls := "TableauNodes$GoodTypes", name := "<init>", desc := "(LTableauNodes$Concepts;LTableauNodes$Roles;)V" } : Jvm.MethodName) prog_3_method_1_code (3 : Nat) (Option.none : Option Jvm.ClassFile.FieldType)) ∈ tq_T := tq_in (List.mem_of_getElem? (i := 162) (by decide +kernel)) (by decide +kernel)
theorem tw_116 : (Jvm.Cond.methodLink "TableauNodes$GoodTypes" (3 : Nat) ({ cls := "java/lang/Object", name := "<init>", desc := "()V" } : Jvm.MethodName)) ∈ tq_T := tq_in (List.mem_of_getElem? (i := 163) (by decide +kernel)) (by decide +kernel)
theorem tw_117 : (Jvm.Cond.fieldLink "TableauNodes$GoodTypes" (41 : Nat) "TableauNodes$GoodTypes" "concepts" "LTableauNodes$Concepts;") ∈ tq_T := tq_in (List.mem_of_getElem? (i := 164) (by decide +kernel)) (by decide +kernel)
theorem tw_118 : (Jvm.Cond.fieldLink "TableauNodes$GoodTypes" (45 : Nat) "TableauNodes$GoodTypes" "roles" "LTableauNodes$Roles;") ∈ tq_T := tq_in (List.mem_of_getElem? (i := 165) (by decide +kernel)) (by decide +kernel)
theorem tw_119 : (Jvm.Cond.fieldLink "TableauNodes$GoodTypes" (9 : Nat) "TableauNodes$GoodTypes" "lefts" "[I") ∈ tq_T := tq_in (List.mem_of_getElem? (i := 166) (by decide +kernel)) (by decide +kernel)
theorem tw_120 : (Jvm.Cond.fieldLink "TableauNodes$GoodTypes" (15 : Nat) "TableauNodes$GoodTypes" "rights" "[I") ∈ tq_T := tq_in (List.mem_of_getElem? (i := 167) (by decide +kernel)) (by decide +kernel)
theorem tw_121 : (Jvm.Cond.fieldLink "TableauNodes$GoodTypes" (49 : Nat) "TableauNodes$GoodTypes" "axiomCount" "I") ∈ tq_T := tq_in (List.mem_of_getElem? (i := 168) (by decide +kernel)) (by decide +kernel)
theorem tw_122 : (Jvm.Cond.fieldLink "TableauNodes$GoodTypes" (18 : Nat) "TableauNodes$GoodTypes" "own" "[I") ∈ tq_T := tq_in (List.mem_of_getElem? (i := 169) (by decide +kernel)) (by decide +kernel)
theorem tw_123 : (Jvm.Cond.fieldLink "TableauNodes$GoodTypes" (21 : Nat) "TableauNodes$GoodTypes" "watched" "[I") ∈ tq_T := tq_in (List.mem_of_getElem? (i := 170) (by decide +kernel)) (by decide +kernel)
theorem tw_124 : (Jvm.Cond.fieldLink "TableauNodes$GoodTypes" (24 : Nat) "TableauNodes$GoodTypes" "there" "[J") ∈ tq_T := tq_in (List.mem_of_getElem? (i := 171) (by decide +kernel)) (by decide +kernel)
theorem tw_125 : (Jvm.Cond.fieldLink "TableauNodes$GoodTypes" (28 : Nat) "TableauNodes$GoodTypes" "going" "[J") ∈ tq_T := tq_in (List.mem_of_getElem? (i := 172) (by decide +kernel)) (by decide +kernel)
theorem tw_126 : (Jvm.Cond.fieldLink "TableauNodes$GoodTypes" (31 : Nat) "TableauNodes$GoodTypes" "depths" "[I") ∈ tq_T := tq_in (List.mem_of_getElem? (i := 173) (by decide +kernel)) (by decide +kernel)
theorem tw_127 : (Jvm.Cond.fieldLink "TableauNodes$GoodTypes" (34 : Nat) "TableauNodes$GoodTypes" "served" "[I") ∈ tq_T := tq_in (List.mem_of_getElem? (i := 174) (by decide +kernel)) (by decide +kernel)
theorem tw_128 : (Jvm.Cond.fieldLink "TableauNodes$GoodTypes" (68 : Nat) "TableauNodes$GoodTypes" "rounds" "I") ∈ tq_T := tq_in (List.mem_of_getElem? (i := 175) (by decide +kernel)) (by decide +kernel)
theorem tw_129 : (Jvm.Cond.fieldLink "TableauNodes$GoodTypes" (37 : Nat) "TableauNodes$GoodTypes" "stale" "Z") ∈ tq_T := tq_in (List.mem_of_getElem? (i := 176) (by decide +kernel)) (by decide +kernel)
theorem tw_130 : (Jvm.Cond.fieldLink "TableauNodes$GoodTypes" (53 : Nat) "TableauNodes$GoodTypes" "atomsThen" "I") ∈ tq_T := tq_in (List.mem_of_getElem? (i := 177) (by decide +kernel)) (by decide +kernel)
theorem tw_131 : (Jvm.Cond.fieldLink "TableauNodes$GoodTypes" (75 : Nat) "TableauNodes$GoodTypes" "version" "I") ∈ tq_T := tq_in (List.mem_of_getElem? (i := 178) (by decide +kernel)) (by decide +kernel)
theorem tw_132 : (Jvm.Cond.laysFinal "TableauNodes$GoodTypes" "TableauNodes$GoodTypes" "concepts" "LTableauNodes$Concepts;") ∈ tq_T := tq_in (List.mem_of_getElem? (i := 179) (by decide +kernel)) (by decide +kernel)
theorem tw_134 : (Jvm.Cond.laysFinal "TableauNodes$GoodTypes" "TableauNodes$GoodTypes" "roles" "LTableauNodes$Roles;") ∈ tq_T := tq_in (List.mem_of_getElem? (i := 181) (by decide +kernel)) (by decide +kernel)
theorem tw_136 : (Jvm.Cond.laysFinal "TableauNodes$GoodTypes" "TableauNodes$GoodTypes" "lefts" "[I") ∈ tq_T := tq_in (List.mem_of_getElem? (i := 183) (by decide +kernel)) (by decide +kernel)
theorem tw_138 : (Jvm.Cond.laysFinal "TableauNodes$GoodTypes" "TableauNodes$GoodTypes" "rights" "[I") ∈ tq_T := tq_in (List.mem_of_getElem? (i := 185) (by decide +kernel)) (by decide +kernel)
theorem tw_140 : (Jvm.Cond.lays "TableauNodes$GoodTypes" "TableauNodes$GoodTypes" "axiomCount" "I") ∈ tq_T := tq_in (List.mem_of_getElem? (i := 187) (by decide +kernel)) (by decide +kernel)
theorem tw_142 : (Jvm.Cond.laysFinal "TableauNodes$GoodTypes" "TableauNodes$GoodTypes" "own" "[I") ∈ tq_T := tq_in (List.mem_of_getElem? (i := 189) (by decide +kernel)) (by decide +kernel)
theorem tw_144 : (Jvm.Cond.laysFinal "TableauNodes$GoodTypes" "TableauNodes$GoodTypes" "watched" "[I") ∈ tq_T := tq_in (List.mem_of_getElem? (i := 191) (by decide +kernel)) (by decide +kernel)
theorem tw_146 : (Jvm.Cond.laysFinal "TableauNodes$GoodTypes" "TableauNodes$GoodTypes" "there" "[J") ∈ tq_T := tq_in (List.mem_of_getElem? (i := 193) (by decide +kernel)) (by decide +kernel)
theorem tw_148 : (Jvm.Cond.laysFinal "TableauNodes$GoodTypes" "TableauNodes$GoodTypes" "going" "[J") ∈ tq_T := tq_in (List.mem_of_getElem? (i := 195) (by decide +kernel)) (by decide +kernel)
theorem tw_150 : (Jvm.Cond.laysFinal "TableauNodes$GoodTypes" "TableauNodes$GoodTypes" "depths" "[I") ∈ tq_T := tq_in (List.mem_of_getElem? (i := 197) (by decide +kernel)) (by decide +kernel)
theorem tw_152 : (Jvm.Cond.laysFinal "TableauNodes$GoodTypes" "TableauNodes$GoodTypes" "served" "[I") ∈ tq_T := tq_in (List.mem_of_getElem? (i := 199) (by decide +kernel)) (by decide +kernel)
theorem tw_154 : (Jvm.Cond.lays "TableauNodes$GoodTypes" "TableauNodes$GoodTypes" "rounds" "I") ∈ tq_T := tq_in (List.mem_of_getElem? (i := 201) (by decide +kernel)) (by decide +kernel)
theorem tw_156 : (Jvm.Cond.lays "TableauNodes$GoodTypes" "TableauNodes$GoodTypes" "stale" "Z") ∈ tq_T := tq_in (List.mem_of_getElem? (i := 203) (by decide +kernel)) (by decide +kernel)
theorem tw_158 : (Jvm.Cond.lays "TableauNodes$GoodTypes" "TableauNodes$GoodTypes" "atomsThen" "I") ∈ tq_T := tq_in (List.mem_of_getElem? (i := 205) (by decide +kernel)) (by decide +kernel)
theorem tw_160 : (Jvm.Cond.lays "TableauNodes$GoodTypes" "TableauNodes$GoodTypes" "version" "I") ∈ tq_T := tq_in (List.mem_of_getElem? (i := 207) (by decide +kernel)) (by decide +kernel)
theorem tw_163 : (Jvm.Cond.classLink "TableauNodes" (32 : Nat) "TableauNodes$Things") ∈ tq_T := tq_in (List.mem_of_getElem? (i := 210) (by decide +kernel)) (by decide +kernel)
theorem tw_164 : (Jvm.Cond.instantiable "TableauNodes$Things" (15 : Nat)) ∈ tq_T := tq_in (List.mem_of_getElem? (i := 211) (by decide +kernel)) (by decide +kernel)
theorem tw_165 : (Jvm.Cond.methodLink "TableauNodes" (34 : Nat) ({ cls := "TableauNodes$Things", name := "<init>", desc := "(LTableauNodes$Concepts;LTableauNodes$GoodTypes;)V" } : Jvm.MethodName)) ∈ tq_T := tq_in (List.mem_of_getElem? (i := 212) (by decide +kernel)) (by decide +kernel)
theorem tw_166 : (Jvm.Cond.instanceMethod ({ cls := "TableauNodes$Things", name := "<init>", desc := "(LTableauNodes$Concepts;LTableauNodes$GoodTypes;)V" } : Jvm.MethodName)) ∈ tq_T := tq_in (List.mem_of_getElem? (i := 213) (by decide +kernel)) (by decide +kernel)
theorem tw_167 : (Jvm.Cond.code ({ cls := "TableauNodes$Things", name := "<init>", desc := "(LTableauNodes$Concepts;LTableauNodes$GoodTypes;)V" } : Jvm.MethodName) prog_5_method_1_code (3 : Nat) (Option.none : Option Jvm.ClassFile.FieldType)) ∈ tq_T := tq_in (List.mem_of_getElem? (i := 214) (by decide +kernel)) (by decide +kernel)
theorem tw_168 : (Jvm.Cond.methodLink "TableauNodes$Things" (3 : Nat) ({ cls := "java/lang/Object", name := "<init>", desc := "()V" } : Jvm.MethodName)) ∈ tq_T := tq_in (List.mem_of_getElem? (i := 215) (by decide +kernel)) (by decide +kernel)
theorem tw_169 : (Jvm.Cond.methodLink "TableauNodes$Things" (42 : Nat) ({ cls := "TableauNodes$Things", name := "clear", desc := "()V" } : Jvm.MethodName)) ∈ tq_T := tq_in (List.mem_of_getElem? (i := 216) (by decide +kernel)) (by decide +kernel)
theorem tw_171 : (Jvm.Cond.instanceMethod ({ cls := "TableauNodes$Things", name := "clear", desc := "()V" } : Jvm.MethodName)) ∈ tq_T := tq_in (List.mem_of_getElem? (i := 218) (by decide +kernel)) (by decide +kernel)
theorem tw_172 : (Jvm.Cond.code ({ cls := "TableauNodes$Things", name := "clear", desc := "()V" } : Jvm.MethodName) prog_5_method_9_code (2 : Nat) (Option.none : Option Jvm.ClassFile.FieldType)) ∈ tq_T := tq_in (List.mem_of_getElem? (i := 219) (by decide +kernel)) (by decide +kernel)
theorem tw_173 : (Jvm.Cond.constantLong "TableauNodes$Things" (105 : Nat) (-1 : Int64)) ∈ tq_T := tq_in (List.mem_of_getElem? (i := 220) (by decide +kernel)) (by decide +kernel)
theorem tw_174 : (Jvm.Cond.fieldLink "TableauNodes$Things" (34 : Nat) "TableauNodes$Things" "concepts" "LTableauNodes$Concepts;") ∈ tq_T := tq_in (List.mem_of_getElem? (i := 221) (by decide +kernel)) (by decide +kernel)
theorem tw_175 : (Jvm.Cond.fieldLink "TableauNodes$Things" (38 : Nat) "TableauNodes$Things" "goods" "LTableauNodes$GoodTypes;") ∈ tq_T := tq_in (List.mem_of_getElem? (i := 222) (by decide +kernel)) (by decide +kernel)
theorem tw_176 : (Jvm.Cond.fieldLink "TableauNodes$Things" (9 : Nat) "TableauNodes$Things" "said" "[J") ∈ tq_T := tq_in (List.mem_of_getElem? (i := 223) (by decide +kernel)) (by decide +kernel)
theorem tw_177 : (Jvm.Cond.fieldLink "TableauNodes$Things" (15 : Nat) "TableauNodes$Things" "rolesOf" "[I") ∈ tq_T := tq_in (List.mem_of_getElem? (i := 224) (by decide +kernel)) (by decide +kernel)
theorem tw_178 : (Jvm.Cond.fieldLink "TableauNodes$Things" (19 : Nat) "TableauNodes$Things" "links" "[I") ∈ tq_T := tq_in (List.mem_of_getElem? (i := 225) (by decide +kernel)) (by decide +kernel)
theorem tw_179 : (Jvm.Cond.fieldLink "TableauNodes$Things" (45 : Nat) "TableauNodes$Things" "isCount" "I") ∈ tq_T := tq_in (List.mem_of_getElem? (i := 226) (by decide +kernel)) (by decide +kernel)
theorem tw_180 : (Jvm.Cond.fieldLink "TableauNodes$Things" (63 : Nat) "TableauNodes$Things" "hasCount" "I") ∈ tq_T := tq_in (List.mem_of_getElem? (i := 227) (by decide +kernel)) (by decide +kernel)
theorem tw_181 : (Jvm.Cond.fieldLink "TableauNodes$Things" (22 : Nat) "TableauNodes$Things" "left" "[J") ∈ tq_T := tq_in (List.mem_of_getElem? (i := 228) (by decide +kernel)) (by decide +kernel)
theorem tw_182 : (Jvm.Cond.fieldLink "TableauNodes$Things" (25 : Nat) "TableauNodes$Things" "demands" "[I") ∈ tq_T := tq_in (List.mem_of_getElem? (i := 229) (by decide +kernel)) (by decide +kernel)
theorem tw_183 : (Jvm.Cond.fieldLink "TableauNodes$Things" (28 : Nat) "TableauNodes$Things" "spare" "[J") ∈ tq_T := tq_in (List.mem_of_getElem? (i := 230) (by decide +kernel)) (by decide +kernel)
theorem tw_184 : (Jvm.Cond.fieldLink "TableauNodes$Things" (102 : Nat) "TableauNodes$Things" "words" "I") ∈ tq_T := tq_in (List.mem_of_getElem? (i := 231) (by decide +kernel)) (by decide +kernel)
theorem tw_185 : (Jvm.Cond.fieldLink "TableauNodes$Things" (31 : Nat) "TableauNodes$Things" "found" "[I") ∈ tq_T := tq_in (List.mem_of_getElem? (i := 232) (by decide +kernel)) (by decide +kernel)
theorem tw_186 : (Jvm.Cond.fieldLink "TableauNodes$Things" (84 : Nat) "TableauNodes$Things" "isFound" "Z") ∈ tq_T := tq_in (List.mem_of_getElem? (i := 233) (by decide +kernel)) (by decide +kernel)
theorem tw_187 : (Jvm.Cond.fieldLink "TableauNodes$Things" (59 : Nat) "TableauNodes$Things" "stale" "Z") ∈ tq_T := tq_in (List.mem_of_getElem? (i := 234) (by decide +kernel)) (by decide +kernel)
theorem tw_188 : (Jvm.Cond.fieldLink "TableauNodes$Things" (66 : Nat) "TableauNodes$Things" "versionThen" "I") ∈ tq_T := tq_in (List.mem_of_getElem? (i := 235) (by decide +kernel)) (by decide +kernel)
theorem tw_189 : (Jvm.Cond.laysFinal "TableauNodes$Things" "TableauNodes$Things" "concepts" "LTableauNodes$Concepts;") ∈ tq_T := tq_in (List.mem_of_getElem? (i := 236) (by decide +kernel)) (by decide +kernel)
theorem tw_191 : (Jvm.Cond.laysFinal "TableauNodes$Things" "TableauNodes$Things" "goods" "LTableauNodes$GoodTypes;") ∈ tq_T := tq_in (List.mem_of_getElem? (i := 238) (by decide +kernel)) (by decide +kernel)
theorem tw_193 : (Jvm.Cond.laysFinal "TableauNodes$Things" "TableauNodes$Things" "said" "[J") ∈ tq_T := tq_in (List.mem_of_getElem? (i := 240) (by decide +kernel)) (by decide +kernel)
theorem tw_195 : (Jvm.Cond.laysFinal "TableauNodes$Things" "TableauNodes$Things" "rolesOf" "[I") ∈ tq_T := tq_in (List.mem_of_getElem? (i := 242) (by decide +kernel)) (by decide +kernel)
theorem tw_197 : (Jvm.Cond.laysFinal "TableauNodes$Things" "TableauNodes$Things" "links" "[I") ∈ tq_T := tq_in (List.mem_of_getElem? (i := 244) (by decide +kernel)) (by decide +kernel)
theorem tw_199 : (Jvm.Cond.lays "TableauNodes$Things" "TableauNodes$Things" "isCount" "I") ∈ tq_T := tq_in (List.mem_of_getElem? (i := 246) (by decide +kernel)) (by decide +kernel)
theorem tw_201 : (Jvm.Cond.lays "TableauNodes$Things" "TableauNodes$Things" "hasCount" "I") ∈ tq_T := tq_in (List.mem_of_getElem? (i := 248) (by decide +kernel)) (by decide +kernel)
theorem tw_203 : (Jvm.Cond.laysFinal "TableauNodes$Things" "TableauNodes$Things" "left" "[J") ∈ tq_T := tq_in (List.mem_of_getElem? (i := 250) (by decide +kernel)) (by decide +kernel)
theorem tw_205 : (Jvm.Cond.laysFinal "TableauNodes$Things" "TableauNodes$Things" "demands" "[I") ∈ tq_T := tq_in (List.mem_of_getElem? (i := 252) (by decide +kernel)) (by decide +kernel)
theorem tw_207 : (Jvm.Cond.laysFinal "TableauNodes$Things" "TableauNodes$Things" "spare" "[J") ∈ tq_T := tq_in (List.mem_of_getElem? (i := 254) (by decide +kernel)) (by decide +kernel)
theorem tw_209 : (Jvm.Cond.lays "TableauNodes$Things" "TableauNodes$Things" "words" "I") ∈ tq_T := tq_in (List.mem_of_getElem? (i := 256) (by decide +kernel)) (by decide +kernel)
theorem tw_211 : (Jvm.Cond.laysFinal "TableauNodes$Things" "TableauNodes$Things" "found" "[I") ∈ tq_T := tq_in (List.mem_of_getElem? (i := 258) (by decide +kernel)) (by decide +kernel)
theorem tw_213 : (Jvm.Cond.lays "TableauNodes$Things" "TableauNodes$Things" "isFound" "Z") ∈ tq_T := tq_in (List.mem_of_getElem? (i := 260) (by decide +kernel)) (by decide +kernel)
theorem tw_215 : (Jvm.Cond.lays "TableauNodes$Things" "TableauNodes$Things" "stale" "Z") ∈ tq_T := tq_in (List.mem_of_getElem? (i := 262) (by decide +kernel)) (by decide +kernel)
theorem tw_217 : (Jvm.Cond.lays "TableauNodes$Things" "TableauNodes$Things" "versionThen" "I") ∈ tq_T := tq_in (List.mem_of_getElem? (i := 264) (by decide +kernel)) (by decide +kernel)
theorem tw_220 : (Jvm.Cond.fieldLink "TableauNodes" (12 : Nat) "TableauNodes" "concepts" "LTableauNodes$Concepts;") ∈ tq_T := tq_in (List.mem_of_getElem? (i := 267) (by decide +kernel)) (by decide +kernel)
theorem tw_221 : (Jvm.Cond.fieldLink "TableauNodes" (19 : Nat) "TableauNodes" "roles" "LTableauNodes$Roles;") ∈ tq_T := tq_in (List.mem_of_getElem? (i := 268) (by decide +kernel)) (by decide +kernel)
theorem tw_222 : (Jvm.Cond.fieldLink "TableauNodes" (28 : Nat) "TableauNodes" "goods" "LTableauNodes$GoodTypes;") ∈ tq_T := tq_in (List.mem_of_getElem? (i := 269) (by decide +kernel)) (by decide +kernel)
theorem tw_223 : (Jvm.Cond.fieldLink "TableauNodes" (37 : Nat) "TableauNodes" "things" "LTableauNodes$Things;") ∈ tq_T := tq_in (List.mem_of_getElem? (i := 270) (by decide +kernel)) (by decide +kernel)
theorem tw_224 : (Jvm.Cond.laysFinal "TableauNodes" "TableauNodes" "concepts" "LTableauNodes$Concepts;") ∈ tq_T := tq_in (List.mem_of_getElem? (i := 271) (by decide +kernel)) (by decide +kernel)
theorem tw_226 : (Jvm.Cond.laysFinal "TableauNodes" "TableauNodes" "roles" "LTableauNodes$Roles;") ∈ tq_T := tq_in (List.mem_of_getElem? (i := 273) (by decide +kernel)) (by decide +kernel)
theorem tw_228 : (Jvm.Cond.laysFinal "TableauNodes" "TableauNodes" "goods" "LTableauNodes$GoodTypes;") ∈ tq_T := tq_in (List.mem_of_getElem? (i := 275) (by decide +kernel)) (by decide +kernel)
theorem tw_230 : (Jvm.Cond.laysFinal "TableauNodes" "TableauNodes" "things" "LTableauNodes$Things;") ∈ tq_T := tq_in (List.mem_of_getElem? (i := 277) (by decide +kernel)) (by decide +kernel)
theorem tw_233 : (Jvm.Cond.methodLink "TableauNodesLaw" (13 : Nat) ({ cls := "TableauNodes", name := "class0", desc := "(I)I" } : Jvm.MethodName)) ∈ tq_T := tq_in (List.mem_of_getElem? (i := 280) (by decide +kernel)) (by decide +kernel)
theorem tw_234 : (Jvm.Cond.instanceMethod ({ cls := "TableauNodes", name := "class0", desc := "(I)I" } : Jvm.MethodName)) ∈ tq_T := tq_in (List.mem_of_getElem? (i := 281) (by decide +kernel)) (by decide +kernel)
theorem tw_235 : (Jvm.Cond.selects "TableauNodes" ({ cls := "TableauNodes", name := "class0", desc := "(I)I" } : Jvm.MethodName) ({ cls := "TableauNodes", name := "class0", desc := "(I)I" } : Jvm.MethodName)) ∈ tq_T := tq_in (List.mem_of_getElem? (i := 282) (by decide +kernel)) (by decide +kernel)
theorem tw_236 : (Jvm.Cond.code ({ cls := "TableauNodes", name := "class0", desc := "(I)I" } : Jvm.MethodName) prog_1_method_2_code (2 : Nat) (Option.some Jvm.ClassFile.FieldType.int)) ∈ tq_T := tq_in (List.mem_of_getElem? (i := 283) (by decide +kernel)) (by decide +kernel)
theorem tw_237 : (Jvm.Cond.methodLink "TableauNodes" (41 : Nat) ({ cls := "TableauNodes", name := "isBelow", desc := "(II)Z" } : Jvm.MethodName)) ∈ tq_T := tq_in (List.mem_of_getElem? (i := 284) (by decide +kernel)) (by decide +kernel)
theorem tw_238 : (Jvm.Cond.static ({ cls := "TableauNodes", name := "isBelow", desc := "(II)Z" } : Jvm.MethodName)) ∈ tq_T := tq_in (List.mem_of_getElem? (i := 285) (by decide +kernel)) (by decide +kernel)
theorem tw_239 : (Jvm.Cond.code ({ cls := "TableauNodes", name := "isBelow", desc := "(II)Z" } : Jvm.MethodName) prog_1_method_21_code (2 : Nat) (Option.some Jvm.ClassFile.FieldType.boolean)) ∈ tq_T := tq_in (List.mem_of_getElem? (i := 286) (by decide +kernel)) (by decide +kernel)
theorem tw_240 : (Jvm.Cond.methodLink "TableauNodes" (45 : Nat) ({ cls := "TableauNodes$Concepts", name := "make", desc := "(III)I" } : Jvm.MethodName)) ∈ tq_T := tq_in (List.mem_of_getElem? (i := 287) (by decide +kernel)) (by decide +kernel)
theorem tw_241 : (Jvm.Cond.methodLink "TableauNodesLaw" (18 : Nat) ({ cls := "TableauNodes", name := "concept", desc := "(III)I" } : Jvm.MethodName)) ∈ tq_T := tq_in (List.mem_of_getElem? (i := 288) (by decide +kernel)) (by decide +kernel)
theorem tw_242 : (Jvm.Cond.instanceMethod ({ cls := "TableauNodes", name := "concept", desc := "(III)I" } : Jvm.MethodName)) ∈ tq_T := tq_in (List.mem_of_getElem? (i := 289) (by decide +kernel)) (by decide +kernel)
theorem tw_243 : (Jvm.Cond.selects "TableauNodes" ({ cls := "TableauNodes", name := "concept", desc := "(III)I" } : Jvm.MethodName) ({ cls := "TableauNodes", name := "concept", desc := "(III)I" } : Jvm.MethodName)) ∈ tq_T := tq_in (List.mem_of_getElem? (i := 290) (by decide +kernel)) (by decide +kernel)
theorem tw_244 : (Jvm.Cond.code ({ cls := "TableauNodes", name := "concept", desc := "(III)I" } : Jvm.MethodName) prog_1_method_3_code (4 : Nat) (Option.some Jvm.ClassFile.FieldType.int)) ∈ tq_T := tq_in (List.mem_of_getElem? (i := 291) (by decide +kernel)) (by decide +kernel)
theorem tw_245 : (Jvm.Cond.methodLink "TableauNodes" (49 : Nat) ({ cls := "TableauNodes$Concepts", name := "isThere", desc := "(I)Z" } : Jvm.MethodName)) ∈ tq_T := tq_in (List.mem_of_getElem? (i := 292) (by decide +kernel)) (by decide +kernel)
theorem tw_246 : (Jvm.Cond.instanceMethod ({ cls := "TableauNodes$Concepts", name := "isThere", desc := "(I)Z" } : Jvm.MethodName)) ∈ tq_T := tq_in (List.mem_of_getElem? (i := 293) (by decide +kernel)) (by decide +kernel)
theorem tw_247 : (Jvm.Cond.selects "TableauNodes$Concepts" ({ cls := "TableauNodes$Concepts", name := "isThere", desc := "(I)Z" } : Jvm.MethodName) ({ cls := "TableauNodes$Concepts", name := "isThere", desc := "(I)Z" } : Jvm.MethodName)) ∈ tq_T := tq_in (List.mem_of_getElem? (i := 294) (by decide +kernel)) (by decide +kernel)
theorem tw_248 : (Jvm.Cond.code ({ cls := "TableauNodes$Concepts", name := "isThere", desc := "(I)Z" } : Jvm.MethodName) prog_2_method_7_code (2 : Nat) (Option.some Jvm.ClassFile.FieldType.boolean)) ∈ tq_T := tq_in (List.mem_of_getElem? (i := 295) (by decide +kernel)) (by decide +kernel)
theorem tw_249 : (Jvm.Cond.methodLink "TableauNodes" (53 : Nat) ({ cls := "TableauNodes$Concepts", name := "makeAll", desc := "(II)I" } : Jvm.MethodName)) ∈ tq_T := tq_in (List.mem_of_getElem? (i := 296) (by decide +kernel)) (by decide +kernel)
theorem tw_250 : (Jvm.Cond.instanceMethod ({ cls := "TableauNodes$Concepts", name := "makeAll", desc := "(II)I" } : Jvm.MethodName)) ∈ tq_T := tq_in (List.mem_of_getElem? (i := 297) (by decide +kernel)) (by decide +kernel)
theorem tw_251 : (Jvm.Cond.selects "TableauNodes$Concepts" ({ cls := "TableauNodes$Concepts", name := "makeAll", desc := "(II)I" } : Jvm.MethodName) ({ cls := "TableauNodes$Concepts", name := "makeAll", desc := "(II)I" } : Jvm.MethodName)) ∈ tq_T := tq_in (List.mem_of_getElem? (i := 298) (by decide +kernel)) (by decide +kernel)
theorem tw_252 : (Jvm.Cond.code ({ cls := "TableauNodes$Concepts", name := "makeAll", desc := "(II)I" } : Jvm.MethodName) prog_2_method_10_code (6 : Nat) (Option.some Jvm.ClassFile.FieldType.int)) ∈ tq_T := tq_in (List.mem_of_getElem? (i := 299) (by decide +kernel)) (by decide +kernel)
theorem tw_253 : (Jvm.Cond.methodLink "TableauNodesLaw" (23 : Nat) ({ cls := "TableauNodes", name := "told", desc := "(II)I" } : Jvm.MethodName)) ∈ tq_T := tq_in (List.mem_of_getElem? (i := 300) (by decide +kernel)) (by decide +kernel)
theorem tw_254 : (Jvm.Cond.instanceMethod ({ cls := "TableauNodes", name := "told", desc := "(II)I" } : Jvm.MethodName)) ∈ tq_T := tq_in (List.mem_of_getElem? (i := 301) (by decide +kernel)) (by decide +kernel)
theorem tw_255 : (Jvm.Cond.selects "TableauNodes" ({ cls := "TableauNodes", name := "told", desc := "(II)I" } : Jvm.MethodName) ({ cls := "TableauNodes", name := "told", desc := "(II)I" } : Jvm.MethodName)) ∈ tq_T := tq_in (List.mem_of_getElem? (i := 302) (by decide +kernel)) (by decide +kernel)
theorem tw_256 : (Jvm.Cond.code ({ cls := "TableauNodes", name := "told", desc := "(II)I" } : Jvm.MethodName) prog_1_method_4_code (3 : Nat) (Option.some Jvm.ClassFile.FieldType.int)) ∈ tq_T := tq_in (List.mem_of_getElem? (i := 303) (by decide +kernel)) (by decide +kernel)
theorem tw_257 : (Jvm.Cond.methodLink "TableauNodes" (57 : Nat) ({ cls := "TableauNodes$Concepts", name := "part", desc := "(II)I" } : Jvm.MethodName)) ∈ tq_T := tq_in (List.mem_of_getElem? (i := 304) (by decide +kernel)) (by decide +kernel)
theorem tw_258 : (Jvm.Cond.instanceMethod ({ cls := "TableauNodes$Concepts", name := "part", desc := "(II)I" } : Jvm.MethodName)) ∈ tq_T := tq_in (List.mem_of_getElem? (i := 305) (by decide +kernel)) (by decide +kernel)
theorem tw_259 : (Jvm.Cond.selects "TableauNodes$Concepts" ({ cls := "TableauNodes$Concepts", name := "part", desc := "(II)I" } : Jvm.MethodName) ({ cls := "TableauNodes$Concepts", name := "part", desc := "(II)I" } : Jvm.MethodName)) ∈ tq_T := tq_in (List.mem_of_getElem? (i := 306) (by decide +kernel)) (by decide +kernel)
theorem tw_260 : (Jvm.Cond.code ({ cls := "TableauNodes$Concepts", name := "part", desc := "(II)I" } : Jvm.MethodName) prog_2_method_8_code (3 : Nat) (Option.some Jvm.ClassFile.FieldType.int)) ∈ tq_T := tq_in (List.mem_of_getElem? (i := 307) (by decide +kernel)) (by decide +kernel)
theorem tw_261 : (Jvm.Cond.methodLink "TableauNodes$Concepts" (51 : Nat) ({ cls := "TableauNodes$Concepts", name := "isThere", desc := "(I)Z" } : Jvm.MethodName)) ∈ tq_T := tq_in (List.mem_of_getElem? (i := 308) (by decide +kernel)) (by decide +kernel)
theorem tw_262 : (Jvm.Cond.methodLink "TableauNodesLaw" (28 : Nat) ({ cls := "TableauNodes", name := "concepts", desc := "()I" } : Jvm.MethodName)) ∈ tq_T := tq_in (List.mem_of_getElem? (i := 309) (by decide +kernel)) (by decide +kernel)
theorem tw_263 : (Jvm.Cond.instanceMethod ({ cls := "TableauNodes", name := "concepts", desc := "()I" } : Jvm.MethodName)) ∈ tq_T := tq_in (List.mem_of_getElem? (i := 310) (by decide +kernel)) (by decide +kernel)
theorem tw_264 : (Jvm.Cond.selects "TableauNodes" ({ cls := "TableauNodes", name := "concepts", desc := "()I" } : Jvm.MethodName) ({ cls := "TableauNodes", name := "concepts", desc := "()I" } : Jvm.MethodName)) ∈ tq_T := tq_in (List.mem_of_getElem? (i := 311) (by decide +kernel)) (by decide +kernel)
theorem tw_265 : (Jvm.Cond.code ({ cls := "TableauNodes", name := "concepts", desc := "()I" } : Jvm.MethodName) prog_1_method_5_code (1 : Nat) (Option.some Jvm.ClassFile.FieldType.int)) ∈ tq_T := tq_in (List.mem_of_getElem? (i := 312) (by decide +kernel)) (by decide +kernel)
theorem tw_266 : (Jvm.Cond.methodLink "TableauNodes" (60 : Nat) ({ cls := "TableauNodes$Concepts", name := "size", desc := "()I" } : Jvm.MethodName)) ∈ tq_T := tq_in (List.mem_of_getElem? (i := 313) (by decide +kernel)) (by decide +kernel)
theorem tw_267 : (Jvm.Cond.instanceMethod ({ cls := "TableauNodes$Concepts", name := "size", desc := "()I" } : Jvm.MethodName)) ∈ tq_T := tq_in (List.mem_of_getElem? (i := 314) (by decide +kernel)) (by decide +kernel)
theorem tw_268 : (Jvm.Cond.selects "TableauNodes$Concepts" ({ cls := "TableauNodes$Concepts", name := "size", desc := "()I" } : Jvm.MethodName) ({ cls := "TableauNodes$Concepts", name := "size", desc := "()I" } : Jvm.MethodName)) ∈ tq_T := tq_in (List.mem_of_getElem? (i := 315) (by decide +kernel)) (by decide +kernel)
theorem tw_269 : (Jvm.Cond.code ({ cls := "TableauNodes$Concepts", name := "size", desc := "()I" } : Jvm.MethodName) prog_2_method_2_code (1 : Nat) (Option.some Jvm.ClassFile.FieldType.int)) ∈ tq_T := tq_in (List.mem_of_getElem? (i := 316) (by decide +kernel)) (by decide +kernel)
theorem tw_270 : (Jvm.Cond.methodLink "TableauNodesLaw" (33 : Nat) ({ cls := "TableauNodes", name := "atoms", desc := "()I" } : Jvm.MethodName)) ∈ tq_T := tq_in (List.mem_of_getElem? (i := 317) (by decide +kernel)) (by decide +kernel)
theorem tw_271 : (Jvm.Cond.instanceMethod ({ cls := "TableauNodes", name := "atoms", desc := "()I" } : Jvm.MethodName)) ∈ tq_T := tq_in (List.mem_of_getElem? (i := 318) (by decide +kernel)) (by decide +kernel)
theorem tw_272 : (Jvm.Cond.selects "TableauNodes" ({ cls := "TableauNodes", name := "atoms", desc := "()I" } : Jvm.MethodName) ({ cls := "TableauNodes", name := "atoms", desc := "()I" } : Jvm.MethodName)) ∈ tq_T := tq_in (List.mem_of_getElem? (i := 319) (by decide +kernel)) (by decide +kernel)
theorem tw_273 : (Jvm.Cond.code ({ cls := "TableauNodes", name := "atoms", desc := "()I" } : Jvm.MethodName) prog_1_method_6_code (1 : Nat) (Option.some Jvm.ClassFile.FieldType.int)) ∈ tq_T := tq_in (List.mem_of_getElem? (i := 320) (by decide +kernel)) (by decide +kernel)
theorem tw_274 : (Jvm.Cond.methodLink "TableauNodes" (64 : Nat) ({ cls := "TableauNodes$Concepts", name := "atomCount", desc := "()I" } : Jvm.MethodName)) ∈ tq_T := tq_in (List.mem_of_getElem? (i := 321) (by decide +kernel)) (by decide +kernel)
theorem tw_275 : (Jvm.Cond.instanceMethod ({ cls := "TableauNodes$Concepts", name := "atomCount", desc := "()I" } : Jvm.MethodName)) ∈ tq_T := tq_in (List.mem_of_getElem? (i := 322) (by decide +kernel)) (by decide +kernel)
theorem tw_276 : (Jvm.Cond.selects "TableauNodes$Concepts" ({ cls := "TableauNodes$Concepts", name := "atomCount", desc := "()I" } : Jvm.MethodName) ({ cls := "TableauNodes$Concepts", name := "atomCount", desc := "()I" } : Jvm.MethodName)) ∈ tq_T := tq_in (List.mem_of_getElem? (i := 323) (by decide +kernel)) (by decide +kernel)
theorem tw_277 : (Jvm.Cond.code ({ cls := "TableauNodes$Concepts", name := "atomCount", desc := "()I" } : Jvm.MethodName) prog_2_method_3_code (1 : Nat) (Option.some Jvm.ClassFile.FieldType.int)) ∈ tq_T := tq_in (List.mem_of_getElem? (i := 324) (by decide +kernel)) (by decide +kernel)
theorem tw_278 : (Jvm.Cond.methodLink "TableauNodesLaw" (37 : Nat) ({ cls := "TableauNodes", name := "axiom", desc := "(II)I" } : Jvm.MethodName)) ∈ tq_T := tq_in (List.mem_of_getElem? (i := 325) (by decide +kernel)) (by decide +kernel)
theorem tw_279 : (Jvm.Cond.instanceMethod ({ cls := "TableauNodes", name := "axiom", desc := "(II)I" } : Jvm.MethodName)) ∈ tq_T := tq_in (List.mem_of_getElem? (i := 326) (by decide +kernel)) (by decide +kernel)
theorem tw_280 : (Jvm.Cond.selects "TableauNodes" ({ cls := "TableauNodes", name := "axiom", desc := "(II)I" } : Jvm.MethodName) ({ cls := "TableauNodes", name := "axiom", desc := "(II)I" } : Jvm.MethodName)) ∈ tq_T := tq_in (List.mem_of_getElem? (i := 327) (by decide +kernel)) (by decide +kernel)
theorem tw_281 : (Jvm.Cond.code ({ cls := "TableauNodes", name := "axiom", desc := "(II)I" } : Jvm.MethodName) prog_1_method_7_code (3 : Nat) (Option.some Jvm.ClassFile.FieldType.int)) ∈ tq_T := tq_in (List.mem_of_getElem? (i := 328) (by decide +kernel)) (by decide +kernel)
theorem tw_282 : (Jvm.Cond.methodLink "TableauNodes" (67 : Nat) ({ cls := "TableauNodes$GoodTypes", name := "addAxiom", desc := "(II)I" } : Jvm.MethodName)) ∈ tq_T := tq_in (List.mem_of_getElem? (i := 329) (by decide +kernel)) (by decide +kernel)
theorem tw_283 : (Jvm.Cond.instanceMethod ({ cls := "TableauNodes$GoodTypes", name := "addAxiom", desc := "(II)I" } : Jvm.MethodName)) ∈ tq_T := tq_in (List.mem_of_getElem? (i := 330) (by decide +kernel)) (by decide +kernel)
theorem tw_284 : (Jvm.Cond.selects "TableauNodes$GoodTypes" ({ cls := "TableauNodes$GoodTypes", name := "addAxiom", desc := "(II)I" } : Jvm.MethodName) ({ cls := "TableauNodes$GoodTypes", name := "addAxiom", desc := "(II)I" } : Jvm.MethodName)) ∈ tq_T := tq_in (List.mem_of_getElem? (i := 331) (by decide +kernel)) (by decide +kernel)
theorem tw_285 : (Jvm.Cond.code ({ cls := "TableauNodes$GoodTypes", name := "addAxiom", desc := "(II)I" } : Jvm.MethodName) prog_3_method_2_code (3 : Nat) (Option.some Jvm.ClassFile.FieldType.int)) ∈ tq_T := tq_in (List.mem_of_getElem? (i := 332) (by decide +kernel)) (by decide +kernel)
theorem tw_286 : (Jvm.Cond.methodLink "TableauNodesLaw" (41 : Nat) ({ cls := "TableauNodes", name := "drop", desc := "()I" } : Jvm.MethodName)) ∈ tq_T := tq_in (List.mem_of_getElem? (i := 333) (by decide +kernel)) (by decide +kernel)
theorem tw_287 : (Jvm.Cond.instanceMethod ({ cls := "TableauNodes", name := "drop", desc := "()I" } : Jvm.MethodName)) ∈ tq_T := tq_in (List.mem_of_getElem? (i := 334) (by decide +kernel)) (by decide +kernel)
theorem tw_288 : (Jvm.Cond.selects "TableauNodes" ({ cls := "TableauNodes", name := "drop", desc := "()I" } : Jvm.MethodName) ({ cls := "TableauNodes", name := "drop", desc := "()I" } : Jvm.MethodName)) ∈ tq_T := tq_in (List.mem_of_getElem? (i := 335) (by decide +kernel)) (by decide +kernel)
theorem tw_289 : (Jvm.Cond.code ({ cls := "TableauNodes", name := "drop", desc := "()I" } : Jvm.MethodName) prog_1_method_8_code (1 : Nat) (Option.some Jvm.ClassFile.FieldType.int)) ∈ tq_T := tq_in (List.mem_of_getElem? (i := 336) (by decide +kernel)) (by decide +kernel)
theorem tw_290 : (Jvm.Cond.methodLink "TableauNodes" (70 : Nat) ({ cls := "TableauNodes$GoodTypes", name := "dropAxiom", desc := "()I" } : Jvm.MethodName)) ∈ tq_T := tq_in (List.mem_of_getElem? (i := 337) (by decide +kernel)) (by decide +kernel)
theorem tw_291 : (Jvm.Cond.instanceMethod ({ cls := "TableauNodes$GoodTypes", name := "dropAxiom", desc := "()I" } : Jvm.MethodName)) ∈ tq_T := tq_in (List.mem_of_getElem? (i := 338) (by decide +kernel)) (by decide +kernel)
theorem tw_292 : (Jvm.Cond.selects "TableauNodes$GoodTypes" ({ cls := "TableauNodes$GoodTypes", name := "dropAxiom", desc := "()I" } : Jvm.MethodName) ({ cls := "TableauNodes$GoodTypes", name := "dropAxiom", desc := "()I" } : Jvm.MethodName)) ∈ tq_T := tq_in (List.mem_of_getElem? (i := 339) (by decide +kernel)) (by decide +kernel)
theorem tw_293 : (Jvm.Cond.code ({ cls := "TableauNodes$GoodTypes", name := "dropAxiom", desc := "()I" } : Jvm.MethodName) prog_3_method_3_code (1 : Nat) (Option.some Jvm.ClassFile.FieldType.int)) ∈ tq_T := tq_in (List.mem_of_getElem? (i := 340) (by decide +kernel)) (by decide +kernel)
theorem tw_294 : (Jvm.Cond.methodLink "TableauNodesLaw" (45 : Nat) ({ cls := "TableauNodes", name := "role", desc := "(II)I" } : Jvm.MethodName)) ∈ tq_T := tq_in (List.mem_of_getElem? (i := 341) (by decide +kernel)) (by decide +kernel)
theorem tw_295 : (Jvm.Cond.instanceMethod ({ cls := "TableauNodes", name := "role", desc := "(II)I" } : Jvm.MethodName)) ∈ tq_T := tq_in (List.mem_of_getElem? (i := 342) (by decide +kernel)) (by decide +kernel)
theorem tw_296 : (Jvm.Cond.selects "TableauNodes" ({ cls := "TableauNodes", name := "role", desc := "(II)I" } : Jvm.MethodName) ({ cls := "TableauNodes", name := "role", desc := "(II)I" } : Jvm.MethodName)) ∈ tq_T := tq_in (List.mem_of_getElem? (i := 343) (by decide +kernel)) (by decide +kernel)
theorem tw_297 : (Jvm.Cond.code ({ cls := "TableauNodes", name := "role", desc := "(II)I" } : Jvm.MethodName) prog_1_method_9_code (3 : Nat) (Option.some Jvm.ClassFile.FieldType.int)) ∈ tq_T := tq_in (List.mem_of_getElem? (i := 344) (by decide +kernel)) (by decide +kernel)
theorem tw_298 : (Jvm.Cond.methodLink "TableauNodes" (73 : Nat) ({ cls := "TableauNodes$Roles", name := "say", desc := "(II)Z" } : Jvm.MethodName)) ∈ tq_T := tq_in (List.mem_of_getElem? (i := 345) (by decide +kernel)) (by decide +kernel)
theorem tw_299 : (Jvm.Cond.instanceMethod ({ cls := "TableauNodes$Roles", name := "say", desc := "(II)Z" } : Jvm.MethodName)) ∈ tq_T := tq_in (List.mem_of_getElem? (i := 346) (by decide +kernel)) (by decide +kernel)
theorem tw_300 : (Jvm.Cond.selects "TableauNodes$Roles" ({ cls := "TableauNodes$Roles", name := "say", desc := "(II)Z" } : Jvm.MethodName) ({ cls := "TableauNodes$Roles", name := "say", desc := "(II)Z" } : Jvm.MethodName)) ∈ tq_T := tq_in (List.mem_of_getElem? (i := 347) (by decide +kernel)) (by decide +kernel)
theorem tw_301 : (Jvm.Cond.code ({ cls := "TableauNodes$Roles", name := "say", desc := "(II)Z" } : Jvm.MethodName) prog_4_method_2_code (3 : Nat) (Option.some Jvm.ClassFile.FieldType.boolean)) ∈ tq_T := tq_in (List.mem_of_getElem? (i := 348) (by decide +kernel)) (by decide +kernel)
theorem tw_303 : (Jvm.Cond.methodLink "TableauNodes" (76 : Nat) ({ cls := "TableauNodes$GoodTypes", name := "rolesChanged", desc := "()V" } : Jvm.MethodName)) ∈ tq_T := tq_in (List.mem_of_getElem? (i := 350) (by decide +kernel)) (by decide +kernel)
theorem tw_304 : (Jvm.Cond.instanceMethod ({ cls := "TableauNodes$GoodTypes", name := "rolesChanged", desc := "()V" } : Jvm.MethodName)) ∈ tq_T := tq_in (List.mem_of_getElem? (i := 351) (by decide +kernel)) (by decide +kernel)
theorem tw_305 : (Jvm.Cond.selects "TableauNodes$GoodTypes" ({ cls := "TableauNodes$GoodTypes", name := "rolesChanged", desc := "()V" } : Jvm.MethodName) ({ cls := "TableauNodes$GoodTypes", name := "rolesChanged", desc := "()V" } : Jvm.MethodName)) ∈ tq_T := tq_in (List.mem_of_getElem? (i := 352) (by decide +kernel)) (by decide +kernel)
theorem tw_306 : (Jvm.Cond.code ({ cls := "TableauNodes$GoodTypes", name := "rolesChanged", desc := "()V" } : Jvm.MethodName) prog_3_method_4_code (1 : Nat) (Option.none : Option Jvm.ClassFile.FieldType)) ∈ tq_T := tq_in (List.mem_of_getElem? (i := 353) (by decide +kernel)) (by decide +kernel)
theorem tw_307 : (Jvm.Cond.methodLink "TableauNodesLaw" (49 : Nat) ({ cls := "TableauNodes", name := "can", desc := "(I)I" } : Jvm.MethodName)) ∈ tq_T := tq_in (List.mem_of_getElem? (i := 354) (by decide +kernel)) (by decide +kernel)
theorem tw_308 : (Jvm.Cond.instanceMethod ({ cls := "TableauNodes", name := "can", desc := "(I)I" } : Jvm.MethodName)) ∈ tq_T := tq_in (List.mem_of_getElem? (i := 355) (by decide +kernel)) (by decide +kernel)
theorem tw_309 : (Jvm.Cond.selects "TableauNodes" ({ cls := "TableauNodes", name := "can", desc := "(I)I" } : Jvm.MethodName) ({ cls := "TableauNodes", name := "can", desc := "(I)I" } : Jvm.MethodName)) ∈ tq_T := tq_in (List.mem_of_getElem? (i := 356) (by decide +kernel)) (by decide +kernel)
theorem tw_310 : (Jvm.Cond.code ({ cls := "TableauNodes", name := "can", desc := "(I)I" } : Jvm.MethodName) prog_1_method_10_code (2 : Nat) (Option.some Jvm.ClassFile.FieldType.int)) ∈ tq_T := tq_in (List.mem_of_getElem? (i := 357) (by decide +kernel)) (by decide +kernel)
theorem tw_311 : (Jvm.Cond.methodLink "TableauNodes" (79 : Nat) ({ cls := "TableauNodes$GoodTypes", name := "refresh", desc := "()V" } : Jvm.MethodName)) ∈ tq_T := tq_in (List.mem_of_getElem? (i := 358) (by decide +kernel)) (by decide +kernel)
theorem tw_312 : (Jvm.Cond.instanceMethod ({ cls := "TableauNodes$GoodTypes", name := "refresh", desc := "()V" } : Jvm.MethodName)) ∈ tq_T := tq_in (List.mem_of_getElem? (i := 359) (by decide +kernel)) (by decide +kernel)
theorem tw_313 : (Jvm.Cond.selects "TableauNodes$GoodTypes" ({ cls := "TableauNodes$GoodTypes", name := "refresh", desc := "()V" } : Jvm.MethodName) ({ cls := "TableauNodes$GoodTypes", name := "refresh", desc := "()V" } : Jvm.MethodName)) ∈ tq_T := tq_in (List.mem_of_getElem? (i := 360) (by decide +kernel)) (by decide +kernel)
theorem tw_314 : (Jvm.Cond.code ({ cls := "TableauNodes$GoodTypes", name := "refresh", desc := "()V" } : Jvm.MethodName) prog_3_method_5_code (2 : Nat) (Option.none : Option Jvm.ClassFile.FieldType)) ∈ tq_T := tq_in (List.mem_of_getElem? (i := 361) (by decide +kernel)) (by decide +kernel)
theorem tw_315 : (Jvm.Cond.methodLink "TableauNodes$GoodTypes" (56 : Nat) ({ cls := "TableauNodes$Concepts", name := "atomCount", desc := "()I" } : Jvm.MethodName)) ∈ tq_T := tq_in (List.mem_of_getElem? (i := 362) (by decide +kernel)) (by decide +kernel)
theorem tw_316 : (Jvm.Cond.methodLink "TableauNodes$GoodTypes" (62 : Nat) ({ cls := "TableauNodes$GoodTypes", name := "sortSomes", desc := "()V" } : Jvm.MethodName)) ∈ tq_T := tq_in (List.mem_of_getElem? (i := 363) (by decide +kernel)) (by decide +kernel)
theorem tw_318 : (Jvm.Cond.instanceMethod ({ cls := "TableauNodes$GoodTypes", name := "sortSomes", desc := "()V" } : Jvm.MethodName)) ∈ tq_T := tq_in (List.mem_of_getElem? (i := 365) (by decide +kernel)) (by decide +kernel)
theorem tw_319 : (Jvm.Cond.code ({ cls := "TableauNodes$GoodTypes", name := "sortSomes", desc := "()V" } : Jvm.MethodName) prog_3_method_14_code (4 : Nat) (Option.none : Option Jvm.ClassFile.FieldType)) ∈ tq_T := tq_in (List.mem_of_getElem? (i := 366) (by decide +kernel)) (by decide +kernel)
theorem tw_320 : (Jvm.Cond.methodLink "TableauNodes$GoodTypes" (94 : Nat) ({ cls := "TableauNodes$Concepts", name := "isSome", desc := "(I)Z" } : Jvm.MethodName)) ∈ tq_T := tq_in (List.mem_of_getElem? (i := 367) (by decide +kernel)) (by decide +kernel)
theorem tw_321 : (Jvm.Cond.instanceMethod ({ cls := "TableauNodes$Concepts", name := "isSome", desc := "(I)Z" } : Jvm.MethodName)) ∈ tq_T := tq_in (List.mem_of_getElem? (i := 368) (by decide +kernel)) (by decide +kernel)
theorem tw_322 : (Jvm.Cond.selects "TableauNodes$Concepts" ({ cls := "TableauNodes$Concepts", name := "isSome", desc := "(I)Z" } : Jvm.MethodName) ({ cls := "TableauNodes$Concepts", name := "isSome", desc := "(I)Z" } : Jvm.MethodName)) ∈ tq_T := tq_in (List.mem_of_getElem? (i := 369) (by decide +kernel)) (by decide +kernel)
theorem tw_323 : (Jvm.Cond.code ({ cls := "TableauNodes$Concepts", name := "isSome", desc := "(I)Z" } : Jvm.MethodName) prog_2_method_16_code (2 : Nat) (Option.some Jvm.ClassFile.FieldType.boolean)) ∈ tq_T := tq_in (List.mem_of_getElem? (i := 370) (by decide +kernel)) (by decide +kernel)
theorem tw_325 : (Jvm.Cond.methodLink "TableauNodes$GoodTypes" (97 : Nat) ({ cls := "TableauNodes$Concepts", name := "roleOfSome", desc := "(I)I" } : Jvm.MethodName)) ∈ tq_T := tq_in (List.mem_of_getElem? (i := 372) (by decide +kernel)) (by decide +kernel)
theorem tw_326 : (Jvm.Cond.instanceMethod ({ cls := "TableauNodes$Concepts", name := "roleOfSome", desc := "(I)I" } : Jvm.MethodName)) ∈ tq_T := tq_in (List.mem_of_getElem? (i := 373) (by decide +kernel)) (by decide +kernel)
theorem tw_327 : (Jvm.Cond.selects "TableauNodes$Concepts" ({ cls := "TableauNodes$Concepts", name := "roleOfSome", desc := "(I)I" } : Jvm.MethodName) ({ cls := "TableauNodes$Concepts", name := "roleOfSome", desc := "(I)I" } : Jvm.MethodName)) ∈ tq_T := tq_in (List.mem_of_getElem? (i := 374) (by decide +kernel)) (by decide +kernel)
theorem tw_328 : (Jvm.Cond.code ({ cls := "TableauNodes$Concepts", name := "roleOfSome", desc := "(I)I" } : Jvm.MethodName) prog_2_method_17_code (2 : Nat) (Option.some Jvm.ClassFile.FieldType.int)) ∈ tq_T := tq_in (List.mem_of_getElem? (i := 375) (by decide +kernel)) (by decide +kernel)
theorem tw_329 : (Jvm.Cond.methodLink "TableauNodes$Concepts" (76 : Nat) ({ cls := "TableauNodes$Concepts", name := "isSome", desc := "(I)Z" } : Jvm.MethodName)) ∈ tq_T := tq_in (List.mem_of_getElem? (i := 376) (by decide +kernel)) (by decide +kernel)
theorem tw_330 : (Jvm.Cond.methodLink "TableauNodes$GoodTypes" (101 : Nat) ({ cls := "TableauNodes$Roles", name := "isUnder", desc := "(II)Z" } : Jvm.MethodName)) ∈ tq_T := tq_in (List.mem_of_getElem? (i := 377) (by decide +kernel)) (by decide +kernel)
theorem tw_331 : (Jvm.Cond.instanceMethod ({ cls := "TableauNodes$Roles", name := "isUnder", desc := "(II)Z" } : Jvm.MethodName)) ∈ tq_T := tq_in (List.mem_of_getElem? (i := 378) (by decide +kernel)) (by decide +kernel)
theorem tw_332 : (Jvm.Cond.selects "TableauNodes$Roles" ({ cls := "TableauNodes$Roles", name := "isUnder", desc := "(II)Z" } : Jvm.MethodName) ({ cls := "TableauNodes$Roles", name := "isUnder", desc := "(II)Z" } : Jvm.MethodName)) ∈ tq_T := tq_in (List.mem_of_getElem? (i := 379) (by decide +kernel)) (by decide +kernel)
theorem tw_333 : (Jvm.Cond.code ({ cls := "TableauNodes$Roles", name := "isUnder", desc := "(II)Z" } : Jvm.MethodName) prog_4_method_3_code (3 : Nat) (Option.some Jvm.ClassFile.FieldType.boolean)) ∈ tq_T := tq_in (List.mem_of_getElem? (i := 380) (by decide +kernel)) (by decide +kernel)
theorem tw_334 : (Jvm.Cond.methodLink "TableauNodes$GoodTypes" (65 : Nat) ({ cls := "TableauNodes$GoodTypes", name := "begin", desc := "()V" } : Jvm.MethodName)) ∈ tq_T := tq_in (List.mem_of_getElem? (i := 381) (by decide +kernel)) (by decide +kernel)
theorem tw_336 : (Jvm.Cond.instanceMethod ({ cls := "TableauNodes$GoodTypes", name := "begin", desc := "()V" } : Jvm.MethodName)) ∈ tq_T := tq_in (List.mem_of_getElem? (i := 383) (by decide +kernel)) (by decide +kernel)
theorem tw_337 : (Jvm.Cond.code ({ cls := "TableauNodes$GoodTypes", name := "begin", desc := "()V" } : Jvm.MethodName) prog_3_method_15_code (4 : Nat) (Option.none : Option Jvm.ClassFile.FieldType)) ∈ tq_T := tq_in (List.mem_of_getElem? (i := 384) (by decide +kernel)) (by decide +kernel)
theorem tw_338 : (Jvm.Cond.methodLink "TableauNodes$GoodTypes" (106 : Nat) ({ cls := "TableauNodes$Concepts", name := "wordCount", desc := "()I" } : Jvm.MethodName)) ∈ tq_T := tq_in (List.mem_of_getElem? (i := 385) (by decide +kernel)) (by decide +kernel)
theorem tw_339 : (Jvm.Cond.instanceMethod ({ cls := "TableauNodes$Concepts", name := "wordCount", desc := "()I" } : Jvm.MethodName)) ∈ tq_T := tq_in (List.mem_of_getElem? (i := 386) (by decide +kernel)) (by decide +kernel)
theorem tw_340 : (Jvm.Cond.selects "TableauNodes$Concepts" ({ cls := "TableauNodes$Concepts", name := "wordCount", desc := "()I" } : Jvm.MethodName) ({ cls := "TableauNodes$Concepts", name := "wordCount", desc := "()I" } : Jvm.MethodName)) ∈ tq_T := tq_in (List.mem_of_getElem? (i := 387) (by decide +kernel)) (by decide +kernel)
theorem tw_341 : (Jvm.Cond.code ({ cls := "TableauNodes$Concepts", name := "wordCount", desc := "()I" } : Jvm.MethodName) prog_2_method_5_code (1 : Nat) (Option.some Jvm.ClassFile.FieldType.int)) ∈ tq_T := tq_in (List.mem_of_getElem? (i := 388) (by decide +kernel)) (by decide +kernel)
theorem tw_342 : (Jvm.Cond.methodLink "TableauNodes$Concepts" (45 : Nat) ({ cls := "TableauNodes$Concepts", name := "typeCount", desc := "()I" } : Jvm.MethodName)) ∈ tq_T := tq_in (List.mem_of_getElem? (i := 389) (by decide +kernel)) (by decide +kernel)
theorem tw_343 : (Jvm.Cond.instanceMethod ({ cls := "TableauNodes$Concepts", name := "typeCount", desc := "()I" } : Jvm.MethodName)) ∈ tq_T := tq_in (List.mem_of_getElem? (i := 390) (by decide +kernel)) (by decide +kernel)
theorem tw_344 : (Jvm.Cond.selects "TableauNodes$Concepts" ({ cls := "TableauNodes$Concepts", name := "typeCount", desc := "()I" } : Jvm.MethodName) ({ cls := "TableauNodes$Concepts", name := "typeCount", desc := "()I" } : Jvm.MethodName)) ∈ tq_T := tq_in (List.mem_of_getElem? (i := 391) (by decide +kernel)) (by decide +kernel)
theorem tw_345 : (Jvm.Cond.code ({ cls := "TableauNodes$Concepts", name := "typeCount", desc := "()I" } : Jvm.MethodName) prog_2_method_4_code (1 : Nat) (Option.some Jvm.ClassFile.FieldType.int)) ∈ tq_T := tq_in (List.mem_of_getElem? (i := 392) (by decide +kernel)) (by decide +kernel)
theorem tw_346 : (Jvm.Cond.methodLink "TableauNodes$GoodTypes" (109 : Nat) ({ cls := "TableauNodes$Concepts", name := "typesInWord", desc := "()J" } : Jvm.MethodName)) ∈ tq_T := tq_in (List.mem_of_getElem? (i := 393) (by decide +kernel)) (by decide +kernel)
theorem tw_347 : (Jvm.Cond.instanceMethod ({ cls := "TableauNodes$Concepts", name := "typesInWord", desc := "()J" } : Jvm.MethodName)) ∈ tq_T := tq_in (List.mem_of_getElem? (i := 394) (by decide +kernel)) (by decide +kernel)
theorem tw_348 : (Jvm.Cond.selects "TableauNodes$Concepts" ({ cls := "TableauNodes$Concepts", name := "typesInWord", desc := "()J" } : Jvm.MethodName) ({ cls := "TableauNodes$Concepts", name := "typesInWord", desc := "()J" } : Jvm.MethodName)) ∈ tq_T := tq_in (List.mem_of_getElem? (i := 395) (by decide +kernel)) (by decide +kernel)
theorem tw_349 : (Jvm.Cond.code ({ cls := "TableauNodes$Concepts", name := "typesInWord", desc := "()J" } : Jvm.MethodName) prog_2_method_6_code (1 : Nat) (Option.some Jvm.ClassFile.FieldType.long)) ∈ tq_T := tq_in (List.mem_of_getElem? (i := 396) (by decide +kernel)) (by decide +kernel)
theorem tw_350 : (Jvm.Cond.methodLink "TableauNodes$GoodTypes" (113 : Nat) ({ cls := "TableauNodes$GoodTypes", name := "keptByAxioms", desc := "(JI)J" } : Jvm.MethodName)) ∈ tq_T := tq_in (List.mem_of_getElem? (i := 397) (by decide +kernel)) (by decide +kernel)
theorem tw_352 : (Jvm.Cond.instanceMethod ({ cls := "TableauNodes$GoodTypes", name := "keptByAxioms", desc := "(JI)J" } : Jvm.MethodName)) ∈ tq_T := tq_in (List.mem_of_getElem? (i := 399) (by decide +kernel)) (by decide +kernel)
theorem tw_353 : (Jvm.Cond.code ({ cls := "TableauNodes$GoodTypes", name := "keptByAxioms", desc := "(JI)J" } : Jvm.MethodName) prog_3_method_16_code (7 : Nat) (Option.some Jvm.ClassFile.FieldType.long)) ∈ tq_T := tq_in (List.mem_of_getElem? (i := 400) (by decide +kernel)) (by decide +kernel)
theorem tw_354 : (Jvm.Cond.methodLink "TableauNodes$GoodTypes" (88 : Nat) ({ cls := "TableauNodes$Concepts", name := "word", desc := "(II)J" } : Jvm.MethodName)) ∈ tq_T := tq_in (List.mem_of_getElem? (i := 401) (by decide +kernel)) (by decide +kernel)
theorem tw_355 : (Jvm.Cond.constantLong "TableauNodes$GoodTypes" (92 : Nat) (-1 : Int64)) ∈ tq_T := tq_in (List.mem_of_getElem? (i := 402) (by decide +kernel)) (by decide +kernel)
theorem tw_356 : (Jvm.Cond.methodLink "TableauNodes$GoodTypes" (117 : Nat) ({ cls := "TableauNodes$Concepts", name := "typeCount", desc := "()I" } : Jvm.MethodName)) ∈ tq_T := tq_in (List.mem_of_getElem? (i := 403) (by decide +kernel)) (by decide +kernel)
theorem tw_357 : (Jvm.Cond.methodLink "TableauNodes$GoodTypes" (120 : Nat) ({ cls := "TableauNodes$GoodTypes", name := "isThere", desc := "(I)Z" } : Jvm.MethodName)) ∈ tq_T := tq_in (List.mem_of_getElem? (i := 404) (by decide +kernel)) (by decide +kernel)
theorem tw_359 : (Jvm.Cond.instanceMethod ({ cls := "TableauNodes$GoodTypes", name := "isThere", desc := "(I)Z" } : Jvm.MethodName)) ∈ tq_T := tq_in (List.mem_of_getElem? (i := 406) (by decide +kernel)) (by decide +kernel)
theorem tw_360 : (Jvm.Cond.code ({ cls := "TableauNodes$GoodTypes", name := "isThere", desc := "(I)Z" } : Jvm.MethodName) prog_3_method_17_code (2 : Nat) (Option.some Jvm.ClassFile.FieldType.boolean)) ∈ tq_T := tq_in (List.mem_of_getElem? (i := 407) (by decide +kernel)) (by decide +kernel)
theorem tw_362 : (Jvm.Cond.methodLink "TableauNodes$GoodTypes" (71 : Nat) ({ cls := "TableauNodes$GoodTypes", name := "makeRound", desc := "(I)Z" } : Jvm.MethodName)) ∈ tq_T := tq_in (List.mem_of_getElem? (i := 409) (by decide +kernel)) (by decide +kernel)
theorem tw_364 : (Jvm.Cond.instanceMethod ({ cls := "TableauNodes$GoodTypes", name := "makeRound", desc := "(I)Z" } : Jvm.MethodName)) ∈ tq_T := tq_in (List.mem_of_getElem? (i := 411) (by decide +kernel)) (by decide +kernel)
theorem tw_365 : (Jvm.Cond.code ({ cls := "TableauNodes$GoodTypes", name := "makeRound", desc := "(I)Z" } : Jvm.MethodName) prog_3_method_18_code (4 : Nat) (Option.some Jvm.ClassFile.FieldType.boolean)) ∈ tq_T := tq_in (List.mem_of_getElem? (i := 412) (by decide +kernel)) (by decide +kernel)
theorem tw_366 : (Jvm.Cond.methodLink "TableauNodes$GoodTypes" (127 : Nat) ({ cls := "TableauNodes$GoodTypes", name := "markUnserved", desc := "(I)V" } : Jvm.MethodName)) ∈ tq_T := tq_in (List.mem_of_getElem? (i := 413) (by decide +kernel)) (by decide +kernel)
theorem tw_368 : (Jvm.Cond.instanceMethod ({ cls := "TableauNodes$GoodTypes", name := "markUnserved", desc := "(I)V" } : Jvm.MethodName)) ∈ tq_T := tq_in (List.mem_of_getElem? (i := 415) (by decide +kernel)) (by decide +kernel)
theorem tw_369 : (Jvm.Cond.code ({ cls := "TableauNodes$GoodTypes", name := "markUnserved", desc := "(I)V" } : Jvm.MethodName) prog_3_method_20_code (4 : Nat) (Option.none : Option Jvm.ClassFile.FieldType)) ∈ tq_T := tq_in (List.mem_of_getElem? (i := 416) (by decide +kernel)) (by decide +kernel)
theorem tw_370 : (Jvm.Cond.methodLink "TableauNodes$GoodTypes" (138 : Nat) ({ cls := "TableauNodes$GoodTypes", name := "findServed", desc := "(I)V" } : Jvm.MethodName)) ∈ tq_T := tq_in (List.mem_of_getElem? (i := 417) (by decide +kernel)) (by decide +kernel)
theorem tw_372 : (Jvm.Cond.instanceMethod ({ cls := "TableauNodes$GoodTypes", name := "findServed", desc := "(I)V" } : Jvm.MethodName)) ∈ tq_T := tq_in (List.mem_of_getElem? (i := 419) (by decide +kernel)) (by decide +kernel)
theorem tw_373 : (Jvm.Cond.code ({ cls := "TableauNodes$GoodTypes", name := "findServed", desc := "(I)V" } : Jvm.MethodName) prog_3_method_21_code (7 : Nat) (Option.none : Option Jvm.ClassFile.FieldType)) ∈ tq_T := tq_in (List.mem_of_getElem? (i := 420) (by decide +kernel)) (by decide +kernel)
theorem tw_374 : (Jvm.Cond.methodLink "TableauNodes$GoodTypes" (141 : Nat) ({ cls := "java/lang/Integer", name := "bitCount", desc := "(I)I" } : Jvm.MethodName)) ∈ tq_T := tq_in (List.mem_of_getElem? (i := 421) (by decide +kernel)) (by decide +kernel)
theorem tw_375 : (Jvm.Cond.static ({ cls := "java/lang/Integer", name := "bitCount", desc := "(I)I" } : Jvm.MethodName)) ∈ tq_T := tq_in (List.mem_of_getElem? (i := 422) (by decide +kernel)) (by decide +kernel)
theorem tw_376 : (Jvm.Cond.code ({ cls := "java/lang/Integer", name := "bitCount", desc := "(I)I" } : Jvm.MethodName) prog_8_method_49_code (1 : Nat) (Option.some Jvm.ClassFile.FieldType.int)) ∈ tq_T := tq_in (List.mem_of_getElem? (i := 423) (by decide +kernel)) (by decide +kernel)
theorem tw_377 : (Jvm.Cond.constant "java/lang/Integer" (265 : Nat) (1431655765 : Int32)) ∈ tq_T := tq_in (List.mem_of_getElem? (i := 424) (by decide +kernel)) (by decide +kernel)
theorem tw_378 : (Jvm.Cond.constant "java/lang/Integer" (266 : Nat) (858993459 : Int32)) ∈ tq_T := tq_in (List.mem_of_getElem? (i := 425) (by decide +kernel)) (by decide +kernel)
theorem tw_379 : (Jvm.Cond.constant "java/lang/Integer" (267 : Nat) (252645135 : Int32)) ∈ tq_T := tq_in (List.mem_of_getElem? (i := 426) (by decide +kernel)) (by decide +kernel)
theorem tw_380 : (Jvm.Cond.methodLink "TableauNodes$GoodTypes" (145 : Nat) ({ cls := "TableauNodes$Concepts", name := "inners", desc := "(I)I" } : Jvm.MethodName)) ∈ tq_T := tq_in (List.mem_of_getElem? (i := 427) (by decide +kernel)) (by decide +kernel)
theorem tw_381 : (Jvm.Cond.instanceMethod ({ cls := "TableauNodes$Concepts", name := "inners", desc := "(I)I" } : Jvm.MethodName)) ∈ tq_T := tq_in (List.mem_of_getElem? (i := 428) (by decide +kernel)) (by decide +kernel)
theorem tw_382 : (Jvm.Cond.selects "TableauNodes$Concepts" ({ cls := "TableauNodes$Concepts", name := "inners", desc := "(I)I" } : Jvm.MethodName) ({ cls := "TableauNodes$Concepts", name := "inners", desc := "(I)I" } : Jvm.MethodName)) ∈ tq_T := tq_in (List.mem_of_getElem? (i := 429) (by decide +kernel)) (by decide +kernel)
theorem tw_383 : (Jvm.Cond.code ({ cls := "TableauNodes$Concepts", name := "inners", desc := "(I)I" } : Jvm.MethodName) prog_2_method_15_code (2 : Nat) (Option.some Jvm.ClassFile.FieldType.int)) ∈ tq_T := tq_in (List.mem_of_getElem? (i := 430) (by decide +kernel)) (by decide +kernel)
theorem tw_384 : (Jvm.Cond.methodLink "TableauNodes$GoodTypes" (148 : Nat) ({ cls := "TableauNodes$GoodTypes", name := "spreadServed", desc := "(III)V" } : Jvm.MethodName)) ∈ tq_T := tq_in (List.mem_of_getElem? (i := 431) (by decide +kernel)) (by decide +kernel)
theorem tw_386 : (Jvm.Cond.instanceMethod ({ cls := "TableauNodes$GoodTypes", name := "spreadServed", desc := "(III)V" } : Jvm.MethodName)) ∈ tq_T := tq_in (List.mem_of_getElem? (i := 433) (by decide +kernel)) (by decide +kernel)
theorem tw_387 : (Jvm.Cond.code ({ cls := "TableauNodes$GoodTypes", name := "spreadServed", desc := "(III)V" } : Jvm.MethodName) prog_3_method_22_code (6 : Nat) (Option.none : Option Jvm.ClassFile.FieldType)) ∈ tq_T := tq_in (List.mem_of_getElem? (i := 434) (by decide +kernel)) (by decide +kernel)
theorem tw_388 : (Jvm.Cond.methodLink "TableauNodes$GoodTypes" (131 : Nat) ({ cls := "TableauNodes$GoodTypes", name := "takeAway", desc := "(II)V" } : Jvm.MethodName)) ∈ tq_T := tq_in (List.mem_of_getElem? (i := 435) (by decide +kernel)) (by decide +kernel)
theorem tw_390 : (Jvm.Cond.instanceMethod ({ cls := "TableauNodes$GoodTypes", name := "takeAway", desc := "(II)V" } : Jvm.MethodName)) ∈ tq_T := tq_in (List.mem_of_getElem? (i := 437) (by decide +kernel)) (by decide +kernel)
theorem tw_391 : (Jvm.Cond.code ({ cls := "TableauNodes$GoodTypes", name := "takeAway", desc := "(II)V" } : Jvm.MethodName) prog_3_method_19_code (6 : Nat) (Option.none : Option Jvm.ClassFile.FieldType)) ∈ tq_T := tq_in (List.mem_of_getElem? (i := 438) (by decide +kernel)) (by decide +kernel)
theorem tw_392 : (Jvm.Cond.methodLink "TableauNodes$GoodTypes" (78 : Nat) ({ cls := "java/lang/Long", name := "bitCount", desc := "(J)I" } : Jvm.MethodName)) ∈ tq_T := tq_in (List.mem_of_getElem? (i := 439) (by decide +kernel)) (by decide +kernel)
theorem tw_393 : (Jvm.Cond.static ({ cls := "java/lang/Long", name := "bitCount", desc := "(J)I" } : Jvm.MethodName)) ∈ tq_T := tq_in (List.mem_of_getElem? (i := 440) (by decide +kernel)) (by decide +kernel)
theorem tw_394 : (Jvm.Cond.code ({ cls := "java/lang/Long", name := "bitCount", desc := "(J)I" } : Jvm.MethodName) prog_9_method_50_code (2 : Nat) (Option.some Jvm.ClassFile.FieldType.int)) ∈ tq_T := tq_in (List.mem_of_getElem? (i := 441) (by decide +kernel)) (by decide +kernel)
theorem tw_395 : (Jvm.Cond.constantLong "java/lang/Long" (314 : Nat) (6148914691236517205 : Int64)) ∈ tq_T := tq_in (List.mem_of_getElem? (i := 442) (by decide +kernel)) (by decide +kernel)
theorem tw_396 : (Jvm.Cond.constantLong "java/lang/Long" (316 : Nat) (3689348814741910323 : Int64)) ∈ tq_T := tq_in (List.mem_of_getElem? (i := 443) (by decide +kernel)) (by decide +kernel)
theorem tw_397 : (Jvm.Cond.constantLong "java/lang/Long" (318 : Nat) (1085102592571150095 : Int64)) ∈ tq_T := tq_in (List.mem_of_getElem? (i := 444) (by decide +kernel)) (by decide +kernel)
theorem tw_399 : (Jvm.Cond.static ({ cls := "TableauNodes", name := "lowestBit", desc := "(J)I" } : Jvm.MethodName)) ∈ tq_T := tq_in (List.mem_of_getElem? (i := 446) (by decide +kernel)) (by decide +kernel)
theorem tw_400 : (Jvm.Cond.code ({ cls := "TableauNodes", name := "lowestBit", desc := "(J)I" } : Jvm.MethodName) prog_1_method_23_code (2 : Nat) (Option.some Jvm.ClassFile.FieldType.int)) ∈ tq_T := tq_in (List.mem_of_getElem? (i := 447) (by decide +kernel)) (by decide +kernel)
theorem tw_401 : (Jvm.Cond.methodLink "TableauNodes" (121 : Nat) ({ cls := "java/lang/Long", name := "bitCount", desc := "(J)I" } : Jvm.MethodName)) ∈ tq_T := tq_in (List.mem_of_getElem? (i := 448) (by decide +kernel)) (by decide +kernel)
theorem tw_402 : (Jvm.Cond.methodLink "TableauNodes" (82 : Nat) ({ cls := "TableauNodes$GoodTypes", name := "someAre", desc := "(I)Z" } : Jvm.MethodName)) ∈ tq_T := tq_in (List.mem_of_getElem? (i := 449) (by decide +kernel)) (by decide +kernel)
theorem tw_403 : (Jvm.Cond.instanceMethod ({ cls := "TableauNodes$GoodTypes", name := "someAre", desc := "(I)Z" } : Jvm.MethodName)) ∈ tq_T := tq_in (List.mem_of_getElem? (i := 450) (by decide +kernel)) (by decide +kernel)
theorem tw_404 : (Jvm.Cond.selects "TableauNodes$GoodTypes" ({ cls := "TableauNodes$GoodTypes", name := "someAre", desc := "(I)Z" } : Jvm.MethodName) ({ cls := "TableauNodes$GoodTypes", name := "someAre", desc := "(I)Z" } : Jvm.MethodName)) ∈ tq_T := tq_in (List.mem_of_getElem? (i := 451) (by decide +kernel)) (by decide +kernel)
theorem tw_405 : (Jvm.Cond.code ({ cls := "TableauNodes$GoodTypes", name := "someAre", desc := "(I)Z" } : Jvm.MethodName) prog_3_method_10_code (3 : Nat) (Option.some Jvm.ClassFile.FieldType.boolean)) ∈ tq_T := tq_in (List.mem_of_getElem? (i := 452) (by decide +kernel)) (by decide +kernel)
theorem tw_406 : (Jvm.Cond.methodLink "TableauNodesLaw" (53 : Nat) ({ cls := "TableauNodes", name := "below", desc := "(II)I" } : Jvm.MethodName)) ∈ tq_T := tq_in (List.mem_of_getElem? (i := 453) (by decide +kernel)) (by decide +kernel)
theorem tw_407 : (Jvm.Cond.instanceMethod ({ cls := "TableauNodes", name := "below", desc := "(II)I" } : Jvm.MethodName)) ∈ tq_T := tq_in (List.mem_of_getElem? (i := 454) (by decide +kernel)) (by decide +kernel)
theorem tw_408 : (Jvm.Cond.selects "TableauNodes" ({ cls := "TableauNodes", name := "below", desc := "(II)I" } : Jvm.MethodName) ({ cls := "TableauNodes", name := "below", desc := "(II)I" } : Jvm.MethodName)) ∈ tq_T := tq_in (List.mem_of_getElem? (i := 455) (by decide +kernel)) (by decide +kernel)
theorem tw_409 : (Jvm.Cond.code ({ cls := "TableauNodes", name := "below", desc := "(II)I" } : Jvm.MethodName) prog_1_method_11_code (3 : Nat) (Option.some Jvm.ClassFile.FieldType.int)) ∈ tq_T := tq_in (List.mem_of_getElem? (i := 456) (by decide +kernel)) (by decide +kernel)
theorem tw_410 : (Jvm.Cond.methodLink "TableauNodes" (85 : Nat) ({ cls := "TableauNodes$GoodTypes", name := "eachIs", desc := "(II)Z" } : Jvm.MethodName)) ∈ tq_T := tq_in (List.mem_of_getElem? (i := 457) (by decide +kernel)) (by decide +kernel)
theorem tw_411 : (Jvm.Cond.instanceMethod ({ cls := "TableauNodes$GoodTypes", name := "eachIs", desc := "(II)Z" } : Jvm.MethodName)) ∈ tq_T := tq_in (List.mem_of_getElem? (i := 458) (by decide +kernel)) (by decide +kernel)
theorem tw_412 : (Jvm.Cond.selects "TableauNodes$GoodTypes" ({ cls := "TableauNodes$GoodTypes", name := "eachIs", desc := "(II)Z" } : Jvm.MethodName) ({ cls := "TableauNodes$GoodTypes", name := "eachIs", desc := "(II)Z" } : Jvm.MethodName)) ∈ tq_T := tq_in (List.mem_of_getElem? (i := 459) (by decide +kernel)) (by decide +kernel)
theorem tw_413 : (Jvm.Cond.code ({ cls := "TableauNodes$GoodTypes", name := "eachIs", desc := "(II)Z" } : Jvm.MethodName) prog_3_method_11_code (4 : Nat) (Option.some Jvm.ClassFile.FieldType.boolean)) ∈ tq_T := tq_in (List.mem_of_getElem? (i := 460) (by decide +kernel)) (by decide +kernel)
theorem tw_414 : (Jvm.Cond.methodLink "TableauNodesLaw" (57 : Nat) ({ cls := "TableauNodes", name := "types", desc := "()I" } : Jvm.MethodName)) ∈ tq_T := tq_in (List.mem_of_getElem? (i := 461) (by decide +kernel)) (by decide +kernel)
theorem tw_415 : (Jvm.Cond.instanceMethod ({ cls := "TableauNodes", name := "types", desc := "()I" } : Jvm.MethodName)) ∈ tq_T := tq_in (List.mem_of_getElem? (i := 462) (by decide +kernel)) (by decide +kernel)
theorem tw_416 : (Jvm.Cond.selects "TableauNodes" ({ cls := "TableauNodes", name := "types", desc := "()I" } : Jvm.MethodName) ({ cls := "TableauNodes", name := "types", desc := "()I" } : Jvm.MethodName)) ∈ tq_T := tq_in (List.mem_of_getElem? (i := 463) (by decide +kernel)) (by decide +kernel)
theorem tw_417 : (Jvm.Cond.code ({ cls := "TableauNodes", name := "types", desc := "()I" } : Jvm.MethodName) prog_1_method_12_code (1 : Nat) (Option.some Jvm.ClassFile.FieldType.int)) ∈ tq_T := tq_in (List.mem_of_getElem? (i := 464) (by decide +kernel)) (by decide +kernel)
theorem tw_418 : (Jvm.Cond.methodLink "TableauNodes" (88 : Nat) ({ cls := "TableauNodes$GoodTypes", name := "size", desc := "()I" } : Jvm.MethodName)) ∈ tq_T := tq_in (List.mem_of_getElem? (i := 465) (by decide +kernel)) (by decide +kernel)
theorem tw_419 : (Jvm.Cond.instanceMethod ({ cls := "TableauNodes$GoodTypes", name := "size", desc := "()I" } : Jvm.MethodName)) ∈ tq_T := tq_in (List.mem_of_getElem? (i := 466) (by decide +kernel)) (by decide +kernel)
theorem tw_420 : (Jvm.Cond.selects "TableauNodes$GoodTypes" ({ cls := "TableauNodes$GoodTypes", name := "size", desc := "()I" } : Jvm.MethodName) ({ cls := "TableauNodes$GoodTypes", name := "size", desc := "()I" } : Jvm.MethodName)) ∈ tq_T := tq_in (List.mem_of_getElem? (i := 467) (by decide +kernel)) (by decide +kernel)
theorem tw_421 : (Jvm.Cond.code ({ cls := "TableauNodes$GoodTypes", name := "size", desc := "()I" } : Jvm.MethodName) prog_3_method_7_code (3 : Nat) (Option.some Jvm.ClassFile.FieldType.int)) ∈ tq_T := tq_in (List.mem_of_getElem? (i := 468) (by decide +kernel)) (by decide +kernel)
theorem tw_422 : (Jvm.Cond.methodLink "TableauNodesLaw" (61 : Nat) ({ cls := "TableauNodes", name := "rounds", desc := "()I" } : Jvm.MethodName)) ∈ tq_T := tq_in (List.mem_of_getElem? (i := 469) (by decide +kernel)) (by decide +kernel)
theorem tw_423 : (Jvm.Cond.instanceMethod ({ cls := "TableauNodes", name := "rounds", desc := "()I" } : Jvm.MethodName)) ∈ tq_T := tq_in (List.mem_of_getElem? (i := 470) (by decide +kernel)) (by decide +kernel)
theorem tw_424 : (Jvm.Cond.selects "TableauNodes" ({ cls := "TableauNodes", name := "rounds", desc := "()I" } : Jvm.MethodName) ({ cls := "TableauNodes", name := "rounds", desc := "()I" } : Jvm.MethodName)) ∈ tq_T := tq_in (List.mem_of_getElem? (i := 471) (by decide +kernel)) (by decide +kernel)
theorem tw_425 : (Jvm.Cond.code ({ cls := "TableauNodes", name := "rounds", desc := "()I" } : Jvm.MethodName) prog_1_method_13_code (1 : Nat) (Option.some Jvm.ClassFile.FieldType.int)) ∈ tq_T := tq_in (List.mem_of_getElem? (i := 472) (by decide +kernel)) (by decide +kernel)
theorem tw_426 : (Jvm.Cond.methodLink "TableauNodes" (89 : Nat) ({ cls := "TableauNodes$GoodTypes", name := "roundCount", desc := "()I" } : Jvm.MethodName)) ∈ tq_T := tq_in (List.mem_of_getElem? (i := 473) (by decide +kernel)) (by decide +kernel)
theorem tw_427 : (Jvm.Cond.instanceMethod ({ cls := "TableauNodes$GoodTypes", name := "roundCount", desc := "()I" } : Jvm.MethodName)) ∈ tq_T := tq_in (List.mem_of_getElem? (i := 474) (by decide +kernel)) (by decide +kernel)
theorem tw_428 : (Jvm.Cond.selects "TableauNodes$GoodTypes" ({ cls := "TableauNodes$GoodTypes", name := "roundCount", desc := "()I" } : Jvm.MethodName) ({ cls := "TableauNodes$GoodTypes", name := "roundCount", desc := "()I" } : Jvm.MethodName)) ∈ tq_T := tq_in (List.mem_of_getElem? (i := 475) (by decide +kernel)) (by decide +kernel)
theorem tw_429 : (Jvm.Cond.code ({ cls := "TableauNodes$GoodTypes", name := "roundCount", desc := "()I" } : Jvm.MethodName) prog_3_method_8_code (1 : Nat) (Option.some Jvm.ClassFile.FieldType.int)) ∈ tq_T := tq_in (List.mem_of_getElem? (i := 476) (by decide +kernel)) (by decide +kernel)
theorem tw_430 : (Jvm.Cond.methodLink "TableauNodesLaw" (65 : Nat) ({ cls := "TableauNodes", name := "depth", desc := "(I)I" } : Jvm.MethodName)) ∈ tq_T := tq_in (List.mem_of_getElem? (i := 477) (by decide +kernel)) (by decide +kernel)
theorem tw_431 : (Jvm.Cond.instanceMethod ({ cls := "TableauNodes", name := "depth", desc := "(I)I" } : Jvm.MethodName)) ∈ tq_T := tq_in (List.mem_of_getElem? (i := 478) (by decide +kernel)) (by decide +kernel)
theorem tw_432 : (Jvm.Cond.selects "TableauNodes" ({ cls := "TableauNodes", name := "depth", desc := "(I)I" } : Jvm.MethodName) ({ cls := "TableauNodes", name := "depth", desc := "(I)I" } : Jvm.MethodName)) ∈ tq_T := tq_in (List.mem_of_getElem? (i := 479) (by decide +kernel)) (by decide +kernel)
theorem tw_433 : (Jvm.Cond.code ({ cls := "TableauNodes", name := "depth", desc := "(I)I" } : Jvm.MethodName) prog_1_method_14_code (2 : Nat) (Option.some Jvm.ClassFile.FieldType.int)) ∈ tq_T := tq_in (List.mem_of_getElem? (i := 480) (by decide +kernel)) (by decide +kernel)
theorem tw_434 : (Jvm.Cond.methodLink "TableauNodes" (92 : Nat) ({ cls := "TableauNodes$Concepts", name := "typeCount", desc := "()I" } : Jvm.MethodName)) ∈ tq_T := tq_in (List.mem_of_getElem? (i := 481) (by decide +kernel)) (by decide +kernel)
theorem tw_435 : (Jvm.Cond.methodLink "TableauNodes" (95 : Nat) ({ cls := "TableauNodes$GoodTypes", name := "depthOf", desc := "(I)I" } : Jvm.MethodName)) ∈ tq_T := tq_in (List.mem_of_getElem? (i := 482) (by decide +kernel)) (by decide +kernel)
theorem tw_436 : (Jvm.Cond.instanceMethod ({ cls := "TableauNodes$GoodTypes", name := "depthOf", desc := "(I)I" } : Jvm.MethodName)) ∈ tq_T := tq_in (List.mem_of_getElem? (i := 483) (by decide +kernel)) (by decide +kernel)
theorem tw_437 : (Jvm.Cond.selects "TableauNodes$GoodTypes" ({ cls := "TableauNodes$GoodTypes", name := "depthOf", desc := "(I)I" } : Jvm.MethodName) ({ cls := "TableauNodes$GoodTypes", name := "depthOf", desc := "(I)I" } : Jvm.MethodName)) ∈ tq_T := tq_in (List.mem_of_getElem? (i := 484) (by decide +kernel)) (by decide +kernel)
theorem tw_438 : (Jvm.Cond.code ({ cls := "TableauNodes$GoodTypes", name := "depthOf", desc := "(I)I" } : Jvm.MethodName) prog_3_method_9_code (2 : Nat) (Option.some Jvm.ClassFile.FieldType.int)) ∈ tq_T := tq_in (List.mem_of_getElem? (i := 485) (by decide +kernel)) (by decide +kernel)
theorem tw_440 : (Jvm.Cond.methodLink "TableauNodesLaw" (69 : Nat) ({ cls := "TableauNodes", name := "individual", desc := "(II)I" } : Jvm.MethodName)) ∈ tq_T := tq_in (List.mem_of_getElem? (i := 487) (by decide +kernel)) (by decide +kernel)
theorem tw_441 : (Jvm.Cond.instanceMethod ({ cls := "TableauNodes", name := "individual", desc := "(II)I" } : Jvm.MethodName)) ∈ tq_T := tq_in (List.mem_of_getElem? (i := 488) (by decide +kernel)) (by decide +kernel)
theorem tw_442 : (Jvm.Cond.selects "TableauNodes" ({ cls := "TableauNodes", name := "individual", desc := "(II)I" } : Jvm.MethodName) ({ cls := "TableauNodes", name := "individual", desc := "(II)I" } : Jvm.MethodName)) ∈ tq_T := tq_in (List.mem_of_getElem? (i := 489) (by decide +kernel)) (by decide +kernel)
theorem tw_443 : (Jvm.Cond.code ({ cls := "TableauNodes", name := "individual", desc := "(II)I" } : Jvm.MethodName) prog_1_method_15_code (3 : Nat) (Option.some Jvm.ClassFile.FieldType.int)) ∈ tq_T := tq_in (List.mem_of_getElem? (i := 490) (by decide +kernel)) (by decide +kernel)
theorem tw_444 : (Jvm.Cond.methodLink "TableauNodes" (99 : Nat) ({ cls := "TableauNodes$Things", name := "sayIs", desc := "(II)I" } : Jvm.MethodName)) ∈ tq_T := tq_in (List.mem_of_getElem? (i := 491) (by decide +kernel)) (by decide +kernel)
theorem tw_445 : (Jvm.Cond.instanceMethod ({ cls := "TableauNodes$Things", name := "sayIs", desc := "(II)I" } : Jvm.MethodName)) ∈ tq_T := tq_in (List.mem_of_getElem? (i := 492) (by decide +kernel)) (by decide +kernel)
theorem tw_446 : (Jvm.Cond.selects "TableauNodes$Things" ({ cls := "TableauNodes$Things", name := "sayIs", desc := "(II)I" } : Jvm.MethodName) ({ cls := "TableauNodes$Things", name := "sayIs", desc := "(II)I" } : Jvm.MethodName)) ∈ tq_T := tq_in (List.mem_of_getElem? (i := 493) (by decide +kernel)) (by decide +kernel)
theorem tw_447 : (Jvm.Cond.code ({ cls := "TableauNodes$Things", name := "sayIs", desc := "(II)I" } : Jvm.MethodName) prog_5_method_2_code (4 : Nat) (Option.some Jvm.ClassFile.FieldType.int)) ∈ tq_T := tq_in (List.mem_of_getElem? (i := 494) (by decide +kernel)) (by decide +kernel)
theorem tw_449 : (Jvm.Cond.methodLink "TableauNodes$Things" (53 : Nat) ({ cls := "TableauNodes$Concepts", name := "word", desc := "(II)J" } : Jvm.MethodName)) ∈ tq_T := tq_in (List.mem_of_getElem? (i := 496) (by decide +kernel)) (by decide +kernel)
theorem tw_450 : (Jvm.Cond.methodLink "TableauNodesLaw" (73 : Nat) ({ cls := "TableauNodes", name := "has", desc := "(III)I" } : Jvm.MethodName)) ∈ tq_T := tq_in (List.mem_of_getElem? (i := 497) (by decide +kernel)) (by decide +kernel)
theorem tw_451 : (Jvm.Cond.instanceMethod ({ cls := "TableauNodes", name := "has", desc := "(III)I" } : Jvm.MethodName)) ∈ tq_T := tq_in (List.mem_of_getElem? (i := 498) (by decide +kernel)) (by decide +kernel)
theorem tw_452 : (Jvm.Cond.selects "TableauNodes" ({ cls := "TableauNodes", name := "has", desc := "(III)I" } : Jvm.MethodName) ({ cls := "TableauNodes", name := "has", desc := "(III)I" } : Jvm.MethodName)) ∈ tq_T := tq_in (List.mem_of_getElem? (i := 499) (by decide +kernel)) (by decide +kernel)
theorem tw_453 : (Jvm.Cond.code ({ cls := "TableauNodes", name := "has", desc := "(III)I" } : Jvm.MethodName) prog_1_method_16_code (5 : Nat) (Option.some Jvm.ClassFile.FieldType.int)) ∈ tq_T := tq_in (List.mem_of_getElem? (i := 500) (by decide +kernel)) (by decide +kernel)
theorem tw_454 : (Jvm.Cond.methodLink "TableauNodes" (102 : Nat) ({ cls := "TableauNodes$Things", name := "sayHas", desc := "(III)I" } : Jvm.MethodName)) ∈ tq_T := tq_in (List.mem_of_getElem? (i := 501) (by decide +kernel)) (by decide +kernel)
theorem tw_455 : (Jvm.Cond.instanceMethod ({ cls := "TableauNodes$Things", name := "sayHas", desc := "(III)I" } : Jvm.MethodName)) ∈ tq_T := tq_in (List.mem_of_getElem? (i := 502) (by decide +kernel)) (by decide +kernel)
theorem tw_456 : (Jvm.Cond.selects "TableauNodes$Things" ({ cls := "TableauNodes$Things", name := "sayHas", desc := "(III)I" } : Jvm.MethodName) ({ cls := "TableauNodes$Things", name := "sayHas", desc := "(III)I" } : Jvm.MethodName)) ∈ tq_T := tq_in (List.mem_of_getElem? (i := 503) (by decide +kernel)) (by decide +kernel)
theorem tw_457 : (Jvm.Cond.code ({ cls := "TableauNodes$Things", name := "sayHas", desc := "(III)I" } : Jvm.MethodName) prog_5_method_3_code (4 : Nat) (Option.some Jvm.ClassFile.FieldType.int)) ∈ tq_T := tq_in (List.mem_of_getElem? (i := 504) (by decide +kernel)) (by decide +kernel)
theorem tw_458 : (Jvm.Cond.methodLink "TableauNodesLaw" (77 : Nat) ({ cls := "TableauNodes", name := "forget", desc := "()I" } : Jvm.MethodName)) ∈ tq_T := tq_in (List.mem_of_getElem? (i := 505) (by decide +kernel)) (by decide +kernel)
theorem tw_459 : (Jvm.Cond.instanceMethod ({ cls := "TableauNodes", name := "forget", desc := "()I" } : Jvm.MethodName)) ∈ tq_T := tq_in (List.mem_of_getElem? (i := 506) (by decide +kernel)) (by decide +kernel)
theorem tw_460 : (Jvm.Cond.selects "TableauNodes" ({ cls := "TableauNodes", name := "forget", desc := "()I" } : Jvm.MethodName) ({ cls := "TableauNodes", name := "forget", desc := "()I" } : Jvm.MethodName)) ∈ tq_T := tq_in (List.mem_of_getElem? (i := 507) (by decide +kernel)) (by decide +kernel)
theorem tw_461 : (Jvm.Cond.code ({ cls := "TableauNodes", name := "forget", desc := "()I" } : Jvm.MethodName) prog_1_method_17_code (1 : Nat) (Option.some Jvm.ClassFile.FieldType.int)) ∈ tq_T := tq_in (List.mem_of_getElem? (i := 508) (by decide +kernel)) (by decide +kernel)
theorem tw_462 : (Jvm.Cond.methodLink "TableauNodes" (105 : Nat) ({ cls := "TableauNodes$Things", name := "forgetAll", desc := "()I" } : Jvm.MethodName)) ∈ tq_T := tq_in (List.mem_of_getElem? (i := 509) (by decide +kernel)) (by decide +kernel)
theorem tw_463 : (Jvm.Cond.instanceMethod ({ cls := "TableauNodes$Things", name := "forgetAll", desc := "()I" } : Jvm.MethodName)) ∈ tq_T := tq_in (List.mem_of_getElem? (i := 510) (by decide +kernel)) (by decide +kernel)
theorem tw_464 : (Jvm.Cond.selects "TableauNodes$Things" ({ cls := "TableauNodes$Things", name := "forgetAll", desc := "()I" } : Jvm.MethodName) ({ cls := "TableauNodes$Things", name := "forgetAll", desc := "()I" } : Jvm.MethodName)) ∈ tq_T := tq_in (List.mem_of_getElem? (i := 511) (by decide +kernel)) (by decide +kernel)
theorem tw_465 : (Jvm.Cond.code ({ cls := "TableauNodes$Things", name := "forgetAll", desc := "()I" } : Jvm.MethodName) prog_5_method_4_code (2 : Nat) (Option.some Jvm.ClassFile.FieldType.int)) ∈ tq_T := tq_in (List.mem_of_getElem? (i := 512) (by decide +kernel)) (by decide +kernel)
theorem tw_466 : (Jvm.Cond.methodLink "TableauNodesLaw" (81 : Nat) ({ cls := "TableauNodes", name := "run", desc := "()I" } : Jvm.MethodName)) ∈ tq_T := tq_in (List.mem_of_getElem? (i := 513) (by decide +kernel)) (by decide +kernel)
theorem tw_467 : (Jvm.Cond.instanceMethod ({ cls := "TableauNodes", name := "run", desc := "()I" } : Jvm.MethodName)) ∈ tq_T := tq_in (List.mem_of_getElem? (i := 514) (by decide +kernel)) (by decide +kernel)
theorem tw_468 : (Jvm.Cond.selects "TableauNodes" ({ cls := "TableauNodes", name := "run", desc := "()I" } : Jvm.MethodName) ({ cls := "TableauNodes", name := "run", desc := "()I" } : Jvm.MethodName)) ∈ tq_T := tq_in (List.mem_of_getElem? (i := 515) (by decide +kernel)) (by decide +kernel)
theorem tw_469 : (Jvm.Cond.code ({ cls := "TableauNodes", name := "run", desc := "()I" } : Jvm.MethodName) prog_1_method_18_code (1 : Nat) (Option.some Jvm.ClassFile.FieldType.int)) ∈ tq_T := tq_in (List.mem_of_getElem? (i := 516) (by decide +kernel)) (by decide +kernel)
theorem tw_470 : (Jvm.Cond.methodLink "TableauNodes" (108 : Nat) ({ cls := "TableauNodes$Things", name := "settle", desc := "()V" } : Jvm.MethodName)) ∈ tq_T := tq_in (List.mem_of_getElem? (i := 517) (by decide +kernel)) (by decide +kernel)
theorem tw_471 : (Jvm.Cond.instanceMethod ({ cls := "TableauNodes$Things", name := "settle", desc := "()V" } : Jvm.MethodName)) ∈ tq_T := tq_in (List.mem_of_getElem? (i := 518) (by decide +kernel)) (by decide +kernel)
theorem tw_472 : (Jvm.Cond.selects "TableauNodes$Things" ({ cls := "TableauNodes$Things", name := "settle", desc := "()V" } : Jvm.MethodName) ({ cls := "TableauNodes$Things", name := "settle", desc := "()V" } : Jvm.MethodName)) ∈ tq_T := tq_in (List.mem_of_getElem? (i := 519) (by decide +kernel)) (by decide +kernel)
theorem tw_473 : (Jvm.Cond.code ({ cls := "TableauNodes$Things", name := "settle", desc := "()V" } : Jvm.MethodName) prog_5_method_5_code (2 : Nat) (Option.none : Option Jvm.ClassFile.FieldType)) ∈ tq_T := tq_in (List.mem_of_getElem? (i := 520) (by decide +kernel)) (by decide +kernel)
theorem tw_474 : (Jvm.Cond.methodLink "TableauNodes$Things" (69 : Nat) ({ cls := "TableauNodes$GoodTypes", name := "version", desc := "()I" } : Jvm.MethodName)) ∈ tq_T := tq_in (List.mem_of_getElem? (i := 521) (by decide +kernel)) (by decide +kernel)
theorem tw_475 : (Jvm.Cond.instanceMethod ({ cls := "TableauNodes$GoodTypes", name := "version", desc := "()I" } : Jvm.MethodName)) ∈ tq_T := tq_in (List.mem_of_getElem? (i := 522) (by decide +kernel)) (by decide +kernel)
theorem tw_476 : (Jvm.Cond.selects "TableauNodes$GoodTypes" ({ cls := "TableauNodes$GoodTypes", name := "version", desc := "()I" } : Jvm.MethodName) ({ cls := "TableauNodes$GoodTypes", name := "version", desc := "()I" } : Jvm.MethodName)) ∈ tq_T := tq_in (List.mem_of_getElem? (i := 523) (by decide +kernel)) (by decide +kernel)
theorem tw_477 : (Jvm.Cond.code ({ cls := "TableauNodes$GoodTypes", name := "version", desc := "()I" } : Jvm.MethodName) prog_3_method_6_code (1 : Nat) (Option.some Jvm.ClassFile.FieldType.int)) ∈ tq_T := tq_in (List.mem_of_getElem? (i := 524) (by decide +kernel)) (by decide +kernel)
theorem tw_478 : (Jvm.Cond.methodLink "TableauNodes$Things" (75 : Nat) ({ cls := "TableauNodes$Things", name := "sortLinks", desc := "()V" } : Jvm.MethodName)) ∈ tq_T := tq_in (List.mem_of_getElem? (i := 525) (by decide +kernel)) (by decide +kernel)
theorem tw_480 : (Jvm.Cond.instanceMethod ({ cls := "TableauNodes$Things", name := "sortLinks", desc := "()V" } : Jvm.MethodName)) ∈ tq_T := tq_in (List.mem_of_getElem? (i := 527) (by decide +kernel)) (by decide +kernel)
theorem tw_481 : (Jvm.Cond.code ({ cls := "TableauNodes$Things", name := "sortLinks", desc := "()V" } : Jvm.MethodName) prog_5_method_10_code (3 : Nat) (Option.none : Option Jvm.ClassFile.FieldType)) ∈ tq_T := tq_in (List.mem_of_getElem? (i := 528) (by decide +kernel)) (by decide +kernel)
theorem tw_483 : (Jvm.Cond.methodLink "TableauNodes$Things" (111 : Nat) ({ cls := "TableauNodes$GoodTypes", name := "watched", desc := "(I)I" } : Jvm.MethodName)) ∈ tq_T := tq_in (List.mem_of_getElem? (i := 530) (by decide +kernel)) (by decide +kernel)
theorem tw_484 : (Jvm.Cond.instanceMethod ({ cls := "TableauNodes$GoodTypes", name := "watched", desc := "(I)I" } : Jvm.MethodName)) ∈ tq_T := tq_in (List.mem_of_getElem? (i := 531) (by decide +kernel)) (by decide +kernel)
theorem tw_485 : (Jvm.Cond.selects "TableauNodes$GoodTypes" ({ cls := "TableauNodes$GoodTypes", name := "watched", desc := "(I)I" } : Jvm.MethodName) ({ cls := "TableauNodes$GoodTypes", name := "watched", desc := "(I)I" } : Jvm.MethodName)) ∈ tq_T := tq_in (List.mem_of_getElem? (i := 532) (by decide +kernel)) (by decide +kernel)
theorem tw_486 : (Jvm.Cond.code ({ cls := "TableauNodes$GoodTypes", name := "watched", desc := "(I)I" } : Jvm.MethodName) prog_3_method_13_code (2 : Nat) (Option.some Jvm.ClassFile.FieldType.int)) ∈ tq_T := tq_in (List.mem_of_getElem? (i := 533) (by decide +kernel)) (by decide +kernel)
theorem tw_487 : (Jvm.Cond.methodLink "TableauNodes$Things" (78 : Nat) ({ cls := "TableauNodes$Things", name := "begin", desc := "()V" } : Jvm.MethodName)) ∈ tq_T := tq_in (List.mem_of_getElem? (i := 534) (by decide +kernel)) (by decide +kernel)
theorem tw_489 : (Jvm.Cond.instanceMethod ({ cls := "TableauNodes$Things", name := "begin", desc := "()V" } : Jvm.MethodName)) ∈ tq_T := tq_in (List.mem_of_getElem? (i := 536) (by decide +kernel)) (by decide +kernel)
theorem tw_490 : (Jvm.Cond.code ({ cls := "TableauNodes$Things", name := "begin", desc := "()V" } : Jvm.MethodName) prog_5_method_11_code (6 : Nat) (Option.none : Option Jvm.ClassFile.FieldType)) ∈ tq_T := tq_in (List.mem_of_getElem? (i := 537) (by decide +kernel)) (by decide +kernel)
theorem tw_491 : (Jvm.Cond.methodLink "TableauNodes$Things" (114 : Nat) ({ cls := "TableauNodes$Concepts", name := "wordCount", desc := "()I" } : Jvm.MethodName)) ∈ tq_T := tq_in (List.mem_of_getElem? (i := 538) (by decide +kernel)) (by decide +kernel)
theorem tw_492 : (Jvm.Cond.methodLink "TableauNodes$Things" (117 : Nat) ({ cls := "java/lang/Math", name := "min", desc := "(II)I" } : Jvm.MethodName)) ∈ tq_T := tq_in (List.mem_of_getElem? (i := 539) (by decide +kernel)) (by decide +kernel)
theorem tw_493 : (Jvm.Cond.static ({ cls := "java/lang/Math", name := "min", desc := "(II)I" } : Jvm.MethodName)) ∈ tq_T := tq_in (List.mem_of_getElem? (i := 540) (by decide +kernel)) (by decide +kernel)
theorem tw_494 : (Jvm.Cond.code ({ cls := "java/lang/Math", name := "min", desc := "(II)I" } : Jvm.MethodName) prog_10_method_69_code (2 : Nat) (Option.some Jvm.ClassFile.FieldType.int)) ∈ tq_T := tq_in (List.mem_of_getElem? (i := 541) (by decide +kernel)) (by decide +kernel)
theorem tw_495 : (Jvm.Cond.methodLink "TableauNodes$Things" (123 : Nat) ({ cls := "TableauNodes$GoodTypes", name := "word", desc := "(I)J" } : Jvm.MethodName)) ∈ tq_T := tq_in (List.mem_of_getElem? (i := 542) (by decide +kernel)) (by decide +kernel)
theorem tw_496 : (Jvm.Cond.instanceMethod ({ cls := "TableauNodes$GoodTypes", name := "word", desc := "(I)J" } : Jvm.MethodName)) ∈ tq_T := tq_in (List.mem_of_getElem? (i := 543) (by decide +kernel)) (by decide +kernel)
theorem tw_497 : (Jvm.Cond.selects "TableauNodes$GoodTypes" ({ cls := "TableauNodes$GoodTypes", name := "word", desc := "(I)J" } : Jvm.MethodName) ({ cls := "TableauNodes$GoodTypes", name := "word", desc := "(I)J" } : Jvm.MethodName)) ∈ tq_T := tq_in (List.mem_of_getElem? (i := 544) (by decide +kernel)) (by decide +kernel)
theorem tw_498 : (Jvm.Cond.code ({ cls := "TableauNodes$GoodTypes", name := "word", desc := "(I)J" } : Jvm.MethodName) prog_3_method_12_code (2 : Nat) (Option.some Jvm.ClassFile.FieldType.long)) ∈ tq_T := tq_in (List.mem_of_getElem? (i := 545) (by decide +kernel)) (by decide +kernel)
theorem tw_499 : (Jvm.Cond.methodLink "TableauNodes$Things" (126 : Nat) ({ cls := "TableauNodes$Things", name := "seeingThemselves", desc := "(JII)J" } : Jvm.MethodName)) ∈ tq_T := tq_in (List.mem_of_getElem? (i := 546) (by decide +kernel)) (by decide +kernel)
theorem tw_501 : (Jvm.Cond.instanceMethod ({ cls := "TableauNodes$Things", name := "seeingThemselves", desc := "(JII)J" } : Jvm.MethodName)) ∈ tq_T := tq_in (List.mem_of_getElem? (i := 548) (by decide +kernel)) (by decide +kernel)
theorem tw_502 : (Jvm.Cond.code ({ cls := "TableauNodes$Things", name := "seeingThemselves", desc := "(JII)J" } : Jvm.MethodName) prog_5_method_12_code (8 : Nat) (Option.some Jvm.ClassFile.FieldType.long)) ∈ tq_T := tq_in (List.mem_of_getElem? (i := 549) (by decide +kernel)) (by decide +kernel)
theorem tw_503 : (Jvm.Cond.methodLink "TableauNodes$Things" (130 : Nat) ({ cls := "TableauNodes$Concepts", name := "atomWord", desc := "(II)J" } : Jvm.MethodName)) ∈ tq_T := tq_in (List.mem_of_getElem? (i := 550) (by decide +kernel)) (by decide +kernel)
theorem tw_504 : (Jvm.Cond.methodLink "TableauNodes$Things" (133 : Nat) ({ cls := "TableauNodes$Concepts", name := "innerWord", desc := "(II)J" } : Jvm.MethodName)) ∈ tq_T := tq_in (List.mem_of_getElem? (i := 551) (by decide +kernel)) (by decide +kernel)
theorem tw_505 : (Jvm.Cond.instanceMethod ({ cls := "TableauNodes$Concepts", name := "innerWord", desc := "(II)J" } : Jvm.MethodName)) ∈ tq_T := tq_in (List.mem_of_getElem? (i := 552) (by decide +kernel)) (by decide +kernel)
theorem tw_506 : (Jvm.Cond.selects "TableauNodes$Concepts" ({ cls := "TableauNodes$Concepts", name := "innerWord", desc := "(II)J" } : Jvm.MethodName) ({ cls := "TableauNodes$Concepts", name := "innerWord", desc := "(II)J" } : Jvm.MethodName)) ∈ tq_T := tq_in (List.mem_of_getElem? (i := 553) (by decide +kernel)) (by decide +kernel)
theorem tw_507 : (Jvm.Cond.code ({ cls := "TableauNodes$Concepts", name := "innerWord", desc := "(II)J" } : Jvm.MethodName) prog_2_method_14_code (4 : Nat) (Option.some Jvm.ClassFile.FieldType.long)) ∈ tq_T := tq_in (List.mem_of_getElem? (i := 554) (by decide +kernel)) (by decide +kernel)
theorem tw_508 : (Jvm.Cond.methodLink "TableauNodes$Things" (81 : Nat) ({ cls := "TableauNodes$Things", name := "canExtend", desc := "(II)Z" } : Jvm.MethodName)) ∈ tq_T := tq_in (List.mem_of_getElem? (i := 555) (by decide +kernel)) (by decide +kernel)
theorem tw_510 : (Jvm.Cond.instanceMethod ({ cls := "TableauNodes$Things", name := "canExtend", desc := "(II)Z" } : Jvm.MethodName)) ∈ tq_T := tq_in (List.mem_of_getElem? (i := 557) (by decide +kernel)) (by decide +kernel)
theorem tw_511 : (Jvm.Cond.code ({ cls := "TableauNodes$Things", name := "canExtend", desc := "(II)Z" } : Jvm.MethodName) prog_5_method_14_code (8 : Nat) (Option.some Jvm.ClassFile.FieldType.boolean)) ∈ tq_T := tq_in (List.mem_of_getElem? (i := 558) (by decide +kernel)) (by decide +kernel)
theorem tw_512 : (Jvm.Cond.methodLink "TableauNodes$Things" (142 : Nat) ({ cls := "java/lang/Integer", name := "bitCount", desc := "(I)I" } : Jvm.MethodName)) ∈ tq_T := tq_in (List.mem_of_getElem? (i := 559) (by decide +kernel)) (by decide +kernel)
theorem tw_513 : (Jvm.Cond.methodLink "TableauNodes$Things" (146 : Nat) ({ cls := "TableauNodes$Things", name := "mostBound", desc := "(II)I" } : Jvm.MethodName)) ∈ tq_T := tq_in (List.mem_of_getElem? (i := 560) (by decide +kernel)) (by decide +kernel)
theorem tw_515 : (Jvm.Cond.instanceMethod ({ cls := "TableauNodes$Things", name := "mostBound", desc := "(II)I" } : Jvm.MethodName)) ∈ tq_T := tq_in (List.mem_of_getElem? (i := 562) (by decide +kernel)) (by decide +kernel)
theorem tw_516 : (Jvm.Cond.code ({ cls := "TableauNodes$Things", name := "mostBound", desc := "(II)I" } : Jvm.MethodName) prog_5_method_15_code (7 : Nat) (Option.some Jvm.ClassFile.FieldType.int)) ∈ tq_T := tq_in (List.mem_of_getElem? (i := 563) (by decide +kernel)) (by decide +kernel)
theorem tw_517 : (Jvm.Cond.methodLink "TableauNodes$Things" (157 : Nat) ({ cls := "TableauNodes$Things", name := "countLeft", desc := "(II)I" } : Jvm.MethodName)) ∈ tq_T := tq_in (List.mem_of_getElem? (i := 564) (by decide +kernel)) (by decide +kernel)
theorem tw_519 : (Jvm.Cond.instanceMethod ({ cls := "TableauNodes$Things", name := "countLeft", desc := "(II)I" } : Jvm.MethodName)) ∈ tq_T := tq_in (List.mem_of_getElem? (i := 566) (by decide +kernel)) (by decide +kernel)
theorem tw_520 : (Jvm.Cond.code ({ cls := "TableauNodes$Things", name := "countLeft", desc := "(II)I" } : Jvm.MethodName) prog_5_method_13_code (6 : Nat) (Option.some Jvm.ClassFile.FieldType.int)) ∈ tq_T := tq_in (List.mem_of_getElem? (i := 567) (by decide +kernel)) (by decide +kernel)
theorem tw_521 : (Jvm.Cond.methodLink "TableauNodes$Things" (136 : Nat) ({ cls := "java/lang/Long", name := "bitCount", desc := "(J)I" } : Jvm.MethodName)) ∈ tq_T := tq_in (List.mem_of_getElem? (i := 568) (by decide +kernel)) (by decide +kernel)
theorem tw_522 : (Jvm.Cond.methodLink "TableauNodes$Things" (149 : Nat) ({ cls := "TableauNodes$Things", name := "findDemands", desc := "(III)I" } : Jvm.MethodName)) ∈ tq_T := tq_in (List.mem_of_getElem? (i := 569) (by decide +kernel)) (by decide +kernel)
theorem tw_524 : (Jvm.Cond.instanceMethod ({ cls := "TableauNodes$Things", name := "findDemands", desc := "(III)I" } : Jvm.MethodName)) ∈ tq_T := tq_in (List.mem_of_getElem? (i := 571) (by decide +kernel)) (by decide +kernel)
theorem tw_525 : (Jvm.Cond.code ({ cls := "TableauNodes$Things", name := "findDemands", desc := "(III)I" } : Jvm.MethodName) prog_5_method_16_code (14 : Nat) (Option.some Jvm.ClassFile.FieldType.int)) ∈ tq_T := tq_in (List.mem_of_getElem? (i := 572) (by decide +kernel)) (by decide +kernel)
theorem tw_527 : (Jvm.Cond.methodLink "TableauNodes$Things" (163 : Nat) ({ cls := "TableauNodes$Concepts", name := "inners", desc := "(I)I" } : Jvm.MethodName)) ∈ tq_T := tq_in (List.mem_of_getElem? (i := 574) (by decide +kernel)) (by decide +kernel)
theorem tw_528 : (Jvm.Cond.methodLink "TableauNodes$Things" (166 : Nat) ({ cls := "TableauNodes$Things", name := "addDemand", desc := "(III)I" } : Jvm.MethodName)) ∈ tq_T := tq_in (List.mem_of_getElem? (i := 575) (by decide +kernel)) (by decide +kernel)
theorem tw_530 : (Jvm.Cond.instanceMethod ({ cls := "TableauNodes$Things", name := "addDemand", desc := "(III)I" } : Jvm.MethodName)) ∈ tq_T := tq_in (List.mem_of_getElem? (i := 577) (by decide +kernel)) (by decide +kernel)
theorem tw_531 : (Jvm.Cond.code ({ cls := "TableauNodes$Things", name := "addDemand", desc := "(III)I" } : Jvm.MethodName) prog_5_method_17_code (6 : Nat) (Option.some Jvm.ClassFile.FieldType.int)) ∈ tq_T := tq_in (List.mem_of_getElem? (i := 578) (by decide +kernel)) (by decide +kernel)
theorem tw_532 : (Jvm.Cond.methodLink "TableauNodes$Things" (153 : Nat) ({ cls := "TableauNodes$Things", name := "passOn", desc := "(IIII)Z" } : Jvm.MethodName)) ∈ tq_T := tq_in (List.mem_of_getElem? (i := 579) (by decide +kernel)) (by decide +kernel)
theorem tw_534 : (Jvm.Cond.instanceMethod ({ cls := "TableauNodes$Things", name := "passOn", desc := "(IIII)Z" } : Jvm.MethodName)) ∈ tq_T := tq_in (List.mem_of_getElem? (i := 581) (by decide +kernel)) (by decide +kernel)
theorem tw_535 : (Jvm.Cond.code ({ cls := "TableauNodes$Things", name := "passOn", desc := "(IIII)Z" } : Jvm.MethodName) prog_5_method_18_code (15 : Nat) (Option.some Jvm.ClassFile.FieldType.boolean)) ∈ tq_T := tq_in (List.mem_of_getElem? (i := 582) (by decide +kernel)) (by decide +kernel)
theorem tw_536 : (Jvm.Cond.methodLink "TableauNodes$Things" (169 : Nat) ({ cls := "TableauNodes$Things", name := "fitting", desc := "(JIII)J" } : Jvm.MethodName)) ∈ tq_T := tq_in (List.mem_of_getElem? (i := 583) (by decide +kernel)) (by decide +kernel)
theorem tw_538 : (Jvm.Cond.instanceMethod ({ cls := "TableauNodes$Things", name := "fitting", desc := "(JIII)J" } : Jvm.MethodName)) ∈ tq_T := tq_in (List.mem_of_getElem? (i := 585) (by decide +kernel)) (by decide +kernel)
theorem tw_539 : (Jvm.Cond.code ({ cls := "TableauNodes$Things", name := "fitting", desc := "(JIII)J" } : Jvm.MethodName) prog_5_method_19_code (10 : Nat) (Option.some Jvm.ClassFile.FieldType.long)) ∈ tq_T := tq_in (List.mem_of_getElem? (i := 586) (by decide +kernel)) (by decide +kernel)
theorem tw_540 : (Jvm.Cond.methodLink "TableauNodes$Things" (87 : Nat) ({ cls := "TableauNodes$Things", name := "leaveFirst", desc := "(I)Z" } : Jvm.MethodName)) ∈ tq_T := tq_in (List.mem_of_getElem? (i := 587) (by decide +kernel)) (by decide +kernel)
theorem tw_542 : (Jvm.Cond.instanceMethod ({ cls := "TableauNodes$Things", name := "leaveFirst", desc := "(I)Z" } : Jvm.MethodName)) ∈ tq_T := tq_in (List.mem_of_getElem? (i := 589) (by decide +kernel)) (by decide +kernel)
theorem tw_543 : (Jvm.Cond.code ({ cls := "TableauNodes$Things", name := "leaveFirst", desc := "(I)Z" } : Jvm.MethodName) prog_5_method_20_code (6 : Nat) (Option.some Jvm.ClassFile.FieldType.boolean)) ∈ tq_T := tq_in (List.mem_of_getElem? (i := 590) (by decide +kernel)) (by decide +kernel)
theorem tw_544 : (Jvm.Cond.methodLink "TableauNodes$Things" (95 : Nat) ({ cls := "TableauNodes$Things", name := "firstLeft", desc := "(I)I" } : Jvm.MethodName)) ∈ tq_T := tq_in (List.mem_of_getElem? (i := 591) (by decide +kernel)) (by decide +kernel)
theorem tw_546 : (Jvm.Cond.instanceMethod ({ cls := "TableauNodes$Things", name := "firstLeft", desc := "(I)I" } : Jvm.MethodName)) ∈ tq_T := tq_in (List.mem_of_getElem? (i := 593) (by decide +kernel)) (by decide +kernel)
theorem tw_547 : (Jvm.Cond.code ({ cls := "TableauNodes$Things", name := "firstLeft", desc := "(I)I" } : Jvm.MethodName) prog_5_method_25_code (5 : Nat) (Option.some Jvm.ClassFile.FieldType.int)) ∈ tq_T := tq_in (List.mem_of_getElem? (i := 594) (by decide +kernel)) (by decide +kernel)
theorem tw_548 : (Jvm.Cond.methodLink "TableauNodes$Things" (173 : Nat) ({ cls := "TableauNodes$Things", name := "keepSpare", desc := "(I)V" } : Jvm.MethodName)) ∈ tq_T := tq_in (List.mem_of_getElem? (i := 595) (by decide +kernel)) (by decide +kernel)
theorem tw_550 : (Jvm.Cond.instanceMethod ({ cls := "TableauNodes$Things", name := "keepSpare", desc := "(I)V" } : Jvm.MethodName)) ∈ tq_T := tq_in (List.mem_of_getElem? (i := 597) (by decide +kernel)) (by decide +kernel)
theorem tw_551 : (Jvm.Cond.code ({ cls := "TableauNodes$Things", name := "keepSpare", desc := "(I)V" } : Jvm.MethodName) prog_5_method_23_code (2 : Nat) (Option.none : Option Jvm.ClassFile.FieldType)) ∈ tq_T := tq_in (List.mem_of_getElem? (i := 598) (by decide +kernel)) (by decide +kernel)
theorem tw_552 : (Jvm.Cond.methodLink "TableauNodes$Things" (186 : Nat) ({ cls := "java/lang/System", name := "arraycopy", desc := "(Ljava/lang/Object;ILjava/lang/Object;II)V" } : Jvm.MethodName)) ∈ tq_T := tq_in (List.mem_of_getElem? (i := 599) (by decide +kernel)) (by decide +kernel)
theorem tw_553 : (Jvm.Cond.static ({ cls := "java/lang/System", name := "arraycopy", desc := "(Ljava/lang/Object;ILjava/lang/Object;II)V" } : Jvm.MethodName)) ∈ tq_T := tq_in (List.mem_of_getElem? (i := 600) (by decide +kernel)) (by decide +kernel)
theorem tw_554 : (Jvm.Cond.native ({ cls := "java/lang/System", name := "arraycopy", desc := "(Ljava/lang/Object;ILjava/lang/Object;II)V" } : Jvm.MethodName)) ∈ tq_T := tq_in (List.mem_of_getElem? (i := 601) (by decide +kernel)) (by decide +kernel)
theorem tw_555 : (Jvm.Cond.methodLink "TableauNodes$Things" (176 : Nat) ({ cls := "TableauNodes$Things", name := "takeSpare", desc := "(I)V" } : Jvm.MethodName)) ∈ tq_T := tq_in (List.mem_of_getElem? (i := 602) (by decide +kernel)) (by decide +kernel)
theorem tw_557 : (Jvm.Cond.instanceMethod ({ cls := "TableauNodes$Things", name := "takeSpare", desc := "(I)V" } : Jvm.MethodName)) ∈ tq_T := tq_in (List.mem_of_getElem? (i := 604) (by decide +kernel)) (by decide +kernel)
theorem tw_558 : (Jvm.Cond.code ({ cls := "TableauNodes$Things", name := "takeSpare", desc := "(I)V" } : Jvm.MethodName) prog_5_method_24_code (2 : Nat) (Option.none : Option Jvm.ClassFile.FieldType)) ∈ tq_T := tq_in (List.mem_of_getElem? (i := 605) (by decide +kernel)) (by decide +kernel)
theorem tw_559 : (Jvm.Cond.methodLink "TableauNodes$Things" (91 : Nat) ({ cls := "TableauNodes$Things", name := "leaveLeast", desc := "(I)V" } : Jvm.MethodName)) ∈ tq_T := tq_in (List.mem_of_getElem? (i := 606) (by decide +kernel)) (by decide +kernel)
theorem tw_561 : (Jvm.Cond.instanceMethod ({ cls := "TableauNodes$Things", name := "leaveLeast", desc := "(I)V" } : Jvm.MethodName)) ∈ tq_T := tq_in (List.mem_of_getElem? (i := 608) (by decide +kernel)) (by decide +kernel)
theorem tw_562 : (Jvm.Cond.code ({ cls := "TableauNodes$Things", name := "leaveLeast", desc := "(I)V" } : Jvm.MethodName) prog_5_method_21_code (5 : Nat) (Option.none : Option Jvm.ClassFile.FieldType)) ∈ tq_T := tq_in (List.mem_of_getElem? (i := 609) (by decide +kernel)) (by decide +kernel)
theorem tw_563 : (Jvm.Cond.methodLink "TableauNodes$Things" (179 : Nat) ({ cls := "TableauNodes$Concepts", name := "atomCount", desc := "()I" } : Jvm.MethodName)) ∈ tq_T := tq_in (List.mem_of_getElem? (i := 610) (by decide +kernel)) (by decide +kernel)
theorem tw_564 : (Jvm.Cond.methodLink "TableauNodes$Things" (182 : Nat) ({ cls := "TableauNodes$Things", name := "leaveHalf", desc := "(IIZ)V" } : Jvm.MethodName)) ∈ tq_T := tq_in (List.mem_of_getElem? (i := 611) (by decide +kernel)) (by decide +kernel)
theorem tw_566 : (Jvm.Cond.instanceMethod ({ cls := "TableauNodes$Things", name := "leaveHalf", desc := "(IIZ)V" } : Jvm.MethodName)) ∈ tq_T := tq_in (List.mem_of_getElem? (i := 613) (by decide +kernel)) (by decide +kernel)
theorem tw_567 : (Jvm.Cond.code ({ cls := "TableauNodes$Things", name := "leaveHalf", desc := "(IIZ)V" } : Jvm.MethodName) prog_5_method_22_code (7 : Nat) (Option.none : Option Jvm.ClassFile.FieldType)) ∈ tq_T := tq_in (List.mem_of_getElem? (i := 614) (by decide +kernel)) (by decide +kernel)
theorem tw_568 : (Jvm.Cond.methodLink "TableauNodes" (111 : Nat) ({ cls := "TableauNodes$Things", name := "goTogether", desc := "()Z" } : Jvm.MethodName)) ∈ tq_T := tq_in (List.mem_of_getElem? (i := 615) (by decide +kernel)) (by decide +kernel)
theorem tw_569 : (Jvm.Cond.instanceMethod ({ cls := "TableauNodes$Things", name := "goTogether", desc := "()Z" } : Jvm.MethodName)) ∈ tq_T := tq_in (List.mem_of_getElem? (i := 616) (by decide +kernel)) (by decide +kernel)
theorem tw_570 : (Jvm.Cond.selects "TableauNodes$Things" ({ cls := "TableauNodes$Things", name := "goTogether", desc := "()Z" } : Jvm.MethodName) ({ cls := "TableauNodes$Things", name := "goTogether", desc := "()Z" } : Jvm.MethodName)) ∈ tq_T := tq_in (List.mem_of_getElem? (i := 617) (by decide +kernel)) (by decide +kernel)
theorem tw_571 : (Jvm.Cond.code ({ cls := "TableauNodes$Things", name := "goTogether", desc := "()Z" } : Jvm.MethodName) prog_5_method_6_code (1 : Nat) (Option.some Jvm.ClassFile.FieldType.boolean)) ∈ tq_T := tq_in (List.mem_of_getElem? (i := 618) (by decide +kernel)) (by decide +kernel)
theorem tw_572 : (Jvm.Cond.methodLink "TableauNodesLaw" (85 : Nat) ({ cls := "TableauNodes", name := "model", desc := "(I)I" } : Jvm.MethodName)) ∈ tq_T := tq_in (List.mem_of_getElem? (i := 619) (by decide +kernel)) (by decide +kernel)
theorem tw_573 : (Jvm.Cond.instanceMethod ({ cls := "TableauNodes", name := "model", desc := "(I)I" } : Jvm.MethodName)) ∈ tq_T := tq_in (List.mem_of_getElem? (i := 620) (by decide +kernel)) (by decide +kernel)
theorem tw_574 : (Jvm.Cond.selects "TableauNodes" ({ cls := "TableauNodes", name := "model", desc := "(I)I" } : Jvm.MethodName) ({ cls := "TableauNodes", name := "model", desc := "(I)I" } : Jvm.MethodName)) ∈ tq_T := tq_in (List.mem_of_getElem? (i := 621) (by decide +kernel)) (by decide +kernel)
theorem tw_575 : (Jvm.Cond.code ({ cls := "TableauNodes", name := "model", desc := "(I)I" } : Jvm.MethodName) prog_1_method_19_code (2 : Nat) (Option.some Jvm.ClassFile.FieldType.int)) ∈ tq_T := tq_in (List.mem_of_getElem? (i := 622) (by decide +kernel)) (by decide +kernel)
theorem tw_576 : (Jvm.Cond.methodLink "TableauNodes" (115 : Nat) ({ cls := "TableauNodes$Things", name := "typeOf", desc := "(I)I" } : Jvm.MethodName)) ∈ tq_T := tq_in (List.mem_of_getElem? (i := 623) (by decide +kernel)) (by decide +kernel)
theorem tw_577 : (Jvm.Cond.instanceMethod ({ cls := "TableauNodes$Things", name := "typeOf", desc := "(I)I" } : Jvm.MethodName)) ∈ tq_T := tq_in (List.mem_of_getElem? (i := 624) (by decide +kernel)) (by decide +kernel)
theorem tw_578 : (Jvm.Cond.selects "TableauNodes$Things" ({ cls := "TableauNodes$Things", name := "typeOf", desc := "(I)I" } : Jvm.MethodName) ({ cls := "TableauNodes$Things", name := "typeOf", desc := "(I)I" } : Jvm.MethodName)) ∈ tq_T := tq_in (List.mem_of_getElem? (i := 625) (by decide +kernel)) (by decide +kernel)
theorem tw_579 : (Jvm.Cond.code ({ cls := "TableauNodes$Things", name := "typeOf", desc := "(I)I" } : Jvm.MethodName) prog_5_method_7_code (2 : Nat) (Option.some Jvm.ClassFile.FieldType.int)) ∈ tq_T := tq_in (List.mem_of_getElem? (i := 626) (by decide +kernel)) (by decide +kernel)
theorem tw_580 : (Jvm.Cond.methodLink "TableauNodesLaw" (89 : Nat) ({ cls := "TableauNodes", name := "surely", desc := "(II)I" } : Jvm.MethodName)) ∈ tq_T := tq_in (List.mem_of_getElem? (i := 627) (by decide +kernel)) (by decide +kernel)
theorem tw_581 : (Jvm.Cond.instanceMethod ({ cls := "TableauNodes", name := "surely", desc := "(II)I" } : Jvm.MethodName)) ∈ tq_T := tq_in (List.mem_of_getElem? (i := 628) (by decide +kernel)) (by decide +kernel)
theorem tw_582 : (Jvm.Cond.selects "TableauNodes" ({ cls := "TableauNodes", name := "surely", desc := "(II)I" } : Jvm.MethodName) ({ cls := "TableauNodes", name := "surely", desc := "(II)I" } : Jvm.MethodName)) ∈ tq_T := tq_in (List.mem_of_getElem? (i := 629) (by decide +kernel)) (by decide +kernel)
theorem tw_583 : (Jvm.Cond.code ({ cls := "TableauNodes", name := "surely", desc := "(II)I" } : Jvm.MethodName) prog_1_method_20_code (3 : Nat) (Option.some Jvm.ClassFile.FieldType.int)) ∈ tq_T := tq_in (List.mem_of_getElem? (i := 630) (by decide +kernel)) (by decide +kernel)
theorem tw_584 : (Jvm.Cond.methodLink "TableauNodes" (118 : Nat) ({ cls := "TableauNodes$Things", name := "canLack", desc := "(II)Z" } : Jvm.MethodName)) ∈ tq_T := tq_in (List.mem_of_getElem? (i := 631) (by decide +kernel)) (by decide +kernel)
theorem tw_585 : (Jvm.Cond.instanceMethod ({ cls := "TableauNodes$Things", name := "canLack", desc := "(II)Z" } : Jvm.MethodName)) ∈ tq_T := tq_in (List.mem_of_getElem? (i := 632) (by decide +kernel)) (by decide +kernel)
theorem tw_586 : (Jvm.Cond.selects "TableauNodes$Things" ({ cls := "TableauNodes$Things", name := "canLack", desc := "(II)Z" } : Jvm.MethodName) ({ cls := "TableauNodes$Things", name := "canLack", desc := "(II)Z" } : Jvm.MethodName)) ∈ tq_T := tq_in (List.mem_of_getElem? (i := 633) (by decide +kernel)) (by decide +kernel)
theorem tw_587 : (Jvm.Cond.code ({ cls := "TableauNodes$Things", name := "canLack", desc := "(II)Z" } : Jvm.MethodName) prog_5_method_8_code (4 : Nat) (Option.some Jvm.ClassFile.FieldType.boolean)) ∈ tq_T := tq_in (List.mem_of_getElem? (i := 634) (by decide +kernel)) (by decide +kernel)
theorem tw_588 : (Jvm.Cond.methodLink "TableauNodes$Things" (99 : Nat) ({ cls := "TableauNodes$Concepts", name := "holds", desc := "(II)Z" } : Jvm.MethodName)) ∈ tq_T := tq_in (List.mem_of_getElem? (i := 635) (by decide +kernel)) (by decide +kernel)
theorem tw_589 : (Jvm.Cond.instanceMethod ({ cls := "TableauNodes$Concepts", name := "holds", desc := "(II)Z" } : Jvm.MethodName)) ∈ tq_T := tq_in (List.mem_of_getElem? (i := 636) (by decide +kernel)) (by decide +kernel)
theorem tw_590 : (Jvm.Cond.selects "TableauNodes$Concepts" ({ cls := "TableauNodes$Concepts", name := "holds", desc := "(II)Z" } : Jvm.MethodName) ({ cls := "TableauNodes$Concepts", name := "holds", desc := "(II)Z" } : Jvm.MethodName)) ∈ tq_T := tq_in (List.mem_of_getElem? (i := 637) (by decide +kernel)) (by decide +kernel)
theorem tw_591 : (Jvm.Cond.code ({ cls := "TableauNodes$Concepts", name := "holds", desc := "(II)Z" } : Jvm.MethodName) prog_2_method_12_code (3 : Nat) (Option.some Jvm.ClassFile.FieldType.boolean)) ∈ tq_T := tq_in (List.mem_of_getElem? (i := 638) (by decide +kernel)) (by decide +kernel)
theorem tw_592 : (Jvm.Cond.classLink "TableauNodesLaw" (10 : Nat) "TableauNodesModel") ∈ tq_T := tq_in (List.mem_of_getElem? (i := 639) (by decide +kernel)) (by decide +kernel)
theorem tw_593 : (Jvm.Cond.instantiable "TableauNodesModel" (25 : Nat)) ∈ tq_T := tq_in (List.mem_of_getElem? (i := 640) (by decide +kernel)) (by decide +kernel)
theorem tw_594 : (Jvm.Cond.methodLink "TableauNodesLaw" (12 : Nat) ({ cls := "TableauNodesModel", name := "<init>", desc := "()V" } : Jvm.MethodName)) ∈ tq_T := tq_in (List.mem_of_getElem? (i := 641) (by decide +kernel)) (by decide +kernel)
theorem tw_595 : (Jvm.Cond.instanceMethod ({ cls := "TableauNodesModel", name := "<init>", desc := "()V" } : Jvm.MethodName)) ∈ tq_T := tq_in (List.mem_of_getElem? (i := 642) (by decide +kernel)) (by decide +kernel)
theorem tw_596 : (Jvm.Cond.code ({ cls := "TableauNodesModel", name := "<init>", desc := "()V" } : Jvm.MethodName) prog_7_method_1_code (1 : Nat) (Option.none : Option Jvm.ClassFile.FieldType)) ∈ tq_T := tq_in (List.mem_of_getElem? (i := 643) (by decide +kernel)) (by decide +kernel)
theorem tw_597 : (Jvm.Cond.methodLink "TableauNodesModel" (1 : Nat) ({ cls := "java/lang/Object", name := "<init>", desc := "()V" } : Jvm.MethodName)) ∈ tq_T := tq_in (List.mem_of_getElem? (i := 644) (by decide +kernel)) (by decide +kernel)
theorem tw_598 : (Jvm.Cond.constant "TableauNodesModel" (47 : Nat) (81920 : Int32)) ∈ tq_T := tq_in (List.mem_of_getElem? (i := 645) (by decide +kernel)) (by decide +kernel)
theorem tw_599 : (Jvm.Cond.fieldLink "TableauNodesModel" (7 : Nat) "TableauNodesModel" "kinds" "[I") ∈ tq_T := tq_in (List.mem_of_getElem? (i := 646) (by decide +kernel)) (by decide +kernel)
theorem tw_600 : (Jvm.Cond.fieldLink "TableauNodesModel" (13 : Nat) "TableauNodesModel" "firsts" "[I") ∈ tq_T := tq_in (List.mem_of_getElem? (i := 647) (by decide +kernel)) (by decide +kernel)
theorem tw_601 : (Jvm.Cond.fieldLink "TableauNodesModel" (16 : Nat) "TableauNodesModel" "seconds" "[I") ∈ tq_T := tq_in (List.mem_of_getElem? (i := 648) (by decide +kernel)) (by decide +kernel)
theorem tw_602 : (Jvm.Cond.fieldLink "TableauNodesModel" (66 : Nat) "TableauNodesModel" "count" "I") ∈ tq_T := tq_in (List.mem_of_getElem? (i := 649) (by decide +kernel)) (by decide +kernel)
theorem tw_603 : (Jvm.Cond.fieldLink "TableauNodesModel" (19 : Nat) "TableauNodesModel" "atoms" "[I") ∈ tq_T := tq_in (List.mem_of_getElem? (i := 650) (by decide +kernel)) (by decide +kernel)
theorem tw_604 : (Jvm.Cond.fieldLink "TableauNodesModel" (74 : Nat) "TableauNodesModel" "atomCount" "I") ∈ tq_T := tq_in (List.mem_of_getElem? (i := 651) (by decide +kernel)) (by decide +kernel)
theorem tw_605 : (Jvm.Cond.fieldLink "TableauNodesModel" (22 : Nat) "TableauNodesModel" "lefts" "[I") ∈ tq_T := tq_in (List.mem_of_getElem? (i := 652) (by decide +kernel)) (by decide +kernel)
theorem tw_606 : (Jvm.Cond.fieldLink "TableauNodesModel" (25 : Nat) "TableauNodesModel" "rights" "[I") ∈ tq_T := tq_in (List.mem_of_getElem? (i := 653) (by decide +kernel)) (by decide +kernel)
theorem tw_607 : (Jvm.Cond.fieldLink "TableauNodesModel" (91 : Nat) "TableauNodesModel" "axioms" "I") ∈ tq_T := tq_in (List.mem_of_getElem? (i := 654) (by decide +kernel)) (by decide +kernel)
theorem tw_608 : (Jvm.Cond.fieldLink "TableauNodesModel" (28 : Nat) "TableauNodesModel" "roles" "[Z") ∈ tq_T := tq_in (List.mem_of_getElem? (i := 655) (by decide +kernel)) (by decide +kernel)
theorem tw_609 : (Jvm.Cond.fieldLink "TableauNodesModel" (32 : Nat) "TableauNodesModel" "beings" "[I") ∈ tq_T := tq_in (List.mem_of_getElem? (i := 656) (by decide +kernel)) (by decide +kernel)
theorem tw_610 : (Jvm.Cond.fieldLink "TableauNodesModel" (35 : Nat) "TableauNodesModel" "saidOf" "[I") ∈ tq_T := tq_in (List.mem_of_getElem? (i := 657) (by decide +kernel)) (by decide +kernel)
theorem tw_611 : (Jvm.Cond.fieldLink "TableauNodesModel" (129 : Nat) "TableauNodesModel" "beingCount" "I") ∈ tq_T := tq_in (List.mem_of_getElem? (i := 658) (by decide +kernel)) (by decide +kernel)
theorem tw_612 : (Jvm.Cond.fieldLink "TableauNodesModel" (38 : Nat) "TableauNodesModel" "froms" "[I") ∈ tq_T := tq_in (List.mem_of_getElem? (i := 659) (by decide +kernel)) (by decide +kernel)
theorem tw_613 : (Jvm.Cond.fieldLink "TableauNodesModel" (41 : Nat) "TableauNodesModel" "bys" "[I") ∈ tq_T := tq_in (List.mem_of_getElem? (i := 660) (by decide +kernel)) (by decide +kernel)
theorem tw_614 : (Jvm.Cond.fieldLink "TableauNodesModel" (44 : Nat) "TableauNodesModel" "tos" "[I") ∈ tq_T := tq_in (List.mem_of_getElem? (i := 661) (by decide +kernel)) (by decide +kernel)
theorem tw_615 : (Jvm.Cond.fieldLink "TableauNodesModel" (132 : Nat) "TableauNodesModel" "linkCount" "I") ∈ tq_T := tq_in (List.mem_of_getElem? (i := 662) (by decide +kernel)) (by decide +kernel)
theorem tw_616 : (Jvm.Cond.fieldLink "TableauNodesModel" (77 : Nat) "TableauNodesModel" "known" "Z") ∈ tq_T := tq_in (List.mem_of_getElem? (i := 663) (by decide +kernel)) (by decide +kernel)
theorem tw_617 : (Jvm.Cond.fieldLink "TableauNodesModel" (48 : Nat) "TableauNodesModel" "holds" "[Z") ∈ tq_T := tq_in (List.mem_of_getElem? (i := 664) (by decide +kernel)) (by decide +kernel)
theorem tw_618 : (Jvm.Cond.fieldLink "TableauNodesModel" (51 : Nat) "TableauNodesModel" "owns" "[I") ∈ tq_T := tq_in (List.mem_of_getElem? (i := 665) (by decide +kernel)) (by decide +kernel)
theorem tw_619 : (Jvm.Cond.fieldLink "TableauNodesModel" (54 : Nat) "TableauNodesModel" "gone" "[I") ∈ tq_T := tq_in (List.mem_of_getElem? (i := 666) (by decide +kernel)) (by decide +kernel)
theorem tw_620 : (Jvm.Cond.fieldLink "TableauNodesModel" (57 : Nat) "TableauNodesModel" "under" "[Z") ∈ tq_T := tq_in (List.mem_of_getElem? (i := 667) (by decide +kernel)) (by decide +kernel)
theorem tw_621 : (Jvm.Cond.fieldLink "TableauNodesModel" (109 : Nat) "TableauNodesModel" "rounds" "I") ∈ tq_T := tq_in (List.mem_of_getElem? (i := 668) (by decide +kernel)) (by decide +kernel)
theorem tw_622 : (Jvm.Cond.fieldLink "TableauNodesModel" (60 : Nat) "TableauNodesModel" "may" "[Z") ∈ tq_T := tq_in (List.mem_of_getElem? (i := 669) (by decide +kernel)) (by decide +kernel)
theorem tw_623 : (Jvm.Cond.fieldLink "TableauNodesModel" (63 : Nat) "TableauNodesModel" "chosen" "[I") ∈ tq_T := tq_in (List.mem_of_getElem? (i := 670) (by decide +kernel)) (by decide +kernel)
theorem tw_624 : (Jvm.Cond.laysFinal "TableauNodesModel" "TableauNodesModel" "kinds" "[I") ∈ tq_T := tq_in (List.mem_of_getElem? (i := 671) (by decide +kernel)) (by decide +kernel)
theorem tw_626 : (Jvm.Cond.laysFinal "TableauNodesModel" "TableauNodesModel" "firsts" "[I") ∈ tq_T := tq_in (List.mem_of_getElem? (i := 673) (by decide +kernel)) (by decide +kernel)
theorem tw_628 : (Jvm.Cond.laysFinal "TableauNodesModel" "TableauNodesModel" "seconds" "[I") ∈ tq_T := tq_in (List.mem_of_getElem? (i := 675) (by decide +kernel)) (by decide +kernel)
theorem tw_630 : (Jvm.Cond.lays "TableauNodesModel" "TableauNodesModel" "count" "I") ∈ tq_T := tq_in (List.mem_of_getElem? (i := 677) (by decide +kernel)) (by decide +kernel)
theorem tw_632 : (Jvm.Cond.laysFinal "TableauNodesModel" "TableauNodesModel" "atoms" "[I") ∈ tq_T := tq_in (List.mem_of_getElem? (i := 679) (by decide +kernel)) (by decide +kernel)
theorem tw_634 : (Jvm.Cond.lays "TableauNodesModel" "TableauNodesModel" "atomCount" "I") ∈ tq_T := tq_in (List.mem_of_getElem? (i := 681) (by decide +kernel)) (by decide +kernel)
theorem tw_636 : (Jvm.Cond.laysFinal "TableauNodesModel" "TableauNodesModel" "lefts" "[I") ∈ tq_T := tq_in (List.mem_of_getElem? (i := 683) (by decide +kernel)) (by decide +kernel)
theorem tw_638 : (Jvm.Cond.laysFinal "TableauNodesModel" "TableauNodesModel" "rights" "[I") ∈ tq_T := tq_in (List.mem_of_getElem? (i := 685) (by decide +kernel)) (by decide +kernel)
theorem tw_640 : (Jvm.Cond.lays "TableauNodesModel" "TableauNodesModel" "axioms" "I") ∈ tq_T := tq_in (List.mem_of_getElem? (i := 687) (by decide +kernel)) (by decide +kernel)
theorem tw_642 : (Jvm.Cond.laysFinal "TableauNodesModel" "TableauNodesModel" "roles" "[Z") ∈ tq_T := tq_in (List.mem_of_getElem? (i := 689) (by decide +kernel)) (by decide +kernel)
theorem tw_644 : (Jvm.Cond.laysFinal "TableauNodesModel" "TableauNodesModel" "beings" "[I") ∈ tq_T := tq_in (List.mem_of_getElem? (i := 691) (by decide +kernel)) (by decide +kernel)
theorem tw_646 : (Jvm.Cond.laysFinal "TableauNodesModel" "TableauNodesModel" "saidOf" "[I") ∈ tq_T := tq_in (List.mem_of_getElem? (i := 693) (by decide +kernel)) (by decide +kernel)
theorem tw_648 : (Jvm.Cond.lays "TableauNodesModel" "TableauNodesModel" "beingCount" "I") ∈ tq_T := tq_in (List.mem_of_getElem? (i := 695) (by decide +kernel)) (by decide +kernel)
theorem tw_650 : (Jvm.Cond.laysFinal "TableauNodesModel" "TableauNodesModel" "froms" "[I") ∈ tq_T := tq_in (List.mem_of_getElem? (i := 697) (by decide +kernel)) (by decide +kernel)
theorem tw_652 : (Jvm.Cond.laysFinal "TableauNodesModel" "TableauNodesModel" "bys" "[I") ∈ tq_T := tq_in (List.mem_of_getElem? (i := 699) (by decide +kernel)) (by decide +kernel)
theorem tw_654 : (Jvm.Cond.laysFinal "TableauNodesModel" "TableauNodesModel" "tos" "[I") ∈ tq_T := tq_in (List.mem_of_getElem? (i := 701) (by decide +kernel)) (by decide +kernel)
theorem tw_656 : (Jvm.Cond.lays "TableauNodesModel" "TableauNodesModel" "linkCount" "I") ∈ tq_T := tq_in (List.mem_of_getElem? (i := 703) (by decide +kernel)) (by decide +kernel)
theorem tw_658 : (Jvm.Cond.lays "TableauNodesModel" "TableauNodesModel" "known" "Z") ∈ tq_T := tq_in (List.mem_of_getElem? (i := 705) (by decide +kernel)) (by decide +kernel)
theorem tw_660 : (Jvm.Cond.laysFinal "TableauNodesModel" "TableauNodesModel" "holds" "[Z") ∈ tq_T := tq_in (List.mem_of_getElem? (i := 707) (by decide +kernel)) (by decide +kernel)
theorem tw_662 : (Jvm.Cond.laysFinal "TableauNodesModel" "TableauNodesModel" "owns" "[I") ∈ tq_T := tq_in (List.mem_of_getElem? (i := 709) (by decide +kernel)) (by decide +kernel)
theorem tw_664 : (Jvm.Cond.laysFinal "TableauNodesModel" "TableauNodesModel" "gone" "[I") ∈ tq_T := tq_in (List.mem_of_getElem? (i := 711) (by decide +kernel)) (by decide +kernel)
theorem tw_666 : (Jvm.Cond.laysFinal "TableauNodesModel" "TableauNodesModel" "under" "[Z") ∈ tq_T := tq_in (List.mem_of_getElem? (i := 713) (by decide +kernel)) (by decide +kernel)
theorem tw_668 : (Jvm.Cond.lays "TableauNodesModel" "TableauNodesModel" "rounds" "I") ∈ tq_T := tq_in (List.mem_of_getElem? (i := 715) (by decide +kernel)) (by decide +kernel)
theorem tw_670 : (Jvm.Cond.laysFinal "TableauNodesModel" "TableauNodesModel" "may" "[Z") ∈ tq_T := tq_in (List.mem_of_getElem? (i := 717) (by decide +kernel)) (by decide +kernel)
theorem tw_672 : (Jvm.Cond.laysFinal "TableauNodesModel" "TableauNodesModel" "chosen" "[I") ∈ tq_T := tq_in (List.mem_of_getElem? (i := 719) (by decide +kernel)) (by decide +kernel)
theorem tw_675 : (Jvm.Cond.arrayClass Jvm.ClassFile.FieldType.boolean) ∈ tq_T := tq_in (List.mem_of_getElem? (i := 722) (by decide +kernel)) (by decide +kernel)
theorem tw_676 : (Jvm.Cond.methodLink "TableauNodesLaw" (17 : Nat) ({ cls := "TableauNodesModel", name := "class0", desc := "(I)I" } : Jvm.MethodName)) ∈ tq_T := tq_in (List.mem_of_getElem? (i := 723) (by decide +kernel)) (by decide +kernel)
theorem tw_677 : (Jvm.Cond.instanceMethod ({ cls := "TableauNodesModel", name := "class0", desc := "(I)I" } : Jvm.MethodName)) ∈ tq_T := tq_in (List.mem_of_getElem? (i := 724) (by decide +kernel)) (by decide +kernel)
theorem tw_678 : (Jvm.Cond.selects "TableauNodesModel" ({ cls := "TableauNodesModel", name := "class0", desc := "(I)I" } : Jvm.MethodName) ({ cls := "TableauNodesModel", name := "class0", desc := "(I)I" } : Jvm.MethodName)) ∈ tq_T := tq_in (List.mem_of_getElem? (i := 725) (by decide +kernel)) (by decide +kernel)
theorem tw_679 : (Jvm.Cond.code ({ cls := "TableauNodesModel", name := "class0", desc := "(I)I" } : Jvm.MethodName) prog_7_method_7_code (2 : Nat) (Option.some Jvm.ClassFile.FieldType.int)) ∈ tq_T := tq_in (List.mem_of_getElem? (i := 726) (by decide +kernel)) (by decide +kernel)
theorem tw_680 : (Jvm.Cond.methodLink "TableauNodesModel" (81 : Nat) ({ cls := "TableauNodesModel", name := "make", desc := "(III)I" } : Jvm.MethodName)) ∈ tq_T := tq_in (List.mem_of_getElem? (i := 727) (by decide +kernel)) (by decide +kernel)
theorem tw_682 : (Jvm.Cond.instanceMethod ({ cls := "TableauNodesModel", name := "make", desc := "(III)I" } : Jvm.MethodName)) ∈ tq_T := tq_in (List.mem_of_getElem? (i := 729) (by decide +kernel)) (by decide +kernel)
theorem tw_683 : (Jvm.Cond.code ({ cls := "TableauNodesModel", name := "make", desc := "(III)I" } : Jvm.MethodName) prog_7_method_6_code (6 : Nat) (Option.some Jvm.ClassFile.FieldType.int)) ∈ tq_T := tq_in (List.mem_of_getElem? (i := 730) (by decide +kernel)) (by decide +kernel)
theorem tw_684 : (Jvm.Cond.methodLink "TableauNodesModel" (70 : Nat) ({ cls := "TableauNodesModel", name := "find", desc := "(III)I" } : Jvm.MethodName)) ∈ tq_T := tq_in (List.mem_of_getElem? (i := 731) (by decide +kernel)) (by decide +kernel)
theorem tw_686 : (Jvm.Cond.instanceMethod ({ cls := "TableauNodesModel", name := "find", desc := "(III)I" } : Jvm.MethodName)) ∈ tq_T := tq_in (List.mem_of_getElem? (i := 733) (by decide +kernel)) (by decide +kernel)
theorem tw_687 : (Jvm.Cond.code ({ cls := "TableauNodesModel", name := "find", desc := "(III)I" } : Jvm.MethodName) prog_7_method_5_code (5 : Nat) (Option.some Jvm.ClassFile.FieldType.int)) ∈ tq_T := tq_in (List.mem_of_getElem? (i := 734) (by decide +kernel)) (by decide +kernel)
theorem tw_688 : (Jvm.Cond.methodLink "TableauNodesLaw" (22 : Nat) ({ cls := "TableauNodesModel", name := "concept", desc := "(III)I" } : Jvm.MethodName)) ∈ tq_T := tq_in (List.mem_of_getElem? (i := 735) (by decide +kernel)) (by decide +kernel)
theorem tw_689 : (Jvm.Cond.instanceMethod ({ cls := "TableauNodesModel", name := "concept", desc := "(III)I" } : Jvm.MethodName)) ∈ tq_T := tq_in (List.mem_of_getElem? (i := 736) (by decide +kernel)) (by decide +kernel)
theorem tw_690 : (Jvm.Cond.selects "TableauNodesModel" ({ cls := "TableauNodesModel", name := "concept", desc := "(III)I" } : Jvm.MethodName) ({ cls := "TableauNodesModel", name := "concept", desc := "(III)I" } : Jvm.MethodName)) ∈ tq_T := tq_in (List.mem_of_getElem? (i := 737) (by decide +kernel)) (by decide +kernel)
theorem tw_691 : (Jvm.Cond.code ({ cls := "TableauNodesModel", name := "concept", desc := "(III)I" } : Jvm.MethodName) prog_7_method_8_code (5 : Nat) (Option.some Jvm.ClassFile.FieldType.int)) ∈ tq_T := tq_in (List.mem_of_getElem? (i := 738) (by decide +kernel)) (by decide +kernel)
theorem tw_692 : (Jvm.Cond.methodLink "TableauNodesModel" (84 : Nat) ({ cls := "TableauNodesModel", name := "isConcept", desc := "(I)Z" } : Jvm.MethodName)) ∈ tq_T := tq_in (List.mem_of_getElem? (i := 739) (by decide +kernel)) (by decide +kernel)
theorem tw_694 : (Jvm.Cond.instanceMethod ({ cls := "TableauNodesModel", name := "isConcept", desc := "(I)Z" } : Jvm.MethodName)) ∈ tq_T := tq_in (List.mem_of_getElem? (i := 741) (by decide +kernel)) (by decide +kernel)
theorem tw_695 : (Jvm.Cond.code ({ cls := "TableauNodesModel", name := "isConcept", desc := "(I)Z" } : Jvm.MethodName) prog_7_method_2_code (2 : Nat) (Option.some Jvm.ClassFile.FieldType.boolean)) ∈ tq_T := tq_in (List.mem_of_getElem? (i := 742) (by decide +kernel)) (by decide +kernel)
theorem tw_696 : (Jvm.Cond.methodLink "TableauNodesModel" (88 : Nat) ({ cls := "TableauNodesModel", name := "isRole", desc := "(I)Z" } : Jvm.MethodName)) ∈ tq_T := tq_in (List.mem_of_getElem? (i := 743) (by decide +kernel)) (by decide +kernel)
theorem tw_697 : (Jvm.Cond.static ({ cls := "TableauNodesModel", name := "isRole", desc := "(I)Z" } : Jvm.MethodName)) ∈ tq_T := tq_in (List.mem_of_getElem? (i := 744) (by decide +kernel)) (by decide +kernel)
theorem tw_698 : (Jvm.Cond.code ({ cls := "TableauNodesModel", name := "isRole", desc := "(I)Z" } : Jvm.MethodName) prog_7_method_3_code (1 : Nat) (Option.some Jvm.ClassFile.FieldType.boolean)) ∈ tq_T := tq_in (List.mem_of_getElem? (i := 745) (by decide +kernel)) (by decide +kernel)
theorem tw_699 : (Jvm.Cond.methodLink "TableauNodesLaw" (27 : Nat) ({ cls := "TableauNodesModel", name := "told", desc := "(II)I" } : Jvm.MethodName)) ∈ tq_T := tq_in (List.mem_of_getElem? (i := 746) (by decide +kernel)) (by decide +kernel)
theorem tw_700 : (Jvm.Cond.instanceMethod ({ cls := "TableauNodesModel", name := "told", desc := "(II)I" } : Jvm.MethodName)) ∈ tq_T := tq_in (List.mem_of_getElem? (i := 747) (by decide +kernel)) (by decide +kernel)
theorem tw_701 : (Jvm.Cond.selects "TableauNodesModel" ({ cls := "TableauNodesModel", name := "told", desc := "(II)I" } : Jvm.MethodName) ({ cls := "TableauNodesModel", name := "told", desc := "(II)I" } : Jvm.MethodName)) ∈ tq_T := tq_in (List.mem_of_getElem? (i := 748) (by decide +kernel)) (by decide +kernel)
theorem tw_702 : (Jvm.Cond.code ({ cls := "TableauNodesModel", name := "told", desc := "(II)I" } : Jvm.MethodName) prog_7_method_9_code (3 : Nat) (Option.some Jvm.ClassFile.FieldType.int)) ∈ tq_T := tq_in (List.mem_of_getElem? (i := 749) (by decide +kernel)) (by decide +kernel)
theorem tw_703 : (Jvm.Cond.methodLink "TableauNodesLaw" (32 : Nat) ({ cls := "TableauNodesModel", name := "concepts", desc := "()I" } : Jvm.MethodName)) ∈ tq_T := tq_in (List.mem_of_getElem? (i := 750) (by decide +kernel)) (by decide +kernel)
theorem tw_704 : (Jvm.Cond.instanceMethod ({ cls := "TableauNodesModel", name := "concepts", desc := "()I" } : Jvm.MethodName)) ∈ tq_T := tq_in (List.mem_of_getElem? (i := 751) (by decide +kernel)) (by decide +kernel)
theorem tw_705 : (Jvm.Cond.selects "TableauNodesModel" ({ cls := "TableauNodesModel", name := "concepts", desc := "()I" } : Jvm.MethodName) ({ cls := "TableauNodesModel", name := "concepts", desc := "()I" } : Jvm.MethodName)) ∈ tq_T := tq_in (List.mem_of_getElem? (i := 752) (by decide +kernel)) (by decide +kernel)
theorem tw_706 : (Jvm.Cond.code ({ cls := "TableauNodesModel", name := "concepts", desc := "()I" } : Jvm.MethodName) prog_7_method_10_code (1 : Nat) (Option.some Jvm.ClassFile.FieldType.int)) ∈ tq_T := tq_in (List.mem_of_getElem? (i := 753) (by decide +kernel)) (by decide +kernel)
theorem tw_707 : (Jvm.Cond.methodLink "TableauNodesLaw" (36 : Nat) ({ cls := "TableauNodesModel", name := "atoms", desc := "()I" } : Jvm.MethodName)) ∈ tq_T := tq_in (List.mem_of_getElem? (i := 754) (by decide +kernel)) (by decide +kernel)
theorem tw_708 : (Jvm.Cond.instanceMethod ({ cls := "TableauNodesModel", name := "atoms", desc := "()I" } : Jvm.MethodName)) ∈ tq_T := tq_in (List.mem_of_getElem? (i := 755) (by decide +kernel)) (by decide +kernel)
theorem tw_709 : (Jvm.Cond.selects "TableauNodesModel" ({ cls := "TableauNodesModel", name := "atoms", desc := "()I" } : Jvm.MethodName) ({ cls := "TableauNodesModel", name := "atoms", desc := "()I" } : Jvm.MethodName)) ∈ tq_T := tq_in (List.mem_of_getElem? (i := 756) (by decide +kernel)) (by decide +kernel)
theorem tw_710 : (Jvm.Cond.code ({ cls := "TableauNodesModel", name := "atoms", desc := "()I" } : Jvm.MethodName) prog_7_method_11_code (1 : Nat) (Option.some Jvm.ClassFile.FieldType.int)) ∈ tq_T := tq_in (List.mem_of_getElem? (i := 757) (by decide +kernel)) (by decide +kernel)
theorem tw_711 : (Jvm.Cond.methodLink "TableauNodesLaw" (40 : Nat) ({ cls := "TableauNodesModel", name := "axiom", desc := "(II)I" } : Jvm.MethodName)) ∈ tq_T := tq_in (List.mem_of_getElem? (i := 758) (by decide +kernel)) (by decide +kernel)
theorem tw_712 : (Jvm.Cond.instanceMethod ({ cls := "TableauNodesModel", name := "axiom", desc := "(II)I" } : Jvm.MethodName)) ∈ tq_T := tq_in (List.mem_of_getElem? (i := 759) (by decide +kernel)) (by decide +kernel)
theorem tw_713 : (Jvm.Cond.selects "TableauNodesModel" ({ cls := "TableauNodesModel", name := "axiom", desc := "(II)I" } : Jvm.MethodName) ({ cls := "TableauNodesModel", name := "axiom", desc := "(II)I" } : Jvm.MethodName)) ∈ tq_T := tq_in (List.mem_of_getElem? (i := 760) (by decide +kernel)) (by decide +kernel)
theorem tw_714 : (Jvm.Cond.code ({ cls := "TableauNodesModel", name := "axiom", desc := "(II)I" } : Jvm.MethodName) prog_7_method_12_code (3 : Nat) (Option.some Jvm.ClassFile.FieldType.int)) ∈ tq_T := tq_in (List.mem_of_getElem? (i := 761) (by decide +kernel)) (by decide +kernel)
theorem tw_715 : (Jvm.Cond.methodLink "TableauNodesLaw" (44 : Nat) ({ cls := "TableauNodesModel", name := "drop", desc := "()I" } : Jvm.MethodName)) ∈ tq_T := tq_in (List.mem_of_getElem? (i := 762) (by decide +kernel)) (by decide +kernel)
theorem tw_716 : (Jvm.Cond.instanceMethod ({ cls := "TableauNodesModel", name := "drop", desc := "()I" } : Jvm.MethodName)) ∈ tq_T := tq_in (List.mem_of_getElem? (i := 763) (by decide +kernel)) (by decide +kernel)
theorem tw_717 : (Jvm.Cond.selects "TableauNodesModel" ({ cls := "TableauNodesModel", name := "drop", desc := "()I" } : Jvm.MethodName) ({ cls := "TableauNodesModel", name := "drop", desc := "()I" } : Jvm.MethodName)) ∈ tq_T := tq_in (List.mem_of_getElem? (i := 764) (by decide +kernel)) (by decide +kernel)
theorem tw_718 : (Jvm.Cond.code ({ cls := "TableauNodesModel", name := "drop", desc := "()I" } : Jvm.MethodName) prog_7_method_13_code (1 : Nat) (Option.some Jvm.ClassFile.FieldType.int)) ∈ tq_T := tq_in (List.mem_of_getElem? (i := 765) (by decide +kernel)) (by decide +kernel)
theorem tw_719 : (Jvm.Cond.methodLink "TableauNodesLaw" (48 : Nat) ({ cls := "TableauNodesModel", name := "role", desc := "(II)I" } : Jvm.MethodName)) ∈ tq_T := tq_in (List.mem_of_getElem? (i := 766) (by decide +kernel)) (by decide +kernel)
theorem tw_720 : (Jvm.Cond.instanceMethod ({ cls := "TableauNodesModel", name := "role", desc := "(II)I" } : Jvm.MethodName)) ∈ tq_T := tq_in (List.mem_of_getElem? (i := 767) (by decide +kernel)) (by decide +kernel)
theorem tw_721 : (Jvm.Cond.selects "TableauNodesModel" ({ cls := "TableauNodesModel", name := "role", desc := "(II)I" } : Jvm.MethodName) ({ cls := "TableauNodesModel", name := "role", desc := "(II)I" } : Jvm.MethodName)) ∈ tq_T := tq_in (List.mem_of_getElem? (i := 768) (by decide +kernel)) (by decide +kernel)
theorem tw_722 : (Jvm.Cond.code ({ cls := "TableauNodesModel", name := "role", desc := "(II)I" } : Jvm.MethodName) prog_7_method_14_code (3 : Nat) (Option.some Jvm.ClassFile.FieldType.int)) ∈ tq_T := tq_in (List.mem_of_getElem? (i := 769) (by decide +kernel)) (by decide +kernel)
theorem tw_723 : (Jvm.Cond.methodLink "TableauNodesLaw" (52 : Nat) ({ cls := "TableauNodesModel", name := "can", desc := "(I)I" } : Jvm.MethodName)) ∈ tq_T := tq_in (List.mem_of_getElem? (i := 770) (by decide +kernel)) (by decide +kernel)
theorem tw_724 : (Jvm.Cond.instanceMethod ({ cls := "TableauNodesModel", name := "can", desc := "(I)I" } : Jvm.MethodName)) ∈ tq_T := tq_in (List.mem_of_getElem? (i := 771) (by decide +kernel)) (by decide +kernel)
theorem tw_725 : (Jvm.Cond.selects "TableauNodesModel" ({ cls := "TableauNodesModel", name := "can", desc := "(I)I" } : Jvm.MethodName) ({ cls := "TableauNodesModel", name := "can", desc := "(I)I" } : Jvm.MethodName)) ∈ tq_T := tq_in (List.mem_of_getElem? (i := 772) (by decide +kernel)) (by decide +kernel)
theorem tw_726 : (Jvm.Cond.code ({ cls := "TableauNodesModel", name := "can", desc := "(I)I" } : Jvm.MethodName) prog_7_method_24_code (3 : Nat) (Option.some Jvm.ClassFile.FieldType.int)) ∈ tq_T := tq_in (List.mem_of_getElem? (i := 773) (by decide +kernel)) (by decide +kernel)
theorem tw_727 : (Jvm.Cond.methodLink "TableauNodesModel" (123 : Nat) ({ cls := "TableauNodesModel", name := "work", desc := "()V" } : Jvm.MethodName)) ∈ tq_T := tq_in (List.mem_of_getElem? (i := 774) (by decide +kernel)) (by decide +kernel)
theorem tw_729 : (Jvm.Cond.instanceMethod ({ cls := "TableauNodesModel", name := "work", desc := "()V" } : Jvm.MethodName)) ∈ tq_T := tq_in (List.mem_of_getElem? (i := 776) (by decide +kernel)) (by decide +kernel)
theorem tw_730 : (Jvm.Cond.code ({ cls := "TableauNodesModel", name := "work", desc := "()V" } : Jvm.MethodName) prog_7_method_19_code (3 : Nat) (Option.none : Option Jvm.ClassFile.FieldType)) ∈ tq_T := tq_in (List.mem_of_getElem? (i := 777) (by decide +kernel)) (by decide +kernel)
theorem tw_731 : (Jvm.Cond.methodLink "TableauNodesModel" (102 : Nat) ({ cls := "TableauNodesModel", name := "size", desc := "()I" } : Jvm.MethodName)) ∈ tq_T := tq_in (List.mem_of_getElem? (i := 778) (by decide +kernel)) (by decide +kernel)
theorem tw_733 : (Jvm.Cond.instanceMethod ({ cls := "TableauNodesModel", name := "size", desc := "()I" } : Jvm.MethodName)) ∈ tq_T := tq_in (List.mem_of_getElem? (i := 780) (by decide +kernel)) (by decide +kernel)
theorem tw_734 : (Jvm.Cond.code ({ cls := "TableauNodesModel", name := "size", desc := "()I" } : Jvm.MethodName) prog_7_method_15_code (1 : Nat) (Option.some Jvm.ClassFile.FieldType.int)) ∈ tq_T := tq_in (List.mem_of_getElem? (i := 781) (by decide +kernel)) (by decide +kernel)
theorem tw_735 : (Jvm.Cond.methodLink "TableauNodesModel" (106 : Nat) ({ cls := "TableauNodesModel", name := "weigh", desc := "(II)Z" } : Jvm.MethodName)) ∈ tq_T := tq_in (List.mem_of_getElem? (i := 782) (by decide +kernel)) (by decide +kernel)
theorem tw_737 : (Jvm.Cond.instanceMethod ({ cls := "TableauNodesModel", name := "weigh", desc := "(II)Z" } : Jvm.MethodName)) ∈ tq_T := tq_in (List.mem_of_getElem? (i := 784) (by decide +kernel)) (by decide +kernel)
theorem tw_738 : (Jvm.Cond.code ({ cls := "TableauNodesModel", name := "weigh", desc := "(II)Z" } : Jvm.MethodName) prog_7_method_18_code (5 : Nat) (Option.some Jvm.ClassFile.FieldType.boolean)) ∈ tq_T := tq_in (List.mem_of_getElem? (i := 785) (by decide +kernel)) (by decide +kernel)
theorem tw_739 : (Jvm.Cond.methodLink "TableauNodesModel" (94 : Nat) ({ cls := "TableauNodesModel", name := "atomOf", desc := "(I)I" } : Jvm.MethodName)) ∈ tq_T := tq_in (List.mem_of_getElem? (i := 786) (by decide +kernel)) (by decide +kernel)
theorem tw_741 : (Jvm.Cond.instanceMethod ({ cls := "TableauNodesModel", name := "atomOf", desc := "(I)I" } : Jvm.MethodName)) ∈ tq_T := tq_in (List.mem_of_getElem? (i := 788) (by decide +kernel)) (by decide +kernel)
theorem tw_742 : (Jvm.Cond.code ({ cls := "TableauNodesModel", name := "atomOf", desc := "(I)I" } : Jvm.MethodName) prog_7_method_16_code (3 : Nat) (Option.some Jvm.ClassFile.FieldType.int)) ∈ tq_T := tq_in (List.mem_of_getElem? (i := 789) (by decide +kernel)) (by decide +kernel)
theorem tw_743 : (Jvm.Cond.methodLink "TableauNodesModel" (98 : Nat) ({ cls := "TableauNodesModel", name := "isHeld", desc := "(II)Z" } : Jvm.MethodName)) ∈ tq_T := tq_in (List.mem_of_getElem? (i := 790) (by decide +kernel)) (by decide +kernel)
theorem tw_745 : (Jvm.Cond.instanceMethod ({ cls := "TableauNodesModel", name := "isHeld", desc := "(II)Z" } : Jvm.MethodName)) ∈ tq_T := tq_in (List.mem_of_getElem? (i := 792) (by decide +kernel)) (by decide +kernel)
theorem tw_746 : (Jvm.Cond.code ({ cls := "TableauNodesModel", name := "isHeld", desc := "(II)Z" } : Jvm.MethodName) prog_7_method_17_code (3 : Nat) (Option.some Jvm.ClassFile.FieldType.boolean)) ∈ tq_T := tq_in (List.mem_of_getElem? (i := 793) (by decide +kernel)) (by decide +kernel)
theorem tw_747 : (Jvm.Cond.methodLink "TableauNodesModel" (112 : Nat) ({ cls := "TableauNodesModel", name := "turn", desc := "(I)Z" } : Jvm.MethodName)) ∈ tq_T := tq_in (List.mem_of_getElem? (i := 794) (by decide +kernel)) (by decide +kernel)
theorem tw_749 : (Jvm.Cond.instanceMethod ({ cls := "TableauNodesModel", name := "turn", desc := "(I)Z" } : Jvm.MethodName)) ∈ tq_T := tq_in (List.mem_of_getElem? (i := 796) (by decide +kernel)) (by decide +kernel)
theorem tw_750 : (Jvm.Cond.code ({ cls := "TableauNodesModel", name := "turn", desc := "(I)Z" } : Jvm.MethodName) prog_7_method_22_code (6 : Nat) (Option.some Jvm.ClassFile.FieldType.boolean)) ∈ tq_T := tq_in (List.mem_of_getElem? (i := 797) (by decide +kernel)) (by decide +kernel)
theorem tw_751 : (Jvm.Cond.methodLink "TableauNodesModel" (115 : Nat) ({ cls := "TableauNodesModel", name := "forbids", desc := "(II)I" } : Jvm.MethodName)) ∈ tq_T := tq_in (List.mem_of_getElem? (i := 798) (by decide +kernel)) (by decide +kernel)
theorem tw_753 : (Jvm.Cond.instanceMethod ({ cls := "TableauNodesModel", name := "forbids", desc := "(II)I" } : Jvm.MethodName)) ∈ tq_T := tq_in (List.mem_of_getElem? (i := 800) (by decide +kernel)) (by decide +kernel)
theorem tw_754 : (Jvm.Cond.code ({ cls := "TableauNodesModel", name := "forbids", desc := "(II)I" } : Jvm.MethodName) prog_7_method_20_code (6 : Nat) (Option.some Jvm.ClassFile.FieldType.int)) ∈ tq_T := tq_in (List.mem_of_getElem? (i := 801) (by decide +kernel)) (by decide +kernel)
theorem tw_755 : (Jvm.Cond.methodLink "TableauNodesModel" (119 : Nat) ({ cls := "TableauNodesModel", name := "isThere", desc := "(III)Z" } : Jvm.MethodName)) ∈ tq_T := tq_in (List.mem_of_getElem? (i := 802) (by decide +kernel)) (by decide +kernel)
theorem tw_757 : (Jvm.Cond.instanceMethod ({ cls := "TableauNodesModel", name := "isThere", desc := "(III)Z" } : Jvm.MethodName)) ∈ tq_T := tq_in (List.mem_of_getElem? (i := 804) (by decide +kernel)) (by decide +kernel)
theorem tw_758 : (Jvm.Cond.code ({ cls := "TableauNodesModel", name := "isThere", desc := "(III)Z" } : Jvm.MethodName) prog_7_method_23_code (6 : Nat) (Option.some Jvm.ClassFile.FieldType.boolean)) ∈ tq_T := tq_in (List.mem_of_getElem? (i := 805) (by decide +kernel)) (by decide +kernel)
theorem tw_759 : (Jvm.Cond.methodLink "TableauNodesLaw" (56 : Nat) ({ cls := "TableauNodesModel", name := "below", desc := "(II)I" } : Jvm.MethodName)) ∈ tq_T := tq_in (List.mem_of_getElem? (i := 806) (by decide +kernel)) (by decide +kernel)
theorem tw_760 : (Jvm.Cond.instanceMethod ({ cls := "TableauNodesModel", name := "below", desc := "(II)I" } : Jvm.MethodName)) ∈ tq_T := tq_in (List.mem_of_getElem? (i := 807) (by decide +kernel)) (by decide +kernel)
theorem tw_761 : (Jvm.Cond.selects "TableauNodesModel" ({ cls := "TableauNodesModel", name := "below", desc := "(II)I" } : Jvm.MethodName) ({ cls := "TableauNodesModel", name := "below", desc := "(II)I" } : Jvm.MethodName)) ∈ tq_T := tq_in (List.mem_of_getElem? (i := 808) (by decide +kernel)) (by decide +kernel)
theorem tw_762 : (Jvm.Cond.code ({ cls := "TableauNodesModel", name := "below", desc := "(II)I" } : Jvm.MethodName) prog_7_method_25_code (4 : Nat) (Option.some Jvm.ClassFile.FieldType.int)) ∈ tq_T := tq_in (List.mem_of_getElem? (i := 809) (by decide +kernel)) (by decide +kernel)
theorem tw_763 : (Jvm.Cond.methodLink "TableauNodesLaw" (60 : Nat) ({ cls := "TableauNodesModel", name := "types", desc := "()I" } : Jvm.MethodName)) ∈ tq_T := tq_in (List.mem_of_getElem? (i := 810) (by decide +kernel)) (by decide +kernel)
theorem tw_764 : (Jvm.Cond.instanceMethod ({ cls := "TableauNodesModel", name := "types", desc := "()I" } : Jvm.MethodName)) ∈ tq_T := tq_in (List.mem_of_getElem? (i := 811) (by decide +kernel)) (by decide +kernel)
theorem tw_765 : (Jvm.Cond.selects "TableauNodesModel" ({ cls := "TableauNodesModel", name := "types", desc := "()I" } : Jvm.MethodName) ({ cls := "TableauNodesModel", name := "types", desc := "()I" } : Jvm.MethodName)) ∈ tq_T := tq_in (List.mem_of_getElem? (i := 812) (by decide +kernel)) (by decide +kernel)
theorem tw_766 : (Jvm.Cond.code ({ cls := "TableauNodesModel", name := "types", desc := "()I" } : Jvm.MethodName) prog_7_method_26_code (3 : Nat) (Option.some Jvm.ClassFile.FieldType.int)) ∈ tq_T := tq_in (List.mem_of_getElem? (i := 813) (by decide +kernel)) (by decide +kernel)
theorem tw_767 : (Jvm.Cond.methodLink "TableauNodesLaw" (64 : Nat) ({ cls := "TableauNodesModel", name := "rounds", desc := "()I" } : Jvm.MethodName)) ∈ tq_T := tq_in (List.mem_of_getElem? (i := 814) (by decide +kernel)) (by decide +kernel)
theorem tw_768 : (Jvm.Cond.instanceMethod ({ cls := "TableauNodesModel", name := "rounds", desc := "()I" } : Jvm.MethodName)) ∈ tq_T := tq_in (List.mem_of_getElem? (i := 815) (by decide +kernel)) (by decide +kernel)
theorem tw_769 : (Jvm.Cond.selects "TableauNodesModel" ({ cls := "TableauNodesModel", name := "rounds", desc := "()I" } : Jvm.MethodName) ({ cls := "TableauNodesModel", name := "rounds", desc := "()I" } : Jvm.MethodName)) ∈ tq_T := tq_in (List.mem_of_getElem? (i := 816) (by decide +kernel)) (by decide +kernel)
theorem tw_770 : (Jvm.Cond.code ({ cls := "TableauNodesModel", name := "rounds", desc := "()I" } : Jvm.MethodName) prog_7_method_27_code (1 : Nat) (Option.some Jvm.ClassFile.FieldType.int)) ∈ tq_T := tq_in (List.mem_of_getElem? (i := 817) (by decide +kernel)) (by decide +kernel)
theorem tw_771 : (Jvm.Cond.methodLink "TableauNodesLaw" (68 : Nat) ({ cls := "TableauNodesModel", name := "depth", desc := "(I)I" } : Jvm.MethodName)) ∈ tq_T := tq_in (List.mem_of_getElem? (i := 818) (by decide +kernel)) (by decide +kernel)
theorem tw_772 : (Jvm.Cond.instanceMethod ({ cls := "TableauNodesModel", name := "depth", desc := "(I)I" } : Jvm.MethodName)) ∈ tq_T := tq_in (List.mem_of_getElem? (i := 819) (by decide +kernel)) (by decide +kernel)
theorem tw_773 : (Jvm.Cond.selects "TableauNodesModel" ({ cls := "TableauNodesModel", name := "depth", desc := "(I)I" } : Jvm.MethodName) ({ cls := "TableauNodesModel", name := "depth", desc := "(I)I" } : Jvm.MethodName)) ∈ tq_T := tq_in (List.mem_of_getElem? (i := 820) (by decide +kernel)) (by decide +kernel)
theorem tw_774 : (Jvm.Cond.code ({ cls := "TableauNodesModel", name := "depth", desc := "(I)I" } : Jvm.MethodName) prog_7_method_28_code (2 : Nat) (Option.some Jvm.ClassFile.FieldType.int)) ∈ tq_T := tq_in (List.mem_of_getElem? (i := 821) (by decide +kernel)) (by decide +kernel)
theorem tw_775 : (Jvm.Cond.methodLink "TableauNodesLaw" (72 : Nat) ({ cls := "TableauNodesModel", name := "individual", desc := "(II)I" } : Jvm.MethodName)) ∈ tq_T := tq_in (List.mem_of_getElem? (i := 822) (by decide +kernel)) (by decide +kernel)
theorem tw_776 : (Jvm.Cond.instanceMethod ({ cls := "TableauNodesModel", name := "individual", desc := "(II)I" } : Jvm.MethodName)) ∈ tq_T := tq_in (List.mem_of_getElem? (i := 823) (by decide +kernel)) (by decide +kernel)
theorem tw_777 : (Jvm.Cond.selects "TableauNodesModel" ({ cls := "TableauNodesModel", name := "individual", desc := "(II)I" } : Jvm.MethodName) ({ cls := "TableauNodesModel", name := "individual", desc := "(II)I" } : Jvm.MethodName)) ∈ tq_T := tq_in (List.mem_of_getElem? (i := 824) (by decide +kernel)) (by decide +kernel)
theorem tw_778 : (Jvm.Cond.code ({ cls := "TableauNodesModel", name := "individual", desc := "(II)I" } : Jvm.MethodName) prog_7_method_29_code (3 : Nat) (Option.some Jvm.ClassFile.FieldType.int)) ∈ tq_T := tq_in (List.mem_of_getElem? (i := 825) (by decide +kernel)) (by decide +kernel)
theorem tw_779 : (Jvm.Cond.methodLink "TableauNodesModel" (126 : Nat) ({ cls := "TableauNodesModel", name := "isThing", desc := "(I)Z" } : Jvm.MethodName)) ∈ tq_T := tq_in (List.mem_of_getElem? (i := 826) (by decide +kernel)) (by decide +kernel)
theorem tw_780 : (Jvm.Cond.static ({ cls := "TableauNodesModel", name := "isThing", desc := "(I)Z" } : Jvm.MethodName)) ∈ tq_T := tq_in (List.mem_of_getElem? (i := 827) (by decide +kernel)) (by decide +kernel)
theorem tw_781 : (Jvm.Cond.code ({ cls := "TableauNodesModel", name := "isThing", desc := "(I)Z" } : Jvm.MethodName) prog_7_method_4_code (1 : Nat) (Option.some Jvm.ClassFile.FieldType.boolean)) ∈ tq_T := tq_in (List.mem_of_getElem? (i := 828) (by decide +kernel)) (by decide +kernel)
theorem tw_782 : (Jvm.Cond.methodLink "TableauNodesLaw" (76 : Nat) ({ cls := "TableauNodesModel", name := "has", desc := "(III)I" } : Jvm.MethodName)) ∈ tq_T := tq_in (List.mem_of_getElem? (i := 829) (by decide +kernel)) (by decide +kernel)
theorem tw_783 : (Jvm.Cond.instanceMethod ({ cls := "TableauNodesModel", name := "has", desc := "(III)I" } : Jvm.MethodName)) ∈ tq_T := tq_in (List.mem_of_getElem? (i := 830) (by decide +kernel)) (by decide +kernel)
theorem tw_784 : (Jvm.Cond.selects "TableauNodesModel" ({ cls := "TableauNodesModel", name := "has", desc := "(III)I" } : Jvm.MethodName) ({ cls := "TableauNodesModel", name := "has", desc := "(III)I" } : Jvm.MethodName)) ∈ tq_T := tq_in (List.mem_of_getElem? (i := 831) (by decide +kernel)) (by decide +kernel)
theorem tw_785 : (Jvm.Cond.code ({ cls := "TableauNodesModel", name := "has", desc := "(III)I" } : Jvm.MethodName) prog_7_method_30_code (4 : Nat) (Option.some Jvm.ClassFile.FieldType.int)) ∈ tq_T := tq_in (List.mem_of_getElem? (i := 832) (by decide +kernel)) (by decide +kernel)
theorem tw_786 : (Jvm.Cond.methodLink "TableauNodesLaw" (80 : Nat) ({ cls := "TableauNodesModel", name := "forget", desc := "()I" } : Jvm.MethodName)) ∈ tq_T := tq_in (List.mem_of_getElem? (i := 833) (by decide +kernel)) (by decide +kernel)
theorem tw_787 : (Jvm.Cond.instanceMethod ({ cls := "TableauNodesModel", name := "forget", desc := "()I" } : Jvm.MethodName)) ∈ tq_T := tq_in (List.mem_of_getElem? (i := 834) (by decide +kernel)) (by decide +kernel)
theorem tw_788 : (Jvm.Cond.selects "TableauNodesModel" ({ cls := "TableauNodesModel", name := "forget", desc := "()I" } : Jvm.MethodName) ({ cls := "TableauNodesModel", name := "forget", desc := "()I" } : Jvm.MethodName)) ∈ tq_T := tq_in (List.mem_of_getElem? (i := 835) (by decide +kernel)) (by decide +kernel)
theorem tw_789 : (Jvm.Cond.code ({ cls := "TableauNodesModel", name := "forget", desc := "()I" } : Jvm.MethodName) prog_7_method_31_code (2 : Nat) (Option.some Jvm.ClassFile.FieldType.int)) ∈ tq_T := tq_in (List.mem_of_getElem? (i := 836) (by decide +kernel)) (by decide +kernel)
theorem tw_790 : (Jvm.Cond.methodLink "TableauNodesLaw" (84 : Nat) ({ cls := "TableauNodesModel", name := "run", desc := "()I" } : Jvm.MethodName)) ∈ tq_T := tq_in (List.mem_of_getElem? (i := 837) (by decide +kernel)) (by decide +kernel)
theorem tw_791 : (Jvm.Cond.instanceMethod ({ cls := "TableauNodesModel", name := "run", desc := "()I" } : Jvm.MethodName)) ∈ tq_T := tq_in (List.mem_of_getElem? (i := 838) (by decide +kernel)) (by decide +kernel)
theorem tw_792 : (Jvm.Cond.selects "TableauNodesModel" ({ cls := "TableauNodesModel", name := "run", desc := "()I" } : Jvm.MethodName) ({ cls := "TableauNodesModel", name := "run", desc := "()I" } : Jvm.MethodName)) ∈ tq_T := tq_in (List.mem_of_getElem? (i := 839) (by decide +kernel)) (by decide +kernel)
theorem tw_793 : (Jvm.Cond.code ({ cls := "TableauNodesModel", name := "run", desc := "()I" } : Jvm.MethodName) prog_7_method_36_code (1 : Nat) (Option.some Jvm.ClassFile.FieldType.int)) ∈ tq_T := tq_in (List.mem_of_getElem? (i := 840) (by decide +kernel)) (by decide +kernel)
theorem tw_794 : (Jvm.Cond.methodLink "TableauNodesModel" (147 : Nat) ({ cls := "TableauNodesModel", name := "search", desc := "(II)Z" } : Jvm.MethodName)) ∈ tq_T := tq_in (List.mem_of_getElem? (i := 841) (by decide +kernel)) (by decide +kernel)
theorem tw_796 : (Jvm.Cond.instanceMethod ({ cls := "TableauNodesModel", name := "search", desc := "(II)Z" } : Jvm.MethodName)) ∈ tq_T := tq_in (List.mem_of_getElem? (i := 843) (by decide +kernel)) (by decide +kernel)
theorem tw_797 : (Jvm.Cond.code ({ cls := "TableauNodesModel", name := "search", desc := "(II)Z" } : Jvm.MethodName) prog_7_method_33_code (5 : Nat) (Option.some Jvm.ClassFile.FieldType.boolean)) ∈ tq_T := tq_in (List.mem_of_getElem? (i := 844) (by decide +kernel)) (by decide +kernel)
theorem tw_798 : (Jvm.Cond.methodLink "TableauNodesModel" (135 : Nat) ({ cls := "TableauNodesModel", name := "at", desc := "(III)I" } : Jvm.MethodName)) ∈ tq_T := tq_in (List.mem_of_getElem? (i := 845) (by decide +kernel)) (by decide +kernel)
theorem tw_799 : (Jvm.Cond.static ({ cls := "TableauNodesModel", name := "at", desc := "(III)I" } : Jvm.MethodName)) ∈ tq_T := tq_in (List.mem_of_getElem? (i := 846) (by decide +kernel)) (by decide +kernel)
theorem tw_800 : (Jvm.Cond.code ({ cls := "TableauNodesModel", name := "at", desc := "(III)I" } : Jvm.MethodName) prog_7_method_32_code (3 : Nat) (Option.some Jvm.ClassFile.FieldType.int)) ∈ tq_T := tq_in (List.mem_of_getElem? (i := 847) (by decide +kernel)) (by decide +kernel)
theorem tw_801 : (Jvm.Cond.methodLink "TableauNodesModel" (138 : Nat) ({ cls := "TableauNodesModel", name := "isSaid", desc := "(II)Z" } : Jvm.MethodName)) ∈ tq_T := tq_in (List.mem_of_getElem? (i := 848) (by decide +kernel)) (by decide +kernel)
theorem tw_803 : (Jvm.Cond.instanceMethod ({ cls := "TableauNodesModel", name := "isSaid", desc := "(II)Z" } : Jvm.MethodName)) ∈ tq_T := tq_in (List.mem_of_getElem? (i := 850) (by decide +kernel)) (by decide +kernel)
theorem tw_804 : (Jvm.Cond.code ({ cls := "TableauNodesModel", name := "isSaid", desc := "(II)Z" } : Jvm.MethodName) prog_7_method_34_code (5 : Nat) (Option.some Jvm.ClassFile.FieldType.boolean)) ∈ tq_T := tq_in (List.mem_of_getElem? (i := 851) (by decide +kernel)) (by decide +kernel)
theorem tw_805 : (Jvm.Cond.methodLink "TableauNodesModel" (144 : Nat) ({ cls := "TableauNodesModel", name := "sees", desc := "(III)Z" } : Jvm.MethodName)) ∈ tq_T := tq_in (List.mem_of_getElem? (i := 852) (by decide +kernel)) (by decide +kernel)
theorem tw_807 : (Jvm.Cond.instanceMethod ({ cls := "TableauNodesModel", name := "sees", desc := "(III)Z" } : Jvm.MethodName)) ∈ tq_T := tq_in (List.mem_of_getElem? (i := 854) (by decide +kernel)) (by decide +kernel)
theorem tw_808 : (Jvm.Cond.code ({ cls := "TableauNodesModel", name := "sees", desc := "(III)Z" } : Jvm.MethodName) prog_7_method_21_code (4 : Nat) (Option.some Jvm.ClassFile.FieldType.boolean)) ∈ tq_T := tq_in (List.mem_of_getElem? (i := 855) (by decide +kernel)) (by decide +kernel)
theorem tw_809 : (Jvm.Cond.methodLink "TableauNodesModel" (141 : Nat) ({ cls := "TableauNodesModel", name := "isLeft", desc := "(II)Z" } : Jvm.MethodName)) ∈ tq_T := tq_in (List.mem_of_getElem? (i := 856) (by decide +kernel)) (by decide +kernel)
theorem tw_811 : (Jvm.Cond.instanceMethod ({ cls := "TableauNodesModel", name := "isLeft", desc := "(II)Z" } : Jvm.MethodName)) ∈ tq_T := tq_in (List.mem_of_getElem? (i := 858) (by decide +kernel)) (by decide +kernel)
theorem tw_812 : (Jvm.Cond.code ({ cls := "TableauNodesModel", name := "isLeft", desc := "(II)Z" } : Jvm.MethodName) prog_7_method_35_code (9 : Nat) (Option.some Jvm.ClassFile.FieldType.boolean)) ∈ tq_T := tq_in (List.mem_of_getElem? (i := 859) (by decide +kernel)) (by decide +kernel)
theorem tw_813 : (Jvm.Cond.methodLink "TableauNodesLaw" (88 : Nat) ({ cls := "TableauNodesModel", name := "model", desc := "(I)I" } : Jvm.MethodName)) ∈ tq_T := tq_in (List.mem_of_getElem? (i := 860) (by decide +kernel)) (by decide +kernel)
theorem tw_814 : (Jvm.Cond.instanceMethod ({ cls := "TableauNodesModel", name := "model", desc := "(I)I" } : Jvm.MethodName)) ∈ tq_T := tq_in (List.mem_of_getElem? (i := 861) (by decide +kernel)) (by decide +kernel)
theorem tw_815 : (Jvm.Cond.selects "TableauNodesModel" ({ cls := "TableauNodesModel", name := "model", desc := "(I)I" } : Jvm.MethodName) ({ cls := "TableauNodesModel", name := "model", desc := "(I)I" } : Jvm.MethodName)) ∈ tq_T := tq_in (List.mem_of_getElem? (i := 862) (by decide +kernel)) (by decide +kernel)
theorem tw_816 : (Jvm.Cond.code ({ cls := "TableauNodesModel", name := "model", desc := "(I)I" } : Jvm.MethodName) prog_7_method_37_code (2 : Nat) (Option.some Jvm.ClassFile.FieldType.int)) ∈ tq_T := tq_in (List.mem_of_getElem? (i := 863) (by decide +kernel)) (by decide +kernel)
theorem tw_817 : (Jvm.Cond.methodLink "TableauNodesLaw" (92 : Nat) ({ cls := "TableauNodesModel", name := "surely", desc := "(II)I" } : Jvm.MethodName)) ∈ tq_T := tq_in (List.mem_of_getElem? (i := 864) (by decide +kernel)) (by decide +kernel)
theorem tw_818 : (Jvm.Cond.instanceMethod ({ cls := "TableauNodesModel", name := "surely", desc := "(II)I" } : Jvm.MethodName)) ∈ tq_T := tq_in (List.mem_of_getElem? (i := 865) (by decide +kernel)) (by decide +kernel)
theorem tw_819 : (Jvm.Cond.selects "TableauNodesModel" ({ cls := "TableauNodesModel", name := "surely", desc := "(II)I" } : Jvm.MethodName) ({ cls := "TableauNodesModel", name := "surely", desc := "(II)I" } : Jvm.MethodName)) ∈ tq_T := tq_in (List.mem_of_getElem? (i := 866) (by decide +kernel)) (by decide +kernel)
theorem tw_820 : (Jvm.Cond.code ({ cls := "TableauNodesModel", name := "surely", desc := "(II)I" } : Jvm.MethodName) prog_7_method_38_code (3 : Nat) (Option.some Jvm.ClassFile.FieldType.int)) ∈ tq_T := tq_in (List.mem_of_getElem? (i := 867) (by decide +kernel)) (by decide +kernel)
theorem ts_0 : Cond.selects "TableauNodes$Concepts" (⟨"TableauNodes$Concepts", "find", "(III)I"⟩ : MethodName) (⟨"TableauNodes$Concepts", "find", "(III)I"⟩ : MethodName) ∈ tq_T := tq_in (List.mem_of_getElem? (i := 0) (by decide +kernel)) (by decide +kernel)
theorem ts_1 : Cond.selects "TableauNodes$Concepts" (⟨"TableauNodes$Concepts", "add", "(III)I"⟩ : MethodName) (⟨"TableauNodes$Concepts", "add", "(III)I"⟩ : MethodName) ∈ tq_T := tq_in (List.mem_of_getElem? (i := 1) (by decide +kernel)) (by decide +kernel)
theorem ts_2 : Cond.selects "TableauNodes$Concepts" (⟨"TableauNodes$Concepts", "newWord", "(IIII)J"⟩ : MethodName) (⟨"TableauNodes$Concepts", "newWord", "(IIII)J"⟩ : MethodName) ∈ tq_T := tq_in (List.mem_of_getElem? (i := 2) (by decide +kernel)) (by decide +kernel)
theorem ts_3 : Cond.selects "TableauNodes$Concepts" (⟨"TableauNodes$Concepts", "addAtom", "(I)V"⟩ : MethodName) (⟨"TableauNodes$Concepts", "addAtom", "(I)V"⟩ : MethodName) ∈ tq_T := tq_in (List.mem_of_getElem? (i := 3) (by decide +kernel)) (by decide +kernel)
theorem ts_4 : Cond.selects "TableauNodes$Concepts" (⟨"TableauNodes$Concepts", "noteInner", "(II)V"⟩ : MethodName) (⟨"TableauNodes$Concepts", "noteInner", "(II)V"⟩ : MethodName) ∈ tq_T := tq_in (List.mem_of_getElem? (i := 4) (by decide +kernel)) (by decide +kernel)
theorem ts_5 : Cond.selects "TableauNodes$Roles" (⟨"TableauNodes$Roles", "close", "()V"⟩ : MethodName) (⟨"TableauNodes$Roles", "close", "()V"⟩ : MethodName) ∈ tq_T := tq_in (List.mem_of_getElem? (i := 5) (by decide +kernel)) (by decide +kernel)
theorem ts_6 : Cond.selects "TableauNodes$Things" (⟨"TableauNodes$Things", "clear", "()V"⟩ : MethodName) (⟨"TableauNodes$Things", "clear", "()V"⟩ : MethodName) ∈ tq_T := tq_in (List.mem_of_getElem? (i := 6) (by decide +kernel)) (by decide +kernel)
theorem ts_7 : Cond.selects "TableauNodes$GoodTypes" (⟨"TableauNodes$GoodTypes", "sortSomes", "()V"⟩ : MethodName) (⟨"TableauNodes$GoodTypes", "sortSomes", "()V"⟩ : MethodName) ∈ tq_T := tq_in (List.mem_of_getElem? (i := 7) (by decide +kernel)) (by decide +kernel)
theorem ts_8 : Cond.selects "TableauNodes$GoodTypes" (⟨"TableauNodes$GoodTypes", "begin", "()V"⟩ : MethodName) (⟨"TableauNodes$GoodTypes", "begin", "()V"⟩ : MethodName) ∈ tq_T := tq_in (List.mem_of_getElem? (i := 8) (by decide +kernel)) (by decide +kernel)
theorem ts_9 : Cond.selects "TableauNodes$GoodTypes" (⟨"TableauNodes$GoodTypes", "keptByAxioms", "(JI)J"⟩ : MethodName) (⟨"TableauNodes$GoodTypes", "keptByAxioms", "(JI)J"⟩ : MethodName) ∈ tq_T := tq_in (List.mem_of_getElem? (i := 9) (by decide +kernel)) (by decide +kernel)
theorem ts_10 : Cond.selects "TableauNodes$GoodTypes" (⟨"TableauNodes$GoodTypes", "isThere", "(I)Z"⟩ : MethodName) (⟨"TableauNodes$GoodTypes", "isThere", "(I)Z"⟩ : MethodName) ∈ tq_T := tq_in (List.mem_of_getElem? (i := 10) (by decide +kernel)) (by decide +kernel)
theorem ts_11 : Cond.selects "TableauNodes$GoodTypes" (⟨"TableauNodes$GoodTypes", "makeRound", "(I)Z"⟩ : MethodName) (⟨"TableauNodes$GoodTypes", "makeRound", "(I)Z"⟩ : MethodName) ∈ tq_T := tq_in (List.mem_of_getElem? (i := 11) (by decide +kernel)) (by decide +kernel)
theorem ts_12 : Cond.selects "TableauNodes$GoodTypes" (⟨"TableauNodes$GoodTypes", "markUnserved", "(I)V"⟩ : MethodName) (⟨"TableauNodes$GoodTypes", "markUnserved", "(I)V"⟩ : MethodName) ∈ tq_T := tq_in (List.mem_of_getElem? (i := 12) (by decide +kernel)) (by decide +kernel)
theorem ts_13 : Cond.selects "TableauNodes$GoodTypes" (⟨"TableauNodes$GoodTypes", "findServed", "(I)V"⟩ : MethodName) (⟨"TableauNodes$GoodTypes", "findServed", "(I)V"⟩ : MethodName) ∈ tq_T := tq_in (List.mem_of_getElem? (i := 13) (by decide +kernel)) (by decide +kernel)
theorem ts_14 : Cond.selects "TableauNodes$GoodTypes" (⟨"TableauNodes$GoodTypes", "spreadServed", "(III)V"⟩ : MethodName) (⟨"TableauNodes$GoodTypes", "spreadServed", "(III)V"⟩ : MethodName) ∈ tq_T := tq_in (List.mem_of_getElem? (i := 14) (by decide +kernel)) (by decide +kernel)
theorem ts_15 : Cond.selects "TableauNodes$GoodTypes" (⟨"TableauNodes$GoodTypes", "takeAway", "(II)V"⟩ : MethodName) (⟨"TableauNodes$GoodTypes", "takeAway", "(II)V"⟩ : MethodName) ∈ tq_T := tq_in (List.mem_of_getElem? (i := 15) (by decide +kernel)) (by decide +kernel)
theorem ts_16 : Cond.selects "TableauNodes$Things" (⟨"TableauNodes$Things", "sortLinks", "()V"⟩ : MethodName) (⟨"TableauNodes$Things", "sortLinks", "()V"⟩ : MethodName) ∈ tq_T := tq_in (List.mem_of_getElem? (i := 16) (by decide +kernel)) (by decide +kernel)
theorem ts_17 : Cond.selects "TableauNodes$Things" (⟨"TableauNodes$Things", "begin", "()V"⟩ : MethodName) (⟨"TableauNodes$Things", "begin", "()V"⟩ : MethodName) ∈ tq_T := tq_in (List.mem_of_getElem? (i := 17) (by decide +kernel)) (by decide +kernel)
theorem ts_18 : Cond.selects "TableauNodes$Things" (⟨"TableauNodes$Things", "seeingThemselves", "(JII)J"⟩ : MethodName) (⟨"TableauNodes$Things", "seeingThemselves", "(JII)J"⟩ : MethodName) ∈ tq_T := tq_in (List.mem_of_getElem? (i := 18) (by decide +kernel)) (by decide +kernel)
theorem ts_19 : Cond.selects "TableauNodes$Things" (⟨"TableauNodes$Things", "canExtend", "(II)Z"⟩ : MethodName) (⟨"TableauNodes$Things", "canExtend", "(II)Z"⟩ : MethodName) ∈ tq_T := tq_in (List.mem_of_getElem? (i := 19) (by decide +kernel)) (by decide +kernel)
theorem ts_20 : Cond.selects "TableauNodes$Things" (⟨"TableauNodes$Things", "mostBound", "(II)I"⟩ : MethodName) (⟨"TableauNodes$Things", "mostBound", "(II)I"⟩ : MethodName) ∈ tq_T := tq_in (List.mem_of_getElem? (i := 20) (by decide +kernel)) (by decide +kernel)
theorem ts_21 : Cond.selects "TableauNodes$Things" (⟨"TableauNodes$Things", "countLeft", "(II)I"⟩ : MethodName) (⟨"TableauNodes$Things", "countLeft", "(II)I"⟩ : MethodName) ∈ tq_T := tq_in (List.mem_of_getElem? (i := 21) (by decide +kernel)) (by decide +kernel)
theorem ts_22 : Cond.selects "TableauNodes$Things" (⟨"TableauNodes$Things", "findDemands", "(III)I"⟩ : MethodName) (⟨"TableauNodes$Things", "findDemands", "(III)I"⟩ : MethodName) ∈ tq_T := tq_in (List.mem_of_getElem? (i := 22) (by decide +kernel)) (by decide +kernel)
theorem ts_23 : Cond.selects "TableauNodes$Things" (⟨"TableauNodes$Things", "addDemand", "(III)I"⟩ : MethodName) (⟨"TableauNodes$Things", "addDemand", "(III)I"⟩ : MethodName) ∈ tq_T := tq_in (List.mem_of_getElem? (i := 23) (by decide +kernel)) (by decide +kernel)
theorem ts_24 : Cond.selects "TableauNodes$Things" (⟨"TableauNodes$Things", "passOn", "(IIII)Z"⟩ : MethodName) (⟨"TableauNodes$Things", "passOn", "(IIII)Z"⟩ : MethodName) ∈ tq_T := tq_in (List.mem_of_getElem? (i := 24) (by decide +kernel)) (by decide +kernel)
theorem ts_25 : Cond.selects "TableauNodes$Things" (⟨"TableauNodes$Things", "fitting", "(JIII)J"⟩ : MethodName) (⟨"TableauNodes$Things", "fitting", "(JIII)J"⟩ : MethodName) ∈ tq_T := tq_in (List.mem_of_getElem? (i := 25) (by decide +kernel)) (by decide +kernel)
theorem ts_26 : Cond.selects "TableauNodes$Things" (⟨"TableauNodes$Things", "leaveFirst", "(I)Z"⟩ : MethodName) (⟨"TableauNodes$Things", "leaveFirst", "(I)Z"⟩ : MethodName) ∈ tq_T := tq_in (List.mem_of_getElem? (i := 26) (by decide +kernel)) (by decide +kernel)
theorem ts_27 : Cond.selects "TableauNodes$Things" (⟨"TableauNodes$Things", "firstLeft", "(I)I"⟩ : MethodName) (⟨"TableauNodes$Things", "firstLeft", "(I)I"⟩ : MethodName) ∈ tq_T := tq_in (List.mem_of_getElem? (i := 27) (by decide +kernel)) (by decide +kernel)
theorem ts_28 : Cond.selects "TableauNodes$Things" (⟨"TableauNodes$Things", "keepSpare", "(I)V"⟩ : MethodName) (⟨"TableauNodes$Things", "keepSpare", "(I)V"⟩ : MethodName) ∈ tq_T := tq_in (List.mem_of_getElem? (i := 28) (by decide +kernel)) (by decide +kernel)
theorem ts_29 : Cond.selects "TableauNodes$Things" (⟨"TableauNodes$Things", "takeSpare", "(I)V"⟩ : MethodName) (⟨"TableauNodes$Things", "takeSpare", "(I)V"⟩ : MethodName) ∈ tq_T := tq_in (List.mem_of_getElem? (i := 29) (by decide +kernel)) (by decide +kernel)
theorem ts_30 : Cond.selects "TableauNodes$Things" (⟨"TableauNodes$Things", "leaveLeast", "(I)V"⟩ : MethodName) (⟨"TableauNodes$Things", "leaveLeast", "(I)V"⟩ : MethodName) ∈ tq_T := tq_in (List.mem_of_getElem? (i := 30) (by decide +kernel)) (by decide +kernel)
theorem ts_31 : Cond.selects "TableauNodes$Things" (⟨"TableauNodes$Things", "leaveHalf", "(IIZ)V"⟩ : MethodName) (⟨"TableauNodes$Things", "leaveHalf", "(IIZ)V"⟩ : MethodName) ∈ tq_T := tq_in (List.mem_of_getElem? (i := 31) (by decide +kernel)) (by decide +kernel)
theorem ts_32 : Cond.selects "TableauNodesModel" (⟨"TableauNodesModel", "make", "(III)I"⟩ : MethodName) (⟨"TableauNodesModel", "make", "(III)I"⟩ : MethodName) ∈ tq_T := tq_in (List.mem_of_getElem? (i := 32) (by decide +kernel)) (by decide +kernel)
theorem ts_33 : Cond.selects "TableauNodesModel" (⟨"TableauNodesModel", "find", "(III)I"⟩ : MethodName) (⟨"TableauNodesModel", "find", "(III)I"⟩ : MethodName) ∈ tq_T := tq_in (List.mem_of_getElem? (i := 33) (by decide +kernel)) (by decide +kernel)
theorem ts_34 : Cond.selects "TableauNodesModel" (⟨"TableauNodesModel", "isConcept", "(I)Z"⟩ : MethodName) (⟨"TableauNodesModel", "isConcept", "(I)Z"⟩ : MethodName) ∈ tq_T := tq_in (List.mem_of_getElem? (i := 34) (by decide +kernel)) (by decide +kernel)
theorem ts_35 : Cond.selects "TableauNodesModel" (⟨"TableauNodesModel", "work", "()V"⟩ : MethodName) (⟨"TableauNodesModel", "work", "()V"⟩ : MethodName) ∈ tq_T := tq_in (List.mem_of_getElem? (i := 35) (by decide +kernel)) (by decide +kernel)
theorem ts_36 : Cond.selects "TableauNodesModel" (⟨"TableauNodesModel", "size", "()I"⟩ : MethodName) (⟨"TableauNodesModel", "size", "()I"⟩ : MethodName) ∈ tq_T := tq_in (List.mem_of_getElem? (i := 36) (by decide +kernel)) (by decide +kernel)
theorem ts_37 : Cond.selects "TableauNodesModel" (⟨"TableauNodesModel", "weigh", "(II)Z"⟩ : MethodName) (⟨"TableauNodesModel", "weigh", "(II)Z"⟩ : MethodName) ∈ tq_T := tq_in (List.mem_of_getElem? (i := 37) (by decide +kernel)) (by decide +kernel)
theorem ts_38 : Cond.selects "TableauNodesModel" (⟨"TableauNodesModel", "atomOf", "(I)I"⟩ : MethodName) (⟨"TableauNodesModel", "atomOf", "(I)I"⟩ : MethodName) ∈ tq_T := tq_in (List.mem_of_getElem? (i := 38) (by decide +kernel)) (by decide +kernel)
theorem ts_39 : Cond.selects "TableauNodesModel" (⟨"TableauNodesModel", "isHeld", "(II)Z"⟩ : MethodName) (⟨"TableauNodesModel", "isHeld", "(II)Z"⟩ : MethodName) ∈ tq_T := tq_in (List.mem_of_getElem? (i := 39) (by decide +kernel)) (by decide +kernel)
theorem ts_40 : Cond.selects "TableauNodesModel" (⟨"TableauNodesModel", "turn", "(I)Z"⟩ : MethodName) (⟨"TableauNodesModel", "turn", "(I)Z"⟩ : MethodName) ∈ tq_T := tq_in (List.mem_of_getElem? (i := 40) (by decide +kernel)) (by decide +kernel)
theorem ts_41 : Cond.selects "TableauNodesModel" (⟨"TableauNodesModel", "forbids", "(II)I"⟩ : MethodName) (⟨"TableauNodesModel", "forbids", "(II)I"⟩ : MethodName) ∈ tq_T := tq_in (List.mem_of_getElem? (i := 41) (by decide +kernel)) (by decide +kernel)
theorem ts_42 : Cond.selects "TableauNodesModel" (⟨"TableauNodesModel", "isThere", "(III)Z"⟩ : MethodName) (⟨"TableauNodesModel", "isThere", "(III)Z"⟩ : MethodName) ∈ tq_T := tq_in (List.mem_of_getElem? (i := 42) (by decide +kernel)) (by decide +kernel)
theorem ts_43 : Cond.selects "TableauNodesModel" (⟨"TableauNodesModel", "search", "(II)Z"⟩ : MethodName) (⟨"TableauNodesModel", "search", "(II)Z"⟩ : MethodName) ∈ tq_T := tq_in (List.mem_of_getElem? (i := 43) (by decide +kernel)) (by decide +kernel)
theorem ts_44 : Cond.selects "TableauNodesModel" (⟨"TableauNodesModel", "isSaid", "(II)Z"⟩ : MethodName) (⟨"TableauNodesModel", "isSaid", "(II)Z"⟩ : MethodName) ∈ tq_T := tq_in (List.mem_of_getElem? (i := 44) (by decide +kernel)) (by decide +kernel)
theorem ts_45 : Cond.selects "TableauNodesModel" (⟨"TableauNodesModel", "sees", "(III)Z"⟩ : MethodName) (⟨"TableauNodesModel", "sees", "(III)Z"⟩ : MethodName) ∈ tq_T := tq_in (List.mem_of_getElem? (i := 45) (by decide +kernel)) (by decide +kernel)
theorem ts_46 : Cond.selects "TableauNodesModel" (⟨"TableauNodesModel", "isLeft", "(II)Z"⟩ : MethodName) (⟨"TableauNodesModel", "isLeft", "(II)Z"⟩ : MethodName) ∈ tq_T := tq_in (List.mem_of_getElem? (i := 46) (by decide +kernel)) (by decide +kernel)
theorem in_Tn : ∀ w ∈ u_ws "TableauNodes" F_Tn 4, w ∈ tq_T := by
  intro w hw
  simp only [u_ws, List.range, List.range.loop, List.map, List.mem_cons, List.not_mem_nil, or_false] at hw
  rcases hw with rfl | rfl | rfl | rfl
  · exact tw_224
  · exact tw_226
  · exact tw_228
  · exact tw_230
theorem in_Co : ∀ w ∈ u_ws "TableauNodes$Concepts" F_Co 9, w ∈ tq_T := by
  intro w hw
  simp only [u_ws, List.range, List.range.loop, List.map, List.mem_cons, List.not_mem_nil, or_false] at hw
  rcases hw with rfl | rfl | rfl | rfl | rfl | rfl | rfl | rfl | rfl
  · exact tw_72
  · exact tw_74
  · exact tw_76
  · exact tw_78
  · exact tw_80
  · exact tw_82
  · exact tw_84
  · exact tw_86
  · exact tw_88
theorem in_Ro : ∀ w ∈ u_ws "TableauNodes$Roles" F_Ro 2, w ∈ tq_T := by
  intro w hw
  simp only [u_ws, List.range, List.range.loop, List.map, List.mem_cons, List.not_mem_nil, or_false] at hw
  rcases hw with rfl | rfl
  · exact tw_106
  · exact tw_108
theorem in_Go : ∀ w ∈ u_ws "TableauNodes$GoodTypes" F_Go 15, w ∈ tq_T := by
  intro w hw
  simp only [u_ws, List.range, List.range.loop, List.map, List.mem_cons, List.not_mem_nil, or_false] at hw
  rcases hw with rfl | rfl | rfl | rfl | rfl | rfl | rfl | rfl | rfl | rfl | rfl | rfl | rfl | rfl | rfl
  · exact tw_132
  · exact tw_134
  · exact tw_136
  · exact tw_138
  · exact tw_140
  · exact tw_142
  · exact tw_144
  · exact tw_146
  · exact tw_148
  · exact tw_150
  · exact tw_152
  · exact tw_154
  · exact tw_156
  · exact tw_158
  · exact tw_160
theorem in_Th : ∀ w ∈ u_ws "TableauNodes$Things" F_Th 15, w ∈ tq_T := by
  intro w hw
  simp only [u_ws, List.range, List.range.loop, List.map, List.mem_cons, List.not_mem_nil, or_false] at hw
  rcases hw with rfl | rfl | rfl | rfl | rfl | rfl | rfl | rfl | rfl | rfl | rfl | rfl | rfl | rfl | rfl
  · exact tw_189
  · exact tw_191
  · exact tw_193
  · exact tw_195
  · exact tw_197
  · exact tw_199
  · exact tw_201
  · exact tw_203
  · exact tw_205
  · exact tw_207
  · exact tw_209
  · exact tw_211
  · exact tw_213
  · exact tw_215
  · exact tw_217
theorem in_Mo : ∀ w ∈ u_ws "TableauNodesModel" F_Mo 25, w ∈ tq_T := by
  intro w hw
  simp only [u_ws, List.range, List.range.loop, List.map, List.mem_cons, List.not_mem_nil, or_false] at hw
  rcases hw with rfl | rfl | rfl | rfl | rfl | rfl | rfl | rfl | rfl | rfl | rfl | rfl | rfl | rfl | rfl | rfl | rfl | rfl | rfl | rfl | rfl | rfl | rfl | rfl | rfl
  · exact tw_624
  · exact tw_626
  · exact tw_628
  · exact tw_630
  · exact tw_632
  · exact tw_634
  · exact tw_636
  · exact tw_638
  · exact tw_640
  · exact tw_642
  · exact tw_644
  · exact tw_646
  · exact tw_648
  · exact tw_650
  · exact tw_652
  · exact tw_654
  · exact tw_656
  · exact tw_658
  · exact tw_660
  · exact tw_662
  · exact tw_664
  · exact tw_666
  · exact tw_668
  · exact tw_670
  · exact tw_672
end
section
/-! The pure side: a state is what the cells hold; a method is a step function between cut points; it runs until it comes to tq_rt. -/
abbrev tq_S : Type := (Nat → Nat → Int32) × (Nat → Nat → Int64) × (Nat → Int32)
abbrev tq_C : Type := Nat × List Int32 × List Int64 × tq_S
abbrev tq_rt : Nat := 1000000
abbrev ia (σ : tq_S) (k : Nat) (i : Int32) : Int32 := σ.1 k i.toNatClampNeg
abbrev la (σ : tq_S) (k : Nat) (i : Int32) : Int64 := σ.2.1 k i.toNatClampNeg
def iput (σ : tq_S) (k i : Nat) (v : Int32) : tq_S := (fun a => if a = k then upd (σ.1 k) i v else σ.1 a, σ.2.1, σ.2.2)
def lput (σ : tq_S) (k i : Nat) (v : Int64) : tq_S := (σ.1, fun a => if a = k then vp_updL (σ.2.1 k) i v else σ.2.1 a, σ.2.2)
def fput (σ : tq_S) (k : Nat) (v : Int32) : tq_S := (σ.1, σ.2.1, fun a => if a = k then v else σ.2.2 a)
def lcpy (σ : tq_S) (k0 k1 sp dp n : Nat) : tq_S := (σ.1, fun a => if a = k1 then va_cpy (σ.2.1 k0) (σ.2.1 k1) sp dp n else σ.2.1 a, σ.2.2)
abbrev jlshl (x : Int64) (y : Int32) : Int64 := x <<< (y.toInt64 &&& 63)
abbrev jlshr (x : Int64) (y : Int32) : Int64 := x >>> (y.toInt64 &&& 63)
abbrev jlushr (x : Int64) (y : Int32) : Int64 := (x.toUInt64 >>> (y.toInt64.toUInt64 &&& Int64.toUInt64 63)).toInt64
abbrev jiushr (x y : Int32) : Int32 := (x.toUInt32 >>> (y.toUInt32 &&& Int32.toUInt32 31)).toInt32
abbrev jrem (x y : Int32) : Int32 := x - x / y * y
abbrev jmin (x y : Int32) : Int32 := if y < x then y else x
abbrev jz (x : Int32) : Int32 := vp_nar .boolean x
abbrev tq_cp (sp dp n : Int32) (n0 n1 : Nat) : Prop := ¬ sp < 0 ∧ ¬ dp < 0 ∧ ¬ n < 0 ∧ sp.toNatClampNeg + n.toNatClampNeg ≤ n0 ∧ dp.toNatClampNeg + n.toNatClampNeg ≤ n1
def tq_gd (i : Int32) (n : Nat) (k : Option tq_C) : Option tq_C := if i < 0 ∨ n ≤ i.toNatClampNeg then none else k
def tq_gz (y : Int32) (k : Option tq_C) : Option tq_C := if y = 0 then none else k
def tq_gb (y : Int32) (k : Option tq_C) : Option tq_C := if y = 0 ∨ y = 1 then k else none
noncomputable def tq_gp (P : Prop) (k : Option tq_C) : Option tq_C := @ite _ P (Classical.propDecidable P) k none
def tq_lj {α : Type} (x : α) (k : α → Option tq_C) : Option tq_C := k x
def tq_ob {α : Type} (e : Option (α × tq_S)) (k : α → tq_S → Option tq_C) : Option tq_C := match e with
  | none => none
  | some q => k q.1 q.2
def tq_go (st : tq_C → Option tq_C) : Nat → tq_C → Option tq_C
  | 0, _ => none
  | n + 1, c => if c.1 = tq_rt then some c else match st c with
    | none => none
    | some d => tq_go st n d
theorem tq_gd_s {i : Int32} {n : Nat} {k : Option tq_C} {d : tq_C} (h : tq_gd i n k = some d) : vp_in i n ∧ k = some d := by
  unfold tq_gd at h
  by_cases c : i < 0 ∨ n ≤ i.toNatClampNeg
  · rw [if_pos c] at h; cases h
  · rw [if_neg c] at h; exact ⟨c, h⟩
theorem tq_gz_s {y : Int32} {k : Option tq_C} {d : tq_C} (h : tq_gz y k = some d) : ¬ y = 0 ∧ k = some d := by
  unfold tq_gz at h
  by_cases c : y = 0
  · rw [if_pos c] at h; cases h
  · rw [if_neg c] at h; exact ⟨c, h⟩
theorem tq_gb_s {y : Int32} {k : Option tq_C} {d : tq_C} (h : tq_gb y k = some d) : (y = 0 ∨ y = 1) ∧ k = some d := by
  unfold tq_gb at h
  by_cases c : y = 0 ∨ y = 1
  · rw [if_pos c] at h; exact ⟨c, h⟩
  · rw [if_neg c] at h; cases h
theorem tq_gp_s {P : Prop} {k : Option tq_C} {d : tq_C} (h : tq_gp P k = some d) : P ∧ k = some d := by
  unfold tq_gp at h
  by_cases c : P
  · rw [if_pos c] at h; exact ⟨c, h⟩
  · rw [if_neg c] at h; cases h
theorem tq_lj_s {α : Type} {x : α} {k : α → Option tq_C} {d : tq_C} (h : tq_lj x k = some d) : ∃ y, y = x ∧ k y = some d := ⟨x, rfl, h⟩
theorem tq_ob_s {α : Type} {e : Option (α × tq_S)} {k : α → tq_S → Option tq_C} {d : tq_C} (h : tq_ob e k = some d) : ∃ r σ, e = some (r, σ) ∧ k r σ = some d := by
  match e, h with
  | some q, h => exact ⟨q.1, q.2, rfl, h⟩
theorem tq_if_t {c : Prop} {i : Decidable c} {a b : Option tq_C} {d : tq_C} (hc : c) (h : @ite _ c i a b = some d) : a = some d := by rw [if_pos hc] at h; exact h
theorem tq_if_f {c : Prop} {i : Decidable c} {a b : Option tq_C} {d : tq_C} (hc : ¬ c) (h : @ite _ c i a b = some d) : b = some d := by rw [if_neg hc] at h; exact h
theorem tq_if_n {c : Prop} {i : Decidable (¬ c)} {a b : Option tq_C} {d : tq_C} (hc : c) (h : @ite _ (¬ c) i a b = some d) : b = some d := by rw [if_neg (fun q => q hc)] at h; exact h
theorem tq_go_s {st : tq_C → Option tq_C} {n : Nat} {c d : tq_C} (h : tq_go st (n + 1) c = some d) (hc : ¬ c.1 = tq_rt) : ∃ c', st c = some c' ∧ tq_go st n c' = some d := by
  rw [tq_go, if_neg hc] at h
  cases hs : st c with
  | none => rw [hs] at h; cases h
  | some c' => rw [hs] at h; exact ⟨c', rfl, h⟩
theorem tq_gi {st : tq_C → Option tq_C} {n : Nat} {a c' d : tq_C} (hg : some a = some c') (hn : tq_go st n c' = some d) : tq_go st n a = some d := by
  cases hg; exact hn
theorem tq_go_rt {st : tq_C → Option tq_C} {n : Nat} {a d : tq_C} (ha : a.1 = tq_rt) (h : tq_go st n a = some d) : a = d := by
  cases n with
  | zero => cases h
  | succ n => rw [tq_go, if_pos ha] at h; exact Option.some.inj h
theorem tq_gr {st : tq_C → Option tq_C} {n : Nat} {xs : List Int32} {ys : List Int64} {σ : tq_S} {c' d : tq_C} (hg : some (tq_rt, xs, ys, σ) = some c') (hn : tq_go st n c' = some d) : d = (tq_rt, xs, ys, σ) :=
  (tq_go_rt rfl (tq_gi hg hn)).symm
theorem tq_go_m {st : tq_C → Option tq_C} : ∀ {n m : Nat} {c d : tq_C}, n ≤ m → tq_go st n c = some d → tq_go st m c = some d := by
  intro n
  induction n with
  | zero => intro m c d _ h; cases h
  | succ n ih =>
    intro m c d hm h
    obtain ⟨m, rfl⟩ : ∃ k, m = k + 1 := ⟨m - 1, by omega⟩
    by_cases hc : c.1 = tq_rt
    · rw [tq_go, if_pos hc] at h ⊢; exact h
    · obtain ⟨c', h1, h2⟩ := tq_go_s h hc
      rw [tq_go, if_neg hc, h1]
      exact ih (by omega) h2
theorem tq_go_u {st : tq_C → Option tq_C} {n m : Nat} {c d d' : tq_C} (h : tq_go st n c = some d) (h' : tq_go st m c = some d') : d = d' := by
  have a := tq_go_m (Nat.le_max_left n m) h
  have b := tq_go_m (Nat.le_max_right n m) h'
  rw [a] at b; exact Option.some.inj b
noncomputable def tq_res (st : tq_C → Option tq_C) (c : tq_C) : Option tq_C :=
  @dite _ (∃ d n, tq_go st n c = some d) (Classical.propDecidable _) (fun h => some h.choose) (fun _ => none)
theorem tq_res_of {st : tq_C → Option tq_C} {n : Nat} {c d : tq_C} (h : tq_go st n c = some d) : tq_res st c = some d := by
  have hh : ∃ d n, tq_go st n c = some d := ⟨d, n, h⟩
  unfold tq_res
  rw [dif_pos hh]
  obtain ⟨m, hm⟩ := hh.choose_spec
  rw [tq_go_u hm h]
theorem tq_res_to {st : tq_C → Option tq_C} {c d : tq_C} (h : tq_res st c = some d) : ∃ n, tq_go st n c = some d := by
  unfold tq_res at h
  by_cases hh : ∃ d n, tq_go st n c = some d
  · rw [dif_pos hh] at h
    obtain ⟨m, hm⟩ := hh.choose_spec
    exact ⟨m, by rw [hm, Option.some.inj h]⟩
  · rw [dif_neg hh] at h; cases h
def tq_pI (d : Option tq_C) : Option (Int32 × tq_S) := match d with
  | some (_, [r], [], σ) => some (r, σ)
  | _ => none
def tq_pL (d : Option tq_C) : Option (Int64 × tq_S) := match d with
  | some (_, [], [r], σ) => some (r, σ)
  | _ => none
def tq_pV (d : Option tq_C) : Option (Unit × tq_S) := match d with
  | some (_, [], [], σ) => some ((), σ)
  | _ => none
noncomputable def tq_fI (st : tq_C → Option tq_C) (c : tq_C) : Option (Int32 × tq_S) := tq_pI (tq_res st c)
noncomputable def tq_fL (st : tq_C → Option tq_C) (c : tq_C) : Option (Int64 × tq_S) := tq_pL (tq_res st c)
noncomputable def tq_fV (st : tq_C → Option tq_C) (c : tq_C) : Option (Unit × tq_S) := tq_pV (tq_res st c)
theorem tq_go_end {st : tq_C → Option tq_C} : ∀ {n : Nat} {c d : tq_C}, tq_go st n c = some d → d.1 = tq_rt := by
  intro n
  induction n with
  | zero => intro c d h; cases h
  | succ n ih =>
    intro c d h
    by_cases hc : c.1 = tq_rt
    · rw [tq_go, if_pos hc] at h; rw [← Option.some.inj h]; exact hc
    · obtain ⟨c', h1, h2⟩ := tq_go_s h hc
      exact ih h2
theorem tq_fI_to {st : tq_C → Option tq_C} {c : tq_C} {r : Int32} {σ : tq_S} (h : tq_fI st c = some (r, σ)) : ∃ n, tq_go st n c = some (tq_rt, [r], [], σ) := by
  unfold tq_fI at h
  match hr : tq_res st c, h with
  | some (p, [r'], [], σ'), h =>
    obtain ⟨n, hn⟩ := tq_res_to hr
    have hp := tq_go_end hn
    simp only [tq_pI, Option.some.injEq, Prod.mk.injEq] at h
    obtain ⟨rfl, rfl⟩ := h
    simp only at hp
    subst hp
    exact ⟨n, hn⟩
theorem tq_fL_to {st : tq_C → Option tq_C} {c : tq_C} {r : Int64} {σ : tq_S} (h : tq_fL st c = some (r, σ)) : ∃ n, tq_go st n c = some (tq_rt, [], [r], σ) := by
  unfold tq_fL at h
  match hr : tq_res st c, h with
  | some (p, [], [r'], σ'), h =>
    obtain ⟨n, hn⟩ := tq_res_to hr
    have hp := tq_go_end hn
    simp only [tq_pL, Option.some.injEq, Prod.mk.injEq] at h
    obtain ⟨rfl, rfl⟩ := h
    simp only at hp
    subst hp
    exact ⟨n, hn⟩
theorem tq_fV_to {st : tq_C → Option tq_C} {c : tq_C} {r : Unit} {σ : tq_S} (h : tq_fV st c = some (r, σ)) : ∃ n, tq_go st n c = some (tq_rt, [], [], σ) := by
  unfold tq_fV at h
  match hr : tq_res st c, h with
  | some (p, [], [], σ'), h =>
    obtain ⟨n, hn⟩ := tq_res_to hr
    have hp := tq_go_end hn
    simp only [tq_pV, Option.some.injEq, Prod.mk.injEq] at h
    obtain ⟨-, rfl⟩ := h
    simp only at hp
    subst hp
    exact ⟨n, hn⟩
/-! what holds behind a run -/
def tq_wp (st : tq_C → Option tq_C) (Q : tq_C → Prop) (c : tq_C) : Prop := ∃ n d, tq_go st n c = some d ∧ Q d
def tq_wo (e : Option tq_C) (R : tq_C → Prop) : Prop := ∃ d, e = some d ∧ R d
theorem tq_wp_of {st : tq_C → Option tq_C} {Q : tq_C → Prop} {c : tq_C} (hc : ¬ c.1 = tq_rt) (h : tq_wo (st c) (tq_wp st Q)) : tq_wp st Q c := by
  obtain ⟨c', h1, n, d, h2, h3⟩ := h
  exact ⟨n + 1, d, by rw [tq_go, if_neg hc, h1]; exact h2, h3⟩
theorem tq_wp_rt {st : tq_C → Option tq_C} {Q : tq_C → Prop} {xs : List Int32} {ys : List Int64} {σ : tq_S} (h : Q (tq_rt, xs, ys, σ)) : tq_wp st Q (tq_rt, xs, ys, σ) := ⟨1, _, by rw [tq_go, if_pos rfl], h⟩
theorem tq_wp_mono {st : tq_C → Option tq_C} {Q Q' : tq_C → Prop} {c : tq_C} (h : tq_wp st Q c) (hq : ∀ d, Q d → Q' d) : tq_wp st Q' c := by
  obtain ⟨n, d, h1, h2⟩ := h
  exact ⟨n, d, h1, hq d h2⟩
theorem tq_wo_some {a : tq_C} {R : tq_C → Prop} : tq_wo (some a) R ↔ R a := ⟨fun ⟨d, h, k⟩ => by cases h; exact k, fun h => ⟨a, rfl, h⟩⟩
theorem tq_wo_ite {c : Prop} {i : Decidable c} {a b : Option tq_C} {R : tq_C → Prop} : tq_wo (@ite _ c i a b) R ↔ (c → tq_wo a R) ∧ (¬ c → tq_wo b R) := by
  by_cases h : c
  · rw [if_pos h]; exact ⟨fun k => ⟨fun _ => k, fun q => absurd h q⟩, fun k => k.1 h⟩
  · rw [if_neg h]; exact ⟨fun k => ⟨fun q => absurd q h, fun _ => k⟩, fun k => k.2 h⟩
theorem tq_wo_gd {i : Int32} {n : Nat} {k : Option tq_C} {R : tq_C → Prop} : tq_wo (tq_gd i n k) R ↔ vp_in i n ∧ tq_wo k R := by
  constructor
  · rintro ⟨d, h, r⟩
    obtain ⟨h1, h2⟩ := tq_gd_s h
    exact ⟨h1, d, h2, r⟩
  · rintro ⟨h1, d, h2, r⟩
    refine ⟨d, ?_, r⟩
    unfold tq_gd
    rw [if_neg h1]; exact h2
theorem tq_wo_gz {y : Int32} {k : Option tq_C} {R : tq_C → Prop} : tq_wo (tq_gz y k) R ↔ ¬ y = 0 ∧ tq_wo k R := by
  constructor
  · rintro ⟨d, h, r⟩
    obtain ⟨h1, h2⟩ := tq_gz_s h
    exact ⟨h1, d, h2, r⟩
  · rintro ⟨h1, d, h2, r⟩
    refine ⟨d, ?_, r⟩
    unfold tq_gz
    rw [if_neg h1]; exact h2
theorem tq_wo_gb {y : Int32} {k : Option tq_C} {R : tq_C → Prop} : tq_wo (tq_gb y k) R ↔ (y = 0 ∨ y = 1) ∧ tq_wo k R := by
  constructor
  · rintro ⟨d, h, r⟩
    obtain ⟨h1, h2⟩ := tq_gb_s h
    exact ⟨h1, d, h2, r⟩
  · rintro ⟨h1, d, h2, r⟩
    refine ⟨d, ?_, r⟩
    unfold tq_gb
    rw [if_pos h1]; exact h2
theorem tq_wo_gp {P : Prop} {k : Option tq_C} {R : tq_C → Prop} : tq_wo (tq_gp P k) R ↔ P ∧ tq_wo k R := by
  constructor
  · rintro ⟨d, h, r⟩
    obtain ⟨h1, h2⟩ := tq_gp_s h
    exact ⟨h1, d, h2, r⟩
  · rintro ⟨h1, d, h2, r⟩
    refine ⟨d, ?_, r⟩
    unfold tq_gp
    rw [if_pos h1]; exact h2
theorem tq_wo_lj {α : Type} {x : α} {k : α → Option tq_C} {R : tq_C → Prop} : tq_wo (tq_lj x k) R ↔ tq_wo (k x) R := Iff.rfl
theorem tq_wo_ob {α : Type} {e : Option (α × tq_S)} {k : α → tq_S → Option tq_C} {R : tq_C → Prop} : tq_wo (tq_ob e k) R ↔ ∃ r σ, e = some (r, σ) ∧ tq_wo (k r σ) R := by
  constructor
  · rintro ⟨d, h, r⟩
    obtain ⟨r', σ, h1, h2⟩ := tq_ob_s h
    exact ⟨r', σ, h1, d, h2, r⟩
  · rintro ⟨r', σ, h1, d, h2, r⟩
    refine ⟨d, ?_, r⟩
    rw [h1]; exact h2
theorem tq_fI_of {st : tq_C → Option tq_C} {c : tq_C} {P : Int32 → tq_S → Prop} (h : tq_wp st (fun d => ∃ r σ, d = (tq_rt, [r], [], σ) ∧ P r σ) c) : ∃ r σ, tq_fI st c = some (r, σ) ∧ P r σ := by
  obtain ⟨n, d, h1, r, σ, rfl, hp⟩ := h
  exact ⟨r, σ, by unfold tq_fI; rw [tq_res_of h1]; rfl, hp⟩
theorem tq_fL_of {st : tq_C → Option tq_C} {c : tq_C} {P : Int64 → tq_S → Prop} (h : tq_wp st (fun d => ∃ r σ, d = (tq_rt, [], [r], σ) ∧ P r σ) c) : ∃ r σ, tq_fL st c = some (r, σ) ∧ P r σ := by
  obtain ⟨n, d, h1, r, σ, rfl, hp⟩ := h
  exact ⟨r, σ, by unfold tq_fL; rw [tq_res_of h1]; rfl, hp⟩
theorem tq_fV_of {st : tq_C → Option tq_C} {c : tq_C} {P : tq_S → Prop} (h : tq_wp st (fun d => ∃ σ, d = (tq_rt, [], [], σ) ∧ P σ) c) : ∃ σ, tq_fV st c = some ((), σ) ∧ P σ := by
  obtain ⟨n, d, h1, σ, rfl, hp⟩ := h
  exact ⟨σ, by unfold tq_fV; rw [tq_res_of h1]; rfl, hp⟩
end
section
def y_Tn_init : MethodName := ⟨"TableauNodes", "<init>", "()V"⟩
abbrev w_Tn_init : List Cond := .code y_Tn_init prog_1_method_1_code 1 none :: tq_T
def y_Tn_class0 : MethodName := ⟨"TableauNodes", "class0", "(I)I"⟩
abbrev w_Tn_class0 : List Cond := .code y_Tn_class0 prog_1_method_2_code 2 (some .int) :: tq_T
def y_Tn_concept : MethodName := ⟨"TableauNodes", "concept", "(III)I"⟩
abbrev w_Tn_concept : List Cond := .code y_Tn_concept prog_1_method_3_code 4 (some .int) :: tq_T
def y_Tn_told : MethodName := ⟨"TableauNodes", "told", "(II)I"⟩
abbrev w_Tn_told : List Cond := .code y_Tn_told prog_1_method_4_code 3 (some .int) :: tq_T
def y_Tn_concepts : MethodName := ⟨"TableauNodes", "concepts", "()I"⟩
abbrev w_Tn_concepts : List Cond := .code y_Tn_concepts prog_1_method_5_code 1 (some .int) :: tq_T
def y_Tn_atoms : MethodName := ⟨"TableauNodes", "atoms", "()I"⟩
abbrev w_Tn_atoms : List Cond := .code y_Tn_atoms prog_1_method_6_code 1 (some .int) :: tq_T
def y_Tn_axiom : MethodName := ⟨"TableauNodes", "axiom", "(II)I"⟩
abbrev w_Tn_axiom : List Cond := .code y_Tn_axiom prog_1_method_7_code 3 (some .int) :: tq_T
def y_Tn_drop : MethodName := ⟨"TableauNodes", "drop", "()I"⟩
abbrev w_Tn_drop : List Cond := .code y_Tn_drop prog_1_method_8_code 1 (some .int) :: tq_T
def y_Tn_role : MethodName := ⟨"TableauNodes", "role", "(II)I"⟩
abbrev w_Tn_role : List Cond := .code y_Tn_role prog_1_method_9_code 3 (some .int) :: tq_T
def y_Tn_can : MethodName := ⟨"TableauNodes", "can", "(I)I"⟩
abbrev w_Tn_can : List Cond := .code y_Tn_can prog_1_method_10_code 2 (some .int) :: tq_T
def y_Tn_below : MethodName := ⟨"TableauNodes", "below", "(II)I"⟩
abbrev w_Tn_below : List Cond := .code y_Tn_below prog_1_method_11_code 3 (some .int) :: tq_T
def y_Tn_types : MethodName := ⟨"TableauNodes", "types", "()I"⟩
abbrev w_Tn_types : List Cond := .code y_Tn_types prog_1_method_12_code 1 (some .int) :: tq_T
def y_Tn_rounds : MethodName := ⟨"TableauNodes", "rounds", "()I"⟩
abbrev w_Tn_rounds : List Cond := .code y_Tn_rounds prog_1_method_13_code 1 (some .int) :: tq_T
def y_Tn_depth : MethodName := ⟨"TableauNodes", "depth", "(I)I"⟩
abbrev w_Tn_depth : List Cond := .code y_Tn_depth prog_1_method_14_code 2 (some .int) :: tq_T
def y_Tn_individual : MethodName := ⟨"TableauNodes", "individual", "(II)I"⟩
abbrev w_Tn_individual : List Cond := .code y_Tn_individual prog_1_method_15_code 3 (some .int) :: tq_T
def y_Tn_has : MethodName := ⟨"TableauNodes", "has", "(III)I"⟩
abbrev w_Tn_has : List Cond := .code y_Tn_has prog_1_method_16_code 5 (some .int) :: tq_T
def y_Tn_forget : MethodName := ⟨"TableauNodes", "forget", "()I"⟩
abbrev w_Tn_forget : List Cond := .code y_Tn_forget prog_1_method_17_code 1 (some .int) :: tq_T
def y_Tn_run : MethodName := ⟨"TableauNodes", "run", "()I"⟩
abbrev w_Tn_run : List Cond := .code y_Tn_run prog_1_method_18_code 1 (some .int) :: tq_T
def y_Tn_model : MethodName := ⟨"TableauNodes", "model", "(I)I"⟩
abbrev w_Tn_model : List Cond := .code y_Tn_model prog_1_method_19_code 2 (some .int) :: tq_T
def y_Tn_surely : MethodName := ⟨"TableauNodes", "surely", "(II)I"⟩
abbrev w_Tn_surely : List Cond := .code y_Tn_surely prog_1_method_20_code 3 (some .int) :: tq_T
def y_Tn_isBelow : MethodName := ⟨"TableauNodes", "isBelow", "(II)Z"⟩
abbrev w_Tn_isBelow : List Cond := .code y_Tn_isBelow prog_1_method_21_code 2 (some .boolean) :: tq_T
def y_Tn_hasBit : MethodName := ⟨"TableauNodes", "hasBit", "(JI)Z"⟩
abbrev w_Tn_hasBit : List Cond := .code y_Tn_hasBit prog_1_method_22_code 3 (some .boolean) :: tq_T
def y_Tn_lowestBit : MethodName := ⟨"TableauNodes", "lowestBit", "(J)I"⟩
abbrev w_Tn_lowestBit : List Cond := .code y_Tn_lowestBit prog_1_method_23_code 2 (some .int) :: tq_T
def y_Mo_init : MethodName := ⟨"TableauNodesModel", "<init>", "()V"⟩
abbrev w_Mo_init : List Cond := .code y_Mo_init prog_7_method_1_code 1 none :: tq_T
def y_Mo_isConcept : MethodName := ⟨"TableauNodesModel", "isConcept", "(I)Z"⟩
abbrev w_Mo_isConcept : List Cond := .code y_Mo_isConcept prog_7_method_2_code 2 (some .boolean) :: tq_T
def y_Mo_isRole : MethodName := ⟨"TableauNodesModel", "isRole", "(I)Z"⟩
abbrev w_Mo_isRole : List Cond := .code y_Mo_isRole prog_7_method_3_code 1 (some .boolean) :: tq_T
def y_Mo_isThing : MethodName := ⟨"TableauNodesModel", "isThing", "(I)Z"⟩
abbrev w_Mo_isThing : List Cond := .code y_Mo_isThing prog_7_method_4_code 1 (some .boolean) :: tq_T
def y_Mo_find : MethodName := ⟨"TableauNodesModel", "find", "(III)I"⟩
abbrev w_Mo_find : List Cond := .code y_Mo_find prog_7_method_5_code 5 (some .int) :: tq_T
def y_Mo_make : MethodName := ⟨"TableauNodesModel", "make", "(III)I"⟩
abbrev w_Mo_make : List Cond := .code y_Mo_make prog_7_method_6_code 6 (some .int) :: tq_T
def y_Mo_class0 : MethodName := ⟨"TableauNodesModel", "class0", "(I)I"⟩
abbrev w_Mo_class0 : List Cond := .code y_Mo_class0 prog_7_method_7_code 2 (some .int) :: tq_T
def y_Mo_concept : MethodName := ⟨"TableauNodesModel", "concept", "(III)I"⟩
abbrev w_Mo_concept : List Cond := .code y_Mo_concept prog_7_method_8_code 5 (some .int) :: tq_T
def y_Mo_told : MethodName := ⟨"TableauNodesModel", "told", "(II)I"⟩
abbrev w_Mo_told : List Cond := .code y_Mo_told prog_7_method_9_code 3 (some .int) :: tq_T
def y_Mo_concepts : MethodName := ⟨"TableauNodesModel", "concepts", "()I"⟩
abbrev w_Mo_concepts : List Cond := .code y_Mo_concepts prog_7_method_10_code 1 (some .int) :: tq_T
def y_Mo_atoms : MethodName := ⟨"TableauNodesModel", "atoms", "()I"⟩
abbrev w_Mo_atoms : List Cond := .code y_Mo_atoms prog_7_method_11_code 1 (some .int) :: tq_T
def y_Mo_axiom : MethodName := ⟨"TableauNodesModel", "axiom", "(II)I"⟩
abbrev w_Mo_axiom : List Cond := .code y_Mo_axiom prog_7_method_12_code 3 (some .int) :: tq_T
def y_Mo_drop : MethodName := ⟨"TableauNodesModel", "drop", "()I"⟩
abbrev w_Mo_drop : List Cond := .code y_Mo_drop prog_7_method_13_code 1 (some .int) :: tq_T
def y_Mo_role : MethodName := ⟨"TableauNodesModel", "role", "(II)I"⟩
abbrev w_Mo_role : List Cond := .code y_Mo_role prog_7_method_14_code 3 (some .int) :: tq_T
def y_Mo_size : MethodName := ⟨"TableauNodesModel", "size", "()I"⟩
abbrev w_Mo_size : List Cond := .code y_Mo_size prog_7_method_15_code 1 (some .int) :: tq_T
def y_Mo_atomOf : MethodName := ⟨"TableauNodesModel", "atomOf", "(I)I"⟩
abbrev w_Mo_atomOf : List Cond := .code y_Mo_atomOf prog_7_method_16_code 3 (some .int) :: tq_T
def y_Mo_isHeld : MethodName := ⟨"TableauNodesModel", "isHeld", "(II)Z"⟩
abbrev w_Mo_isHeld : List Cond := .code y_Mo_isHeld prog_7_method_17_code 3 (some .boolean) :: tq_T
def y_Mo_weigh : MethodName := ⟨"TableauNodesModel", "weigh", "(II)Z"⟩
abbrev w_Mo_weigh : List Cond := .code y_Mo_weigh prog_7_method_18_code 5 (some .boolean) :: tq_T
def y_Mo_work : MethodName := ⟨"TableauNodesModel", "work", "()V"⟩
abbrev w_Mo_work : List Cond := .code y_Mo_work prog_7_method_19_code 3 none :: tq_T
def y_Mo_forbids : MethodName := ⟨"TableauNodesModel", "forbids", "(II)I"⟩
abbrev w_Mo_forbids : List Cond := .code y_Mo_forbids prog_7_method_20_code 6 (some .int) :: tq_T
def y_Mo_sees : MethodName := ⟨"TableauNodesModel", "sees", "(III)Z"⟩
abbrev w_Mo_sees : List Cond := .code y_Mo_sees prog_7_method_21_code 4 (some .boolean) :: tq_T
def y_Mo_turn : MethodName := ⟨"TableauNodesModel", "turn", "(I)Z"⟩
abbrev w_Mo_turn : List Cond := .code y_Mo_turn prog_7_method_22_code 6 (some .boolean) :: tq_T
def y_Mo_isThere : MethodName := ⟨"TableauNodesModel", "isThere", "(III)Z"⟩
abbrev w_Mo_isThere : List Cond := .code y_Mo_isThere prog_7_method_23_code 6 (some .boolean) :: tq_T
def y_Mo_can : MethodName := ⟨"TableauNodesModel", "can", "(I)I"⟩
abbrev w_Mo_can : List Cond := .code y_Mo_can prog_7_method_24_code 3 (some .int) :: tq_T
def y_Mo_below : MethodName := ⟨"TableauNodesModel", "below", "(II)I"⟩
abbrev w_Mo_below : List Cond := .code y_Mo_below prog_7_method_25_code 4 (some .int) :: tq_T
def y_Mo_types : MethodName := ⟨"TableauNodesModel", "types", "()I"⟩
abbrev w_Mo_types : List Cond := .code y_Mo_types prog_7_method_26_code 3 (some .int) :: tq_T
def y_Mo_rounds : MethodName := ⟨"TableauNodesModel", "rounds", "()I"⟩
abbrev w_Mo_rounds : List Cond := .code y_Mo_rounds prog_7_method_27_code 1 (some .int) :: tq_T
def y_Mo_depth : MethodName := ⟨"TableauNodesModel", "depth", "(I)I"⟩
abbrev w_Mo_depth : List Cond := .code y_Mo_depth prog_7_method_28_code 2 (some .int) :: tq_T
def y_Mo_individual : MethodName := ⟨"TableauNodesModel", "individual", "(II)I"⟩
abbrev w_Mo_individual : List Cond := .code y_Mo_individual prog_7_method_29_code 3 (some .int) :: tq_T
def y_Mo_has : MethodName := ⟨"TableauNodesModel", "has", "(III)I"⟩
abbrev w_Mo_has : List Cond := .code y_Mo_has prog_7_method_30_code 4 (some .int) :: tq_T
def y_Mo_forget : MethodName := ⟨"TableauNodesModel", "forget", "()I"⟩
abbrev w_Mo_forget : List Cond := .code y_Mo_forget prog_7_method_31_code 2 (some .int) :: tq_T
def y_Mo_at : MethodName := ⟨"TableauNodesModel", "at", "(III)I"⟩
abbrev w_Mo_at : List Cond := .code y_Mo_at prog_7_method_32_code 3 (some .int) :: tq_T
def y_Mo_search : MethodName := ⟨"TableauNodesModel", "search", "(II)Z"⟩
abbrev w_Mo_search : List Cond := .code y_Mo_search prog_7_method_33_code 5 (some .boolean) :: tq_T
def y_Mo_isSaid : MethodName := ⟨"TableauNodesModel", "isSaid", "(II)Z"⟩
abbrev w_Mo_isSaid : List Cond := .code y_Mo_isSaid prog_7_method_34_code 5 (some .boolean) :: tq_T
def y_Mo_isLeft : MethodName := ⟨"TableauNodesModel", "isLeft", "(II)Z"⟩
abbrev w_Mo_isLeft : List Cond := .code y_Mo_isLeft prog_7_method_35_code 9 (some .boolean) :: tq_T
def y_Mo_run : MethodName := ⟨"TableauNodesModel", "run", "()I"⟩
abbrev w_Mo_run : List Cond := .code y_Mo_run prog_7_method_36_code 1 (some .int) :: tq_T
def y_Mo_model : MethodName := ⟨"TableauNodesModel", "model", "(I)I"⟩
abbrev w_Mo_model : List Cond := .code y_Mo_model prog_7_method_37_code 2 (some .int) :: tq_T
def y_Mo_surely : MethodName := ⟨"TableauNodesModel", "surely", "(II)I"⟩
abbrev w_Mo_surely : List Cond := .code y_Mo_surely prog_7_method_38_code 3 (some .int) :: tq_T
def y_Co_init : MethodName := ⟨"TableauNodes$Concepts", "<init>", "()V"⟩
abbrev w_Co_init : List Cond := .code y_Co_init prog_2_method_1_code 1 none :: tq_T
def y_Co_size : MethodName := ⟨"TableauNodes$Concepts", "size", "()I"⟩
abbrev w_Co_size : List Cond := .code y_Co_size prog_2_method_2_code 1 (some .int) :: tq_T
def y_Co_atomCount : MethodName := ⟨"TableauNodes$Concepts", "atomCount", "()I"⟩
abbrev w_Co_atomCount : List Cond := .code y_Co_atomCount prog_2_method_3_code 1 (some .int) :: tq_T
def y_Co_typeCount : MethodName := ⟨"TableauNodes$Concepts", "typeCount", "()I"⟩
abbrev w_Co_typeCount : List Cond := .code y_Co_typeCount prog_2_method_4_code 1 (some .int) :: tq_T
def y_Co_wordCount : MethodName := ⟨"TableauNodes$Concepts", "wordCount", "()I"⟩
abbrev w_Co_wordCount : List Cond := .code y_Co_wordCount prog_2_method_5_code 1 (some .int) :: tq_T
def y_Co_typesInWord : MethodName := ⟨"TableauNodes$Concepts", "typesInWord", "()J"⟩
abbrev w_Co_typesInWord : List Cond := .code y_Co_typesInWord prog_2_method_6_code 1 (some .long) :: tq_T
def y_Co_isThere : MethodName := ⟨"TableauNodes$Concepts", "isThere", "(I)Z"⟩
abbrev w_Co_isThere : List Cond := .code y_Co_isThere prog_2_method_7_code 2 (some .boolean) :: tq_T
def y_Co_part : MethodName := ⟨"TableauNodes$Concepts", "part", "(II)I"⟩
abbrev w_Co_part : List Cond := .code y_Co_part prog_2_method_8_code 3 (some .int) :: tq_T
def y_Co_make : MethodName := ⟨"TableauNodes$Concepts", "make", "(III)I"⟩
abbrev w_Co_make : List Cond := .code y_Co_make prog_2_method_9_code 5 (some .int) :: tq_T
def y_Co_makeAll : MethodName := ⟨"TableauNodes$Concepts", "makeAll", "(II)I"⟩
abbrev w_Co_makeAll : List Cond := .code y_Co_makeAll prog_2_method_10_code 6 (some .int) :: tq_T
def y_Co_word : MethodName := ⟨"TableauNodes$Concepts", "word", "(II)J"⟩
abbrev w_Co_word : List Cond := .code y_Co_word prog_2_method_11_code 4 (some .long) :: tq_T
def y_Co_holds : MethodName := ⟨"TableauNodes$Concepts", "holds", "(II)Z"⟩
abbrev w_Co_holds : List Cond := .code y_Co_holds prog_2_method_12_code 3 (some .boolean) :: tq_T
def y_Co_atomWord : MethodName := ⟨"TableauNodes$Concepts", "atomWord", "(II)J"⟩
abbrev w_Co_atomWord : List Cond := .code y_Co_atomWord prog_2_method_13_code 3 (some .long) :: tq_T
def y_Co_innerWord : MethodName := ⟨"TableauNodes$Concepts", "innerWord", "(II)J"⟩
abbrev w_Co_innerWord : List Cond := .code y_Co_innerWord prog_2_method_14_code 4 (some .long) :: tq_T
def y_Co_inners : MethodName := ⟨"TableauNodes$Concepts", "inners", "(I)I"⟩
abbrev w_Co_inners : List Cond := .code y_Co_inners prog_2_method_15_code 2 (some .int) :: tq_T
def y_Co_isSome : MethodName := ⟨"TableauNodes$Concepts", "isSome", "(I)Z"⟩
abbrev w_Co_isSome : List Cond := .code y_Co_isSome prog_2_method_16_code 2 (some .boolean) :: tq_T
def y_Co_roleOfSome : MethodName := ⟨"TableauNodes$Concepts", "roleOfSome", "(I)I"⟩
abbrev w_Co_roleOfSome : List Cond := .code y_Co_roleOfSome prog_2_method_17_code 2 (some .int) :: tq_T
def y_Co_find : MethodName := ⟨"TableauNodes$Concepts", "find", "(III)I"⟩
abbrev w_Co_find : List Cond := .code y_Co_find prog_2_method_18_code 5 (some .int) :: tq_T
def y_Co_add : MethodName := ⟨"TableauNodes$Concepts", "add", "(III)I"⟩
abbrev w_Co_add : List Cond := .code y_Co_add prog_2_method_19_code 8 (some .int) :: tq_T
def y_Co_newWord : MethodName := ⟨"TableauNodes$Concepts", "newWord", "(IIII)J"⟩
abbrev w_Co_newWord : List Cond := .code y_Co_newWord prog_2_method_20_code 5 (some .long) :: tq_T
def y_Co_addAtom : MethodName := ⟨"TableauNodes$Concepts", "addAtom", "(I)V"⟩
abbrev w_Co_addAtom : List Cond := .code y_Co_addAtom prog_2_method_21_code 3 none :: tq_T
def y_Co_noteInner : MethodName := ⟨"TableauNodes$Concepts", "noteInner", "(II)V"⟩
abbrev w_Co_noteInner : List Cond := .code y_Co_noteInner prog_2_method_22_code 7 none :: tq_T
def y_Go_init : MethodName := ⟨"TableauNodes$GoodTypes", "<init>", "(LTableauNodes$Concepts;LTableauNodes$Roles;)V"⟩
abbrev w_Go_init : List Cond := .code y_Go_init prog_3_method_1_code 3 none :: tq_T
def y_Go_addAxiom : MethodName := ⟨"TableauNodes$GoodTypes", "addAxiom", "(II)I"⟩
abbrev w_Go_addAxiom : List Cond := .code y_Go_addAxiom prog_3_method_2_code 3 (some .int) :: tq_T
def y_Go_dropAxiom : MethodName := ⟨"TableauNodes$GoodTypes", "dropAxiom", "()I"⟩
abbrev w_Go_dropAxiom : List Cond := .code y_Go_dropAxiom prog_3_method_3_code 1 (some .int) :: tq_T
def y_Go_rolesChanged : MethodName := ⟨"TableauNodes$GoodTypes", "rolesChanged", "()V"⟩
abbrev w_Go_rolesChanged : List Cond := .code y_Go_rolesChanged prog_3_method_4_code 1 none :: tq_T
def y_Go_refresh : MethodName := ⟨"TableauNodes$GoodTypes", "refresh", "()V"⟩
abbrev w_Go_refresh : List Cond := .code y_Go_refresh prog_3_method_5_code 2 none :: tq_T
def y_Go_version : MethodName := ⟨"TableauNodes$GoodTypes", "version", "()I"⟩
abbrev w_Go_version : List Cond := .code y_Go_version prog_3_method_6_code 1 (some .int) :: tq_T
def y_Go_size : MethodName := ⟨"TableauNodes$GoodTypes", "size", "()I"⟩
abbrev w_Go_size : List Cond := .code y_Go_size prog_3_method_7_code 3 (some .int) :: tq_T
def y_Go_roundCount : MethodName := ⟨"TableauNodes$GoodTypes", "roundCount", "()I"⟩
abbrev w_Go_roundCount : List Cond := .code y_Go_roundCount prog_3_method_8_code 1 (some .int) :: tq_T
def y_Go_depthOf : MethodName := ⟨"TableauNodes$GoodTypes", "depthOf", "(I)I"⟩
abbrev w_Go_depthOf : List Cond := .code y_Go_depthOf prog_3_method_9_code 2 (some .int) :: tq_T
def y_Go_someAre : MethodName := ⟨"TableauNodes$GoodTypes", "someAre", "(I)Z"⟩
abbrev w_Go_someAre : List Cond := .code y_Go_someAre prog_3_method_10_code 3 (some .boolean) :: tq_T
def y_Go_eachIs : MethodName := ⟨"TableauNodes$GoodTypes", "eachIs", "(II)Z"⟩
abbrev w_Go_eachIs : List Cond := .code y_Go_eachIs prog_3_method_11_code 4 (some .boolean) :: tq_T
def y_Go_word : MethodName := ⟨"TableauNodes$GoodTypes", "word", "(I)J"⟩
abbrev w_Go_word : List Cond := .code y_Go_word prog_3_method_12_code 2 (some .long) :: tq_T
def y_Go_watched : MethodName := ⟨"TableauNodes$GoodTypes", "watched", "(I)I"⟩
abbrev w_Go_watched : List Cond := .code y_Go_watched prog_3_method_13_code 2 (some .int) :: tq_T
def y_Go_sortSomes : MethodName := ⟨"TableauNodes$GoodTypes", "sortSomes", "()V"⟩
abbrev w_Go_sortSomes : List Cond := .code y_Go_sortSomes prog_3_method_14_code 4 none :: tq_T
def y_Go_begin : MethodName := ⟨"TableauNodes$GoodTypes", "begin", "()V"⟩
abbrev w_Go_begin : List Cond := .code y_Go_begin prog_3_method_15_code 4 none :: tq_T
def y_Go_keptByAxioms : MethodName := ⟨"TableauNodes$GoodTypes", "keptByAxioms", "(JI)J"⟩
abbrev w_Go_keptByAxioms : List Cond := .code y_Go_keptByAxioms prog_3_method_16_code 7 (some .long) :: tq_T
def y_Go_isThere : MethodName := ⟨"TableauNodes$GoodTypes", "isThere", "(I)Z"⟩
abbrev w_Go_isThere : List Cond := .code y_Go_isThere prog_3_method_17_code 2 (some .boolean) :: tq_T
def y_Go_makeRound : MethodName := ⟨"TableauNodes$GoodTypes", "makeRound", "(I)Z"⟩
abbrev w_Go_makeRound : List Cond := .code y_Go_makeRound prog_3_method_18_code 4 (some .boolean) :: tq_T
def y_Go_takeAway : MethodName := ⟨"TableauNodes$GoodTypes", "takeAway", "(II)V"⟩
abbrev w_Go_takeAway : List Cond := .code y_Go_takeAway prog_3_method_19_code 6 none :: tq_T
def y_Go_markUnserved : MethodName := ⟨"TableauNodes$GoodTypes", "markUnserved", "(I)V"⟩
abbrev w_Go_markUnserved : List Cond := .code y_Go_markUnserved prog_3_method_20_code 4 none :: tq_T
def y_Go_findServed : MethodName := ⟨"TableauNodes$GoodTypes", "findServed", "(I)V"⟩
abbrev w_Go_findServed : List Cond := .code y_Go_findServed prog_3_method_21_code 7 none :: tq_T
def y_Go_spreadServed : MethodName := ⟨"TableauNodes$GoodTypes", "spreadServed", "(III)V"⟩
abbrev w_Go_spreadServed : List Cond := .code y_Go_spreadServed prog_3_method_22_code 6 none :: tq_T
def y_Ro_init : MethodName := ⟨"TableauNodes$Roles", "<init>", "()V"⟩
abbrev w_Ro_init : List Cond := .code y_Ro_init prog_4_method_1_code 1 none :: tq_T
def y_Ro_say : MethodName := ⟨"TableauNodes$Roles", "say", "(II)Z"⟩
abbrev w_Ro_say : List Cond := .code y_Ro_say prog_4_method_2_code 3 (some .boolean) :: tq_T
def y_Ro_isUnder : MethodName := ⟨"TableauNodes$Roles", "isUnder", "(II)Z"⟩
abbrev w_Ro_isUnder : List Cond := .code y_Ro_isUnder prog_4_method_3_code 3 (some .boolean) :: tq_T
def y_Ro_close : MethodName := ⟨"TableauNodes$Roles", "close", "()V"⟩
abbrev w_Ro_close : List Cond := .code y_Ro_close prog_4_method_4_code 3 none :: tq_T
def y_Th_init : MethodName := ⟨"TableauNodes$Things", "<init>", "(LTableauNodes$Concepts;LTableauNodes$GoodTypes;)V"⟩
abbrev w_Th_init : List Cond := .code y_Th_init prog_5_method_1_code 3 none :: tq_T
def y_Th_sayIs : MethodName := ⟨"TableauNodes$Things", "sayIs", "(II)I"⟩
abbrev w_Th_sayIs : List Cond := .code y_Th_sayIs prog_5_method_2_code 4 (some .int) :: tq_T
def y_Th_sayHas : MethodName := ⟨"TableauNodes$Things", "sayHas", "(III)I"⟩
abbrev w_Th_sayHas : List Cond := .code y_Th_sayHas prog_5_method_3_code 4 (some .int) :: tq_T
def y_Th_forgetAll : MethodName := ⟨"TableauNodes$Things", "forgetAll", "()I"⟩
abbrev w_Th_forgetAll : List Cond := .code y_Th_forgetAll prog_5_method_4_code 2 (some .int) :: tq_T
def y_Th_settle : MethodName := ⟨"TableauNodes$Things", "settle", "()V"⟩
abbrev w_Th_settle : List Cond := .code y_Th_settle prog_5_method_5_code 2 none :: tq_T
def y_Th_goTogether : MethodName := ⟨"TableauNodes$Things", "goTogether", "()Z"⟩
abbrev w_Th_goTogether : List Cond := .code y_Th_goTogether prog_5_method_6_code 1 (some .boolean) :: tq_T
def y_Th_typeOf : MethodName := ⟨"TableauNodes$Things", "typeOf", "(I)I"⟩
abbrev w_Th_typeOf : List Cond := .code y_Th_typeOf prog_5_method_7_code 2 (some .int) :: tq_T
def y_Th_canLack : MethodName := ⟨"TableauNodes$Things", "canLack", "(II)Z"⟩
abbrev w_Th_canLack : List Cond := .code y_Th_canLack prog_5_method_8_code 4 (some .boolean) :: tq_T
def y_Th_clear : MethodName := ⟨"TableauNodes$Things", "clear", "()V"⟩
abbrev w_Th_clear : List Cond := .code y_Th_clear prog_5_method_9_code 2 none :: tq_T
def y_Th_sortLinks : MethodName := ⟨"TableauNodes$Things", "sortLinks", "()V"⟩
abbrev w_Th_sortLinks : List Cond := .code y_Th_sortLinks prog_5_method_10_code 3 none :: tq_T
def y_Th_begin : MethodName := ⟨"TableauNodes$Things", "begin", "()V"⟩
abbrev w_Th_begin : List Cond := .code y_Th_begin prog_5_method_11_code 6 none :: tq_T
def y_Th_seeingThemselves : MethodName := ⟨"TableauNodes$Things", "seeingThemselves", "(JII)J"⟩
abbrev w_Th_seeingThemselves : List Cond := .code y_Th_seeingThemselves prog_5_method_12_code 8 (some .long) :: tq_T
def y_Th_countLeft : MethodName := ⟨"TableauNodes$Things", "countLeft", "(II)I"⟩
abbrev w_Th_countLeft : List Cond := .code y_Th_countLeft prog_5_method_13_code 6 (some .int) :: tq_T
def y_Th_canExtend : MethodName := ⟨"TableauNodes$Things", "canExtend", "(II)Z"⟩
abbrev w_Th_canExtend : List Cond := .code y_Th_canExtend prog_5_method_14_code 8 (some .boolean) :: tq_T
def y_Th_mostBound : MethodName := ⟨"TableauNodes$Things", "mostBound", "(II)I"⟩
abbrev w_Th_mostBound : List Cond := .code y_Th_mostBound prog_5_method_15_code 7 (some .int) :: tq_T
def y_Th_findDemands : MethodName := ⟨"TableauNodes$Things", "findDemands", "(III)I"⟩
abbrev w_Th_findDemands : List Cond := .code y_Th_findDemands prog_5_method_16_code 14 (some .int) :: tq_T
def y_Th_addDemand : MethodName := ⟨"TableauNodes$Things", "addDemand", "(III)I"⟩
abbrev w_Th_addDemand : List Cond := .code y_Th_addDemand prog_5_method_17_code 6 (some .int) :: tq_T
def y_Th_passOn : MethodName := ⟨"TableauNodes$Things", "passOn", "(IIII)Z"⟩
abbrev w_Th_passOn : List Cond := .code y_Th_passOn prog_5_method_18_code 15 (some .boolean) :: tq_T
def y_Th_fitting : MethodName := ⟨"TableauNodes$Things", "fitting", "(JIII)J"⟩
abbrev w_Th_fitting : List Cond := .code y_Th_fitting prog_5_method_19_code 10 (some .long) :: tq_T
def y_Th_leaveFirst : MethodName := ⟨"TableauNodes$Things", "leaveFirst", "(I)Z"⟩
abbrev w_Th_leaveFirst : List Cond := .code y_Th_leaveFirst prog_5_method_20_code 6 (some .boolean) :: tq_T
def y_Th_leaveLeast : MethodName := ⟨"TableauNodes$Things", "leaveLeast", "(I)V"⟩
abbrev w_Th_leaveLeast : List Cond := .code y_Th_leaveLeast prog_5_method_21_code 5 none :: tq_T
def y_Th_leaveHalf : MethodName := ⟨"TableauNodes$Things", "leaveHalf", "(IIZ)V"⟩
abbrev w_Th_leaveHalf : List Cond := .code y_Th_leaveHalf prog_5_method_22_code 7 none :: tq_T
def y_Th_keepSpare : MethodName := ⟨"TableauNodes$Things", "keepSpare", "(I)V"⟩
abbrev w_Th_keepSpare : List Cond := .code y_Th_keepSpare prog_5_method_23_code 2 none :: tq_T
def y_Th_takeSpare : MethodName := ⟨"TableauNodes$Things", "takeSpare", "(I)V"⟩
abbrev w_Th_takeSpare : List Cond := .code y_Th_takeSpare prog_5_method_24_code 2 none :: tq_T
def y_Th_firstLeft : MethodName := ⟨"TableauNodes$Things", "firstLeft", "(I)I"⟩
abbrev w_Th_firstLeft : List Cond := .code y_Th_firstLeft prog_5_method_25_code 5 (some .int) :: tq_T
def y_Ji_bitCount : MethodName := ⟨"java/lang/Integer", "bitCount", "(I)I"⟩
abbrev w_Ji_bitCount : List Cond := .code y_Ji_bitCount prog_8_method_49_code 1 (some .int) :: tq_T
def y_Jl_bitCount : MethodName := ⟨"java/lang/Long", "bitCount", "(J)I"⟩
abbrev w_Jl_bitCount : List Cond := .code y_Jl_bitCount prog_9_method_50_code 2 (some .int) :: tq_T
def y_Jm_min : MethodName := ⟨"java/lang/Math", "min", "(II)I"⟩
abbrev w_Jm_min : List Cond := .code y_Jm_min prog_10_method_69_code 2 (some .int) :: tq_T
def tq_nest : List (String × Nat × MethodName) := [("TableauNodes$Concepts", 65, y_Tn_hasBit), ("TableauNodes$Roles", 25, y_Tn_hasBit), ("TableauNodes$Roles", 21, y_Tn_isBelow), ("TableauNodes$Concepts", 72, y_Tn_isBelow), ("TableauNodes$GoodTypes", 123, y_Tn_hasBit), ("TableauNodes$GoodTypes", 135, y_Tn_lowestBit), ("TableauNodes$GoodTypes", 84, y_Tn_isBelow), ("TableauNodes$Things", 49, y_Tn_isBelow), ("TableauNodes$Things", 107, y_Tn_hasBit), ("TableauNodes$Things", 160, y_Tn_lowestBit)]
def wo (cI cL cZ : ClassId) (ad : Nat → Nat) (σ : tq_S) : va_W := [
  (ad 0, .inr (0, [.ref (ad 1), .ref (ad 2), .ref (ad 3), .ref (ad 4)])),
  (ad 1, .inr (1, [.ref (ad 6), .ref (ad 7), .ref (ad 8), .ref (ad 9), .ref (ad 10), .ref (ad 11), .ref (ad 12), .int (σ.2.2 0), .int (σ.2.2 1)])),
  (ad 2, .inr (2, [.ref (ad 13), .ref (ad 14)])),
  (ad 3, .inr (3, [.ref (ad 1), .ref (ad 2), .ref (ad 15), .ref (ad 16), .int (σ.2.2 2), .ref (ad 17), .ref (ad 18), .ref (ad 19), .ref (ad 20), .ref (ad 21), .ref (ad 22), .int (σ.2.2 3), .int (σ.2.2 4), .int (σ.2.2 5), .int (σ.2.2 6)])),
  (ad 4, .inr (4, [.ref (ad 1), .ref (ad 3), .ref (ad 23), .ref (ad 24), .ref (ad 25), .int (σ.2.2 7), .int (σ.2.2 8), .ref (ad 26), .ref (ad 27), .ref (ad 28), .int (σ.2.2 9), .ref (ad 29), .int (σ.2.2 10), .int (σ.2.2 11), .int (σ.2.2 12)])),
  (ad 5, .inr (5, [.ref (ad 30), .ref (ad 31), .ref (ad 32), .int (σ.2.2 13), .ref (ad 33), .int (σ.2.2 14), .ref (ad 34), .ref (ad 35), .int (σ.2.2 15), .ref (ad 36), .ref (ad 37), .ref (ad 38), .int (σ.2.2 16), .ref (ad 39), .ref (ad 40), .ref (ad 41), .int (σ.2.2 17), .int (σ.2.2 18), .ref (ad 42), .ref (ad 43), .ref (ad 44), .ref (ad 45), .int (σ.2.2 19), .ref (ad 46), .ref (ad 47)])),
  (ad 6, .inl (cI, 80, .inl (σ.1 0))),
  (ad 7, .inl (cI, 80, .inl (σ.1 1))),
  (ad 8, .inl (cI, 80, .inl (σ.1 2))),
  (ad 9, .inl (cL, 1280, .inr (.inl (σ.2.1 0)))),
  (ad 10, .inl (cI, 10, .inl (σ.1 3))),
  (ad 11, .inl (cL, 160, .inr (.inl (σ.2.1 1)))),
  (ad 12, .inl (cI, 1024, .inl (σ.1 4))),
  (ad 13, .inl (cI, 4, .inl (σ.1 5))),
  (ad 14, .inl (cI, 4, .inl (σ.1 6))),
  (ad 15, .inl (cI, 30, .inl (σ.1 7))),
  (ad 16, .inl (cI, 30, .inl (σ.1 8))),
  (ad 17, .inl (cI, 4, .inl (σ.1 9))),
  (ad 18, .inl (cI, 4, .inl (σ.1 10))),
  (ad 19, .inl (cL, 16, .inr (.inl (σ.2.1 2)))),
  (ad 20, .inl (cL, 16, .inr (.inl (σ.2.1 3)))),
  (ad 21, .inl (cI, 1024, .inl (σ.1 11))),
  (ad 22, .inl (cI, 1024, .inl (σ.1 12))),
  (ad 23, .inl (cL, 80, .inr (.inl (σ.2.1 4)))),
  (ad 24, .inl (cI, 25, .inl (σ.1 13))),
  (ad 25, .inl (cI, 25, .inl (σ.1 14))),
  (ad 26, .inl (cL, 400, .inr (.inl (σ.2.1 5)))),
  (ad 27, .inl (cI, 4096, .inl (σ.1 15))),
  (ad 28, .inl (cL, 16, .inr (.inl (σ.2.1 6)))),
  (ad 29, .inl (cI, 5, .inl (σ.1 16))),
  (ad 30, .inl (cI, 80, .inl (σ.1 17))),
  (ad 31, .inl (cI, 80, .inl (σ.1 18))),
  (ad 32, .inl (cI, 80, .inl (σ.1 19))),
  (ad 33, .inl (cI, 10, .inl (σ.1 20))),
  (ad 34, .inl (cI, 30, .inl (σ.1 21))),
  (ad 35, .inl (cI, 30, .inl (σ.1 22))),
  (ad 36, .inl (cZ, 16, .inl (σ.1 23))),
  (ad 37, .inl (cI, 40, .inl (σ.1 24))),
  (ad 38, .inl (cI, 40, .inl (σ.1 25))),
  (ad 39, .inl (cI, 40, .inl (σ.1 26))),
  (ad 40, .inl (cI, 40, .inl (σ.1 27))),
  (ad 41, .inl (cI, 40, .inl (σ.1 28))),
  (ad 42, .inl (cZ, 81920, .inl (σ.1 29))),
  (ad 43, .inl (cI, 1024, .inl (σ.1 30))),
  (ad 44, .inl (cI, 1024, .inl (σ.1 31))),
  (ad 45, .inl (cZ, 16, .inl (σ.1 32))),
  (ad 46, .inl (cZ, 30720, .inl (σ.1 33))),
  (ad 47, .inl (cI, 5, .inl (σ.1 34)))]
theorem ws_f0 (cI cL cZ : ClassId) (ad : Nat → Nat) (σ : tq_S) (x : Int32) : (wo cI cL cZ ad σ).set 1 (ad 1, .inr (1, List.set [.ref (ad 6), .ref (ad 7), .ref (ad 8), .ref (ad 9), .ref (ad 10), .ref (ad 11), .ref (ad 12), .int (σ.2.2 0), .int (σ.2.2 1)] 7 (.int x))) = wo cI cL cZ ad (fput σ 0 x) := rfl
theorem ws_f1 (cI cL cZ : ClassId) (ad : Nat → Nat) (σ : tq_S) (x : Int32) : (wo cI cL cZ ad σ).set 1 (ad 1, .inr (1, List.set [.ref (ad 6), .ref (ad 7), .ref (ad 8), .ref (ad 9), .ref (ad 10), .ref (ad 11), .ref (ad 12), .int (σ.2.2 0), .int (σ.2.2 1)] 8 (.int x))) = wo cI cL cZ ad (fput σ 1 x) := rfl
theorem ws_f2 (cI cL cZ : ClassId) (ad : Nat → Nat) (σ : tq_S) (x : Int32) : (wo cI cL cZ ad σ).set 3 (ad 3, .inr (3, List.set [.ref (ad 1), .ref (ad 2), .ref (ad 15), .ref (ad 16), .int (σ.2.2 2), .ref (ad 17), .ref (ad 18), .ref (ad 19), .ref (ad 20), .ref (ad 21), .ref (ad 22), .int (σ.2.2 3), .int (σ.2.2 4), .int (σ.2.2 5), .int (σ.2.2 6)] 4 (.int x))) = wo cI cL cZ ad (fput σ 2 x) := rfl
theorem ws_f3 (cI cL cZ : ClassId) (ad : Nat → Nat) (σ : tq_S) (x : Int32) : (wo cI cL cZ ad σ).set 3 (ad 3, .inr (3, List.set [.ref (ad 1), .ref (ad 2), .ref (ad 15), .ref (ad 16), .int (σ.2.2 2), .ref (ad 17), .ref (ad 18), .ref (ad 19), .ref (ad 20), .ref (ad 21), .ref (ad 22), .int (σ.2.2 3), .int (σ.2.2 4), .int (σ.2.2 5), .int (σ.2.2 6)] 11 (.int x))) = wo cI cL cZ ad (fput σ 3 x) := rfl
theorem ws_f4 (cI cL cZ : ClassId) (ad : Nat → Nat) (σ : tq_S) (x : Int32) : (wo cI cL cZ ad σ).set 3 (ad 3, .inr (3, List.set [.ref (ad 1), .ref (ad 2), .ref (ad 15), .ref (ad 16), .int (σ.2.2 2), .ref (ad 17), .ref (ad 18), .ref (ad 19), .ref (ad 20), .ref (ad 21), .ref (ad 22), .int (σ.2.2 3), .int (σ.2.2 4), .int (σ.2.2 5), .int (σ.2.2 6)] 12 (.int x))) = wo cI cL cZ ad (fput σ 4 x) := rfl
theorem ws_f5 (cI cL cZ : ClassId) (ad : Nat → Nat) (σ : tq_S) (x : Int32) : (wo cI cL cZ ad σ).set 3 (ad 3, .inr (3, List.set [.ref (ad 1), .ref (ad 2), .ref (ad 15), .ref (ad 16), .int (σ.2.2 2), .ref (ad 17), .ref (ad 18), .ref (ad 19), .ref (ad 20), .ref (ad 21), .ref (ad 22), .int (σ.2.2 3), .int (σ.2.2 4), .int (σ.2.2 5), .int (σ.2.2 6)] 13 (.int x))) = wo cI cL cZ ad (fput σ 5 x) := rfl
theorem ws_f6 (cI cL cZ : ClassId) (ad : Nat → Nat) (σ : tq_S) (x : Int32) : (wo cI cL cZ ad σ).set 3 (ad 3, .inr (3, List.set [.ref (ad 1), .ref (ad 2), .ref (ad 15), .ref (ad 16), .int (σ.2.2 2), .ref (ad 17), .ref (ad 18), .ref (ad 19), .ref (ad 20), .ref (ad 21), .ref (ad 22), .int (σ.2.2 3), .int (σ.2.2 4), .int (σ.2.2 5), .int (σ.2.2 6)] 14 (.int x))) = wo cI cL cZ ad (fput σ 6 x) := rfl
theorem ws_f7 (cI cL cZ : ClassId) (ad : Nat → Nat) (σ : tq_S) (x : Int32) : (wo cI cL cZ ad σ).set 4 (ad 4, .inr (4, List.set [.ref (ad 1), .ref (ad 3), .ref (ad 23), .ref (ad 24), .ref (ad 25), .int (σ.2.2 7), .int (σ.2.2 8), .ref (ad 26), .ref (ad 27), .ref (ad 28), .int (σ.2.2 9), .ref (ad 29), .int (σ.2.2 10), .int (σ.2.2 11), .int (σ.2.2 12)] 5 (.int x))) = wo cI cL cZ ad (fput σ 7 x) := rfl
theorem ws_f8 (cI cL cZ : ClassId) (ad : Nat → Nat) (σ : tq_S) (x : Int32) : (wo cI cL cZ ad σ).set 4 (ad 4, .inr (4, List.set [.ref (ad 1), .ref (ad 3), .ref (ad 23), .ref (ad 24), .ref (ad 25), .int (σ.2.2 7), .int (σ.2.2 8), .ref (ad 26), .ref (ad 27), .ref (ad 28), .int (σ.2.2 9), .ref (ad 29), .int (σ.2.2 10), .int (σ.2.2 11), .int (σ.2.2 12)] 6 (.int x))) = wo cI cL cZ ad (fput σ 8 x) := rfl
theorem ws_f9 (cI cL cZ : ClassId) (ad : Nat → Nat) (σ : tq_S) (x : Int32) : (wo cI cL cZ ad σ).set 4 (ad 4, .inr (4, List.set [.ref (ad 1), .ref (ad 3), .ref (ad 23), .ref (ad 24), .ref (ad 25), .int (σ.2.2 7), .int (σ.2.2 8), .ref (ad 26), .ref (ad 27), .ref (ad 28), .int (σ.2.2 9), .ref (ad 29), .int (σ.2.2 10), .int (σ.2.2 11), .int (σ.2.2 12)] 10 (.int x))) = wo cI cL cZ ad (fput σ 9 x) := rfl
theorem ws_f10 (cI cL cZ : ClassId) (ad : Nat → Nat) (σ : tq_S) (x : Int32) : (wo cI cL cZ ad σ).set 4 (ad 4, .inr (4, List.set [.ref (ad 1), .ref (ad 3), .ref (ad 23), .ref (ad 24), .ref (ad 25), .int (σ.2.2 7), .int (σ.2.2 8), .ref (ad 26), .ref (ad 27), .ref (ad 28), .int (σ.2.2 9), .ref (ad 29), .int (σ.2.2 10), .int (σ.2.2 11), .int (σ.2.2 12)] 12 (.int x))) = wo cI cL cZ ad (fput σ 10 x) := rfl
theorem ws_f11 (cI cL cZ : ClassId) (ad : Nat → Nat) (σ : tq_S) (x : Int32) : (wo cI cL cZ ad σ).set 4 (ad 4, .inr (4, List.set [.ref (ad 1), .ref (ad 3), .ref (ad 23), .ref (ad 24), .ref (ad 25), .int (σ.2.2 7), .int (σ.2.2 8), .ref (ad 26), .ref (ad 27), .ref (ad 28), .int (σ.2.2 9), .ref (ad 29), .int (σ.2.2 10), .int (σ.2.2 11), .int (σ.2.2 12)] 13 (.int x))) = wo cI cL cZ ad (fput σ 11 x) := rfl
theorem ws_f12 (cI cL cZ : ClassId) (ad : Nat → Nat) (σ : tq_S) (x : Int32) : (wo cI cL cZ ad σ).set 4 (ad 4, .inr (4, List.set [.ref (ad 1), .ref (ad 3), .ref (ad 23), .ref (ad 24), .ref (ad 25), .int (σ.2.2 7), .int (σ.2.2 8), .ref (ad 26), .ref (ad 27), .ref (ad 28), .int (σ.2.2 9), .ref (ad 29), .int (σ.2.2 10), .int (σ.2.2 11), .int (σ.2.2 12)] 14 (.int x))) = wo cI cL cZ ad (fput σ 12 x) := rfl
theorem ws_f13 (cI cL cZ : ClassId) (ad : Nat → Nat) (σ : tq_S) (x : Int32) : (wo cI cL cZ ad σ).set 5 (ad 5, .inr (5, List.set [.ref (ad 30), .ref (ad 31), .ref (ad 32), .int (σ.2.2 13), .ref (ad 33), .int (σ.2.2 14), .ref (ad 34), .ref (ad 35), .int (σ.2.2 15), .ref (ad 36), .ref (ad 37), .ref (ad 38), .int (σ.2.2 16), .ref (ad 39), .ref (ad 40), .ref (ad 41), .int (σ.2.2 17), .int (σ.2.2 18), .ref (ad 42), .ref (ad 43), .ref (ad 44), .ref (ad 45), .int (σ.2.2 19), .ref (ad 46), .ref (ad 47)] 3 (.int x))) = wo cI cL cZ ad (fput σ 13 x) := rfl
theorem ws_f14 (cI cL cZ : ClassId) (ad : Nat → Nat) (σ : tq_S) (x : Int32) : (wo cI cL cZ ad σ).set 5 (ad 5, .inr (5, List.set [.ref (ad 30), .ref (ad 31), .ref (ad 32), .int (σ.2.2 13), .ref (ad 33), .int (σ.2.2 14), .ref (ad 34), .ref (ad 35), .int (σ.2.2 15), .ref (ad 36), .ref (ad 37), .ref (ad 38), .int (σ.2.2 16), .ref (ad 39), .ref (ad 40), .ref (ad 41), .int (σ.2.2 17), .int (σ.2.2 18), .ref (ad 42), .ref (ad 43), .ref (ad 44), .ref (ad 45), .int (σ.2.2 19), .ref (ad 46), .ref (ad 47)] 5 (.int x))) = wo cI cL cZ ad (fput σ 14 x) := rfl
theorem ws_f15 (cI cL cZ : ClassId) (ad : Nat → Nat) (σ : tq_S) (x : Int32) : (wo cI cL cZ ad σ).set 5 (ad 5, .inr (5, List.set [.ref (ad 30), .ref (ad 31), .ref (ad 32), .int (σ.2.2 13), .ref (ad 33), .int (σ.2.2 14), .ref (ad 34), .ref (ad 35), .int (σ.2.2 15), .ref (ad 36), .ref (ad 37), .ref (ad 38), .int (σ.2.2 16), .ref (ad 39), .ref (ad 40), .ref (ad 41), .int (σ.2.2 17), .int (σ.2.2 18), .ref (ad 42), .ref (ad 43), .ref (ad 44), .ref (ad 45), .int (σ.2.2 19), .ref (ad 46), .ref (ad 47)] 8 (.int x))) = wo cI cL cZ ad (fput σ 15 x) := rfl
theorem ws_f16 (cI cL cZ : ClassId) (ad : Nat → Nat) (σ : tq_S) (x : Int32) : (wo cI cL cZ ad σ).set 5 (ad 5, .inr (5, List.set [.ref (ad 30), .ref (ad 31), .ref (ad 32), .int (σ.2.2 13), .ref (ad 33), .int (σ.2.2 14), .ref (ad 34), .ref (ad 35), .int (σ.2.2 15), .ref (ad 36), .ref (ad 37), .ref (ad 38), .int (σ.2.2 16), .ref (ad 39), .ref (ad 40), .ref (ad 41), .int (σ.2.2 17), .int (σ.2.2 18), .ref (ad 42), .ref (ad 43), .ref (ad 44), .ref (ad 45), .int (σ.2.2 19), .ref (ad 46), .ref (ad 47)] 12 (.int x))) = wo cI cL cZ ad (fput σ 16 x) := rfl
theorem ws_f17 (cI cL cZ : ClassId) (ad : Nat → Nat) (σ : tq_S) (x : Int32) : (wo cI cL cZ ad σ).set 5 (ad 5, .inr (5, List.set [.ref (ad 30), .ref (ad 31), .ref (ad 32), .int (σ.2.2 13), .ref (ad 33), .int (σ.2.2 14), .ref (ad 34), .ref (ad 35), .int (σ.2.2 15), .ref (ad 36), .ref (ad 37), .ref (ad 38), .int (σ.2.2 16), .ref (ad 39), .ref (ad 40), .ref (ad 41), .int (σ.2.2 17), .int (σ.2.2 18), .ref (ad 42), .ref (ad 43), .ref (ad 44), .ref (ad 45), .int (σ.2.2 19), .ref (ad 46), .ref (ad 47)] 16 (.int x))) = wo cI cL cZ ad (fput σ 17 x) := rfl
theorem ws_f18 (cI cL cZ : ClassId) (ad : Nat → Nat) (σ : tq_S) (x : Int32) : (wo cI cL cZ ad σ).set 5 (ad 5, .inr (5, List.set [.ref (ad 30), .ref (ad 31), .ref (ad 32), .int (σ.2.2 13), .ref (ad 33), .int (σ.2.2 14), .ref (ad 34), .ref (ad 35), .int (σ.2.2 15), .ref (ad 36), .ref (ad 37), .ref (ad 38), .int (σ.2.2 16), .ref (ad 39), .ref (ad 40), .ref (ad 41), .int (σ.2.2 17), .int (σ.2.2 18), .ref (ad 42), .ref (ad 43), .ref (ad 44), .ref (ad 45), .int (σ.2.2 19), .ref (ad 46), .ref (ad 47)] 17 (.int x))) = wo cI cL cZ ad (fput σ 18 x) := rfl
theorem ws_f19 (cI cL cZ : ClassId) (ad : Nat → Nat) (σ : tq_S) (x : Int32) : (wo cI cL cZ ad σ).set 5 (ad 5, .inr (5, List.set [.ref (ad 30), .ref (ad 31), .ref (ad 32), .int (σ.2.2 13), .ref (ad 33), .int (σ.2.2 14), .ref (ad 34), .ref (ad 35), .int (σ.2.2 15), .ref (ad 36), .ref (ad 37), .ref (ad 38), .int (σ.2.2 16), .ref (ad 39), .ref (ad 40), .ref (ad 41), .int (σ.2.2 17), .int (σ.2.2 18), .ref (ad 42), .ref (ad 43), .ref (ad 44), .ref (ad 45), .int (σ.2.2 19), .ref (ad 46), .ref (ad 47)] 22 (.int x))) = wo cI cL cZ ad (fput σ 19 x) := rfl
theorem ws_i0 (cI cL cZ : ClassId) (ad : Nat → Nat) (σ : tq_S) (i : Nat) (x : Int32) : (wo cI cL cZ ad σ).set 6 (ad 6, .inl (cI, 80, .inl (upd (σ.1 0) i x))) = wo cI cL cZ ad (iput σ 0 i x) := rfl
theorem ws_i1 (cI cL cZ : ClassId) (ad : Nat → Nat) (σ : tq_S) (i : Nat) (x : Int32) : (wo cI cL cZ ad σ).set 7 (ad 7, .inl (cI, 80, .inl (upd (σ.1 1) i x))) = wo cI cL cZ ad (iput σ 1 i x) := rfl
theorem ws_i2 (cI cL cZ : ClassId) (ad : Nat → Nat) (σ : tq_S) (i : Nat) (x : Int32) : (wo cI cL cZ ad σ).set 8 (ad 8, .inl (cI, 80, .inl (upd (σ.1 2) i x))) = wo cI cL cZ ad (iput σ 2 i x) := rfl
theorem ws_l0 (cI cL cZ : ClassId) (ad : Nat → Nat) (σ : tq_S) (i : Nat) (x : Int64) : (wo cI cL cZ ad σ).set 9 (ad 9, .inl (cL, 1280, .inr (.inl (vp_updL (σ.2.1 0) i x)))) = wo cI cL cZ ad (lput σ 0 i x) := rfl
theorem ws_i3 (cI cL cZ : ClassId) (ad : Nat → Nat) (σ : tq_S) (i : Nat) (x : Int32) : (wo cI cL cZ ad σ).set 10 (ad 10, .inl (cI, 10, .inl (upd (σ.1 3) i x))) = wo cI cL cZ ad (iput σ 3 i x) := rfl
theorem ws_l1 (cI cL cZ : ClassId) (ad : Nat → Nat) (σ : tq_S) (i : Nat) (x : Int64) : (wo cI cL cZ ad σ).set 11 (ad 11, .inl (cL, 160, .inr (.inl (vp_updL (σ.2.1 1) i x)))) = wo cI cL cZ ad (lput σ 1 i x) := rfl
theorem ws_i4 (cI cL cZ : ClassId) (ad : Nat → Nat) (σ : tq_S) (i : Nat) (x : Int32) : (wo cI cL cZ ad σ).set 12 (ad 12, .inl (cI, 1024, .inl (upd (σ.1 4) i x))) = wo cI cL cZ ad (iput σ 4 i x) := rfl
theorem ws_i5 (cI cL cZ : ClassId) (ad : Nat → Nat) (σ : tq_S) (i : Nat) (x : Int32) : (wo cI cL cZ ad σ).set 13 (ad 13, .inl (cI, 4, .inl (upd (σ.1 5) i x))) = wo cI cL cZ ad (iput σ 5 i x) := rfl
theorem ws_i6 (cI cL cZ : ClassId) (ad : Nat → Nat) (σ : tq_S) (i : Nat) (x : Int32) : (wo cI cL cZ ad σ).set 14 (ad 14, .inl (cI, 4, .inl (upd (σ.1 6) i x))) = wo cI cL cZ ad (iput σ 6 i x) := rfl
theorem ws_i7 (cI cL cZ : ClassId) (ad : Nat → Nat) (σ : tq_S) (i : Nat) (x : Int32) : (wo cI cL cZ ad σ).set 15 (ad 15, .inl (cI, 30, .inl (upd (σ.1 7) i x))) = wo cI cL cZ ad (iput σ 7 i x) := rfl
theorem ws_i8 (cI cL cZ : ClassId) (ad : Nat → Nat) (σ : tq_S) (i : Nat) (x : Int32) : (wo cI cL cZ ad σ).set 16 (ad 16, .inl (cI, 30, .inl (upd (σ.1 8) i x))) = wo cI cL cZ ad (iput σ 8 i x) := rfl
theorem ws_i9 (cI cL cZ : ClassId) (ad : Nat → Nat) (σ : tq_S) (i : Nat) (x : Int32) : (wo cI cL cZ ad σ).set 17 (ad 17, .inl (cI, 4, .inl (upd (σ.1 9) i x))) = wo cI cL cZ ad (iput σ 9 i x) := rfl
theorem ws_i10 (cI cL cZ : ClassId) (ad : Nat → Nat) (σ : tq_S) (i : Nat) (x : Int32) : (wo cI cL cZ ad σ).set 18 (ad 18, .inl (cI, 4, .inl (upd (σ.1 10) i x))) = wo cI cL cZ ad (iput σ 10 i x) := rfl
theorem ws_l2 (cI cL cZ : ClassId) (ad : Nat → Nat) (σ : tq_S) (i : Nat) (x : Int64) : (wo cI cL cZ ad σ).set 19 (ad 19, .inl (cL, 16, .inr (.inl (vp_updL (σ.2.1 2) i x)))) = wo cI cL cZ ad (lput σ 2 i x) := rfl
theorem ws_l3 (cI cL cZ : ClassId) (ad : Nat → Nat) (σ : tq_S) (i : Nat) (x : Int64) : (wo cI cL cZ ad σ).set 20 (ad 20, .inl (cL, 16, .inr (.inl (vp_updL (σ.2.1 3) i x)))) = wo cI cL cZ ad (lput σ 3 i x) := rfl
theorem ws_i11 (cI cL cZ : ClassId) (ad : Nat → Nat) (σ : tq_S) (i : Nat) (x : Int32) : (wo cI cL cZ ad σ).set 21 (ad 21, .inl (cI, 1024, .inl (upd (σ.1 11) i x))) = wo cI cL cZ ad (iput σ 11 i x) := rfl
theorem ws_i12 (cI cL cZ : ClassId) (ad : Nat → Nat) (σ : tq_S) (i : Nat) (x : Int32) : (wo cI cL cZ ad σ).set 22 (ad 22, .inl (cI, 1024, .inl (upd (σ.1 12) i x))) = wo cI cL cZ ad (iput σ 12 i x) := rfl
theorem ws_l4 (cI cL cZ : ClassId) (ad : Nat → Nat) (σ : tq_S) (i : Nat) (x : Int64) : (wo cI cL cZ ad σ).set 23 (ad 23, .inl (cL, 80, .inr (.inl (vp_updL (σ.2.1 4) i x)))) = wo cI cL cZ ad (lput σ 4 i x) := rfl
theorem ws_i13 (cI cL cZ : ClassId) (ad : Nat → Nat) (σ : tq_S) (i : Nat) (x : Int32) : (wo cI cL cZ ad σ).set 24 (ad 24, .inl (cI, 25, .inl (upd (σ.1 13) i x))) = wo cI cL cZ ad (iput σ 13 i x) := rfl
theorem ws_i14 (cI cL cZ : ClassId) (ad : Nat → Nat) (σ : tq_S) (i : Nat) (x : Int32) : (wo cI cL cZ ad σ).set 25 (ad 25, .inl (cI, 25, .inl (upd (σ.1 14) i x))) = wo cI cL cZ ad (iput σ 14 i x) := rfl
theorem ws_l5 (cI cL cZ : ClassId) (ad : Nat → Nat) (σ : tq_S) (i : Nat) (x : Int64) : (wo cI cL cZ ad σ).set 26 (ad 26, .inl (cL, 400, .inr (.inl (vp_updL (σ.2.1 5) i x)))) = wo cI cL cZ ad (lput σ 5 i x) := rfl
theorem ws_i15 (cI cL cZ : ClassId) (ad : Nat → Nat) (σ : tq_S) (i : Nat) (x : Int32) : (wo cI cL cZ ad σ).set 27 (ad 27, .inl (cI, 4096, .inl (upd (σ.1 15) i x))) = wo cI cL cZ ad (iput σ 15 i x) := rfl
theorem ws_l6 (cI cL cZ : ClassId) (ad : Nat → Nat) (σ : tq_S) (i : Nat) (x : Int64) : (wo cI cL cZ ad σ).set 28 (ad 28, .inl (cL, 16, .inr (.inl (vp_updL (σ.2.1 6) i x)))) = wo cI cL cZ ad (lput σ 6 i x) := rfl
theorem ws_i16 (cI cL cZ : ClassId) (ad : Nat → Nat) (σ : tq_S) (i : Nat) (x : Int32) : (wo cI cL cZ ad σ).set 29 (ad 29, .inl (cI, 5, .inl (upd (σ.1 16) i x))) = wo cI cL cZ ad (iput σ 16 i x) := rfl
theorem ws_i17 (cI cL cZ : ClassId) (ad : Nat → Nat) (σ : tq_S) (i : Nat) (x : Int32) : (wo cI cL cZ ad σ).set 30 (ad 30, .inl (cI, 80, .inl (upd (σ.1 17) i x))) = wo cI cL cZ ad (iput σ 17 i x) := rfl
theorem ws_i18 (cI cL cZ : ClassId) (ad : Nat → Nat) (σ : tq_S) (i : Nat) (x : Int32) : (wo cI cL cZ ad σ).set 31 (ad 31, .inl (cI, 80, .inl (upd (σ.1 18) i x))) = wo cI cL cZ ad (iput σ 18 i x) := rfl
theorem ws_i19 (cI cL cZ : ClassId) (ad : Nat → Nat) (σ : tq_S) (i : Nat) (x : Int32) : (wo cI cL cZ ad σ).set 32 (ad 32, .inl (cI, 80, .inl (upd (σ.1 19) i x))) = wo cI cL cZ ad (iput σ 19 i x) := rfl
theorem ws_i20 (cI cL cZ : ClassId) (ad : Nat → Nat) (σ : tq_S) (i : Nat) (x : Int32) : (wo cI cL cZ ad σ).set 33 (ad 33, .inl (cI, 10, .inl (upd (σ.1 20) i x))) = wo cI cL cZ ad (iput σ 20 i x) := rfl
theorem ws_i21 (cI cL cZ : ClassId) (ad : Nat → Nat) (σ : tq_S) (i : Nat) (x : Int32) : (wo cI cL cZ ad σ).set 34 (ad 34, .inl (cI, 30, .inl (upd (σ.1 21) i x))) = wo cI cL cZ ad (iput σ 21 i x) := rfl
theorem ws_i22 (cI cL cZ : ClassId) (ad : Nat → Nat) (σ : tq_S) (i : Nat) (x : Int32) : (wo cI cL cZ ad σ).set 35 (ad 35, .inl (cI, 30, .inl (upd (σ.1 22) i x))) = wo cI cL cZ ad (iput σ 22 i x) := rfl
theorem ws_i23 (cI cL cZ : ClassId) (ad : Nat → Nat) (σ : tq_S) (i : Nat) (x : Int32) : (wo cI cL cZ ad σ).set 36 (ad 36, .inl (cZ, 16, .inl (upd (σ.1 23) i x))) = wo cI cL cZ ad (iput σ 23 i x) := rfl
theorem ws_i24 (cI cL cZ : ClassId) (ad : Nat → Nat) (σ : tq_S) (i : Nat) (x : Int32) : (wo cI cL cZ ad σ).set 37 (ad 37, .inl (cI, 40, .inl (upd (σ.1 24) i x))) = wo cI cL cZ ad (iput σ 24 i x) := rfl
theorem ws_i25 (cI cL cZ : ClassId) (ad : Nat → Nat) (σ : tq_S) (i : Nat) (x : Int32) : (wo cI cL cZ ad σ).set 38 (ad 38, .inl (cI, 40, .inl (upd (σ.1 25) i x))) = wo cI cL cZ ad (iput σ 25 i x) := rfl
theorem ws_i26 (cI cL cZ : ClassId) (ad : Nat → Nat) (σ : tq_S) (i : Nat) (x : Int32) : (wo cI cL cZ ad σ).set 39 (ad 39, .inl (cI, 40, .inl (upd (σ.1 26) i x))) = wo cI cL cZ ad (iput σ 26 i x) := rfl
theorem ws_i27 (cI cL cZ : ClassId) (ad : Nat → Nat) (σ : tq_S) (i : Nat) (x : Int32) : (wo cI cL cZ ad σ).set 40 (ad 40, .inl (cI, 40, .inl (upd (σ.1 27) i x))) = wo cI cL cZ ad (iput σ 27 i x) := rfl
theorem ws_i28 (cI cL cZ : ClassId) (ad : Nat → Nat) (σ : tq_S) (i : Nat) (x : Int32) : (wo cI cL cZ ad σ).set 41 (ad 41, .inl (cI, 40, .inl (upd (σ.1 28) i x))) = wo cI cL cZ ad (iput σ 28 i x) := rfl
theorem ws_i29 (cI cL cZ : ClassId) (ad : Nat → Nat) (σ : tq_S) (i : Nat) (x : Int32) : (wo cI cL cZ ad σ).set 42 (ad 42, .inl (cZ, 81920, .inl (upd (σ.1 29) i x))) = wo cI cL cZ ad (iput σ 29 i x) := rfl
theorem ws_i30 (cI cL cZ : ClassId) (ad : Nat → Nat) (σ : tq_S) (i : Nat) (x : Int32) : (wo cI cL cZ ad σ).set 43 (ad 43, .inl (cI, 1024, .inl (upd (σ.1 30) i x))) = wo cI cL cZ ad (iput σ 30 i x) := rfl
theorem ws_i31 (cI cL cZ : ClassId) (ad : Nat → Nat) (σ : tq_S) (i : Nat) (x : Int32) : (wo cI cL cZ ad σ).set 44 (ad 44, .inl (cI, 1024, .inl (upd (σ.1 31) i x))) = wo cI cL cZ ad (iput σ 31 i x) := rfl
theorem ws_i32 (cI cL cZ : ClassId) (ad : Nat → Nat) (σ : tq_S) (i : Nat) (x : Int32) : (wo cI cL cZ ad σ).set 45 (ad 45, .inl (cZ, 16, .inl (upd (σ.1 32) i x))) = wo cI cL cZ ad (iput σ 32 i x) := rfl
theorem ws_i33 (cI cL cZ : ClassId) (ad : Nat → Nat) (σ : tq_S) (i : Nat) (x : Int32) : (wo cI cL cZ ad σ).set 46 (ad 46, .inl (cZ, 30720, .inl (upd (σ.1 33) i x))) = wo cI cL cZ ad (iput σ 33 i x) := rfl
theorem ws_i34 (cI cL cZ : ClassId) (ad : Nat → Nat) (σ : tq_S) (i : Nat) (x : Int32) : (wo cI cL cZ ad σ).set 47 (ad 47, .inl (cI, 5, .inl (upd (σ.1 34) i x))) = wo cI cL cZ ad (iput σ 34 i x) := rfl
def woC (cI cL cZ : ClassId) (ad : Nat → Nat) (σ : tq_S) : va_W := [
  (ad 1, .inr (1, [.ref (ad 6), .ref (ad 7), .ref (ad 8), .ref (ad 9), .ref (ad 10), .ref (ad 11), .ref (ad 12), .int (σ.2.2 0), .int (σ.2.2 1)])),
  (ad 6, .inl (cI, 80, .inl (σ.1 0))),
  (ad 7, .inl (cI, 80, .inl (σ.1 1))),
  (ad 8, .inl (cI, 80, .inl (σ.1 2))),
  (ad 9, .inl (cL, 1280, .inr (.inl (σ.2.1 0)))),
  (ad 10, .inl (cI, 10, .inl (σ.1 3))),
  (ad 11, .inl (cL, 160, .inr (.inl (σ.2.1 1)))),
  (ad 12, .inl (cI, 1024, .inl (σ.1 4)))]
theorem wsC_f0 (cI cL cZ : ClassId) (ad : Nat → Nat) (σ : tq_S) (x : Int32) : (woC cI cL cZ ad σ).set 0 (ad 1, .inr (1, List.set [.ref (ad 6), .ref (ad 7), .ref (ad 8), .ref (ad 9), .ref (ad 10), .ref (ad 11), .ref (ad 12), .int (σ.2.2 0), .int (σ.2.2 1)] 7 (.int x))) = woC cI cL cZ ad (fput σ 0 x) := rfl
theorem wsC_f1 (cI cL cZ : ClassId) (ad : Nat → Nat) (σ : tq_S) (x : Int32) : (woC cI cL cZ ad σ).set 0 (ad 1, .inr (1, List.set [.ref (ad 6), .ref (ad 7), .ref (ad 8), .ref (ad 9), .ref (ad 10), .ref (ad 11), .ref (ad 12), .int (σ.2.2 0), .int (σ.2.2 1)] 8 (.int x))) = woC cI cL cZ ad (fput σ 1 x) := rfl
theorem wsC_i0 (cI cL cZ : ClassId) (ad : Nat → Nat) (σ : tq_S) (i : Nat) (x : Int32) : (woC cI cL cZ ad σ).set 1 (ad 6, .inl (cI, 80, .inl (upd (σ.1 0) i x))) = woC cI cL cZ ad (iput σ 0 i x) := rfl
theorem wsC_i1 (cI cL cZ : ClassId) (ad : Nat → Nat) (σ : tq_S) (i : Nat) (x : Int32) : (woC cI cL cZ ad σ).set 2 (ad 7, .inl (cI, 80, .inl (upd (σ.1 1) i x))) = woC cI cL cZ ad (iput σ 1 i x) := rfl
theorem wsC_i2 (cI cL cZ : ClassId) (ad : Nat → Nat) (σ : tq_S) (i : Nat) (x : Int32) : (woC cI cL cZ ad σ).set 3 (ad 8, .inl (cI, 80, .inl (upd (σ.1 2) i x))) = woC cI cL cZ ad (iput σ 2 i x) := rfl
theorem wsC_l0 (cI cL cZ : ClassId) (ad : Nat → Nat) (σ : tq_S) (i : Nat) (x : Int64) : (woC cI cL cZ ad σ).set 4 (ad 9, .inl (cL, 1280, .inr (.inl (vp_updL (σ.2.1 0) i x)))) = woC cI cL cZ ad (lput σ 0 i x) := rfl
theorem wsC_i3 (cI cL cZ : ClassId) (ad : Nat → Nat) (σ : tq_S) (i : Nat) (x : Int32) : (woC cI cL cZ ad σ).set 5 (ad 10, .inl (cI, 10, .inl (upd (σ.1 3) i x))) = woC cI cL cZ ad (iput σ 3 i x) := rfl
theorem wsC_l1 (cI cL cZ : ClassId) (ad : Nat → Nat) (σ : tq_S) (i : Nat) (x : Int64) : (woC cI cL cZ ad σ).set 6 (ad 11, .inl (cL, 160, .inr (.inl (vp_updL (σ.2.1 1) i x)))) = woC cI cL cZ ad (lput σ 1 i x) := rfl
theorem wsC_i4 (cI cL cZ : ClassId) (ad : Nat → Nat) (σ : tq_S) (i : Nat) (x : Int32) : (woC cI cL cZ ad σ).set 7 (ad 12, .inl (cI, 1024, .inl (upd (σ.1 4) i x))) = woC cI cL cZ ad (iput σ 4 i x) := rfl
def woR (cI cL cZ : ClassId) (ad : Nat → Nat) (σ : tq_S) : va_W := [
  (ad 2, .inr (2, [.ref (ad 13), .ref (ad 14)])),
  (ad 13, .inl (cI, 4, .inl (σ.1 5))),
  (ad 14, .inl (cI, 4, .inl (σ.1 6)))]
theorem wsR_i5 (cI cL cZ : ClassId) (ad : Nat → Nat) (σ : tq_S) (i : Nat) (x : Int32) : (woR cI cL cZ ad σ).set 1 (ad 13, .inl (cI, 4, .inl (upd (σ.1 5) i x))) = woR cI cL cZ ad (iput σ 5 i x) := rfl
theorem wsR_i6 (cI cL cZ : ClassId) (ad : Nat → Nat) (σ : tq_S) (i : Nat) (x : Int32) : (woR cI cL cZ ad σ).set 2 (ad 14, .inl (cI, 4, .inl (upd (σ.1 6) i x))) = woR cI cL cZ ad (iput σ 6 i x) := rfl
def woH (cI cL cZ : ClassId) (ad : Nat → Nat) (σ : tq_S) : va_W := [
  (ad 4, .inr (4, [.ref (ad 1), .ref (ad 3), .ref (ad 23), .ref (ad 24), .ref (ad 25), .int (σ.2.2 7), .int (σ.2.2 8), .ref (ad 26), .ref (ad 27), .ref (ad 28), .int (σ.2.2 9), .ref (ad 29), .int (σ.2.2 10), .int (σ.2.2 11), .int (σ.2.2 12)])),
  (ad 23, .inl (cL, 80, .inr (.inl (σ.2.1 4)))),
  (ad 24, .inl (cI, 25, .inl (σ.1 13))),
  (ad 25, .inl (cI, 25, .inl (σ.1 14))),
  (ad 26, .inl (cL, 400, .inr (.inl (σ.2.1 5)))),
  (ad 27, .inl (cI, 4096, .inl (σ.1 15))),
  (ad 28, .inl (cL, 16, .inr (.inl (σ.2.1 6)))),
  (ad 29, .inl (cI, 5, .inl (σ.1 16)))]
theorem wsH_f7 (cI cL cZ : ClassId) (ad : Nat → Nat) (σ : tq_S) (x : Int32) : (woH cI cL cZ ad σ).set 0 (ad 4, .inr (4, List.set [.ref (ad 1), .ref (ad 3), .ref (ad 23), .ref (ad 24), .ref (ad 25), .int (σ.2.2 7), .int (σ.2.2 8), .ref (ad 26), .ref (ad 27), .ref (ad 28), .int (σ.2.2 9), .ref (ad 29), .int (σ.2.2 10), .int (σ.2.2 11), .int (σ.2.2 12)] 5 (.int x))) = woH cI cL cZ ad (fput σ 7 x) := rfl
theorem wsH_f8 (cI cL cZ : ClassId) (ad : Nat → Nat) (σ : tq_S) (x : Int32) : (woH cI cL cZ ad σ).set 0 (ad 4, .inr (4, List.set [.ref (ad 1), .ref (ad 3), .ref (ad 23), .ref (ad 24), .ref (ad 25), .int (σ.2.2 7), .int (σ.2.2 8), .ref (ad 26), .ref (ad 27), .ref (ad 28), .int (σ.2.2 9), .ref (ad 29), .int (σ.2.2 10), .int (σ.2.2 11), .int (σ.2.2 12)] 6 (.int x))) = woH cI cL cZ ad (fput σ 8 x) := rfl
theorem wsH_f9 (cI cL cZ : ClassId) (ad : Nat → Nat) (σ : tq_S) (x : Int32) : (woH cI cL cZ ad σ).set 0 (ad 4, .inr (4, List.set [.ref (ad 1), .ref (ad 3), .ref (ad 23), .ref (ad 24), .ref (ad 25), .int (σ.2.2 7), .int (σ.2.2 8), .ref (ad 26), .ref (ad 27), .ref (ad 28), .int (σ.2.2 9), .ref (ad 29), .int (σ.2.2 10), .int (σ.2.2 11), .int (σ.2.2 12)] 10 (.int x))) = woH cI cL cZ ad (fput σ 9 x) := rfl
theorem wsH_f10 (cI cL cZ : ClassId) (ad : Nat → Nat) (σ : tq_S) (x : Int32) : (woH cI cL cZ ad σ).set 0 (ad 4, .inr (4, List.set [.ref (ad 1), .ref (ad 3), .ref (ad 23), .ref (ad 24), .ref (ad 25), .int (σ.2.2 7), .int (σ.2.2 8), .ref (ad 26), .ref (ad 27), .ref (ad 28), .int (σ.2.2 9), .ref (ad 29), .int (σ.2.2 10), .int (σ.2.2 11), .int (σ.2.2 12)] 12 (.int x))) = woH cI cL cZ ad (fput σ 10 x) := rfl
theorem wsH_f11 (cI cL cZ : ClassId) (ad : Nat → Nat) (σ : tq_S) (x : Int32) : (woH cI cL cZ ad σ).set 0 (ad 4, .inr (4, List.set [.ref (ad 1), .ref (ad 3), .ref (ad 23), .ref (ad 24), .ref (ad 25), .int (σ.2.2 7), .int (σ.2.2 8), .ref (ad 26), .ref (ad 27), .ref (ad 28), .int (σ.2.2 9), .ref (ad 29), .int (σ.2.2 10), .int (σ.2.2 11), .int (σ.2.2 12)] 13 (.int x))) = woH cI cL cZ ad (fput σ 11 x) := rfl
theorem wsH_f12 (cI cL cZ : ClassId) (ad : Nat → Nat) (σ : tq_S) (x : Int32) : (woH cI cL cZ ad σ).set 0 (ad 4, .inr (4, List.set [.ref (ad 1), .ref (ad 3), .ref (ad 23), .ref (ad 24), .ref (ad 25), .int (σ.2.2 7), .int (σ.2.2 8), .ref (ad 26), .ref (ad 27), .ref (ad 28), .int (σ.2.2 9), .ref (ad 29), .int (σ.2.2 10), .int (σ.2.2 11), .int (σ.2.2 12)] 14 (.int x))) = woH cI cL cZ ad (fput σ 12 x) := rfl
theorem wsH_l4 (cI cL cZ : ClassId) (ad : Nat → Nat) (σ : tq_S) (i : Nat) (x : Int64) : (woH cI cL cZ ad σ).set 1 (ad 23, .inl (cL, 80, .inr (.inl (vp_updL (σ.2.1 4) i x)))) = woH cI cL cZ ad (lput σ 4 i x) := rfl
theorem wsH_i13 (cI cL cZ : ClassId) (ad : Nat → Nat) (σ : tq_S) (i : Nat) (x : Int32) : (woH cI cL cZ ad σ).set 2 (ad 24, .inl (cI, 25, .inl (upd (σ.1 13) i x))) = woH cI cL cZ ad (iput σ 13 i x) := rfl
theorem wsH_i14 (cI cL cZ : ClassId) (ad : Nat → Nat) (σ : tq_S) (i : Nat) (x : Int32) : (woH cI cL cZ ad σ).set 3 (ad 25, .inl (cI, 25, .inl (upd (σ.1 14) i x))) = woH cI cL cZ ad (iput σ 14 i x) := rfl
theorem wsH_l5 (cI cL cZ : ClassId) (ad : Nat → Nat) (σ : tq_S) (i : Nat) (x : Int64) : (woH cI cL cZ ad σ).set 4 (ad 26, .inl (cL, 400, .inr (.inl (vp_updL (σ.2.1 5) i x)))) = woH cI cL cZ ad (lput σ 5 i x) := rfl
theorem wsH_i15 (cI cL cZ : ClassId) (ad : Nat → Nat) (σ : tq_S) (i : Nat) (x : Int32) : (woH cI cL cZ ad σ).set 5 (ad 27, .inl (cI, 4096, .inl (upd (σ.1 15) i x))) = woH cI cL cZ ad (iput σ 15 i x) := rfl
theorem wsH_l6 (cI cL cZ : ClassId) (ad : Nat → Nat) (σ : tq_S) (i : Nat) (x : Int64) : (woH cI cL cZ ad σ).set 6 (ad 28, .inl (cL, 16, .inr (.inl (vp_updL (σ.2.1 6) i x)))) = woH cI cL cZ ad (lput σ 6 i x) := rfl
theorem wsH_i16 (cI cL cZ : ClassId) (ad : Nat → Nat) (σ : tq_S) (i : Nat) (x : Int32) : (woH cI cL cZ ad σ).set 7 (ad 29, .inl (cI, 5, .inl (upd (σ.1 16) i x))) = woH cI cL cZ ad (iput σ 16 i x) := rfl
/-! the small table of the class, a static array of six longs, as the start has it -/
def tq_lowA : Nat → Int64 := fun k => match k with
  | 0 => -6148914691236517206
  | 1 => -3689348814741910324
  | 2 => -1085102592571150096
  | 3 => -71777214294589696
  | 4 => -281470681808896
  | _ => -4294967296
def tq_Z (tt : Nat) (A : Nat → Prop) (U : State) (H : Heap) : Prop := va_Z "TableauNodes$Concepts" "LOW_ATOM_WORDS" "[J" (.ref tt) A U H ∧ va_T .long tt 6 (fun j => .long (tq_lowA j)) A U H
theorem tq_Z.go {tt : Nat} {A B : Nat → Prop} {s U : State} {H H1 : Heap} (h : tq_Z tt A s H) (hq : ∀ a : Nat, a < H.size → ¬ A a → H1[a]? = H[a]?) (hAB : ∀ q, B q → A q) (hvm : s.vm.Alike U.vm) : tq_Z tt B U H1 :=
  ⟨((h.1.kept hq).narrow hAB).moved hvm, ((h.2.kept hq).narrow hAB).moved hvm⟩
/-! the words by which nest mates are called -/
def tq_N (U : State) : Prop := ∀ q ∈ tq_nest, va_Nw (.methodLinkNest q.1 q.2.1 q.2.2 "TableauNodes") U
theorem tq_N.go {s U : State} (hW : s.WarmedH U.vm) (h : tq_N s) : tq_N U := fun q hq => va_Nw.warmM hW (h q hq)
abbrev tq_ty (cI cL cZ : ClassId) : List (ClassId × FieldType) := [(cI, .int), (cL, .long), (cZ, .boolean)]
/-- what a method finds -/
def tq_B (dC : Nat → ClassId) (dI : Nat → Nat → Nat) (cI cL cZ : ClassId) (tt : Nat) (ws : va_W) (sz : Nat) (U : State) : Prop := U.heap.size = sz ∧ va_P (dC, dI) tq_cl ws U.heap ∧ va_K (dC, dI) tq_cl (tq_ty cI cL cZ) U ∧ va_D (fun _ => True) ws ∧ tq_Z tt (va_A ws sz) U U.heap ∧ tq_N U
/-- what it leaves -/
def tq_E (dC : Nat → ClassId) (dI : Nat → Nat → Nat) (cI cL cZ : ClassId) (wf : tq_S → va_W) (A : Nat → Prop) (u : tq_S) (t : State) : Prop := va_P (dC, dI) tq_cl (wf u) t.heap ∧ va_K (dC, dI) tq_cl (tq_ty cI cL cZ) t ∧ va_D A (wf u)
theorem tq_bl {dC : Nat → ClassId} {dI : Nat → Nat → Nat} {cI cL cZ : ClassId} {tt : Nat} {ws : va_W} {sz : Nat} {av : List Value} : FrameBlind (va_Pc av (tq_B dC dI cI cL cZ tt ws sz)) := by
  intro a U g mk q
  obtain ⟨q0, q1, qP, qK, qD, qZ, qN⟩ := q
  refine ⟨q0, q1, qP, va_K.moved (u := U) (U := U.calling g mk a) (Vm.Alike.refl U.vm) qK, qD, ?_, fun w hw => va_Nw.same (u := U) rfl rfl (qN w hw)⟩
  exact ⟨va_Z.moved (u := U) (U := U.calling g mk a) (Vm.Alike.refl U.vm) qZ.1, va_T.moved (u := U) (U := U.calling g mk a) (Vm.Alike.refl U.vm) qZ.2⟩
theorem tq_fr {A : Nat → Prop} {ws : va_W} {H0 H : Heap} {locs : List Loc} (hD : va_D A ws) (hS : va_S A H0 H locs) (hA : ∀ q, H0.size ≤ q → A q) : ∀ q, va_A ws H.size q → A q := by
  intro q h
  rcases h with ⟨k, e, hk⟩ | h
  · exact hD.2 k (q, e) hk
  · exact hA q (Nat.le_trans hS.1 h)
theorem tq_pr {dC : Nat → ClassId} {dI : Nat → Nat → Nat} {cI cL cZ : ClassId} {tt : Nat} {ws : va_W} {av : List Value} {A : Nat → Prop} {s : State} {H : Heap} {locs : List Loc} (hP : va_P (dC, dI) tq_cl ws H) (hK : va_K (dC, dI) tq_cl (tq_ty cI cL cZ) s) (hD : va_D A ws) (hS : va_S A s.heap H locs) (hA : ∀ q, s.heap.size ≤ q → A q) (hZ : tq_Z tt A s s.heap) (hN : tq_N s) :
    ∀ U : State, U.heap = H → s.WarmedH U.vm → va_Pc av (tq_B dC dI cI cL cZ tt ws H.size) av.toArray U := by
  intro U hU hW
  refine ⟨rfl, by rw [hU], by rw [hU]; exact hP, va_K.moved hW.alike hK, hD.weaken (fun _ _ _ _ => trivial), ?_, hN.go hW⟩
  rw [hU]
  exact hZ.go hS.2.1 (tq_fr hD hS hA) hW.alike
section tqCalls
variable {p : Program} {l : Launch} {e : Env} {R : Room} {s : State} {m : MethodId} {args : Array Value} {below : List Frame} {meth : Method} {c : Code} {H : Heap} {locs : List Loc} {cells slots : Nat} {Q : State → Prop}
variable {pc : Nat} {ls : Array Slot} {rest st0 : List Value}
variable {dC : Nat → ClassId} {dI : Nat → Nat → Nat} {cI cL cZ : ClassId} {A : Nat → Prop} {wf : tq_S → va_W} {ws : va_W} {σ' : tq_S} {av : Array Value}
theorem tq_nmi {x y : Int32} (h : y = x) (k : W p l e R s m args below meth c H locs cells slots Q (F0 m pc ls (.int y :: rest))) : W p l e R s m args below meth c H locs cells slots Q (F0 m pc ls (.int x :: rest)) := h ▸ k
theorem tq_nml {x y : Int64} (h : y = x) (k : W p l e R s m args below meth c H locs cells slots Q (F0 m pc ls (.long y :: rest))) : W p l e R s m args below meth c H locs cells slots Q (F0 m pc ls (.long x :: rest)) := h ▸ k
theorem tq_aI {r : Int32} (hr : va_Run p l e R s m args below meth c H locs cells slots 0 0 (F0 m pc ls st0) rest (va_Qi (fun (r' : Int32) (u : tq_S) => r' = r ∧ u = σ') (tq_E dC dI cI cL cZ wf (va_A ws H.size)) (va_A ws H.size) av) (va_A ws H.size))
    (hD : va_D A ws) (hS : va_S A s.heap H locs) (hA : ∀ q, s.heap.size ≤ q → A q)
    (kk : ∀ (H : Heap) (locs : List Loc), va_P (dC, dI) tq_cl (wf σ') H → va_D A (wf σ') → va_S A s.heap H locs → W p l e R s m args below meth c H locs cells slots Q (F0 m (pc + 3) ls (.int r :: rest))) : W p l e R s m args below meth c H locs cells slots Q (F0 m pc ls st0) := by
  have hF := tq_fr hD hS hA
  refine va_calli hr hS (fun q _ h => hF q h) hF (fun r' u t H1 locs1 ht hvm hw hB _ _ hS1 => ?_)
  obtain ⟨rfl, rfl⟩ := hw
  obtain ⟨hP1, _, hD1⟩ := hB
  exact kk H1 locs1 (by rw [← ht]; exact hP1) (hD1.weaken (fun _ _ _ h => hF _ h)) hS1
theorem tq_aL {r : Int64} (hr : va_Run p l e R s m args below meth c H locs cells slots 0 0 (F0 m pc ls st0) rest (va_Ql (fun (r' : Int64) (u : tq_S) => r' = r ∧ u = σ') (tq_E dC dI cI cL cZ wf (va_A ws H.size)) (va_A ws H.size) av) (va_A ws H.size))
    (hD : va_D A ws) (hS : va_S A s.heap H locs) (hA : ∀ q, s.heap.size ≤ q → A q)
    (kk : ∀ (H : Heap) (locs : List Loc), va_P (dC, dI) tq_cl (wf σ') H → va_D A (wf σ') → va_S A s.heap H locs → W p l e R s m args below meth c H locs cells slots Q (F0 m (pc + 3) ls (.long r :: rest))) : W p l e R s m args below meth c H locs cells slots Q (F0 m pc ls st0) := by
  have hF := tq_fr hD hS hA
  refine va_calll hr hS (fun q _ h => hF q h) hF (fun r' u t H1 locs1 ht hvm hw hB _ _ hS1 => ?_)
  obtain ⟨rfl, rfl⟩ := hw
  obtain ⟨hP1, _, hD1⟩ := hB
  exact kk H1 locs1 (by rw [← ht]; exact hP1) (hD1.weaken (fun _ _ _ h => hF _ h)) hS1
theorem tq_aV (hr : va_Run p l e R s m args below meth c H locs cells slots 0 0 (F0 m pc ls st0) rest (va_Qv (fun (u : tq_S) => u = σ') (tq_E dC dI cI cL cZ wf (va_A ws H.size)) (va_A ws H.size) av) (va_A ws H.size))
    (hD : va_D A ws) (hS : va_S A s.heap H locs) (hA : ∀ q, s.heap.size ≤ q → A q)
    (kk : ∀ (H : Heap) (locs : List Loc), va_P (dC, dI) tq_cl (wf σ') H → va_D A (wf σ') → va_S A s.heap H locs → W p l e R s m args below meth c H locs cells slots Q (F0 m (pc + 3) ls rest)) : W p l e R s m args below meth c H locs cells slots Q (F0 m pc ls st0) := by
  have hF := tq_fr hD hS hA
  refine va_callv hr hS (fun q _ h => hF q h) hF (fun u t H1 locs1 ht hvm hw hB _ _ hS1 => ?_)
  obtain rfl := hw
  obtain ⟨hP1, _, hD1⟩ := hB
  exact kk H1 locs1 (by rw [← ht]; exact hP1) (hD1.weaken (fun _ _ _ h => hF _ h)) hS1
end tqCalls
theorem tq_gV {own C : String} {idx : Nat} {y : MethodName} {cw : Cond} (h1 : Cond.methodLink own idx y ∈ tq_T) (h2 : Cond.instanceMethod y ∈ tq_T) (h3 : Cond.selects C y y ∈ tq_T) (h4 : Cond.initialized C ∈ tq_T) (h5 : cw ∈ tq_T) : GoodIn tq_T (wsV own idx C y (cw :: tq_T)) := by
  intro w hw
  have hm : w ∈ tq_T := by
    simp only [wsV, List.cons_append, List.nil_append, List.mem_cons] at hw
    rcases hw with rfl | rfl | rfl | rfl | rfl | h
    · exact h1
    · exact h2
    · exact h3
    · exact h4
    · exact h5
    · exact h
  exact ⟨hm, good_of_word (tq_gw w hm)⟩
theorem tq_gS {own : String} {idx : Nat} {y : MethodName} {cw : Cond} (h1 : Cond.methodLink own idx y ∈ tq_T) (h2 : Cond.static y ∈ tq_T) (h4 : Cond.initialized y.cls ∈ tq_T) (h5 : cw ∈ tq_T) : GoodIn tq_T (va_wsS own idx y (cw :: tq_T)) := by
  intro w hw
  have hm : w ∈ tq_T := by
    simp only [va_wsS, List.cons_append, List.nil_append, List.mem_cons] at hw
    rcases hw with rfl | rfl | rfl | rfl | h
    · exact h1
    · exact h2
    · exact h4
    · exact h5
    · exact h
  exact ⟨hm, good_of_word (tq_gw w hm)⟩
theorem tq_gC {cw : Cond} (h5 : cw ∈ tq_T) : GoodIn tq_T (cw :: tq_T) := by
  intro w hw
  have hm : w ∈ tq_T := by
    rcases List.mem_cons.mp hw with rfl | h
    · exact h5
    · exact h
  exact ⟨hm, good_of_word (tq_gw w hm)⟩
theorem tq_nb {y : Int32} (h : y = 0 ∨ y = 1) : narrow .boolean (.int y) = .int y := by
  rcases h with rfl | rfl <;> rfl
theorem tq_fb {y : Int32} (h : y = 0 ∨ y = 1) : fits .boolean (.int y) = true := by
  rcases h with rfl | rfl <;> rfl
theorem tq_ni {x k : Int32} {a : Int} (h : ¬ x = k) (hk : k.toInt = a) : x.toInt ≠ a := fun e => h (Int32.toInt_inj.mp (by rw [e, hk]))
theorem tq_grI {st : tq_C → Option tq_C} {n : Nat} {r v : Int32} {σ' σ : tq_S} {c' : tq_C} (hg : some (tq_rt, [v], [], σ) = some c') (hn : tq_go st n c' = some (tq_rt, [r], [], σ')) : v = r ∧ σ = σ' := by
  have h := tq_gr hg hn
  simp only [Prod.mk.injEq, List.cons.injEq, and_true, true_and] at h
  exact ⟨h.1.symm, h.2.symm⟩
theorem tq_grL {st : tq_C → Option tq_C} {n : Nat} {r v : Int64} {σ' σ : tq_S} {c' : tq_C} (hg : some (tq_rt, [], [v], σ) = some c') (hn : tq_go st n c' = some (tq_rt, [], [r], σ')) : v = r ∧ σ = σ' := by
  have h := tq_gr hg hn
  simp only [Prod.mk.injEq, List.cons.injEq, and_true, true_and] at h
  exact ⟨h.1.symm, h.2.symm⟩
theorem tq_grV {st : tq_C → Option tq_C} {n : Nat} {σ' σ : tq_S} {c' : tq_C} (hg : some (tq_rt, [], [], σ) = some c') (hn : tq_go st n c' = some (tq_rt, [], [], σ')) : σ = σ' := by
  have h := tq_gr hg hn
  simp only [Prod.mk.injEq, true_and] at h
  exact h.symm
end
section
theorem d_Tn_isBelow_0 : decode prog_1_method_21_code 0 = .ok (.iload_n 0, 1) := by decide +kernel
theorem d_Tn_isBelow_1 : decode prog_1_method_21_code 1 = .ok (.ifCond .lt 12, 3) := by decide +kernel
theorem d_Tn_isBelow_4 : decode prog_1_method_21_code 4 = .ok (.iload_n 0, 1) := by decide +kernel
theorem d_Tn_isBelow_5 : decode prog_1_method_21_code 5 = .ok (.iload_n 1, 1) := by decide +kernel
theorem d_Tn_isBelow_6 : decode prog_1_method_21_code 6 = .ok (.if_icmp .ge 7, 3) := by decide +kernel
theorem d_Tn_isBelow_9 : decode prog_1_method_21_code 9 = .ok (.iconst 1, 1) := by decide +kernel
theorem d_Tn_isBelow_10 : decode prog_1_method_21_code 10 = .ok (.goto 4, 3) := by decide +kernel
theorem d_Tn_isBelow_13 : decode prog_1_method_21_code 13 = .ok (.iconst 0, 1) := by decide +kernel
theorem d_Tn_isBelow_14 : decode prog_1_method_21_code 14 = .ok (.ireturn, 1) := by decide +kernel
noncomputable def bk_Tn_isBelow_0 : List Int32 → List Int64 → tq_S → Option tq_C
  | [x0, x1], [], σ => if x0 < 0 then some (tq_rt, [0], [], σ) else if x1 ≤ x0 then some (tq_rt, [0], [], σ) else some (tq_rt, [1], [], σ)
  | _, _, _ => none
noncomputable def st_Tn_isBelow (c : tq_C) : Option tq_C := if c.1 = 0 then bk_Tn_isBelow_0 c.2.1 c.2.2.1 c.2.2.2 else none
set_option maxHeartbeats 40000000 in
set_option maxRecDepth 100000 in
theorem c_Tn_isBelow (l : Launch) (dC : Nat → ClassId) (dI : Nat → Nat → Nat) (cI cL cZ : ClassId) (ad : Nat → Nat) (tt : Nat) (sz : Nat) (σ : tq_S) (a0 : Int32) (a1 : Int32) (r : Int32) (σ' : tq_S) (hf : tq_fI st_Tn_isBelow (0, [a0, a1], [], σ) = some (r, σ')) : Met l y_Tn_isBelow w_Tn_isBelow ({ frames := 0, cells := 0, slots := 0, locals := 0 } : Room) (va_Pc [.int a0, .int a1] (tq_B dC dI cI cL cZ tt (wo cI cL cZ ad σ) sz)) (va_Qi (fun (r' : Int32) (u : tq_S) => r' = r ∧ u = σ') (tq_E dC dI cI cL cZ (wo cI cL cZ ad) (va_A (wo cI cL cZ ad σ) sz)) (va_A (wo cI cL cZ ad σ) sz)) 0 0 (va_A (wo cI cL cZ ad σ) sz) := by
  obtain ⟨n0, h0⟩ := tq_fI_to hf
  refine Met.ofW (cc := prog_1_method_21_code) (maxL := 2) (ret := (some .boolean)) (by decide) rfl ?_
  intro p e s m args below meth c s₁ B hml hv
  obtain ⟨rfl, hsz, hP, hK, hD0, hZ, hN⟩ := hv
  have hx := B.exec
  have hb := B.bytes
  have hr := B.returns
  have hts : ∀ w ∈ tq_T, w.before _ s = true := fun w h => atoms_spec (ws := w_Tn_isBelow) B.pre w (List.mem_cons_of_mem _ h)
  have hown : s.vm.findClass "TableauNodes" = some m.cls := findClass_of_methodNamed B.named
  have hlocks := B.notSynchronized
  subst hsz
  have hD := hD0.self (sz := s.heap.size)
  have hS : va_S (va_A (wo cI cL cZ ad σ) s.heap.size) s.heap s.heap [] := va_S.rf
  have hA : ∀ q : Nat, s.heap.size ≤ q → va_A (wo cI cL cZ ad σ) s.heap.size q := fun q h => Or.inr h
  generalize va_A (wo cI cL cZ ad σ) s.heap.size = A at hD hS hA hZ ⊢
  have hl := lv_entry ([.int a0, .int a1]) (n := 2) (Nat.le_of_ble_eq_true rfl)
  rw [lg_entry_eq]
  generalize (lg_sl ([.int a0, .int a1]) ++ List.replicate (2 - (lg_sl ([.int a0, .int a1])).length) Slot.unset).toArray = ls at hl ⊢
  have hl : lv_has ls 2 [(0, .int a0), (1, .int a1)] := hl
  have key : ∀ n : Nat, (∀ {x0 x1 : Int32} {σ : tq_S} {H : Heap} {locs : List Loc} {ls : Array Slot}, va_P (dC, dI) tq_cl (wo cI cL cZ ad σ) H → va_D A (wo cI cL cZ ad σ) → va_S A s.heap H locs → lv_has ls 2 [(0, .int x0), (1, .int x1)] → tq_go st_Tn_isBelow n (0, [x0, x1], [], σ) = some (tq_rt, [r], [], σ') → W p l e (headSpec w_Tn_isBelow ({ frames := 0, cells := 0, slots := 0, locals := 0 } : Room)).room s m ([.int a0, .int a1] : List Value).toArray below meth c H locs 0 0 (MQ below (va_Qi (fun (r' : Int32) (u : tq_S) => r' = r ∧ u = σ') (tq_E dC dI cI cL cZ (wo cI cL cZ ad) A) A) ([.int a0, .int a1] : List Value).toArray s 0 0 A) (F0 m 0 ls [])) := by
    intro n
    induction n with
    | zero => exact fun _ _ _ _ h => by cases h
    | succ n ih =>
      intro x0 x1 σ H locs ls hP hD hS hl h9
      obtain ⟨q9, hg, hn⟩ := tq_go_s h9 (show ¬ (0 : Nat) = tq_rt by decide)
      replace hg : bk_Tn_isBelow_0 [x0, x1] [] σ = some q9 := hg
      unfold bk_Tn_isBelow_0 at hg
      refine lv_iload_n hx hb d_Tn_isBelow_0 rfl (lv_at hl 0 rfl) ?_
      refine lv_if_lt (tgt := 13) hx hb d_Tn_isBelow_1 (by decide) (fun c1 => ?_) (fun c1 => ?_)
      · replace hg := tq_if_t c1 hg
        refine lv_iconst (v := 0) hx hb d_Tn_isBelow_13 (by decide) ?_
        exact W.zret (v := 0) hx hb hr rfl (fun t ht hW => ⟨⟨0, σ, rfl, tq_grI hg hn, by rw [ht]; exact hP, va_K.moved hW.alike hK, hD⟩, hS.F ht⟩) hS.2.2 d_Tn_isBelow_14
      · replace hg := tq_if_f c1 hg
        refine lv_iload_n hx hb d_Tn_isBelow_4 rfl (lv_at hl 0 rfl) ?_
        refine lv_iload_n hx hb d_Tn_isBelow_5 rfl (lv_at hl 1 rfl) ?_
        refine lv_icmp_ge (tgt := 13) hx hb d_Tn_isBelow_6 (by decide) (fun c2 => ?_) (fun c2 => ?_)
        · replace hg := tq_if_t c2 hg
          refine lv_iconst (v := 0) hx hb d_Tn_isBelow_13 (by decide) ?_
          exact W.zret (v := 0) hx hb hr rfl (fun t ht hW => ⟨⟨0, σ, rfl, tq_grI hg hn, by rw [ht]; exact hP, va_K.moved hW.alike hK, hD⟩, hS.F ht⟩) hS.2.2 d_Tn_isBelow_14
        · replace hg := tq_if_f c2 hg
          refine lv_iconst (v := 1) hx hb d_Tn_isBelow_9 (by decide) ?_
          refine lv_goto (tgt := 14) hx hb d_Tn_isBelow_10 (by decide) ?_
          exact W.zret (v := 1) hx hb hr rfl (fun t ht hW => ⟨⟨1, σ, rfl, tq_grI hg hn, by rw [ht]; exact hP, va_K.moved hW.alike hK, hD⟩, hS.F ht⟩) hS.2.2 d_Tn_isBelow_14
  exact (key n0) hP hD hS hl h0
theorem d_Tn_hasBit_0 : decode prog_1_method_22_code 0 = .ok (.lload_n 0, 1) := by decide +kernel
theorem d_Tn_hasBit_1 : decode prog_1_method_22_code 1 = .ok (.iload_n 2, 1) := by decide +kernel
theorem d_Tn_hasBit_2 : decode prog_1_method_22_code 2 = .ok (.lushr, 1) := by decide +kernel
theorem d_Tn_hasBit_3 : decode prog_1_method_22_code 3 = .ok (.lconst 1, 1) := by decide +kernel
theorem d_Tn_hasBit_4 : decode prog_1_method_22_code 4 = .ok (.land, 1) := by decide +kernel
theorem d_Tn_hasBit_5 : decode prog_1_method_22_code 5 = .ok (.lconst 0, 1) := by decide +kernel
theorem d_Tn_hasBit_6 : decode prog_1_method_22_code 6 = .ok (.lcmp, 1) := by decide +kernel
theorem d_Tn_hasBit_7 : decode prog_1_method_22_code 7 = .ok (.ifCond .eq 7, 3) := by decide +kernel
theorem d_Tn_hasBit_10 : decode prog_1_method_22_code 10 = .ok (.iconst 1, 1) := by decide +kernel
theorem d_Tn_hasBit_11 : decode prog_1_method_22_code 11 = .ok (.goto 4, 3) := by decide +kernel
theorem d_Tn_hasBit_14 : decode prog_1_method_22_code 14 = .ok (.iconst 0, 1) := by decide +kernel
theorem d_Tn_hasBit_15 : decode prog_1_method_22_code 15 = .ok (.ireturn, 1) := by decide +kernel
noncomputable def bk_Tn_hasBit_0 : List Int32 → List Int64 → tq_S → Option tq_C
  | [x2], [y0], σ => if (lg_cmp ((jlushr y0 x2) &&& 1) 0) = 0 then some (tq_rt, [0], [], σ) else some (tq_rt, [1], [], σ)
  | _, _, _ => none
noncomputable def st_Tn_hasBit (c : tq_C) : Option tq_C := if c.1 = 0 then bk_Tn_hasBit_0 c.2.1 c.2.2.1 c.2.2.2 else none
set_option maxHeartbeats 40000000 in
set_option maxRecDepth 100000 in
theorem c_Tn_hasBit (l : Launch) (dC : Nat → ClassId) (dI : Nat → Nat → Nat) (cI cL cZ : ClassId) (ad : Nat → Nat) (tt : Nat) (sz : Nat) (σ : tq_S) (a2 : Int32) (b0 : Int64) (r : Int32) (σ' : tq_S) (hf : tq_fI st_Tn_hasBit (0, [a2], [b0], σ) = some (r, σ')) : Met l y_Tn_hasBit w_Tn_hasBit ({ frames := 0, cells := 0, slots := 0, locals := 0 } : Room) (va_Pc [.long b0, .int a2] (tq_B dC dI cI cL cZ tt (wo cI cL cZ ad σ) sz)) (va_Qi (fun (r' : Int32) (u : tq_S) => r' = r ∧ u = σ') (tq_E dC dI cI cL cZ (wo cI cL cZ ad) (va_A (wo cI cL cZ ad σ) sz)) (va_A (wo cI cL cZ ad σ) sz)) 0 0 (va_A (wo cI cL cZ ad σ) sz) := by
  obtain ⟨n0, h0⟩ := tq_fI_to hf
  refine Met.ofW (cc := prog_1_method_22_code) (maxL := 3) (ret := (some .boolean)) (by decide) rfl ?_
  intro p e s m args below meth c s₁ B hml hv
  obtain ⟨rfl, hsz, hP, hK, hD0, hZ, hN⟩ := hv
  have hx := B.exec
  have hb := B.bytes
  have hr := B.returns
  have hts : ∀ w ∈ tq_T, w.before _ s = true := fun w h => atoms_spec (ws := w_Tn_hasBit) B.pre w (List.mem_cons_of_mem _ h)
  have hown : s.vm.findClass "TableauNodes" = some m.cls := findClass_of_methodNamed B.named
  have hlocks := B.notSynchronized
  subst hsz
  have hD := hD0.self (sz := s.heap.size)
  have hS : va_S (va_A (wo cI cL cZ ad σ) s.heap.size) s.heap s.heap [] := va_S.rf
  have hA : ∀ q : Nat, s.heap.size ≤ q → va_A (wo cI cL cZ ad σ) s.heap.size q := fun q h => Or.inr h
  generalize va_A (wo cI cL cZ ad σ) s.heap.size = A at hD hS hA hZ ⊢
  have hl := lv_entry ([.long b0, .int a2]) (n := 3) (Nat.le_of_ble_eq_true rfl)
  rw [lg_entry_eq]
  generalize (lg_sl ([.long b0, .int a2]) ++ List.replicate (3 - (lg_sl ([.long b0, .int a2])).length) Slot.unset).toArray = ls at hl ⊢
  have hl : lv_has ls 3 [(0, .long b0), (2, .int a2)] := hl
  have key : ∀ n : Nat, (∀ {x2 : Int32} {y0 : Int64} {σ : tq_S} {H : Heap} {locs : List Loc} {ls : Array Slot}, va_P (dC, dI) tq_cl (wo cI cL cZ ad σ) H → va_D A (wo cI cL cZ ad σ) → va_S A s.heap H locs → lv_has ls 3 [(0, .long y0), (2, .int x2)] → tq_go st_Tn_hasBit n (0, [x2], [y0], σ) = some (tq_rt, [r], [], σ') → W p l e (headSpec w_Tn_hasBit ({ frames := 0, cells := 0, slots := 0, locals := 0 } : Room)).room s m ([.long b0, .int a2] : List Value).toArray below meth c H locs 0 0 (MQ below (va_Qi (fun (r' : Int32) (u : tq_S) => r' = r ∧ u = σ') (tq_E dC dI cI cL cZ (wo cI cL cZ ad) A) A) ([.long b0, .int a2] : List Value).toArray s 0 0 A) (F0 m 0 ls [])) := by
    intro n
    induction n with
    | zero => exact fun _ _ _ _ h => by cases h
    | succ n ih =>
      intro x2 y0 σ H locs ls hP hD hS hl h9
      obtain ⟨q9, hg, hn⟩ := tq_go_s h9 (show ¬ (0 : Nat) = tq_rt by decide)
      replace hg : bk_Tn_hasBit_0 [x2] [y0] σ = some q9 := hg
      unfold bk_Tn_hasBit_0 at hg
      refine lv_lload_n hx hb d_Tn_hasBit_0 rfl (lv_at hl 0 rfl) ?_
      refine lv_iload_n hx hb d_Tn_hasBit_1 rfl (lv_at hl 1 rfl) ?_
      refine lv_lushr hx hb d_Tn_hasBit_2 rfl ?_
      refine lv_lconst (v := 1) hx hb d_Tn_hasBit_3 (by decide) ?_
      refine lv_land hx hb d_Tn_hasBit_4 ?_
      refine lv_lconst (v := 0) hx hb d_Tn_hasBit_5 (by decide) ?_
      refine W.lcmp hx hb d_Tn_hasBit_6 ?_
      refine lv_if_eq (tgt := 14) hx hb d_Tn_hasBit_7 (by decide) (fun c1 => ?_) (fun c1 => ?_)
      · replace hg := tq_if_t c1 hg
        refine lv_iconst (v := 0) hx hb d_Tn_hasBit_14 (by decide) ?_
        exact W.zret (v := 0) hx hb hr rfl (fun t ht hW => ⟨⟨0, σ, rfl, tq_grI hg hn, by rw [ht]; exact hP, va_K.moved hW.alike hK, hD⟩, hS.F ht⟩) hS.2.2 d_Tn_hasBit_15
      · replace hg := tq_if_f c1 hg
        refine lv_iconst (v := 1) hx hb d_Tn_hasBit_10 (by decide) ?_
        refine lv_goto (tgt := 15) hx hb d_Tn_hasBit_11 (by decide) ?_
        exact W.zret (v := 1) hx hb hr rfl (fun t ht hW => ⟨⟨1, σ, rfl, tq_grI hg hn, by rw [ht]; exact hP, va_K.moved hW.alike hK, hD⟩, hS.F ht⟩) hS.2.2 d_Tn_hasBit_15
  exact (key n0) hP hD hS hl h0
theorem d_Co_isThere_0 : decode prog_2_method_7_code 0 = .ok (.iload_n 1, 1) := by decide +kernel
theorem d_Co_isThere_1 : decode prog_2_method_7_code 1 = .ok (.ifCond .lt 15, 3) := by decide +kernel
theorem d_Co_isThere_4 : decode prog_2_method_7_code 4 = .ok (.iload_n 1, 1) := by decide +kernel
theorem d_Co_isThere_5 : decode prog_2_method_7_code 5 = .ok (.aload_n 0, 1) := by decide +kernel
theorem d_Co_isThere_6 : decode prog_2_method_7_code 6 = .ok (.getfield 38, 3) := by decide +kernel
theorem d_Co_isThere_9 : decode prog_2_method_7_code 9 = .ok (.if_icmp .ge 7, 3) := by decide +kernel
theorem d_Co_isThere_12 : decode prog_2_method_7_code 12 = .ok (.iconst 1, 1) := by decide +kernel
theorem d_Co_isThere_13 : decode prog_2_method_7_code 13 = .ok (.goto 4, 3) := by decide +kernel
theorem d_Co_isThere_16 : decode prog_2_method_7_code 16 = .ok (.iconst 0, 1) := by decide +kernel
theorem d_Co_isThere_17 : decode prog_2_method_7_code 17 = .ok (.ireturn, 1) := by decide +kernel
noncomputable def bk_Co_isThere_0 : List Int32 → List Int64 → tq_S → Option tq_C
  | [x1], [], σ => if x1 < 0 then some (tq_rt, [0], [], σ) else if (σ.2.2 0) ≤ x1 then some (tq_rt, [0], [], σ) else some (tq_rt, [1], [], σ)
  | _, _, _ => none
noncomputable def st_Co_isThere (c : tq_C) : Option tq_C := if c.1 = 0 then bk_Co_isThere_0 c.2.1 c.2.2.1 c.2.2.2 else none
set_option maxHeartbeats 40000000 in
set_option maxRecDepth 100000 in
theorem c_Co_isThere (l : Launch) (dC : Nat → ClassId) (dI : Nat → Nat → Nat) (cI cL cZ : ClassId) (ad : Nat → Nat) (tt : Nat) (sz : Nat) (σ : tq_S) (a1 : Int32) (r : Int32) (σ' : tq_S) (hf : tq_fI st_Co_isThere (0, [a1], [], σ) = some (r, σ')) : Met l y_Co_isThere w_Co_isThere ({ frames := 0, cells := 0, slots := 0, locals := 0 } : Room) (va_Pc [.ref (ad 1), .int a1] (tq_B dC dI cI cL cZ tt (wo cI cL cZ ad σ) sz)) (va_Qi (fun (r' : Int32) (u : tq_S) => r' = r ∧ u = σ') (tq_E dC dI cI cL cZ (wo cI cL cZ ad) (va_A (wo cI cL cZ ad σ) sz)) (va_A (wo cI cL cZ ad σ) sz)) 0 0 (va_A (wo cI cL cZ ad σ) sz) := by
  obtain ⟨n0, h0⟩ := tq_fI_to hf
  refine Met.ofW (cc := prog_2_method_7_code) (maxL := 2) (ret := (some .boolean)) (by decide) rfl ?_
  intro p e s m args below meth c s₁ B hml hv
  obtain ⟨rfl, hsz, hP, hK, hD0, hZ, hN⟩ := hv
  have hx := B.exec
  have hb := B.bytes
  have hr := B.returns
  have hts : ∀ w ∈ tq_T, w.before _ s = true := fun w h => atoms_spec (ws := w_Co_isThere) B.pre w (List.mem_cons_of_mem _ h)
  have hown : s.vm.findClass "TableauNodes$Concepts" = some m.cls := findClass_of_methodNamed B.named
  have hlocks := B.notSynchronized
  subst hsz
  have hD := hD0.self (sz := s.heap.size)
  have hS : va_S (va_A (wo cI cL cZ ad σ) s.heap.size) s.heap s.heap [] := va_S.rf
  have hA : ∀ q : Nat, s.heap.size ≤ q → va_A (wo cI cL cZ ad σ) s.heap.size q := fun q h => Or.inr h
  generalize va_A (wo cI cL cZ ad σ) s.heap.size = A at hD hS hA hZ ⊢
  have hl := lv_entry ([.ref (ad 1), .int a1]) (n := 2) (Nat.le_of_ble_eq_true rfl)
  rw [lg_entry_eq]
  generalize (lg_sl ([.ref (ad 1), .int a1]) ++ List.replicate (2 - (lg_sl ([.ref (ad 1), .int a1])).length) Slot.unset).toArray = ls at hl ⊢
  have hl : lv_has ls 2 [(0, .ref (ad 1)), (1, .int a1)] := hl
  have key : ∀ n : Nat, (∀ {x1 : Int32} {σ : tq_S} {H : Heap} {locs : List Loc} {ls : Array Slot}, va_P (dC, dI) tq_cl (wo cI cL cZ ad σ) H → va_D A (wo cI cL cZ ad σ) → va_S A s.heap H locs → lv_has ls 2 [(0, .ref (ad 1)), (1, .int x1)] → tq_go st_Co_isThere n (0, [x1], [], σ) = some (tq_rt, [r], [], σ') → W p l e (headSpec w_Co_isThere ({ frames := 0, cells := 0, slots := 0, locals := 0 } : Room)).room s m ([.ref (ad 1), .int a1] : List Value).toArray below meth c H locs 0 0 (MQ below (va_Qi (fun (r' : Int32) (u : tq_S) => r' = r ∧ u = σ') (tq_E dC dI cI cL cZ (wo cI cL cZ ad) A) A) ([.ref (ad 1), .int a1] : List Value).toArray s 0 0 A) (F0 m 0 ls [])) := by
    intro n
    induction n with
    | zero => exact fun _ _ _ _ h => by cases h
    | succ n ih =>
      intro x1 σ H locs ls hP hD hS hl h9
      obtain ⟨q9, hg, hn⟩ := tq_go_s h9 (show ¬ (0 : Nat) = tq_rt by decide)
      replace hg : bk_Co_isThere_0 [x1] [] σ = some q9 := hg
      unfold bk_Co_isThere_0 at hg
      refine lv_iload_n hx hb d_Co_isThere_0 rfl (lv_at hl 1 rfl) ?_
      refine lv_if_lt (tgt := 16) hx hb d_Co_isThere_1 (by decide) (fun c1 => ?_) (fun c1 => ?_)
      · replace hg := tq_if_t c1 hg
        refine lv_iconst (v := 0) hx hb d_Co_isThere_16 (by decide) ?_
        exact W.zret (v := 0) hx hb hr rfl (fun t ht hW => ⟨⟨0, σ, rfl, tq_grI hg hn, by rw [ht]; exact hP, va_K.moved hW.alike hK, hD⟩, hS.F ht⟩) hS.2.2 d_Co_isThere_17
      · replace hg := tq_if_f c1 hg
        refine lv_iload_n hx hb d_Co_isThere_4 rfl (lv_at hl 1 rfl) ?_
        refine lv_aload_n hx hb d_Co_isThere_5 rfl (lv_at hl 0 rfl) ?_
        refine va_get (D := (dC, dI)) (ci := 1) (v := .int (σ.2.2 0)) (C := "TableauNodes$Concepts") (T := F_Co) (N := 9) hx hb hts in_Co hown hK hP 1 rfl rfl 7 (by decide) (hts _ tw_70) (fun _ h9 => h9) rfl d_Co_isThere_6 ?_
        refine lv_icmp_ge (tgt := 16) hx hb d_Co_isThere_9 (by decide) (fun c2 => ?_) (fun c2 => ?_)
        · replace hg := tq_if_t c2 hg
          refine lv_iconst (v := 0) hx hb d_Co_isThere_16 (by decide) ?_
          exact W.zret (v := 0) hx hb hr rfl (fun t ht hW => ⟨⟨0, σ, rfl, tq_grI hg hn, by rw [ht]; exact hP, va_K.moved hW.alike hK, hD⟩, hS.F ht⟩) hS.2.2 d_Co_isThere_17
        · replace hg := tq_if_f c2 hg
          refine lv_iconst (v := 1) hx hb d_Co_isThere_12 (by decide) ?_
          refine lv_goto (tgt := 17) hx hb d_Co_isThere_13 (by decide) ?_
          exact W.zret (v := 1) hx hb hr rfl (fun t ht hW => ⟨⟨1, σ, rfl, tq_grI hg hn, by rw [ht]; exact hP, va_K.moved hW.alike hK, hD⟩, hS.F ht⟩) hS.2.2 d_Co_isThere_17
  exact (key n0) hP hD hS hl h0
theorem d_Co_find_0 : decode prog_2_method_18_code 0 = .ok (.iconst 0, 1) := by decide +kernel
theorem d_Co_find_1 : decode prog_2_method_18_code 1 = .ok (.istore 4, 2) := by decide +kernel
theorem d_Co_find_3 : decode prog_2_method_18_code 3 = .ok (.iload 4, 2) := by decide +kernel
theorem d_Co_find_5 : decode prog_2_method_18_code 5 = .ok (.aload_n 0, 1) := by decide +kernel
theorem d_Co_find_6 : decode prog_2_method_18_code 6 = .ok (.getfield 38, 3) := by decide +kernel
theorem d_Co_find_9 : decode prog_2_method_18_code 9 = .ok (.if_icmp .ge 45, 3) := by decide +kernel
theorem d_Co_find_12 : decode prog_2_method_18_code 12 = .ok (.aload_n 0, 1) := by decide +kernel
theorem d_Co_find_13 : decode prog_2_method_18_code 13 = .ok (.getfield 9, 3) := by decide +kernel
theorem d_Co_find_16 : decode prog_2_method_18_code 16 = .ok (.iload 4, 2) := by decide +kernel
theorem d_Co_find_18 : decode prog_2_method_18_code 18 = .ok (.iaload, 1) := by decide +kernel
theorem d_Co_find_19 : decode prog_2_method_18_code 19 = .ok (.iload_n 1, 1) := by decide +kernel
theorem d_Co_find_20 : decode prog_2_method_18_code 20 = .ok (.if_icmp .ne 28, 3) := by decide +kernel
theorem d_Co_find_23 : decode prog_2_method_18_code 23 = .ok (.aload_n 0, 1) := by decide +kernel
theorem d_Co_find_24 : decode prog_2_method_18_code 24 = .ok (.getfield 15, 3) := by decide +kernel
theorem d_Co_find_27 : decode prog_2_method_18_code 27 = .ok (.iload 4, 2) := by decide +kernel
theorem d_Co_find_29 : decode prog_2_method_18_code 29 = .ok (.iaload, 1) := by decide +kernel
theorem d_Co_find_30 : decode prog_2_method_18_code 30 = .ok (.iload_n 2, 1) := by decide +kernel
theorem d_Co_find_31 : decode prog_2_method_18_code 31 = .ok (.if_icmp .ne 17, 3) := by decide +kernel
theorem d_Co_find_34 : decode prog_2_method_18_code 34 = .ok (.aload_n 0, 1) := by decide +kernel
theorem d_Co_find_35 : decode prog_2_method_18_code 35 = .ok (.getfield 18, 3) := by decide +kernel
theorem d_Co_find_38 : decode prog_2_method_18_code 38 = .ok (.iload 4, 2) := by decide +kernel
theorem d_Co_find_40 : decode prog_2_method_18_code 40 = .ok (.iaload, 1) := by decide +kernel
theorem d_Co_find_41 : decode prog_2_method_18_code 41 = .ok (.iload_n 3, 1) := by decide +kernel
theorem d_Co_find_42 : decode prog_2_method_18_code 42 = .ok (.if_icmp .ne 6, 3) := by decide +kernel
theorem d_Co_find_45 : decode prog_2_method_18_code 45 = .ok (.iload 4, 2) := by decide +kernel
theorem d_Co_find_47 : decode prog_2_method_18_code 47 = .ok (.ireturn, 1) := by decide +kernel
theorem d_Co_find_48 : decode prog_2_method_18_code 48 = .ok (.iinc 4 1, 3) := by decide +kernel
theorem d_Co_find_51 : decode prog_2_method_18_code 51 = .ok (.goto (-48), 3) := by decide +kernel
theorem d_Co_find_54 : decode prog_2_method_18_code 54 = .ok (.iconst (-1), 1) := by decide +kernel
theorem d_Co_find_55 : decode prog_2_method_18_code 55 = .ok (.ireturn, 1) := by decide +kernel
noncomputable def bk_Co_find_0 : List Int32 → List Int64 → tq_S → Option tq_C
  | [x1, x2, x3], [], σ => some (3, [x1, x2, x3, 0], [], σ)
  | _, _, _ => none
noncomputable def bk_Co_find_3 : List Int32 → List Int64 → tq_S → Option tq_C
  | [x1, x2, x3, x4], [], σ => if (σ.2.2 0) ≤ x4 then some (tq_rt, [(-1)], [], σ) else tq_gd x4 80 (if ¬ (ia σ 0 x4) = x1 then tq_lj (x4 + 1) (fun v4 => some (3, [x1, x2, x3, v4], [], σ)) else tq_gd x4 80 (if ¬ (ia σ 1 x4) = x2 then tq_lj (x4 + 1) (fun v7 => some (3, [x1, x2, x3, v7], [], σ)) else tq_gd x4 80 (if ¬ (ia σ 2 x4) = x3 then tq_lj (x4 + 1) (fun v10 => some (3, [x1, x2, x3, v10], [], σ)) else some (tq_rt, [x4], [], σ))))
  | _, _, _ => none
noncomputable def st_Co_find (c : tq_C) : Option tq_C := if c.1 = 0 then bk_Co_find_0 c.2.1 c.2.2.1 c.2.2.2 else if c.1 = 3 then bk_Co_find_3 c.2.1 c.2.2.1 c.2.2.2 else none
set_option maxHeartbeats 40000000 in
set_option maxRecDepth 100000 in
theorem c_Co_find (l : Launch) (dC : Nat → ClassId) (dI : Nat → Nat → Nat) (cI cL cZ : ClassId) (ad : Nat → Nat) (tt : Nat) (sz : Nat) (σ : tq_S) (a1 : Int32) (a2 : Int32) (a3 : Int32) (r : Int32) (σ' : tq_S) (hf : tq_fI st_Co_find (0, [a1, a2, a3], [], σ) = some (r, σ')) : Met l y_Co_find w_Co_find ({ frames := 0, cells := 0, slots := 0, locals := 0 } : Room) (va_Pc [.ref (ad 1), .int a1, .int a2, .int a3] (tq_B dC dI cI cL cZ tt (wo cI cL cZ ad σ) sz)) (va_Qi (fun (r' : Int32) (u : tq_S) => r' = r ∧ u = σ') (tq_E dC dI cI cL cZ (wo cI cL cZ ad) (va_A (wo cI cL cZ ad σ) sz)) (va_A (wo cI cL cZ ad σ) sz)) 0 0 (va_A (wo cI cL cZ ad σ) sz) := by
  obtain ⟨n0, h0⟩ := tq_fI_to hf
  refine Met.ofW (cc := prog_2_method_18_code) (maxL := 5) (ret := (some .int)) (by decide) rfl ?_
  intro p e s m args below meth c s₁ B hml hv
  obtain ⟨rfl, hsz, hP, hK, hD0, hZ, hN⟩ := hv
  have hx := B.exec
  have hb := B.bytes
  have hr := B.returns
  have hts : ∀ w ∈ tq_T, w.before _ s = true := fun w h => atoms_spec (ws := w_Co_find) B.pre w (List.mem_cons_of_mem _ h)
  have hown : s.vm.findClass "TableauNodes$Concepts" = some m.cls := findClass_of_methodNamed B.named
  have hlocks := B.notSynchronized
  subst hsz
  have hD := hD0.self (sz := s.heap.size)
  have hS : va_S (va_A (wo cI cL cZ ad σ) s.heap.size) s.heap s.heap [] := va_S.rf
  have hA : ∀ q : Nat, s.heap.size ≤ q → va_A (wo cI cL cZ ad σ) s.heap.size q := fun q h => Or.inr h
  generalize va_A (wo cI cL cZ ad σ) s.heap.size = A at hD hS hA hZ ⊢
  have hl := lv_entry ([.ref (ad 1), .int a1, .int a2, .int a3]) (n := 5) (Nat.le_of_ble_eq_true rfl)
  rw [lg_entry_eq]
  generalize (lg_sl ([.ref (ad 1), .int a1, .int a2, .int a3]) ++ List.replicate (5 - (lg_sl ([.ref (ad 1), .int a1, .int a2, .int a3])).length) Slot.unset).toArray = ls at hl ⊢
  have hl : lv_has ls 5 [(0, .ref (ad 1)), (1, .int a1), (2, .int a2), (3, .int a3)] := hl
  have key : ∀ n : Nat, (∀ {x1 x2 x3 : Int32} {σ : tq_S} {H : Heap} {locs : List Loc} {ls : Array Slot}, va_P (dC, dI) tq_cl (wo cI cL cZ ad σ) H → va_D A (wo cI cL cZ ad σ) → va_S A s.heap H locs → lv_has ls 5 [(0, .ref (ad 1)), (1, .int x1), (2, .int x2), (3, .int x3)] → tq_go st_Co_find n (0, [x1, x2, x3], [], σ) = some (tq_rt, [r], [], σ') → W p l e (headSpec w_Co_find ({ frames := 0, cells := 0, slots := 0, locals := 0 } : Room)).room s m ([.ref (ad 1), .int a1, .int a2, .int a3] : List Value).toArray below meth c H locs 0 0 (MQ below (va_Qi (fun (r' : Int32) (u : tq_S) => r' = r ∧ u = σ') (tq_E dC dI cI cL cZ (wo cI cL cZ ad) A) A) ([.ref (ad 1), .int a1, .int a2, .int a3] : List Value).toArray s 0 0 A) (F0 m 0 ls [])) ∧ (∀ {x1 x2 x3 x4 : Int32} {σ : tq_S} {H : Heap} {locs : List Loc} {ls : Array Slot}, va_P (dC, dI) tq_cl (wo cI cL cZ ad σ) H → va_D A (wo cI cL cZ ad σ) → va_S A s.heap H locs → lv_has ls 5 [(0, .ref (ad 1)), (1, .int x1), (2, .int x2), (3, .int x3), (4, .int x4)] → tq_go st_Co_find n (3, [x1, x2, x3, x4], [], σ) = some (tq_rt, [r], [], σ') → W p l e (headSpec w_Co_find ({ frames := 0, cells := 0, slots := 0, locals := 0 } : Room)).room s m ([.ref (ad 1), .int a1, .int a2, .int a3] : List Value).toArray below meth c H locs 0 0 (MQ below (va_Qi (fun (r' : Int32) (u : tq_S) => r' = r ∧ u = σ') (tq_E dC dI cI cL cZ (wo cI cL cZ ad) A) A) ([.ref (ad 1), .int a1, .int a2, .int a3] : List Value).toArray s 0 0 A) (F0 m 3 ls [])) := by
    intro n
    induction n with
    | zero => exact ⟨(fun _ _ _ _ h => by cases h), (fun _ _ _ _ h => by cases h)⟩
    | succ n ih =>
      refine ⟨?_, ?_⟩
      · intro x1 x2 x3 σ H locs ls hP hD hS hl h9
        obtain ⟨q9, hg, hn⟩ := tq_go_s h9 (show ¬ (0 : Nat) = tq_rt by decide)
        replace hg : bk_Co_find_0 [x1, x2, x3] [] σ = some q9 := hg
        unfold bk_Co_find_0 at hg
        refine lv_iconst (v := 0) hx hb d_Co_find_0 (by decide) ?_
        refine lv_istore (lv' := [(4, .int 0), (0, .ref (ad 1)), (1, .int x1), (2, .int x2), (3, .int x3)]) hx hb d_Co_find_1 hl (by decide) rfl (fun ls hl => ?_)
        exact ih.2 hP hD hS (lv_sub hl [1, 2, 3, 4, 0] rfl) (tq_gi hg hn)
      · intro x1 x2 x3 x4 σ H locs ls hP hD hS hl h9
        obtain ⟨q9, hg, hn⟩ := tq_go_s h9 (show ¬ (3 : Nat) = tq_rt by decide)
        replace hg : bk_Co_find_3 [x1, x2, x3, x4] [] σ = some q9 := hg
        unfold bk_Co_find_3 at hg
        refine lv_iload hx hb d_Co_find_3 (lv_at hl 4 rfl) ?_
        refine lv_aload_n hx hb d_Co_find_5 rfl (lv_at hl 0 rfl) ?_
        refine va_get (D := (dC, dI)) (ci := 1) (v := .int (σ.2.2 0)) (C := "TableauNodes$Concepts") (T := F_Co) (N := 9) hx hb hts in_Co hown hK hP 1 rfl rfl 7 (by decide) (hts _ tw_70) (fun _ h9 => h9) rfl d_Co_find_6 ?_
        refine lv_icmp_ge (tgt := 54) hx hb d_Co_find_9 (by decide) (fun c1 => ?_) (fun c1 => ?_)
        · replace hg := tq_if_t c1 hg
          refine lv_iconst (v := (-1)) hx hb d_Co_find_54 (by decide) ?_
          exact W.iret (v := (-1)) hx hb hr (fun t ht hW => ⟨⟨(-1), σ, rfl, tq_grI hg hn, by rw [ht]; exact hP, va_K.moved hW.alike hK, hD⟩, hS.F ht⟩) hS.2.2 d_Co_find_55
        · replace hg := tq_if_f c1 hg
          refine lv_aload_n hx hb d_Co_find_12 rfl (lv_at hl 0 rfl) ?_
          refine va_get (D := (dC, dI)) (ci := 1) (v := .ref (ad 6)) (C := "TableauNodes$Concepts") (T := F_Co) (N := 9) hx hb hts in_Co hown hK hP 1 rfl rfl 0 (by decide) (hts _ tw_63) (fun _ h9 => h9) rfl d_Co_find_13 ?_
          refine lv_iload hx hb d_Co_find_16 (lv_at hl 4 rfl) ?_
          obtain ⟨g2, hg⟩ := tq_gd_s hg
          refine va_iald hx hb hK hP 6 0 rfl rfl g2 d_Co_find_18 ?_
          refine lv_iload_n hx hb d_Co_find_19 rfl (lv_at hl 1 rfl) ?_
          refine lv_icmp_ne (tgt := 48) hx hb d_Co_find_20 (by decide) (fun c3 => ?_) (fun c3 => ?_)
          · replace hg := tq_if_t c3 hg
            obtain ⟨v4, ev4, hg⟩ := tq_lj_s hg
            refine lv_iinc (v := v4) (lv' := [(4, .int v4), (0, .ref (ad 1)), (1, .int x1), (2, .int x2), (3, .int x3)]) hx hb d_Co_find_48 hl (k := 4) rfl (by rw [ev4]; rfl) (by decide) rfl (fun ls hl => ?_)
            refine lv_goto (tgt := 3) hx hb d_Co_find_51 (by decide) ?_
            exact ih.2 hP hD hS (lv_sub hl [1, 2, 3, 4, 0] rfl) (tq_gi hg hn)
          · replace hg := tq_if_n c3 hg
            refine lv_aload_n hx hb d_Co_find_23 rfl (lv_at hl 0 rfl) ?_
            refine va_get (D := (dC, dI)) (ci := 1) (v := .ref (ad 7)) (C := "TableauNodes$Concepts") (T := F_Co) (N := 9) hx hb hts in_Co hown hK hP 1 rfl rfl 1 (by decide) (hts _ tw_64) (fun _ h9 => h9) rfl d_Co_find_24 ?_
            refine lv_iload hx hb d_Co_find_27 (lv_at hl 4 rfl) ?_
            obtain ⟨g5, hg⟩ := tq_gd_s hg
            refine va_iald hx hb hK hP 7 0 rfl rfl g5 d_Co_find_29 ?_
            refine lv_iload_n hx hb d_Co_find_30 rfl (lv_at hl 2 rfl) ?_
            refine lv_icmp_ne (tgt := 48) hx hb d_Co_find_31 (by decide) (fun c6 => ?_) (fun c6 => ?_)
            · replace hg := tq_if_t c6 hg
              obtain ⟨v7, ev7, hg⟩ := tq_lj_s hg
              refine lv_iinc (v := v7) (lv' := [(4, .int v7), (0, .ref (ad 1)), (1, .int x1), (2, .int x2), (3, .int x3)]) hx hb d_Co_find_48 hl (k := 4) rfl (by rw [ev7]; rfl) (by decide) rfl (fun ls hl => ?_)
              refine lv_goto (tgt := 3) hx hb d_Co_find_51 (by decide) ?_
              exact ih.2 hP hD hS (lv_sub hl [1, 2, 3, 4, 0] rfl) (tq_gi hg hn)
            · replace hg := tq_if_n c6 hg
              refine lv_aload_n hx hb d_Co_find_34 rfl (lv_at hl 0 rfl) ?_
              refine va_get (D := (dC, dI)) (ci := 1) (v := .ref (ad 8)) (C := "TableauNodes$Concepts") (T := F_Co) (N := 9) hx hb hts in_Co hown hK hP 1 rfl rfl 2 (by decide) (hts _ tw_65) (fun _ h9 => h9) rfl d_Co_find_35 ?_
              refine lv_iload hx hb d_Co_find_38 (lv_at hl 4 rfl) ?_
              obtain ⟨g8, hg⟩ := tq_gd_s hg
              refine va_iald hx hb hK hP 8 0 rfl rfl g8 d_Co_find_40 ?_
              refine lv_iload_n hx hb d_Co_find_41 rfl (lv_at hl 3 rfl) ?_
              refine lv_icmp_ne (tgt := 48) hx hb d_Co_find_42 (by decide) (fun c9 => ?_) (fun c9 => ?_)
              · replace hg := tq_if_t c9 hg
                obtain ⟨v10, ev10, hg⟩ := tq_lj_s hg
                refine lv_iinc (v := v10) (lv' := [(4, .int v10), (0, .ref (ad 1)), (1, .int x1), (2, .int x2), (3, .int x3)]) hx hb d_Co_find_48 hl (k := 4) rfl (by rw [ev10]; rfl) (by decide) rfl (fun ls hl => ?_)
                refine lv_goto (tgt := 3) hx hb d_Co_find_51 (by decide) ?_
                exact ih.2 hP hD hS (lv_sub hl [1, 2, 3, 4, 0] rfl) (tq_gi hg hn)
              · replace hg := tq_if_n c9 hg
                refine lv_iload hx hb d_Co_find_45 (lv_at hl 4 rfl) ?_
                exact W.iret (v := x4) hx hb hr (fun t ht hW => ⟨⟨x4, σ, rfl, tq_grI hg hn, by rw [ht]; exact hP, va_K.moved hW.alike hK, hD⟩, hS.F ht⟩) hS.2.2 d_Co_find_47
  exact (key n0).1 hP hD hS hl h0
end
